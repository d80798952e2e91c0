section
-- ===== PART A: goes FIRST, ahead of the names: the tables' words, and 'selects' of the private methods out of them =====
/-- a private method of a class that the tables say can be made, by its rows of tables_1 -/
def lw_okq (q : MethodName × Nat) : Prop := (q.1.cls ≠ "java/lang/invoke/MethodHandle" ∧ q.1.cls ≠ "java/lang/invoke/VarHandle") ∧ Cond.instantiable q.1.cls q.2 ∈ tables_1 ∧ Cond.privateMethod q.1 ∈ tables_1 ∧ Cond.instanceMethod q.1 ∈ tables_1
theorem lw_p0 : lw_okq (⟨"SmokeHome", "finding", "(I)I"⟩, 7) := ⟨⟨by decide +kernel, by decide +kernel⟩, List.mem_of_getElem? (i := 22) (by decide +kernel), List.mem_of_getElem? (i := 248) (by decide +kernel), List.mem_of_getElem? (i := 249) (by decide +kernel)⟩
theorem lw_p1 : lw_okq (⟨"SmokeHome", "noFire", "(I)Z"⟩, 7) := ⟨⟨by decide +kernel, by decide +kernel⟩, List.mem_of_getElem? (i := 22) (by decide +kernel), List.mem_of_getElem? (i := 289) (by decide +kernel), List.mem_of_getElem? (i := 290) (by decide +kernel)⟩
theorem lw_p2 : lw_okq (⟨"SmokeHome$Town", "burnFires", "()V"⟩, 9) := ⟨⟨by decide +kernel, by decide +kernel⟩, List.mem_of_getElem? (i := 80) (by decide +kernel), List.mem_of_getElem? (i := 380) (by decide +kernel), List.mem_of_getElem? (i := 381) (by decide +kernel)⟩
theorem lw_p3 : lw_okq (⟨"SmokeHome$Town", "moveSmokes", "()V"⟩, 9) := ⟨⟨by decide +kernel, by decide +kernel⟩, List.mem_of_getElem? (i := 80) (by decide +kernel), List.mem_of_getElem? (i := 393) (by decide +kernel), List.mem_of_getElem? (i := 394) (by decide +kernel)⟩
theorem lw_p4 : lw_okq (⟨"SmokeHome$Town", "moveSmoke", "(LSmokeHome$Fire;I)V"⟩, 9) := ⟨⟨by decide +kernel, by decide +kernel⟩, List.mem_of_getElem? (i := 80) (by decide +kernel), List.mem_of_getElem? (i := 398) (by decide +kernel), List.mem_of_getElem? (i := 399) (by decide +kernel)⟩
theorem lw_p5 : lw_okq (⟨"SmokeHome$Town", "blowsAgainst", "(I)Z"⟩, 9) := ⟨⟨by decide +kernel, by decide +kernel⟩, List.mem_of_getElem? (i := 80) (by decide +kernel), List.mem_of_getElem? (i := 419) (by decide +kernel), List.mem_of_getElem? (i := 420) (by decide +kernel)⟩
theorem lw_p6 : lw_okq (⟨"SmokeHome$Town", "crossSmokes", "()V"⟩, 9) := ⟨⟨by decide +kernel, by decide +kernel⟩, List.mem_of_getElem? (i := 80) (by decide +kernel), List.mem_of_getElem? (i := 443) (by decide +kernel), List.mem_of_getElem? (i := 444) (by decide +kernel)⟩
theorem lw_p7 : lw_okq (⟨"SmokeHome$Town", "bringHome", "()V"⟩, 9) := ⟨⟨by decide +kernel, by decide +kernel⟩, List.mem_of_getElem? (i := 80) (by decide +kernel), List.mem_of_getElem? (i := 456) (by decide +kernel), List.mem_of_getElem? (i := 457) (by decide +kernel)⟩
theorem lw_p8 : lw_okq (⟨"SmokeHome", "tryWith", "(III)V"⟩, 7) := ⟨⟨by decide +kernel, by decide +kernel⟩, List.mem_of_getElem? (i := 22) (by decide +kernel), List.mem_of_getElem? (i := 524) (by decide +kernel), List.mem_of_getElem? (i := 525) (by decide +kernel)⟩
theorem lw_p9 : lw_okq (⟨"SmokeHome", "noneCrossWithout", "(II)Z"⟩, 7) := ⟨⟨by decide +kernel, by decide +kernel⟩, List.mem_of_getElem? (i := 22) (by decide +kernel), List.mem_of_getElem? (i := 550) (by decide +kernel), List.mem_of_getElem? (i := 551) (by decide +kernel)⟩
theorem lw_p10 : lw_okq (⟨"SmokeHome", "followers", "(III)I"⟩, 7) := ⟨⟨by decide +kernel, by decide +kernel⟩, List.mem_of_getElem? (i := 22) (by decide +kernel), List.mem_of_getElem? (i := 558) (by decide +kernel), List.mem_of_getElem? (i := 559) (by decide +kernel)⟩
theorem lw_p11 : lw_okq (⟨"SmokeHome$Reader", "takeToken", "()V"⟩, 6) := ⟨⟨by decide +kernel, by decide +kernel⟩, List.mem_of_getElem? (i := 172) (by decide +kernel), List.mem_of_getElem? (i := 613) (by decide +kernel), List.mem_of_getElem? (i := 614) (by decide +kernel)⟩
theorem lw_p12 : lw_okq (⟨"SmokeHome$Reader", "readItem", "(LSmokeHome$Town;)Z"⟩, 6) := ⟨⟨by decide +kernel, by decide +kernel⟩, List.mem_of_getElem? (i := 172) (by decide +kernel), List.mem_of_getElem? (i := 621) (by decide +kernel), List.mem_of_getElem? (i := 622) (by decide +kernel)⟩
theorem lw_p13 : lw_okq (⟨"SmokeHome$Reader", "isWord", "(Ljava/lang/String;)Z"⟩, 6) := ⟨⟨by decide +kernel, by decide +kernel⟩, List.mem_of_getElem? (i := 172) (by decide +kernel), List.mem_of_getElem? (i := 626) (by decide +kernel), List.mem_of_getElem? (i := 627) (by decide +kernel)⟩
theorem lw_p14 : lw_okq (⟨"SmokeHome$Reader", "readWind", "(LSmokeHome$Town;)Z"⟩, 6) := ⟨⟨by decide +kernel, by decide +kernel⟩, List.mem_of_getElem? (i := 172) (by decide +kernel), List.mem_of_getElem? (i := 678) (by decide +kernel), List.mem_of_getElem? (i := 679) (by decide +kernel)⟩
theorem lw_p15 : lw_okq (⟨"SmokeHome$Reader", "takeNumber", "(I)I"⟩, 6) := ⟨⟨by decide +kernel, by decide +kernel⟩, List.mem_of_getElem? (i := 172) (by decide +kernel), List.mem_of_getElem? (i := 682) (by decide +kernel), List.mem_of_getElem? (i := 683) (by decide +kernel)⟩
def lw_privs_1 : List (MethodName × Nat) := [(⟨"SmokeHome", "finding", "(I)I"⟩, 7), (⟨"SmokeHome", "noFire", "(I)Z"⟩, 7), (⟨"SmokeHome$Town", "burnFires", "()V"⟩, 9), (⟨"SmokeHome$Town", "moveSmokes", "()V"⟩, 9), (⟨"SmokeHome$Town", "moveSmoke", "(LSmokeHome$Fire;I)V"⟩, 9), (⟨"SmokeHome$Town", "blowsAgainst", "(I)Z"⟩, 9), (⟨"SmokeHome$Town", "crossSmokes", "()V"⟩, 9), (⟨"SmokeHome$Town", "bringHome", "()V"⟩, 9), (⟨"SmokeHome", "tryWith", "(III)V"⟩, 7), (⟨"SmokeHome", "noneCrossWithout", "(II)Z"⟩, 7), (⟨"SmokeHome", "followers", "(III)I"⟩, 7), (⟨"SmokeHome$Reader", "takeToken", "()V"⟩, 6), (⟨"SmokeHome$Reader", "readItem", "(LSmokeHome$Town;)Z"⟩, 6), (⟨"SmokeHome$Reader", "isWord", "(Ljava/lang/String;)Z"⟩, 6), (⟨"SmokeHome$Reader", "readWind", "(LSmokeHome$Town;)Z"⟩, 6), (⟨"SmokeHome$Reader", "takeNumber", "(I)I"⟩, 6)]
theorem lw_r1 : ∀ q ∈ lw_privs_1, lw_okq q := List.forall_mem_cons.mpr ⟨lw_p0, List.forall_mem_cons.mpr ⟨lw_p1, List.forall_mem_cons.mpr ⟨lw_p2, List.forall_mem_cons.mpr ⟨lw_p3, List.forall_mem_cons.mpr ⟨lw_p4, List.forall_mem_cons.mpr ⟨lw_p5, List.forall_mem_cons.mpr ⟨lw_p6, List.forall_mem_cons.mpr ⟨lw_p7, List.forall_mem_cons.mpr ⟨lw_p8, List.forall_mem_cons.mpr ⟨lw_p9, List.forall_mem_cons.mpr ⟨lw_p10, List.forall_mem_cons.mpr ⟨lw_p11, List.forall_mem_cons.mpr ⟨lw_p12, List.forall_mem_cons.mpr ⟨lw_p13, List.forall_mem_cons.mpr ⟨lw_p14, List.forall_mem_cons.mpr ⟨lw_p15, fun _ h => absurd h List.not_mem_nil⟩⟩⟩⟩⟩⟩⟩⟩⟩⟩⟩⟩⟩⟩⟩⟩
theorem lw_p16 : lw_okq (⟨"SmokeHome$Reader", "readWood", "(LSmokeHome$Town;)Z"⟩, 6) := ⟨⟨by decide +kernel, by decide +kernel⟩, List.mem_of_getElem? (i := 172) (by decide +kernel), List.mem_of_getElem? (i := 687) (by decide +kernel), List.mem_of_getElem? (i := 688) (by decide +kernel)⟩
theorem lw_p17 : lw_okq (⟨"SmokeHome$Reader", "kindTold", "(LSmokeHome$Town;)I"⟩, 6) := ⟨⟨by decide +kernel, by decide +kernel⟩, List.mem_of_getElem? (i := 172) (by decide +kernel), List.mem_of_getElem? (i := 691) (by decide +kernel), List.mem_of_getElem? (i := 692) (by decide +kernel)⟩
theorem lw_p18 : lw_okq (⟨"SmokeHome$Reader", "takePart", "(Ljava/lang/String;II)I"⟩, 6) := ⟨⟨by decide +kernel, by decide +kernel⟩, List.mem_of_getElem? (i := 172) (by decide +kernel), List.mem_of_getElem? (i := 727) (by decide +kernel), List.mem_of_getElem? (i := 728) (by decide +kernel)⟩
theorem lw_p19 : lw_okq (⟨"SmokeHomeModel", "becomes", "(II)I"⟩, 17) := ⟨⟨by decide +kernel, by decide +kernel⟩, List.mem_of_getElem? (i := 828) (by decide +kernel), List.mem_of_getElem? (i := 897) (by decide +kernel), List.mem_of_getElem? (i := 898) (by decide +kernel)⟩
theorem lw_p20 : lw_okq (⟨"SmokeHomeModel", "finds", "(I)I"⟩, 17) := ⟨⟨by decide +kernel, by decide +kernel⟩, List.mem_of_getElem? (i := 828) (by decide +kernel), List.mem_of_getElem? (i := 902) (by decide +kernel), List.mem_of_getElem? (i := 903) (by decide +kernel)⟩
theorem lw_p21 : lw_okq (⟨"SmokeHomeModel", "its", "(II)I"⟩, 17) := ⟨⟨by decide +kernel, by decide +kernel⟩, List.mem_of_getElem? (i := 828) (by decide +kernel), List.mem_of_getElem? (i := 911) (by decide +kernel), List.mem_of_getElem? (i := 912) (by decide +kernel)⟩
theorem lw_p22 : lw_okq (⟨"SmokeHomeModel", "comes", "(III)V"⟩, 17) := ⟨⟨by decide +kernel, by decide +kernel⟩, List.mem_of_getElem? (i := 828) (by decide +kernel), List.mem_of_getElem? (i := 926) (by decide +kernel), List.mem_of_getElem? (i := 927) (by decide +kernel)⟩
theorem lw_p23 : lw_okq (⟨"SmokeHomeModel", "isFire", "(I)Z"⟩, 17) := ⟨⟨by decide +kernel, by decide +kernel⟩, List.mem_of_getElem? (i := 828) (by decide +kernel), List.mem_of_getElem? (i := 937) (by decide +kernel), List.mem_of_getElem? (i := 938) (by decide +kernel)⟩
theorem lw_p24 : lw_okq (⟨"SmokeHomeModel", "burns", "(I)I"⟩, 17) := ⟨⟨by decide +kernel, by decide +kernel⟩, List.mem_of_getElem? (i := 828) (by decide +kernel), List.mem_of_getElem? (i := 942) (by decide +kernel), List.mem_of_getElem? (i := 943) (by decide +kernel)⟩
theorem lw_p25 : lw_okq (⟨"SmokeHomeModel", "steps", "(I)I"⟩, 17) := ⟨⟨by decide +kernel, by decide +kernel⟩, List.mem_of_getElem? (i := 828) (by decide +kernel), List.mem_of_getElem? (i := 946) (by decide +kernel), List.mem_of_getElem? (i := 947) (by decide +kernel)⟩
theorem lw_p26 : lw_okq (⟨"SmokeHomeModel", "goes", "(I)V"⟩, 17) := ⟨⟨by decide +kernel, by decide +kernel⟩, List.mem_of_getElem? (i := 828) (by decide +kernel), List.mem_of_getElem? (i := 967) (by decide +kernel), List.mem_of_getElem? (i := 968) (by decide +kernel)⟩
theorem lw_p27 : lw_okq (⟨"SmokeHomeModel", "hour", "()V"⟩, 17) := ⟨⟨by decide +kernel, by decide +kernel⟩, List.mem_of_getElem? (i := 828) (by decide +kernel), List.mem_of_getElem? (i := 971) (by decide +kernel), List.mem_of_getElem? (i := 972) (by decide +kernel)⟩
theorem lw_p28 : lw_okq (⟨"SmokeHomeModel", "burnsOn", "(I)V"⟩, 17) := ⟨⟨by decide +kernel, by decide +kernel⟩, List.mem_of_getElem? (i := 828) (by decide +kernel), List.mem_of_getElem? (i := 975) (by decide +kernel), List.mem_of_getElem? (i := 976) (by decide +kernel)⟩
theorem lw_p29 : lw_okq (⟨"SmokeHomeModel", "goesHome", "(I)V"⟩, 17) := ⟨⟨by decide +kernel, by decide +kernel⟩, List.mem_of_getElem? (i := 828) (by decide +kernel), List.mem_of_getElem? (i := 982) (by decide +kernel), List.mem_of_getElem? (i := 983) (by decide +kernel)⟩
theorem lw_p30 : lw_okq (⟨"SmokeHomeModel", "wayFrom", "(II)I"⟩, 17) := ⟨⟨by decide +kernel, by decide +kernel⟩, List.mem_of_getElem? (i := 828) (by decide +kernel), List.mem_of_getElem? (i := 986) (by decide +kernel), List.mem_of_getElem? (i := 987) (by decide +kernel)⟩
theorem lw_p31 : lw_okq (⟨"SmokeHomeModel", "bears", "(I)Z"⟩, 17) := ⟨⟨by decide +kernel, by decide +kernel⟩, List.mem_of_getElem? (i := 828) (by decide +kernel), List.mem_of_getElem? (i := 993) (by decide +kernel), List.mem_of_getElem? (i := 994) (by decide +kernel)⟩
def lw_privs_2 : List (MethodName × Nat) := [(⟨"SmokeHome$Reader", "readWood", "(LSmokeHome$Town;)Z"⟩, 6), (⟨"SmokeHome$Reader", "kindTold", "(LSmokeHome$Town;)I"⟩, 6), (⟨"SmokeHome$Reader", "takePart", "(Ljava/lang/String;II)I"⟩, 6), (⟨"SmokeHomeModel", "becomes", "(II)I"⟩, 17), (⟨"SmokeHomeModel", "finds", "(I)I"⟩, 17), (⟨"SmokeHomeModel", "its", "(II)I"⟩, 17), (⟨"SmokeHomeModel", "comes", "(III)V"⟩, 17), (⟨"SmokeHomeModel", "isFire", "(I)Z"⟩, 17), (⟨"SmokeHomeModel", "burns", "(I)I"⟩, 17), (⟨"SmokeHomeModel", "steps", "(I)I"⟩, 17), (⟨"SmokeHomeModel", "goes", "(I)V"⟩, 17), (⟨"SmokeHomeModel", "hour", "()V"⟩, 17), (⟨"SmokeHomeModel", "burnsOn", "(I)V"⟩, 17), (⟨"SmokeHomeModel", "goesHome", "(I)V"⟩, 17), (⟨"SmokeHomeModel", "wayFrom", "(II)I"⟩, 17), (⟨"SmokeHomeModel", "bears", "(I)Z"⟩, 17)]
theorem lw_r2 : ∀ q ∈ lw_privs_2, lw_okq q := List.forall_mem_cons.mpr ⟨lw_p16, List.forall_mem_cons.mpr ⟨lw_p17, List.forall_mem_cons.mpr ⟨lw_p18, List.forall_mem_cons.mpr ⟨lw_p19, List.forall_mem_cons.mpr ⟨lw_p20, List.forall_mem_cons.mpr ⟨lw_p21, List.forall_mem_cons.mpr ⟨lw_p22, List.forall_mem_cons.mpr ⟨lw_p23, List.forall_mem_cons.mpr ⟨lw_p24, List.forall_mem_cons.mpr ⟨lw_p25, List.forall_mem_cons.mpr ⟨lw_p26, List.forall_mem_cons.mpr ⟨lw_p27, List.forall_mem_cons.mpr ⟨lw_p28, List.forall_mem_cons.mpr ⟨lw_p29, List.forall_mem_cons.mpr ⟨lw_p30, List.forall_mem_cons.mpr ⟨lw_p31, fun _ h => absurd h List.not_mem_nil⟩⟩⟩⟩⟩⟩⟩⟩⟩⟩⟩⟩⟩⟩⟩⟩
theorem lw_p32 : lw_okq (⟨"SmokeHomeModel", "cross", "(II)V"⟩, 17) := ⟨⟨by decide +kernel, by decide +kernel⟩, List.mem_of_getElem? (i := 828) (by decide +kernel), List.mem_of_getElem? (i := 1000) (by decide +kernel), List.mem_of_getElem? (i := 1001) (by decide +kernel)⟩
theorem lw_p33 : lw_okq (⟨"SmokeHomeModel", "settles", "(I)V"⟩, 17) := ⟨⟨by decide +kernel, by decide +kernel⟩, List.mem_of_getElem? (i := 828) (by decide +kernel), List.mem_of_getElem? (i := 1004) (by decide +kernel), List.mem_of_getElem? (i := 1005) (by decide +kernel)⟩
theorem lw_p34 : lw_okq (⟨"SmokeHomeModel", "woodAll", "()I"⟩, 17) := ⟨⟨by decide +kernel, by decide +kernel⟩, List.mem_of_getElem? (i := 828) (by decide +kernel), List.mem_of_getElem? (i := 1008) (by decide +kernel), List.mem_of_getElem? (i := 1009) (by decide +kernel)⟩
theorem lw_p35 : lw_okq (⟨"SmokeHomeModel", "sumOf", "(I)I"⟩, 17) := ⟨⟨by decide +kernel, by decide +kernel⟩, List.mem_of_getElem? (i := 828) (by decide +kernel), List.mem_of_getElem? (i := 1016) (by decide +kernel), List.mem_of_getElem? (i := 1017) (by decide +kernel)⟩
theorem lw_p36 : lw_okq (⟨"SmokeHomeModel", "wooded", "()I"⟩, 17) := ⟨⟨by decide +kernel, by decide +kernel⟩, List.mem_of_getElem? (i := 828) (by decide +kernel), List.mem_of_getElem? (i := 1020) (by decide +kernel), List.mem_of_getElem? (i := 1021) (by decide +kernel)⟩
theorem lw_p37 : lw_okq (⟨"SmokeHomeModel", "smoking", "()I"⟩, 17) := ⟨⟨by decide +kernel, by decide +kernel⟩, List.mem_of_getElem? (i := 828) (by decide +kernel), List.mem_of_getElem? (i := 1024) (by decide +kernel), List.mem_of_getElem? (i := 1025) (by decide +kernel)⟩
theorem lw_p38 : lw_okq (⟨"SmokeHomeModel", "thenAt", "(II)I"⟩, 17) := ⟨⟨by decide +kernel, by decide +kernel⟩, List.mem_of_getElem? (i := 828) (by decide +kernel), List.mem_of_getElem? (i := 1033) (by decide +kernel), List.mem_of_getElem? (i := 1034) (by decide +kernel)⟩
theorem lw_p39 : lw_okq (⟨"SmokeHomeModel", "whenMore", "(I)I"⟩, 17) := ⟨⟨by decide +kernel, by decide +kernel⟩, List.mem_of_getElem? (i := 828) (by decide +kernel), List.mem_of_getElem? (i := 1053) (by decide +kernel), List.mem_of_getElem? (i := 1054) (by decide +kernel)⟩
theorem lw_p40 : lw_okq (⟨"SmokeHomeModel", "woodThen", "(I)I"⟩, 17) := ⟨⟨by decide +kernel, by decide +kernel⟩, List.mem_of_getElem? (i := 828) (by decide +kernel), List.mem_of_getElem? (i := 1066) (by decide +kernel), List.mem_of_getElem? (i := 1067) (by decide +kernel)⟩
theorem lw_p41 : lw_okq (⟨"SmokeHomeModel", "isAsked", "(II)Z"⟩, 17) := ⟨⟨by decide +kernel, by decide +kernel⟩, List.mem_of_getElem? (i := 828) (by decide +kernel), List.mem_of_getElem? (i := 1077) (by decide +kernel), List.mem_of_getElem? (i := 1078) (by decide +kernel)⟩
theorem lw_p42 : lw_okq (⟨"SmokeHomeModel", "orNone", "(I)I"⟩, 17) := ⟨⟨by decide +kernel, by decide +kernel⟩, List.mem_of_getElem? (i := 828) (by decide +kernel), List.mem_of_getElem? (i := 1093) (by decide +kernel), List.mem_of_getElem? (i := 1094) (by decide +kernel)⟩
theorem lw_p43 : lw_okq (⟨"SmokeHomeModel", "couldBe", "(III)I"⟩, 17) := ⟨⟨by decide +kernel, by decide +kernel⟩, List.mem_of_getElem? (i := 828) (by decide +kernel), List.mem_of_getElem? (i := 1109) (by decide +kernel), List.mem_of_getElem? (i := 1110) (by decide +kernel)⟩
theorem lw_p44 : lw_okq (⟨"SmokeHomeModel", "wants", "(I)I"⟩, 17) := ⟨⟨by decide +kernel, by decide +kernel⟩, List.mem_of_getElem? (i := 828) (by decide +kernel), List.mem_of_getElem? (i := 1113) (by decide +kernel), List.mem_of_getElem? (i := 1114) (by decide +kernel)⟩
theorem lw_p45 : lw_okq (⟨"SmokeHomeModel", "isTold", "(II)Z"⟩, 17) := ⟨⟨by decide +kernel, by decide +kernel⟩, List.mem_of_getElem? (i := 828) (by decide +kernel), List.mem_of_getElem? (i := 1121) (by decide +kernel), List.mem_of_getElem? (i := 1122) (by decide +kernel)⟩
theorem lw_p46 : lw_okq (⟨"SmokeHomeModel", "draw", "()I"⟩, 17) := ⟨⟨by decide +kernel, by decide +kernel⟩, List.mem_of_getElem? (i := 828) (by decide +kernel), List.mem_of_getElem? (i := 1133) (by decide +kernel), List.mem_of_getElem? (i := 1134) (by decide +kernel)⟩
theorem lw_p47 : lw_okq (⟨"SmokeHomeModel", "nextToken", "()V"⟩, 17) := ⟨⟨by decide +kernel, by decide +kernel⟩, List.mem_of_getElem? (i := 828) (by decide +kernel), List.mem_of_getElem? (i := 1160) (by decide +kernel), List.mem_of_getElem? (i := 1161) (by decide +kernel)⟩
def lw_privs_3 : List (MethodName × Nat) := [(⟨"SmokeHomeModel", "cross", "(II)V"⟩, 17), (⟨"SmokeHomeModel", "settles", "(I)V"⟩, 17), (⟨"SmokeHomeModel", "woodAll", "()I"⟩, 17), (⟨"SmokeHomeModel", "sumOf", "(I)I"⟩, 17), (⟨"SmokeHomeModel", "wooded", "()I"⟩, 17), (⟨"SmokeHomeModel", "smoking", "()I"⟩, 17), (⟨"SmokeHomeModel", "thenAt", "(II)I"⟩, 17), (⟨"SmokeHomeModel", "whenMore", "(I)I"⟩, 17), (⟨"SmokeHomeModel", "woodThen", "(I)I"⟩, 17), (⟨"SmokeHomeModel", "isAsked", "(II)Z"⟩, 17), (⟨"SmokeHomeModel", "orNone", "(I)I"⟩, 17), (⟨"SmokeHomeModel", "couldBe", "(III)I"⟩, 17), (⟨"SmokeHomeModel", "wants", "(I)I"⟩, 17), (⟨"SmokeHomeModel", "isTold", "(II)Z"⟩, 17), (⟨"SmokeHomeModel", "draw", "()I"⟩, 17), (⟨"SmokeHomeModel", "nextToken", "()V"⟩, 17)]
theorem lw_r3 : ∀ q ∈ lw_privs_3, lw_okq q := List.forall_mem_cons.mpr ⟨lw_p32, List.forall_mem_cons.mpr ⟨lw_p33, List.forall_mem_cons.mpr ⟨lw_p34, List.forall_mem_cons.mpr ⟨lw_p35, List.forall_mem_cons.mpr ⟨lw_p36, List.forall_mem_cons.mpr ⟨lw_p37, List.forall_mem_cons.mpr ⟨lw_p38, List.forall_mem_cons.mpr ⟨lw_p39, List.forall_mem_cons.mpr ⟨lw_p40, List.forall_mem_cons.mpr ⟨lw_p41, List.forall_mem_cons.mpr ⟨lw_p42, List.forall_mem_cons.mpr ⟨lw_p43, List.forall_mem_cons.mpr ⟨lw_p44, List.forall_mem_cons.mpr ⟨lw_p45, List.forall_mem_cons.mpr ⟨lw_p46, List.forall_mem_cons.mpr ⟨lw_p47, fun _ h => absurd h List.not_mem_nil⟩⟩⟩⟩⟩⟩⟩⟩⟩⟩⟩⟩⟩⟩⟩⟩
theorem lw_p48 : lw_okq (⟨"SmokeHomeModel", "byteAt", "(I)I"⟩, 17) := ⟨⟨by decide +kernel, by decide +kernel⟩, List.mem_of_getElem? (i := 828) (by decide +kernel), List.mem_of_getElem? (i := 1164) (by decide +kernel), List.mem_of_getElem? (i := 1165) (by decide +kernel)⟩
theorem lw_p49 : lw_okq (⟨"SmokeHomeModel", "itemHere", "()Z"⟩, 17) := ⟨⟨by decide +kernel, by decide +kernel⟩, List.mem_of_getElem? (i := 828) (by decide +kernel), List.mem_of_getElem? (i := 1174) (by decide +kernel), List.mem_of_getElem? (i := 1175) (by decide +kernel)⟩
theorem lw_p50 : lw_okq (⟨"SmokeHomeModel", "kindHere", "()I"⟩, 17) := ⟨⟨by decide +kernel, by decide +kernel⟩, List.mem_of_getElem? (i := 828) (by decide +kernel), List.mem_of_getElem? (i := 1178) (by decide +kernel), List.mem_of_getElem? (i := 1179) (by decide +kernel)⟩
theorem lw_p51 : lw_okq (⟨"SmokeHomeModel", "isFour", "(IIII)Z"⟩, 17) := ⟨⟨by decide +kernel, by decide +kernel⟩, List.mem_of_getElem? (i := 828) (by decide +kernel), List.mem_of_getElem? (i := 1182) (by decide +kernel), List.mem_of_getElem? (i := 1183) (by decide +kernel)⟩
theorem lw_p52 : lw_okq (⟨"SmokeHomeModel", "isWord", "(I)Z"⟩, 17) := ⟨⟨by decide +kernel, by decide +kernel⟩, List.mem_of_getElem? (i := 828) (by decide +kernel), List.mem_of_getElem? (i := 1186) (by decide +kernel), List.mem_of_getElem? (i := 1187) (by decide +kernel)⟩
theorem lw_p53 : lw_okq (⟨"SmokeHomeModel", "has3", "(IIII)Z"⟩, 17) := ⟨⟨by decide +kernel, by decide +kernel⟩, List.mem_of_getElem? (i := 828) (by decide +kernel), List.mem_of_getElem? (i := 1190) (by decide +kernel), List.mem_of_getElem? (i := 1191) (by decide +kernel)⟩
theorem lw_p54 : lw_okq (⟨"SmokeHomeModel", "isFive", "(IIIII)Z"⟩, 17) := ⟨⟨by decide +kernel, by decide +kernel⟩, List.mem_of_getElem? (i := 828) (by decide +kernel), List.mem_of_getElem? (i := 1194) (by decide +kernel), List.mem_of_getElem? (i := 1195) (by decide +kernel)⟩
theorem lw_p55 : lw_okq (⟨"SmokeHomeModel", "isSix", "(IIIIII)Z"⟩, 17) := ⟨⟨by decide +kernel, by decide +kernel⟩, List.mem_of_getElem? (i := 828) (by decide +kernel), List.mem_of_getElem? (i := 1198) (by decide +kernel), List.mem_of_getElem? (i := 1199) (by decide +kernel)⟩
theorem lw_p56 : lw_okq (⟨"SmokeHomeModel", "fireHere", "(I)Z"⟩, 17) := ⟨⟨by decide +kernel, by decide +kernel⟩, List.mem_of_getElem? (i := 828) (by decide +kernel), List.mem_of_getElem? (i := 1202) (by decide +kernel), List.mem_of_getElem? (i := 1203) (by decide +kernel)⟩
theorem lw_p57 : lw_okq (⟨"SmokeHomeModel", "fails", "()Z"⟩, 17) := ⟨⟨by decide +kernel, by decide +kernel⟩, List.mem_of_getElem? (i := 828) (by decide +kernel), List.mem_of_getElem? (i := 1206) (by decide +kernel), List.mem_of_getElem? (i := 1207) (by decide +kernel)⟩
theorem lw_p58 : lw_okq (⟨"SmokeHomeModel", "perhaps", "(ZII)Z"⟩, 17) := ⟨⟨by decide +kernel, by decide +kernel⟩, List.mem_of_getElem? (i := 828) (by decide +kernel), List.mem_of_getElem? (i := 1210) (by decide +kernel), List.mem_of_getElem? (i := 1211) (by decide +kernel)⟩
theorem lw_p59 : lw_okq (⟨"SmokeHomeModel", "isNumber", "(II)Z"⟩, 17) := ⟨⟨by decide +kernel, by decide +kernel⟩, List.mem_of_getElem? (i := 828) (by decide +kernel), List.mem_of_getElem? (i := 1214) (by decide +kernel), List.mem_of_getElem? (i := 1215) (by decide +kernel)⟩
theorem lw_p60 : lw_okq (⟨"SmokeHomeModel", "woodHere", "()Z"⟩, 17) := ⟨⟨by decide +kernel, by decide +kernel⟩, List.mem_of_getElem? (i := 828) (by decide +kernel), List.mem_of_getElem? (i := 1218) (by decide +kernel), List.mem_of_getElem? (i := 1219) (by decide +kernel)⟩
def lw_privs_4 : List (MethodName × Nat) := [(⟨"SmokeHomeModel", "byteAt", "(I)I"⟩, 17), (⟨"SmokeHomeModel", "itemHere", "()Z"⟩, 17), (⟨"SmokeHomeModel", "kindHere", "()I"⟩, 17), (⟨"SmokeHomeModel", "isFour", "(IIII)Z"⟩, 17), (⟨"SmokeHomeModel", "isWord", "(I)Z"⟩, 17), (⟨"SmokeHomeModel", "has3", "(IIII)Z"⟩, 17), (⟨"SmokeHomeModel", "isFive", "(IIIII)Z"⟩, 17), (⟨"SmokeHomeModel", "isSix", "(IIIIII)Z"⟩, 17), (⟨"SmokeHomeModel", "fireHere", "(I)Z"⟩, 17), (⟨"SmokeHomeModel", "fails", "()Z"⟩, 17), (⟨"SmokeHomeModel", "perhaps", "(ZII)Z"⟩, 17), (⟨"SmokeHomeModel", "isNumber", "(II)Z"⟩, 17), (⟨"SmokeHomeModel", "woodHere", "()Z"⟩, 17)]
theorem lw_r4 : ∀ q ∈ lw_privs_4, lw_okq q := List.forall_mem_cons.mpr ⟨lw_p48, List.forall_mem_cons.mpr ⟨lw_p49, List.forall_mem_cons.mpr ⟨lw_p50, List.forall_mem_cons.mpr ⟨lw_p51, List.forall_mem_cons.mpr ⟨lw_p52, List.forall_mem_cons.mpr ⟨lw_p53, List.forall_mem_cons.mpr ⟨lw_p54, List.forall_mem_cons.mpr ⟨lw_p55, List.forall_mem_cons.mpr ⟨lw_p56, List.forall_mem_cons.mpr ⟨lw_p57, List.forall_mem_cons.mpr ⟨lw_p58, List.forall_mem_cons.mpr ⟨lw_p59, List.forall_mem_cons.mpr ⟨lw_p60, fun _ h => absurd h List.not_mem_nil⟩⟩⟩⟩⟩⟩⟩⟩⟩⟩⟩⟩⟩
def lw_privs : List (MethodName × Nat) := lw_privs_1 ++ (lw_privs_2 ++ (lw_privs_3 ++ (lw_privs_4)))
def lw_tbl : List Cond := k2_sels lw_privs ++ tables_1
theorem lw_privs_ok : ∀ q ∈ lw_privs, lw_okq q := by
  show ∀ q ∈ lw_privs_1 ++ (lw_privs_2 ++ (lw_privs_3 ++ (lw_privs_4))), lw_okq q
  exact List.forall_mem_append.mpr ⟨lw_r1, List.forall_mem_append.mpr ⟨lw_r2, List.forall_mem_append.mpr ⟨lw_r3, lw_r4⟩⟩⟩
-- ===== end of PART A; then your names; then what follows =====
end
section
def RX0 : String := "SmokeHome$Bed"
def TX0 : u_T := fun k => match k with
  | _ => ("", "", "", false)
def tyX0 : Nat → FieldType := fun k => match k with
  | _ => .int
abbrev wsX00 : List Cond := u_ws RX0 TX0 0
theorem nmX0 : ∀ a, a < 0 → ∀ b, b < 0 → a ≠ b → (TX0 a).2.1 ≠ (TX0 b).2.1 := by decide +kernel
theorem tyX0_ok : ∀ k, k < 0 → parseFieldDescriptor (TX0 k).2.2.1 = some (tyX0 k) := by decide +kernel
abbrev cX0_init : ByteArray := prog_2_method_1_code
def yX0_init : MethodName := ⟨RX0, "<init>", "()V"⟩
abbrev cX0_burns : ByteArray := prog_2_method_2_code
def yX0_burns : MethodName := ⟨RX0, "burns", "(I)I"⟩
abbrev cX0_steps : ByteArray := prog_2_method_3_code
def yX0_steps : MethodName := ⟨RX0, "steps", "(II)I"⟩
abbrev cX0_isUnder : ByteArray := prog_2_method_4_code
def yX0_isUnder : MethodName := ⟨RX0, "isUnder", "(I)Z"⟩
abbrev cX0_word : ByteArray := prog_2_method_5_code
def yX0_word : MethodName := ⟨RX0, "word", "()Ljava/lang/String;"⟩
def RX1 : String := "SmokeHome$Fire"
def TX1 : u_T := fun k => match k with
  | 0 => ("SmokeHome$Fire", "kind", "I", false)
  | 1 => ("SmokeHome$Fire", "chimney", "I", false)
  | 2 => ("SmokeHome$Fire", "home", "I", false)
  | 3 => ("SmokeHome$Fire", "logs", "I", false)
  | 4 => ("SmokeHome$Fire", "at", "I", false)
  | 5 => ("SmokeHome$Fire", "much", "I", false)
  | 6 => ("SmokeHome$Fire", "waited", "I", false)
  | _ => ("SmokeHome$Fire", "began", "I", false)
def tyX1 : Nat → FieldType := fun k => match k with
  | 0 => .int
  | 1 => .int
  | 2 => .int
  | 3 => .int
  | 4 => .int
  | 5 => .int
  | 6 => .int
  | _ => .int
abbrev wsX10 : List Cond := u_ws RX1 TX1 8
theorem nmX1 : ∀ a, a < 8 → ∀ b, b < 8 → a ≠ b → (TX1 a).2.1 ≠ (TX1 b).2.1 := by decide +kernel
theorem tyX1_ok : ∀ k, k < 8 → parseFieldDescriptor (TX1 k).2.2.1 = some (tyX1 k) := by decide +kernel
abbrev cX1_init : ByteArray := prog_3_method_1_code
def yX1_init : MethodName := ⟨RX1, "<init>", "()V"⟩
abbrev cX1_become : ByteArray := prog_3_method_2_code
def yX1_become : MethodName := ⟨RX1, "become", "(LSmokeHome$Fire;)V"⟩
abbrev cX1_value : ByteArray := prog_3_method_3_code
def yX1_value : MethodName := ⟨RX1, "value", "(I)I"⟩
abbrev cX1_put : ByteArray := prog_3_method_4_code
def yX1_put : MethodName := ⟨RX1, "put", "(II)V"⟩
abbrev cX1_stepsFromHome : ByteArray := prog_3_method_5_code
def yX1_stepsFromHome : MethodName := ⟨RX1, "stepsFromHome", "()I"⟩
abbrev cX1_burn : ByteArray := prog_3_method_6_code
def yX1_burn : MethodName := ⟨RX1, "burn", "(I)V"⟩
abbrev cX1_nextWay : ByteArray := prog_3_method_7_code
def yX1_nextWay : MethodName := ⟨RX1, "nextWay", "(Z)I"⟩
abbrev cX1_step : ByteArray := prog_3_method_8_code
def yX1_step : MethodName := ⟨RX1, "step", "(I)V"⟩
abbrev cX1_crossesWith : ByteArray := prog_3_method_9_code
def yX1_crossesWith : MethodName := ⟨RX1, "crossesWith", "(LSmokeHome$Fire;)Z"⟩
abbrev cX1_exchangeWith : ByteArray := prog_3_method_10_code
def yX1_exchangeWith : MethodName := ⟨RX1, "exchangeWith", "(LSmokeHome$Fire;)V"⟩
def RX2 : String := "SmokeHome$Foreign"
def TX2 : u_T := fun k => match k with
  | _ => ("", "", "", false)
def tyX2 : Nat → FieldType := fun k => match k with
  | _ => .int
abbrev wsX20 : List Cond := u_ws RX2 TX2 0
theorem nmX2 : ∀ a, a < 0 → ∀ b, b < 0 → a ≠ b → (TX2 a).2.1 ≠ (TX2 b).2.1 := by decide +kernel
theorem tyX2_ok : ∀ k, k < 0 → parseFieldDescriptor (TX2 k).2.2.1 = some (tyX2 k) := by decide +kernel
abbrev cX2_init : ByteArray := prog_4_method_1_code
def yX2_init : MethodName := ⟨RX2, "<init>", "()V"⟩
abbrev cX2_bears : ByteArray := prog_4_method_2_code
def yX2_bears : MethodName := ⟨RX2, "bears", "(I)Z"⟩
abbrev cX2_isUnder : ByteArray := prog_4_method_3_code
def yX2_isUnder : MethodName := ⟨RX2, "isUnder", "(I)Z"⟩
abbrev cX2_word : ByteArray := prog_4_method_4_code
def yX2_word : MethodName := ⟨RX2, "word", "()Ljava/lang/String;"⟩
def RX3 : String := "SmokeHome$Jar"
def TX3 : u_T := fun k => match k with
  | _ => ("", "", "", false)
def tyX3 : Nat → FieldType := fun k => match k with
  | _ => .int
abbrev wsX30 : List Cond := u_ws RX3 TX3 0
theorem nmX3 : ∀ a, a < 0 → ∀ b, b < 0 → a ≠ b → (TX3 a).2.1 ≠ (TX3 b).2.1 := by decide +kernel
theorem tyX3_ok : ∀ k, k < 0 → parseFieldDescriptor (TX3 k).2.2.1 = some (tyX3 k) := by decide +kernel
abbrev cX3_init : ByteArray := prog_5_method_1_code
def yX3_init : MethodName := ⟨RX3, "<init>", "()V"⟩
abbrev cX3_steps : ByteArray := prog_5_method_2_code
def yX3_steps : MethodName := ⟨RX3, "steps", "(II)I"⟩
abbrev cX3_bears : ByteArray := prog_5_method_3_code
def yX3_bears : MethodName := ⟨RX3, "bears", "(I)Z"⟩
abbrev cX3_isUnder : ByteArray := prog_5_method_4_code
def yX3_isUnder : MethodName := ⟨RX3, "isUnder", "(I)Z"⟩
abbrev cX3_word : ByteArray := prog_5_method_5_code
def yX3_word : MethodName := ⟨RX3, "word", "()Ljava/lang/String;"⟩
def RX4 : String := "SmokeHome$Kind"
def TX4 : u_T := fun k => match k with
  | _ => ("", "", "", false)
def tyX4 : Nat → FieldType := fun k => match k with
  | _ => .int
abbrev wsX40 : List Cond := u_ws RX4 TX4 0
theorem nmX4 : ∀ a, a < 0 → ∀ b, b < 0 → a ≠ b → (TX4 a).2.1 ≠ (TX4 b).2.1 := by decide +kernel
theorem tyX4_ok : ∀ k, k < 0 → parseFieldDescriptor (TX4 k).2.2.1 = some (tyX4 k) := by decide +kernel
abbrev cX4_init : ByteArray := prog_6_method_1_code
def yX4_init : MethodName := ⟨RX4, "<init>", "()V"⟩
abbrev cX4_burns : ByteArray := prog_6_method_2_code
def yX4_burns : MethodName := ⟨RX4, "burns", "(I)I"⟩
abbrev cX4_steps : ByteArray := prog_6_method_3_code
def yX4_steps : MethodName := ⟨RX4, "steps", "(II)I"⟩
abbrev cX4_bears : ByteArray := prog_6_method_4_code
def yX4_bears : MethodName := ⟨RX4, "bears", "(I)Z"⟩
abbrev cX4_goesSidewaysFirst : ByteArray := prog_6_method_5_code
def yX4_goesSidewaysFirst : MethodName := ⟨RX4, "goesSidewaysFirst", "()Z"⟩
abbrev cX4_isUnder : ByteArray := prog_6_method_6_code
def yX4_isUnder : MethodName := ⟨RX4, "isUnder", "(I)Z"⟩
abbrev cX4_word : ByteArray := prog_6_method_7_code
def yX4_word : MethodName := ⟨RX4, "word", "()Ljava/lang/String;"⟩
def RX5 : String := "SmokeHome$Poor"
def TX5 : u_T := fun k => match k with
  | _ => ("", "", "", false)
def tyX5 : Nat → FieldType := fun k => match k with
  | _ => .int
abbrev wsX50 : List Cond := u_ws RX5 TX5 0
theorem nmX5 : ∀ a, a < 0 → ∀ b, b < 0 → a ≠ b → (TX5 a).2.1 ≠ (TX5 b).2.1 := by decide +kernel
theorem tyX5_ok : ∀ k, k < 0 → parseFieldDescriptor (TX5 k).2.2.1 = some (tyX5 k) := by decide +kernel
abbrev cX5_init : ByteArray := prog_7_method_1_code
def yX5_init : MethodName := ⟨RX5, "<init>", "()V"⟩
abbrev cX5_burns : ByteArray := prog_7_method_2_code
def yX5_burns : MethodName := ⟨RX5, "burns", "(I)I"⟩
abbrev cX5_steps : ByteArray := prog_7_method_3_code
def yX5_steps : MethodName := ⟨RX5, "steps", "(II)I"⟩
abbrev cX5_goesSidewaysFirst : ByteArray := prog_7_method_4_code
def yX5_goesSidewaysFirst : MethodName := ⟨RX5, "goesSidewaysFirst", "()Z"⟩
abbrev cX5_isUnder : ByteArray := prog_7_method_5_code
def yX5_isUnder : MethodName := ⟨RX5, "isUnder", "(I)Z"⟩
abbrev cX5_word : ByteArray := prog_7_method_6_code
def yX5_word : MethodName := ⟨RX5, "word", "()Ljava/lang/String;"⟩
def RX6 : String := "SmokeHome$Priest"
def TX6 : u_T := fun k => match k with
  | _ => ("", "", "", false)
def tyX6 : Nat → FieldType := fun k => match k with
  | _ => .int
abbrev wsX60 : List Cond := u_ws RX6 TX6 0
theorem nmX6 : ∀ a, a < 0 → ∀ b, b < 0 → a ≠ b → (TX6 a).2.1 ≠ (TX6 b).2.1 := by decide +kernel
theorem tyX6_ok : ∀ k, k < 0 → parseFieldDescriptor (TX6 k).2.2.1 = some (tyX6 k) := by decide +kernel
abbrev cX6_init : ByteArray := prog_8_method_1_code
def yX6_init : MethodName := ⟨RX6, "<init>", "()V"⟩
abbrev cX6_burns : ByteArray := prog_8_method_2_code
def yX6_burns : MethodName := ⟨RX6, "burns", "(I)I"⟩
abbrev cX6_steps : ByteArray := prog_8_method_3_code
def yX6_steps : MethodName := ⟨RX6, "steps", "(II)I"⟩
abbrev cX6_isUnder : ByteArray := prog_8_method_4_code
def yX6_isUnder : MethodName := ⟨RX6, "isUnder", "(I)Z"⟩
abbrev cX6_word : ByteArray := prog_8_method_5_code
def yX6_word : MethodName := ⟨RX6, "word", "()Ljava/lang/String;"⟩
def RX7 : String := "SmokeHome$Reader"
def TX7 : u_T := fun k => match k with
  | 0 => ("SmokeHome$Reader", "tape", "[B", true)
  | 1 => ("SmokeHome$Reader", "size", "I", false)
  | 2 => ("SmokeHome$Reader", "token", "I", false)
  | 3 => ("SmokeHome$Reader", "start", "I", false)
  | 4 => ("SmokeHome$Reader", "next", "I", false)
  | _ => ("SmokeHome$Reader", "number", "I", false)
def tyX7 : Nat → FieldType := fun k => match k with
  | 0 => .array .byte
  | 1 => .int
  | 2 => .int
  | 3 => .int
  | 4 => .int
  | _ => .int
abbrev wsX70 : List Cond := u_ws RX7 TX7 6
theorem nmX7 : ∀ a, a < 6 → ∀ b, b < 6 → a ≠ b → (TX7 a).2.1 ≠ (TX7 b).2.1 := by decide +kernel
theorem tyX7_ok : ∀ k, k < 6 → parseFieldDescriptor (TX7 k).2.2.1 = some (tyX7 k) := by decide +kernel
abbrev cX7_init : ByteArray := prog_9_method_1_code
def yX7_init : MethodName := ⟨RX7, "<init>", "()V"⟩
abbrev cX7_put : ByteArray := prog_9_method_2_code
def yX7_put : MethodName := ⟨RX7, "put", "(I)V"⟩
abbrev cX7_readInto : ByteArray := prog_9_method_3_code
def yX7_readInto : MethodName := ⟨RX7, "readInto", "(LSmokeHome$Town;)I"⟩
abbrev cX7_readItem : ByteArray := prog_9_method_4_code
def yX7_readItem : MethodName := ⟨RX7, "readItem", "(LSmokeHome$Town;)Z"⟩
abbrev cX7_kindTold : ByteArray := prog_9_method_5_code
def yX7_kindTold : MethodName := ⟨RX7, "kindTold", "(LSmokeHome$Town;)I"⟩
abbrev cX7_readWind : ByteArray := prog_9_method_6_code
def yX7_readWind : MethodName := ⟨RX7, "readWind", "(LSmokeHome$Town;)Z"⟩
abbrev cX7_readWood : ByteArray := prog_9_method_7_code
def yX7_readWood : MethodName := ⟨RX7, "readWood", "(LSmokeHome$Town;)Z"⟩
abbrev cX7_takePart : ByteArray := prog_9_method_8_code
def yX7_takePart : MethodName := ⟨RX7, "takePart", "(Ljava/lang/String;II)I"⟩
abbrev cX7_takeNumber : ByteArray := prog_9_method_9_code
def yX7_takeNumber : MethodName := ⟨RX7, "takeNumber", "(I)I"⟩
abbrev cX7_isWord : ByteArray := prog_9_method_10_code
def yX7_isWord : MethodName := ⟨RX7, "isWord", "(Ljava/lang/String;)Z"⟩
abbrev cX7_takeToken : ByteArray := prog_9_method_11_code
def yX7_takeToken : MethodName := ⟨RX7, "takeToken", "()V"⟩
abbrev cX7_tokenOf : ByteArray := prog_9_method_12_code
def yX7_tokenOf : MethodName := ⟨RX7, "tokenOf", "(I)I"⟩
def RX8 : String := "SmokeHome$Sheet"
def TX8 : u_T := fun k => match k with
  | 0 => ("SmokeHome$Sheet", "numbers", "[I", true)
  | 1 => ("SmokeHome$Sheet", "bits", "I", false)
  | _ => ("SmokeHome$Sheet", "size", "I", false)
def tyX8 : Nat → FieldType := fun k => match k with
  | 0 => .array .int
  | 1 => .int
  | _ => .int
abbrev wsX80 : List Cond := u_ws RX8 TX8 3
theorem nmX8 : ∀ a, a < 3 → ∀ b, b < 3 → a ≠ b → (TX8 a).2.1 ≠ (TX8 b).2.1 := by decide +kernel
theorem tyX8_ok : ∀ k, k < 3 → parseFieldDescriptor (TX8 k).2.2.1 = some (tyX8 k) := by decide +kernel
abbrev cX8_init : ByteArray := prog_10_method_1_code
def yX8_init : MethodName := ⟨RX8, "<init>", "()V"⟩
abbrev cX8_isMissing : ByteArray := prog_10_method_2_code
def yX8_isMissing : MethodName := ⟨RX8, "isMissing", "()Z"⟩
abbrev cX8_has : ByteArray := prog_10_method_3_code
def yX8_has : MethodName := ⟨RX8, "has", "(II)Z"⟩
abbrev cX8_allows : ByteArray := prog_10_method_4_code
def yX8_allows : MethodName := ⟨RX8, "allows", "(II)Z"⟩
abbrev cX8_begin : ByteArray := prog_10_method_5_code
def yX8_begin : MethodName := ⟨RX8, "begin", "(II)V"⟩
abbrev cX8_put : ByteArray := prog_10_method_6_code
def yX8_put : MethodName := ⟨RX8, "put", "(II)V"⟩
def RX9 : String := "SmokeHome$Stove"
def TX9 : u_T := fun k => match k with
  | _ => ("", "", "", false)
def tyX9 : Nat → FieldType := fun k => match k with
  | _ => .int
abbrev wsX90 : List Cond := u_ws RX9 TX9 0
theorem nmX9 : ∀ a, a < 0 → ∀ b, b < 0 → a ≠ b → (TX9 a).2.1 ≠ (TX9 b).2.1 := by decide +kernel
theorem tyX9_ok : ∀ k, k < 0 → parseFieldDescriptor (TX9 k).2.2.1 = some (tyX9 k) := by decide +kernel
abbrev cX9_init : ByteArray := prog_11_method_1_code
def yX9_init : MethodName := ⟨RX9, "<init>", "()V"⟩
abbrev cX9_burns : ByteArray := prog_11_method_2_code
def yX9_burns : MethodName := ⟨RX9, "burns", "(I)I"⟩
abbrev cX9_steps : ByteArray := prog_11_method_3_code
def yX9_steps : MethodName := ⟨RX9, "steps", "(II)I"⟩
abbrev cX9_isUnder : ByteArray := prog_11_method_4_code
def yX9_isUnder : MethodName := ⟨RX9, "isUnder", "(I)Z"⟩
abbrev cX9_word : ByteArray := prog_11_method_5_code
def yX9_word : MethodName := ⟨RX9, "word", "()Ljava/lang/String;"⟩
def RX10 : String := "SmokeHome$Town"
def TX10 : u_T := fun k => match k with
  | 0 => ("SmokeHome$Town", "types", "[LSmokeHome$Kind;", true)
  | 1 => ("SmokeHome$Town", "woods", "[I", true)
  | 2 => ("SmokeHome$Town", "fires", "[LSmokeHome$Fire;", true)
  | 3 => ("SmokeHome$Town", "spots", "[I", true)
  | 4 => ("SmokeHome$Town", "lit", "I", false)
  | 5 => ("SmokeHome$Town", "blows", "I", false)
  | 6 => ("SmokeHome$Town", "crossed", "I", false)
  | 7 => ("SmokeHome$Town", "hour", "I", false)
  | _ => ("SmokeHome$Town", "z", "I", false)
def tyX10 : Nat → FieldType := fun k => match k with
  | 0 => .array (.object "SmokeHome$Kind")
  | 1 => .array .int
  | 2 => .array (.object "SmokeHome$Fire")
  | 3 => .array .int
  | 4 => .int
  | 5 => .int
  | 6 => .int
  | 7 => .int
  | _ => .int
abbrev wsX100 : List Cond := u_ws RX10 TX10 9
theorem nmX10 : ∀ a, a < 9 → ∀ b, b < 9 → a ≠ b → (TX10 a).2.1 ≠ (TX10 b).2.1 := by decide +kernel
theorem tyX10_ok : ∀ k, k < 9 → parseFieldDescriptor (TX10 k).2.2.1 = some (tyX10 k) := by decide +kernel
abbrev cX10_init : ByteArray := prog_12_method_1_code
def yX10_init : MethodName := ⟨RX10, "<init>", "([LSmokeHome$Kind;)V"⟩
abbrev cX10_become : ByteArray := prog_12_method_2_code
def yX10_become : MethodName := ⟨RX10, "become", "(LSmokeHome$Town;)V"⟩
abbrev cX10_isFull : ByteArray := prog_12_method_3_code
def yX10_isFull : MethodName := ⟨RX10, "isFull", "()Z"⟩
abbrev cX10_light : ByteArray := prog_12_method_4_code
def yX10_light : MethodName := ⟨RX10, "light", "(IIII)I"⟩
abbrev cX10_kindOf : ByteArray := prog_12_method_5_code
def yX10_kindOf : MethodName := ⟨RX10, "kindOf", "(LSmokeHome$Fire;)LSmokeHome$Kind;"⟩
abbrev cX10_draw : ByteArray := prog_12_method_6_code
def yX10_draw : MethodName := ⟨RX10, "draw", "()I"⟩
abbrev cX10_passHours : ByteArray := prog_12_method_7_code
def yX10_passHours : MethodName := ⟨RX10, "passHours", "(I)V"⟩
abbrev cX10_passHour : ByteArray := prog_12_method_8_code
def yX10_passHour : MethodName := ⟨RX10, "passHour", "()V"⟩
abbrev cX10_burnFires : ByteArray := prog_12_method_9_code
def yX10_burnFires : MethodName := ⟨RX10, "burnFires", "()V"⟩
abbrev cX10_moveSmokes : ByteArray := prog_12_method_10_code
def yX10_moveSmokes : MethodName := ⟨RX10, "moveSmokes", "()V"⟩
abbrev cX10_moveSmoke : ByteArray := prog_12_method_11_code
def yX10_moveSmoke : MethodName := ⟨RX10, "moveSmoke", "(LSmokeHome$Fire;I)V"⟩
abbrev cX10_blowsAgainst : ByteArray := prog_12_method_12_code
def yX10_blowsAgainst : MethodName := ⟨RX10, "blowsAgainst", "(I)Z"⟩
abbrev cX10_crossSmokes : ByteArray := prog_12_method_13_code
def yX10_crossSmokes : MethodName := ⟨RX10, "crossSmokes", "()V"⟩
abbrev cX10_bringHome : ByteArray := prog_12_method_14_code
def yX10_bringHome : MethodName := ⟨RX10, "bringHome", "()V"⟩
abbrev cX10_allWood : ByteArray := prog_12_method_15_code
def yX10_allWood : MethodName := ⟨RX10, "allWood", "()I"⟩
abbrev cX10_allSmoke : ByteArray := prog_12_method_16_code
def yX10_allSmoke : MethodName := ⟨RX10, "allSmoke", "()I"⟩
abbrev cX10_allLogs : ByteArray := prog_12_method_17_code
def yX10_allLogs : MethodName := ⟨RX10, "allLogs", "()I"⟩
abbrev cX10_cellsWithWood : ByteArray := prog_12_method_18_code
def yX10_cellsWithWood : MethodName := ⟨RX10, "cellsWithWood", "()I"⟩
abbrev cX10_firesSmoking : ByteArray := prog_12_method_19_code
def yX10_firesSmoking : MethodName := ⟨RX10, "firesSmoking", "()I"⟩
abbrev cX10_firesSmokingAt : ByteArray := prog_12_method_20_code
def yX10_firesSmokingAt : MethodName := ⟨RX10, "firesSmokingAt", "(I)I"⟩
abbrev cX10_firesBuiltAt : ByteArray := prog_12_method_21_code
def yX10_firesBuiltAt : MethodName := ⟨RX10, "firesBuiltAt", "(I)I"⟩
abbrev cX10_firesAtHomeIn : ByteArray := prog_12_method_22_code
def yX10_firesAtHomeIn : MethodName := ⟨RX10, "firesAtHomeIn", "(I)I"⟩
abbrev cX10_spotsThatHold : ByteArray := prog_12_method_23_code
def yX10_spotsThatHold : MethodName := ⟨RX10, "spotsThatHold", "()I"⟩
def RX11 : String := "SmokeHome"
def TX11 : u_T := fun k => match k with
  | 0 => ("SmokeHome", "town", "LSmokeHome$Town;", true)
  | 1 => ("SmokeHome", "trial", "LSmokeHome$Town;", true)
  | 2 => ("SmokeHome", "kept", "LSmokeHome$Town;", true)
  | 3 => ("SmokeHome", "reader", "LSmokeHome$Reader;", true)
  | 4 => ("SmokeHome", "sheets", "[LSmokeHome$Sheet;", true)
  | 5 => ("SmokeHome", "findings", "[I", true)
  | _ => ("SmokeHome", "isKept", "Z", false)
def tyX11 : Nat → FieldType := fun k => match k with
  | 0 => .object "SmokeHome$Town"
  | 1 => .object "SmokeHome$Town"
  | 2 => .object "SmokeHome$Town"
  | 3 => .object "SmokeHome$Reader"
  | 4 => .array (.object "SmokeHome$Sheet")
  | 5 => .array .int
  | _ => .boolean
abbrev wsX110 : List Cond := u_ws RX11 TX11 7
theorem nmX11 : ∀ a, a < 7 → ∀ b, b < 7 → a ≠ b → (TX11 a).2.1 ≠ (TX11 b).2.1 := by decide +kernel
theorem tyX11_ok : ∀ k, k < 7 → parseFieldDescriptor (TX11 k).2.2.1 = some (tyX11 k) := by decide +kernel
abbrev cX11_init : ByteArray := prog_1_method_1_code
def yX11_init : MethodName := ⟨RX11, "<init>", "()V"⟩
abbrev cX11_wood : ByteArray := prog_1_method_2_code
def yX11_wood : MethodName := ⟨RX11, "wood", "(II)I"⟩
abbrev cX11_cell : ByteArray := prog_1_method_3_code
def yX11_cell : MethodName := ⟨RX11, "cell", "(II)I"⟩
abbrev cX11_wind : ByteArray := prog_1_method_4_code
def yX11_wind : MethodName := ⟨RX11, "wind", "(I)I"⟩
abbrev cX11_fire : ByteArray := prog_1_method_5_code
def yX11_fire : MethodName := ⟨RX11, "fire", "(III)I"⟩
abbrev cX11_of : ByteArray := prog_1_method_6_code
def yX11_of : MethodName := ⟨RX11, "of", "(II)I"⟩
abbrev cX11_change : ByteArray := prog_1_method_7_code
def yX11_change : MethodName := ⟨RX11, "change", "(III)I"⟩
abbrev cX11_go : ByteArray := prog_1_method_8_code
def yX11_go : MethodName := ⟨RX11, "go", "(I)I"⟩
abbrev cX11_now : ByteArray := prog_1_method_9_code
def yX11_now : MethodName := ⟨RX11, "now", "(I)I"⟩
abbrev cX11_ahead : ByteArray := prog_1_method_10_code
def yX11_ahead : MethodName := ⟨RX11, "ahead", "(III)I"⟩
abbrev cX11_grown : ByteArray := prog_1_method_11_code
def yX11_grown : MethodName := ⟨RX11, "grown", "(II)I"⟩
abbrev cX11_when : ByteArray := prog_1_method_12_code
def yX11_when : MethodName := ⟨RX11, "when", "(II)I"⟩
abbrev cX11_stuck : ByteArray := prog_1_method_13_code
def yX11_stuck : MethodName := ⟨RX11, "stuck", "(I)I"⟩
abbrev cX11_crosses : ByteArray := prog_1_method_14_code
def yX11_crosses : MethodName := ⟨RX11, "crosses", "()I"⟩
abbrev cX11_windFor : ByteArray := prog_1_method_15_code
def yX11_windFor : MethodName := ⟨RX11, "windFor", "(I)I"⟩
abbrev cX11_homeFor : ByteArray := prog_1_method_16_code
def yX11_homeFor : MethodName := ⟨RX11, "homeFor", "(III)I"⟩
abbrev cX11_build : ByteArray := prog_1_method_17_code
def yX11_build : MethodName := ⟨RX11, "build", "(II)I"⟩
abbrev cX11_kindFor : ByteArray := prog_1_method_18_code
def yX11_kindFor : MethodName := ⟨RX11, "kindFor", "(II)I"⟩
abbrev cX11_logsFor : ByteArray := prog_1_method_19_code
def yX11_logsFor : MethodName := ⟨RX11, "logsFor", "(IIII)I"⟩
abbrev cX11_quench : ByteArray := prog_1_method_20_code
def yX11_quench : MethodName := ⟨RX11, "quench", "(I)I"⟩
abbrev cX11_noneCrossWithout : ByteArray := prog_1_method_21_code
def yX11_noneCrossWithout : MethodName := ⟨RX11, "noneCrossWithout", "(II)Z"⟩
abbrev cX11_fits : ByteArray := prog_1_method_22_code
def yX11_fits : MethodName := ⟨RX11, "fits", "(II)I"⟩
abbrev cX11_kinds : ByteArray := prog_1_method_23_code
def yX11_kinds : MethodName := ⟨RX11, "kinds", "(II)I"⟩
abbrev cX11_followers : ByteArray := prog_1_method_24_code
def yX11_followers : MethodName := ⟨RX11, "followers", "(III)I"⟩
abbrev cX11_winds : ByteArray := prog_1_method_25_code
def yX11_winds : MethodName := ⟨RX11, "winds", "(I)I"⟩
abbrev cX11_odds : ByteArray := prog_1_method_26_code
def yX11_odds : MethodName := ⟨RX11, "odds", "(III)J"⟩
abbrev cX11_seed : ByteArray := prog_1_method_27_code
def yX11_seed : MethodName := ⟨RX11, "seed", "(I)I"⟩
abbrev cX11_feed : ByteArray := prog_1_method_28_code
def yX11_feed : MethodName := ⟨RX11, "feed", "(II)I"⟩
abbrev cX11_wipe : ByteArray := prog_1_method_29_code
def yX11_wipe : MethodName := ⟨RX11, "wipe", "()I"⟩
abbrev cX11_text : ByteArray := prog_1_method_30_code
def yX11_text : MethodName := ⟨RX11, "text", "()I"⟩
abbrev cX11_hold : ByteArray := prog_1_method_31_code
def yX11_hold : MethodName := ⟨RX11, "hold", "(II)I"⟩
abbrev cX11_as : ByteArray := prog_1_method_32_code
def yX11_as : MethodName := ⟨RX11, "as", "(II)I"⟩
abbrev cX11_sheet : ByteArray := prog_1_method_33_code
def yX11_sheet : MethodName := ⟨RX11, "sheet", "(III)I"⟩
abbrev cX11_write : ByteArray := prog_1_method_34_code
def yX11_write : MethodName := ⟨RX11, "write", "(III)I"⟩
abbrev cX11_copy : ByteArray := prog_1_method_35_code
def yX11_copy : MethodName := ⟨RX11, "copy", "(IIIII)I"⟩
abbrev cX11_load : ByteArray := prog_1_method_36_code
def yX11_load : MethodName := ⟨RX11, "load", "(I)I"⟩
abbrev cX11_judge : ByteArray := prog_1_method_37_code
def yX11_judge : MethodName := ⟨RX11, "judge", "(I)I"⟩
abbrev cX11_image : ByteArray := prog_1_method_38_code
def yX11_image : MethodName := ⟨RX11, "image", "()I"⟩
abbrev cX11_undo : ByteArray := prog_1_method_39_code
def yX11_undo : MethodName := ⟨RX11, "undo", "()I"⟩
abbrev cX11_tear : ByteArray := prog_1_method_40_code
def yX11_tear : MethodName := ⟨RX11, "tear", "()I"⟩
abbrev cX11_count : ByteArray := prog_1_method_41_code
def yX11_count : MethodName := ⟨RX11, "count", "(I)I"⟩
abbrev cX11_status : ByteArray := prog_1_method_42_code
def yX11_status : MethodName := ⟨RX11, "status", "(I)I"⟩
abbrev cX11_finding : ByteArray := prog_1_method_43_code
def yX11_finding : MethodName := ⟨RX11, "finding", "(I)I"⟩
abbrev cX11_outside : ByteArray := prog_1_method_44_code
def yX11_outside : MethodName := ⟨RX11, "outside", "(II)Z"⟩
abbrev cX11_noFire : ByteArray := prog_1_method_45_code
def yX11_noFire : MethodName := ⟨RX11, "noFire", "(I)Z"⟩
abbrev cX11_mostOf : ByteArray := prog_1_method_46_code
def yX11_mostOf : MethodName := ⟨RX11, "mostOf", "(I)I"⟩
abbrev cX11_tryWith : ByteArray := prog_1_method_47_code
def yX11_tryWith : MethodName := ⟨RX11, "tryWith", "(III)V"⟩
def RX12 : String := "SmokeHomeModel"
def TX12 : u_T := fun k => match k with
  | 0 => ("SmokeHomeModel", "s", "[I", true)
  | 1 => ("SmokeHomeModel", "kept", "[I", true)
  | 2 => ("SmokeHomeModel", "before", "[I", true)
  | 3 => ("SmokeHomeModel", "aside", "[I", true)
  | 4 => ("SmokeHomeModel", "isKept", "Z", false)
  | 5 => ("SmokeHomeModel", "findings", "[I", true)
  | 6 => ("SmokeHomeModel", "tape", "[I", true)
  | 7 => ("SmokeHomeModel", "taped", "I", false)
  | 8 => ("SmokeHomeModel", "bitsOf", "[I", true)
  | 9 => ("SmokeHomeModel", "sizes", "[I", true)
  | 10 => ("SmokeHomeModel", "numbers", "[I", true)
  | 11 => ("SmokeHomeModel", "began", "[I", true)
  | 12 => ("SmokeHomeModel", "token", "I", false)
  | 13 => ("SmokeHomeModel", "from", "I", false)
  | 14 => ("SmokeHomeModel", "to", "I", false)
  | 15 => ("SmokeHomeModel", "value", "I", false)
  | _ => ("SmokeHomeModel", "faultAt", "I", false)
def tyX12 : Nat → FieldType := fun k => match k with
  | 0 => .array .int
  | 1 => .array .int
  | 2 => .array .int
  | 3 => .array .int
  | 4 => .boolean
  | 5 => .array .int
  | 6 => .array .int
  | 7 => .int
  | 8 => .array .int
  | 9 => .array .int
  | 10 => .array .int
  | 11 => .array .int
  | 12 => .int
  | 13 => .int
  | 14 => .int
  | 15 => .int
  | _ => .int
abbrev wsX120 : List Cond := u_ws RX12 TX12 17
theorem nmX12 : ∀ a, a < 17 → ∀ b, b < 17 → a ≠ b → (TX12 a).2.1 ≠ (TX12 b).2.1 := by decide +kernel
theorem tyX12_ok : ∀ k, k < 17 → parseFieldDescriptor (TX12 k).2.2.1 = some (tyX12 k) := by decide +kernel
abbrev cX12_init : ByteArray := prog_14_method_1_code
def yX12_init : MethodName := ⟨RX12, "<init>", "()V"⟩
abbrev cX12_isIn : ByteArray := prog_14_method_2_code
def yX12_isIn : MethodName := ⟨RX12, "isIn", "(JJJ)Z"⟩
abbrev cX12_finds : ByteArray := prog_14_method_3_code
def yX12_finds : MethodName := ⟨RX12, "finds", "(I)I"⟩
abbrev cX12_becomes : ByteArray := prog_14_method_4_code
def yX12_becomes : MethodName := ⟨RX12, "becomes", "(II)I"⟩
abbrev cX12_copyRow : ByteArray := prog_14_method_5_code
def yX12_copyRow : MethodName := ⟨RX12, "copyRow", "([I[I)V"⟩
abbrev cX12_isCell : ByteArray := prog_14_method_6_code
def yX12_isCell : MethodName := ⟨RX12, "isCell", "(I)Z"⟩
abbrev cX12_isFire : ByteArray := prog_14_method_7_code
def yX12_isFire : MethodName := ⟨RX12, "isFire", "(I)Z"⟩
abbrev cX12_at : ByteArray := prog_14_method_8_code
def yX12_at : MethodName := ⟨RX12, "at", "(II)I"⟩
abbrev cX12_its : ByteArray := prog_14_method_9_code
def yX12_its : MethodName := ⟨RX12, "its", "(II)I"⟩
abbrev cX12_least : ByteArray := prog_14_method_10_code
def yX12_least : MethodName := ⟨RX12, "least", "(II)I"⟩
abbrev cX12_greatest : ByteArray := prog_14_method_11_code
def yX12_greatest : MethodName := ⟨RX12, "greatest", "(II)I"⟩
abbrev cX12_orNone : ByteArray := prog_14_method_12_code
def yX12_orNone : MethodName := ⟨RX12, "orNone", "(I)I"⟩
abbrev cX12_many : ByteArray := prog_14_method_13_code
def yX12_many : MethodName := ⟨RX12, "many", "(I)I"⟩
abbrev cX12_far : ByteArray := prog_14_method_14_code
def yX12_far : MethodName := ⟨RX12, "far", "(II)I"⟩
abbrev cX12_wood : ByteArray := prog_14_method_15_code
def yX12_wood : MethodName := ⟨RX12, "wood", "(II)I"⟩
abbrev cX12_cell : ByteArray := prog_14_method_16_code
def yX12_cell : MethodName := ⟨RX12, "cell", "(II)I"⟩
abbrev cX12_wind : ByteArray := prog_14_method_17_code
def yX12_wind : MethodName := ⟨RX12, "wind", "(I)I"⟩
abbrev cX12_comes : ByteArray := prog_14_method_18_code
def yX12_comes : MethodName := ⟨RX12, "comes", "(III)V"⟩
abbrev cX12_fire : ByteArray := prog_14_method_19_code
def yX12_fire : MethodName := ⟨RX12, "fire", "(III)I"⟩
abbrev cX12_burns : ByteArray := prog_14_method_20_code
def yX12_burns : MethodName := ⟨RX12, "burns", "(I)I"⟩
abbrev cX12_steps : ByteArray := prog_14_method_21_code
def yX12_steps : MethodName := ⟨RX12, "steps", "(I)I"⟩
abbrev cX12_bears : ByteArray := prog_14_method_22_code
def yX12_bears : MethodName := ⟨RX12, "bears", "(I)Z"⟩
abbrev cX12_of : ByteArray := prog_14_method_23_code
def yX12_of : MethodName := ⟨RX12, "of", "(II)I"⟩
abbrev cX12_greatestOf : ByteArray := prog_14_method_24_code
def yX12_greatestOf : MethodName := ⟨RX12, "greatestOf", "(I)I"⟩
abbrev cX12_change : ByteArray := prog_14_method_25_code
def yX12_change : MethodName := ⟨RX12, "change", "(III)I"⟩
abbrev cX12_wayFrom : ByteArray := prog_14_method_26_code
def yX12_wayFrom : MethodName := ⟨RX12, "wayFrom", "(II)I"⟩
abbrev cX12_otherWay : ByteArray := prog_14_method_27_code
def yX12_otherWay : MethodName := ⟨RX12, "otherWay", "(I)I"⟩
abbrev cX12_on : ByteArray := prog_14_method_28_code
def yX12_on : MethodName := ⟨RX12, "on", "(II)I"⟩
abbrev cX12_burnsOn : ByteArray := prog_14_method_29_code
def yX12_burnsOn : MethodName := ⟨RX12, "burnsOn", "(I)V"⟩
abbrev cX12_goesHome : ByteArray := prog_14_method_30_code
def yX12_goesHome : MethodName := ⟨RX12, "goesHome", "(I)V"⟩
abbrev cX12_cross : ByteArray := prog_14_method_31_code
def yX12_cross : MethodName := ⟨RX12, "cross", "(II)V"⟩
abbrev cX12_settles : ByteArray := prog_14_method_32_code
def yX12_settles : MethodName := ⟨RX12, "settles", "(I)V"⟩
abbrev cX12_hour : ByteArray := prog_14_method_33_code
def yX12_hour : MethodName := ⟨RX12, "hour", "()V"⟩
abbrev cX12_goes : ByteArray := prog_14_method_34_code
def yX12_goes : MethodName := ⟨RX12, "goes", "(I)V"⟩
abbrev cX12_woodAll : ByteArray := prog_14_method_35_code
def yX12_woodAll : MethodName := ⟨RX12, "woodAll", "()I"⟩
abbrev cX12_sumOf : ByteArray := prog_14_method_36_code
def yX12_sumOf : MethodName := ⟨RX12, "sumOf", "(I)I"⟩
abbrev cX12_go : ByteArray := prog_14_method_37_code
def yX12_go : MethodName := ⟨RX12, "go", "(I)I"⟩
abbrev cX12_wooded : ByteArray := prog_14_method_38_code
def yX12_wooded : MethodName := ⟨RX12, "wooded", "()I"⟩
abbrev cX12_smoking : ByteArray := prog_14_method_39_code
def yX12_smoking : MethodName := ⟨RX12, "smoking", "()I"⟩
abbrev cX12_now : ByteArray := prog_14_method_40_code
def yX12_now : MethodName := ⟨RX12, "now", "(I)I"⟩
abbrev cX12_thenAt : ByteArray := prog_14_method_41_code
def yX12_thenAt : MethodName := ⟨RX12, "thenAt", "(II)I"⟩
abbrev cX12_woodThen : ByteArray := prog_14_method_42_code
def yX12_woodThen : MethodName := ⟨RX12, "woodThen", "(I)I"⟩
abbrev cX12_ahead : ByteArray := prog_14_method_43_code
def yX12_ahead : MethodName := ⟨RX12, "ahead", "(III)I"⟩
abbrev cX12_grown : ByteArray := prog_14_method_44_code
def yX12_grown : MethodName := ⟨RX12, "grown", "(II)I"⟩
abbrev cX12_when : ByteArray := prog_14_method_45_code
def yX12_when : MethodName := ⟨RX12, "when", "(II)I"⟩
abbrev cX12_whenMore : ByteArray := prog_14_method_46_code
def yX12_whenMore : MethodName := ⟨RX12, "whenMore", "(I)I"⟩
abbrev cX12_stuck : ByteArray := prog_14_method_47_code
def yX12_stuck : MethodName := ⟨RX12, "stuck", "(I)I"⟩
abbrev cX12_crosses : ByteArray := prog_14_method_48_code
def yX12_crosses : MethodName := ⟨RX12, "crosses", "()I"⟩
abbrev cX12_windFor : ByteArray := prog_14_method_49_code
def yX12_windFor : MethodName := ⟨RX12, "windFor", "(I)I"⟩
abbrev cX12_isAsked : ByteArray := prog_14_method_50_code
def yX12_isAsked : MethodName := ⟨RX12, "isAsked", "(II)Z"⟩
abbrev cX12_homeFor : ByteArray := prog_14_method_51_code
def yX12_homeFor : MethodName := ⟨RX12, "homeFor", "(III)I"⟩
abbrev cX12_build : ByteArray := prog_14_method_52_code
def yX12_build : MethodName := ⟨RX12, "build", "(II)I"⟩
abbrev cX12_kindFor : ByteArray := prog_14_method_53_code
def yX12_kindFor : MethodName := ⟨RX12, "kindFor", "(II)I"⟩
abbrev cX12_logsFor : ByteArray := prog_14_method_54_code
def yX12_logsFor : MethodName := ⟨RX12, "logsFor", "(IIII)I"⟩
abbrev cX12_quench : ByteArray := prog_14_method_55_code
def yX12_quench : MethodName := ⟨RX12, "quench", "(I)I"⟩
abbrev cX12_isTold : ByteArray := prog_14_method_56_code
def yX12_isTold : MethodName := ⟨RX12, "isTold", "(II)Z"⟩
abbrev cX12_couldBe : ByteArray := prog_14_method_57_code
def yX12_couldBe : MethodName := ⟨RX12, "couldBe", "(III)I"⟩
abbrev cX12_fits : ByteArray := prog_14_method_58_code
def yX12_fits : MethodName := ⟨RX12, "fits", "(II)I"⟩
abbrev cX12_kinds : ByteArray := prog_14_method_59_code
def yX12_kinds : MethodName := ⟨RX12, "kinds", "(II)I"⟩
abbrev cX12_draw : ByteArray := prog_14_method_60_code
def yX12_draw : MethodName := ⟨RX12, "draw", "()I"⟩
abbrev cX12_winds : ByteArray := prog_14_method_61_code
def yX12_winds : MethodName := ⟨RX12, "winds", "(I)I"⟩
abbrev cX12_odds : ByteArray := prog_14_method_62_code
def yX12_odds : MethodName := ⟨RX12, "odds", "(III)J"⟩
abbrev cX12_seed : ByteArray := prog_14_method_63_code
def yX12_seed : MethodName := ⟨RX12, "seed", "(I)I"⟩
abbrev cX12_feed : ByteArray := prog_14_method_64_code
def yX12_feed : MethodName := ⟨RX12, "feed", "(II)I"⟩
abbrev cX12_wipe : ByteArray := prog_14_method_65_code
def yX12_wipe : MethodName := ⟨RX12, "wipe", "()I"⟩
abbrev cX12_isLetter : ByteArray := prog_14_method_66_code
def yX12_isLetter : MethodName := ⟨RX12, "isLetter", "(I)Z"⟩
abbrev cX12_isDigit : ByteArray := prog_14_method_67_code
def yX12_isDigit : MethodName := ⟨RX12, "isDigit", "(I)Z"⟩
abbrev cX12_byteAt : ByteArray := prog_14_method_68_code
def yX12_byteAt : MethodName := ⟨RX12, "byteAt", "(I)I"⟩
abbrev cX12_nextToken : ByteArray := prog_14_method_69_code
def yX12_nextToken : MethodName := ⟨RX12, "nextToken", "()V"⟩
abbrev cX12_has3 : ByteArray := prog_14_method_70_code
def yX12_has3 : MethodName := ⟨RX12, "has3", "(IIII)Z"⟩
abbrev cX12_isWord : ByteArray := prog_14_method_71_code
def yX12_isWord : MethodName := ⟨RX12, "isWord", "(I)Z"⟩
abbrev cX12_fails : ByteArray := prog_14_method_72_code
def yX12_fails : MethodName := ⟨RX12, "fails", "()Z"⟩
abbrev cX12_isFour : ByteArray := prog_14_method_73_code
def yX12_isFour : MethodName := ⟨RX12, "isFour", "(IIII)Z"⟩
abbrev cX12_isFive : ByteArray := prog_14_method_74_code
def yX12_isFive : MethodName := ⟨RX12, "isFive", "(IIIII)Z"⟩
abbrev cX12_isSix : ByteArray := prog_14_method_75_code
def yX12_isSix : MethodName := ⟨RX12, "isSix", "(IIIIII)Z"⟩
abbrev cX12_isNumber : ByteArray := prog_14_method_76_code
def yX12_isNumber : MethodName := ⟨RX12, "isNumber", "(II)Z"⟩
abbrev cX12_kindHere : ByteArray := prog_14_method_77_code
def yX12_kindHere : MethodName := ⟨RX12, "kindHere", "()I"⟩
abbrev cX12_perhaps : ByteArray := prog_14_method_78_code
def yX12_perhaps : MethodName := ⟨RX12, "perhaps", "(ZII)Z"⟩
abbrev cX12_fireHere : ByteArray := prog_14_method_79_code
def yX12_fireHere : MethodName := ⟨RX12, "fireHere", "(I)Z"⟩
abbrev cX12_woodHere : ByteArray := prog_14_method_80_code
def yX12_woodHere : MethodName := ⟨RX12, "woodHere", "()Z"⟩
abbrev cX12_itemHere : ByteArray := prog_14_method_81_code
def yX12_itemHere : MethodName := ⟨RX12, "itemHere", "()Z"⟩
abbrev cX12_text : ByteArray := prog_14_method_82_code
def yX12_text : MethodName := ⟨RX12, "text", "()I"⟩
abbrev cX12_hold : ByteArray := prog_14_method_83_code
def yX12_hold : MethodName := ⟨RX12, "hold", "(II)I"⟩
abbrev cX12_isUnder : ByteArray := prog_14_method_84_code
def yX12_isUnder : MethodName := ⟨RX12, "isUnder", "(II)Z"⟩
abbrev cX12_as : ByteArray := prog_14_method_85_code
def yX12_as : MethodName := ⟨RX12, "as", "(II)I"⟩
abbrev cX12_isSheet : ByteArray := prog_14_method_86_code
def yX12_isSheet : MethodName := ⟨RX12, "isSheet", "(I)Z"⟩
abbrev cX12_sheet : ByteArray := prog_14_method_87_code
def yX12_sheet : MethodName := ⟨RX12, "sheet", "(III)I"⟩
abbrev cX12_write : ByteArray := prog_14_method_88_code
def yX12_write : MethodName := ⟨RX12, "write", "(III)I"⟩
abbrev cX12_copy : ByteArray := prog_14_method_89_code
def yX12_copy : MethodName := ⟨RX12, "copy", "(IIIII)I"⟩
abbrev cX12_wants : ByteArray := prog_14_method_90_code
def yX12_wants : MethodName := ⟨RX12, "wants", "(I)I"⟩
abbrev cX12_load : ByteArray := prog_14_method_91_code
def yX12_load : MethodName := ⟨RX12, "load", "(I)I"⟩
abbrev cX12_judge : ByteArray := prog_14_method_92_code
def yX12_judge : MethodName := ⟨RX12, "judge", "(I)I"⟩
abbrev cX12_image : ByteArray := prog_14_method_93_code
def yX12_image : MethodName := ⟨RX12, "image", "()I"⟩
abbrev cX12_undo : ByteArray := prog_14_method_94_code
def yX12_undo : MethodName := ⟨RX12, "undo", "()I"⟩
abbrev cX12_tear : ByteArray := prog_14_method_95_code
def yX12_tear : MethodName := ⟨RX12, "tear", "()I"⟩
abbrev cX12_count : ByteArray := prog_14_method_96_code
def yX12_count : MethodName := ⟨RX12, "count", "(I)I"⟩
abbrev cX12_status : ByteArray := prog_14_method_97_code
def yX12_status : MethodName := ⟨RX12, "status", "(I)I"⟩
def RJ6 : String := "java/lang/Integer"
def TJ6 : u_T := fun k => match k with
  | _ => ("", "", "", false)
def tyJ6 : Nat → FieldType := fun k => match k with
  | _ => .int
abbrev wsJ60 : List Cond := u_ws RJ6 TJ6 0
theorem nmJ6 : ∀ a, a < 0 → ∀ b, b < 0 → a ≠ b → (TJ6 a).2.1 ≠ (TJ6 b).2.1 := by decide +kernel
theorem tyJ6_ok : ∀ k, k < 0 → parseFieldDescriptor (TJ6 k).2.2.1 = some (tyJ6 k) := by decide +kernel
abbrev cJ6_bitCount_0f7a4 : ByteArray := prog_15_method_49_code
def yJ6_bitCount_0f7a4 : MethodName := ⟨RJ6, "bitCount", "(I)I"⟩
def RJ9 : String := "java/lang/Math"
def TJ9 : u_T := fun k => match k with
  | _ => ("", "", "", false)
def tyJ9 : Nat → FieldType := fun k => match k with
  | _ => .int
abbrev wsJ90 : List Cond := u_ws RJ9 TJ9 0
theorem nmJ9 : ∀ a, a < 0 → ∀ b, b < 0 → a ≠ b → (TJ9 a).2.1 ≠ (TJ9 b).2.1 := by decide +kernel
theorem tyJ9_ok : ∀ k, k < 0 → parseFieldDescriptor (TJ9 k).2.2.1 = some (tyJ9 k) := by decide +kernel
abbrev cJ9_abs_0f7a4 : ByteArray := prog_16_method_59_code
def yJ9_abs_0f7a4 : MethodName := ⟨RJ9, "abs", "(I)I"⟩
abbrev cJ9_min_7cf53 : ByteArray := prog_16_method_69_code
def yJ9_min_7cf53 : MethodName := ⟨RJ9, "min", "(II)I"⟩
def RJ0 : String := "java/lang/String"
def TJ0 : u_T := fun k => match k with
  | _ => ("", "", "", false)
def tyJ0 : Nat → FieldType := fun k => match k with
  | _ => .int
abbrev wsJ00 : List Cond := u_ws RJ0 TJ0 0
theorem nmJ0 : ∀ a, a < 0 → ∀ b, b < 0 → a ≠ b → (TJ0 a).2.1 ≠ (TJ0 b).2.1 := by decide +kernel
theorem tyJ0_ok : ∀ k, k < 0 → parseFieldDescriptor (TJ0 k).2.2.1 = some (tyJ0 k) := by decide +kernel
abbrev cJ0_length_8abf5 : ByteArray := prog_17_method_54_code
def yJ0_length_8abf5 : MethodName := ⟨RJ0, "length", "()I"⟩
abbrev cJ0_charAt_5068e : ByteArray := prog_17_method_56_code
def yJ0_charAt_5068e : MethodName := ⟨RJ0, "charAt", "(I)C"⟩
abbrev cJ0_coder_7d493 : ByteArray := prog_17_method_152_code
def yJ0_coder_7d493 : MethodName := ⟨RJ0, "coder", "()B"⟩
abbrev cJ0_isLatin1_aae02 : ByteArray := prog_17_method_154_code
def yJ0_isLatin1_aae02 : MethodName := ⟨RJ0, "isLatin1", "()Z"⟩
abbrev cJ0_checkIndex_df160 : ByteArray := prog_17_method_155_code
def yJ0_checkIndex_df160 : MethodName := ⟨RJ0, "checkIndex", "(II)V"⟩
def RJ1 : String := "java/lang/StringLatin1"
def TJ1 : u_T := fun k => match k with
  | _ => ("", "", "", false)
def tyJ1 : Nat → FieldType := fun k => match k with
  | _ => .int
abbrev wsJ10 : List Cond := u_ws RJ1 TJ1 0
theorem nmJ1 : ∀ a, a < 0 → ∀ b, b < 0 → a ≠ b → (TJ1 a).2.1 ≠ (TJ1 b).2.1 := by decide +kernel
theorem tyJ1_ok : ∀ k, k < 0 → parseFieldDescriptor (TJ1 k).2.2.1 = some (tyJ1 k) := by decide +kernel
abbrev cJ1_charAt_3b067 : ByteArray := prog_18_method_2_code
def yJ1_charAt_3b067 : MethodName := ⟨RJ1, "charAt", "([BI)C"⟩
def RJ2 : String := "java/lang/StringUTF16"
def TJ2 : u_T := fun k => match k with
  | _ => ("", "", "", false)
def tyJ2 : Nat → FieldType := fun k => match k with
  | _ => .int
abbrev wsJ20 : List Cond := u_ws RJ2 TJ2 0
theorem nmJ2 : ∀ a, a < 0 → ∀ b, b < 0 → a ≠ b → (TJ2 a).2.1 ≠ (TJ2 b).2.1 := by decide +kernel
theorem tyJ2_ok : ∀ k, k < 0 → parseFieldDescriptor (TJ2 k).2.2.1 = some (tyJ2 k) := by decide +kernel
abbrev cJ2_getChar_3b067 : ByteArray := prog_19_method_5_code
def yJ2_getChar_3b067 : MethodName := ⟨RJ2, "getChar", "([BI)C"⟩
abbrev cJ2_length_9d52b : ByteArray := prog_19_method_6_code
def yJ2_length_9d52b : MethodName := ⟨RJ2, "length", "([B)I"⟩
abbrev cJ2_charAt_3b067 : ByteArray := prog_19_method_83_code
def yJ2_charAt_3b067 : MethodName := ⟨RJ2, "charAt", "([BI)C"⟩
abbrev cJ2_checkIndex_2214a : ByteArray := prog_19_method_91_code
def yJ2_checkIndex_2214a : MethodName := ⟨RJ2, "checkIndex", "(I[B)V"⟩
def RJ10 : String := "java/lang/System"
def TJ10 : u_T := fun k => match k with
  | _ => ("", "", "", false)
def tyJ10 : Nat → FieldType := fun k => match k with
  | _ => .int
abbrev wsJ100 : List Cond := u_ws RJ10 TJ10 0
theorem nmJ10 : ∀ a, a < 0 → ∀ b, b < 0 → a ≠ b → (TJ10 a).2.1 ≠ (TJ10 b).2.1 := by decide +kernel
theorem tyJ10_ok : ∀ k, k < 0 → parseFieldDescriptor (TJ10 k).2.2.1 = some (tyJ10 k) := by decide +kernel
def RJ3 : String := "jdk/internal/util/Preconditions"
def TJ3 : u_T := fun k => match k with
  | _ => ("", "", "", false)
def tyJ3 : Nat → FieldType := fun k => match k with
  | _ => .int
abbrev wsJ30 : List Cond := u_ws RJ3 TJ3 0
theorem nmJ3 : ∀ a, a < 0 → ∀ b, b < 0 → a ≠ b → (TJ3 a).2.1 ≠ (TJ3 b).2.1 := by decide +kernel
theorem tyJ3_ok : ∀ k, k < 0 → parseFieldDescriptor (TJ3 k).2.2.1 = some (tyJ3 k) := by decide +kernel
abbrev cJ3_checkIndex_8e157 : ByteArray := prog_21_method_11_code
def yJ3_checkIndex_8e157 : MethodName := ⟨RJ3, "checkIndex", "(IILjava/util/function/BiFunction;)I"⟩
def RL : String := "SmokeHomeLaw"
abbrev cL_law : ByteArray := code
def yL_law : MethodName := ⟨RL, "law", "([I)Z"⟩
end
section
theorem dX0_init_0 : decode cX0_init 0 = .ok (.aload_n 0, 1) := by decide +kernel
theorem dX0_init_1 : decode cX0_init 1 = .ok (.invokespecial 1, 3) := by decide +kernel
theorem dX0_init_4 : decode cX0_init 4 = .ok (.return_, 1) := by decide +kernel
theorem dX0_burns_0 : decode cX0_burns 0 = .ok (.iconst 2, 1) := by decide +kernel
theorem dX0_burns_1 : decode cX0_burns 1 = .ok (.aload_n 0, 1) := by decide +kernel
theorem dX0_burns_2 : decode cX0_burns 2 = .ok (.iload_n 1, 1) := by decide +kernel
theorem dX0_burns_3 : decode cX0_burns 3 = .ok (.invokespecial 7, 3) := by decide +kernel
theorem dX0_burns_6 : decode cX0_burns 6 = .ok (.imul, 1) := by decide +kernel
theorem dX0_burns_7 : decode cX0_burns 7 = .ok (.ireturn, 1) := by decide +kernel
theorem dX0_steps_0 : decode cX0_steps 0 = .ok (.aload_n 0, 1) := by decide +kernel
theorem dX0_steps_1 : decode cX0_steps 1 = .ok (.iload_n 1, 1) := by decide +kernel
theorem dX0_steps_2 : decode cX0_steps 2 = .ok (.iload_n 2, 1) := by decide +kernel
theorem dX0_steps_3 : decode cX0_steps 3 = .ok (.invokespecial 11, 3) := by decide +kernel
theorem dX0_steps_6 : decode cX0_steps 6 = .ok (.iconst 1, 1) := by decide +kernel
theorem dX0_steps_7 : decode cX0_steps 7 = .ok (.iadd, 1) := by decide +kernel
theorem dX0_steps_8 : decode cX0_steps 8 = .ok (.ireturn, 1) := by decide +kernel
theorem dX0_isUnder_0 : decode cX0_isUnder 0 = .ok (.iload_n 1, 1) := by decide +kernel
theorem dX0_isUnder_1 : decode cX0_isUnder 1 = .ok (.bipush 6, 2) := by decide +kernel
theorem dX0_isUnder_3 : decode cX0_isUnder 3 = .ok (.if_icmp .eq 11, 3) := by decide +kernel
theorem dX0_isUnder_6 : decode cX0_isUnder 6 = .ok (.aload_n 0, 1) := by decide +kernel
theorem dX0_isUnder_7 : decode cX0_isUnder 7 = .ok (.iload_n 1, 1) := by decide +kernel
theorem dX0_isUnder_8 : decode cX0_isUnder 8 = .ok (.invokespecial 15, 3) := by decide +kernel
theorem dX0_isUnder_11 : decode cX0_isUnder 11 = .ok (.ifCond .eq 7, 3) := by decide +kernel
theorem dX0_isUnder_14 : decode cX0_isUnder 14 = .ok (.iconst 1, 1) := by decide +kernel
theorem dX0_isUnder_15 : decode cX0_isUnder 15 = .ok (.goto 4, 3) := by decide +kernel
theorem dX0_isUnder_18 : decode cX0_isUnder 18 = .ok (.iconst 0, 1) := by decide +kernel
theorem dX0_isUnder_19 : decode cX0_isUnder 19 = .ok (.ireturn, 1) := by decide +kernel
theorem dX0_word_0 : decode cX0_word 0 = .ok (.ldc 19, 2) := by decide +kernel
theorem dX0_word_2 : decode cX0_word 2 = .ok (.areturn, 1) := by decide +kernel
theorem dX1_init_0 : decode cX1_init 0 = .ok (.aload_n 0, 1) := by decide +kernel
theorem dX1_init_1 : decode cX1_init 1 = .ok (.invokespecial 3, 3) := by decide +kernel
theorem dX1_init_4 : decode cX1_init 4 = .ok (.return_, 1) := by decide +kernel
theorem dX1_become_0 : decode cX1_become 0 = .ok (.aload_n 0, 1) := by decide +kernel
theorem dX1_become_1 : decode cX1_become 1 = .ok (.aload_n 1, 1) := by decide +kernel
theorem dX1_become_2 : decode cX1_become 2 = .ok (.getfield 9, 3) := by decide +kernel
theorem dX1_become_5 : decode cX1_become 5 = .ok (.putfield 9, 3) := by decide +kernel
theorem dX1_become_8 : decode cX1_become 8 = .ok (.aload_n 0, 1) := by decide +kernel
theorem dX1_become_9 : decode cX1_become 9 = .ok (.aload_n 1, 1) := by decide +kernel
theorem dX1_become_10 : decode cX1_become 10 = .ok (.getfield 15, 3) := by decide +kernel
theorem dX1_become_13 : decode cX1_become 13 = .ok (.putfield 15, 3) := by decide +kernel
theorem dX1_become_16 : decode cX1_become 16 = .ok (.aload_n 0, 1) := by decide +kernel
theorem dX1_become_17 : decode cX1_become 17 = .ok (.aload_n 1, 1) := by decide +kernel
theorem dX1_become_18 : decode cX1_become 18 = .ok (.getfield 18, 3) := by decide +kernel
theorem dX1_become_21 : decode cX1_become 21 = .ok (.putfield 18, 3) := by decide +kernel
theorem dX1_become_24 : decode cX1_become 24 = .ok (.aload_n 0, 1) := by decide +kernel
theorem dX1_become_25 : decode cX1_become 25 = .ok (.aload_n 1, 1) := by decide +kernel
theorem dX1_become_26 : decode cX1_become 26 = .ok (.getfield 21, 3) := by decide +kernel
theorem dX1_become_29 : decode cX1_become 29 = .ok (.putfield 21, 3) := by decide +kernel
theorem dX1_become_32 : decode cX1_become 32 = .ok (.aload_n 0, 1) := by decide +kernel
theorem dX1_become_33 : decode cX1_become 33 = .ok (.aload_n 1, 1) := by decide +kernel
theorem dX1_become_34 : decode cX1_become 34 = .ok (.getfield 24, 3) := by decide +kernel
theorem dX1_become_37 : decode cX1_become 37 = .ok (.putfield 24, 3) := by decide +kernel
theorem dX1_become_40 : decode cX1_become 40 = .ok (.aload_n 0, 1) := by decide +kernel
theorem dX1_become_41 : decode cX1_become 41 = .ok (.aload_n 1, 1) := by decide +kernel
theorem dX1_become_42 : decode cX1_become 42 = .ok (.getfield 27, 3) := by decide +kernel
theorem dX1_become_45 : decode cX1_become 45 = .ok (.putfield 27, 3) := by decide +kernel
theorem dX1_become_48 : decode cX1_become 48 = .ok (.aload_n 0, 1) := by decide +kernel
theorem dX1_become_49 : decode cX1_become 49 = .ok (.aload_n 1, 1) := by decide +kernel
theorem dX1_become_50 : decode cX1_become 50 = .ok (.getfield 30, 3) := by decide +kernel
theorem dX1_become_53 : decode cX1_become 53 = .ok (.putfield 30, 3) := by decide +kernel
theorem dX1_become_56 : decode cX1_become 56 = .ok (.return_, 1) := by decide +kernel
theorem dX1_value_0 : decode cX1_value 0 = .ok (.iload_n 1, 1) := by decide +kernel
theorem dX1_value_1 : decode cX1_value 1 = .ok (.tableswitch 69 0 5 #[39, 44, 49, 54, 59, 64], 39) := by decide +kernel
theorem dX1_value_40 : decode cX1_value 40 = .ok (.aload_n 0, 1) := by decide +kernel
theorem dX1_value_41 : decode cX1_value 41 = .ok (.getfield 9, 3) := by decide +kernel
theorem dX1_value_44 : decode cX1_value 44 = .ok (.ireturn, 1) := by decide +kernel
theorem dX1_value_45 : decode cX1_value 45 = .ok (.aload_n 0, 1) := by decide +kernel
theorem dX1_value_46 : decode cX1_value 46 = .ok (.getfield 15, 3) := by decide +kernel
theorem dX1_value_49 : decode cX1_value 49 = .ok (.ireturn, 1) := by decide +kernel
theorem dX1_value_50 : decode cX1_value 50 = .ok (.aload_n 0, 1) := by decide +kernel
theorem dX1_value_51 : decode cX1_value 51 = .ok (.getfield 18, 3) := by decide +kernel
theorem dX1_value_54 : decode cX1_value 54 = .ok (.ireturn, 1) := by decide +kernel
theorem dX1_value_55 : decode cX1_value 55 = .ok (.aload_n 0, 1) := by decide +kernel
theorem dX1_value_56 : decode cX1_value 56 = .ok (.getfield 21, 3) := by decide +kernel
theorem dX1_value_59 : decode cX1_value 59 = .ok (.ireturn, 1) := by decide +kernel
theorem dX1_value_60 : decode cX1_value 60 = .ok (.aload_n 0, 1) := by decide +kernel
theorem dX1_value_61 : decode cX1_value 61 = .ok (.getfield 24, 3) := by decide +kernel
theorem dX1_value_64 : decode cX1_value 64 = .ok (.ireturn, 1) := by decide +kernel
theorem dX1_value_65 : decode cX1_value 65 = .ok (.aload_n 0, 1) := by decide +kernel
theorem dX1_value_66 : decode cX1_value 66 = .ok (.getfield 27, 3) := by decide +kernel
theorem dX1_value_69 : decode cX1_value 69 = .ok (.ireturn, 1) := by decide +kernel
theorem dX1_value_70 : decode cX1_value 70 = .ok (.aload_n 0, 1) := by decide +kernel
theorem dX1_value_71 : decode cX1_value 71 = .ok (.getfield 30, 3) := by decide +kernel
theorem dX1_value_74 : decode cX1_value 74 = .ok (.ireturn, 1) := by decide +kernel
theorem dX1_put_0 : decode cX1_put 0 = .ok (.iload_n 1, 1) := by decide +kernel
theorem dX1_put_1 : decode cX1_put 1 = .ok (.tableswitch 87 0 5 #[39, 47, 55, 63, 71, 79], 39) := by decide +kernel
theorem dX1_put_40 : decode cX1_put 40 = .ok (.aload_n 0, 1) := by decide +kernel
theorem dX1_put_41 : decode cX1_put 41 = .ok (.iload_n 2, 1) := by decide +kernel
theorem dX1_put_42 : decode cX1_put 42 = .ok (.putfield 9, 3) := by decide +kernel
theorem dX1_put_45 : decode cX1_put 45 = .ok (.goto 48, 3) := by decide +kernel
theorem dX1_put_48 : decode cX1_put 48 = .ok (.aload_n 0, 1) := by decide +kernel
theorem dX1_put_49 : decode cX1_put 49 = .ok (.iload_n 2, 1) := by decide +kernel
theorem dX1_put_50 : decode cX1_put 50 = .ok (.putfield 15, 3) := by decide +kernel
theorem dX1_put_53 : decode cX1_put 53 = .ok (.goto 40, 3) := by decide +kernel
theorem dX1_put_56 : decode cX1_put 56 = .ok (.aload_n 0, 1) := by decide +kernel
theorem dX1_put_57 : decode cX1_put 57 = .ok (.iload_n 2, 1) := by decide +kernel
theorem dX1_put_58 : decode cX1_put 58 = .ok (.putfield 18, 3) := by decide +kernel
theorem dX1_put_61 : decode cX1_put 61 = .ok (.goto 32, 3) := by decide +kernel
theorem dX1_put_64 : decode cX1_put 64 = .ok (.aload_n 0, 1) := by decide +kernel
theorem dX1_put_65 : decode cX1_put 65 = .ok (.iload_n 2, 1) := by decide +kernel
theorem dX1_put_66 : decode cX1_put 66 = .ok (.putfield 21, 3) := by decide +kernel
theorem dX1_put_69 : decode cX1_put 69 = .ok (.goto 24, 3) := by decide +kernel
theorem dX1_put_72 : decode cX1_put 72 = .ok (.aload_n 0, 1) := by decide +kernel
theorem dX1_put_73 : decode cX1_put 73 = .ok (.iload_n 2, 1) := by decide +kernel
theorem dX1_put_74 : decode cX1_put 74 = .ok (.putfield 24, 3) := by decide +kernel
theorem dX1_put_77 : decode cX1_put 77 = .ok (.goto 16, 3) := by decide +kernel
theorem dX1_put_80 : decode cX1_put 80 = .ok (.aload_n 0, 1) := by decide +kernel
theorem dX1_put_81 : decode cX1_put 81 = .ok (.iload_n 2, 1) := by decide +kernel
theorem dX1_put_82 : decode cX1_put 82 = .ok (.putfield 27, 3) := by decide +kernel
theorem dX1_put_85 : decode cX1_put 85 = .ok (.goto 8, 3) := by decide +kernel
theorem dX1_put_88 : decode cX1_put 88 = .ok (.aload_n 0, 1) := by decide +kernel
theorem dX1_put_89 : decode cX1_put 89 = .ok (.iload_n 2, 1) := by decide +kernel
theorem dX1_put_90 : decode cX1_put 90 = .ok (.putfield 30, 3) := by decide +kernel
theorem dX1_put_93 : decode cX1_put 93 = .ok (.return_, 1) := by decide +kernel
theorem dX1_stepsFromHome_0 : decode cX1_stepsFromHome 0 = .ok (.aload_n 0, 1) := by decide +kernel
theorem dX1_stepsFromHome_1 : decode cX1_stepsFromHome 1 = .ok (.getfield 24, 3) := by decide +kernel
theorem dX1_stepsFromHome_4 : decode cX1_stepsFromHome 4 = .ok (.iconst 5, 1) := by decide +kernel
theorem dX1_stepsFromHome_5 : decode cX1_stepsFromHome 5 = .ok (.idiv, 1) := by decide +kernel
theorem dX1_stepsFromHome_6 : decode cX1_stepsFromHome 6 = .ok (.aload_n 0, 1) := by decide +kernel
theorem dX1_stepsFromHome_7 : decode cX1_stepsFromHome 7 = .ok (.getfield 18, 3) := by decide +kernel
theorem dX1_stepsFromHome_10 : decode cX1_stepsFromHome 10 = .ok (.iconst 5, 1) := by decide +kernel
theorem dX1_stepsFromHome_11 : decode cX1_stepsFromHome 11 = .ok (.idiv, 1) := by decide +kernel
theorem dX1_stepsFromHome_12 : decode cX1_stepsFromHome 12 = .ok (.isub, 1) := by decide +kernel
theorem dX1_stepsFromHome_13 : decode cX1_stepsFromHome 13 = .ok (.invokestatic 33, 3) := by decide +kernel
theorem dX1_stepsFromHome_16 : decode cX1_stepsFromHome 16 = .ok (.aload_n 0, 1) := by decide +kernel
theorem dX1_stepsFromHome_17 : decode cX1_stepsFromHome 17 = .ok (.getfield 24, 3) := by decide +kernel
theorem dX1_stepsFromHome_20 : decode cX1_stepsFromHome 20 = .ok (.iconst 5, 1) := by decide +kernel
theorem dX1_stepsFromHome_21 : decode cX1_stepsFromHome 21 = .ok (.irem, 1) := by decide +kernel
theorem dX1_stepsFromHome_22 : decode cX1_stepsFromHome 22 = .ok (.aload_n 0, 1) := by decide +kernel
theorem dX1_stepsFromHome_23 : decode cX1_stepsFromHome 23 = .ok (.getfield 18, 3) := by decide +kernel
theorem dX1_stepsFromHome_26 : decode cX1_stepsFromHome 26 = .ok (.iconst 5, 1) := by decide +kernel
theorem dX1_stepsFromHome_27 : decode cX1_stepsFromHome 27 = .ok (.irem, 1) := by decide +kernel
theorem dX1_stepsFromHome_28 : decode cX1_stepsFromHome 28 = .ok (.isub, 1) := by decide +kernel
theorem dX1_stepsFromHome_29 : decode cX1_stepsFromHome 29 = .ok (.invokestatic 33, 3) := by decide +kernel
theorem dX1_stepsFromHome_32 : decode cX1_stepsFromHome 32 = .ok (.iadd, 1) := by decide +kernel
theorem dX1_stepsFromHome_33 : decode cX1_stepsFromHome 33 = .ok (.ireturn, 1) := by decide +kernel
theorem dX1_burn_0 : decode cX1_burn 0 = .ok (.iload_n 1, 1) := by decide +kernel
theorem dX1_burn_1 : decode cX1_burn 1 = .ok (.aload_n 0, 1) := by decide +kernel
theorem dX1_burn_2 : decode cX1_burn 2 = .ok (.getfield 21, 3) := by decide +kernel
theorem dX1_burn_5 : decode cX1_burn 5 = .ok (.invokestatic 39, 3) := by decide +kernel
theorem dX1_burn_8 : decode cX1_burn 8 = .ok (.istore_n 2, 1) := by decide +kernel
theorem dX1_burn_9 : decode cX1_burn 9 = .ok (.aload_n 0, 1) := by decide +kernel
theorem dX1_burn_10 : decode cX1_burn 10 = .ok (.dup, 1) := by decide +kernel
theorem dX1_burn_11 : decode cX1_burn 11 = .ok (.getfield 21, 3) := by decide +kernel
theorem dX1_burn_14 : decode cX1_burn 14 = .ok (.iload_n 2, 1) := by decide +kernel
theorem dX1_burn_15 : decode cX1_burn 15 = .ok (.isub, 1) := by decide +kernel
theorem dX1_burn_16 : decode cX1_burn 16 = .ok (.putfield 21, 3) := by decide +kernel
theorem dX1_burn_19 : decode cX1_burn 19 = .ok (.aload_n 0, 1) := by decide +kernel
theorem dX1_burn_20 : decode cX1_burn 20 = .ok (.aload_n 0, 1) := by decide +kernel
theorem dX1_burn_21 : decode cX1_burn 21 = .ok (.getfield 27, 3) := by decide +kernel
theorem dX1_burn_24 : decode cX1_burn 24 = .ok (.iload_n 2, 1) := by decide +kernel
theorem dX1_burn_25 : decode cX1_burn 25 = .ok (.iadd, 1) := by decide +kernel
theorem dX1_burn_26 : decode cX1_burn 26 = .ok (.sipush 999, 3) := by decide +kernel
theorem dX1_burn_29 : decode cX1_burn 29 = .ok (.invokestatic 39, 3) := by decide +kernel
theorem dX1_burn_32 : decode cX1_burn 32 = .ok (.putfield 27, 3) := by decide +kernel
theorem dX1_burn_35 : decode cX1_burn 35 = .ok (.return_, 1) := by decide +kernel
theorem dX1_nextWay_0 : decode cX1_nextWay 0 = .ok (.aload_n 0, 1) := by decide +kernel
theorem dX1_nextWay_1 : decode cX1_nextWay 1 = .ok (.getfield 24, 3) := by decide +kernel
theorem dX1_nextWay_4 : decode cX1_nextWay 4 = .ok (.iconst 5, 1) := by decide +kernel
theorem dX1_nextWay_5 : decode cX1_nextWay 5 = .ok (.idiv, 1) := by decide +kernel
theorem dX1_nextWay_6 : decode cX1_nextWay 6 = .ok (.aload_n 0, 1) := by decide +kernel
theorem dX1_nextWay_7 : decode cX1_nextWay 7 = .ok (.getfield 18, 3) := by decide +kernel
theorem dX1_nextWay_10 : decode cX1_nextWay 10 = .ok (.iconst 5, 1) := by decide +kernel
theorem dX1_nextWay_11 : decode cX1_nextWay 11 = .ok (.idiv, 1) := by decide +kernel
theorem dX1_nextWay_12 : decode cX1_nextWay 12 = .ok (.if_icmp .ne 7, 3) := by decide +kernel
theorem dX1_nextWay_15 : decode cX1_nextWay 15 = .ok (.iconst 1, 1) := by decide +kernel
theorem dX1_nextWay_16 : decode cX1_nextWay 16 = .ok (.goto 4, 3) := by decide +kernel
theorem dX1_nextWay_19 : decode cX1_nextWay 19 = .ok (.iconst 0, 1) := by decide +kernel
theorem dX1_nextWay_20 : decode cX1_nextWay 20 = .ok (.istore_n 2, 1) := by decide +kernel
theorem dX1_nextWay_21 : decode cX1_nextWay 21 = .ok (.aload_n 0, 1) := by decide +kernel
theorem dX1_nextWay_22 : decode cX1_nextWay 22 = .ok (.getfield 24, 3) := by decide +kernel
theorem dX1_nextWay_25 : decode cX1_nextWay 25 = .ok (.iconst 5, 1) := by decide +kernel
theorem dX1_nextWay_26 : decode cX1_nextWay 26 = .ok (.irem, 1) := by decide +kernel
theorem dX1_nextWay_27 : decode cX1_nextWay 27 = .ok (.aload_n 0, 1) := by decide +kernel
theorem dX1_nextWay_28 : decode cX1_nextWay 28 = .ok (.getfield 18, 3) := by decide +kernel
theorem dX1_nextWay_31 : decode cX1_nextWay 31 = .ok (.iconst 5, 1) := by decide +kernel
theorem dX1_nextWay_32 : decode cX1_nextWay 32 = .ok (.irem, 1) := by decide +kernel
theorem dX1_nextWay_33 : decode cX1_nextWay 33 = .ok (.if_icmp .ne 7, 3) := by decide +kernel
theorem dX1_nextWay_36 : decode cX1_nextWay 36 = .ok (.iconst 1, 1) := by decide +kernel
theorem dX1_nextWay_37 : decode cX1_nextWay 37 = .ok (.goto 4, 3) := by decide +kernel
theorem dX1_nextWay_40 : decode cX1_nextWay 40 = .ok (.iconst 0, 1) := by decide +kernel
theorem dX1_nextWay_41 : decode cX1_nextWay 41 = .ok (.istore_n 3, 1) := by decide +kernel
theorem dX1_nextWay_42 : decode cX1_nextWay 42 = .ok (.iload_n 2, 1) := by decide +kernel
theorem dX1_nextWay_43 : decode cX1_nextWay 43 = .ok (.ifCond .ne 11, 3) := by decide +kernel
theorem dX1_nextWay_46 : decode cX1_nextWay 46 = .ok (.iload_n 1, 1) := by decide +kernel
theorem dX1_nextWay_47 : decode cX1_nextWay 47 = .ok (.ifCond .eq 28, 3) := by decide +kernel
theorem dX1_nextWay_50 : decode cX1_nextWay 50 = .ok (.iload_n 3, 1) := by decide +kernel
theorem dX1_nextWay_51 : decode cX1_nextWay 51 = .ok (.ifCond .ne 24, 3) := by decide +kernel
theorem dX1_nextWay_54 : decode cX1_nextWay 54 = .ok (.aload_n 0, 1) := by decide +kernel
theorem dX1_nextWay_55 : decode cX1_nextWay 55 = .ok (.getfield 24, 3) := by decide +kernel
theorem dX1_nextWay_58 : decode cX1_nextWay 58 = .ok (.iconst 5, 1) := by decide +kernel
theorem dX1_nextWay_59 : decode cX1_nextWay 59 = .ok (.irem, 1) := by decide +kernel
theorem dX1_nextWay_60 : decode cX1_nextWay 60 = .ok (.aload_n 0, 1) := by decide +kernel
theorem dX1_nextWay_61 : decode cX1_nextWay 61 = .ok (.getfield 18, 3) := by decide +kernel
theorem dX1_nextWay_64 : decode cX1_nextWay 64 = .ok (.iconst 5, 1) := by decide +kernel
theorem dX1_nextWay_65 : decode cX1_nextWay 65 = .ok (.irem, 1) := by decide +kernel
theorem dX1_nextWay_66 : decode cX1_nextWay 66 = .ok (.if_icmp .ge 7, 3) := by decide +kernel
theorem dX1_nextWay_69 : decode cX1_nextWay 69 = .ok (.iconst 2, 1) := by decide +kernel
theorem dX1_nextWay_70 : decode cX1_nextWay 70 = .ok (.goto 4, 3) := by decide +kernel
theorem dX1_nextWay_73 : decode cX1_nextWay 73 = .ok (.iconst 4, 1) := by decide +kernel
theorem dX1_nextWay_74 : decode cX1_nextWay 74 = .ok (.ireturn, 1) := by decide +kernel
theorem dX1_nextWay_75 : decode cX1_nextWay 75 = .ok (.aload_n 0, 1) := by decide +kernel
theorem dX1_nextWay_76 : decode cX1_nextWay 76 = .ok (.getfield 24, 3) := by decide +kernel
theorem dX1_nextWay_79 : decode cX1_nextWay 79 = .ok (.iconst 5, 1) := by decide +kernel
theorem dX1_nextWay_80 : decode cX1_nextWay 80 = .ok (.idiv, 1) := by decide +kernel
theorem dX1_nextWay_81 : decode cX1_nextWay 81 = .ok (.aload_n 0, 1) := by decide +kernel
theorem dX1_nextWay_82 : decode cX1_nextWay 82 = .ok (.getfield 18, 3) := by decide +kernel
theorem dX1_nextWay_85 : decode cX1_nextWay 85 = .ok (.iconst 5, 1) := by decide +kernel
theorem dX1_nextWay_86 : decode cX1_nextWay 86 = .ok (.idiv, 1) := by decide +kernel
theorem dX1_nextWay_87 : decode cX1_nextWay 87 = .ok (.if_icmp .ge 7, 3) := by decide +kernel
theorem dX1_nextWay_90 : decode cX1_nextWay 90 = .ok (.iconst 3, 1) := by decide +kernel
theorem dX1_nextWay_91 : decode cX1_nextWay 91 = .ok (.goto 4, 3) := by decide +kernel
theorem dX1_nextWay_94 : decode cX1_nextWay 94 = .ok (.iconst 1, 1) := by decide +kernel
theorem dX1_nextWay_95 : decode cX1_nextWay 95 = .ok (.ireturn, 1) := by decide +kernel
theorem dX1_step_0 : decode cX1_step 0 = .ok (.iload_n 1, 1) := by decide +kernel
theorem dX1_step_1 : decode cX1_step 1 = .ok (.tableswitch 66 1 3 #[27, 40, 53], 27) := by decide +kernel
theorem dX1_step_28 : decode cX1_step 28 = .ok (.aload_n 0, 1) := by decide +kernel
theorem dX1_step_29 : decode cX1_step 29 = .ok (.dup, 1) := by decide +kernel
theorem dX1_step_30 : decode cX1_step 30 = .ok (.getfield 24, 3) := by decide +kernel
theorem dX1_step_33 : decode cX1_step 33 = .ok (.iconst 5, 1) := by decide +kernel
theorem dX1_step_34 : decode cX1_step 34 = .ok (.isub, 1) := by decide +kernel
theorem dX1_step_35 : decode cX1_step 35 = .ok (.putfield 24, 3) := by decide +kernel
theorem dX1_step_38 : decode cX1_step 38 = .ok (.goto 39, 3) := by decide +kernel
theorem dX1_step_41 : decode cX1_step 41 = .ok (.aload_n 0, 1) := by decide +kernel
theorem dX1_step_42 : decode cX1_step 42 = .ok (.dup, 1) := by decide +kernel
theorem dX1_step_43 : decode cX1_step 43 = .ok (.getfield 24, 3) := by decide +kernel
theorem dX1_step_46 : decode cX1_step 46 = .ok (.iconst 1, 1) := by decide +kernel
theorem dX1_step_47 : decode cX1_step 47 = .ok (.iadd, 1) := by decide +kernel
theorem dX1_step_48 : decode cX1_step 48 = .ok (.putfield 24, 3) := by decide +kernel
theorem dX1_step_51 : decode cX1_step 51 = .ok (.goto 26, 3) := by decide +kernel
theorem dX1_step_54 : decode cX1_step 54 = .ok (.aload_n 0, 1) := by decide +kernel
theorem dX1_step_55 : decode cX1_step 55 = .ok (.dup, 1) := by decide +kernel
theorem dX1_step_56 : decode cX1_step 56 = .ok (.getfield 24, 3) := by decide +kernel
theorem dX1_step_59 : decode cX1_step 59 = .ok (.iconst 5, 1) := by decide +kernel
theorem dX1_step_60 : decode cX1_step 60 = .ok (.iadd, 1) := by decide +kernel
theorem dX1_step_61 : decode cX1_step 61 = .ok (.putfield 24, 3) := by decide +kernel
theorem dX1_step_64 : decode cX1_step 64 = .ok (.goto 13, 3) := by decide +kernel
theorem dX1_step_67 : decode cX1_step 67 = .ok (.aload_n 0, 1) := by decide +kernel
theorem dX1_step_68 : decode cX1_step 68 = .ok (.dup, 1) := by decide +kernel
theorem dX1_step_69 : decode cX1_step 69 = .ok (.getfield 24, 3) := by decide +kernel
theorem dX1_step_72 : decode cX1_step 72 = .ok (.iconst 1, 1) := by decide +kernel
theorem dX1_step_73 : decode cX1_step 73 = .ok (.isub, 1) := by decide +kernel
theorem dX1_step_74 : decode cX1_step 74 = .ok (.putfield 24, 3) := by decide +kernel
theorem dX1_step_77 : decode cX1_step 77 = .ok (.return_, 1) := by decide +kernel
theorem dX1_crossesWith_0 : decode cX1_crossesWith 0 = .ok (.aload_n 0, 1) := by decide +kernel
theorem dX1_crossesWith_1 : decode cX1_crossesWith 1 = .ok (.getfield 24, 3) := by decide +kernel
theorem dX1_crossesWith_4 : decode cX1_crossesWith 4 = .ok (.aload_n 1, 1) := by decide +kernel
theorem dX1_crossesWith_5 : decode cX1_crossesWith 5 = .ok (.getfield 24, 3) := by decide +kernel
theorem dX1_crossesWith_8 : decode cX1_crossesWith 8 = .ok (.if_icmp .ne 43, 3) := by decide +kernel
theorem dX1_crossesWith_11 : decode cX1_crossesWith 11 = .ok (.aload_n 0, 1) := by decide +kernel
theorem dX1_crossesWith_12 : decode cX1_crossesWith 12 = .ok (.getfield 27, 3) := by decide +kernel
theorem dX1_crossesWith_15 : decode cX1_crossesWith 15 = .ok (.ifCond .le 36, 3) := by decide +kernel
theorem dX1_crossesWith_18 : decode cX1_crossesWith 18 = .ok (.aload_n 1, 1) := by decide +kernel
theorem dX1_crossesWith_19 : decode cX1_crossesWith 19 = .ok (.getfield 27, 3) := by decide +kernel
theorem dX1_crossesWith_22 : decode cX1_crossesWith 22 = .ok (.ifCond .le 29, 3) := by decide +kernel
theorem dX1_crossesWith_25 : decode cX1_crossesWith 25 = .ok (.aload_n 0, 1) := by decide +kernel
theorem dX1_crossesWith_26 : decode cX1_crossesWith 26 = .ok (.getfield 24, 3) := by decide +kernel
theorem dX1_crossesWith_29 : decode cX1_crossesWith 29 = .ok (.aload_n 0, 1) := by decide +kernel
theorem dX1_crossesWith_30 : decode cX1_crossesWith 30 = .ok (.getfield 43, 3) := by decide +kernel
theorem dX1_crossesWith_33 : decode cX1_crossesWith 33 = .ok (.if_icmp .ne 14, 3) := by decide +kernel
theorem dX1_crossesWith_36 : decode cX1_crossesWith 36 = .ok (.aload_n 1, 1) := by decide +kernel
theorem dX1_crossesWith_37 : decode cX1_crossesWith 37 = .ok (.getfield 24, 3) := by decide +kernel
theorem dX1_crossesWith_40 : decode cX1_crossesWith 40 = .ok (.aload_n 1, 1) := by decide +kernel
theorem dX1_crossesWith_41 : decode cX1_crossesWith 41 = .ok (.getfield 43, 3) := by decide +kernel
theorem dX1_crossesWith_44 : decode cX1_crossesWith 44 = .ok (.if_icmp .eq 7, 3) := by decide +kernel
theorem dX1_crossesWith_47 : decode cX1_crossesWith 47 = .ok (.iconst 1, 1) := by decide +kernel
theorem dX1_crossesWith_48 : decode cX1_crossesWith 48 = .ok (.goto 4, 3) := by decide +kernel
theorem dX1_crossesWith_51 : decode cX1_crossesWith 51 = .ok (.iconst 0, 1) := by decide +kernel
theorem dX1_crossesWith_52 : decode cX1_crossesWith 52 = .ok (.ireturn, 1) := by decide +kernel
theorem dX1_exchangeWith_0 : decode cX1_exchangeWith 0 = .ok (.aload_n 0, 1) := by decide +kernel
theorem dX1_exchangeWith_1 : decode cX1_exchangeWith 1 = .ok (.getfield 27, 3) := by decide +kernel
theorem dX1_exchangeWith_4 : decode cX1_exchangeWith 4 = .ok (.iconst 4, 1) := by decide +kernel
theorem dX1_exchangeWith_5 : decode cX1_exchangeWith 5 = .ok (.idiv, 1) := by decide +kernel
theorem dX1_exchangeWith_6 : decode cX1_exchangeWith 6 = .ok (.istore_n 2, 1) := by decide +kernel
theorem dX1_exchangeWith_7 : decode cX1_exchangeWith 7 = .ok (.aload_n 1, 1) := by decide +kernel
theorem dX1_exchangeWith_8 : decode cX1_exchangeWith 8 = .ok (.getfield 27, 3) := by decide +kernel
theorem dX1_exchangeWith_11 : decode cX1_exchangeWith 11 = .ok (.iconst 4, 1) := by decide +kernel
theorem dX1_exchangeWith_12 : decode cX1_exchangeWith 12 = .ok (.idiv, 1) := by decide +kernel
theorem dX1_exchangeWith_13 : decode cX1_exchangeWith 13 = .ok (.istore_n 3, 1) := by decide +kernel
theorem dX1_exchangeWith_14 : decode cX1_exchangeWith 14 = .ok (.aload_n 0, 1) := by decide +kernel
theorem dX1_exchangeWith_15 : decode cX1_exchangeWith 15 = .ok (.dup, 1) := by decide +kernel
theorem dX1_exchangeWith_16 : decode cX1_exchangeWith 16 = .ok (.getfield 27, 3) := by decide +kernel
theorem dX1_exchangeWith_19 : decode cX1_exchangeWith 19 = .ok (.iload_n 3, 1) := by decide +kernel
theorem dX1_exchangeWith_20 : decode cX1_exchangeWith 20 = .ok (.iload_n 2, 1) := by decide +kernel
theorem dX1_exchangeWith_21 : decode cX1_exchangeWith 21 = .ok (.isub, 1) := by decide +kernel
theorem dX1_exchangeWith_22 : decode cX1_exchangeWith 22 = .ok (.iadd, 1) := by decide +kernel
theorem dX1_exchangeWith_23 : decode cX1_exchangeWith 23 = .ok (.putfield 27, 3) := by decide +kernel
theorem dX1_exchangeWith_26 : decode cX1_exchangeWith 26 = .ok (.aload_n 1, 1) := by decide +kernel
theorem dX1_exchangeWith_27 : decode cX1_exchangeWith 27 = .ok (.dup, 1) := by decide +kernel
theorem dX1_exchangeWith_28 : decode cX1_exchangeWith 28 = .ok (.getfield 27, 3) := by decide +kernel
theorem dX1_exchangeWith_31 : decode cX1_exchangeWith 31 = .ok (.iload_n 2, 1) := by decide +kernel
theorem dX1_exchangeWith_32 : decode cX1_exchangeWith 32 = .ok (.iload_n 3, 1) := by decide +kernel
theorem dX1_exchangeWith_33 : decode cX1_exchangeWith 33 = .ok (.isub, 1) := by decide +kernel
theorem dX1_exchangeWith_34 : decode cX1_exchangeWith 34 = .ok (.iadd, 1) := by decide +kernel
theorem dX1_exchangeWith_35 : decode cX1_exchangeWith 35 = .ok (.putfield 27, 3) := by decide +kernel
theorem dX1_exchangeWith_38 : decode cX1_exchangeWith 38 = .ok (.return_, 1) := by decide +kernel
theorem dX2_init_0 : decode cX2_init 0 = .ok (.aload_n 0, 1) := by decide +kernel
theorem dX2_init_1 : decode cX2_init 1 = .ok (.invokespecial 1, 3) := by decide +kernel
theorem dX2_init_4 : decode cX2_init 4 = .ok (.return_, 1) := by decide +kernel
theorem dX2_bears_0 : decode cX2_bears 0 = .ok (.iload_n 1, 1) := by decide +kernel
theorem dX2_bears_1 : decode cX2_bears 1 = .ok (.bipush 20, 2) := by decide +kernel
theorem dX2_bears_3 : decode cX2_bears 3 = .ok (.if_icmp .le 7, 3) := by decide +kernel
theorem dX2_bears_6 : decode cX2_bears 6 = .ok (.iconst 1, 1) := by decide +kernel
theorem dX2_bears_7 : decode cX2_bears 7 = .ok (.goto 4, 3) := by decide +kernel
theorem dX2_bears_10 : decode cX2_bears 10 = .ok (.iconst 0, 1) := by decide +kernel
theorem dX2_bears_11 : decode cX2_bears 11 = .ok (.ireturn, 1) := by decide +kernel
theorem dX2_isUnder_0 : decode cX2_isUnder 0 = .ok (.iload_n 1, 1) := by decide +kernel
theorem dX2_isUnder_1 : decode cX2_isUnder 1 = .ok (.iconst 5, 1) := by decide +kernel
theorem dX2_isUnder_2 : decode cX2_isUnder 2 = .ok (.if_icmp .eq 11, 3) := by decide +kernel
theorem dX2_isUnder_5 : decode cX2_isUnder 5 = .ok (.aload_n 0, 1) := by decide +kernel
theorem dX2_isUnder_6 : decode cX2_isUnder 6 = .ok (.iload_n 1, 1) := by decide +kernel
theorem dX2_isUnder_7 : decode cX2_isUnder 7 = .ok (.invokespecial 7, 3) := by decide +kernel
theorem dX2_isUnder_10 : decode cX2_isUnder 10 = .ok (.ifCond .eq 7, 3) := by decide +kernel
theorem dX2_isUnder_13 : decode cX2_isUnder 13 = .ok (.iconst 1, 1) := by decide +kernel
theorem dX2_isUnder_14 : decode cX2_isUnder 14 = .ok (.goto 4, 3) := by decide +kernel
theorem dX2_isUnder_17 : decode cX2_isUnder 17 = .ok (.iconst 0, 1) := by decide +kernel
theorem dX2_isUnder_18 : decode cX2_isUnder 18 = .ok (.ireturn, 1) := by decide +kernel
theorem dX2_word_0 : decode cX2_word 0 = .ok (.ldc 11, 2) := by decide +kernel
theorem dX2_word_2 : decode cX2_word 2 = .ok (.areturn, 1) := by decide +kernel
theorem dX3_init_0 : decode cX3_init 0 = .ok (.aload_n 0, 1) := by decide +kernel
theorem dX3_init_1 : decode cX3_init 1 = .ok (.invokespecial 1, 3) := by decide +kernel
theorem dX3_init_4 : decode cX3_init 4 = .ok (.return_, 1) := by decide +kernel
theorem dX3_steps_0 : decode cX3_steps 0 = .ok (.iload_n 2, 1) := by decide +kernel
theorem dX3_steps_1 : decode cX3_steps 1 = .ok (.iconst 5, 1) := by decide +kernel
theorem dX3_steps_2 : decode cX3_steps 2 = .ok (.if_icmp .lt 14, 3) := by decide +kernel
theorem dX3_steps_5 : decode cX3_steps 5 = .ok (.aload_n 0, 1) := by decide +kernel
theorem dX3_steps_6 : decode cX3_steps 6 = .ok (.iload_n 1, 1) := by decide +kernel
theorem dX3_steps_7 : decode cX3_steps 7 = .ok (.iload_n 2, 1) := by decide +kernel
theorem dX3_steps_8 : decode cX3_steps 8 = .ok (.invokespecial 7, 3) := by decide +kernel
theorem dX3_steps_11 : decode cX3_steps 11 = .ok (.iconst 2, 1) := by decide +kernel
theorem dX3_steps_12 : decode cX3_steps 12 = .ok (.iadd, 1) := by decide +kernel
theorem dX3_steps_13 : decode cX3_steps 13 = .ok (.goto 9, 3) := by decide +kernel
theorem dX3_steps_16 : decode cX3_steps 16 = .ok (.aload_n 0, 1) := by decide +kernel
theorem dX3_steps_17 : decode cX3_steps 17 = .ok (.iload_n 1, 1) := by decide +kernel
theorem dX3_steps_18 : decode cX3_steps 18 = .ok (.iload_n 2, 1) := by decide +kernel
theorem dX3_steps_19 : decode cX3_steps 19 = .ok (.invokespecial 7, 3) := by decide +kernel
theorem dX3_steps_22 : decode cX3_steps 22 = .ok (.ireturn, 1) := by decide +kernel
theorem dX3_bears_0 : decode cX3_bears 0 = .ok (.iconst 1, 1) := by decide +kernel
theorem dX3_bears_1 : decode cX3_bears 1 = .ok (.ireturn, 1) := by decide +kernel
theorem dX3_isUnder_0 : decode cX3_isUnder 0 = .ok (.iload_n 1, 1) := by decide +kernel
theorem dX3_isUnder_1 : decode cX3_isUnder 1 = .ok (.iconst 4, 1) := by decide +kernel
theorem dX3_isUnder_2 : decode cX3_isUnder 2 = .ok (.if_icmp .eq 11, 3) := by decide +kernel
theorem dX3_isUnder_5 : decode cX3_isUnder 5 = .ok (.aload_n 0, 1) := by decide +kernel
theorem dX3_isUnder_6 : decode cX3_isUnder 6 = .ok (.iload_n 1, 1) := by decide +kernel
theorem dX3_isUnder_7 : decode cX3_isUnder 7 = .ok (.invokespecial 11, 3) := by decide +kernel
theorem dX3_isUnder_10 : decode cX3_isUnder 10 = .ok (.ifCond .eq 7, 3) := by decide +kernel
theorem dX3_isUnder_13 : decode cX3_isUnder 13 = .ok (.iconst 1, 1) := by decide +kernel
theorem dX3_isUnder_14 : decode cX3_isUnder 14 = .ok (.goto 4, 3) := by decide +kernel
theorem dX3_isUnder_17 : decode cX3_isUnder 17 = .ok (.iconst 0, 1) := by decide +kernel
theorem dX3_isUnder_18 : decode cX3_isUnder 18 = .ok (.ireturn, 1) := by decide +kernel
theorem dX3_word_0 : decode cX3_word 0 = .ok (.ldc 15, 2) := by decide +kernel
theorem dX3_word_2 : decode cX3_word 2 = .ok (.areturn, 1) := by decide +kernel
theorem dX4_init_0 : decode cX4_init 0 = .ok (.aload_n 0, 1) := by decide +kernel
theorem dX4_init_1 : decode cX4_init 1 = .ok (.invokespecial 1, 3) := by decide +kernel
theorem dX4_init_4 : decode cX4_init 4 = .ok (.return_, 1) := by decide +kernel
theorem dX4_burns_0 : decode cX4_burns 0 = .ok (.iconst 2, 1) := by decide +kernel
theorem dX4_burns_1 : decode cX4_burns 1 = .ok (.ireturn, 1) := by decide +kernel
theorem dX4_steps_0 : decode cX4_steps 0 = .ok (.iconst 1, 1) := by decide +kernel
theorem dX4_steps_1 : decode cX4_steps 1 = .ok (.ireturn, 1) := by decide +kernel
theorem dX4_bears_0 : decode cX4_bears 0 = .ok (.iconst 0, 1) := by decide +kernel
theorem dX4_bears_1 : decode cX4_bears 1 = .ok (.ireturn, 1) := by decide +kernel
theorem dX4_goesSidewaysFirst_0 : decode cX4_goesSidewaysFirst 0 = .ok (.iconst 0, 1) := by decide +kernel
theorem dX4_goesSidewaysFirst_1 : decode cX4_goesSidewaysFirst 1 = .ok (.ireturn, 1) := by decide +kernel
theorem dX4_isUnder_0 : decode cX4_isUnder 0 = .ok (.iload_n 1, 1) := by decide +kernel
theorem dX4_isUnder_1 : decode cX4_isUnder 1 = .ok (.ifCond .ne 7, 3) := by decide +kernel
theorem dX4_isUnder_4 : decode cX4_isUnder 4 = .ok (.iconst 1, 1) := by decide +kernel
theorem dX4_isUnder_5 : decode cX4_isUnder 5 = .ok (.goto 4, 3) := by decide +kernel
theorem dX4_isUnder_8 : decode cX4_isUnder 8 = .ok (.iconst 0, 1) := by decide +kernel
theorem dX4_isUnder_9 : decode cX4_isUnder 9 = .ok (.ireturn, 1) := by decide +kernel
theorem dX4_word_0 : decode cX4_word 0 = .ok (.ldc 7, 2) := by decide +kernel
theorem dX4_word_2 : decode cX4_word 2 = .ok (.areturn, 1) := by decide +kernel
theorem dX5_init_0 : decode cX5_init 0 = .ok (.aload_n 0, 1) := by decide +kernel
theorem dX5_init_1 : decode cX5_init 1 = .ok (.invokespecial 1, 3) := by decide +kernel
theorem dX5_init_4 : decode cX5_init 4 = .ok (.return_, 1) := by decide +kernel
theorem dX5_burns_0 : decode cX5_burns 0 = .ok (.iload_n 1, 1) := by decide +kernel
theorem dX5_burns_1 : decode cX5_burns 1 = .ok (.iconst 2, 1) := by decide +kernel
theorem dX5_burns_2 : decode cX5_burns 2 = .ok (.irem, 1) := by decide +kernel
theorem dX5_burns_3 : decode cX5_burns 3 = .ok (.ifCond .ne 13, 3) := by decide +kernel
theorem dX5_burns_6 : decode cX5_burns 6 = .ok (.aload_n 0, 1) := by decide +kernel
theorem dX5_burns_7 : decode cX5_burns 7 = .ok (.iload_n 1, 1) := by decide +kernel
theorem dX5_burns_8 : decode cX5_burns 8 = .ok (.invokespecial 7, 3) := by decide +kernel
theorem dX5_burns_11 : decode cX5_burns 11 = .ok (.iconst 2, 1) := by decide +kernel
theorem dX5_burns_12 : decode cX5_burns 12 = .ok (.iadd, 1) := by decide +kernel
theorem dX5_burns_13 : decode cX5_burns 13 = .ok (.goto 8, 3) := by decide +kernel
theorem dX5_burns_16 : decode cX5_burns 16 = .ok (.aload_n 0, 1) := by decide +kernel
theorem dX5_burns_17 : decode cX5_burns 17 = .ok (.iload_n 1, 1) := by decide +kernel
theorem dX5_burns_18 : decode cX5_burns 18 = .ok (.invokespecial 7, 3) := by decide +kernel
theorem dX5_burns_21 : decode cX5_burns 21 = .ok (.ireturn, 1) := by decide +kernel
theorem dX5_steps_0 : decode cX5_steps 0 = .ok (.iconst 1, 1) := by decide +kernel
theorem dX5_steps_1 : decode cX5_steps 1 = .ok (.ireturn, 1) := by decide +kernel
theorem dX5_goesSidewaysFirst_0 : decode cX5_goesSidewaysFirst 0 = .ok (.iconst 1, 1) := by decide +kernel
theorem dX5_goesSidewaysFirst_1 : decode cX5_goesSidewaysFirst 1 = .ok (.ireturn, 1) := by decide +kernel
theorem dX5_isUnder_0 : decode cX5_isUnder 0 = .ok (.iload_n 1, 1) := by decide +kernel
theorem dX5_isUnder_1 : decode cX5_isUnder 1 = .ok (.iconst 3, 1) := by decide +kernel
theorem dX5_isUnder_2 : decode cX5_isUnder 2 = .ok (.if_icmp .eq 11, 3) := by decide +kernel
theorem dX5_isUnder_5 : decode cX5_isUnder 5 = .ok (.aload_n 0, 1) := by decide +kernel
theorem dX5_isUnder_6 : decode cX5_isUnder 6 = .ok (.iload_n 1, 1) := by decide +kernel
theorem dX5_isUnder_7 : decode cX5_isUnder 7 = .ok (.invokespecial 11, 3) := by decide +kernel
theorem dX5_isUnder_10 : decode cX5_isUnder 10 = .ok (.ifCond .eq 7, 3) := by decide +kernel
theorem dX5_isUnder_13 : decode cX5_isUnder 13 = .ok (.iconst 1, 1) := by decide +kernel
theorem dX5_isUnder_14 : decode cX5_isUnder 14 = .ok (.goto 4, 3) := by decide +kernel
theorem dX5_isUnder_17 : decode cX5_isUnder 17 = .ok (.iconst 0, 1) := by decide +kernel
theorem dX5_isUnder_18 : decode cX5_isUnder 18 = .ok (.ireturn, 1) := by decide +kernel
theorem dX5_word_0 : decode cX5_word 0 = .ok (.ldc 15, 2) := by decide +kernel
theorem dX5_word_2 : decode cX5_word 2 = .ok (.areturn, 1) := by decide +kernel
theorem dX6_init_0 : decode cX6_init 0 = .ok (.aload_n 0, 1) := by decide +kernel
theorem dX6_init_1 : decode cX6_init 1 = .ok (.invokespecial 1, 3) := by decide +kernel
theorem dX6_init_4 : decode cX6_init 4 = .ok (.return_, 1) := by decide +kernel
theorem dX6_burns_0 : decode cX6_burns 0 = .ok (.aload_n 0, 1) := by decide +kernel
theorem dX6_burns_1 : decode cX6_burns 1 = .ok (.iload_n 1, 1) := by decide +kernel
theorem dX6_burns_2 : decode cX6_burns 2 = .ok (.invokespecial 7, 3) := by decide +kernel
theorem dX6_burns_5 : decode cX6_burns 5 = .ok (.iconst 2, 1) := by decide +kernel
theorem dX6_burns_6 : decode cX6_burns 6 = .ok (.idiv, 1) := by decide +kernel
theorem dX6_burns_7 : decode cX6_burns 7 = .ok (.ireturn, 1) := by decide +kernel
theorem dX6_steps_0 : decode cX6_steps 0 = .ok (.iload_n 1, 1) := by decide +kernel
theorem dX6_steps_1 : decode cX6_steps 1 = .ok (.iconst 3, 1) := by decide +kernel
theorem dX6_steps_2 : decode cX6_steps 2 = .ok (.irem, 1) := by decide +kernel
theorem dX6_steps_3 : decode cX6_steps 3 = .ok (.ifCond .ne 12, 3) := by decide +kernel
theorem dX6_steps_6 : decode cX6_steps 6 = .ok (.aload_n 0, 1) := by decide +kernel
theorem dX6_steps_7 : decode cX6_steps 7 = .ok (.iload_n 1, 1) := by decide +kernel
theorem dX6_steps_8 : decode cX6_steps 8 = .ok (.iload_n 2, 1) := by decide +kernel
theorem dX6_steps_9 : decode cX6_steps 9 = .ok (.invokespecial 11, 3) := by decide +kernel
theorem dX6_steps_12 : decode cX6_steps 12 = .ok (.goto 4, 3) := by decide +kernel
theorem dX6_steps_15 : decode cX6_steps 15 = .ok (.iconst 0, 1) := by decide +kernel
theorem dX6_steps_16 : decode cX6_steps 16 = .ok (.ireturn, 1) := by decide +kernel
theorem dX6_isUnder_0 : decode cX6_isUnder 0 = .ok (.iload_n 1, 1) := by decide +kernel
theorem dX6_isUnder_1 : decode cX6_isUnder 1 = .ok (.iconst 2, 1) := by decide +kernel
theorem dX6_isUnder_2 : decode cX6_isUnder 2 = .ok (.if_icmp .eq 11, 3) := by decide +kernel
theorem dX6_isUnder_5 : decode cX6_isUnder 5 = .ok (.aload_n 0, 1) := by decide +kernel
theorem dX6_isUnder_6 : decode cX6_isUnder 6 = .ok (.iload_n 1, 1) := by decide +kernel
theorem dX6_isUnder_7 : decode cX6_isUnder 7 = .ok (.invokespecial 15, 3) := by decide +kernel
theorem dX6_isUnder_10 : decode cX6_isUnder 10 = .ok (.ifCond .eq 7, 3) := by decide +kernel
theorem dX6_isUnder_13 : decode cX6_isUnder 13 = .ok (.iconst 1, 1) := by decide +kernel
theorem dX6_isUnder_14 : decode cX6_isUnder 14 = .ok (.goto 4, 3) := by decide +kernel
theorem dX6_isUnder_17 : decode cX6_isUnder 17 = .ok (.iconst 0, 1) := by decide +kernel
theorem dX6_isUnder_18 : decode cX6_isUnder 18 = .ok (.ireturn, 1) := by decide +kernel
theorem dX6_word_0 : decode cX6_word 0 = .ok (.ldc 19, 2) := by decide +kernel
theorem dX6_word_2 : decode cX6_word 2 = .ok (.areturn, 1) := by decide +kernel
theorem dX7_init_0 : decode cX7_init 0 = .ok (.aload_n 0, 1) := by decide +kernel
theorem dX7_init_1 : decode cX7_init 1 = .ok (.invokespecial 3, 3) := by decide +kernel
theorem dX7_init_4 : decode cX7_init 4 = .ok (.aload_n 0, 1) := by decide +kernel
theorem dX7_init_5 : decode cX7_init 5 = .ok (.bipush 120, 2) := by decide +kernel
theorem dX7_init_7 : decode cX7_init 7 = .ok (.newarray .byte, 2) := by decide +kernel
theorem dX7_init_9 : decode cX7_init 9 = .ok (.putfield 9, 3) := by decide +kernel
theorem dX7_init_12 : decode cX7_init 12 = .ok (.return_, 1) := by decide +kernel
theorem dX7_put_0 : decode cX7_put 0 = .ok (.aload_n 0, 1) := by decide +kernel
theorem dX7_put_1 : decode cX7_put 1 = .ok (.getfield 9, 3) := by decide +kernel
theorem dX7_put_4 : decode cX7_put 4 = .ok (.aload_n 0, 1) := by decide +kernel
theorem dX7_put_5 : decode cX7_put 5 = .ok (.getfield 15, 3) := by decide +kernel
theorem dX7_put_8 : decode cX7_put 8 = .ok (.iload_n 1, 1) := by decide +kernel
theorem dX7_put_9 : decode cX7_put 9 = .ok (.i2b, 1) := by decide +kernel
theorem dX7_put_10 : decode cX7_put 10 = .ok (.bastore, 1) := by decide +kernel
theorem dX7_put_11 : decode cX7_put 11 = .ok (.aload_n 0, 1) := by decide +kernel
theorem dX7_put_12 : decode cX7_put 12 = .ok (.dup, 1) := by decide +kernel
theorem dX7_put_13 : decode cX7_put 13 = .ok (.getfield 15, 3) := by decide +kernel
theorem dX7_put_16 : decode cX7_put 16 = .ok (.iconst 1, 1) := by decide +kernel
theorem dX7_put_17 : decode cX7_put 17 = .ok (.iadd, 1) := by decide +kernel
theorem dX7_put_18 : decode cX7_put 18 = .ok (.putfield 15, 3) := by decide +kernel
theorem dX7_put_21 : decode cX7_put 21 = .ok (.return_, 1) := by decide +kernel
theorem dX7_readInto_0 : decode cX7_readInto 0 = .ok (.aload_n 0, 1) := by decide +kernel
theorem dX7_readInto_1 : decode cX7_readInto 1 = .ok (.iconst 0, 1) := by decide +kernel
theorem dX7_readInto_2 : decode cX7_readInto 2 = .ok (.putfield 19, 3) := by decide +kernel
theorem dX7_readInto_5 : decode cX7_readInto 5 = .ok (.aload_n 0, 1) := by decide +kernel
theorem dX7_readInto_6 : decode cX7_readInto 6 = .ok (.invokevirtual 22, 3) := by decide +kernel
theorem dX7_readInto_9 : decode cX7_readInto 9 = .ok (.iconst 1, 1) := by decide +kernel
theorem dX7_readInto_10 : decode cX7_readInto 10 = .ok (.istore_n 2, 1) := by decide +kernel
theorem dX7_readInto_11 : decode cX7_readInto 11 = .ok (.iload_n 2, 1) := by decide +kernel
theorem dX7_readInto_12 : decode cX7_readInto 12 = .ok (.bipush 120, 2) := by decide +kernel
theorem dX7_readInto_14 : decode cX7_readInto 14 = .ok (.if_icmp .gt 41, 3) := by decide +kernel
theorem dX7_readInto_17 : decode cX7_readInto 17 = .ok (.aload_n 0, 1) := by decide +kernel
theorem dX7_readInto_18 : decode cX7_readInto 18 = .ok (.aload_n 1, 1) := by decide +kernel
theorem dX7_readInto_19 : decode cX7_readInto 19 = .ok (.invokevirtual 25, 3) := by decide +kernel
theorem dX7_readInto_22 : decode cX7_readInto 22 = .ok (.ifCond .eq 33, 3) := by decide +kernel
theorem dX7_readInto_25 : decode cX7_readInto 25 = .ok (.aload_n 0, 1) := by decide +kernel
theorem dX7_readInto_26 : decode cX7_readInto 26 = .ok (.getfield 29, 3) := by decide +kernel
theorem dX7_readInto_29 : decode cX7_readInto 29 = .ok (.ifCond .ne 5, 3) := by decide +kernel
theorem dX7_readInto_32 : decode cX7_readInto 32 = .ok (.iload_n 2, 1) := by decide +kernel
theorem dX7_readInto_33 : decode cX7_readInto 33 = .ok (.ireturn, 1) := by decide +kernel
theorem dX7_readInto_34 : decode cX7_readInto 34 = .ok (.aload_n 0, 1) := by decide +kernel
theorem dX7_readInto_35 : decode cX7_readInto 35 = .ok (.getfield 29, 3) := by decide +kernel
theorem dX7_readInto_38 : decode cX7_readInto 38 = .ok (.iconst 3, 1) := by decide +kernel
theorem dX7_readInto_39 : decode cX7_readInto 39 = .ok (.if_icmp .eq 6, 3) := by decide +kernel
theorem dX7_readInto_42 : decode cX7_readInto 42 = .ok (.goto 13, 3) := by decide +kernel
theorem dX7_readInto_45 : decode cX7_readInto 45 = .ok (.aload_n 0, 1) := by decide +kernel
theorem dX7_readInto_46 : decode cX7_readInto 46 = .ok (.invokevirtual 22, 3) := by decide +kernel
theorem dX7_readInto_49 : decode cX7_readInto 49 = .ok (.iinc 2 1, 3) := by decide +kernel
theorem dX7_readInto_52 : decode cX7_readInto 52 = .ok (.goto (-41), 3) := by decide +kernel
theorem dX7_readInto_55 : decode cX7_readInto 55 = .ok (.iconst (-1), 1) := by decide +kernel
theorem dX7_readInto_56 : decode cX7_readInto 56 = .ok (.aload_n 0, 1) := by decide +kernel
theorem dX7_readInto_57 : decode cX7_readInto 57 = .ok (.getfield 32, 3) := by decide +kernel
theorem dX7_readInto_60 : decode cX7_readInto 60 = .ok (.isub, 1) := by decide +kernel
theorem dX7_readInto_61 : decode cX7_readInto 61 = .ok (.ireturn, 1) := by decide +kernel
theorem dX7_readItem_0 : decode cX7_readItem 0 = .ok (.aload_n 0, 1) := by decide +kernel
theorem dX7_readItem_1 : decode cX7_readItem 1 = .ok (.ldc 35, 2) := by decide +kernel
theorem dX7_readItem_3 : decode cX7_readItem 3 = .ok (.invokevirtual 37, 3) := by decide +kernel
theorem dX7_readItem_6 : decode cX7_readItem 6 = .ok (.ifCond .eq 9, 3) := by decide +kernel
theorem dX7_readItem_9 : decode cX7_readItem 9 = .ok (.aload_n 0, 1) := by decide +kernel
theorem dX7_readItem_10 : decode cX7_readItem 10 = .ok (.aload_n 1, 1) := by decide +kernel
theorem dX7_readItem_11 : decode cX7_readItem 11 = .ok (.invokevirtual 41, 3) := by decide +kernel
theorem dX7_readItem_14 : decode cX7_readItem 14 = .ok (.ireturn, 1) := by decide +kernel
theorem dX7_readItem_15 : decode cX7_readItem 15 = .ok (.aload_n 0, 1) := by decide +kernel
theorem dX7_readItem_16 : decode cX7_readItem 16 = .ok (.ldc 44, 2) := by decide +kernel
theorem dX7_readItem_18 : decode cX7_readItem 18 = .ok (.invokevirtual 37, 3) := by decide +kernel
theorem dX7_readItem_21 : decode cX7_readItem 21 = .ok (.ifCond .eq 9, 3) := by decide +kernel
theorem dX7_readItem_24 : decode cX7_readItem 24 = .ok (.aload_n 0, 1) := by decide +kernel
theorem dX7_readItem_25 : decode cX7_readItem 25 = .ok (.aload_n 1, 1) := by decide +kernel
theorem dX7_readItem_26 : decode cX7_readItem 26 = .ok (.invokevirtual 46, 3) := by decide +kernel
theorem dX7_readItem_29 : decode cX7_readItem 29 = .ok (.ireturn, 1) := by decide +kernel
theorem dX7_readItem_30 : decode cX7_readItem 30 = .ok (.aload_n 0, 1) := by decide +kernel
theorem dX7_readItem_31 : decode cX7_readItem 31 = .ok (.aload_n 1, 1) := by decide +kernel
theorem dX7_readItem_32 : decode cX7_readItem 32 = .ok (.invokevirtual 49, 3) := by decide +kernel
theorem dX7_readItem_35 : decode cX7_readItem 35 = .ok (.istore_n 2, 1) := by decide +kernel
theorem dX7_readItem_36 : decode cX7_readItem 36 = .ok (.iload_n 2, 1) := by decide +kernel
theorem dX7_readItem_37 : decode cX7_readItem 37 = .ok (.iconst (-1), 1) := by decide +kernel
theorem dX7_readItem_38 : decode cX7_readItem 38 = .ok (.if_icmp .eq 10, 3) := by decide +kernel
theorem dX7_readItem_41 : decode cX7_readItem 41 = .ok (.aload_n 1, 1) := by decide +kernel
theorem dX7_readItem_42 : decode cX7_readItem 42 = .ok (.invokevirtual 53, 3) := by decide +kernel
theorem dX7_readItem_45 : decode cX7_readItem 45 = .ok (.ifCond .eq 5, 3) := by decide +kernel
theorem dX7_readItem_48 : decode cX7_readItem 48 = .ok (.iconst 0, 1) := by decide +kernel
theorem dX7_readItem_49 : decode cX7_readItem 49 = .ok (.ireturn, 1) := by decide +kernel
theorem dX7_readItem_50 : decode cX7_readItem 50 = .ok (.aload_n 0, 1) := by decide +kernel
theorem dX7_readItem_51 : decode cX7_readItem 51 = .ok (.invokevirtual 22, 3) := by decide +kernel
theorem dX7_readItem_54 : decode cX7_readItem 54 = .ok (.aload_n 0, 1) := by decide +kernel
theorem dX7_readItem_55 : decode cX7_readItem 55 = .ok (.ldc 59, 2) := by decide +kernel
theorem dX7_readItem_57 : decode cX7_readItem 57 = .ok (.bipush 24, 2) := by decide +kernel
theorem dX7_readItem_59 : decode cX7_readItem 59 = .ok (.iconst 0, 1) := by decide +kernel
theorem dX7_readItem_60 : decode cX7_readItem 60 = .ok (.invokevirtual 61, 3) := by decide +kernel
theorem dX7_readItem_63 : decode cX7_readItem 63 = .ok (.istore_n 3, 1) := by decide +kernel
theorem dX7_readItem_64 : decode cX7_readItem 64 = .ok (.iload_n 3, 1) := by decide +kernel
theorem dX7_readItem_65 : decode cX7_readItem 65 = .ok (.iconst (-1), 1) := by decide +kernel
theorem dX7_readItem_66 : decode cX7_readItem 66 = .ok (.if_icmp .ne 5, 3) := by decide +kernel
theorem dX7_readItem_69 : decode cX7_readItem 69 = .ok (.iconst 0, 1) := by decide +kernel
theorem dX7_readItem_70 : decode cX7_readItem 70 = .ok (.ireturn, 1) := by decide +kernel
theorem dX7_readItem_71 : decode cX7_readItem 71 = .ok (.aload_n 0, 1) := by decide +kernel
theorem dX7_readItem_72 : decode cX7_readItem 72 = .ok (.ldc 65, 2) := by decide +kernel
theorem dX7_readItem_74 : decode cX7_readItem 74 = .ok (.bipush 24, 2) := by decide +kernel
theorem dX7_readItem_76 : decode cX7_readItem 76 = .ok (.iload_n 3, 1) := by decide +kernel
theorem dX7_readItem_77 : decode cX7_readItem 77 = .ok (.invokevirtual 61, 3) := by decide +kernel
theorem dX7_readItem_80 : decode cX7_readItem 80 = .ok (.istore 4, 2) := by decide +kernel
theorem dX7_readItem_82 : decode cX7_readItem 82 = .ok (.iload 4, 2) := by decide +kernel
theorem dX7_readItem_84 : decode cX7_readItem 84 = .ok (.iconst (-1), 1) := by decide +kernel
theorem dX7_readItem_85 : decode cX7_readItem 85 = .ok (.if_icmp .ne 5, 3) := by decide +kernel
theorem dX7_readItem_88 : decode cX7_readItem 88 = .ok (.iconst 0, 1) := by decide +kernel
theorem dX7_readItem_89 : decode cX7_readItem 89 = .ok (.ireturn, 1) := by decide +kernel
theorem dX7_readItem_90 : decode cX7_readItem 90 = .ok (.aload_n 0, 1) := by decide +kernel
theorem dX7_readItem_91 : decode cX7_readItem 91 = .ok (.ldc 67, 2) := by decide +kernel
theorem dX7_readItem_93 : decode cX7_readItem 93 = .ok (.sipush 999, 3) := by decide +kernel
theorem dX7_readItem_96 : decode cX7_readItem 96 = .ok (.bipush 50, 2) := by decide +kernel
theorem dX7_readItem_98 : decode cX7_readItem 98 = .ok (.invokevirtual 61, 3) := by decide +kernel
theorem dX7_readItem_101 : decode cX7_readItem 101 = .ok (.istore 5, 2) := by decide +kernel
theorem dX7_readItem_103 : decode cX7_readItem 103 = .ok (.iload 5, 2) := by decide +kernel
theorem dX7_readItem_105 : decode cX7_readItem 105 = .ok (.iconst (-1), 1) := by decide +kernel
theorem dX7_readItem_106 : decode cX7_readItem 106 = .ok (.if_icmp .ne 5, 3) := by decide +kernel
theorem dX7_readItem_109 : decode cX7_readItem 109 = .ok (.iconst 0, 1) := by decide +kernel
theorem dX7_readItem_110 : decode cX7_readItem 110 = .ok (.ireturn, 1) := by decide +kernel
theorem dX7_readItem_111 : decode cX7_readItem 111 = .ok (.aload_n 1, 1) := by decide +kernel
theorem dX7_readItem_112 : decode cX7_readItem 112 = .ok (.iload_n 2, 1) := by decide +kernel
theorem dX7_readItem_113 : decode cX7_readItem 113 = .ok (.iload_n 3, 1) := by decide +kernel
theorem dX7_readItem_114 : decode cX7_readItem 114 = .ok (.iload 4, 2) := by decide +kernel
theorem dX7_readItem_116 : decode cX7_readItem 116 = .ok (.iload 5, 2) := by decide +kernel
theorem dX7_readItem_118 : decode cX7_readItem 118 = .ok (.invokevirtual 69, 3) := by decide +kernel
theorem dX7_readItem_121 : decode cX7_readItem 121 = .ok (.pop, 1) := by decide +kernel
theorem dX7_readItem_122 : decode cX7_readItem 122 = .ok (.iconst 1, 1) := by decide +kernel
theorem dX7_readItem_123 : decode cX7_readItem 123 = .ok (.ireturn, 1) := by decide +kernel
theorem dX7_kindTold_0 : decode cX7_kindTold 0 = .ok (.iconst 0, 1) := by decide +kernel
theorem dX7_kindTold_1 : decode cX7_kindTold 1 = .ok (.istore_n 2, 1) := by decide +kernel
theorem dX7_kindTold_2 : decode cX7_kindTold 2 = .ok (.iload_n 2, 1) := by decide +kernel
theorem dX7_kindTold_3 : decode cX7_kindTold 3 = .ok (.bipush 6, 2) := by decide +kernel
theorem dX7_kindTold_5 : decode cX7_kindTold 5 = .ok (.if_icmp .gt 27, 3) := by decide +kernel
theorem dX7_kindTold_8 : decode cX7_kindTold 8 = .ok (.aload_n 0, 1) := by decide +kernel
theorem dX7_kindTold_9 : decode cX7_kindTold 9 = .ok (.aload_n 1, 1) := by decide +kernel
theorem dX7_kindTold_10 : decode cX7_kindTold 10 = .ok (.getfield 73, 3) := by decide +kernel
theorem dX7_kindTold_13 : decode cX7_kindTold 13 = .ok (.iload_n 2, 1) := by decide +kernel
theorem dX7_kindTold_14 : decode cX7_kindTold 14 = .ok (.aaload, 1) := by decide +kernel
theorem dX7_kindTold_15 : decode cX7_kindTold 15 = .ok (.invokevirtual 77, 3) := by decide +kernel
theorem dX7_kindTold_18 : decode cX7_kindTold 18 = .ok (.invokevirtual 37, 3) := by decide +kernel
theorem dX7_kindTold_21 : decode cX7_kindTold 21 = .ok (.ifCond .eq 5, 3) := by decide +kernel
theorem dX7_kindTold_24 : decode cX7_kindTold 24 = .ok (.iload_n 2, 1) := by decide +kernel
theorem dX7_kindTold_25 : decode cX7_kindTold 25 = .ok (.ireturn, 1) := by decide +kernel
theorem dX7_kindTold_26 : decode cX7_kindTold 26 = .ok (.iinc 2 1, 3) := by decide +kernel
theorem dX7_kindTold_29 : decode cX7_kindTold 29 = .ok (.goto (-27), 3) := by decide +kernel
theorem dX7_kindTold_32 : decode cX7_kindTold 32 = .ok (.iconst (-1), 1) := by decide +kernel
theorem dX7_kindTold_33 : decode cX7_kindTold 33 = .ok (.ireturn, 1) := by decide +kernel
theorem dX7_readWind_0 : decode cX7_readWind 0 = .ok (.aload_n 0, 1) := by decide +kernel
theorem dX7_readWind_1 : decode cX7_readWind 1 = .ok (.invokevirtual 22, 3) := by decide +kernel
theorem dX7_readWind_4 : decode cX7_readWind 4 = .ok (.aload_n 0, 1) := by decide +kernel
theorem dX7_readWind_5 : decode cX7_readWind 5 = .ok (.iconst 4, 1) := by decide +kernel
theorem dX7_readWind_6 : decode cX7_readWind 6 = .ok (.invokevirtual 83, 3) := by decide +kernel
theorem dX7_readWind_9 : decode cX7_readWind 9 = .ok (.istore_n 2, 1) := by decide +kernel
theorem dX7_readWind_10 : decode cX7_readWind 10 = .ok (.iload_n 2, 1) := by decide +kernel
theorem dX7_readWind_11 : decode cX7_readWind 11 = .ok (.iconst (-1), 1) := by decide +kernel
theorem dX7_readWind_12 : decode cX7_readWind 12 = .ok (.if_icmp .ne 5, 3) := by decide +kernel
theorem dX7_readWind_15 : decode cX7_readWind 15 = .ok (.iconst 0, 1) := by decide +kernel
theorem dX7_readWind_16 : decode cX7_readWind 16 = .ok (.ireturn, 1) := by decide +kernel
theorem dX7_readWind_17 : decode cX7_readWind 17 = .ok (.aload_n 1, 1) := by decide +kernel
theorem dX7_readWind_18 : decode cX7_readWind 18 = .ok (.iload_n 2, 1) := by decide +kernel
theorem dX7_readWind_19 : decode cX7_readWind 19 = .ok (.putfield 87, 3) := by decide +kernel
theorem dX7_readWind_22 : decode cX7_readWind 22 = .ok (.iconst 1, 1) := by decide +kernel
theorem dX7_readWind_23 : decode cX7_readWind 23 = .ok (.ireturn, 1) := by decide +kernel
theorem dX7_readWood_0 : decode cX7_readWood 0 = .ok (.aload_n 0, 1) := by decide +kernel
theorem dX7_readWood_1 : decode cX7_readWood 1 = .ok (.invokevirtual 22, 3) := by decide +kernel
theorem dX7_readWood_4 : decode cX7_readWood 4 = .ok (.aload_n 0, 1) := by decide +kernel
theorem dX7_readWood_5 : decode cX7_readWood 5 = .ok (.bipush 24, 2) := by decide +kernel
theorem dX7_readWood_7 : decode cX7_readWood 7 = .ok (.invokevirtual 83, 3) := by decide +kernel
theorem dX7_readWood_10 : decode cX7_readWood 10 = .ok (.istore_n 2, 1) := by decide +kernel
theorem dX7_readWood_11 : decode cX7_readWood 11 = .ok (.iload_n 2, 1) := by decide +kernel
theorem dX7_readWood_12 : decode cX7_readWood 12 = .ok (.iconst (-1), 1) := by decide +kernel
theorem dX7_readWood_13 : decode cX7_readWood 13 = .ok (.if_icmp .ne 5, 3) := by decide +kernel
theorem dX7_readWood_16 : decode cX7_readWood 16 = .ok (.iconst 0, 1) := by decide +kernel
theorem dX7_readWood_17 : decode cX7_readWood 17 = .ok (.ireturn, 1) := by decide +kernel
theorem dX7_readWood_18 : decode cX7_readWood 18 = .ok (.aload_n 0, 1) := by decide +kernel
theorem dX7_readWood_19 : decode cX7_readWood 19 = .ok (.sipush 9999, 3) := by decide +kernel
theorem dX7_readWood_22 : decode cX7_readWood 22 = .ok (.invokevirtual 83, 3) := by decide +kernel
theorem dX7_readWood_25 : decode cX7_readWood 25 = .ok (.istore_n 3, 1) := by decide +kernel
theorem dX7_readWood_26 : decode cX7_readWood 26 = .ok (.iload_n 3, 1) := by decide +kernel
theorem dX7_readWood_27 : decode cX7_readWood 27 = .ok (.iconst (-1), 1) := by decide +kernel
theorem dX7_readWood_28 : decode cX7_readWood 28 = .ok (.if_icmp .ne 5, 3) := by decide +kernel
theorem dX7_readWood_31 : decode cX7_readWood 31 = .ok (.iconst 0, 1) := by decide +kernel
theorem dX7_readWood_32 : decode cX7_readWood 32 = .ok (.ireturn, 1) := by decide +kernel
theorem dX7_readWood_33 : decode cX7_readWood 33 = .ok (.aload_n 1, 1) := by decide +kernel
theorem dX7_readWood_34 : decode cX7_readWood 34 = .ok (.getfield 90, 3) := by decide +kernel
theorem dX7_readWood_37 : decode cX7_readWood 37 = .ok (.iload_n 2, 1) := by decide +kernel
theorem dX7_readWood_38 : decode cX7_readWood 38 = .ok (.iload_n 3, 1) := by decide +kernel
theorem dX7_readWood_39 : decode cX7_readWood 39 = .ok (.iastore, 1) := by decide +kernel
theorem dX7_readWood_40 : decode cX7_readWood 40 = .ok (.iconst 1, 1) := by decide +kernel
theorem dX7_readWood_41 : decode cX7_readWood 41 = .ok (.ireturn, 1) := by decide +kernel
theorem dX7_takePart_0 : decode cX7_takePart 0 = .ok (.aload_n 0, 1) := by decide +kernel
theorem dX7_takePart_1 : decode cX7_takePart 1 = .ok (.aload_n 1, 1) := by decide +kernel
theorem dX7_takePart_2 : decode cX7_takePart 2 = .ok (.invokevirtual 37, 3) := by decide +kernel
theorem dX7_takePart_5 : decode cX7_takePart 5 = .ok (.ifCond .ne 5, 3) := by decide +kernel
theorem dX7_takePart_8 : decode cX7_takePart 8 = .ok (.iload_n 3, 1) := by decide +kernel
theorem dX7_takePart_9 : decode cX7_takePart 9 = .ok (.ireturn, 1) := by decide +kernel
theorem dX7_takePart_10 : decode cX7_takePart 10 = .ok (.aload_n 0, 1) := by decide +kernel
theorem dX7_takePart_11 : decode cX7_takePart 11 = .ok (.invokevirtual 22, 3) := by decide +kernel
theorem dX7_takePart_14 : decode cX7_takePart 14 = .ok (.aload_n 0, 1) := by decide +kernel
theorem dX7_takePart_15 : decode cX7_takePart 15 = .ok (.iload_n 2, 1) := by decide +kernel
theorem dX7_takePart_16 : decode cX7_takePart 16 = .ok (.invokevirtual 83, 3) := by decide +kernel
theorem dX7_takePart_19 : decode cX7_takePart 19 = .ok (.ireturn, 1) := by decide +kernel
theorem dX7_takeNumber_0 : decode cX7_takeNumber 0 = .ok (.aload_n 0, 1) := by decide +kernel
theorem dX7_takeNumber_1 : decode cX7_takeNumber 1 = .ok (.getfield 29, 3) := by decide +kernel
theorem dX7_takeNumber_4 : decode cX7_takeNumber 4 = .ok (.iconst 2, 1) := by decide +kernel
theorem dX7_takeNumber_5 : decode cX7_takeNumber 5 = .ok (.if_icmp .ne 11, 3) := by decide +kernel
theorem dX7_takeNumber_8 : decode cX7_takeNumber 8 = .ok (.aload_n 0, 1) := by decide +kernel
theorem dX7_takeNumber_9 : decode cX7_takeNumber 9 = .ok (.getfield 94, 3) := by decide +kernel
theorem dX7_takeNumber_12 : decode cX7_takeNumber 12 = .ok (.iload_n 1, 1) := by decide +kernel
theorem dX7_takeNumber_13 : decode cX7_takeNumber 13 = .ok (.if_icmp .le 5, 3) := by decide +kernel
theorem dX7_takeNumber_16 : decode cX7_takeNumber 16 = .ok (.iconst (-1), 1) := by decide +kernel
theorem dX7_takeNumber_17 : decode cX7_takeNumber 17 = .ok (.ireturn, 1) := by decide +kernel
theorem dX7_takeNumber_18 : decode cX7_takeNumber 18 = .ok (.aload_n 0, 1) := by decide +kernel
theorem dX7_takeNumber_19 : decode cX7_takeNumber 19 = .ok (.getfield 94, 3) := by decide +kernel
theorem dX7_takeNumber_22 : decode cX7_takeNumber 22 = .ok (.istore_n 2, 1) := by decide +kernel
theorem dX7_takeNumber_23 : decode cX7_takeNumber 23 = .ok (.aload_n 0, 1) := by decide +kernel
theorem dX7_takeNumber_24 : decode cX7_takeNumber 24 = .ok (.invokevirtual 22, 3) := by decide +kernel
theorem dX7_takeNumber_27 : decode cX7_takeNumber 27 = .ok (.iload_n 2, 1) := by decide +kernel
theorem dX7_takeNumber_28 : decode cX7_takeNumber 28 = .ok (.ireturn, 1) := by decide +kernel
theorem dX7_isWord_0 : decode cX7_isWord 0 = .ok (.aload_n 0, 1) := by decide +kernel
theorem dX7_isWord_1 : decode cX7_isWord 1 = .ok (.getfield 29, 3) := by decide +kernel
theorem dX7_isWord_4 : decode cX7_isWord 4 = .ok (.iconst 1, 1) := by decide +kernel
theorem dX7_isWord_5 : decode cX7_isWord 5 = .ok (.if_icmp .ne 19, 3) := by decide +kernel
theorem dX7_isWord_8 : decode cX7_isWord 8 = .ok (.aload_n 0, 1) := by decide +kernel
theorem dX7_isWord_9 : decode cX7_isWord 9 = .ok (.getfield 19, 3) := by decide +kernel
theorem dX7_isWord_12 : decode cX7_isWord 12 = .ok (.aload_n 0, 1) := by decide +kernel
theorem dX7_isWord_13 : decode cX7_isWord 13 = .ok (.getfield 32, 3) := by decide +kernel
theorem dX7_isWord_16 : decode cX7_isWord 16 = .ok (.isub, 1) := by decide +kernel
theorem dX7_isWord_17 : decode cX7_isWord 17 = .ok (.aload_n 1, 1) := by decide +kernel
theorem dX7_isWord_18 : decode cX7_isWord 18 = .ok (.invokevirtual 97, 3) := by decide +kernel
theorem dX7_isWord_21 : decode cX7_isWord 21 = .ok (.if_icmp .eq 5, 3) := by decide +kernel
theorem dX7_isWord_24 : decode cX7_isWord 24 = .ok (.iconst 0, 1) := by decide +kernel
theorem dX7_isWord_25 : decode cX7_isWord 25 = .ok (.ireturn, 1) := by decide +kernel
theorem dX7_isWord_26 : decode cX7_isWord 26 = .ok (.iconst 0, 1) := by decide +kernel
theorem dX7_isWord_27 : decode cX7_isWord 27 = .ok (.istore_n 2, 1) := by decide +kernel
theorem dX7_isWord_28 : decode cX7_isWord 28 = .ok (.iload_n 2, 1) := by decide +kernel
theorem dX7_isWord_29 : decode cX7_isWord 29 = .ok (.aload_n 1, 1) := by decide +kernel
theorem dX7_isWord_30 : decode cX7_isWord 30 = .ok (.invokevirtual 97, 3) := by decide +kernel
theorem dX7_isWord_33 : decode cX7_isWord 33 = .ok (.if_icmp .ge 30, 3) := by decide +kernel
theorem dX7_isWord_36 : decode cX7_isWord 36 = .ok (.aload_n 0, 1) := by decide +kernel
theorem dX7_isWord_37 : decode cX7_isWord 37 = .ok (.getfield 9, 3) := by decide +kernel
theorem dX7_isWord_40 : decode cX7_isWord 40 = .ok (.aload_n 0, 1) := by decide +kernel
theorem dX7_isWord_41 : decode cX7_isWord 41 = .ok (.getfield 32, 3) := by decide +kernel
theorem dX7_isWord_44 : decode cX7_isWord 44 = .ok (.iload_n 2, 1) := by decide +kernel
theorem dX7_isWord_45 : decode cX7_isWord 45 = .ok (.iadd, 1) := by decide +kernel
theorem dX7_isWord_46 : decode cX7_isWord 46 = .ok (.baload, 1) := by decide +kernel
theorem dX7_isWord_47 : decode cX7_isWord 47 = .ok (.aload_n 1, 1) := by decide +kernel
theorem dX7_isWord_48 : decode cX7_isWord 48 = .ok (.iload_n 2, 1) := by decide +kernel
theorem dX7_isWord_49 : decode cX7_isWord 49 = .ok (.invokevirtual 103, 3) := by decide +kernel
theorem dX7_isWord_52 : decode cX7_isWord 52 = .ok (.if_icmp .eq 5, 3) := by decide +kernel
theorem dX7_isWord_55 : decode cX7_isWord 55 = .ok (.iconst 0, 1) := by decide +kernel
theorem dX7_isWord_56 : decode cX7_isWord 56 = .ok (.ireturn, 1) := by decide +kernel
theorem dX7_isWord_57 : decode cX7_isWord 57 = .ok (.iinc 2 1, 3) := by decide +kernel
theorem dX7_isWord_60 : decode cX7_isWord 60 = .ok (.goto (-32), 3) := by decide +kernel
theorem dX7_isWord_63 : decode cX7_isWord 63 = .ok (.iconst 1, 1) := by decide +kernel
theorem dX7_isWord_64 : decode cX7_isWord 64 = .ok (.ireturn, 1) := by decide +kernel
theorem dX7_takeToken_0 : decode cX7_takeToken 0 = .ok (.aload_n 0, 1) := by decide +kernel
theorem dX7_takeToken_1 : decode cX7_takeToken 1 = .ok (.getfield 19, 3) := by decide +kernel
theorem dX7_takeToken_4 : decode cX7_takeToken 4 = .ok (.aload_n 0, 1) := by decide +kernel
theorem dX7_takeToken_5 : decode cX7_takeToken 5 = .ok (.getfield 15, 3) := by decide +kernel
theorem dX7_takeToken_8 : decode cX7_takeToken 8 = .ok (.if_icmp .ge 30, 3) := by decide +kernel
theorem dX7_takeToken_11 : decode cX7_takeToken 11 = .ok (.aload_n 0, 1) := by decide +kernel
theorem dX7_takeToken_12 : decode cX7_takeToken 12 = .ok (.getfield 9, 3) := by decide +kernel
theorem dX7_takeToken_15 : decode cX7_takeToken 15 = .ok (.aload_n 0, 1) := by decide +kernel
theorem dX7_takeToken_16 : decode cX7_takeToken 16 = .ok (.getfield 19, 3) := by decide +kernel
theorem dX7_takeToken_19 : decode cX7_takeToken 19 = .ok (.baload, 1) := by decide +kernel
theorem dX7_takeToken_20 : decode cX7_takeToken 20 = .ok (.bipush 32, 2) := by decide +kernel
theorem dX7_takeToken_22 : decode cX7_takeToken 22 = .ok (.if_icmp .ne 16, 3) := by decide +kernel
theorem dX7_takeToken_25 : decode cX7_takeToken 25 = .ok (.aload_n 0, 1) := by decide +kernel
theorem dX7_takeToken_26 : decode cX7_takeToken 26 = .ok (.dup, 1) := by decide +kernel
theorem dX7_takeToken_27 : decode cX7_takeToken 27 = .ok (.getfield 19, 3) := by decide +kernel
theorem dX7_takeToken_30 : decode cX7_takeToken 30 = .ok (.iconst 1, 1) := by decide +kernel
theorem dX7_takeToken_31 : decode cX7_takeToken 31 = .ok (.iadd, 1) := by decide +kernel
theorem dX7_takeToken_32 : decode cX7_takeToken 32 = .ok (.putfield 19, 3) := by decide +kernel
theorem dX7_takeToken_35 : decode cX7_takeToken 35 = .ok (.goto (-35), 3) := by decide +kernel
theorem dX7_takeToken_38 : decode cX7_takeToken 38 = .ok (.aload_n 0, 1) := by decide +kernel
theorem dX7_takeToken_39 : decode cX7_takeToken 39 = .ok (.aload_n 0, 1) := by decide +kernel
theorem dX7_takeToken_40 : decode cX7_takeToken 40 = .ok (.getfield 19, 3) := by decide +kernel
theorem dX7_takeToken_43 : decode cX7_takeToken 43 = .ok (.putfield 32, 3) := by decide +kernel
theorem dX7_takeToken_46 : decode cX7_takeToken 46 = .ok (.aload_n 0, 1) := by decide +kernel
theorem dX7_takeToken_47 : decode cX7_takeToken 47 = .ok (.iconst 0, 1) := by decide +kernel
theorem dX7_takeToken_48 : decode cX7_takeToken 48 = .ok (.putfield 94, 3) := by decide +kernel
theorem dX7_takeToken_51 : decode cX7_takeToken 51 = .ok (.aload_n 0, 1) := by decide +kernel
theorem dX7_takeToken_52 : decode cX7_takeToken 52 = .ok (.aload_n 0, 1) := by decide +kernel
theorem dX7_takeToken_53 : decode cX7_takeToken 53 = .ok (.getfield 19, 3) := by decide +kernel
theorem dX7_takeToken_56 : decode cX7_takeToken 56 = .ok (.aload_n 0, 1) := by decide +kernel
theorem dX7_takeToken_57 : decode cX7_takeToken 57 = .ok (.getfield 15, 3) := by decide +kernel
theorem dX7_takeToken_60 : decode cX7_takeToken 60 = .ok (.if_icmp .ge 18, 3) := by decide +kernel
theorem dX7_takeToken_63 : decode cX7_takeToken 63 = .ok (.aload_n 0, 1) := by decide +kernel
theorem dX7_takeToken_64 : decode cX7_takeToken 64 = .ok (.getfield 9, 3) := by decide +kernel
theorem dX7_takeToken_67 : decode cX7_takeToken 67 = .ok (.aload_n 0, 1) := by decide +kernel
theorem dX7_takeToken_68 : decode cX7_takeToken 68 = .ok (.getfield 19, 3) := by decide +kernel
theorem dX7_takeToken_71 : decode cX7_takeToken 71 = .ok (.baload, 1) := by decide +kernel
theorem dX7_takeToken_72 : decode cX7_takeToken 72 = .ok (.invokestatic 107, 3) := by decide +kernel
theorem dX7_takeToken_75 : decode cX7_takeToken 75 = .ok (.goto 4, 3) := by decide +kernel
theorem dX7_takeToken_78 : decode cX7_takeToken 78 = .ok (.iconst 0, 1) := by decide +kernel
theorem dX7_takeToken_79 : decode cX7_takeToken 79 = .ok (.putfield 29, 3) := by decide +kernel
theorem dX7_takeToken_82 : decode cX7_takeToken 82 = .ok (.aload_n 0, 1) := by decide +kernel
theorem dX7_takeToken_83 : decode cX7_takeToken 83 = .ok (.getfield 19, 3) := by decide +kernel
theorem dX7_takeToken_86 : decode cX7_takeToken 86 = .ok (.aload_n 0, 1) := by decide +kernel
theorem dX7_takeToken_87 : decode cX7_takeToken 87 = .ok (.getfield 15, 3) := by decide +kernel
theorem dX7_takeToken_90 : decode cX7_takeToken 90 = .ok (.if_icmp .ge 100, 3) := by decide +kernel
theorem dX7_takeToken_93 : decode cX7_takeToken 93 = .ok (.aload_n 0, 1) := by decide +kernel
theorem dX7_takeToken_94 : decode cX7_takeToken 94 = .ok (.getfield 9, 3) := by decide +kernel
theorem dX7_takeToken_97 : decode cX7_takeToken 97 = .ok (.aload_n 0, 1) := by decide +kernel
theorem dX7_takeToken_98 : decode cX7_takeToken 98 = .ok (.getfield 19, 3) := by decide +kernel
theorem dX7_takeToken_101 : decode cX7_takeToken 101 = .ok (.baload, 1) := by decide +kernel
theorem dX7_takeToken_102 : decode cX7_takeToken 102 = .ok (.invokestatic 107, 3) := by decide +kernel
theorem dX7_takeToken_105 : decode cX7_takeToken 105 = .ok (.aload_n 0, 1) := by decide +kernel
theorem dX7_takeToken_106 : decode cX7_takeToken 106 = .ok (.getfield 29, 3) := by decide +kernel
theorem dX7_takeToken_109 : decode cX7_takeToken 109 = .ok (.if_icmp .ne 81, 3) := by decide +kernel
theorem dX7_takeToken_112 : decode cX7_takeToken 112 = .ok (.aload_n 0, 1) := by decide +kernel
theorem dX7_takeToken_113 : decode cX7_takeToken 113 = .ok (.getfield 29, 3) := by decide +kernel
theorem dX7_takeToken_116 : decode cX7_takeToken 116 = .ok (.iconst 1, 1) := by decide +kernel
theorem dX7_takeToken_117 : decode cX7_takeToken 117 = .ok (.if_icmp .eq 22, 3) := by decide +kernel
theorem dX7_takeToken_120 : decode cX7_takeToken 120 = .ok (.aload_n 0, 1) := by decide +kernel
theorem dX7_takeToken_121 : decode cX7_takeToken 121 = .ok (.getfield 29, 3) := by decide +kernel
theorem dX7_takeToken_124 : decode cX7_takeToken 124 = .ok (.iconst 2, 1) := by decide +kernel
theorem dX7_takeToken_125 : decode cX7_takeToken 125 = .ok (.if_icmp .eq 14, 3) := by decide +kernel
theorem dX7_takeToken_128 : decode cX7_takeToken 128 = .ok (.aload_n 0, 1) := by decide +kernel
theorem dX7_takeToken_129 : decode cX7_takeToken 129 = .ok (.getfield 19, 3) := by decide +kernel
theorem dX7_takeToken_132 : decode cX7_takeToken 132 = .ok (.aload_n 0, 1) := by decide +kernel
theorem dX7_takeToken_133 : decode cX7_takeToken 133 = .ok (.getfield 32, 3) := by decide +kernel
theorem dX7_takeToken_136 : decode cX7_takeToken 136 = .ok (.if_icmp .ne 54, 3) := by decide +kernel
theorem dX7_takeToken_139 : decode cX7_takeToken 139 = .ok (.aload_n 0, 1) := by decide +kernel
theorem dX7_takeToken_140 : decode cX7_takeToken 140 = .ok (.getfield 29, 3) := by decide +kernel
theorem dX7_takeToken_143 : decode cX7_takeToken 143 = .ok (.iconst 2, 1) := by decide +kernel
theorem dX7_takeToken_144 : decode cX7_takeToken 144 = .ok (.if_icmp .ne 33, 3) := by decide +kernel
theorem dX7_takeToken_147 : decode cX7_takeToken 147 = .ok (.aload_n 0, 1) := by decide +kernel
theorem dX7_takeToken_148 : decode cX7_takeToken 148 = .ok (.bipush 10, 2) := by decide +kernel
theorem dX7_takeToken_150 : decode cX7_takeToken 150 = .ok (.aload_n 0, 1) := by decide +kernel
theorem dX7_takeToken_151 : decode cX7_takeToken 151 = .ok (.getfield 94, 3) := by decide +kernel
theorem dX7_takeToken_154 : decode cX7_takeToken 154 = .ok (.imul, 1) := by decide +kernel
theorem dX7_takeToken_155 : decode cX7_takeToken 155 = .ok (.aload_n 0, 1) := by decide +kernel
theorem dX7_takeToken_156 : decode cX7_takeToken 156 = .ok (.getfield 9, 3) := by decide +kernel
theorem dX7_takeToken_159 : decode cX7_takeToken 159 = .ok (.aload_n 0, 1) := by decide +kernel
theorem dX7_takeToken_160 : decode cX7_takeToken 160 = .ok (.getfield 19, 3) := by decide +kernel
theorem dX7_takeToken_163 : decode cX7_takeToken 163 = .ok (.baload, 1) := by decide +kernel
theorem dX7_takeToken_164 : decode cX7_takeToken 164 = .ok (.iadd, 1) := by decide +kernel
theorem dX7_takeToken_165 : decode cX7_takeToken 165 = .ok (.bipush 48, 2) := by decide +kernel
theorem dX7_takeToken_167 : decode cX7_takeToken 167 = .ok (.isub, 1) := by decide +kernel
theorem dX7_takeToken_168 : decode cX7_takeToken 168 = .ok (.sipush 10000, 3) := by decide +kernel
theorem dX7_takeToken_171 : decode cX7_takeToken 171 = .ok (.invokestatic 110, 3) := by decide +kernel
theorem dX7_takeToken_174 : decode cX7_takeToken 174 = .ok (.putfield 94, 3) := by decide +kernel
theorem dX7_takeToken_177 : decode cX7_takeToken 177 = .ok (.aload_n 0, 1) := by decide +kernel
theorem dX7_takeToken_178 : decode cX7_takeToken 178 = .ok (.dup, 1) := by decide +kernel
theorem dX7_takeToken_179 : decode cX7_takeToken 179 = .ok (.getfield 19, 3) := by decide +kernel
theorem dX7_takeToken_182 : decode cX7_takeToken 182 = .ok (.iconst 1, 1) := by decide +kernel
theorem dX7_takeToken_183 : decode cX7_takeToken 183 = .ok (.iadd, 1) := by decide +kernel
theorem dX7_takeToken_184 : decode cX7_takeToken 184 = .ok (.putfield 19, 3) := by decide +kernel
theorem dX7_takeToken_187 : decode cX7_takeToken 187 = .ok (.goto (-105), 3) := by decide +kernel
theorem dX7_takeToken_190 : decode cX7_takeToken 190 = .ok (.return_, 1) := by decide +kernel
theorem dX7_tokenOf_0 : decode cX7_tokenOf 0 = .ok (.iload_n 0, 1) := by decide +kernel
theorem dX7_tokenOf_1 : decode cX7_tokenOf 1 = .ok (.bipush 97, 2) := by decide +kernel
theorem dX7_tokenOf_3 : decode cX7_tokenOf 3 = .ok (.if_icmp .lt 11, 3) := by decide +kernel
theorem dX7_tokenOf_6 : decode cX7_tokenOf 6 = .ok (.iload_n 0, 1) := by decide +kernel
theorem dX7_tokenOf_7 : decode cX7_tokenOf 7 = .ok (.bipush 122, 2) := by decide +kernel
theorem dX7_tokenOf_9 : decode cX7_tokenOf 9 = .ok (.if_icmp .gt 5, 3) := by decide +kernel
theorem dX7_tokenOf_12 : decode cX7_tokenOf 12 = .ok (.iconst 1, 1) := by decide +kernel
theorem dX7_tokenOf_13 : decode cX7_tokenOf 13 = .ok (.ireturn, 1) := by decide +kernel
theorem dX7_tokenOf_14 : decode cX7_tokenOf 14 = .ok (.iload_n 0, 1) := by decide +kernel
theorem dX7_tokenOf_15 : decode cX7_tokenOf 15 = .ok (.bipush 48, 2) := by decide +kernel
theorem dX7_tokenOf_17 : decode cX7_tokenOf 17 = .ok (.if_icmp .lt 11, 3) := by decide +kernel
theorem dX7_tokenOf_20 : decode cX7_tokenOf 20 = .ok (.iload_n 0, 1) := by decide +kernel
theorem dX7_tokenOf_21 : decode cX7_tokenOf 21 = .ok (.bipush 57, 2) := by decide +kernel
theorem dX7_tokenOf_23 : decode cX7_tokenOf 23 = .ok (.if_icmp .gt 5, 3) := by decide +kernel
theorem dX7_tokenOf_26 : decode cX7_tokenOf 26 = .ok (.iconst 2, 1) := by decide +kernel
theorem dX7_tokenOf_27 : decode cX7_tokenOf 27 = .ok (.ireturn, 1) := by decide +kernel
theorem dX7_tokenOf_28 : decode cX7_tokenOf 28 = .ok (.iload_n 0, 1) := by decide +kernel
theorem dX7_tokenOf_29 : decode cX7_tokenOf 29 = .ok (.bipush 59, 2) := by decide +kernel
theorem dX7_tokenOf_31 : decode cX7_tokenOf 31 = .ok (.if_icmp .ne 7, 3) := by decide +kernel
theorem dX7_tokenOf_34 : decode cX7_tokenOf 34 = .ok (.iconst 3, 1) := by decide +kernel
theorem dX7_tokenOf_35 : decode cX7_tokenOf 35 = .ok (.goto 4, 3) := by decide +kernel
theorem dX7_tokenOf_38 : decode cX7_tokenOf 38 = .ok (.iconst 4, 1) := by decide +kernel
theorem dX7_tokenOf_39 : decode cX7_tokenOf 39 = .ok (.ireturn, 1) := by decide +kernel
theorem dX8_init_0 : decode cX8_init 0 = .ok (.aload_n 0, 1) := by decide +kernel
theorem dX8_init_1 : decode cX8_init 1 = .ok (.invokespecial 3, 3) := by decide +kernel
theorem dX8_init_4 : decode cX8_init 4 = .ok (.aload_n 0, 1) := by decide +kernel
theorem dX8_init_5 : decode cX8_init 5 = .ok (.bipush 40, 2) := by decide +kernel
theorem dX8_init_7 : decode cX8_init 7 = .ok (.newarray .int, 2) := by decide +kernel
theorem dX8_init_9 : decode cX8_init 9 = .ok (.putfield 9, 3) := by decide +kernel
theorem dX8_init_12 : decode cX8_init 12 = .ok (.return_, 1) := by decide +kernel
theorem dX8_isMissing_0 : decode cX8_isMissing 0 = .ok (.aload_n 0, 1) := by decide +kernel
theorem dX8_isMissing_1 : decode cX8_isMissing 1 = .ok (.getfield 15, 3) := by decide +kernel
theorem dX8_isMissing_4 : decode cX8_isMissing 4 = .ok (.ifCond .ne 7, 3) := by decide +kernel
theorem dX8_isMissing_7 : decode cX8_isMissing 7 = .ok (.iconst 1, 1) := by decide +kernel
theorem dX8_isMissing_8 : decode cX8_isMissing 8 = .ok (.goto 4, 3) := by decide +kernel
theorem dX8_isMissing_11 : decode cX8_isMissing 11 = .ok (.iconst 0, 1) := by decide +kernel
theorem dX8_isMissing_12 : decode cX8_isMissing 12 = .ok (.ireturn, 1) := by decide +kernel
theorem dX8_has_0 : decode cX8_has 0 = .ok (.iload_n 1, 1) := by decide +kernel
theorem dX8_has_1 : decode cX8_has 1 = .ok (.ifCond .lt 29, 3) := by decide +kernel
theorem dX8_has_4 : decode cX8_has 4 = .ok (.iload_n 2, 1) := by decide +kernel
theorem dX8_has_5 : decode cX8_has 5 = .ok (.ifCond .lt 25, 3) := by decide +kernel
theorem dX8_has_8 : decode cX8_has 8 = .ok (.iload_n 2, 1) := by decide +kernel
theorem dX8_has_9 : decode cX8_has 9 = .ok (.aload_n 0, 1) := by decide +kernel
theorem dX8_has_10 : decode cX8_has 10 = .ok (.getfield 19, 3) := by decide +kernel
theorem dX8_has_13 : decode cX8_has 13 = .ok (.if_icmp .gt 17, 3) := by decide +kernel
theorem dX8_has_16 : decode cX8_has 16 = .ok (.iload_n 1, 1) := by decide +kernel
theorem dX8_has_17 : decode cX8_has 17 = .ok (.aload_n 0, 1) := by decide +kernel
theorem dX8_has_18 : decode cX8_has 18 = .ok (.getfield 19, 3) := by decide +kernel
theorem dX8_has_21 : decode cX8_has 21 = .ok (.iload_n 2, 1) := by decide +kernel
theorem dX8_has_22 : decode cX8_has 22 = .ok (.isub, 1) := by decide +kernel
theorem dX8_has_23 : decode cX8_has 23 = .ok (.if_icmp .gt 7, 3) := by decide +kernel
theorem dX8_has_26 : decode cX8_has 26 = .ok (.iconst 1, 1) := by decide +kernel
theorem dX8_has_27 : decode cX8_has 27 = .ok (.goto 4, 3) := by decide +kernel
theorem dX8_has_30 : decode cX8_has 30 = .ok (.iconst 0, 1) := by decide +kernel
theorem dX8_has_31 : decode cX8_has 31 = .ok (.ireturn, 1) := by decide +kernel
theorem dX8_allows_0 : decode cX8_allows 0 = .ok (.iload_n 1, 1) := by decide +kernel
theorem dX8_allows_1 : decode cX8_allows 1 = .ok (.aload_n 0, 1) := by decide +kernel
theorem dX8_allows_2 : decode cX8_allows 2 = .ok (.getfield 19, 3) := by decide +kernel
theorem dX8_allows_5 : decode cX8_allows 5 = .ok (.if_icmp .ge 23, 3) := by decide +kernel
theorem dX8_allows_8 : decode cX8_allows 8 = .ok (.aload_n 0, 1) := by decide +kernel
theorem dX8_allows_9 : decode cX8_allows 9 = .ok (.getfield 9, 3) := by decide +kernel
theorem dX8_allows_12 : decode cX8_allows 12 = .ok (.iload_n 1, 1) := by decide +kernel
theorem dX8_allows_13 : decode cX8_allows 13 = .ok (.iaload, 1) := by decide +kernel
theorem dX8_allows_14 : decode cX8_allows 14 = .ok (.iconst (-1), 1) := by decide +kernel
theorem dX8_allows_15 : decode cX8_allows 15 = .ok (.if_icmp .eq 13, 3) := by decide +kernel
theorem dX8_allows_18 : decode cX8_allows 18 = .ok (.aload_n 0, 1) := by decide +kernel
theorem dX8_allows_19 : decode cX8_allows 19 = .ok (.getfield 9, 3) := by decide +kernel
theorem dX8_allows_22 : decode cX8_allows 22 = .ok (.iload_n 1, 1) := by decide +kernel
theorem dX8_allows_23 : decode cX8_allows 23 = .ok (.iaload, 1) := by decide +kernel
theorem dX8_allows_24 : decode cX8_allows 24 = .ok (.iload_n 2, 1) := by decide +kernel
theorem dX8_allows_25 : decode cX8_allows 25 = .ok (.if_icmp .ne 7, 3) := by decide +kernel
theorem dX8_allows_28 : decode cX8_allows 28 = .ok (.iconst 1, 1) := by decide +kernel
theorem dX8_allows_29 : decode cX8_allows 29 = .ok (.goto 4, 3) := by decide +kernel
theorem dX8_allows_32 : decode cX8_allows 32 = .ok (.iconst 0, 1) := by decide +kernel
theorem dX8_allows_33 : decode cX8_allows 33 = .ok (.ireturn, 1) := by decide +kernel
theorem dX8_begin_0 : decode cX8_begin 0 = .ok (.aload_n 0, 1) := by decide +kernel
theorem dX8_begin_1 : decode cX8_begin 1 = .ok (.iload_n 1, 1) := by decide +kernel
theorem dX8_begin_2 : decode cX8_begin 2 = .ok (.putfield 15, 3) := by decide +kernel
theorem dX8_begin_5 : decode cX8_begin 5 = .ok (.aload_n 0, 1) := by decide +kernel
theorem dX8_begin_6 : decode cX8_begin 6 = .ok (.iload_n 1, 1) := by decide +kernel
theorem dX8_begin_7 : decode cX8_begin 7 = .ok (.ifCond .ne 7, 3) := by decide +kernel
theorem dX8_begin_10 : decode cX8_begin 10 = .ok (.iconst 0, 1) := by decide +kernel
theorem dX8_begin_11 : decode cX8_begin 11 = .ok (.goto 4, 3) := by decide +kernel
theorem dX8_begin_14 : decode cX8_begin 14 = .ok (.iload_n 2, 1) := by decide +kernel
theorem dX8_begin_15 : decode cX8_begin 15 = .ok (.putfield 19, 3) := by decide +kernel
theorem dX8_begin_18 : decode cX8_begin 18 = .ok (.iconst 0, 1) := by decide +kernel
theorem dX8_begin_19 : decode cX8_begin 19 = .ok (.istore_n 3, 1) := by decide +kernel
theorem dX8_begin_20 : decode cX8_begin 20 = .ok (.iload_n 3, 1) := by decide +kernel
theorem dX8_begin_21 : decode cX8_begin 21 = .ok (.bipush 40, 2) := by decide +kernel
theorem dX8_begin_23 : decode cX8_begin 23 = .ok (.if_icmp .ge 16, 3) := by decide +kernel
theorem dX8_begin_26 : decode cX8_begin 26 = .ok (.aload_n 0, 1) := by decide +kernel
theorem dX8_begin_27 : decode cX8_begin 27 = .ok (.getfield 9, 3) := by decide +kernel
theorem dX8_begin_30 : decode cX8_begin 30 = .ok (.iload_n 3, 1) := by decide +kernel
theorem dX8_begin_31 : decode cX8_begin 31 = .ok (.iconst 0, 1) := by decide +kernel
theorem dX8_begin_32 : decode cX8_begin 32 = .ok (.iastore, 1) := by decide +kernel
theorem dX8_begin_33 : decode cX8_begin 33 = .ok (.iinc 3 1, 3) := by decide +kernel
theorem dX8_begin_36 : decode cX8_begin 36 = .ok (.goto (-16), 3) := by decide +kernel
theorem dX8_begin_39 : decode cX8_begin 39 = .ok (.return_, 1) := by decide +kernel
theorem dX8_put_0 : decode cX8_put 0 = .ok (.aload_n 0, 1) := by decide +kernel
theorem dX8_put_1 : decode cX8_put 1 = .ok (.getfield 15, 3) := by decide +kernel
theorem dX8_put_4 : decode cX8_put 4 = .ok (.lookupswitch 50 #[(8, 28), (16, 39)], 28) := by decide +kernel
theorem dX8_put_32 : decode cX8_put 32 = .ok (.aload_n 0, 1) := by decide +kernel
theorem dX8_put_33 : decode cX8_put 33 = .ok (.getfield 9, 3) := by decide +kernel
theorem dX8_put_36 : decode cX8_put 36 = .ok (.iload_n 1, 1) := by decide +kernel
theorem dX8_put_37 : decode cX8_put 37 = .ok (.iload_n 2, 1) := by decide +kernel
theorem dX8_put_38 : decode cX8_put 38 = .ok (.i2b, 1) := by decide +kernel
theorem dX8_put_39 : decode cX8_put 39 = .ok (.iastore, 1) := by decide +kernel
theorem dX8_put_40 : decode cX8_put 40 = .ok (.goto 21, 3) := by decide +kernel
theorem dX8_put_43 : decode cX8_put 43 = .ok (.aload_n 0, 1) := by decide +kernel
theorem dX8_put_44 : decode cX8_put 44 = .ok (.getfield 9, 3) := by decide +kernel
theorem dX8_put_47 : decode cX8_put 47 = .ok (.iload_n 1, 1) := by decide +kernel
theorem dX8_put_48 : decode cX8_put 48 = .ok (.iload_n 2, 1) := by decide +kernel
theorem dX8_put_49 : decode cX8_put 49 = .ok (.i2s, 1) := by decide +kernel
theorem dX8_put_50 : decode cX8_put 50 = .ok (.iastore, 1) := by decide +kernel
theorem dX8_put_51 : decode cX8_put 51 = .ok (.goto 10, 3) := by decide +kernel
theorem dX8_put_54 : decode cX8_put 54 = .ok (.aload_n 0, 1) := by decide +kernel
theorem dX8_put_55 : decode cX8_put 55 = .ok (.getfield 9, 3) := by decide +kernel
theorem dX8_put_58 : decode cX8_put 58 = .ok (.iload_n 1, 1) := by decide +kernel
theorem dX8_put_59 : decode cX8_put 59 = .ok (.iload_n 2, 1) := by decide +kernel
theorem dX8_put_60 : decode cX8_put 60 = .ok (.iastore, 1) := by decide +kernel
theorem dX8_put_61 : decode cX8_put 61 = .ok (.return_, 1) := by decide +kernel
theorem dX9_init_0 : decode cX9_init 0 = .ok (.aload_n 0, 1) := by decide +kernel
theorem dX9_init_1 : decode cX9_init 1 = .ok (.invokespecial 1, 3) := by decide +kernel
theorem dX9_init_4 : decode cX9_init 4 = .ok (.return_, 1) := by decide +kernel
theorem dX9_burns_0 : decode cX9_burns 0 = .ok (.aload_n 0, 1) := by decide +kernel
theorem dX9_burns_1 : decode cX9_burns 1 = .ok (.iload_n 1, 1) := by decide +kernel
theorem dX9_burns_2 : decode cX9_burns 2 = .ok (.invokespecial 7, 3) := by decide +kernel
theorem dX9_burns_5 : decode cX9_burns 5 = .ok (.iconst 3, 1) := by decide +kernel
theorem dX9_burns_6 : decode cX9_burns 6 = .ok (.iadd, 1) := by decide +kernel
theorem dX9_burns_7 : decode cX9_burns 7 = .ok (.ireturn, 1) := by decide +kernel
theorem dX9_steps_0 : decode cX9_steps 0 = .ok (.aload_n 0, 1) := by decide +kernel
theorem dX9_steps_1 : decode cX9_steps 1 = .ok (.iload_n 1, 1) := by decide +kernel
theorem dX9_steps_2 : decode cX9_steps 2 = .ok (.iload_n 2, 1) := by decide +kernel
theorem dX9_steps_3 : decode cX9_steps 3 = .ok (.invokespecial 11, 3) := by decide +kernel
theorem dX9_steps_6 : decode cX9_steps 6 = .ok (.iconst 1, 1) := by decide +kernel
theorem dX9_steps_7 : decode cX9_steps 7 = .ok (.iadd, 1) := by decide +kernel
theorem dX9_steps_8 : decode cX9_steps 8 = .ok (.ireturn, 1) := by decide +kernel
theorem dX9_isUnder_0 : decode cX9_isUnder 0 = .ok (.iload_n 1, 1) := by decide +kernel
theorem dX9_isUnder_1 : decode cX9_isUnder 1 = .ok (.iconst 1, 1) := by decide +kernel
theorem dX9_isUnder_2 : decode cX9_isUnder 2 = .ok (.if_icmp .eq 11, 3) := by decide +kernel
theorem dX9_isUnder_5 : decode cX9_isUnder 5 = .ok (.aload_n 0, 1) := by decide +kernel
theorem dX9_isUnder_6 : decode cX9_isUnder 6 = .ok (.iload_n 1, 1) := by decide +kernel
theorem dX9_isUnder_7 : decode cX9_isUnder 7 = .ok (.invokespecial 15, 3) := by decide +kernel
theorem dX9_isUnder_10 : decode cX9_isUnder 10 = .ok (.ifCond .eq 7, 3) := by decide +kernel
theorem dX9_isUnder_13 : decode cX9_isUnder 13 = .ok (.iconst 1, 1) := by decide +kernel
theorem dX9_isUnder_14 : decode cX9_isUnder 14 = .ok (.goto 4, 3) := by decide +kernel
theorem dX9_isUnder_17 : decode cX9_isUnder 17 = .ok (.iconst 0, 1) := by decide +kernel
theorem dX9_isUnder_18 : decode cX9_isUnder 18 = .ok (.ireturn, 1) := by decide +kernel
theorem dX9_word_0 : decode cX9_word 0 = .ok (.ldc 19, 2) := by decide +kernel
theorem dX9_word_2 : decode cX9_word 2 = .ok (.areturn, 1) := by decide +kernel
theorem dX10_init_0 : decode cX10_init 0 = .ok (.aload_n 0, 1) := by decide +kernel
theorem dX10_init_1 : decode cX10_init 1 = .ok (.invokespecial 3, 3) := by decide +kernel
theorem dX10_init_4 : decode cX10_init 4 = .ok (.aload_n 0, 1) := by decide +kernel
theorem dX10_init_5 : decode cX10_init 5 = .ok (.aload_n 1, 1) := by decide +kernel
theorem dX10_init_6 : decode cX10_init 6 = .ok (.putfield 9, 3) := by decide +kernel
theorem dX10_init_9 : decode cX10_init 9 = .ok (.aload_n 0, 1) := by decide +kernel
theorem dX10_init_10 : decode cX10_init 10 = .ok (.bipush 25, 2) := by decide +kernel
theorem dX10_init_12 : decode cX10_init 12 = .ok (.newarray .int, 2) := by decide +kernel
theorem dX10_init_14 : decode cX10_init 14 = .ok (.putfield 15, 3) := by decide +kernel
theorem dX10_init_17 : decode cX10_init 17 = .ok (.aload_n 0, 1) := by decide +kernel
theorem dX10_init_18 : decode cX10_init 18 = .ok (.bipush 8, 2) := by decide +kernel
theorem dX10_init_20 : decode cX10_init 20 = .ok (.anewarray 19, 3) := by decide +kernel
theorem dX10_init_23 : decode cX10_init 23 = .ok (.putfield 21, 3) := by decide +kernel
theorem dX10_init_26 : decode cX10_init 26 = .ok (.iconst 0, 1) := by decide +kernel
theorem dX10_init_27 : decode cX10_init 27 = .ok (.istore_n 2, 1) := by decide +kernel
theorem dX10_init_28 : decode cX10_init 28 = .ok (.iload_n 2, 1) := by decide +kernel
theorem dX10_init_29 : decode cX10_init 29 = .ok (.bipush 8, 2) := by decide +kernel
theorem dX10_init_31 : decode cX10_init 31 = .ok (.if_icmp .ge 22, 3) := by decide +kernel
theorem dX10_init_34 : decode cX10_init 34 = .ok (.aload_n 0, 1) := by decide +kernel
theorem dX10_init_35 : decode cX10_init 35 = .ok (.getfield 21, 3) := by decide +kernel
theorem dX10_init_38 : decode cX10_init 38 = .ok (.iload_n 2, 1) := by decide +kernel
theorem dX10_init_39 : decode cX10_init 39 = .ok (.new 19, 3) := by decide +kernel
theorem dX10_init_42 : decode cX10_init 42 = .ok (.dup, 1) := by decide +kernel
theorem dX10_init_43 : decode cX10_init 43 = .ok (.invokespecial 25, 3) := by decide +kernel
theorem dX10_init_46 : decode cX10_init 46 = .ok (.aastore, 1) := by decide +kernel
theorem dX10_init_47 : decode cX10_init 47 = .ok (.iinc 2 1, 3) := by decide +kernel
theorem dX10_init_50 : decode cX10_init 50 = .ok (.goto (-22), 3) := by decide +kernel
theorem dX10_init_53 : decode cX10_init 53 = .ok (.aload_n 0, 1) := by decide +kernel
theorem dX10_init_54 : decode cX10_init 54 = .ok (.bipush 10, 2) := by decide +kernel
theorem dX10_init_56 : decode cX10_init 56 = .ok (.newarray .int, 2) := by decide +kernel
theorem dX10_init_58 : decode cX10_init 58 = .ok (.putfield 26, 3) := by decide +kernel
theorem dX10_init_61 : decode cX10_init 61 = .ok (.iconst 0, 1) := by decide +kernel
theorem dX10_init_62 : decode cX10_init 62 = .ok (.istore_n 2, 1) := by decide +kernel
theorem dX10_init_63 : decode cX10_init 63 = .ok (.iload_n 2, 1) := by decide +kernel
theorem dX10_init_64 : decode cX10_init 64 = .ok (.bipush 9, 2) := by decide +kernel
theorem dX10_init_66 : decode cX10_init 66 = .ok (.if_icmp .gt 16, 3) := by decide +kernel
theorem dX10_init_69 : decode cX10_init 69 = .ok (.aload_n 0, 1) := by decide +kernel
theorem dX10_init_70 : decode cX10_init 70 = .ok (.getfield 26, 3) := by decide +kernel
theorem dX10_init_73 : decode cX10_init 73 = .ok (.iload_n 2, 1) := by decide +kernel
theorem dX10_init_74 : decode cX10_init 74 = .ok (.iconst (-1), 1) := by decide +kernel
theorem dX10_init_75 : decode cX10_init 75 = .ok (.iastore, 1) := by decide +kernel
theorem dX10_init_76 : decode cX10_init 76 = .ok (.iinc 2 1, 3) := by decide +kernel
theorem dX10_init_79 : decode cX10_init 79 = .ok (.goto (-16), 3) := by decide +kernel
theorem dX10_init_82 : decode cX10_init 82 = .ok (.aload_n 0, 1) := by decide +kernel
theorem dX10_init_83 : decode cX10_init 83 = .ok (.iconst 1, 1) := by decide +kernel
theorem dX10_init_84 : decode cX10_init 84 = .ok (.putfield 29, 3) := by decide +kernel
theorem dX10_init_87 : decode cX10_init 87 = .ok (.return_, 1) := by decide +kernel
theorem dX10_become_0 : decode cX10_become 0 = .ok (.aload_n 1, 1) := by decide +kernel
theorem dX10_become_1 : decode cX10_become 1 = .ok (.getfield 15, 3) := by decide +kernel
theorem dX10_become_4 : decode cX10_become 4 = .ok (.iconst 0, 1) := by decide +kernel
theorem dX10_become_5 : decode cX10_become 5 = .ok (.aload_n 0, 1) := by decide +kernel
theorem dX10_become_6 : decode cX10_become 6 = .ok (.getfield 15, 3) := by decide +kernel
theorem dX10_become_9 : decode cX10_become 9 = .ok (.iconst 0, 1) := by decide +kernel
theorem dX10_become_10 : decode cX10_become 10 = .ok (.bipush 25, 2) := by decide +kernel
theorem dX10_become_12 : decode cX10_become 12 = .ok (.invokestatic 33, 3) := by decide +kernel
theorem dX10_become_15 : decode cX10_become 15 = .ok (.aload_n 1, 1) := by decide +kernel
theorem dX10_become_16 : decode cX10_become 16 = .ok (.getfield 26, 3) := by decide +kernel
theorem dX10_become_19 : decode cX10_become 19 = .ok (.iconst 0, 1) := by decide +kernel
theorem dX10_become_20 : decode cX10_become 20 = .ok (.aload_n 0, 1) := by decide +kernel
theorem dX10_become_21 : decode cX10_become 21 = .ok (.getfield 26, 3) := by decide +kernel
theorem dX10_become_24 : decode cX10_become 24 = .ok (.iconst 0, 1) := by decide +kernel
theorem dX10_become_25 : decode cX10_become 25 = .ok (.bipush 10, 2) := by decide +kernel
theorem dX10_become_27 : decode cX10_become 27 = .ok (.invokestatic 33, 3) := by decide +kernel
theorem dX10_become_30 : decode cX10_become 30 = .ok (.iconst 0, 1) := by decide +kernel
theorem dX10_become_31 : decode cX10_become 31 = .ok (.istore_n 2, 1) := by decide +kernel
theorem dX10_become_32 : decode cX10_become 32 = .ok (.iload_n 2, 1) := by decide +kernel
theorem dX10_become_33 : decode cX10_become 33 = .ok (.aload_n 1, 1) := by decide +kernel
theorem dX10_become_34 : decode cX10_become 34 = .ok (.getfield 39, 3) := by decide +kernel
theorem dX10_become_37 : decode cX10_become 37 = .ok (.if_icmp .ge 24, 3) := by decide +kernel
theorem dX10_become_40 : decode cX10_become 40 = .ok (.aload_n 0, 1) := by decide +kernel
theorem dX10_become_41 : decode cX10_become 41 = .ok (.getfield 21, 3) := by decide +kernel
theorem dX10_become_44 : decode cX10_become 44 = .ok (.iload_n 2, 1) := by decide +kernel
theorem dX10_become_45 : decode cX10_become 45 = .ok (.aaload, 1) := by decide +kernel
theorem dX10_become_46 : decode cX10_become 46 = .ok (.aload_n 1, 1) := by decide +kernel
theorem dX10_become_47 : decode cX10_become 47 = .ok (.getfield 21, 3) := by decide +kernel
theorem dX10_become_50 : decode cX10_become 50 = .ok (.iload_n 2, 1) := by decide +kernel
theorem dX10_become_51 : decode cX10_become 51 = .ok (.aaload, 1) := by decide +kernel
theorem dX10_become_52 : decode cX10_become 52 = .ok (.invokevirtual 42, 3) := by decide +kernel
theorem dX10_become_55 : decode cX10_become 55 = .ok (.iinc 2 1, 3) := by decide +kernel
theorem dX10_become_58 : decode cX10_become 58 = .ok (.goto (-26), 3) := by decide +kernel
theorem dX10_become_61 : decode cX10_become 61 = .ok (.aload_n 0, 1) := by decide +kernel
theorem dX10_become_62 : decode cX10_become 62 = .ok (.aload_n 1, 1) := by decide +kernel
theorem dX10_become_63 : decode cX10_become 63 = .ok (.getfield 39, 3) := by decide +kernel
theorem dX10_become_66 : decode cX10_become 66 = .ok (.putfield 39, 3) := by decide +kernel
theorem dX10_become_69 : decode cX10_become 69 = .ok (.aload_n 0, 1) := by decide +kernel
theorem dX10_become_70 : decode cX10_become 70 = .ok (.aload_n 1, 1) := by decide +kernel
theorem dX10_become_71 : decode cX10_become 71 = .ok (.getfield 46, 3) := by decide +kernel
theorem dX10_become_74 : decode cX10_become 74 = .ok (.putfield 46, 3) := by decide +kernel
theorem dX10_become_77 : decode cX10_become 77 = .ok (.aload_n 0, 1) := by decide +kernel
theorem dX10_become_78 : decode cX10_become 78 = .ok (.aload_n 1, 1) := by decide +kernel
theorem dX10_become_79 : decode cX10_become 79 = .ok (.getfield 49, 3) := by decide +kernel
theorem dX10_become_82 : decode cX10_become 82 = .ok (.putfield 49, 3) := by decide +kernel
theorem dX10_become_85 : decode cX10_become 85 = .ok (.aload_n 0, 1) := by decide +kernel
theorem dX10_become_86 : decode cX10_become 86 = .ok (.aload_n 1, 1) := by decide +kernel
theorem dX10_become_87 : decode cX10_become 87 = .ok (.getfield 52, 3) := by decide +kernel
theorem dX10_become_90 : decode cX10_become 90 = .ok (.putfield 52, 3) := by decide +kernel
theorem dX10_become_93 : decode cX10_become 93 = .ok (.aload_n 0, 1) := by decide +kernel
theorem dX10_become_94 : decode cX10_become 94 = .ok (.aload_n 1, 1) := by decide +kernel
theorem dX10_become_95 : decode cX10_become 95 = .ok (.getfield 29, 3) := by decide +kernel
theorem dX10_become_98 : decode cX10_become 98 = .ok (.putfield 29, 3) := by decide +kernel
theorem dX10_become_101 : decode cX10_become 101 = .ok (.return_, 1) := by decide +kernel
theorem dX10_isFull_0 : decode cX10_isFull 0 = .ok (.aload_n 0, 1) := by decide +kernel
theorem dX10_isFull_1 : decode cX10_isFull 1 = .ok (.getfield 39, 3) := by decide +kernel
theorem dX10_isFull_4 : decode cX10_isFull 4 = .ok (.bipush 8, 2) := by decide +kernel
theorem dX10_isFull_6 : decode cX10_isFull 6 = .ok (.if_icmp .lt 7, 3) := by decide +kernel
theorem dX10_isFull_9 : decode cX10_isFull 9 = .ok (.iconst 1, 1) := by decide +kernel
theorem dX10_isFull_10 : decode cX10_isFull 10 = .ok (.goto 4, 3) := by decide +kernel
theorem dX10_isFull_13 : decode cX10_isFull 13 = .ok (.iconst 0, 1) := by decide +kernel
theorem dX10_isFull_14 : decode cX10_isFull 14 = .ok (.ireturn, 1) := by decide +kernel
theorem dX10_light_0 : decode cX10_light 0 = .ok (.aload_n 0, 1) := by decide +kernel
theorem dX10_light_1 : decode cX10_light 1 = .ok (.getfield 21, 3) := by decide +kernel
theorem dX10_light_4 : decode cX10_light 4 = .ok (.aload_n 0, 1) := by decide +kernel
theorem dX10_light_5 : decode cX10_light 5 = .ok (.getfield 39, 3) := by decide +kernel
theorem dX10_light_8 : decode cX10_light 8 = .ok (.aaload, 1) := by decide +kernel
theorem dX10_light_9 : decode cX10_light 9 = .ok (.astore 5, 2) := by decide +kernel
theorem dX10_light_11 : decode cX10_light 11 = .ok (.aload 5, 2) := by decide +kernel
theorem dX10_light_13 : decode cX10_light 13 = .ok (.iload_n 1, 1) := by decide +kernel
theorem dX10_light_14 : decode cX10_light 14 = .ok (.putfield 55, 3) := by decide +kernel
theorem dX10_light_17 : decode cX10_light 17 = .ok (.aload 5, 2) := by decide +kernel
theorem dX10_light_19 : decode cX10_light 19 = .ok (.iload_n 2, 1) := by decide +kernel
theorem dX10_light_20 : decode cX10_light 20 = .ok (.putfield 58, 3) := by decide +kernel
theorem dX10_light_23 : decode cX10_light 23 = .ok (.aload 5, 2) := by decide +kernel
theorem dX10_light_25 : decode cX10_light 25 = .ok (.iload_n 3, 1) := by decide +kernel
theorem dX10_light_26 : decode cX10_light 26 = .ok (.putfield 61, 3) := by decide +kernel
theorem dX10_light_29 : decode cX10_light 29 = .ok (.aload 5, 2) := by decide +kernel
theorem dX10_light_31 : decode cX10_light 31 = .ok (.iload 4, 2) := by decide +kernel
theorem dX10_light_33 : decode cX10_light 33 = .ok (.putfield 64, 3) := by decide +kernel
theorem dX10_light_36 : decode cX10_light 36 = .ok (.aload 5, 2) := by decide +kernel
theorem dX10_light_38 : decode cX10_light 38 = .ok (.iload_n 2, 1) := by decide +kernel
theorem dX10_light_39 : decode cX10_light 39 = .ok (.putfield 67, 3) := by decide +kernel
theorem dX10_light_42 : decode cX10_light 42 = .ok (.aload 5, 2) := by decide +kernel
theorem dX10_light_44 : decode cX10_light 44 = .ok (.iconst 0, 1) := by decide +kernel
theorem dX10_light_45 : decode cX10_light 45 = .ok (.putfield 70, 3) := by decide +kernel
theorem dX10_light_48 : decode cX10_light 48 = .ok (.aload 5, 2) := by decide +kernel
theorem dX10_light_50 : decode cX10_light 50 = .ok (.iconst 0, 1) := by decide +kernel
theorem dX10_light_51 : decode cX10_light 51 = .ok (.putfield 73, 3) := by decide +kernel
theorem dX10_light_54 : decode cX10_light 54 = .ok (.aload_n 0, 1) := by decide +kernel
theorem dX10_light_55 : decode cX10_light 55 = .ok (.dup, 1) := by decide +kernel
theorem dX10_light_56 : decode cX10_light 56 = .ok (.getfield 39, 3) := by decide +kernel
theorem dX10_light_59 : decode cX10_light 59 = .ok (.iconst 1, 1) := by decide +kernel
theorem dX10_light_60 : decode cX10_light 60 = .ok (.iadd, 1) := by decide +kernel
theorem dX10_light_61 : decode cX10_light 61 = .ok (.putfield 39, 3) := by decide +kernel
theorem dX10_light_64 : decode cX10_light 64 = .ok (.aload_n 0, 1) := by decide +kernel
theorem dX10_light_65 : decode cX10_light 65 = .ok (.getfield 39, 3) := by decide +kernel
theorem dX10_light_68 : decode cX10_light 68 = .ok (.iconst 1, 1) := by decide +kernel
theorem dX10_light_69 : decode cX10_light 69 = .ok (.isub, 1) := by decide +kernel
theorem dX10_light_70 : decode cX10_light 70 = .ok (.ireturn, 1) := by decide +kernel
theorem dX10_kindOf_0 : decode cX10_kindOf 0 = .ok (.aload_n 0, 1) := by decide +kernel
theorem dX10_kindOf_1 : decode cX10_kindOf 1 = .ok (.getfield 9, 3) := by decide +kernel
theorem dX10_kindOf_4 : decode cX10_kindOf 4 = .ok (.aload_n 1, 1) := by decide +kernel
theorem dX10_kindOf_5 : decode cX10_kindOf 5 = .ok (.getfield 55, 3) := by decide +kernel
theorem dX10_kindOf_8 : decode cX10_kindOf 8 = .ok (.aaload, 1) := by decide +kernel
theorem dX10_kindOf_9 : decode cX10_kindOf 9 = .ok (.areturn, 1) := by decide +kernel
theorem dX10_draw_0 : decode cX10_draw 0 = .ok (.aload_n 0, 1) := by decide +kernel
theorem dX10_draw_1 : decode cX10_draw 1 = .ok (.aload_n 0, 1) := by decide +kernel
theorem dX10_draw_2 : decode cX10_draw 2 = .ok (.getfield 29, 3) := by decide +kernel
theorem dX10_draw_5 : decode cX10_draw 5 = .ok (.ldc 76, 2) := by decide +kernel
theorem dX10_draw_7 : decode cX10_draw 7 = .ok (.imul, 1) := by decide +kernel
theorem dX10_draw_8 : decode cX10_draw 8 = .ok (.sipush 12345, 3) := by decide +kernel
theorem dX10_draw_11 : decode cX10_draw 11 = .ok (.iadd, 1) := by decide +kernel
theorem dX10_draw_12 : decode cX10_draw 12 = .ok (.putfield 29, 3) := by decide +kernel
theorem dX10_draw_15 : decode cX10_draw 15 = .ok (.aload_n 0, 1) := by decide +kernel
theorem dX10_draw_16 : decode cX10_draw 16 = .ok (.getfield 29, 3) := by decide +kernel
theorem dX10_draw_19 : decode cX10_draw 19 = .ok (.bipush 8, 2) := by decide +kernel
theorem dX10_draw_21 : decode cX10_draw 21 = .ok (.iushr, 1) := by decide +kernel
theorem dX10_draw_22 : decode cX10_draw 22 = .ok (.ireturn, 1) := by decide +kernel
theorem dX10_passHours_0 : decode cX10_passHours 0 = .ok (.iconst 0, 1) := by decide +kernel
theorem dX10_passHours_1 : decode cX10_passHours 1 = .ok (.istore_n 2, 1) := by decide +kernel
theorem dX10_passHours_2 : decode cX10_passHours 2 = .ok (.iload_n 2, 1) := by decide +kernel
theorem dX10_passHours_3 : decode cX10_passHours 3 = .ok (.iload_n 1, 1) := by decide +kernel
theorem dX10_passHours_4 : decode cX10_passHours 4 = .ok (.if_icmp .ge 13, 3) := by decide +kernel
theorem dX10_passHours_7 : decode cX10_passHours 7 = .ok (.aload_n 0, 1) := by decide +kernel
theorem dX10_passHours_8 : decode cX10_passHours 8 = .ok (.invokevirtual 77, 3) := by decide +kernel
theorem dX10_passHours_11 : decode cX10_passHours 11 = .ok (.iinc 2 1, 3) := by decide +kernel
theorem dX10_passHours_14 : decode cX10_passHours 14 = .ok (.goto (-12), 3) := by decide +kernel
theorem dX10_passHours_17 : decode cX10_passHours 17 = .ok (.return_, 1) := by decide +kernel
theorem dX10_passHour_0 : decode cX10_passHour 0 = .ok (.aload_n 0, 1) := by decide +kernel
theorem dX10_passHour_1 : decode cX10_passHour 1 = .ok (.invokevirtual 80, 3) := by decide +kernel
theorem dX10_passHour_4 : decode cX10_passHour 4 = .ok (.aload_n 0, 1) := by decide +kernel
theorem dX10_passHour_5 : decode cX10_passHour 5 = .ok (.invokevirtual 83, 3) := by decide +kernel
theorem dX10_passHour_8 : decode cX10_passHour 8 = .ok (.aload_n 0, 1) := by decide +kernel
theorem dX10_passHour_9 : decode cX10_passHour 9 = .ok (.invokevirtual 86, 3) := by decide +kernel
theorem dX10_passHour_12 : decode cX10_passHour 12 = .ok (.aload_n 0, 1) := by decide +kernel
theorem dX10_passHour_13 : decode cX10_passHour 13 = .ok (.invokevirtual 89, 3) := by decide +kernel
theorem dX10_passHour_16 : decode cX10_passHour 16 = .ok (.aload_n 0, 1) := by decide +kernel
theorem dX10_passHour_17 : decode cX10_passHour 17 = .ok (.aload_n 0, 1) := by decide +kernel
theorem dX10_passHour_18 : decode cX10_passHour 18 = .ok (.getfield 52, 3) := by decide +kernel
theorem dX10_passHour_21 : decode cX10_passHour 21 = .ok (.iconst 1, 1) := by decide +kernel
theorem dX10_passHour_22 : decode cX10_passHour 22 = .ok (.iadd, 1) := by decide +kernel
theorem dX10_passHour_23 : decode cX10_passHour 23 = .ok (.ldc 92, 2) := by decide +kernel
theorem dX10_passHour_25 : decode cX10_passHour 25 = .ok (.invokestatic 93, 3) := by decide +kernel
theorem dX10_passHour_28 : decode cX10_passHour 28 = .ok (.putfield 52, 3) := by decide +kernel
theorem dX10_passHour_31 : decode cX10_passHour 31 = .ok (.return_, 1) := by decide +kernel
theorem dX10_burnFires_0 : decode cX10_burnFires 0 = .ok (.iconst 0, 1) := by decide +kernel
theorem dX10_burnFires_1 : decode cX10_burnFires 1 = .ok (.istore_n 1, 1) := by decide +kernel
theorem dX10_burnFires_2 : decode cX10_burnFires 2 = .ok (.iload_n 1, 1) := by decide +kernel
theorem dX10_burnFires_3 : decode cX10_burnFires 3 = .ok (.aload_n 0, 1) := by decide +kernel
theorem dX10_burnFires_4 : decode cX10_burnFires 4 = .ok (.getfield 39, 3) := by decide +kernel
theorem dX10_burnFires_7 : decode cX10_burnFires 7 = .ok (.if_icmp .ge 54, 3) := by decide +kernel
theorem dX10_burnFires_10 : decode cX10_burnFires 10 = .ok (.aload_n 0, 1) := by decide +kernel
theorem dX10_burnFires_11 : decode cX10_burnFires 11 = .ok (.getfield 21, 3) := by decide +kernel
theorem dX10_burnFires_14 : decode cX10_burnFires 14 = .ok (.iload_n 1, 1) := by decide +kernel
theorem dX10_burnFires_15 : decode cX10_burnFires 15 = .ok (.aaload, 1) := by decide +kernel
theorem dX10_burnFires_16 : decode cX10_burnFires 16 = .ok (.astore_n 2, 1) := by decide +kernel
theorem dX10_burnFires_17 : decode cX10_burnFires 17 = .ok (.aload_n 2, 1) := by decide +kernel
theorem dX10_burnFires_18 : decode cX10_burnFires 18 = .ok (.getfield 67, 3) := by decide +kernel
theorem dX10_burnFires_21 : decode cX10_burnFires 21 = .ok (.aload_n 2, 1) := by decide +kernel
theorem dX10_burnFires_22 : decode cX10_burnFires 22 = .ok (.getfield 58, 3) := by decide +kernel
theorem dX10_burnFires_25 : decode cX10_burnFires 25 = .ok (.if_icmp .ne 30, 3) := by decide +kernel
theorem dX10_burnFires_28 : decode cX10_burnFires 28 = .ok (.aload_n 2, 1) := by decide +kernel
theorem dX10_burnFires_29 : decode cX10_burnFires 29 = .ok (.getfield 58, 3) := by decide +kernel
theorem dX10_burnFires_32 : decode cX10_burnFires 32 = .ok (.aload_n 2, 1) := by decide +kernel
theorem dX10_burnFires_33 : decode cX10_burnFires 33 = .ok (.getfield 61, 3) := by decide +kernel
theorem dX10_burnFires_36 : decode cX10_burnFires 36 = .ok (.if_icmp .eq 19, 3) := by decide +kernel
theorem dX10_burnFires_39 : decode cX10_burnFires 39 = .ok (.aload_n 2, 1) := by decide +kernel
theorem dX10_burnFires_40 : decode cX10_burnFires 40 = .ok (.aload_n 0, 1) := by decide +kernel
theorem dX10_burnFires_41 : decode cX10_burnFires 41 = .ok (.aload_n 2, 1) := by decide +kernel
theorem dX10_burnFires_42 : decode cX10_burnFires 42 = .ok (.invokevirtual 99, 3) := by decide +kernel
theorem dX10_burnFires_45 : decode cX10_burnFires 45 = .ok (.aload_n 0, 1) := by decide +kernel
theorem dX10_burnFires_46 : decode cX10_burnFires 46 = .ok (.getfield 52, 3) := by decide +kernel
theorem dX10_burnFires_49 : decode cX10_burnFires 49 = .ok (.invokevirtual 103, 3) := by decide +kernel
theorem dX10_burnFires_52 : decode cX10_burnFires 52 = .ok (.invokevirtual 109, 3) := by decide +kernel
theorem dX10_burnFires_55 : decode cX10_burnFires 55 = .ok (.iinc 1 1, 3) := by decide +kernel
theorem dX10_burnFires_58 : decode cX10_burnFires 58 = .ok (.goto (-56), 3) := by decide +kernel
theorem dX10_burnFires_61 : decode cX10_burnFires 61 = .ok (.return_, 1) := by decide +kernel
theorem dX10_moveSmokes_0 : decode cX10_moveSmokes 0 = .ok (.iconst 0, 1) := by decide +kernel
theorem dX10_moveSmokes_1 : decode cX10_moveSmokes 1 = .ok (.istore_n 1, 1) := by decide +kernel
theorem dX10_moveSmokes_2 : decode cX10_moveSmokes 2 = .ok (.iload_n 1, 1) := by decide +kernel
theorem dX10_moveSmokes_3 : decode cX10_moveSmokes 3 = .ok (.aload_n 0, 1) := by decide +kernel
theorem dX10_moveSmokes_4 : decode cX10_moveSmokes 4 = .ok (.getfield 39, 3) := by decide +kernel
theorem dX10_moveSmokes_7 : decode cX10_moveSmokes 7 = .ok (.if_icmp .ge 63, 3) := by decide +kernel
theorem dX10_moveSmokes_10 : decode cX10_moveSmokes 10 = .ok (.aload_n 0, 1) := by decide +kernel
theorem dX10_moveSmokes_11 : decode cX10_moveSmokes 11 = .ok (.getfield 21, 3) := by decide +kernel
theorem dX10_moveSmokes_14 : decode cX10_moveSmokes 14 = .ok (.iload_n 1, 1) := by decide +kernel
theorem dX10_moveSmokes_15 : decode cX10_moveSmokes 15 = .ok (.aaload, 1) := by decide +kernel
theorem dX10_moveSmokes_16 : decode cX10_moveSmokes 16 = .ok (.astore_n 2, 1) := by decide +kernel
theorem dX10_moveSmokes_17 : decode cX10_moveSmokes 17 = .ok (.aload_n 2, 1) := by decide +kernel
theorem dX10_moveSmokes_18 : decode cX10_moveSmokes 18 = .ok (.aload_n 2, 1) := by decide +kernel
theorem dX10_moveSmokes_19 : decode cX10_moveSmokes 19 = .ok (.getfield 67, 3) := by decide +kernel
theorem dX10_moveSmokes_22 : decode cX10_moveSmokes 22 = .ok (.putfield 113, 3) := by decide +kernel
theorem dX10_moveSmokes_25 : decode cX10_moveSmokes 25 = .ok (.aload_n 2, 1) := by decide +kernel
theorem dX10_moveSmokes_26 : decode cX10_moveSmokes 26 = .ok (.getfield 70, 3) := by decide +kernel
theorem dX10_moveSmokes_29 : decode cX10_moveSmokes 29 = .ok (.ifCond .le 35, 3) := by decide +kernel
theorem dX10_moveSmokes_32 : decode cX10_moveSmokes 32 = .ok (.aload_n 2, 1) := by decide +kernel
theorem dX10_moveSmokes_33 : decode cX10_moveSmokes 33 = .ok (.getfield 67, 3) := by decide +kernel
theorem dX10_moveSmokes_36 : decode cX10_moveSmokes 36 = .ok (.aload_n 2, 1) := by decide +kernel
theorem dX10_moveSmokes_37 : decode cX10_moveSmokes 37 = .ok (.getfield 61, 3) := by decide +kernel
theorem dX10_moveSmokes_40 : decode cX10_moveSmokes 40 = .ok (.if_icmp .eq 24, 3) := by decide +kernel
theorem dX10_moveSmokes_43 : decode cX10_moveSmokes 43 = .ok (.aload_n 0, 1) := by decide +kernel
theorem dX10_moveSmokes_44 : decode cX10_moveSmokes 44 = .ok (.aload_n 2, 1) := by decide +kernel
theorem dX10_moveSmokes_45 : decode cX10_moveSmokes 45 = .ok (.aload_n 0, 1) := by decide +kernel
theorem dX10_moveSmokes_46 : decode cX10_moveSmokes 46 = .ok (.aload_n 2, 1) := by decide +kernel
theorem dX10_moveSmokes_47 : decode cX10_moveSmokes 47 = .ok (.invokevirtual 99, 3) := by decide +kernel
theorem dX10_moveSmokes_50 : decode cX10_moveSmokes 50 = .ok (.aload_n 0, 1) := by decide +kernel
theorem dX10_moveSmokes_51 : decode cX10_moveSmokes 51 = .ok (.getfield 52, 3) := by decide +kernel
theorem dX10_moveSmokes_54 : decode cX10_moveSmokes 54 = .ok (.aload_n 2, 1) := by decide +kernel
theorem dX10_moveSmokes_55 : decode cX10_moveSmokes 55 = .ok (.getfield 73, 3) := by decide +kernel
theorem dX10_moveSmokes_58 : decode cX10_moveSmokes 58 = .ok (.invokevirtual 116, 3) := by decide +kernel
theorem dX10_moveSmokes_61 : decode cX10_moveSmokes 61 = .ok (.invokevirtual 119, 3) := by decide +kernel
theorem dX10_moveSmokes_64 : decode cX10_moveSmokes 64 = .ok (.iinc 1 1, 3) := by decide +kernel
theorem dX10_moveSmokes_67 : decode cX10_moveSmokes 67 = .ok (.goto (-65), 3) := by decide +kernel
theorem dX10_moveSmokes_70 : decode cX10_moveSmokes 70 = .ok (.return_, 1) := by decide +kernel
theorem dX10_moveSmoke_0 : decode cX10_moveSmoke 0 = .ok (.aload_n 0, 1) := by decide +kernel
theorem dX10_moveSmoke_1 : decode cX10_moveSmoke 1 = .ok (.aload_n 1, 1) := by decide +kernel
theorem dX10_moveSmoke_2 : decode cX10_moveSmoke 2 = .ok (.invokevirtual 99, 3) := by decide +kernel
theorem dX10_moveSmoke_5 : decode cX10_moveSmoke 5 = .ok (.astore_n 3, 1) := by decide +kernel
theorem dX10_moveSmoke_6 : decode cX10_moveSmoke 6 = .ok (.iconst 0, 1) := by decide +kernel
theorem dX10_moveSmoke_7 : decode cX10_moveSmoke 7 = .ok (.istore 4, 2) := by decide +kernel
theorem dX10_moveSmoke_9 : decode cX10_moveSmoke 9 = .ok (.iload 4, 2) := by decide +kernel
theorem dX10_moveSmoke_11 : decode cX10_moveSmoke 11 = .ok (.iload_n 2, 1) := by decide +kernel
theorem dX10_moveSmoke_12 : decode cX10_moveSmoke 12 = .ok (.if_icmp .ge 73, 3) := by decide +kernel
theorem dX10_moveSmoke_15 : decode cX10_moveSmoke 15 = .ok (.aload_n 1, 1) := by decide +kernel
theorem dX10_moveSmoke_16 : decode cX10_moveSmoke 16 = .ok (.getfield 67, 3) := by decide +kernel
theorem dX10_moveSmoke_19 : decode cX10_moveSmoke 19 = .ok (.aload_n 1, 1) := by decide +kernel
theorem dX10_moveSmoke_20 : decode cX10_moveSmoke 20 = .ok (.getfield 61, 3) := by decide +kernel
theorem dX10_moveSmoke_23 : decode cX10_moveSmoke 23 = .ok (.if_icmp .eq 62, 3) := by decide +kernel
theorem dX10_moveSmoke_26 : decode cX10_moveSmoke 26 = .ok (.aload_n 1, 1) := by decide +kernel
theorem dX10_moveSmoke_27 : decode cX10_moveSmoke 27 = .ok (.aload_n 3, 1) := by decide +kernel
theorem dX10_moveSmoke_28 : decode cX10_moveSmoke 28 = .ok (.invokevirtual 123, 3) := by decide +kernel
theorem dX10_moveSmoke_31 : decode cX10_moveSmoke 31 = .ok (.invokevirtual 127, 3) := by decide +kernel
theorem dX10_moveSmoke_34 : decode cX10_moveSmoke 34 = .ok (.istore 5, 2) := by decide +kernel
theorem dX10_moveSmoke_36 : decode cX10_moveSmoke 36 = .ok (.aload_n 0, 1) := by decide +kernel
theorem dX10_moveSmoke_37 : decode cX10_moveSmoke 37 = .ok (.iload 5, 2) := by decide +kernel
theorem dX10_moveSmoke_39 : decode cX10_moveSmoke 39 = .ok (.invokevirtual 131, 3) := by decide +kernel
theorem dX10_moveSmoke_42 : decode cX10_moveSmoke 42 = .ok (.ifCond .eq 31, 3) := by decide +kernel
theorem dX10_moveSmoke_45 : decode cX10_moveSmoke 45 = .ok (.aload_n 3, 1) := by decide +kernel
theorem dX10_moveSmoke_46 : decode cX10_moveSmoke 46 = .ok (.aload_n 1, 1) := by decide +kernel
theorem dX10_moveSmoke_47 : decode cX10_moveSmoke 47 = .ok (.getfield 70, 3) := by decide +kernel
theorem dX10_moveSmoke_50 : decode cX10_moveSmoke 50 = .ok (.invokevirtual 135, 3) := by decide +kernel
theorem dX10_moveSmoke_53 : decode cX10_moveSmoke 53 = .ok (.ifCond .ne 20, 3) := by decide +kernel
theorem dX10_moveSmoke_56 : decode cX10_moveSmoke 56 = .ok (.aload_n 1, 1) := by decide +kernel
theorem dX10_moveSmoke_57 : decode cX10_moveSmoke 57 = .ok (.aload_n 1, 1) := by decide +kernel
theorem dX10_moveSmoke_58 : decode cX10_moveSmoke 58 = .ok (.getfield 73, 3) := by decide +kernel
theorem dX10_moveSmoke_61 : decode cX10_moveSmoke 61 = .ok (.iconst 1, 1) := by decide +kernel
theorem dX10_moveSmoke_62 : decode cX10_moveSmoke 62 = .ok (.iadd, 1) := by decide +kernel
theorem dX10_moveSmoke_63 : decode cX10_moveSmoke 63 = .ok (.sipush 9999, 3) := by decide +kernel
theorem dX10_moveSmoke_66 : decode cX10_moveSmoke 66 = .ok (.invokestatic 93, 3) := by decide +kernel
theorem dX10_moveSmoke_69 : decode cX10_moveSmoke 69 = .ok (.putfield 73, 3) := by decide +kernel
theorem dX10_moveSmoke_72 : decode cX10_moveSmoke 72 = .ok (.return_, 1) := by decide +kernel
theorem dX10_moveSmoke_73 : decode cX10_moveSmoke 73 = .ok (.aload_n 1, 1) := by decide +kernel
theorem dX10_moveSmoke_74 : decode cX10_moveSmoke 74 = .ok (.iload 5, 2) := by decide +kernel
theorem dX10_moveSmoke_76 : decode cX10_moveSmoke 76 = .ok (.invokevirtual 138, 3) := by decide +kernel
theorem dX10_moveSmoke_79 : decode cX10_moveSmoke 79 = .ok (.iinc 4 1, 3) := by decide +kernel
theorem dX10_moveSmoke_82 : decode cX10_moveSmoke 82 = .ok (.goto (-73), 3) := by decide +kernel
theorem dX10_moveSmoke_85 : decode cX10_moveSmoke 85 = .ok (.return_, 1) := by decide +kernel
theorem dX10_blowsAgainst_0 : decode cX10_blowsAgainst 0 = .ok (.aload_n 0, 1) := by decide +kernel
theorem dX10_blowsAgainst_1 : decode cX10_blowsAgainst 1 = .ok (.getfield 46, 3) := by decide +kernel
theorem dX10_blowsAgainst_4 : decode cX10_blowsAgainst 4 = .ok (.iload_n 1, 1) := by decide +kernel
theorem dX10_blowsAgainst_5 : decode cX10_blowsAgainst 5 = .ok (.iconst 2, 1) := by decide +kernel
theorem dX10_blowsAgainst_6 : decode cX10_blowsAgainst 6 = .ok (.if_icmp .gt 9, 3) := by decide +kernel
theorem dX10_blowsAgainst_9 : decode cX10_blowsAgainst 9 = .ok (.iload_n 1, 1) := by decide +kernel
theorem dX10_blowsAgainst_10 : decode cX10_blowsAgainst 10 = .ok (.iconst 2, 1) := by decide +kernel
theorem dX10_blowsAgainst_11 : decode cX10_blowsAgainst 11 = .ok (.iadd, 1) := by decide +kernel
theorem dX10_blowsAgainst_12 : decode cX10_blowsAgainst 12 = .ok (.goto 6, 3) := by decide +kernel
theorem dX10_blowsAgainst_15 : decode cX10_blowsAgainst 15 = .ok (.iload_n 1, 1) := by decide +kernel
theorem dX10_blowsAgainst_16 : decode cX10_blowsAgainst 16 = .ok (.iconst 2, 1) := by decide +kernel
theorem dX10_blowsAgainst_17 : decode cX10_blowsAgainst 17 = .ok (.isub, 1) := by decide +kernel
theorem dX10_blowsAgainst_18 : decode cX10_blowsAgainst 18 = .ok (.if_icmp .ne 7, 3) := by decide +kernel
theorem dX10_blowsAgainst_21 : decode cX10_blowsAgainst 21 = .ok (.iconst 1, 1) := by decide +kernel
theorem dX10_blowsAgainst_22 : decode cX10_blowsAgainst 22 = .ok (.goto 4, 3) := by decide +kernel
theorem dX10_blowsAgainst_25 : decode cX10_blowsAgainst 25 = .ok (.iconst 0, 1) := by decide +kernel
theorem dX10_blowsAgainst_26 : decode cX10_blowsAgainst 26 = .ok (.ireturn, 1) := by decide +kernel
theorem dX10_crossSmokes_0 : decode cX10_crossSmokes 0 = .ok (.iconst 0, 1) := by decide +kernel
theorem dX10_crossSmokes_1 : decode cX10_crossSmokes 1 = .ok (.istore_n 1, 1) := by decide +kernel
theorem dX10_crossSmokes_2 : decode cX10_crossSmokes 2 = .ok (.iload_n 1, 1) := by decide +kernel
theorem dX10_crossSmokes_3 : decode cX10_crossSmokes 3 = .ok (.aload_n 0, 1) := by decide +kernel
theorem dX10_crossSmokes_4 : decode cX10_crossSmokes 4 = .ok (.getfield 39, 3) := by decide +kernel
theorem dX10_crossSmokes_7 : decode cX10_crossSmokes 7 = .ok (.if_icmp .ge 75, 3) := by decide +kernel
theorem dX10_crossSmokes_10 : decode cX10_crossSmokes 10 = .ok (.iload_n 1, 1) := by decide +kernel
theorem dX10_crossSmokes_11 : decode cX10_crossSmokes 11 = .ok (.iconst 1, 1) := by decide +kernel
theorem dX10_crossSmokes_12 : decode cX10_crossSmokes 12 = .ok (.iadd, 1) := by decide +kernel
theorem dX10_crossSmokes_13 : decode cX10_crossSmokes 13 = .ok (.istore_n 2, 1) := by decide +kernel
theorem dX10_crossSmokes_14 : decode cX10_crossSmokes 14 = .ok (.iload_n 2, 1) := by decide +kernel
theorem dX10_crossSmokes_15 : decode cX10_crossSmokes 15 = .ok (.aload_n 0, 1) := by decide +kernel
theorem dX10_crossSmokes_16 : decode cX10_crossSmokes 16 = .ok (.getfield 39, 3) := by decide +kernel
theorem dX10_crossSmokes_19 : decode cX10_crossSmokes 19 = .ok (.if_icmp .ge 57, 3) := by decide +kernel
theorem dX10_crossSmokes_22 : decode cX10_crossSmokes 22 = .ok (.aload_n 0, 1) := by decide +kernel
theorem dX10_crossSmokes_23 : decode cX10_crossSmokes 23 = .ok (.getfield 21, 3) := by decide +kernel
theorem dX10_crossSmokes_26 : decode cX10_crossSmokes 26 = .ok (.iload_n 1, 1) := by decide +kernel
theorem dX10_crossSmokes_27 : decode cX10_crossSmokes 27 = .ok (.aaload, 1) := by decide +kernel
theorem dX10_crossSmokes_28 : decode cX10_crossSmokes 28 = .ok (.aload_n 0, 1) := by decide +kernel
theorem dX10_crossSmokes_29 : decode cX10_crossSmokes 29 = .ok (.getfield 21, 3) := by decide +kernel
theorem dX10_crossSmokes_32 : decode cX10_crossSmokes 32 = .ok (.iload_n 2, 1) := by decide +kernel
theorem dX10_crossSmokes_33 : decode cX10_crossSmokes 33 = .ok (.aaload, 1) := by decide +kernel
theorem dX10_crossSmokes_34 : decode cX10_crossSmokes 34 = .ok (.invokevirtual 141, 3) := by decide +kernel
theorem dX10_crossSmokes_37 : decode cX10_crossSmokes 37 = .ok (.ifCond .eq 33, 3) := by decide +kernel
theorem dX10_crossSmokes_40 : decode cX10_crossSmokes 40 = .ok (.aload_n 0, 1) := by decide +kernel
theorem dX10_crossSmokes_41 : decode cX10_crossSmokes 41 = .ok (.getfield 21, 3) := by decide +kernel
theorem dX10_crossSmokes_44 : decode cX10_crossSmokes 44 = .ok (.iload_n 1, 1) := by decide +kernel
theorem dX10_crossSmokes_45 : decode cX10_crossSmokes 45 = .ok (.aaload, 1) := by decide +kernel
theorem dX10_crossSmokes_46 : decode cX10_crossSmokes 46 = .ok (.aload_n 0, 1) := by decide +kernel
theorem dX10_crossSmokes_47 : decode cX10_crossSmokes 47 = .ok (.getfield 21, 3) := by decide +kernel
theorem dX10_crossSmokes_50 : decode cX10_crossSmokes 50 = .ok (.iload_n 2, 1) := by decide +kernel
theorem dX10_crossSmokes_51 : decode cX10_crossSmokes 51 = .ok (.aaload, 1) := by decide +kernel
theorem dX10_crossSmokes_52 : decode cX10_crossSmokes 52 = .ok (.invokevirtual 145, 3) := by decide +kernel
theorem dX10_crossSmokes_55 : decode cX10_crossSmokes 55 = .ok (.aload_n 0, 1) := by decide +kernel
theorem dX10_crossSmokes_56 : decode cX10_crossSmokes 56 = .ok (.aload_n 0, 1) := by decide +kernel
theorem dX10_crossSmokes_57 : decode cX10_crossSmokes 57 = .ok (.getfield 49, 3) := by decide +kernel
theorem dX10_crossSmokes_60 : decode cX10_crossSmokes 60 = .ok (.iconst 1, 1) := by decide +kernel
theorem dX10_crossSmokes_61 : decode cX10_crossSmokes 61 = .ok (.iadd, 1) := by decide +kernel
theorem dX10_crossSmokes_62 : decode cX10_crossSmokes 62 = .ok (.ldc 92, 2) := by decide +kernel
theorem dX10_crossSmokes_64 : decode cX10_crossSmokes 64 = .ok (.invokestatic 93, 3) := by decide +kernel
theorem dX10_crossSmokes_67 : decode cX10_crossSmokes 67 = .ok (.putfield 49, 3) := by decide +kernel
theorem dX10_crossSmokes_70 : decode cX10_crossSmokes 70 = .ok (.iinc 2 1, 3) := by decide +kernel
theorem dX10_crossSmokes_73 : decode cX10_crossSmokes 73 = .ok (.goto (-59), 3) := by decide +kernel
theorem dX10_crossSmokes_76 : decode cX10_crossSmokes 76 = .ok (.iinc 1 1, 3) := by decide +kernel
theorem dX10_crossSmokes_79 : decode cX10_crossSmokes 79 = .ok (.goto (-77), 3) := by decide +kernel
theorem dX10_crossSmokes_82 : decode cX10_crossSmokes 82 = .ok (.return_, 1) := by decide +kernel
theorem dX10_bringHome_0 : decode cX10_bringHome 0 = .ok (.iconst 0, 1) := by decide +kernel
theorem dX10_bringHome_1 : decode cX10_bringHome 1 = .ok (.istore_n 1, 1) := by decide +kernel
theorem dX10_bringHome_2 : decode cX10_bringHome 2 = .ok (.iload_n 1, 1) := by decide +kernel
theorem dX10_bringHome_3 : decode cX10_bringHome 3 = .ok (.aload_n 0, 1) := by decide +kernel
theorem dX10_bringHome_4 : decode cX10_bringHome 4 = .ok (.getfield 39, 3) := by decide +kernel
theorem dX10_bringHome_7 : decode cX10_bringHome 7 = .ok (.if_icmp .ge 69, 3) := by decide +kernel
theorem dX10_bringHome_10 : decode cX10_bringHome 10 = .ok (.aload_n 0, 1) := by decide +kernel
theorem dX10_bringHome_11 : decode cX10_bringHome 11 = .ok (.getfield 21, 3) := by decide +kernel
theorem dX10_bringHome_14 : decode cX10_bringHome 14 = .ok (.iload_n 1, 1) := by decide +kernel
theorem dX10_bringHome_15 : decode cX10_bringHome 15 = .ok (.aaload, 1) := by decide +kernel
theorem dX10_bringHome_16 : decode cX10_bringHome 16 = .ok (.astore_n 2, 1) := by decide +kernel
theorem dX10_bringHome_17 : decode cX10_bringHome 17 = .ok (.aload_n 2, 1) := by decide +kernel
theorem dX10_bringHome_18 : decode cX10_bringHome 18 = .ok (.getfield 67, 3) := by decide +kernel
theorem dX10_bringHome_21 : decode cX10_bringHome 21 = .ok (.aload_n 2, 1) := by decide +kernel
theorem dX10_bringHome_22 : decode cX10_bringHome 22 = .ok (.getfield 61, 3) := by decide +kernel
theorem dX10_bringHome_25 : decode cX10_bringHome 25 = .ok (.if_icmp .ne 45, 3) := by decide +kernel
theorem dX10_bringHome_28 : decode cX10_bringHome 28 = .ok (.aload_n 0, 1) := by decide +kernel
theorem dX10_bringHome_29 : decode cX10_bringHome 29 = .ok (.getfield 15, 3) := by decide +kernel
theorem dX10_bringHome_32 : decode cX10_bringHome 32 = .ok (.aload_n 2, 1) := by decide +kernel
theorem dX10_bringHome_33 : decode cX10_bringHome 33 = .ok (.getfield 61, 3) := by decide +kernel
theorem dX10_bringHome_36 : decode cX10_bringHome 36 = .ok (.aload_n 0, 1) := by decide +kernel
theorem dX10_bringHome_37 : decode cX10_bringHome 37 = .ok (.getfield 15, 3) := by decide +kernel
theorem dX10_bringHome_40 : decode cX10_bringHome 40 = .ok (.aload_n 2, 1) := by decide +kernel
theorem dX10_bringHome_41 : decode cX10_bringHome 41 = .ok (.getfield 61, 3) := by decide +kernel
theorem dX10_bringHome_44 : decode cX10_bringHome 44 = .ok (.iaload, 1) := by decide +kernel
theorem dX10_bringHome_45 : decode cX10_bringHome 45 = .ok (.aload_n 2, 1) := by decide +kernel
theorem dX10_bringHome_46 : decode cX10_bringHome 46 = .ok (.getfield 70, 3) := by decide +kernel
theorem dX10_bringHome_49 : decode cX10_bringHome 49 = .ok (.iadd, 1) := by decide +kernel
theorem dX10_bringHome_50 : decode cX10_bringHome 50 = .ok (.sipush 9999, 3) := by decide +kernel
theorem dX10_bringHome_53 : decode cX10_bringHome 53 = .ok (.invokestatic 93, 3) := by decide +kernel
theorem dX10_bringHome_56 : decode cX10_bringHome 56 = .ok (.iastore, 1) := by decide +kernel
theorem dX10_bringHome_57 : decode cX10_bringHome 57 = .ok (.aload_n 2, 1) := by decide +kernel
theorem dX10_bringHome_58 : decode cX10_bringHome 58 = .ok (.iconst 0, 1) := by decide +kernel
theorem dX10_bringHome_59 : decode cX10_bringHome 59 = .ok (.putfield 70, 3) := by decide +kernel
theorem dX10_bringHome_62 : decode cX10_bringHome 62 = .ok (.aload_n 2, 1) := by decide +kernel
theorem dX10_bringHome_63 : decode cX10_bringHome 63 = .ok (.aload_n 2, 1) := by decide +kernel
theorem dX10_bringHome_64 : decode cX10_bringHome 64 = .ok (.getfield 58, 3) := by decide +kernel
theorem dX10_bringHome_67 : decode cX10_bringHome 67 = .ok (.putfield 67, 3) := by decide +kernel
theorem dX10_bringHome_70 : decode cX10_bringHome 70 = .ok (.iinc 1 1, 3) := by decide +kernel
theorem dX10_bringHome_73 : decode cX10_bringHome 73 = .ok (.goto (-71), 3) := by decide +kernel
theorem dX10_bringHome_76 : decode cX10_bringHome 76 = .ok (.return_, 1) := by decide +kernel
theorem dX10_allWood_0 : decode cX10_allWood 0 = .ok (.iconst 0, 1) := by decide +kernel
theorem dX10_allWood_1 : decode cX10_allWood 1 = .ok (.istore_n 1, 1) := by decide +kernel
theorem dX10_allWood_2 : decode cX10_allWood 2 = .ok (.iconst 0, 1) := by decide +kernel
theorem dX10_allWood_3 : decode cX10_allWood 3 = .ok (.istore_n 2, 1) := by decide +kernel
theorem dX10_allWood_4 : decode cX10_allWood 4 = .ok (.iload_n 2, 1) := by decide +kernel
theorem dX10_allWood_5 : decode cX10_allWood 5 = .ok (.bipush 24, 2) := by decide +kernel
theorem dX10_allWood_7 : decode cX10_allWood 7 = .ok (.if_icmp .gt 18, 3) := by decide +kernel
theorem dX10_allWood_10 : decode cX10_allWood 10 = .ok (.iload_n 1, 1) := by decide +kernel
theorem dX10_allWood_11 : decode cX10_allWood 11 = .ok (.aload_n 0, 1) := by decide +kernel
theorem dX10_allWood_12 : decode cX10_allWood 12 = .ok (.getfield 15, 3) := by decide +kernel
theorem dX10_allWood_15 : decode cX10_allWood 15 = .ok (.iload_n 2, 1) := by decide +kernel
theorem dX10_allWood_16 : decode cX10_allWood 16 = .ok (.iaload, 1) := by decide +kernel
theorem dX10_allWood_17 : decode cX10_allWood 17 = .ok (.iadd, 1) := by decide +kernel
theorem dX10_allWood_18 : decode cX10_allWood 18 = .ok (.istore_n 1, 1) := by decide +kernel
theorem dX10_allWood_19 : decode cX10_allWood 19 = .ok (.iinc 2 1, 3) := by decide +kernel
theorem dX10_allWood_22 : decode cX10_allWood 22 = .ok (.goto (-18), 3) := by decide +kernel
theorem dX10_allWood_25 : decode cX10_allWood 25 = .ok (.iload_n 1, 1) := by decide +kernel
theorem dX10_allWood_26 : decode cX10_allWood 26 = .ok (.ireturn, 1) := by decide +kernel
theorem dX10_allSmoke_0 : decode cX10_allSmoke 0 = .ok (.iconst 0, 1) := by decide +kernel
theorem dX10_allSmoke_1 : decode cX10_allSmoke 1 = .ok (.istore_n 1, 1) := by decide +kernel
theorem dX10_allSmoke_2 : decode cX10_allSmoke 2 = .ok (.iconst 0, 1) := by decide +kernel
theorem dX10_allSmoke_3 : decode cX10_allSmoke 3 = .ok (.istore_n 2, 1) := by decide +kernel
theorem dX10_allSmoke_4 : decode cX10_allSmoke 4 = .ok (.iload_n 2, 1) := by decide +kernel
theorem dX10_allSmoke_5 : decode cX10_allSmoke 5 = .ok (.aload_n 0, 1) := by decide +kernel
theorem dX10_allSmoke_6 : decode cX10_allSmoke 6 = .ok (.getfield 39, 3) := by decide +kernel
theorem dX10_allSmoke_9 : decode cX10_allSmoke 9 = .ok (.if_icmp .ge 21, 3) := by decide +kernel
theorem dX10_allSmoke_12 : decode cX10_allSmoke 12 = .ok (.iload_n 1, 1) := by decide +kernel
theorem dX10_allSmoke_13 : decode cX10_allSmoke 13 = .ok (.aload_n 0, 1) := by decide +kernel
theorem dX10_allSmoke_14 : decode cX10_allSmoke 14 = .ok (.getfield 21, 3) := by decide +kernel
theorem dX10_allSmoke_17 : decode cX10_allSmoke 17 = .ok (.iload_n 2, 1) := by decide +kernel
theorem dX10_allSmoke_18 : decode cX10_allSmoke 18 = .ok (.aaload, 1) := by decide +kernel
theorem dX10_allSmoke_19 : decode cX10_allSmoke 19 = .ok (.getfield 70, 3) := by decide +kernel
theorem dX10_allSmoke_22 : decode cX10_allSmoke 22 = .ok (.iadd, 1) := by decide +kernel
theorem dX10_allSmoke_23 : decode cX10_allSmoke 23 = .ok (.istore_n 1, 1) := by decide +kernel
theorem dX10_allSmoke_24 : decode cX10_allSmoke 24 = .ok (.iinc 2 1, 3) := by decide +kernel
theorem dX10_allSmoke_27 : decode cX10_allSmoke 27 = .ok (.goto (-23), 3) := by decide +kernel
theorem dX10_allSmoke_30 : decode cX10_allSmoke 30 = .ok (.iload_n 1, 1) := by decide +kernel
theorem dX10_allSmoke_31 : decode cX10_allSmoke 31 = .ok (.ireturn, 1) := by decide +kernel
theorem dX10_allLogs_0 : decode cX10_allLogs 0 = .ok (.iconst 0, 1) := by decide +kernel
theorem dX10_allLogs_1 : decode cX10_allLogs 1 = .ok (.istore_n 1, 1) := by decide +kernel
theorem dX10_allLogs_2 : decode cX10_allLogs 2 = .ok (.iconst 0, 1) := by decide +kernel
theorem dX10_allLogs_3 : decode cX10_allLogs 3 = .ok (.istore_n 2, 1) := by decide +kernel
theorem dX10_allLogs_4 : decode cX10_allLogs 4 = .ok (.iload_n 2, 1) := by decide +kernel
theorem dX10_allLogs_5 : decode cX10_allLogs 5 = .ok (.aload_n 0, 1) := by decide +kernel
theorem dX10_allLogs_6 : decode cX10_allLogs 6 = .ok (.getfield 39, 3) := by decide +kernel
theorem dX10_allLogs_9 : decode cX10_allLogs 9 = .ok (.if_icmp .ge 21, 3) := by decide +kernel
theorem dX10_allLogs_12 : decode cX10_allLogs 12 = .ok (.iload_n 1, 1) := by decide +kernel
theorem dX10_allLogs_13 : decode cX10_allLogs 13 = .ok (.aload_n 0, 1) := by decide +kernel
theorem dX10_allLogs_14 : decode cX10_allLogs 14 = .ok (.getfield 21, 3) := by decide +kernel
theorem dX10_allLogs_17 : decode cX10_allLogs 17 = .ok (.iload_n 2, 1) := by decide +kernel
theorem dX10_allLogs_18 : decode cX10_allLogs 18 = .ok (.aaload, 1) := by decide +kernel
theorem dX10_allLogs_19 : decode cX10_allLogs 19 = .ok (.getfield 64, 3) := by decide +kernel
theorem dX10_allLogs_22 : decode cX10_allLogs 22 = .ok (.iadd, 1) := by decide +kernel
theorem dX10_allLogs_23 : decode cX10_allLogs 23 = .ok (.istore_n 1, 1) := by decide +kernel
theorem dX10_allLogs_24 : decode cX10_allLogs 24 = .ok (.iinc 2 1, 3) := by decide +kernel
theorem dX10_allLogs_27 : decode cX10_allLogs 27 = .ok (.goto (-23), 3) := by decide +kernel
theorem dX10_allLogs_30 : decode cX10_allLogs 30 = .ok (.iload_n 1, 1) := by decide +kernel
theorem dX10_allLogs_31 : decode cX10_allLogs 31 = .ok (.ireturn, 1) := by decide +kernel
theorem dX10_cellsWithWood_0 : decode cX10_cellsWithWood 0 = .ok (.iconst 0, 1) := by decide +kernel
theorem dX10_cellsWithWood_1 : decode cX10_cellsWithWood 1 = .ok (.istore_n 1, 1) := by decide +kernel
theorem dX10_cellsWithWood_2 : decode cX10_cellsWithWood 2 = .ok (.iconst 0, 1) := by decide +kernel
theorem dX10_cellsWithWood_3 : decode cX10_cellsWithWood 3 = .ok (.istore_n 2, 1) := by decide +kernel
theorem dX10_cellsWithWood_4 : decode cX10_cellsWithWood 4 = .ok (.iload_n 2, 1) := by decide +kernel
theorem dX10_cellsWithWood_5 : decode cX10_cellsWithWood 5 = .ok (.bipush 24, 2) := by decide +kernel
theorem dX10_cellsWithWood_7 : decode cX10_cellsWithWood 7 = .ok (.if_icmp .gt 28, 3) := by decide +kernel
theorem dX10_cellsWithWood_10 : decode cX10_cellsWithWood 10 = .ok (.iload_n 1, 1) := by decide +kernel
theorem dX10_cellsWithWood_11 : decode cX10_cellsWithWood 11 = .ok (.aload_n 0, 1) := by decide +kernel
theorem dX10_cellsWithWood_12 : decode cX10_cellsWithWood 12 = .ok (.getfield 15, 3) := by decide +kernel
theorem dX10_cellsWithWood_15 : decode cX10_cellsWithWood 15 = .ok (.iload_n 2, 1) := by decide +kernel
theorem dX10_cellsWithWood_16 : decode cX10_cellsWithWood 16 = .ok (.iaload, 1) := by decide +kernel
theorem dX10_cellsWithWood_17 : decode cX10_cellsWithWood 17 = .ok (.ifCond .le 9, 3) := by decide +kernel
theorem dX10_cellsWithWood_20 : decode cX10_cellsWithWood 20 = .ok (.iconst 1, 1) := by decide +kernel
theorem dX10_cellsWithWood_21 : decode cX10_cellsWithWood 21 = .ok (.iload_n 2, 1) := by decide +kernel
theorem dX10_cellsWithWood_22 : decode cX10_cellsWithWood 22 = .ok (.ishl, 1) := by decide +kernel
theorem dX10_cellsWithWood_23 : decode cX10_cellsWithWood 23 = .ok (.goto 4, 3) := by decide +kernel
theorem dX10_cellsWithWood_26 : decode cX10_cellsWithWood 26 = .ok (.iconst 0, 1) := by decide +kernel
theorem dX10_cellsWithWood_27 : decode cX10_cellsWithWood 27 = .ok (.ior, 1) := by decide +kernel
theorem dX10_cellsWithWood_28 : decode cX10_cellsWithWood 28 = .ok (.istore_n 1, 1) := by decide +kernel
theorem dX10_cellsWithWood_29 : decode cX10_cellsWithWood 29 = .ok (.iinc 2 1, 3) := by decide +kernel
theorem dX10_cellsWithWood_32 : decode cX10_cellsWithWood 32 = .ok (.goto (-28), 3) := by decide +kernel
theorem dX10_cellsWithWood_35 : decode cX10_cellsWithWood 35 = .ok (.iload_n 1, 1) := by decide +kernel
theorem dX10_cellsWithWood_36 : decode cX10_cellsWithWood 36 = .ok (.ireturn, 1) := by decide +kernel
theorem dX10_firesSmoking_0 : decode cX10_firesSmoking 0 = .ok (.iconst 0, 1) := by decide +kernel
theorem dX10_firesSmoking_1 : decode cX10_firesSmoking 1 = .ok (.istore_n 1, 1) := by decide +kernel
theorem dX10_firesSmoking_2 : decode cX10_firesSmoking 2 = .ok (.iconst 0, 1) := by decide +kernel
theorem dX10_firesSmoking_3 : decode cX10_firesSmoking 3 = .ok (.istore_n 2, 1) := by decide +kernel
theorem dX10_firesSmoking_4 : decode cX10_firesSmoking 4 = .ok (.iload_n 2, 1) := by decide +kernel
theorem dX10_firesSmoking_5 : decode cX10_firesSmoking 5 = .ok (.aload_n 0, 1) := by decide +kernel
theorem dX10_firesSmoking_6 : decode cX10_firesSmoking 6 = .ok (.getfield 39, 3) := by decide +kernel
theorem dX10_firesSmoking_9 : decode cX10_firesSmoking 9 = .ok (.if_icmp .ge 31, 3) := by decide +kernel
theorem dX10_firesSmoking_12 : decode cX10_firesSmoking 12 = .ok (.iload_n 1, 1) := by decide +kernel
theorem dX10_firesSmoking_13 : decode cX10_firesSmoking 13 = .ok (.aload_n 0, 1) := by decide +kernel
theorem dX10_firesSmoking_14 : decode cX10_firesSmoking 14 = .ok (.getfield 21, 3) := by decide +kernel
theorem dX10_firesSmoking_17 : decode cX10_firesSmoking 17 = .ok (.iload_n 2, 1) := by decide +kernel
theorem dX10_firesSmoking_18 : decode cX10_firesSmoking 18 = .ok (.aaload, 1) := by decide +kernel
theorem dX10_firesSmoking_19 : decode cX10_firesSmoking 19 = .ok (.getfield 70, 3) := by decide +kernel
theorem dX10_firesSmoking_22 : decode cX10_firesSmoking 22 = .ok (.ifCond .le 9, 3) := by decide +kernel
theorem dX10_firesSmoking_25 : decode cX10_firesSmoking 25 = .ok (.iconst 1, 1) := by decide +kernel
theorem dX10_firesSmoking_26 : decode cX10_firesSmoking 26 = .ok (.iload_n 2, 1) := by decide +kernel
theorem dX10_firesSmoking_27 : decode cX10_firesSmoking 27 = .ok (.ishl, 1) := by decide +kernel
theorem dX10_firesSmoking_28 : decode cX10_firesSmoking 28 = .ok (.goto 4, 3) := by decide +kernel
theorem dX10_firesSmoking_31 : decode cX10_firesSmoking 31 = .ok (.iconst 0, 1) := by decide +kernel
theorem dX10_firesSmoking_32 : decode cX10_firesSmoking 32 = .ok (.ior, 1) := by decide +kernel
theorem dX10_firesSmoking_33 : decode cX10_firesSmoking 33 = .ok (.istore_n 1, 1) := by decide +kernel
theorem dX10_firesSmoking_34 : decode cX10_firesSmoking 34 = .ok (.iinc 2 1, 3) := by decide +kernel
theorem dX10_firesSmoking_37 : decode cX10_firesSmoking 37 = .ok (.goto (-33), 3) := by decide +kernel
theorem dX10_firesSmoking_40 : decode cX10_firesSmoking 40 = .ok (.iload_n 1, 1) := by decide +kernel
theorem dX10_firesSmoking_41 : decode cX10_firesSmoking 41 = .ok (.ireturn, 1) := by decide +kernel
theorem dX10_firesSmokingAt_0 : decode cX10_firesSmokingAt 0 = .ok (.iconst 0, 1) := by decide +kernel
theorem dX10_firesSmokingAt_1 : decode cX10_firesSmokingAt 1 = .ok (.istore_n 2, 1) := by decide +kernel
theorem dX10_firesSmokingAt_2 : decode cX10_firesSmokingAt 2 = .ok (.iconst 0, 1) := by decide +kernel
theorem dX10_firesSmokingAt_3 : decode cX10_firesSmokingAt 3 = .ok (.istore_n 3, 1) := by decide +kernel
theorem dX10_firesSmokingAt_4 : decode cX10_firesSmokingAt 4 = .ok (.iload_n 3, 1) := by decide +kernel
theorem dX10_firesSmokingAt_5 : decode cX10_firesSmokingAt 5 = .ok (.aload_n 0, 1) := by decide +kernel
theorem dX10_firesSmokingAt_6 : decode cX10_firesSmokingAt 6 = .ok (.getfield 39, 3) := by decide +kernel
theorem dX10_firesSmokingAt_9 : decode cX10_firesSmokingAt 9 = .ok (.if_icmp .ge 44, 3) := by decide +kernel
theorem dX10_firesSmokingAt_12 : decode cX10_firesSmokingAt 12 = .ok (.iload_n 2, 1) := by decide +kernel
theorem dX10_firesSmokingAt_13 : decode cX10_firesSmokingAt 13 = .ok (.aload_n 0, 1) := by decide +kernel
theorem dX10_firesSmokingAt_14 : decode cX10_firesSmokingAt 14 = .ok (.getfield 21, 3) := by decide +kernel
theorem dX10_firesSmokingAt_17 : decode cX10_firesSmokingAt 17 = .ok (.iload_n 3, 1) := by decide +kernel
theorem dX10_firesSmokingAt_18 : decode cX10_firesSmokingAt 18 = .ok (.aaload, 1) := by decide +kernel
theorem dX10_firesSmokingAt_19 : decode cX10_firesSmokingAt 19 = .ok (.getfield 70, 3) := by decide +kernel
theorem dX10_firesSmokingAt_22 : decode cX10_firesSmokingAt 22 = .ok (.ifCond .le 22, 3) := by decide +kernel
theorem dX10_firesSmokingAt_25 : decode cX10_firesSmokingAt 25 = .ok (.aload_n 0, 1) := by decide +kernel
theorem dX10_firesSmokingAt_26 : decode cX10_firesSmokingAt 26 = .ok (.getfield 21, 3) := by decide +kernel
theorem dX10_firesSmokingAt_29 : decode cX10_firesSmokingAt 29 = .ok (.iload_n 3, 1) := by decide +kernel
theorem dX10_firesSmokingAt_30 : decode cX10_firesSmokingAt 30 = .ok (.aaload, 1) := by decide +kernel
theorem dX10_firesSmokingAt_31 : decode cX10_firesSmokingAt 31 = .ok (.getfield 67, 3) := by decide +kernel
theorem dX10_firesSmokingAt_34 : decode cX10_firesSmokingAt 34 = .ok (.iload_n 1, 1) := by decide +kernel
theorem dX10_firesSmokingAt_35 : decode cX10_firesSmokingAt 35 = .ok (.if_icmp .ne 9, 3) := by decide +kernel
theorem dX10_firesSmokingAt_38 : decode cX10_firesSmokingAt 38 = .ok (.iconst 1, 1) := by decide +kernel
theorem dX10_firesSmokingAt_39 : decode cX10_firesSmokingAt 39 = .ok (.iload_n 3, 1) := by decide +kernel
theorem dX10_firesSmokingAt_40 : decode cX10_firesSmokingAt 40 = .ok (.ishl, 1) := by decide +kernel
theorem dX10_firesSmokingAt_41 : decode cX10_firesSmokingAt 41 = .ok (.goto 4, 3) := by decide +kernel
theorem dX10_firesSmokingAt_44 : decode cX10_firesSmokingAt 44 = .ok (.iconst 0, 1) := by decide +kernel
theorem dX10_firesSmokingAt_45 : decode cX10_firesSmokingAt 45 = .ok (.ior, 1) := by decide +kernel
theorem dX10_firesSmokingAt_46 : decode cX10_firesSmokingAt 46 = .ok (.istore_n 2, 1) := by decide +kernel
theorem dX10_firesSmokingAt_47 : decode cX10_firesSmokingAt 47 = .ok (.iinc 3 1, 3) := by decide +kernel
theorem dX10_firesSmokingAt_50 : decode cX10_firesSmokingAt 50 = .ok (.goto (-46), 3) := by decide +kernel
theorem dX10_firesSmokingAt_53 : decode cX10_firesSmokingAt 53 = .ok (.iload_n 2, 1) := by decide +kernel
theorem dX10_firesSmokingAt_54 : decode cX10_firesSmokingAt 54 = .ok (.ireturn, 1) := by decide +kernel
theorem dX10_firesBuiltAt_0 : decode cX10_firesBuiltAt 0 = .ok (.iconst 0, 1) := by decide +kernel
theorem dX10_firesBuiltAt_1 : decode cX10_firesBuiltAt 1 = .ok (.istore_n 2, 1) := by decide +kernel
theorem dX10_firesBuiltAt_2 : decode cX10_firesBuiltAt 2 = .ok (.iconst 0, 1) := by decide +kernel
theorem dX10_firesBuiltAt_3 : decode cX10_firesBuiltAt 3 = .ok (.istore_n 3, 1) := by decide +kernel
theorem dX10_firesBuiltAt_4 : decode cX10_firesBuiltAt 4 = .ok (.iload_n 3, 1) := by decide +kernel
theorem dX10_firesBuiltAt_5 : decode cX10_firesBuiltAt 5 = .ok (.aload_n 0, 1) := by decide +kernel
theorem dX10_firesBuiltAt_6 : decode cX10_firesBuiltAt 6 = .ok (.getfield 39, 3) := by decide +kernel
theorem dX10_firesBuiltAt_9 : decode cX10_firesBuiltAt 9 = .ok (.if_icmp .ge 32, 3) := by decide +kernel
theorem dX10_firesBuiltAt_12 : decode cX10_firesBuiltAt 12 = .ok (.iload_n 2, 1) := by decide +kernel
theorem dX10_firesBuiltAt_13 : decode cX10_firesBuiltAt 13 = .ok (.aload_n 0, 1) := by decide +kernel
theorem dX10_firesBuiltAt_14 : decode cX10_firesBuiltAt 14 = .ok (.getfield 21, 3) := by decide +kernel
theorem dX10_firesBuiltAt_17 : decode cX10_firesBuiltAt 17 = .ok (.iload_n 3, 1) := by decide +kernel
theorem dX10_firesBuiltAt_18 : decode cX10_firesBuiltAt 18 = .ok (.aaload, 1) := by decide +kernel
theorem dX10_firesBuiltAt_19 : decode cX10_firesBuiltAt 19 = .ok (.getfield 58, 3) := by decide +kernel
theorem dX10_firesBuiltAt_22 : decode cX10_firesBuiltAt 22 = .ok (.iload_n 1, 1) := by decide +kernel
theorem dX10_firesBuiltAt_23 : decode cX10_firesBuiltAt 23 = .ok (.if_icmp .ne 9, 3) := by decide +kernel
theorem dX10_firesBuiltAt_26 : decode cX10_firesBuiltAt 26 = .ok (.iconst 1, 1) := by decide +kernel
theorem dX10_firesBuiltAt_27 : decode cX10_firesBuiltAt 27 = .ok (.iload_n 3, 1) := by decide +kernel
theorem dX10_firesBuiltAt_28 : decode cX10_firesBuiltAt 28 = .ok (.ishl, 1) := by decide +kernel
theorem dX10_firesBuiltAt_29 : decode cX10_firesBuiltAt 29 = .ok (.goto 4, 3) := by decide +kernel
theorem dX10_firesBuiltAt_32 : decode cX10_firesBuiltAt 32 = .ok (.iconst 0, 1) := by decide +kernel
theorem dX10_firesBuiltAt_33 : decode cX10_firesBuiltAt 33 = .ok (.ior, 1) := by decide +kernel
theorem dX10_firesBuiltAt_34 : decode cX10_firesBuiltAt 34 = .ok (.istore_n 2, 1) := by decide +kernel
theorem dX10_firesBuiltAt_35 : decode cX10_firesBuiltAt 35 = .ok (.iinc 3 1, 3) := by decide +kernel
theorem dX10_firesBuiltAt_38 : decode cX10_firesBuiltAt 38 = .ok (.goto (-34), 3) := by decide +kernel
theorem dX10_firesBuiltAt_41 : decode cX10_firesBuiltAt 41 = .ok (.iload_n 2, 1) := by decide +kernel
theorem dX10_firesBuiltAt_42 : decode cX10_firesBuiltAt 42 = .ok (.ireturn, 1) := by decide +kernel
theorem dX10_firesAtHomeIn_0 : decode cX10_firesAtHomeIn 0 = .ok (.iconst 0, 1) := by decide +kernel
theorem dX10_firesAtHomeIn_1 : decode cX10_firesAtHomeIn 1 = .ok (.istore_n 2, 1) := by decide +kernel
theorem dX10_firesAtHomeIn_2 : decode cX10_firesAtHomeIn 2 = .ok (.iconst 0, 1) := by decide +kernel
theorem dX10_firesAtHomeIn_3 : decode cX10_firesAtHomeIn 3 = .ok (.istore_n 3, 1) := by decide +kernel
theorem dX10_firesAtHomeIn_4 : decode cX10_firesAtHomeIn 4 = .ok (.iload_n 3, 1) := by decide +kernel
theorem dX10_firesAtHomeIn_5 : decode cX10_firesAtHomeIn 5 = .ok (.aload_n 0, 1) := by decide +kernel
theorem dX10_firesAtHomeIn_6 : decode cX10_firesAtHomeIn 6 = .ok (.getfield 39, 3) := by decide +kernel
theorem dX10_firesAtHomeIn_9 : decode cX10_firesAtHomeIn 9 = .ok (.if_icmp .ge 32, 3) := by decide +kernel
theorem dX10_firesAtHomeIn_12 : decode cX10_firesAtHomeIn 12 = .ok (.iload_n 2, 1) := by decide +kernel
theorem dX10_firesAtHomeIn_13 : decode cX10_firesAtHomeIn 13 = .ok (.aload_n 0, 1) := by decide +kernel
theorem dX10_firesAtHomeIn_14 : decode cX10_firesAtHomeIn 14 = .ok (.getfield 21, 3) := by decide +kernel
theorem dX10_firesAtHomeIn_17 : decode cX10_firesAtHomeIn 17 = .ok (.iload_n 3, 1) := by decide +kernel
theorem dX10_firesAtHomeIn_18 : decode cX10_firesAtHomeIn 18 = .ok (.aaload, 1) := by decide +kernel
theorem dX10_firesAtHomeIn_19 : decode cX10_firesAtHomeIn 19 = .ok (.getfield 61, 3) := by decide +kernel
theorem dX10_firesAtHomeIn_22 : decode cX10_firesAtHomeIn 22 = .ok (.iload_n 1, 1) := by decide +kernel
theorem dX10_firesAtHomeIn_23 : decode cX10_firesAtHomeIn 23 = .ok (.if_icmp .ne 9, 3) := by decide +kernel
theorem dX10_firesAtHomeIn_26 : decode cX10_firesAtHomeIn 26 = .ok (.iconst 1, 1) := by decide +kernel
theorem dX10_firesAtHomeIn_27 : decode cX10_firesAtHomeIn 27 = .ok (.iload_n 3, 1) := by decide +kernel
theorem dX10_firesAtHomeIn_28 : decode cX10_firesAtHomeIn 28 = .ok (.ishl, 1) := by decide +kernel
theorem dX10_firesAtHomeIn_29 : decode cX10_firesAtHomeIn 29 = .ok (.goto 4, 3) := by decide +kernel
theorem dX10_firesAtHomeIn_32 : decode cX10_firesAtHomeIn 32 = .ok (.iconst 0, 1) := by decide +kernel
theorem dX10_firesAtHomeIn_33 : decode cX10_firesAtHomeIn 33 = .ok (.ior, 1) := by decide +kernel
theorem dX10_firesAtHomeIn_34 : decode cX10_firesAtHomeIn 34 = .ok (.istore_n 2, 1) := by decide +kernel
theorem dX10_firesAtHomeIn_35 : decode cX10_firesAtHomeIn 35 = .ok (.iinc 3 1, 3) := by decide +kernel
theorem dX10_firesAtHomeIn_38 : decode cX10_firesAtHomeIn 38 = .ok (.goto (-34), 3) := by decide +kernel
theorem dX10_firesAtHomeIn_41 : decode cX10_firesAtHomeIn 41 = .ok (.iload_n 2, 1) := by decide +kernel
theorem dX10_firesAtHomeIn_42 : decode cX10_firesAtHomeIn 42 = .ok (.ireturn, 1) := by decide +kernel
theorem dX10_spotsThatHold_0 : decode cX10_spotsThatHold 0 = .ok (.iconst 0, 1) := by decide +kernel
theorem dX10_spotsThatHold_1 : decode cX10_spotsThatHold 1 = .ok (.istore_n 1, 1) := by decide +kernel
theorem dX10_spotsThatHold_2 : decode cX10_spotsThatHold 2 = .ok (.iconst 0, 1) := by decide +kernel
theorem dX10_spotsThatHold_3 : decode cX10_spotsThatHold 3 = .ok (.istore_n 2, 1) := by decide +kernel
theorem dX10_spotsThatHold_4 : decode cX10_spotsThatHold 4 = .ok (.iload_n 2, 1) := by decide +kernel
theorem dX10_spotsThatHold_5 : decode cX10_spotsThatHold 5 = .ok (.bipush 9, 2) := by decide +kernel
theorem dX10_spotsThatHold_7 : decode cX10_spotsThatHold 7 = .ok (.if_icmp .gt 27, 3) := by decide +kernel
theorem dX10_spotsThatHold_10 : decode cX10_spotsThatHold 10 = .ok (.iload_n 1, 1) := by decide +kernel
theorem dX10_spotsThatHold_11 : decode cX10_spotsThatHold 11 = .ok (.aload_n 0, 1) := by decide +kernel
theorem dX10_spotsThatHold_12 : decode cX10_spotsThatHold 12 = .ok (.getfield 26, 3) := by decide +kernel
theorem dX10_spotsThatHold_15 : decode cX10_spotsThatHold 15 = .ok (.iload_n 2, 1) := by decide +kernel
theorem dX10_spotsThatHold_16 : decode cX10_spotsThatHold 16 = .ok (.iaload, 1) := by decide +kernel
theorem dX10_spotsThatHold_17 : decode cX10_spotsThatHold 17 = .ok (.iconst (-1), 1) := by decide +kernel
theorem dX10_spotsThatHold_18 : decode cX10_spotsThatHold 18 = .ok (.if_icmp .eq 7, 3) := by decide +kernel
theorem dX10_spotsThatHold_21 : decode cX10_spotsThatHold 21 = .ok (.iconst 1, 1) := by decide +kernel
theorem dX10_spotsThatHold_22 : decode cX10_spotsThatHold 22 = .ok (.goto 4, 3) := by decide +kernel
theorem dX10_spotsThatHold_25 : decode cX10_spotsThatHold 25 = .ok (.iconst 0, 1) := by decide +kernel
theorem dX10_spotsThatHold_26 : decode cX10_spotsThatHold 26 = .ok (.iadd, 1) := by decide +kernel
theorem dX10_spotsThatHold_27 : decode cX10_spotsThatHold 27 = .ok (.istore_n 1, 1) := by decide +kernel
theorem dX10_spotsThatHold_28 : decode cX10_spotsThatHold 28 = .ok (.iinc 2 1, 3) := by decide +kernel
theorem dX10_spotsThatHold_31 : decode cX10_spotsThatHold 31 = .ok (.goto (-27), 3) := by decide +kernel
theorem dX10_spotsThatHold_34 : decode cX10_spotsThatHold 34 = .ok (.iload_n 1, 1) := by decide +kernel
theorem dX10_spotsThatHold_35 : decode cX10_spotsThatHold 35 = .ok (.ireturn, 1) := by decide +kernel
end
section
theorem dX11_init_0 : decode cX11_init 0 = .ok (.aload_n 0, 1) := by decide +kernel
theorem dX11_init_1 : decode cX11_init 1 = .ok (.invokespecial 1, 3) := by decide +kernel
theorem dX11_init_4 : decode cX11_init 4 = .ok (.bipush 7, 2) := by decide +kernel
theorem dX11_init_6 : decode cX11_init 6 = .ok (.anewarray 7, 3) := by decide +kernel
theorem dX11_init_9 : decode cX11_init 9 = .ok (.dup, 1) := by decide +kernel
theorem dX11_init_10 : decode cX11_init 10 = .ok (.iconst 0, 1) := by decide +kernel
theorem dX11_init_11 : decode cX11_init 11 = .ok (.new 7, 3) := by decide +kernel
theorem dX11_init_14 : decode cX11_init 14 = .ok (.dup, 1) := by decide +kernel
theorem dX11_init_15 : decode cX11_init 15 = .ok (.invokespecial 9, 3) := by decide +kernel
theorem dX11_init_18 : decode cX11_init 18 = .ok (.aastore, 1) := by decide +kernel
theorem dX11_init_19 : decode cX11_init 19 = .ok (.dup, 1) := by decide +kernel
theorem dX11_init_20 : decode cX11_init 20 = .ok (.iconst 1, 1) := by decide +kernel
theorem dX11_init_21 : decode cX11_init 21 = .ok (.new 10, 3) := by decide +kernel
theorem dX11_init_24 : decode cX11_init 24 = .ok (.dup, 1) := by decide +kernel
theorem dX11_init_25 : decode cX11_init 25 = .ok (.invokespecial 12, 3) := by decide +kernel
theorem dX11_init_28 : decode cX11_init 28 = .ok (.aastore, 1) := by decide +kernel
theorem dX11_init_29 : decode cX11_init 29 = .ok (.dup, 1) := by decide +kernel
theorem dX11_init_30 : decode cX11_init 30 = .ok (.iconst 2, 1) := by decide +kernel
theorem dX11_init_31 : decode cX11_init 31 = .ok (.new 13, 3) := by decide +kernel
theorem dX11_init_34 : decode cX11_init 34 = .ok (.dup, 1) := by decide +kernel
theorem dX11_init_35 : decode cX11_init 35 = .ok (.invokespecial 15, 3) := by decide +kernel
theorem dX11_init_38 : decode cX11_init 38 = .ok (.aastore, 1) := by decide +kernel
theorem dX11_init_39 : decode cX11_init 39 = .ok (.dup, 1) := by decide +kernel
theorem dX11_init_40 : decode cX11_init 40 = .ok (.iconst 3, 1) := by decide +kernel
theorem dX11_init_41 : decode cX11_init 41 = .ok (.new 16, 3) := by decide +kernel
theorem dX11_init_44 : decode cX11_init 44 = .ok (.dup, 1) := by decide +kernel
theorem dX11_init_45 : decode cX11_init 45 = .ok (.invokespecial 18, 3) := by decide +kernel
theorem dX11_init_48 : decode cX11_init 48 = .ok (.aastore, 1) := by decide +kernel
theorem dX11_init_49 : decode cX11_init 49 = .ok (.dup, 1) := by decide +kernel
theorem dX11_init_50 : decode cX11_init 50 = .ok (.iconst 4, 1) := by decide +kernel
theorem dX11_init_51 : decode cX11_init 51 = .ok (.new 19, 3) := by decide +kernel
theorem dX11_init_54 : decode cX11_init 54 = .ok (.dup, 1) := by decide +kernel
theorem dX11_init_55 : decode cX11_init 55 = .ok (.invokespecial 21, 3) := by decide +kernel
theorem dX11_init_58 : decode cX11_init 58 = .ok (.aastore, 1) := by decide +kernel
theorem dX11_init_59 : decode cX11_init 59 = .ok (.dup, 1) := by decide +kernel
theorem dX11_init_60 : decode cX11_init 60 = .ok (.iconst 5, 1) := by decide +kernel
theorem dX11_init_61 : decode cX11_init 61 = .ok (.new 22, 3) := by decide +kernel
theorem dX11_init_64 : decode cX11_init 64 = .ok (.dup, 1) := by decide +kernel
theorem dX11_init_65 : decode cX11_init 65 = .ok (.invokespecial 24, 3) := by decide +kernel
theorem dX11_init_68 : decode cX11_init 68 = .ok (.aastore, 1) := by decide +kernel
theorem dX11_init_69 : decode cX11_init 69 = .ok (.dup, 1) := by decide +kernel
theorem dX11_init_70 : decode cX11_init 70 = .ok (.bipush 6, 2) := by decide +kernel
theorem dX11_init_72 : decode cX11_init 72 = .ok (.new 25, 3) := by decide +kernel
theorem dX11_init_75 : decode cX11_init 75 = .ok (.dup, 1) := by decide +kernel
theorem dX11_init_76 : decode cX11_init 76 = .ok (.invokespecial 27, 3) := by decide +kernel
theorem dX11_init_79 : decode cX11_init 79 = .ok (.aastore, 1) := by decide +kernel
theorem dX11_init_80 : decode cX11_init 80 = .ok (.astore_n 1, 1) := by decide +kernel
theorem dX11_init_81 : decode cX11_init 81 = .ok (.aload_n 0, 1) := by decide +kernel
theorem dX11_init_82 : decode cX11_init 82 = .ok (.new 28, 3) := by decide +kernel
theorem dX11_init_85 : decode cX11_init 85 = .ok (.dup, 1) := by decide +kernel
theorem dX11_init_86 : decode cX11_init 86 = .ok (.aload_n 1, 1) := by decide +kernel
theorem dX11_init_87 : decode cX11_init 87 = .ok (.invokespecial 30, 3) := by decide +kernel
theorem dX11_init_90 : decode cX11_init 90 = .ok (.putfield 33, 3) := by decide +kernel
theorem dX11_init_93 : decode cX11_init 93 = .ok (.aload_n 0, 1) := by decide +kernel
theorem dX11_init_94 : decode cX11_init 94 = .ok (.new 28, 3) := by decide +kernel
theorem dX11_init_97 : decode cX11_init 97 = .ok (.dup, 1) := by decide +kernel
theorem dX11_init_98 : decode cX11_init 98 = .ok (.aload_n 1, 1) := by decide +kernel
theorem dX11_init_99 : decode cX11_init 99 = .ok (.invokespecial 30, 3) := by decide +kernel
theorem dX11_init_102 : decode cX11_init 102 = .ok (.putfield 39, 3) := by decide +kernel
theorem dX11_init_105 : decode cX11_init 105 = .ok (.aload_n 0, 1) := by decide +kernel
theorem dX11_init_106 : decode cX11_init 106 = .ok (.new 28, 3) := by decide +kernel
theorem dX11_init_109 : decode cX11_init 109 = .ok (.dup, 1) := by decide +kernel
theorem dX11_init_110 : decode cX11_init 110 = .ok (.aload_n 1, 1) := by decide +kernel
theorem dX11_init_111 : decode cX11_init 111 = .ok (.invokespecial 30, 3) := by decide +kernel
theorem dX11_init_114 : decode cX11_init 114 = .ok (.putfield 42, 3) := by decide +kernel
theorem dX11_init_117 : decode cX11_init 117 = .ok (.aload_n 0, 1) := by decide +kernel
theorem dX11_init_118 : decode cX11_init 118 = .ok (.new 45, 3) := by decide +kernel
theorem dX11_init_121 : decode cX11_init 121 = .ok (.dup, 1) := by decide +kernel
theorem dX11_init_122 : decode cX11_init 122 = .ok (.invokespecial 47, 3) := by decide +kernel
theorem dX11_init_125 : decode cX11_init 125 = .ok (.putfield 48, 3) := by decide +kernel
theorem dX11_init_128 : decode cX11_init 128 = .ok (.aload_n 0, 1) := by decide +kernel
theorem dX11_init_129 : decode cX11_init 129 = .ok (.iconst 4, 1) := by decide +kernel
theorem dX11_init_130 : decode cX11_init 130 = .ok (.anewarray 52, 3) := by decide +kernel
theorem dX11_init_133 : decode cX11_init 133 = .ok (.putfield 54, 3) := by decide +kernel
theorem dX11_init_136 : decode cX11_init 136 = .ok (.iconst 0, 1) := by decide +kernel
theorem dX11_init_137 : decode cX11_init 137 = .ok (.istore_n 2, 1) := by decide +kernel
theorem dX11_init_138 : decode cX11_init 138 = .ok (.iload_n 2, 1) := by decide +kernel
theorem dX11_init_139 : decode cX11_init 139 = .ok (.iconst 3, 1) := by decide +kernel
theorem dX11_init_140 : decode cX11_init 140 = .ok (.if_icmp .gt 22, 3) := by decide +kernel
theorem dX11_init_143 : decode cX11_init 143 = .ok (.aload_n 0, 1) := by decide +kernel
theorem dX11_init_144 : decode cX11_init 144 = .ok (.getfield 54, 3) := by decide +kernel
theorem dX11_init_147 : decode cX11_init 147 = .ok (.iload_n 2, 1) := by decide +kernel
theorem dX11_init_148 : decode cX11_init 148 = .ok (.new 52, 3) := by decide +kernel
theorem dX11_init_151 : decode cX11_init 151 = .ok (.dup, 1) := by decide +kernel
theorem dX11_init_152 : decode cX11_init 152 = .ok (.invokespecial 58, 3) := by decide +kernel
theorem dX11_init_155 : decode cX11_init 155 = .ok (.aastore, 1) := by decide +kernel
theorem dX11_init_156 : decode cX11_init 156 = .ok (.iinc 2 1, 3) := by decide +kernel
theorem dX11_init_159 : decode cX11_init 159 = .ok (.goto (-21), 3) := by decide +kernel
theorem dX11_init_162 : decode cX11_init 162 = .ok (.aload_n 0, 1) := by decide +kernel
theorem dX11_init_163 : decode cX11_init 163 = .ok (.bipush 7, 2) := by decide +kernel
theorem dX11_init_165 : decode cX11_init 165 = .ok (.newarray .int, 2) := by decide +kernel
theorem dX11_init_167 : decode cX11_init 167 = .ok (.putfield 59, 3) := by decide +kernel
theorem dX11_init_170 : decode cX11_init 170 = .ok (.aload_n 0, 1) := by decide +kernel
theorem dX11_init_171 : decode cX11_init 171 = .ok (.iconst 0, 1) := by decide +kernel
theorem dX11_init_172 : decode cX11_init 172 = .ok (.putfield 63, 3) := by decide +kernel
theorem dX11_init_175 : decode cX11_init 175 = .ok (.return_, 1) := by decide +kernel
theorem dX11_wood_0 : decode cX11_wood 0 = .ok (.iload_n 1, 1) := by decide +kernel
theorem dX11_wood_1 : decode cX11_wood 1 = .ok (.bipush 24, 2) := by decide +kernel
theorem dX11_wood_3 : decode cX11_wood 3 = .ok (.invokestatic 67, 3) := by decide +kernel
theorem dX11_wood_6 : decode cX11_wood 6 = .ok (.ifCond .ne 13, 3) := by decide +kernel
theorem dX11_wood_9 : decode cX11_wood 9 = .ok (.iload_n 2, 1) := by decide +kernel
theorem dX11_wood_10 : decode cX11_wood 10 = .ok (.sipush 9999, 3) := by decide +kernel
theorem dX11_wood_13 : decode cX11_wood 13 = .ok (.invokestatic 67, 3) := by decide +kernel
theorem dX11_wood_16 : decode cX11_wood 16 = .ok (.ifCond .eq 9, 3) := by decide +kernel
theorem dX11_wood_19 : decode cX11_wood 19 = .ok (.aload_n 0, 1) := by decide +kernel
theorem dX11_wood_20 : decode cX11_wood 20 = .ok (.iconst 0, 1) := by decide +kernel
theorem dX11_wood_21 : decode cX11_wood 21 = .ok (.invokevirtual 71, 3) := by decide +kernel
theorem dX11_wood_24 : decode cX11_wood 24 = .ok (.ireturn, 1) := by decide +kernel
theorem dX11_wood_25 : decode cX11_wood 25 = .ok (.aload_n 0, 1) := by decide +kernel
theorem dX11_wood_26 : decode cX11_wood 26 = .ok (.getfield 33, 3) := by decide +kernel
theorem dX11_wood_29 : decode cX11_wood 29 = .ok (.getfield 75, 3) := by decide +kernel
theorem dX11_wood_32 : decode cX11_wood 32 = .ok (.iload_n 1, 1) := by decide +kernel
theorem dX11_wood_33 : decode cX11_wood 33 = .ok (.iaload, 1) := by decide +kernel
theorem dX11_wood_34 : decode cX11_wood 34 = .ok (.istore_n 3, 1) := by decide +kernel
theorem dX11_wood_35 : decode cX11_wood 35 = .ok (.aload_n 0, 1) := by decide +kernel
theorem dX11_wood_36 : decode cX11_wood 36 = .ok (.getfield 33, 3) := by decide +kernel
theorem dX11_wood_39 : decode cX11_wood 39 = .ok (.getfield 75, 3) := by decide +kernel
theorem dX11_wood_42 : decode cX11_wood 42 = .ok (.iload_n 1, 1) := by decide +kernel
theorem dX11_wood_43 : decode cX11_wood 43 = .ok (.iload_n 2, 1) := by decide +kernel
theorem dX11_wood_44 : decode cX11_wood 44 = .ok (.iastore, 1) := by decide +kernel
theorem dX11_wood_45 : decode cX11_wood 45 = .ok (.iload_n 3, 1) := by decide +kernel
theorem dX11_wood_46 : decode cX11_wood 46 = .ok (.ireturn, 1) := by decide +kernel
theorem dX11_cell_0 : decode cX11_cell 0 = .ok (.iload_n 1, 1) := by decide +kernel
theorem dX11_cell_1 : decode cX11_cell 1 = .ok (.bipush 24, 2) := by decide +kernel
theorem dX11_cell_3 : decode cX11_cell 3 = .ok (.invokestatic 67, 3) := by decide +kernel
theorem dX11_cell_6 : decode cX11_cell 6 = .ok (.ifCond .eq 9, 3) := by decide +kernel
theorem dX11_cell_9 : decode cX11_cell 9 = .ok (.aload_n 0, 1) := by decide +kernel
theorem dX11_cell_10 : decode cX11_cell 10 = .ok (.iconst 0, 1) := by decide +kernel
theorem dX11_cell_11 : decode cX11_cell 11 = .ok (.invokevirtual 71, 3) := by decide +kernel
theorem dX11_cell_14 : decode cX11_cell 14 = .ok (.ireturn, 1) := by decide +kernel
theorem dX11_cell_15 : decode cX11_cell 15 = .ok (.iload_n 2, 1) := by decide +kernel
theorem dX11_cell_16 : decode cX11_cell 16 = .ok (.tableswitch 69 0 3 #[32, 42, 51, 60], 32) := by decide +kernel
theorem dX11_cell_48 : decode cX11_cell 48 = .ok (.aload_n 0, 1) := by decide +kernel
theorem dX11_cell_49 : decode cX11_cell 49 = .ok (.getfield 33, 3) := by decide +kernel
theorem dX11_cell_52 : decode cX11_cell 52 = .ok (.getfield 75, 3) := by decide +kernel
theorem dX11_cell_55 : decode cX11_cell 55 = .ok (.iload_n 1, 1) := by decide +kernel
theorem dX11_cell_56 : decode cX11_cell 56 = .ok (.iaload, 1) := by decide +kernel
theorem dX11_cell_57 : decode cX11_cell 57 = .ok (.ireturn, 1) := by decide +kernel
theorem dX11_cell_58 : decode cX11_cell 58 = .ok (.aload_n 0, 1) := by decide +kernel
theorem dX11_cell_59 : decode cX11_cell 59 = .ok (.getfield 33, 3) := by decide +kernel
theorem dX11_cell_62 : decode cX11_cell 62 = .ok (.iload_n 1, 1) := by decide +kernel
theorem dX11_cell_63 : decode cX11_cell 63 = .ok (.invokevirtual 78, 3) := by decide +kernel
theorem dX11_cell_66 : decode cX11_cell 66 = .ok (.ireturn, 1) := by decide +kernel
theorem dX11_cell_67 : decode cX11_cell 67 = .ok (.aload_n 0, 1) := by decide +kernel
theorem dX11_cell_68 : decode cX11_cell 68 = .ok (.getfield 33, 3) := by decide +kernel
theorem dX11_cell_71 : decode cX11_cell 71 = .ok (.iload_n 1, 1) := by decide +kernel
theorem dX11_cell_72 : decode cX11_cell 72 = .ok (.invokevirtual 81, 3) := by decide +kernel
theorem dX11_cell_75 : decode cX11_cell 75 = .ok (.ireturn, 1) := by decide +kernel
theorem dX11_cell_76 : decode cX11_cell 76 = .ok (.aload_n 0, 1) := by decide +kernel
theorem dX11_cell_77 : decode cX11_cell 77 = .ok (.getfield 33, 3) := by decide +kernel
theorem dX11_cell_80 : decode cX11_cell 80 = .ok (.iload_n 1, 1) := by decide +kernel
theorem dX11_cell_81 : decode cX11_cell 81 = .ok (.invokevirtual 84, 3) := by decide +kernel
theorem dX11_cell_84 : decode cX11_cell 84 = .ok (.ireturn, 1) := by decide +kernel
theorem dX11_cell_85 : decode cX11_cell 85 = .ok (.aload_n 0, 1) := by decide +kernel
theorem dX11_cell_86 : decode cX11_cell 86 = .ok (.iconst 0, 1) := by decide +kernel
theorem dX11_cell_87 : decode cX11_cell 87 = .ok (.invokevirtual 71, 3) := by decide +kernel
theorem dX11_cell_90 : decode cX11_cell 90 = .ok (.ireturn, 1) := by decide +kernel
theorem dX11_wind_0 : decode cX11_wind 0 = .ok (.iload_n 1, 1) := by decide +kernel
theorem dX11_wind_1 : decode cX11_wind 1 = .ok (.iconst 4, 1) := by decide +kernel
theorem dX11_wind_2 : decode cX11_wind 2 = .ok (.invokestatic 67, 3) := by decide +kernel
theorem dX11_wind_5 : decode cX11_wind 5 = .ok (.ifCond .eq 9, 3) := by decide +kernel
theorem dX11_wind_8 : decode cX11_wind 8 = .ok (.aload_n 0, 1) := by decide +kernel
theorem dX11_wind_9 : decode cX11_wind 9 = .ok (.iconst 0, 1) := by decide +kernel
theorem dX11_wind_10 : decode cX11_wind 10 = .ok (.invokevirtual 71, 3) := by decide +kernel
theorem dX11_wind_13 : decode cX11_wind 13 = .ok (.ireturn, 1) := by decide +kernel
theorem dX11_wind_14 : decode cX11_wind 14 = .ok (.aload_n 0, 1) := by decide +kernel
theorem dX11_wind_15 : decode cX11_wind 15 = .ok (.getfield 33, 3) := by decide +kernel
theorem dX11_wind_18 : decode cX11_wind 18 = .ok (.getfield 87, 3) := by decide +kernel
theorem dX11_wind_21 : decode cX11_wind 21 = .ok (.istore_n 2, 1) := by decide +kernel
theorem dX11_wind_22 : decode cX11_wind 22 = .ok (.aload_n 0, 1) := by decide +kernel
theorem dX11_wind_23 : decode cX11_wind 23 = .ok (.getfield 33, 3) := by decide +kernel
theorem dX11_wind_26 : decode cX11_wind 26 = .ok (.iload_n 1, 1) := by decide +kernel
theorem dX11_wind_27 : decode cX11_wind 27 = .ok (.putfield 87, 3) := by decide +kernel
theorem dX11_wind_30 : decode cX11_wind 30 = .ok (.iload_n 2, 1) := by decide +kernel
theorem dX11_wind_31 : decode cX11_wind 31 = .ok (.ireturn, 1) := by decide +kernel
theorem dX11_fire_0 : decode cX11_fire 0 = .ok (.iload_n 1, 1) := by decide +kernel
theorem dX11_fire_1 : decode cX11_fire 1 = .ok (.bipush 6, 2) := by decide +kernel
theorem dX11_fire_3 : decode cX11_fire 3 = .ok (.invokestatic 67, 3) := by decide +kernel
theorem dX11_fire_6 : decode cX11_fire 6 = .ok (.ifCond .ne 21, 3) := by decide +kernel
theorem dX11_fire_9 : decode cX11_fire 9 = .ok (.iload_n 2, 1) := by decide +kernel
theorem dX11_fire_10 : decode cX11_fire 10 = .ok (.bipush 24, 2) := by decide +kernel
theorem dX11_fire_12 : decode cX11_fire 12 = .ok (.invokestatic 67, 3) := by decide +kernel
theorem dX11_fire_15 : decode cX11_fire 15 = .ok (.ifCond .ne 12, 3) := by decide +kernel
theorem dX11_fire_18 : decode cX11_fire 18 = .ok (.iload_n 3, 1) := by decide +kernel
theorem dX11_fire_19 : decode cX11_fire 19 = .ok (.bipush 24, 2) := by decide +kernel
theorem dX11_fire_21 : decode cX11_fire 21 = .ok (.invokestatic 67, 3) := by decide +kernel
theorem dX11_fire_24 : decode cX11_fire 24 = .ok (.ifCond .eq 9, 3) := by decide +kernel
theorem dX11_fire_27 : decode cX11_fire 27 = .ok (.aload_n 0, 1) := by decide +kernel
theorem dX11_fire_28 : decode cX11_fire 28 = .ok (.iconst 0, 1) := by decide +kernel
theorem dX11_fire_29 : decode cX11_fire 29 = .ok (.invokevirtual 71, 3) := by decide +kernel
theorem dX11_fire_32 : decode cX11_fire 32 = .ok (.ireturn, 1) := by decide +kernel
theorem dX11_fire_33 : decode cX11_fire 33 = .ok (.aload_n 0, 1) := by decide +kernel
theorem dX11_fire_34 : decode cX11_fire 34 = .ok (.getfield 33, 3) := by decide +kernel
theorem dX11_fire_37 : decode cX11_fire 37 = .ok (.invokevirtual 91, 3) := by decide +kernel
theorem dX11_fire_40 : decode cX11_fire 40 = .ok (.ifCond .eq 9, 3) := by decide +kernel
theorem dX11_fire_43 : decode cX11_fire 43 = .ok (.aload_n 0, 1) := by decide +kernel
theorem dX11_fire_44 : decode cX11_fire 44 = .ok (.iconst 1, 1) := by decide +kernel
theorem dX11_fire_45 : decode cX11_fire 45 = .ok (.invokevirtual 71, 3) := by decide +kernel
theorem dX11_fire_48 : decode cX11_fire 48 = .ok (.ireturn, 1) := by decide +kernel
theorem dX11_fire_49 : decode cX11_fire 49 = .ok (.aload_n 0, 1) := by decide +kernel
theorem dX11_fire_50 : decode cX11_fire 50 = .ok (.getfield 33, 3) := by decide +kernel
theorem dX11_fire_53 : decode cX11_fire 53 = .ok (.iload_n 1, 1) := by decide +kernel
theorem dX11_fire_54 : decode cX11_fire 54 = .ok (.iload_n 2, 1) := by decide +kernel
theorem dX11_fire_55 : decode cX11_fire 55 = .ok (.iload_n 3, 1) := by decide +kernel
theorem dX11_fire_56 : decode cX11_fire 56 = .ok (.bipush 50, 2) := by decide +kernel
theorem dX11_fire_58 : decode cX11_fire 58 = .ok (.invokevirtual 95, 3) := by decide +kernel
theorem dX11_fire_61 : decode cX11_fire 61 = .ok (.ireturn, 1) := by decide +kernel
theorem dX11_of_0 : decode cX11_of 0 = .ok (.aload_n 0, 1) := by decide +kernel
theorem dX11_of_1 : decode cX11_of 1 = .ok (.iload_n 1, 1) := by decide +kernel
theorem dX11_of_2 : decode cX11_of 2 = .ok (.invokevirtual 99, 3) := by decide +kernel
theorem dX11_of_5 : decode cX11_of 5 = .ok (.ifCond .ne 12, 3) := by decide +kernel
theorem dX11_of_8 : decode cX11_of 8 = .ok (.iload_n 2, 1) := by decide +kernel
theorem dX11_of_9 : decode cX11_of 9 = .ok (.bipush 9, 2) := by decide +kernel
theorem dX11_of_11 : decode cX11_of 11 = .ok (.invokestatic 67, 3) := by decide +kernel
theorem dX11_of_14 : decode cX11_of 14 = .ok (.ifCond .eq 9, 3) := by decide +kernel
theorem dX11_of_17 : decode cX11_of 17 = .ok (.aload_n 0, 1) := by decide +kernel
theorem dX11_of_18 : decode cX11_of 18 = .ok (.iconst 0, 1) := by decide +kernel
theorem dX11_of_19 : decode cX11_of 19 = .ok (.invokevirtual 71, 3) := by decide +kernel
theorem dX11_of_22 : decode cX11_of 22 = .ok (.ireturn, 1) := by decide +kernel
theorem dX11_of_23 : decode cX11_of 23 = .ok (.aload_n 0, 1) := by decide +kernel
theorem dX11_of_24 : decode cX11_of 24 = .ok (.getfield 33, 3) := by decide +kernel
theorem dX11_of_27 : decode cX11_of 27 = .ok (.getfield 103, 3) := by decide +kernel
theorem dX11_of_30 : decode cX11_of 30 = .ok (.iload_n 1, 1) := by decide +kernel
theorem dX11_of_31 : decode cX11_of 31 = .ok (.aaload, 1) := by decide +kernel
theorem dX11_of_32 : decode cX11_of 32 = .ok (.astore_n 3, 1) := by decide +kernel
theorem dX11_of_33 : decode cX11_of 33 = .ok (.iload_n 2, 1) := by decide +kernel
theorem dX11_of_34 : decode cX11_of 34 = .ok (.tableswitch 73 7 9 #[26, 45, 68], 26) := by decide +kernel
theorem dX11_of_60 : decode cX11_of 60 = .ok (.aload_n 0, 1) := by decide +kernel
theorem dX11_of_61 : decode cX11_of 61 = .ok (.getfield 33, 3) := by decide +kernel
theorem dX11_of_64 : decode cX11_of 64 = .ok (.aload_n 3, 1) := by decide +kernel
theorem dX11_of_65 : decode cX11_of 65 = .ok (.invokevirtual 107, 3) := by decide +kernel
theorem dX11_of_68 : decode cX11_of 68 = .ok (.aload_n 0, 1) := by decide +kernel
theorem dX11_of_69 : decode cX11_of 69 = .ok (.getfield 33, 3) := by decide +kernel
theorem dX11_of_72 : decode cX11_of 72 = .ok (.getfield 111, 3) := by decide +kernel
theorem dX11_of_75 : decode cX11_of 75 = .ok (.invokevirtual 114, 3) := by decide +kernel
theorem dX11_of_78 : decode cX11_of 78 = .ok (.ireturn, 1) := by decide +kernel
theorem dX11_of_79 : decode cX11_of 79 = .ok (.aload_n 0, 1) := by decide +kernel
theorem dX11_of_80 : decode cX11_of 80 = .ok (.getfield 33, 3) := by decide +kernel
theorem dX11_of_83 : decode cX11_of 83 = .ok (.aload_n 3, 1) := by decide +kernel
theorem dX11_of_84 : decode cX11_of 84 = .ok (.invokevirtual 107, 3) := by decide +kernel
theorem dX11_of_87 : decode cX11_of 87 = .ok (.aload_n 0, 1) := by decide +kernel
theorem dX11_of_88 : decode cX11_of 88 = .ok (.getfield 33, 3) := by decide +kernel
theorem dX11_of_91 : decode cX11_of 91 = .ok (.getfield 111, 3) := by decide +kernel
theorem dX11_of_94 : decode cX11_of 94 = .ok (.aload_n 3, 1) := by decide +kernel
theorem dX11_of_95 : decode cX11_of 95 = .ok (.getfield 117, 3) := by decide +kernel
theorem dX11_of_98 : decode cX11_of 98 = .ok (.invokevirtual 122, 3) := by decide +kernel
theorem dX11_of_101 : decode cX11_of 101 = .ok (.ireturn, 1) := by decide +kernel
theorem dX11_of_102 : decode cX11_of 102 = .ok (.aload_n 3, 1) := by decide +kernel
theorem dX11_of_103 : decode cX11_of 103 = .ok (.invokevirtual 126, 3) := by decide +kernel
theorem dX11_of_106 : decode cX11_of 106 = .ok (.ireturn, 1) := by decide +kernel
theorem dX11_of_107 : decode cX11_of 107 = .ok (.aload_n 3, 1) := by decide +kernel
theorem dX11_of_108 : decode cX11_of 108 = .ok (.iload_n 2, 1) := by decide +kernel
theorem dX11_of_109 : decode cX11_of 109 = .ok (.invokevirtual 130, 3) := by decide +kernel
theorem dX11_of_112 : decode cX11_of 112 = .ok (.ireturn, 1) := by decide +kernel
theorem dX11_change_0 : decode cX11_change 0 = .ok (.aload_n 0, 1) := by decide +kernel
theorem dX11_change_1 : decode cX11_change 1 = .ok (.iload_n 1, 1) := by decide +kernel
theorem dX11_change_2 : decode cX11_change 2 = .ok (.invokevirtual 99, 3) := by decide +kernel
theorem dX11_change_5 : decode cX11_change 5 = .ok (.ifCond .ne 23, 3) := by decide +kernel
theorem dX11_change_8 : decode cX11_change 8 = .ok (.iload_n 2, 1) := by decide +kernel
theorem dX11_change_9 : decode cX11_change 9 = .ok (.bipush 6, 2) := by decide +kernel
theorem dX11_change_11 : decode cX11_change 11 = .ok (.invokestatic 67, 3) := by decide +kernel
theorem dX11_change_14 : decode cX11_change 14 = .ok (.ifCond .ne 14, 3) := by decide +kernel
theorem dX11_change_17 : decode cX11_change 17 = .ok (.iload_n 3, 1) := by decide +kernel
theorem dX11_change_18 : decode cX11_change 18 = .ok (.iload_n 2, 1) := by decide +kernel
theorem dX11_change_19 : decode cX11_change 19 = .ok (.invokestatic 133, 3) := by decide +kernel
theorem dX11_change_22 : decode cX11_change 22 = .ok (.invokestatic 67, 3) := by decide +kernel
theorem dX11_change_25 : decode cX11_change 25 = .ok (.ifCond .eq 9, 3) := by decide +kernel
theorem dX11_change_28 : decode cX11_change 28 = .ok (.aload_n 0, 1) := by decide +kernel
theorem dX11_change_29 : decode cX11_change 29 = .ok (.iconst 0, 1) := by decide +kernel
theorem dX11_change_30 : decode cX11_change 30 = .ok (.invokevirtual 71, 3) := by decide +kernel
theorem dX11_change_33 : decode cX11_change 33 = .ok (.ireturn, 1) := by decide +kernel
theorem dX11_change_34 : decode cX11_change 34 = .ok (.aload_n 0, 1) := by decide +kernel
theorem dX11_change_35 : decode cX11_change 35 = .ok (.getfield 33, 3) := by decide +kernel
theorem dX11_change_38 : decode cX11_change 38 = .ok (.getfield 103, 3) := by decide +kernel
theorem dX11_change_41 : decode cX11_change 41 = .ok (.iload_n 1, 1) := by decide +kernel
theorem dX11_change_42 : decode cX11_change 42 = .ok (.aaload, 1) := by decide +kernel
theorem dX11_change_43 : decode cX11_change 43 = .ok (.iload_n 2, 1) := by decide +kernel
theorem dX11_change_44 : decode cX11_change 44 = .ok (.invokevirtual 130, 3) := by decide +kernel
theorem dX11_change_47 : decode cX11_change 47 = .ok (.istore 4, 2) := by decide +kernel
theorem dX11_change_49 : decode cX11_change 49 = .ok (.aload_n 0, 1) := by decide +kernel
theorem dX11_change_50 : decode cX11_change 50 = .ok (.getfield 33, 3) := by decide +kernel
theorem dX11_change_53 : decode cX11_change 53 = .ok (.getfield 103, 3) := by decide +kernel
theorem dX11_change_56 : decode cX11_change 56 = .ok (.iload_n 1, 1) := by decide +kernel
theorem dX11_change_57 : decode cX11_change 57 = .ok (.aaload, 1) := by decide +kernel
theorem dX11_change_58 : decode cX11_change 58 = .ok (.iload_n 2, 1) := by decide +kernel
theorem dX11_change_59 : decode cX11_change 59 = .ok (.iload_n 3, 1) := by decide +kernel
theorem dX11_change_60 : decode cX11_change 60 = .ok (.invokevirtual 136, 3) := by decide +kernel
theorem dX11_change_63 : decode cX11_change 63 = .ok (.iload 4, 2) := by decide +kernel
theorem dX11_change_65 : decode cX11_change 65 = .ok (.ireturn, 1) := by decide +kernel
theorem dX11_go_0 : decode cX11_go 0 = .ok (.iload_n 1, 1) := by decide +kernel
theorem dX11_go_1 : decode cX11_go 1 = .ok (.iconst 1, 1) := by decide +kernel
theorem dX11_go_2 : decode cX11_go 2 = .ok (.if_icmp .lt 9, 3) := by decide +kernel
theorem dX11_go_5 : decode cX11_go 5 = .ok (.iload_n 1, 1) := by decide +kernel
theorem dX11_go_6 : decode cX11_go 6 = .ok (.bipush 60, 2) := by decide +kernel
theorem dX11_go_8 : decode cX11_go 8 = .ok (.if_icmp .le 9, 3) := by decide +kernel
theorem dX11_go_11 : decode cX11_go 11 = .ok (.aload_n 0, 1) := by decide +kernel
theorem dX11_go_12 : decode cX11_go 12 = .ok (.iconst 0, 1) := by decide +kernel
theorem dX11_go_13 : decode cX11_go 13 = .ok (.invokevirtual 71, 3) := by decide +kernel
theorem dX11_go_16 : decode cX11_go 16 = .ok (.ireturn, 1) := by decide +kernel
theorem dX11_go_17 : decode cX11_go 17 = .ok (.aload_n 0, 1) := by decide +kernel
theorem dX11_go_18 : decode cX11_go 18 = .ok (.getfield 33, 3) := by decide +kernel
theorem dX11_go_21 : decode cX11_go 21 = .ok (.getfield 111, 3) := by decide +kernel
theorem dX11_go_24 : decode cX11_go 24 = .ok (.ldc 140, 2) := by decide +kernel
theorem dX11_go_26 : decode cX11_go 26 = .ok (.iload_n 1, 1) := by decide +kernel
theorem dX11_go_27 : decode cX11_go 27 = .ok (.isub, 1) := by decide +kernel
theorem dX11_go_28 : decode cX11_go 28 = .ok (.if_icmp .le 9, 3) := by decide +kernel
theorem dX11_go_31 : decode cX11_go 31 = .ok (.aload_n 0, 1) := by decide +kernel
theorem dX11_go_32 : decode cX11_go 32 = .ok (.iconst 4, 1) := by decide +kernel
theorem dX11_go_33 : decode cX11_go 33 = .ok (.invokevirtual 71, 3) := by decide +kernel
theorem dX11_go_36 : decode cX11_go 36 = .ok (.ireturn, 1) := by decide +kernel
theorem dX11_go_37 : decode cX11_go 37 = .ok (.aload_n 0, 1) := by decide +kernel
theorem dX11_go_38 : decode cX11_go 38 = .ok (.getfield 33, 3) := by decide +kernel
theorem dX11_go_41 : decode cX11_go 41 = .ok (.iload_n 1, 1) := by decide +kernel
theorem dX11_go_42 : decode cX11_go 42 = .ok (.invokevirtual 141, 3) := by decide +kernel
theorem dX11_go_45 : decode cX11_go 45 = .ok (.aload_n 0, 1) := by decide +kernel
theorem dX11_go_46 : decode cX11_go 46 = .ok (.getfield 33, 3) := by decide +kernel
theorem dX11_go_49 : decode cX11_go 49 = .ok (.invokevirtual 145, 3) := by decide +kernel
theorem dX11_go_52 : decode cX11_go 52 = .ok (.ireturn, 1) := by decide +kernel
theorem dX11_now_0 : decode cX11_now 0 = .ok (.iload_n 1, 1) := by decide +kernel
theorem dX11_now_1 : decode cX11_now 1 = .ok (.tableswitch 99 0 6 #[43, 51, 59, 67, 75, 83, 91], 43) := by decide +kernel
theorem dX11_now_44 : decode cX11_now 44 = .ok (.aload_n 0, 1) := by decide +kernel
theorem dX11_now_45 : decode cX11_now 45 = .ok (.getfield 33, 3) := by decide +kernel
theorem dX11_now_48 : decode cX11_now 48 = .ok (.getfield 111, 3) := by decide +kernel
theorem dX11_now_51 : decode cX11_now 51 = .ok (.ireturn, 1) := by decide +kernel
theorem dX11_now_52 : decode cX11_now 52 = .ok (.aload_n 0, 1) := by decide +kernel
theorem dX11_now_53 : decode cX11_now 53 = .ok (.getfield 33, 3) := by decide +kernel
theorem dX11_now_56 : decode cX11_now 56 = .ok (.invokevirtual 145, 3) := by decide +kernel
theorem dX11_now_59 : decode cX11_now 59 = .ok (.ireturn, 1) := by decide +kernel
theorem dX11_now_60 : decode cX11_now 60 = .ok (.aload_n 0, 1) := by decide +kernel
theorem dX11_now_61 : decode cX11_now 61 = .ok (.getfield 33, 3) := by decide +kernel
theorem dX11_now_64 : decode cX11_now 64 = .ok (.invokevirtual 148, 3) := by decide +kernel
theorem dX11_now_67 : decode cX11_now 67 = .ok (.ireturn, 1) := by decide +kernel
theorem dX11_now_68 : decode cX11_now 68 = .ok (.aload_n 0, 1) := by decide +kernel
theorem dX11_now_69 : decode cX11_now 69 = .ok (.getfield 33, 3) := by decide +kernel
theorem dX11_now_72 : decode cX11_now 72 = .ok (.getfield 151, 3) := by decide +kernel
theorem dX11_now_75 : decode cX11_now 75 = .ok (.ireturn, 1) := by decide +kernel
theorem dX11_now_76 : decode cX11_now 76 = .ok (.aload_n 0, 1) := by decide +kernel
theorem dX11_now_77 : decode cX11_now 77 = .ok (.getfield 33, 3) := by decide +kernel
theorem dX11_now_80 : decode cX11_now 80 = .ok (.invokevirtual 154, 3) := by decide +kernel
theorem dX11_now_83 : decode cX11_now 83 = .ok (.ireturn, 1) := by decide +kernel
theorem dX11_now_84 : decode cX11_now 84 = .ok (.aload_n 0, 1) := by decide +kernel
theorem dX11_now_85 : decode cX11_now 85 = .ok (.getfield 33, 3) := by decide +kernel
theorem dX11_now_88 : decode cX11_now 88 = .ok (.invokevirtual 157, 3) := by decide +kernel
theorem dX11_now_91 : decode cX11_now 91 = .ok (.ireturn, 1) := by decide +kernel
theorem dX11_now_92 : decode cX11_now 92 = .ok (.aload_n 0, 1) := by decide +kernel
theorem dX11_now_93 : decode cX11_now 93 = .ok (.getfield 33, 3) := by decide +kernel
theorem dX11_now_96 : decode cX11_now 96 = .ok (.invokevirtual 160, 3) := by decide +kernel
theorem dX11_now_99 : decode cX11_now 99 = .ok (.ireturn, 1) := by decide +kernel
theorem dX11_now_100 : decode cX11_now 100 = .ok (.aload_n 0, 1) := by decide +kernel
theorem dX11_now_101 : decode cX11_now 101 = .ok (.iconst 0, 1) := by decide +kernel
theorem dX11_now_102 : decode cX11_now 102 = .ok (.invokevirtual 71, 3) := by decide +kernel
theorem dX11_now_105 : decode cX11_now 105 = .ok (.ireturn, 1) := by decide +kernel
theorem dX11_ahead_0 : decode cX11_ahead 0 = .ok (.aload_n 0, 1) := by decide +kernel
theorem dX11_ahead_1 : decode cX11_ahead 1 = .ok (.iload_n 1, 1) := by decide +kernel
theorem dX11_ahead_2 : decode cX11_ahead 2 = .ok (.invokevirtual 99, 3) := by decide +kernel
theorem dX11_ahead_5 : decode cX11_ahead 5 = .ok (.ifCond .ne 23, 3) := by decide +kernel
theorem dX11_ahead_8 : decode cX11_ahead 8 = .ok (.iload_n 2, 1) := by decide +kernel
theorem dX11_ahead_9 : decode cX11_ahead 9 = .ok (.iconst 3, 1) := by decide +kernel
theorem dX11_ahead_10 : decode cX11_ahead 10 = .ok (.if_icmp .lt 18, 3) := by decide +kernel
theorem dX11_ahead_13 : decode cX11_ahead 13 = .ok (.iload_n 2, 1) := by decide +kernel
theorem dX11_ahead_14 : decode cX11_ahead 14 = .ok (.bipush 6, 2) := by decide +kernel
theorem dX11_ahead_16 : decode cX11_ahead 16 = .ok (.if_icmp .gt 12, 3) := by decide +kernel
theorem dX11_ahead_19 : decode cX11_ahead 19 = .ok (.iload_n 3, 1) := by decide +kernel
theorem dX11_ahead_20 : decode cX11_ahead 20 = .ok (.bipush 100, 2) := by decide +kernel
theorem dX11_ahead_22 : decode cX11_ahead 22 = .ok (.invokestatic 67, 3) := by decide +kernel
theorem dX11_ahead_25 : decode cX11_ahead 25 = .ok (.ifCond .eq 9, 3) := by decide +kernel
theorem dX11_ahead_28 : decode cX11_ahead 28 = .ok (.aload_n 0, 1) := by decide +kernel
theorem dX11_ahead_29 : decode cX11_ahead 29 = .ok (.iconst 0, 1) := by decide +kernel
theorem dX11_ahead_30 : decode cX11_ahead 30 = .ok (.invokevirtual 71, 3) := by decide +kernel
theorem dX11_ahead_33 : decode cX11_ahead 33 = .ok (.ireturn, 1) := by decide +kernel
theorem dX11_ahead_34 : decode cX11_ahead 34 = .ok (.aload_n 0, 1) := by decide +kernel
theorem dX11_ahead_35 : decode cX11_ahead 35 = .ok (.getfield 39, 3) := by decide +kernel
theorem dX11_ahead_38 : decode cX11_ahead 38 = .ok (.aload_n 0, 1) := by decide +kernel
theorem dX11_ahead_39 : decode cX11_ahead 39 = .ok (.getfield 33, 3) := by decide +kernel
theorem dX11_ahead_42 : decode cX11_ahead 42 = .ok (.invokevirtual 163, 3) := by decide +kernel
theorem dX11_ahead_45 : decode cX11_ahead 45 = .ok (.aload_n 0, 1) := by decide +kernel
theorem dX11_ahead_46 : decode cX11_ahead 46 = .ok (.getfield 39, 3) := by decide +kernel
theorem dX11_ahead_49 : decode cX11_ahead 49 = .ok (.iload_n 3, 1) := by decide +kernel
theorem dX11_ahead_50 : decode cX11_ahead 50 = .ok (.invokevirtual 141, 3) := by decide +kernel
theorem dX11_ahead_53 : decode cX11_ahead 53 = .ok (.aload_n 0, 1) := by decide +kernel
theorem dX11_ahead_54 : decode cX11_ahead 54 = .ok (.getfield 39, 3) := by decide +kernel
theorem dX11_ahead_57 : decode cX11_ahead 57 = .ok (.getfield 103, 3) := by decide +kernel
theorem dX11_ahead_60 : decode cX11_ahead 60 = .ok (.iload_n 1, 1) := by decide +kernel
theorem dX11_ahead_61 : decode cX11_ahead 61 = .ok (.aaload, 1) := by decide +kernel
theorem dX11_ahead_62 : decode cX11_ahead 62 = .ok (.iload_n 2, 1) := by decide +kernel
theorem dX11_ahead_63 : decode cX11_ahead 63 = .ok (.invokevirtual 130, 3) := by decide +kernel
theorem dX11_ahead_66 : decode cX11_ahead 66 = .ok (.ireturn, 1) := by decide +kernel
theorem dX11_grown_0 : decode cX11_grown 0 = .ok (.iload_n 1, 1) := by decide +kernel
theorem dX11_grown_1 : decode cX11_grown 1 = .ok (.bipush 24, 2) := by decide +kernel
theorem dX11_grown_3 : decode cX11_grown 3 = .ok (.invokestatic 67, 3) := by decide +kernel
theorem dX11_grown_6 : decode cX11_grown 6 = .ok (.ifCond .ne 12, 3) := by decide +kernel
theorem dX11_grown_9 : decode cX11_grown 9 = .ok (.iload_n 2, 1) := by decide +kernel
theorem dX11_grown_10 : decode cX11_grown 10 = .ok (.bipush 100, 2) := by decide +kernel
theorem dX11_grown_12 : decode cX11_grown 12 = .ok (.invokestatic 67, 3) := by decide +kernel
theorem dX11_grown_15 : decode cX11_grown 15 = .ok (.ifCond .eq 9, 3) := by decide +kernel
theorem dX11_grown_18 : decode cX11_grown 18 = .ok (.aload_n 0, 1) := by decide +kernel
theorem dX11_grown_19 : decode cX11_grown 19 = .ok (.iconst 0, 1) := by decide +kernel
theorem dX11_grown_20 : decode cX11_grown 20 = .ok (.invokevirtual 71, 3) := by decide +kernel
theorem dX11_grown_23 : decode cX11_grown 23 = .ok (.ireturn, 1) := by decide +kernel
theorem dX11_grown_24 : decode cX11_grown 24 = .ok (.aload_n 0, 1) := by decide +kernel
theorem dX11_grown_25 : decode cX11_grown 25 = .ok (.getfield 39, 3) := by decide +kernel
theorem dX11_grown_28 : decode cX11_grown 28 = .ok (.aload_n 0, 1) := by decide +kernel
theorem dX11_grown_29 : decode cX11_grown 29 = .ok (.getfield 33, 3) := by decide +kernel
theorem dX11_grown_32 : decode cX11_grown 32 = .ok (.invokevirtual 163, 3) := by decide +kernel
theorem dX11_grown_35 : decode cX11_grown 35 = .ok (.aload_n 0, 1) := by decide +kernel
theorem dX11_grown_36 : decode cX11_grown 36 = .ok (.getfield 39, 3) := by decide +kernel
theorem dX11_grown_39 : decode cX11_grown 39 = .ok (.iload_n 2, 1) := by decide +kernel
theorem dX11_grown_40 : decode cX11_grown 40 = .ok (.invokevirtual 141, 3) := by decide +kernel
theorem dX11_grown_43 : decode cX11_grown 43 = .ok (.aload_n 0, 1) := by decide +kernel
theorem dX11_grown_44 : decode cX11_grown 44 = .ok (.getfield 39, 3) := by decide +kernel
theorem dX11_grown_47 : decode cX11_grown 47 = .ok (.getfield 75, 3) := by decide +kernel
theorem dX11_grown_50 : decode cX11_grown 50 = .ok (.iload_n 1, 1) := by decide +kernel
theorem dX11_grown_51 : decode cX11_grown 51 = .ok (.iaload, 1) := by decide +kernel
theorem dX11_grown_52 : decode cX11_grown 52 = .ok (.ireturn, 1) := by decide +kernel
theorem dX11_when_0 : decode cX11_when 0 = .ok (.iload_n 1, 1) := by decide +kernel
theorem dX11_when_1 : decode cX11_when 1 = .ok (.bipush 24, 2) := by decide +kernel
theorem dX11_when_3 : decode cX11_when 3 = .ok (.invokestatic 67, 3) := by decide +kernel
theorem dX11_when_6 : decode cX11_when 6 = .ok (.ifCond .ne 13, 3) := by decide +kernel
theorem dX11_when_9 : decode cX11_when 9 = .ok (.iload_n 2, 1) := by decide +kernel
theorem dX11_when_10 : decode cX11_when 10 = .ok (.sipush 9999, 3) := by decide +kernel
theorem dX11_when_13 : decode cX11_when 13 = .ok (.invokestatic 67, 3) := by decide +kernel
theorem dX11_when_16 : decode cX11_when 16 = .ok (.ifCond .eq 9, 3) := by decide +kernel
theorem dX11_when_19 : decode cX11_when 19 = .ok (.aload_n 0, 1) := by decide +kernel
theorem dX11_when_20 : decode cX11_when 20 = .ok (.iconst 0, 1) := by decide +kernel
theorem dX11_when_21 : decode cX11_when 21 = .ok (.invokevirtual 71, 3) := by decide +kernel
theorem dX11_when_24 : decode cX11_when 24 = .ok (.ireturn, 1) := by decide +kernel
theorem dX11_when_25 : decode cX11_when 25 = .ok (.aload_n 0, 1) := by decide +kernel
theorem dX11_when_26 : decode cX11_when 26 = .ok (.getfield 39, 3) := by decide +kernel
theorem dX11_when_29 : decode cX11_when 29 = .ok (.aload_n 0, 1) := by decide +kernel
theorem dX11_when_30 : decode cX11_when 30 = .ok (.getfield 33, 3) := by decide +kernel
theorem dX11_when_33 : decode cX11_when 33 = .ok (.invokevirtual 163, 3) := by decide +kernel
theorem dX11_when_36 : decode cX11_when 36 = .ok (.aload_n 0, 1) := by decide +kernel
theorem dX11_when_37 : decode cX11_when 37 = .ok (.getfield 39, 3) := by decide +kernel
theorem dX11_when_40 : decode cX11_when 40 = .ok (.getfield 75, 3) := by decide +kernel
theorem dX11_when_43 : decode cX11_when 43 = .ok (.iload_n 1, 1) := by decide +kernel
theorem dX11_when_44 : decode cX11_when 44 = .ok (.iaload, 1) := by decide +kernel
theorem dX11_when_45 : decode cX11_when 45 = .ok (.iload_n 2, 1) := by decide +kernel
theorem dX11_when_46 : decode cX11_when 46 = .ok (.if_icmp .lt 5, 3) := by decide +kernel
theorem dX11_when_49 : decode cX11_when 49 = .ok (.iconst 0, 1) := by decide +kernel
theorem dX11_when_50 : decode cX11_when 50 = .ok (.ireturn, 1) := by decide +kernel
theorem dX11_when_51 : decode cX11_when 51 = .ok (.iconst 1, 1) := by decide +kernel
theorem dX11_when_52 : decode cX11_when 52 = .ok (.istore_n 3, 1) := by decide +kernel
theorem dX11_when_53 : decode cX11_when 53 = .ok (.iload_n 3, 1) := by decide +kernel
theorem dX11_when_54 : decode cX11_when 54 = .ok (.bipush 100, 2) := by decide +kernel
theorem dX11_when_56 : decode cX11_when 56 = .ok (.if_icmp .gt 31, 3) := by decide +kernel
theorem dX11_when_59 : decode cX11_when 59 = .ok (.aload_n 0, 1) := by decide +kernel
theorem dX11_when_60 : decode cX11_when 60 = .ok (.getfield 39, 3) := by decide +kernel
theorem dX11_when_63 : decode cX11_when 63 = .ok (.invokevirtual 167, 3) := by decide +kernel
theorem dX11_when_66 : decode cX11_when 66 = .ok (.aload_n 0, 1) := by decide +kernel
theorem dX11_when_67 : decode cX11_when 67 = .ok (.getfield 39, 3) := by decide +kernel
theorem dX11_when_70 : decode cX11_when 70 = .ok (.getfield 75, 3) := by decide +kernel
theorem dX11_when_73 : decode cX11_when 73 = .ok (.iload_n 1, 1) := by decide +kernel
theorem dX11_when_74 : decode cX11_when 74 = .ok (.iaload, 1) := by decide +kernel
theorem dX11_when_75 : decode cX11_when 75 = .ok (.iload_n 2, 1) := by decide +kernel
theorem dX11_when_76 : decode cX11_when 76 = .ok (.if_icmp .lt 5, 3) := by decide +kernel
theorem dX11_when_79 : decode cX11_when 79 = .ok (.iload_n 3, 1) := by decide +kernel
theorem dX11_when_80 : decode cX11_when 80 = .ok (.ireturn, 1) := by decide +kernel
theorem dX11_when_81 : decode cX11_when 81 = .ok (.iinc 3 1, 3) := by decide +kernel
theorem dX11_when_84 : decode cX11_when 84 = .ok (.goto (-31), 3) := by decide +kernel
theorem dX11_when_87 : decode cX11_when 87 = .ok (.aload_n 0, 1) := by decide +kernel
theorem dX11_when_88 : decode cX11_when 88 = .ok (.iconst 3, 1) := by decide +kernel
theorem dX11_when_89 : decode cX11_when 89 = .ok (.invokevirtual 71, 3) := by decide +kernel
theorem dX11_when_92 : decode cX11_when 92 = .ok (.ireturn, 1) := by decide +kernel
theorem dX11_stuck_0 : decode cX11_stuck 0 = .ok (.aload_n 0, 1) := by decide +kernel
theorem dX11_stuck_1 : decode cX11_stuck 1 = .ok (.iload_n 1, 1) := by decide +kernel
theorem dX11_stuck_2 : decode cX11_stuck 2 = .ok (.invokevirtual 99, 3) := by decide +kernel
theorem dX11_stuck_5 : decode cX11_stuck 5 = .ok (.ifCond .eq 9, 3) := by decide +kernel
theorem dX11_stuck_8 : decode cX11_stuck 8 = .ok (.aload_n 0, 1) := by decide +kernel
theorem dX11_stuck_9 : decode cX11_stuck 9 = .ok (.iconst 0, 1) := by decide +kernel
theorem dX11_stuck_10 : decode cX11_stuck 10 = .ok (.invokevirtual 71, 3) := by decide +kernel
theorem dX11_stuck_13 : decode cX11_stuck 13 = .ok (.ireturn, 1) := by decide +kernel
theorem dX11_stuck_14 : decode cX11_stuck 14 = .ok (.aload_n 0, 1) := by decide +kernel
theorem dX11_stuck_15 : decode cX11_stuck 15 = .ok (.getfield 39, 3) := by decide +kernel
theorem dX11_stuck_18 : decode cX11_stuck 18 = .ok (.aload_n 0, 1) := by decide +kernel
theorem dX11_stuck_19 : decode cX11_stuck 19 = .ok (.getfield 33, 3) := by decide +kernel
theorem dX11_stuck_22 : decode cX11_stuck 22 = .ok (.invokevirtual 163, 3) := by decide +kernel
theorem dX11_stuck_25 : decode cX11_stuck 25 = .ok (.iconst 1, 1) := by decide +kernel
theorem dX11_stuck_26 : decode cX11_stuck 26 = .ok (.istore_n 2, 1) := by decide +kernel
theorem dX11_stuck_27 : decode cX11_stuck 27 = .ok (.iload_n 2, 1) := by decide +kernel
theorem dX11_stuck_28 : decode cX11_stuck 28 = .ok (.bipush 100, 2) := by decide +kernel
theorem dX11_stuck_30 : decode cX11_stuck 30 = .ok (.if_icmp .gt 45, 3) := by decide +kernel
theorem dX11_stuck_33 : decode cX11_stuck 33 = .ok (.aload_n 0, 1) := by decide +kernel
theorem dX11_stuck_34 : decode cX11_stuck 34 = .ok (.getfield 39, 3) := by decide +kernel
theorem dX11_stuck_37 : decode cX11_stuck 37 = .ok (.invokevirtual 167, 3) := by decide +kernel
theorem dX11_stuck_40 : decode cX11_stuck 40 = .ok (.aload_n 0, 1) := by decide +kernel
theorem dX11_stuck_41 : decode cX11_stuck 41 = .ok (.getfield 39, 3) := by decide +kernel
theorem dX11_stuck_44 : decode cX11_stuck 44 = .ok (.getfield 103, 3) := by decide +kernel
theorem dX11_stuck_47 : decode cX11_stuck 47 = .ok (.iload_n 1, 1) := by decide +kernel
theorem dX11_stuck_48 : decode cX11_stuck 48 = .ok (.aaload, 1) := by decide +kernel
theorem dX11_stuck_49 : decode cX11_stuck 49 = .ok (.getfield 117, 3) := by decide +kernel
theorem dX11_stuck_52 : decode cX11_stuck 52 = .ok (.aload_n 0, 1) := by decide +kernel
theorem dX11_stuck_53 : decode cX11_stuck 53 = .ok (.getfield 33, 3) := by decide +kernel
theorem dX11_stuck_56 : decode cX11_stuck 56 = .ok (.getfield 103, 3) := by decide +kernel
theorem dX11_stuck_59 : decode cX11_stuck 59 = .ok (.iload_n 1, 1) := by decide +kernel
theorem dX11_stuck_60 : decode cX11_stuck 60 = .ok (.aaload, 1) := by decide +kernel
theorem dX11_stuck_61 : decode cX11_stuck 61 = .ok (.getfield 117, 3) := by decide +kernel
theorem dX11_stuck_64 : decode cX11_stuck 64 = .ok (.if_icmp .le 5, 3) := by decide +kernel
theorem dX11_stuck_67 : decode cX11_stuck 67 = .ok (.iload_n 2, 1) := by decide +kernel
theorem dX11_stuck_68 : decode cX11_stuck 68 = .ok (.ireturn, 1) := by decide +kernel
theorem dX11_stuck_69 : decode cX11_stuck 69 = .ok (.iinc 2 1, 3) := by decide +kernel
theorem dX11_stuck_72 : decode cX11_stuck 72 = .ok (.goto (-45), 3) := by decide +kernel
theorem dX11_stuck_75 : decode cX11_stuck 75 = .ok (.aload_n 0, 1) := by decide +kernel
theorem dX11_stuck_76 : decode cX11_stuck 76 = .ok (.iconst 3, 1) := by decide +kernel
theorem dX11_stuck_77 : decode cX11_stuck 77 = .ok (.invokevirtual 71, 3) := by decide +kernel
theorem dX11_stuck_80 : decode cX11_stuck 80 = .ok (.ireturn, 1) := by decide +kernel
theorem dX11_crosses_0 : decode cX11_crosses 0 = .ok (.aload_n 0, 1) := by decide +kernel
theorem dX11_crosses_1 : decode cX11_crosses 1 = .ok (.getfield 39, 3) := by decide +kernel
theorem dX11_crosses_4 : decode cX11_crosses 4 = .ok (.aload_n 0, 1) := by decide +kernel
theorem dX11_crosses_5 : decode cX11_crosses 5 = .ok (.getfield 33, 3) := by decide +kernel
theorem dX11_crosses_8 : decode cX11_crosses 8 = .ok (.invokevirtual 163, 3) := by decide +kernel
theorem dX11_crosses_11 : decode cX11_crosses 11 = .ok (.iconst 1, 1) := by decide +kernel
theorem dX11_crosses_12 : decode cX11_crosses 12 = .ok (.istore_n 1, 1) := by decide +kernel
theorem dX11_crosses_13 : decode cX11_crosses 13 = .ok (.iload_n 1, 1) := by decide +kernel
theorem dX11_crosses_14 : decode cX11_crosses 14 = .ok (.bipush 100, 2) := by decide +kernel
theorem dX11_crosses_16 : decode cX11_crosses 16 = .ok (.if_icmp .gt 35, 3) := by decide +kernel
theorem dX11_crosses_19 : decode cX11_crosses 19 = .ok (.aload_n 0, 1) := by decide +kernel
theorem dX11_crosses_20 : decode cX11_crosses 20 = .ok (.getfield 39, 3) := by decide +kernel
theorem dX11_crosses_23 : decode cX11_crosses 23 = .ok (.invokevirtual 167, 3) := by decide +kernel
theorem dX11_crosses_26 : decode cX11_crosses 26 = .ok (.aload_n 0, 1) := by decide +kernel
theorem dX11_crosses_27 : decode cX11_crosses 27 = .ok (.getfield 39, 3) := by decide +kernel
theorem dX11_crosses_30 : decode cX11_crosses 30 = .ok (.getfield 151, 3) := by decide +kernel
theorem dX11_crosses_33 : decode cX11_crosses 33 = .ok (.aload_n 0, 1) := by decide +kernel
theorem dX11_crosses_34 : decode cX11_crosses 34 = .ok (.getfield 33, 3) := by decide +kernel
theorem dX11_crosses_37 : decode cX11_crosses 37 = .ok (.getfield 151, 3) := by decide +kernel
theorem dX11_crosses_40 : decode cX11_crosses 40 = .ok (.if_icmp .le 5, 3) := by decide +kernel
theorem dX11_crosses_43 : decode cX11_crosses 43 = .ok (.iload_n 1, 1) := by decide +kernel
theorem dX11_crosses_44 : decode cX11_crosses 44 = .ok (.ireturn, 1) := by decide +kernel
theorem dX11_crosses_45 : decode cX11_crosses 45 = .ok (.iinc 1 1, 3) := by decide +kernel
theorem dX11_crosses_48 : decode cX11_crosses 48 = .ok (.goto (-35), 3) := by decide +kernel
theorem dX11_crosses_51 : decode cX11_crosses 51 = .ok (.aload_n 0, 1) := by decide +kernel
theorem dX11_crosses_52 : decode cX11_crosses 52 = .ok (.iconst 3, 1) := by decide +kernel
theorem dX11_crosses_53 : decode cX11_crosses 53 = .ok (.invokevirtual 71, 3) := by decide +kernel
theorem dX11_crosses_56 : decode cX11_crosses 56 = .ok (.ireturn, 1) := by decide +kernel
theorem dX11_windFor_0 : decode cX11_windFor 0 = .ok (.iload_n 1, 1) := by decide +kernel
theorem dX11_windFor_1 : decode cX11_windFor 1 = .ok (.bipush 40, 2) := by decide +kernel
theorem dX11_windFor_3 : decode cX11_windFor 3 = .ok (.invokestatic 67, 3) := by decide +kernel
theorem dX11_windFor_6 : decode cX11_windFor 6 = .ok (.ifCond .eq 9, 3) := by decide +kernel
theorem dX11_windFor_9 : decode cX11_windFor 9 = .ok (.aload_n 0, 1) := by decide +kernel
theorem dX11_windFor_10 : decode cX11_windFor 10 = .ok (.iconst 0, 1) := by decide +kernel
theorem dX11_windFor_11 : decode cX11_windFor 11 = .ok (.invokevirtual 71, 3) := by decide +kernel
theorem dX11_windFor_14 : decode cX11_windFor 14 = .ok (.ireturn, 1) := by decide +kernel
theorem dX11_windFor_15 : decode cX11_windFor 15 = .ok (.iconst 0, 1) := by decide +kernel
theorem dX11_windFor_16 : decode cX11_windFor 16 = .ok (.istore_n 2, 1) := by decide +kernel
theorem dX11_windFor_17 : decode cX11_windFor 17 = .ok (.iconst (-1), 1) := by decide +kernel
theorem dX11_windFor_18 : decode cX11_windFor 18 = .ok (.istore_n 3, 1) := by decide +kernel
theorem dX11_windFor_19 : decode cX11_windFor 19 = .ok (.iconst 0, 1) := by decide +kernel
theorem dX11_windFor_20 : decode cX11_windFor 20 = .ok (.istore 4, 2) := by decide +kernel
theorem dX11_windFor_22 : decode cX11_windFor 22 = .ok (.iload 4, 2) := by decide +kernel
theorem dX11_windFor_24 : decode cX11_windFor 24 = .ok (.iconst 4, 1) := by decide +kernel
theorem dX11_windFor_25 : decode cX11_windFor 25 = .ok (.if_icmp .gt 58, 3) := by decide +kernel
theorem dX11_windFor_28 : decode cX11_windFor 28 = .ok (.aload_n 0, 1) := by decide +kernel
theorem dX11_windFor_29 : decode cX11_windFor 29 = .ok (.getfield 39, 3) := by decide +kernel
theorem dX11_windFor_32 : decode cX11_windFor 32 = .ok (.aload_n 0, 1) := by decide +kernel
theorem dX11_windFor_33 : decode cX11_windFor 33 = .ok (.getfield 33, 3) := by decide +kernel
theorem dX11_windFor_36 : decode cX11_windFor 36 = .ok (.invokevirtual 163, 3) := by decide +kernel
theorem dX11_windFor_39 : decode cX11_windFor 39 = .ok (.aload_n 0, 1) := by decide +kernel
theorem dX11_windFor_40 : decode cX11_windFor 40 = .ok (.getfield 39, 3) := by decide +kernel
theorem dX11_windFor_43 : decode cX11_windFor 43 = .ok (.iload 4, 2) := by decide +kernel
theorem dX11_windFor_45 : decode cX11_windFor 45 = .ok (.putfield 87, 3) := by decide +kernel
theorem dX11_windFor_48 : decode cX11_windFor 48 = .ok (.aload_n 0, 1) := by decide +kernel
theorem dX11_windFor_49 : decode cX11_windFor 49 = .ok (.getfield 39, 3) := by decide +kernel
theorem dX11_windFor_52 : decode cX11_windFor 52 = .ok (.iload_n 1, 1) := by decide +kernel
theorem dX11_windFor_53 : decode cX11_windFor 53 = .ok (.invokevirtual 141, 3) := by decide +kernel
theorem dX11_windFor_56 : decode cX11_windFor 56 = .ok (.aload_n 0, 1) := by decide +kernel
theorem dX11_windFor_57 : decode cX11_windFor 57 = .ok (.getfield 39, 3) := by decide +kernel
theorem dX11_windFor_60 : decode cX11_windFor 60 = .ok (.invokevirtual 145, 3) := by decide +kernel
theorem dX11_windFor_63 : decode cX11_windFor 63 = .ok (.istore 5, 2) := by decide +kernel
theorem dX11_windFor_65 : decode cX11_windFor 65 = .ok (.iload 5, 2) := by decide +kernel
theorem dX11_windFor_67 : decode cX11_windFor 67 = .ok (.iload_n 3, 1) := by decide +kernel
theorem dX11_windFor_68 : decode cX11_windFor 68 = .ok (.if_icmp .le 9, 3) := by decide +kernel
theorem dX11_windFor_71 : decode cX11_windFor 71 = .ok (.iload 5, 2) := by decide +kernel
theorem dX11_windFor_73 : decode cX11_windFor 73 = .ok (.istore_n 3, 1) := by decide +kernel
theorem dX11_windFor_74 : decode cX11_windFor 74 = .ok (.iload 4, 2) := by decide +kernel
theorem dX11_windFor_76 : decode cX11_windFor 76 = .ok (.istore_n 2, 1) := by decide +kernel
theorem dX11_windFor_77 : decode cX11_windFor 77 = .ok (.iinc 4 1, 3) := by decide +kernel
theorem dX11_windFor_80 : decode cX11_windFor 80 = .ok (.goto (-58), 3) := by decide +kernel
theorem dX11_windFor_83 : decode cX11_windFor 83 = .ok (.iload_n 2, 1) := by decide +kernel
theorem dX11_windFor_84 : decode cX11_windFor 84 = .ok (.ireturn, 1) := by decide +kernel
theorem dX11_homeFor_0 : decode cX11_homeFor 0 = .ok (.aload_n 0, 1) := by decide +kernel
theorem dX11_homeFor_1 : decode cX11_homeFor 1 = .ok (.iload_n 1, 1) := by decide +kernel
theorem dX11_homeFor_2 : decode cX11_homeFor 2 = .ok (.invokevirtual 99, 3) := by decide +kernel
theorem dX11_homeFor_5 : decode cX11_homeFor 5 = .ok (.ifCond .ne 21, 3) := by decide +kernel
theorem dX11_homeFor_8 : decode cX11_homeFor 8 = .ok (.iload_n 2, 1) := by decide +kernel
theorem dX11_homeFor_9 : decode cX11_homeFor 9 = .ok (.bipush 24, 2) := by decide +kernel
theorem dX11_homeFor_11 : decode cX11_homeFor 11 = .ok (.invokestatic 67, 3) := by decide +kernel
theorem dX11_homeFor_14 : decode cX11_homeFor 14 = .ok (.ifCond .ne 12, 3) := by decide +kernel
theorem dX11_homeFor_17 : decode cX11_homeFor 17 = .ok (.iload_n 3, 1) := by decide +kernel
theorem dX11_homeFor_18 : decode cX11_homeFor 18 = .ok (.bipush 40, 2) := by decide +kernel
theorem dX11_homeFor_20 : decode cX11_homeFor 20 = .ok (.invokestatic 67, 3) := by decide +kernel
theorem dX11_homeFor_23 : decode cX11_homeFor 23 = .ok (.ifCond .eq 9, 3) := by decide +kernel
theorem dX11_homeFor_26 : decode cX11_homeFor 26 = .ok (.aload_n 0, 1) := by decide +kernel
theorem dX11_homeFor_27 : decode cX11_homeFor 27 = .ok (.iconst 0, 1) := by decide +kernel
theorem dX11_homeFor_28 : decode cX11_homeFor 28 = .ok (.invokevirtual 71, 3) := by decide +kernel
theorem dX11_homeFor_31 : decode cX11_homeFor 31 = .ok (.ireturn, 1) := by decide +kernel
theorem dX11_homeFor_32 : decode cX11_homeFor 32 = .ok (.iconst 0, 1) := by decide +kernel
theorem dX11_homeFor_33 : decode cX11_homeFor 33 = .ok (.istore 4, 2) := by decide +kernel
theorem dX11_homeFor_35 : decode cX11_homeFor 35 = .ok (.iconst (-1), 1) := by decide +kernel
theorem dX11_homeFor_36 : decode cX11_homeFor 36 = .ok (.istore 5, 2) := by decide +kernel
theorem dX11_homeFor_38 : decode cX11_homeFor 38 = .ok (.iconst 0, 1) := by decide +kernel
theorem dX11_homeFor_39 : decode cX11_homeFor 39 = .ok (.istore 6, 2) := by decide +kernel
theorem dX11_homeFor_41 : decode cX11_homeFor 41 = .ok (.iload 6, 2) := by decide +kernel
theorem dX11_homeFor_43 : decode cX11_homeFor 43 = .ok (.bipush 24, 2) := by decide +kernel
theorem dX11_homeFor_45 : decode cX11_homeFor 45 = .ok (.if_icmp .gt 54, 3) := by decide +kernel
theorem dX11_homeFor_48 : decode cX11_homeFor 48 = .ok (.aload_n 0, 1) := by decide +kernel
theorem dX11_homeFor_49 : decode cX11_homeFor 49 = .ok (.iload_n 1, 1) := by decide +kernel
theorem dX11_homeFor_50 : decode cX11_homeFor 50 = .ok (.iconst 2, 1) := by decide +kernel
theorem dX11_homeFor_51 : decode cX11_homeFor 51 = .ok (.iload 6, 2) := by decide +kernel
theorem dX11_homeFor_53 : decode cX11_homeFor 53 = .ok (.invokevirtual 170, 3) := by decide +kernel
theorem dX11_homeFor_56 : decode cX11_homeFor 56 = .ok (.aload_n 0, 1) := by decide +kernel
theorem dX11_homeFor_57 : decode cX11_homeFor 57 = .ok (.getfield 39, 3) := by decide +kernel
theorem dX11_homeFor_60 : decode cX11_homeFor 60 = .ok (.iload_n 3, 1) := by decide +kernel
theorem dX11_homeFor_61 : decode cX11_homeFor 61 = .ok (.invokevirtual 141, 3) := by decide +kernel
theorem dX11_homeFor_64 : decode cX11_homeFor 64 = .ok (.aload_n 0, 1) := by decide +kernel
theorem dX11_homeFor_65 : decode cX11_homeFor 65 = .ok (.getfield 39, 3) := by decide +kernel
theorem dX11_homeFor_68 : decode cX11_homeFor 68 = .ok (.getfield 75, 3) := by decide +kernel
theorem dX11_homeFor_71 : decode cX11_homeFor 71 = .ok (.iload_n 2, 1) := by decide +kernel
theorem dX11_homeFor_72 : decode cX11_homeFor 72 = .ok (.iaload, 1) := by decide +kernel
theorem dX11_homeFor_73 : decode cX11_homeFor 73 = .ok (.iload 5, 2) := by decide +kernel
theorem dX11_homeFor_75 : decode cX11_homeFor 75 = .ok (.if_icmp .le 18, 3) := by decide +kernel
theorem dX11_homeFor_78 : decode cX11_homeFor 78 = .ok (.aload_n 0, 1) := by decide +kernel
theorem dX11_homeFor_79 : decode cX11_homeFor 79 = .ok (.getfield 39, 3) := by decide +kernel
theorem dX11_homeFor_82 : decode cX11_homeFor 82 = .ok (.getfield 75, 3) := by decide +kernel
theorem dX11_homeFor_85 : decode cX11_homeFor 85 = .ok (.iload_n 2, 1) := by decide +kernel
theorem dX11_homeFor_86 : decode cX11_homeFor 86 = .ok (.iaload, 1) := by decide +kernel
theorem dX11_homeFor_87 : decode cX11_homeFor 87 = .ok (.istore 5, 2) := by decide +kernel
theorem dX11_homeFor_89 : decode cX11_homeFor 89 = .ok (.iload 6, 2) := by decide +kernel
theorem dX11_homeFor_91 : decode cX11_homeFor 91 = .ok (.istore 4, 2) := by decide +kernel
theorem dX11_homeFor_93 : decode cX11_homeFor 93 = .ok (.iinc 6 1, 3) := by decide +kernel
theorem dX11_homeFor_96 : decode cX11_homeFor 96 = .ok (.goto (-55), 3) := by decide +kernel
theorem dX11_homeFor_99 : decode cX11_homeFor 99 = .ok (.iload 4, 2) := by decide +kernel
theorem dX11_homeFor_101 : decode cX11_homeFor 101 = .ok (.ireturn, 1) := by decide +kernel
theorem dX11_build_0 : decode cX11_build 0 = .ok (.aload_n 0, 1) := by decide +kernel
theorem dX11_build_1 : decode cX11_build 1 = .ok (.iload_n 1, 1) := by decide +kernel
theorem dX11_build_2 : decode cX11_build 2 = .ok (.invokevirtual 99, 3) := by decide +kernel
theorem dX11_build_5 : decode cX11_build 5 = .ok (.ifCond .ne 12, 3) := by decide +kernel
theorem dX11_build_8 : decode cX11_build 8 = .ok (.iload_n 2, 1) := by decide +kernel
theorem dX11_build_9 : decode cX11_build 9 = .ok (.bipush 40, 2) := by decide +kernel
theorem dX11_build_11 : decode cX11_build 11 = .ok (.invokestatic 67, 3) := by decide +kernel
theorem dX11_build_14 : decode cX11_build 14 = .ok (.ifCond .eq 9, 3) := by decide +kernel
theorem dX11_build_17 : decode cX11_build 17 = .ok (.aload_n 0, 1) := by decide +kernel
theorem dX11_build_18 : decode cX11_build 18 = .ok (.iconst 0, 1) := by decide +kernel
theorem dX11_build_19 : decode cX11_build 19 = .ok (.invokevirtual 71, 3) := by decide +kernel
theorem dX11_build_22 : decode cX11_build 22 = .ok (.ireturn, 1) := by decide +kernel
theorem dX11_build_23 : decode cX11_build 23 = .ok (.iconst 0, 1) := by decide +kernel
theorem dX11_build_24 : decode cX11_build 24 = .ok (.istore_n 3, 1) := by decide +kernel
theorem dX11_build_25 : decode cX11_build 25 = .ok (.sipush 10000, 3) := by decide +kernel
theorem dX11_build_28 : decode cX11_build 28 = .ok (.istore 4, 2) := by decide +kernel
theorem dX11_build_30 : decode cX11_build 30 = .ok (.iconst 0, 1) := by decide +kernel
theorem dX11_build_31 : decode cX11_build 31 = .ok (.istore 5, 2) := by decide +kernel
theorem dX11_build_33 : decode cX11_build 33 = .ok (.iload 5, 2) := by decide +kernel
theorem dX11_build_35 : decode cX11_build 35 = .ok (.bipush 24, 2) := by decide +kernel
theorem dX11_build_37 : decode cX11_build 37 = .ok (.if_icmp .gt 73, 3) := by decide +kernel
theorem dX11_build_40 : decode cX11_build 40 = .ok (.aload_n 0, 1) := by decide +kernel
theorem dX11_build_41 : decode cX11_build 41 = .ok (.iload_n 1, 1) := by decide +kernel
theorem dX11_build_42 : decode cX11_build 42 = .ok (.iconst 1, 1) := by decide +kernel
theorem dX11_build_43 : decode cX11_build 43 = .ok (.iload 5, 2) := by decide +kernel
theorem dX11_build_45 : decode cX11_build 45 = .ok (.invokevirtual 170, 3) := by decide +kernel
theorem dX11_build_48 : decode cX11_build 48 = .ok (.aload_n 0, 1) := by decide +kernel
theorem dX11_build_49 : decode cX11_build 49 = .ok (.getfield 39, 3) := by decide +kernel
theorem dX11_build_52 : decode cX11_build 52 = .ok (.getfield 103, 3) := by decide +kernel
theorem dX11_build_55 : decode cX11_build 55 = .ok (.iload_n 1, 1) := by decide +kernel
theorem dX11_build_56 : decode cX11_build 56 = .ok (.aaload, 1) := by decide +kernel
theorem dX11_build_57 : decode cX11_build 57 = .ok (.iload 5, 2) := by decide +kernel
theorem dX11_build_59 : decode cX11_build 59 = .ok (.putfield 174, 3) := by decide +kernel
theorem dX11_build_62 : decode cX11_build 62 = .ok (.aload_n 0, 1) := by decide +kernel
theorem dX11_build_63 : decode cX11_build 63 = .ok (.getfield 39, 3) := by decide +kernel
theorem dX11_build_66 : decode cX11_build 66 = .ok (.iload_n 2, 1) := by decide +kernel
theorem dX11_build_67 : decode cX11_build 67 = .ok (.invokevirtual 141, 3) := by decide +kernel
theorem dX11_build_70 : decode cX11_build 70 = .ok (.aload_n 0, 1) := by decide +kernel
theorem dX11_build_71 : decode cX11_build 71 = .ok (.getfield 39, 3) := by decide +kernel
theorem dX11_build_74 : decode cX11_build 74 = .ok (.getfield 103, 3) := by decide +kernel
theorem dX11_build_77 : decode cX11_build 77 = .ok (.iload_n 1, 1) := by decide +kernel
theorem dX11_build_78 : decode cX11_build 78 = .ok (.aaload, 1) := by decide +kernel
theorem dX11_build_79 : decode cX11_build 79 = .ok (.getfield 117, 3) := by decide +kernel
theorem dX11_build_82 : decode cX11_build 82 = .ok (.iload 4, 2) := by decide +kernel
theorem dX11_build_84 : decode cX11_build 84 = .ok (.if_icmp .ge 20, 3) := by decide +kernel
theorem dX11_build_87 : decode cX11_build 87 = .ok (.aload_n 0, 1) := by decide +kernel
theorem dX11_build_88 : decode cX11_build 88 = .ok (.getfield 39, 3) := by decide +kernel
theorem dX11_build_91 : decode cX11_build 91 = .ok (.getfield 103, 3) := by decide +kernel
theorem dX11_build_94 : decode cX11_build 94 = .ok (.iload_n 1, 1) := by decide +kernel
theorem dX11_build_95 : decode cX11_build 95 = .ok (.aaload, 1) := by decide +kernel
theorem dX11_build_96 : decode cX11_build 96 = .ok (.getfield 117, 3) := by decide +kernel
theorem dX11_build_99 : decode cX11_build 99 = .ok (.istore 4, 2) := by decide +kernel
theorem dX11_build_101 : decode cX11_build 101 = .ok (.iload 5, 2) := by decide +kernel
theorem dX11_build_103 : decode cX11_build 103 = .ok (.istore_n 3, 1) := by decide +kernel
theorem dX11_build_104 : decode cX11_build 104 = .ok (.iinc 5 1, 3) := by decide +kernel
theorem dX11_build_107 : decode cX11_build 107 = .ok (.goto (-74), 3) := by decide +kernel
theorem dX11_build_110 : decode cX11_build 110 = .ok (.iload_n 3, 1) := by decide +kernel
theorem dX11_build_111 : decode cX11_build 111 = .ok (.ireturn, 1) := by decide +kernel
theorem dX11_kindFor_0 : decode cX11_kindFor 0 = .ok (.aload_n 0, 1) := by decide +kernel
theorem dX11_kindFor_1 : decode cX11_kindFor 1 = .ok (.iload_n 1, 1) := by decide +kernel
theorem dX11_kindFor_2 : decode cX11_kindFor 2 = .ok (.invokevirtual 99, 3) := by decide +kernel
theorem dX11_kindFor_5 : decode cX11_kindFor 5 = .ok (.ifCond .ne 12, 3) := by decide +kernel
theorem dX11_kindFor_8 : decode cX11_kindFor 8 = .ok (.iload_n 2, 1) := by decide +kernel
theorem dX11_kindFor_9 : decode cX11_kindFor 9 = .ok (.bipush 40, 2) := by decide +kernel
theorem dX11_kindFor_11 : decode cX11_kindFor 11 = .ok (.invokestatic 67, 3) := by decide +kernel
theorem dX11_kindFor_14 : decode cX11_kindFor 14 = .ok (.ifCond .eq 9, 3) := by decide +kernel
theorem dX11_kindFor_17 : decode cX11_kindFor 17 = .ok (.aload_n 0, 1) := by decide +kernel
theorem dX11_kindFor_18 : decode cX11_kindFor 18 = .ok (.iconst 0, 1) := by decide +kernel
theorem dX11_kindFor_19 : decode cX11_kindFor 19 = .ok (.invokevirtual 71, 3) := by decide +kernel
theorem dX11_kindFor_22 : decode cX11_kindFor 22 = .ok (.ireturn, 1) := by decide +kernel
theorem dX11_kindFor_23 : decode cX11_kindFor 23 = .ok (.iconst 0, 1) := by decide +kernel
theorem dX11_kindFor_24 : decode cX11_kindFor 24 = .ok (.istore_n 3, 1) := by decide +kernel
theorem dX11_kindFor_25 : decode cX11_kindFor 25 = .ok (.iconst (-1), 1) := by decide +kernel
theorem dX11_kindFor_26 : decode cX11_kindFor 26 = .ok (.istore 4, 2) := by decide +kernel
theorem dX11_kindFor_28 : decode cX11_kindFor 28 = .ok (.iconst 0, 1) := by decide +kernel
theorem dX11_kindFor_29 : decode cX11_kindFor 29 = .ok (.istore 5, 2) := by decide +kernel
theorem dX11_kindFor_31 : decode cX11_kindFor 31 = .ok (.iload 5, 2) := by decide +kernel
theorem dX11_kindFor_33 : decode cX11_kindFor 33 = .ok (.bipush 6, 2) := by decide +kernel
theorem dX11_kindFor_35 : decode cX11_kindFor 35 = .ok (.if_icmp .gt 48, 3) := by decide +kernel
theorem dX11_kindFor_38 : decode cX11_kindFor 38 = .ok (.aload_n 0, 1) := by decide +kernel
theorem dX11_kindFor_39 : decode cX11_kindFor 39 = .ok (.iload_n 1, 1) := by decide +kernel
theorem dX11_kindFor_40 : decode cX11_kindFor 40 = .ok (.iconst 0, 1) := by decide +kernel
theorem dX11_kindFor_41 : decode cX11_kindFor 41 = .ok (.iload 5, 2) := by decide +kernel
theorem dX11_kindFor_43 : decode cX11_kindFor 43 = .ok (.invokevirtual 170, 3) := by decide +kernel
theorem dX11_kindFor_46 : decode cX11_kindFor 46 = .ok (.aload_n 0, 1) := by decide +kernel
theorem dX11_kindFor_47 : decode cX11_kindFor 47 = .ok (.getfield 39, 3) := by decide +kernel
theorem dX11_kindFor_50 : decode cX11_kindFor 50 = .ok (.iload_n 2, 1) := by decide +kernel
theorem dX11_kindFor_51 : decode cX11_kindFor 51 = .ok (.invokevirtual 141, 3) := by decide +kernel
theorem dX11_kindFor_54 : decode cX11_kindFor 54 = .ok (.aload_n 0, 1) := by decide +kernel
theorem dX11_kindFor_55 : decode cX11_kindFor 55 = .ok (.getfield 39, 3) := by decide +kernel
theorem dX11_kindFor_58 : decode cX11_kindFor 58 = .ok (.invokevirtual 145, 3) := by decide +kernel
theorem dX11_kindFor_61 : decode cX11_kindFor 61 = .ok (.istore 6, 2) := by decide +kernel
theorem dX11_kindFor_63 : decode cX11_kindFor 63 = .ok (.iload 6, 2) := by decide +kernel
theorem dX11_kindFor_65 : decode cX11_kindFor 65 = .ok (.iload 4, 2) := by decide +kernel
theorem dX11_kindFor_67 : decode cX11_kindFor 67 = .ok (.if_icmp .le 10, 3) := by decide +kernel
theorem dX11_kindFor_70 : decode cX11_kindFor 70 = .ok (.iload 6, 2) := by decide +kernel
theorem dX11_kindFor_72 : decode cX11_kindFor 72 = .ok (.istore 4, 2) := by decide +kernel
theorem dX11_kindFor_74 : decode cX11_kindFor 74 = .ok (.iload 5, 2) := by decide +kernel
theorem dX11_kindFor_76 : decode cX11_kindFor 76 = .ok (.istore_n 3, 1) := by decide +kernel
theorem dX11_kindFor_77 : decode cX11_kindFor 77 = .ok (.iinc 5 1, 3) := by decide +kernel
theorem dX11_kindFor_80 : decode cX11_kindFor 80 = .ok (.goto (-49), 3) := by decide +kernel
theorem dX11_kindFor_83 : decode cX11_kindFor 83 = .ok (.iload_n 3, 1) := by decide +kernel
theorem dX11_kindFor_84 : decode cX11_kindFor 84 = .ok (.ireturn, 1) := by decide +kernel
theorem dX11_logsFor_0 : decode cX11_logsFor 0 = .ok (.aload_n 0, 1) := by decide +kernel
theorem dX11_logsFor_1 : decode cX11_logsFor 1 = .ok (.iload_n 1, 1) := by decide +kernel
theorem dX11_logsFor_2 : decode cX11_logsFor 2 = .ok (.invokevirtual 99, 3) := by decide +kernel
theorem dX11_logsFor_5 : decode cX11_logsFor 5 = .ok (.ifCond .ne 32, 3) := by decide +kernel
theorem dX11_logsFor_8 : decode cX11_logsFor 8 = .ok (.iload_n 2, 1) := by decide +kernel
theorem dX11_logsFor_9 : decode cX11_logsFor 9 = .ok (.bipush 24, 2) := by decide +kernel
theorem dX11_logsFor_11 : decode cX11_logsFor 11 = .ok (.invokestatic 67, 3) := by decide +kernel
theorem dX11_logsFor_14 : decode cX11_logsFor 14 = .ok (.ifCond .ne 23, 3) := by decide +kernel
theorem dX11_logsFor_17 : decode cX11_logsFor 17 = .ok (.iload_n 3, 1) := by decide +kernel
theorem dX11_logsFor_18 : decode cX11_logsFor 18 = .ok (.sipush 9999, 3) := by decide +kernel
theorem dX11_logsFor_21 : decode cX11_logsFor 21 = .ok (.invokestatic 67, 3) := by decide +kernel
theorem dX11_logsFor_24 : decode cX11_logsFor 24 = .ok (.ifCond .ne 13, 3) := by decide +kernel
theorem dX11_logsFor_27 : decode cX11_logsFor 27 = .ok (.iload 4, 2) := by decide +kernel
theorem dX11_logsFor_29 : decode cX11_logsFor 29 = .ok (.bipush 40, 2) := by decide +kernel
theorem dX11_logsFor_31 : decode cX11_logsFor 31 = .ok (.invokestatic 67, 3) := by decide +kernel
theorem dX11_logsFor_34 : decode cX11_logsFor 34 = .ok (.ifCond .eq 9, 3) := by decide +kernel
theorem dX11_logsFor_37 : decode cX11_logsFor 37 = .ok (.aload_n 0, 1) := by decide +kernel
theorem dX11_logsFor_38 : decode cX11_logsFor 38 = .ok (.iconst 0, 1) := by decide +kernel
theorem dX11_logsFor_39 : decode cX11_logsFor 39 = .ok (.invokevirtual 71, 3) := by decide +kernel
theorem dX11_logsFor_42 : decode cX11_logsFor 42 = .ok (.ireturn, 1) := by decide +kernel
theorem dX11_logsFor_43 : decode cX11_logsFor 43 = .ok (.iconst 0, 1) := by decide +kernel
theorem dX11_logsFor_44 : decode cX11_logsFor 44 = .ok (.istore 5, 2) := by decide +kernel
theorem dX11_logsFor_46 : decode cX11_logsFor 46 = .ok (.iload 5, 2) := by decide +kernel
theorem dX11_logsFor_48 : decode cX11_logsFor 48 = .ok (.sipush 200, 3) := by decide +kernel
theorem dX11_logsFor_51 : decode cX11_logsFor 51 = .ok (.if_icmp .gt 60, 3) := by decide +kernel
theorem dX11_logsFor_54 : decode cX11_logsFor 54 = .ok (.aload_n 0, 1) := by decide +kernel
theorem dX11_logsFor_55 : decode cX11_logsFor 55 = .ok (.iload_n 1, 1) := by decide +kernel
theorem dX11_logsFor_56 : decode cX11_logsFor 56 = .ok (.iconst 3, 1) := by decide +kernel
theorem dX11_logsFor_57 : decode cX11_logsFor 57 = .ok (.iload 5, 2) := by decide +kernel
theorem dX11_logsFor_59 : decode cX11_logsFor 59 = .ok (.invokevirtual 170, 3) := by decide +kernel
theorem dX11_logsFor_62 : decode cX11_logsFor 62 = .ok (.aload_n 0, 1) := by decide +kernel
theorem dX11_logsFor_63 : decode cX11_logsFor 63 = .ok (.getfield 39, 3) := by decide +kernel
theorem dX11_logsFor_66 : decode cX11_logsFor 66 = .ok (.iload 4, 2) := by decide +kernel
theorem dX11_logsFor_68 : decode cX11_logsFor 68 = .ok (.invokevirtual 141, 3) := by decide +kernel
theorem dX11_logsFor_71 : decode cX11_logsFor 71 = .ok (.aload_n 0, 1) := by decide +kernel
theorem dX11_logsFor_72 : decode cX11_logsFor 72 = .ok (.getfield 39, 3) := by decide +kernel
theorem dX11_logsFor_75 : decode cX11_logsFor 75 = .ok (.getfield 75, 3) := by decide +kernel
theorem dX11_logsFor_78 : decode cX11_logsFor 78 = .ok (.iload_n 2, 1) := by decide +kernel
theorem dX11_logsFor_79 : decode cX11_logsFor 79 = .ok (.iaload, 1) := by decide +kernel
theorem dX11_logsFor_80 : decode cX11_logsFor 80 = .ok (.iload_n 3, 1) := by decide +kernel
theorem dX11_logsFor_81 : decode cX11_logsFor 81 = .ok (.if_icmp .lt 6, 3) := by decide +kernel
theorem dX11_logsFor_84 : decode cX11_logsFor 84 = .ok (.iload 5, 2) := by decide +kernel
theorem dX11_logsFor_86 : decode cX11_logsFor 86 = .ok (.ireturn, 1) := by decide +kernel
theorem dX11_logsFor_87 : decode cX11_logsFor 87 = .ok (.aload_n 0, 1) := by decide +kernel
theorem dX11_logsFor_88 : decode cX11_logsFor 88 = .ok (.getfield 39, 3) := by decide +kernel
theorem dX11_logsFor_91 : decode cX11_logsFor 91 = .ok (.getfield 103, 3) := by decide +kernel
theorem dX11_logsFor_94 : decode cX11_logsFor 94 = .ok (.iload_n 1, 1) := by decide +kernel
theorem dX11_logsFor_95 : decode cX11_logsFor 95 = .ok (.aaload, 1) := by decide +kernel
theorem dX11_logsFor_96 : decode cX11_logsFor 96 = .ok (.getfield 177, 3) := by decide +kernel
theorem dX11_logsFor_99 : decode cX11_logsFor 99 = .ok (.ifCond .le 6, 3) := by decide +kernel
theorem dX11_logsFor_102 : decode cX11_logsFor 102 = .ok (.goto 9, 3) := by decide +kernel
theorem dX11_logsFor_105 : decode cX11_logsFor 105 = .ok (.iinc 5 1, 3) := by decide +kernel
theorem dX11_logsFor_108 : decode cX11_logsFor 108 = .ok (.goto (-62), 3) := by decide +kernel
theorem dX11_logsFor_111 : decode cX11_logsFor 111 = .ok (.aload_n 0, 1) := by decide +kernel
theorem dX11_logsFor_112 : decode cX11_logsFor 112 = .ok (.iconst 3, 1) := by decide +kernel
theorem dX11_logsFor_113 : decode cX11_logsFor 113 = .ok (.invokevirtual 71, 3) := by decide +kernel
theorem dX11_logsFor_116 : decode cX11_logsFor 116 = .ok (.ireturn, 1) := by decide +kernel
theorem dX11_quench_0 : decode cX11_quench 0 = .ok (.iload_n 1, 1) := by decide +kernel
theorem dX11_quench_1 : decode cX11_quench 1 = .ok (.bipush 20, 2) := by decide +kernel
theorem dX11_quench_3 : decode cX11_quench 3 = .ok (.invokestatic 67, 3) := by decide +kernel
theorem dX11_quench_6 : decode cX11_quench 6 = .ok (.ifCond .eq 9, 3) := by decide +kernel
theorem dX11_quench_9 : decode cX11_quench 9 = .ok (.aload_n 0, 1) := by decide +kernel
theorem dX11_quench_10 : decode cX11_quench 10 = .ok (.iconst 0, 1) := by decide +kernel
theorem dX11_quench_11 : decode cX11_quench 11 = .ok (.invokevirtual 71, 3) := by decide +kernel
theorem dX11_quench_14 : decode cX11_quench 14 = .ok (.ireturn, 1) := by decide +kernel
theorem dX11_quench_15 : decode cX11_quench 15 = .ok (.iconst 1, 1) := by decide +kernel
theorem dX11_quench_16 : decode cX11_quench 16 = .ok (.aload_n 0, 1) := by decide +kernel
theorem dX11_quench_17 : decode cX11_quench 17 = .ok (.getfield 33, 3) := by decide +kernel
theorem dX11_quench_20 : decode cX11_quench 20 = .ok (.getfield 180, 3) := by decide +kernel
theorem dX11_quench_23 : decode cX11_quench 23 = .ok (.ishl, 1) := by decide +kernel
theorem dX11_quench_24 : decode cX11_quench 24 = .ok (.iconst 1, 1) := by decide +kernel
theorem dX11_quench_25 : decode cX11_quench 25 = .ok (.isub, 1) := by decide +kernel
theorem dX11_quench_26 : decode cX11_quench 26 = .ok (.istore_n 2, 1) := by decide +kernel
theorem dX11_quench_27 : decode cX11_quench 27 = .ok (.iconst 0, 1) := by decide +kernel
theorem dX11_quench_28 : decode cX11_quench 28 = .ok (.istore_n 3, 1) := by decide +kernel
theorem dX11_quench_29 : decode cX11_quench 29 = .ok (.iload_n 3, 1) := by decide +kernel
theorem dX11_quench_30 : decode cX11_quench 30 = .ok (.aload_n 0, 1) := by decide +kernel
theorem dX11_quench_31 : decode cX11_quench 31 = .ok (.getfield 33, 3) := by decide +kernel
theorem dX11_quench_34 : decode cX11_quench 34 = .ok (.getfield 180, 3) := by decide +kernel
theorem dX11_quench_37 : decode cX11_quench 37 = .ok (.if_icmp .ge 46, 3) := by decide +kernel
theorem dX11_quench_40 : decode cX11_quench 40 = .ok (.iconst 0, 1) := by decide +kernel
theorem dX11_quench_41 : decode cX11_quench 41 = .ok (.istore 4, 2) := by decide +kernel
theorem dX11_quench_43 : decode cX11_quench 43 = .ok (.iload 4, 2) := by decide +kernel
theorem dX11_quench_45 : decode cX11_quench 45 = .ok (.iload_n 2, 1) := by decide +kernel
theorem dX11_quench_46 : decode cX11_quench 46 = .ok (.if_icmp .gt 31, 3) := by decide +kernel
theorem dX11_quench_49 : decode cX11_quench 49 = .ok (.iload 4, 2) := by decide +kernel
theorem dX11_quench_51 : decode cX11_quench 51 = .ok (.invokestatic 183, 3) := by decide +kernel
theorem dX11_quench_54 : decode cX11_quench 54 = .ok (.iload_n 3, 1) := by decide +kernel
theorem dX11_quench_55 : decode cX11_quench 55 = .ok (.if_icmp .ne 16, 3) := by decide +kernel
theorem dX11_quench_58 : decode cX11_quench 58 = .ok (.aload_n 0, 1) := by decide +kernel
theorem dX11_quench_59 : decode cX11_quench 59 = .ok (.iload 4, 2) := by decide +kernel
theorem dX11_quench_61 : decode cX11_quench 61 = .ok (.iload_n 1, 1) := by decide +kernel
theorem dX11_quench_62 : decode cX11_quench 62 = .ok (.invokevirtual 188, 3) := by decide +kernel
theorem dX11_quench_65 : decode cX11_quench 65 = .ok (.ifCond .eq 6, 3) := by decide +kernel
theorem dX11_quench_68 : decode cX11_quench 68 = .ok (.iload 4, 2) := by decide +kernel
theorem dX11_quench_70 : decode cX11_quench 70 = .ok (.ireturn, 1) := by decide +kernel
theorem dX11_quench_71 : decode cX11_quench 71 = .ok (.iinc 4 1, 3) := by decide +kernel
theorem dX11_quench_74 : decode cX11_quench 74 = .ok (.goto (-31), 3) := by decide +kernel
theorem dX11_quench_77 : decode cX11_quench 77 = .ok (.iinc 3 1, 3) := by decide +kernel
theorem dX11_quench_80 : decode cX11_quench 80 = .ok (.goto (-51), 3) := by decide +kernel
theorem dX11_quench_83 : decode cX11_quench 83 = .ok (.iload_n 2, 1) := by decide +kernel
theorem dX11_quench_84 : decode cX11_quench 84 = .ok (.ireturn, 1) := by decide +kernel
theorem dX11_noneCrossWithout_0 : decode cX11_noneCrossWithout 0 = .ok (.aload_n 0, 1) := by decide +kernel
theorem dX11_noneCrossWithout_1 : decode cX11_noneCrossWithout 1 = .ok (.getfield 39, 3) := by decide +kernel
theorem dX11_noneCrossWithout_4 : decode cX11_noneCrossWithout 4 = .ok (.aload_n 0, 1) := by decide +kernel
theorem dX11_noneCrossWithout_5 : decode cX11_noneCrossWithout 5 = .ok (.getfield 33, 3) := by decide +kernel
theorem dX11_noneCrossWithout_8 : decode cX11_noneCrossWithout 8 = .ok (.invokevirtual 163, 3) := by decide +kernel
theorem dX11_noneCrossWithout_11 : decode cX11_noneCrossWithout 11 = .ok (.iconst 0, 1) := by decide +kernel
theorem dX11_noneCrossWithout_12 : decode cX11_noneCrossWithout 12 = .ok (.istore_n 3, 1) := by decide +kernel
theorem dX11_noneCrossWithout_13 : decode cX11_noneCrossWithout 13 = .ok (.iload_n 3, 1) := by decide +kernel
theorem dX11_noneCrossWithout_14 : decode cX11_noneCrossWithout 14 = .ok (.aload_n 0, 1) := by decide +kernel
theorem dX11_noneCrossWithout_15 : decode cX11_noneCrossWithout 15 = .ok (.getfield 39, 3) := by decide +kernel
theorem dX11_noneCrossWithout_18 : decode cX11_noneCrossWithout 18 = .ok (.getfield 180, 3) := by decide +kernel
theorem dX11_noneCrossWithout_21 : decode cX11_noneCrossWithout 21 = .ok (.if_icmp .ge 44, 3) := by decide +kernel
theorem dX11_noneCrossWithout_24 : decode cX11_noneCrossWithout 24 = .ok (.iload_n 1, 1) := by decide +kernel
theorem dX11_noneCrossWithout_25 : decode cX11_noneCrossWithout 25 = .ok (.iload_n 3, 1) := by decide +kernel
theorem dX11_noneCrossWithout_26 : decode cX11_noneCrossWithout 26 = .ok (.ishr, 1) := by decide +kernel
theorem dX11_noneCrossWithout_27 : decode cX11_noneCrossWithout 27 = .ok (.iconst 1, 1) := by decide +kernel
theorem dX11_noneCrossWithout_28 : decode cX11_noneCrossWithout 28 = .ok (.iand, 1) := by decide +kernel
theorem dX11_noneCrossWithout_29 : decode cX11_noneCrossWithout 29 = .ok (.iconst 1, 1) := by decide +kernel
theorem dX11_noneCrossWithout_30 : decode cX11_noneCrossWithout 30 = .ok (.if_icmp .ne 29, 3) := by decide +kernel
theorem dX11_noneCrossWithout_33 : decode cX11_noneCrossWithout 33 = .ok (.aload_n 0, 1) := by decide +kernel
theorem dX11_noneCrossWithout_34 : decode cX11_noneCrossWithout 34 = .ok (.getfield 39, 3) := by decide +kernel
theorem dX11_noneCrossWithout_37 : decode cX11_noneCrossWithout 37 = .ok (.getfield 103, 3) := by decide +kernel
theorem dX11_noneCrossWithout_40 : decode cX11_noneCrossWithout 40 = .ok (.iload_n 3, 1) := by decide +kernel
theorem dX11_noneCrossWithout_41 : decode cX11_noneCrossWithout 41 = .ok (.aaload, 1) := by decide +kernel
theorem dX11_noneCrossWithout_42 : decode cX11_noneCrossWithout 42 = .ok (.iconst 0, 1) := by decide +kernel
theorem dX11_noneCrossWithout_43 : decode cX11_noneCrossWithout 43 = .ok (.putfield 177, 3) := by decide +kernel
theorem dX11_noneCrossWithout_46 : decode cX11_noneCrossWithout 46 = .ok (.aload_n 0, 1) := by decide +kernel
theorem dX11_noneCrossWithout_47 : decode cX11_noneCrossWithout 47 = .ok (.getfield 39, 3) := by decide +kernel
theorem dX11_noneCrossWithout_50 : decode cX11_noneCrossWithout 50 = .ok (.getfield 103, 3) := by decide +kernel
theorem dX11_noneCrossWithout_53 : decode cX11_noneCrossWithout 53 = .ok (.iload_n 3, 1) := by decide +kernel
theorem dX11_noneCrossWithout_54 : decode cX11_noneCrossWithout 54 = .ok (.aaload, 1) := by decide +kernel
theorem dX11_noneCrossWithout_55 : decode cX11_noneCrossWithout 55 = .ok (.iconst 0, 1) := by decide +kernel
theorem dX11_noneCrossWithout_56 : decode cX11_noneCrossWithout 56 = .ok (.putfield 191, 3) := by decide +kernel
theorem dX11_noneCrossWithout_59 : decode cX11_noneCrossWithout 59 = .ok (.iinc 3 1, 3) := by decide +kernel
theorem dX11_noneCrossWithout_62 : decode cX11_noneCrossWithout 62 = .ok (.goto (-49), 3) := by decide +kernel
theorem dX11_noneCrossWithout_65 : decode cX11_noneCrossWithout 65 = .ok (.iconst 0, 1) := by decide +kernel
theorem dX11_noneCrossWithout_66 : decode cX11_noneCrossWithout 66 = .ok (.istore_n 3, 1) := by decide +kernel
theorem dX11_noneCrossWithout_67 : decode cX11_noneCrossWithout 67 = .ok (.iload_n 3, 1) := by decide +kernel
theorem dX11_noneCrossWithout_68 : decode cX11_noneCrossWithout 68 = .ok (.iload_n 2, 1) := by decide +kernel
theorem dX11_noneCrossWithout_69 : decode cX11_noneCrossWithout 69 = .ok (.if_icmp .ge 33, 3) := by decide +kernel
theorem dX11_noneCrossWithout_72 : decode cX11_noneCrossWithout 72 = .ok (.aload_n 0, 1) := by decide +kernel
theorem dX11_noneCrossWithout_73 : decode cX11_noneCrossWithout 73 = .ok (.getfield 39, 3) := by decide +kernel
theorem dX11_noneCrossWithout_76 : decode cX11_noneCrossWithout 76 = .ok (.getfield 151, 3) := by decide +kernel
theorem dX11_noneCrossWithout_79 : decode cX11_noneCrossWithout 79 = .ok (.aload_n 0, 1) := by decide +kernel
theorem dX11_noneCrossWithout_80 : decode cX11_noneCrossWithout 80 = .ok (.getfield 33, 3) := by decide +kernel
theorem dX11_noneCrossWithout_83 : decode cX11_noneCrossWithout 83 = .ok (.getfield 151, 3) := by decide +kernel
theorem dX11_noneCrossWithout_86 : decode cX11_noneCrossWithout 86 = .ok (.if_icmp .ne 16, 3) := by decide +kernel
theorem dX11_noneCrossWithout_89 : decode cX11_noneCrossWithout 89 = .ok (.aload_n 0, 1) := by decide +kernel
theorem dX11_noneCrossWithout_90 : decode cX11_noneCrossWithout 90 = .ok (.getfield 39, 3) := by decide +kernel
theorem dX11_noneCrossWithout_93 : decode cX11_noneCrossWithout 93 = .ok (.invokevirtual 167, 3) := by decide +kernel
theorem dX11_noneCrossWithout_96 : decode cX11_noneCrossWithout 96 = .ok (.iinc 3 1, 3) := by decide +kernel
theorem dX11_noneCrossWithout_99 : decode cX11_noneCrossWithout 99 = .ok (.goto (-32), 3) := by decide +kernel
theorem dX11_noneCrossWithout_102 : decode cX11_noneCrossWithout 102 = .ok (.aload_n 0, 1) := by decide +kernel
theorem dX11_noneCrossWithout_103 : decode cX11_noneCrossWithout 103 = .ok (.getfield 39, 3) := by decide +kernel
theorem dX11_noneCrossWithout_106 : decode cX11_noneCrossWithout 106 = .ok (.getfield 151, 3) := by decide +kernel
theorem dX11_noneCrossWithout_109 : decode cX11_noneCrossWithout 109 = .ok (.aload_n 0, 1) := by decide +kernel
theorem dX11_noneCrossWithout_110 : decode cX11_noneCrossWithout 110 = .ok (.getfield 33, 3) := by decide +kernel
theorem dX11_noneCrossWithout_113 : decode cX11_noneCrossWithout 113 = .ok (.getfield 151, 3) := by decide +kernel
theorem dX11_noneCrossWithout_116 : decode cX11_noneCrossWithout 116 = .ok (.if_icmp .ne 7, 3) := by decide +kernel
theorem dX11_noneCrossWithout_119 : decode cX11_noneCrossWithout 119 = .ok (.iconst 1, 1) := by decide +kernel
theorem dX11_noneCrossWithout_120 : decode cX11_noneCrossWithout 120 = .ok (.goto 4, 3) := by decide +kernel
theorem dX11_noneCrossWithout_123 : decode cX11_noneCrossWithout 123 = .ok (.iconst 0, 1) := by decide +kernel
theorem dX11_noneCrossWithout_124 : decode cX11_noneCrossWithout 124 = .ok (.ireturn, 1) := by decide +kernel
theorem dX11_fits_0 : decode cX11_fits 0 = .ok (.aload_n 0, 1) := by decide +kernel
theorem dX11_fits_1 : decode cX11_fits 1 = .ok (.iload_n 1, 1) := by decide +kernel
theorem dX11_fits_2 : decode cX11_fits 2 = .ok (.iload_n 2, 1) := by decide +kernel
theorem dX11_fits_3 : decode cX11_fits 3 = .ok (.iconst 2, 1) := by decide +kernel
theorem dX11_fits_4 : decode cX11_fits 4 = .ok (.invokevirtual 194, 3) := by decide +kernel
theorem dX11_fits_7 : decode cX11_fits 7 = .ok (.ireturn, 1) := by decide +kernel
theorem dX11_kinds_0 : decode cX11_kinds 0 = .ok (.aload_n 0, 1) := by decide +kernel
theorem dX11_kinds_1 : decode cX11_kinds 1 = .ok (.iload_n 1, 1) := by decide +kernel
theorem dX11_kinds_2 : decode cX11_kinds 2 = .ok (.iload_n 2, 1) := by decide +kernel
theorem dX11_kinds_3 : decode cX11_kinds 3 = .ok (.iconst 0, 1) := by decide +kernel
theorem dX11_kinds_4 : decode cX11_kinds 4 = .ok (.invokevirtual 194, 3) := by decide +kernel
theorem dX11_kinds_7 : decode cX11_kinds 7 = .ok (.ireturn, 1) := by decide +kernel
theorem dX11_followers_0 : decode cX11_followers 0 = .ok (.iload_n 1, 1) := by decide +kernel
theorem dX11_followers_1 : decode cX11_followers 1 = .ok (.iconst 3, 1) := by decide +kernel
theorem dX11_followers_2 : decode cX11_followers 2 = .ok (.invokestatic 67, 3) := by decide +kernel
theorem dX11_followers_5 : decode cX11_followers 5 = .ok (.ifCond .eq 9, 3) := by decide +kernel
theorem dX11_followers_8 : decode cX11_followers 8 = .ok (.aload_n 0, 1) := by decide +kernel
theorem dX11_followers_9 : decode cX11_followers 9 = .ok (.iconst 0, 1) := by decide +kernel
theorem dX11_followers_10 : decode cX11_followers 10 = .ok (.invokevirtual 71, 3) := by decide +kernel
theorem dX11_followers_13 : decode cX11_followers 13 = .ok (.ireturn, 1) := by decide +kernel
theorem dX11_followers_14 : decode cX11_followers 14 = .ok (.aload_n 0, 1) := by decide +kernel
theorem dX11_followers_15 : decode cX11_followers 15 = .ok (.getfield 54, 3) := by decide +kernel
theorem dX11_followers_18 : decode cX11_followers 18 = .ok (.iload_n 1, 1) := by decide +kernel
theorem dX11_followers_19 : decode cX11_followers 19 = .ok (.aaload, 1) := by decide +kernel
theorem dX11_followers_20 : decode cX11_followers 20 = .ok (.invokevirtual 198, 3) := by decide +kernel
theorem dX11_followers_23 : decode cX11_followers 23 = .ok (.ifCond .eq 9, 3) := by decide +kernel
theorem dX11_followers_26 : decode cX11_followers 26 = .ok (.aload_n 0, 1) := by decide +kernel
theorem dX11_followers_27 : decode cX11_followers 27 = .ok (.iconst 5, 1) := by decide +kernel
theorem dX11_followers_28 : decode cX11_followers 28 = .ok (.invokevirtual 71, 3) := by decide +kernel
theorem dX11_followers_31 : decode cX11_followers 31 = .ok (.ireturn, 1) := by decide +kernel
theorem dX11_followers_32 : decode cX11_followers 32 = .ok (.aload_n 0, 1) := by decide +kernel
theorem dX11_followers_33 : decode cX11_followers 33 = .ok (.iload_n 2, 1) := by decide +kernel
theorem dX11_followers_34 : decode cX11_followers 34 = .ok (.invokevirtual 99, 3) := by decide +kernel
theorem dX11_followers_37 : decode cX11_followers 37 = .ok (.ifCond .eq 9, 3) := by decide +kernel
theorem dX11_followers_40 : decode cX11_followers 40 = .ok (.aload_n 0, 1) := by decide +kernel
theorem dX11_followers_41 : decode cX11_followers 41 = .ok (.iconst 0, 1) := by decide +kernel
theorem dX11_followers_42 : decode cX11_followers 42 = .ok (.invokevirtual 71, 3) := by decide +kernel
theorem dX11_followers_45 : decode cX11_followers 45 = .ok (.ireturn, 1) := by decide +kernel
theorem dX11_followers_46 : decode cX11_followers 46 = .ok (.iconst 0, 1) := by decide +kernel
theorem dX11_followers_47 : decode cX11_followers 47 = .ok (.istore 4, 2) := by decide +kernel
theorem dX11_followers_49 : decode cX11_followers 49 = .ok (.iconst 0, 1) := by decide +kernel
theorem dX11_followers_50 : decode cX11_followers 50 = .ok (.istore 5, 2) := by decide +kernel
theorem dX11_followers_52 : decode cX11_followers 52 = .ok (.iload 5, 2) := by decide +kernel
theorem dX11_followers_54 : decode cX11_followers 54 = .ok (.iload_n 3, 1) := by decide +kernel
theorem dX11_followers_55 : decode cX11_followers 55 = .ok (.invokestatic 133, 3) := by decide +kernel
theorem dX11_followers_58 : decode cX11_followers 58 = .ok (.if_icmp .gt 119, 3) := by decide +kernel
theorem dX11_followers_61 : decode cX11_followers 61 = .ok (.aload_n 0, 1) := by decide +kernel
theorem dX11_followers_62 : decode cX11_followers 62 = .ok (.iload_n 2, 1) := by decide +kernel
theorem dX11_followers_63 : decode cX11_followers 63 = .ok (.iload_n 3, 1) := by decide +kernel
theorem dX11_followers_64 : decode cX11_followers 64 = .ok (.iload 5, 2) := by decide +kernel
theorem dX11_followers_66 : decode cX11_followers 66 = .ok (.invokevirtual 170, 3) := by decide +kernel
theorem dX11_followers_69 : decode cX11_followers 69 = .ok (.aload_n 0, 1) := by decide +kernel
theorem dX11_followers_70 : decode cX11_followers 70 = .ok (.getfield 54, 3) := by decide +kernel
theorem dX11_followers_73 : decode cX11_followers 73 = .ok (.iload_n 1, 1) := by decide +kernel
theorem dX11_followers_74 : decode cX11_followers 74 = .ok (.aaload, 1) := by decide +kernel
theorem dX11_followers_75 : decode cX11_followers 75 = .ok (.iconst 0, 1) := by decide +kernel
theorem dX11_followers_76 : decode cX11_followers 76 = .ok (.aload_n 0, 1) := by decide +kernel
theorem dX11_followers_77 : decode cX11_followers 77 = .ok (.getfield 39, 3) := by decide +kernel
theorem dX11_followers_80 : decode cX11_followers 80 = .ok (.getfield 103, 3) := by decide +kernel
theorem dX11_followers_83 : decode cX11_followers 83 = .ok (.iload_n 2, 1) := by decide +kernel
theorem dX11_followers_84 : decode cX11_followers 84 = .ok (.aaload, 1) := by decide +kernel
theorem dX11_followers_85 : decode cX11_followers 85 = .ok (.getfield 174, 3) := by decide +kernel
theorem dX11_followers_88 : decode cX11_followers 88 = .ok (.invokevirtual 201, 3) := by decide +kernel
theorem dX11_followers_91 : decode cX11_followers 91 = .ok (.istore 6, 2) := by decide +kernel
theorem dX11_followers_93 : decode cX11_followers 93 = .ok (.iconst 1, 1) := by decide +kernel
theorem dX11_followers_94 : decode cX11_followers 94 = .ok (.istore 7, 2) := by decide +kernel
theorem dX11_followers_96 : decode cX11_followers 96 = .ok (.iload 7, 2) := by decide +kernel
theorem dX11_followers_98 : decode cX11_followers 98 = .ok (.aload_n 0, 1) := by decide +kernel
theorem dX11_followers_99 : decode cX11_followers 99 = .ok (.getfield 54, 3) := by decide +kernel
theorem dX11_followers_102 : decode cX11_followers 102 = .ok (.iload_n 1, 1) := by decide +kernel
theorem dX11_followers_103 : decode cX11_followers 103 = .ok (.aaload, 1) := by decide +kernel
theorem dX11_followers_104 : decode cX11_followers 104 = .ok (.getfield 204, 3) := by decide +kernel
theorem dX11_followers_107 : decode cX11_followers 107 = .ok (.if_icmp .ge 46, 3) := by decide +kernel
theorem dX11_followers_110 : decode cX11_followers 110 = .ok (.iload 6, 2) := by decide +kernel
theorem dX11_followers_112 : decode cX11_followers 112 = .ok (.ifCond .eq 41, 3) := by decide +kernel
theorem dX11_followers_115 : decode cX11_followers 115 = .ok (.aload_n 0, 1) := by decide +kernel
theorem dX11_followers_116 : decode cX11_followers 116 = .ok (.getfield 39, 3) := by decide +kernel
theorem dX11_followers_119 : decode cX11_followers 119 = .ok (.invokevirtual 167, 3) := by decide +kernel
theorem dX11_followers_122 : decode cX11_followers 122 = .ok (.aload_n 0, 1) := by decide +kernel
theorem dX11_followers_123 : decode cX11_followers 123 = .ok (.getfield 54, 3) := by decide +kernel
theorem dX11_followers_126 : decode cX11_followers 126 = .ok (.iload_n 1, 1) := by decide +kernel
theorem dX11_followers_127 : decode cX11_followers 127 = .ok (.aaload, 1) := by decide +kernel
theorem dX11_followers_128 : decode cX11_followers 128 = .ok (.iload 7, 2) := by decide +kernel
theorem dX11_followers_130 : decode cX11_followers 130 = .ok (.aload_n 0, 1) := by decide +kernel
theorem dX11_followers_131 : decode cX11_followers 131 = .ok (.getfield 39, 3) := by decide +kernel
theorem dX11_followers_134 : decode cX11_followers 134 = .ok (.getfield 103, 3) := by decide +kernel
theorem dX11_followers_137 : decode cX11_followers 137 = .ok (.iload_n 2, 1) := by decide +kernel
theorem dX11_followers_138 : decode cX11_followers 138 = .ok (.aaload, 1) := by decide +kernel
theorem dX11_followers_139 : decode cX11_followers 139 = .ok (.getfield 174, 3) := by decide +kernel
theorem dX11_followers_142 : decode cX11_followers 142 = .ok (.invokevirtual 201, 3) := by decide +kernel
theorem dX11_followers_145 : decode cX11_followers 145 = .ok (.istore 6, 2) := by decide +kernel
theorem dX11_followers_147 : decode cX11_followers 147 = .ok (.iinc 7 1, 3) := by decide +kernel
theorem dX11_followers_150 : decode cX11_followers 150 = .ok (.goto (-54), 3) := by decide +kernel
theorem dX11_followers_153 : decode cX11_followers 153 = .ok (.iload 4, 2) := by decide +kernel
theorem dX11_followers_155 : decode cX11_followers 155 = .ok (.iload 6, 2) := by decide +kernel
theorem dX11_followers_157 : decode cX11_followers 157 = .ok (.ifCond .eq 10, 3) := by decide +kernel
theorem dX11_followers_160 : decode cX11_followers 160 = .ok (.iconst 1, 1) := by decide +kernel
theorem dX11_followers_161 : decode cX11_followers 161 = .ok (.iload 5, 2) := by decide +kernel
theorem dX11_followers_163 : decode cX11_followers 163 = .ok (.ishl, 1) := by decide +kernel
theorem dX11_followers_164 : decode cX11_followers 164 = .ok (.goto 4, 3) := by decide +kernel
theorem dX11_followers_167 : decode cX11_followers 167 = .ok (.iconst 0, 1) := by decide +kernel
theorem dX11_followers_168 : decode cX11_followers 168 = .ok (.ior, 1) := by decide +kernel
theorem dX11_followers_169 : decode cX11_followers 169 = .ok (.istore 4, 2) := by decide +kernel
theorem dX11_followers_171 : decode cX11_followers 171 = .ok (.iinc 5 1, 3) := by decide +kernel
theorem dX11_followers_174 : decode cX11_followers 174 = .ok (.goto (-122), 3) := by decide +kernel
theorem dX11_followers_177 : decode cX11_followers 177 = .ok (.iload 4, 2) := by decide +kernel
theorem dX11_followers_179 : decode cX11_followers 179 = .ok (.ireturn, 1) := by decide +kernel
theorem dX11_winds_0 : decode cX11_winds 0 = .ok (.iload_n 1, 1) := by decide +kernel
theorem dX11_winds_1 : decode cX11_winds 1 = .ok (.iconst 1, 1) := by decide +kernel
theorem dX11_winds_2 : decode cX11_winds 2 = .ok (.if_icmp .lt 9, 3) := by decide +kernel
theorem dX11_winds_5 : decode cX11_winds 5 = .ok (.iload_n 1, 1) := by decide +kernel
theorem dX11_winds_6 : decode cX11_winds 6 = .ok (.bipush 20, 2) := by decide +kernel
theorem dX11_winds_8 : decode cX11_winds 8 = .ok (.if_icmp .le 9, 3) := by decide +kernel
theorem dX11_winds_11 : decode cX11_winds 11 = .ok (.aload_n 0, 1) := by decide +kernel
theorem dX11_winds_12 : decode cX11_winds 12 = .ok (.iconst 0, 1) := by decide +kernel
theorem dX11_winds_13 : decode cX11_winds 13 = .ok (.invokevirtual 71, 3) := by decide +kernel
theorem dX11_winds_16 : decode cX11_winds 16 = .ok (.ireturn, 1) := by decide +kernel
theorem dX11_winds_17 : decode cX11_winds 17 = .ok (.aload_n 0, 1) := by decide +kernel
theorem dX11_winds_18 : decode cX11_winds 18 = .ok (.getfield 33, 3) := by decide +kernel
theorem dX11_winds_21 : decode cX11_winds 21 = .ok (.getfield 111, 3) := by decide +kernel
theorem dX11_winds_24 : decode cX11_winds 24 = .ok (.ldc 140, 2) := by decide +kernel
theorem dX11_winds_26 : decode cX11_winds 26 = .ok (.iload_n 1, 1) := by decide +kernel
theorem dX11_winds_27 : decode cX11_winds 27 = .ok (.isub, 1) := by decide +kernel
theorem dX11_winds_28 : decode cX11_winds 28 = .ok (.if_icmp .le 9, 3) := by decide +kernel
theorem dX11_winds_31 : decode cX11_winds 31 = .ok (.aload_n 0, 1) := by decide +kernel
theorem dX11_winds_32 : decode cX11_winds 32 = .ok (.iconst 4, 1) := by decide +kernel
theorem dX11_winds_33 : decode cX11_winds 33 = .ok (.invokevirtual 71, 3) := by decide +kernel
theorem dX11_winds_36 : decode cX11_winds 36 = .ok (.ireturn, 1) := by decide +kernel
theorem dX11_winds_37 : decode cX11_winds 37 = .ok (.iconst 0, 1) := by decide +kernel
theorem dX11_winds_38 : decode cX11_winds 38 = .ok (.istore_n 2, 1) := by decide +kernel
theorem dX11_winds_39 : decode cX11_winds 39 = .ok (.iload_n 2, 1) := by decide +kernel
theorem dX11_winds_40 : decode cX11_winds 40 = .ok (.iload_n 1, 1) := by decide +kernel
theorem dX11_winds_41 : decode cX11_winds 41 = .ok (.if_icmp .ge 32, 3) := by decide +kernel
theorem dX11_winds_44 : decode cX11_winds 44 = .ok (.aload_n 0, 1) := by decide +kernel
theorem dX11_winds_45 : decode cX11_winds 45 = .ok (.getfield 33, 3) := by decide +kernel
theorem dX11_winds_48 : decode cX11_winds 48 = .ok (.aload_n 0, 1) := by decide +kernel
theorem dX11_winds_49 : decode cX11_winds 49 = .ok (.getfield 33, 3) := by decide +kernel
theorem dX11_winds_52 : decode cX11_winds 52 = .ok (.invokevirtual 207, 3) := by decide +kernel
theorem dX11_winds_55 : decode cX11_winds 55 = .ok (.iconst 5, 1) := by decide +kernel
theorem dX11_winds_56 : decode cX11_winds 56 = .ok (.irem, 1) := by decide +kernel
theorem dX11_winds_57 : decode cX11_winds 57 = .ok (.putfield 87, 3) := by decide +kernel
theorem dX11_winds_60 : decode cX11_winds 60 = .ok (.aload_n 0, 1) := by decide +kernel
theorem dX11_winds_61 : decode cX11_winds 61 = .ok (.getfield 33, 3) := by decide +kernel
theorem dX11_winds_64 : decode cX11_winds 64 = .ok (.invokevirtual 167, 3) := by decide +kernel
theorem dX11_winds_67 : decode cX11_winds 67 = .ok (.iinc 2 1, 3) := by decide +kernel
theorem dX11_winds_70 : decode cX11_winds 70 = .ok (.goto (-31), 3) := by decide +kernel
theorem dX11_winds_73 : decode cX11_winds 73 = .ok (.aload_n 0, 1) := by decide +kernel
theorem dX11_winds_74 : decode cX11_winds 74 = .ok (.getfield 33, 3) := by decide +kernel
theorem dX11_winds_77 : decode cX11_winds 77 = .ok (.invokevirtual 145, 3) := by decide +kernel
theorem dX11_winds_80 : decode cX11_winds 80 = .ok (.ireturn, 1) := by decide +kernel
theorem dX11_odds_0 : decode cX11_odds 0 = .ok (.aload_n 0, 1) := by decide +kernel
theorem dX11_odds_1 : decode cX11_odds 1 = .ok (.iload_n 1, 1) := by decide +kernel
theorem dX11_odds_2 : decode cX11_odds 2 = .ok (.invokevirtual 99, 3) := by decide +kernel
theorem dX11_odds_5 : decode cX11_odds 5 = .ok (.ifCond .ne 20, 3) := by decide +kernel
theorem dX11_odds_8 : decode cX11_odds 8 = .ok (.iload_n 2, 1) := by decide +kernel
theorem dX11_odds_9 : decode cX11_odds 9 = .ok (.bipush 26, 2) := by decide +kernel
theorem dX11_odds_11 : decode cX11_odds 11 = .ok (.invokestatic 67, 3) := by decide +kernel
theorem dX11_odds_14 : decode cX11_odds 14 = .ok (.ifCond .ne 11, 3) := by decide +kernel
theorem dX11_odds_17 : decode cX11_odds 17 = .ok (.iload_n 3, 1) := by decide +kernel
theorem dX11_odds_18 : decode cX11_odds 18 = .ok (.iconst 1, 1) := by decide +kernel
theorem dX11_odds_19 : decode cX11_odds 19 = .ok (.invokestatic 67, 3) := by decide +kernel
theorem dX11_odds_22 : decode cX11_odds 22 = .ok (.ifCond .eq 10, 3) := by decide +kernel
theorem dX11_odds_25 : decode cX11_odds 25 = .ok (.aload_n 0, 1) := by decide +kernel
theorem dX11_odds_26 : decode cX11_odds 26 = .ok (.iconst 0, 1) := by decide +kernel
theorem dX11_odds_27 : decode cX11_odds 27 = .ok (.invokevirtual 71, 3) := by decide +kernel
theorem dX11_odds_30 : decode cX11_odds 30 = .ok (.i2l, 1) := by decide +kernel
theorem dX11_odds_31 : decode cX11_odds 31 = .ok (.lreturn, 1) := by decide +kernel
theorem dX11_odds_32 : decode cX11_odds 32 = .ok (.aload_n 0, 1) := by decide +kernel
theorem dX11_odds_33 : decode cX11_odds 33 = .ok (.getfield 33, 3) := by decide +kernel
theorem dX11_odds_36 : decode cX11_odds 36 = .ok (.getfield 103, 3) := by decide +kernel
theorem dX11_odds_39 : decode cX11_odds 39 = .ok (.iload_n 1, 1) := by decide +kernel
theorem dX11_odds_40 : decode cX11_odds 40 = .ok (.aaload, 1) := by decide +kernel
theorem dX11_odds_41 : decode cX11_odds 41 = .ok (.getfield 210, 3) := by decide +kernel
theorem dX11_odds_44 : decode cX11_odds 44 = .ok (.aload_n 0, 1) := by decide +kernel
theorem dX11_odds_45 : decode cX11_odds 45 = .ok (.getfield 33, 3) := by decide +kernel
theorem dX11_odds_48 : decode cX11_odds 48 = .ok (.getfield 103, 3) := by decide +kernel
theorem dX11_odds_51 : decode cX11_odds 51 = .ok (.iload_n 1, 1) := by decide +kernel
theorem dX11_odds_52 : decode cX11_odds 52 = .ok (.aaload, 1) := by decide +kernel
theorem dX11_odds_53 : decode cX11_odds 53 = .ok (.getfield 213, 3) := by decide +kernel
theorem dX11_odds_56 : decode cX11_odds 56 = .ok (.if_icmp .ne 5, 3) := by decide +kernel
theorem dX11_odds_59 : decode cX11_odds 59 = .ok (.lconst 1, 1) := by decide +kernel
theorem dX11_odds_60 : decode cX11_odds 60 = .ok (.lreturn, 1) := by decide +kernel
theorem dX11_odds_61 : decode cX11_odds 61 = .ok (.iload_n 3, 1) := by decide +kernel
theorem dX11_odds_62 : decode cX11_odds 62 = .ok (.ifCond .ne 9, 3) := by decide +kernel
theorem dX11_odds_65 : decode cX11_odds 65 = .ok (.ldc2_w 216, 3) := by decide +kernel
theorem dX11_odds_68 : decode cX11_odds 68 = .ok (.goto 6, 3) := by decide +kernel
theorem dX11_odds_71 : decode cX11_odds 71 = .ok (.ldc2_w 218, 3) := by decide +kernel
theorem dX11_odds_74 : decode cX11_odds 74 = .ok (.lstore 4, 2) := by decide +kernel
theorem dX11_odds_76 : decode cX11_odds 76 = .ok (.lconst 1, 1) := by decide +kernel
theorem dX11_odds_77 : decode cX11_odds 77 = .ok (.lstore 6, 2) := by decide +kernel
theorem dX11_odds_79 : decode cX11_odds 79 = .ok (.iconst 0, 1) := by decide +kernel
theorem dX11_odds_80 : decode cX11_odds 80 = .ok (.istore 8, 2) := by decide +kernel
theorem dX11_odds_82 : decode cX11_odds 82 = .ok (.iload 8, 2) := by decide +kernel
theorem dX11_odds_84 : decode cX11_odds 84 = .ok (.iload_n 2, 1) := by decide +kernel
theorem dX11_odds_85 : decode cX11_odds 85 = .ok (.if_icmp .ge 16, 3) := by decide +kernel
theorem dX11_odds_88 : decode cX11_odds 88 = .ok (.lload 6, 2) := by decide +kernel
theorem dX11_odds_90 : decode cX11_odds 90 = .ok (.lload 4, 2) := by decide +kernel
theorem dX11_odds_92 : decode cX11_odds 92 = .ok (.lmul, 1) := by decide +kernel
theorem dX11_odds_93 : decode cX11_odds 93 = .ok (.lstore 6, 2) := by decide +kernel
theorem dX11_odds_95 : decode cX11_odds 95 = .ok (.iinc 8 1, 3) := by decide +kernel
theorem dX11_odds_98 : decode cX11_odds 98 = .ok (.goto (-16), 3) := by decide +kernel
theorem dX11_odds_101 : decode cX11_odds 101 = .ok (.lload 6, 2) := by decide +kernel
theorem dX11_odds_103 : decode cX11_odds 103 = .ok (.lreturn, 1) := by decide +kernel
theorem dX11_seed_0 : decode cX11_seed 0 = .ok (.aload_n 0, 1) := by decide +kernel
theorem dX11_seed_1 : decode cX11_seed 1 = .ok (.getfield 33, 3) := by decide +kernel
theorem dX11_seed_4 : decode cX11_seed 4 = .ok (.getfield 220, 3) := by decide +kernel
theorem dX11_seed_7 : decode cX11_seed 7 = .ok (.istore_n 2, 1) := by decide +kernel
theorem dX11_seed_8 : decode cX11_seed 8 = .ok (.aload_n 0, 1) := by decide +kernel
theorem dX11_seed_9 : decode cX11_seed 9 = .ok (.getfield 33, 3) := by decide +kernel
theorem dX11_seed_12 : decode cX11_seed 12 = .ok (.iload_n 1, 1) := by decide +kernel
theorem dX11_seed_13 : decode cX11_seed 13 = .ok (.putfield 220, 3) := by decide +kernel
theorem dX11_seed_16 : decode cX11_seed 16 = .ok (.iload_n 2, 1) := by decide +kernel
theorem dX11_seed_17 : decode cX11_seed 17 = .ok (.ireturn, 1) := by decide +kernel
theorem dX11_feed_0 : decode cX11_feed 0 = .ok (.iload_n 2, 1) := by decide +kernel
theorem dX11_feed_1 : decode cX11_feed 1 = .ok (.iconst 1, 1) := by decide +kernel
theorem dX11_feed_2 : decode cX11_feed 2 = .ok (.if_icmp .lt 8, 3) := by decide +kernel
theorem dX11_feed_5 : decode cX11_feed 5 = .ok (.iload_n 2, 1) := by decide +kernel
theorem dX11_feed_6 : decode cX11_feed 6 = .ok (.iconst 4, 1) := by decide +kernel
theorem dX11_feed_7 : decode cX11_feed 7 = .ok (.if_icmp .le 9, 3) := by decide +kernel
theorem dX11_feed_10 : decode cX11_feed 10 = .ok (.aload_n 0, 1) := by decide +kernel
theorem dX11_feed_11 : decode cX11_feed 11 = .ok (.iconst 0, 1) := by decide +kernel
theorem dX11_feed_12 : decode cX11_feed 12 = .ok (.invokevirtual 71, 3) := by decide +kernel
theorem dX11_feed_15 : decode cX11_feed 15 = .ok (.ireturn, 1) := by decide +kernel
theorem dX11_feed_16 : decode cX11_feed 16 = .ok (.aload_n 0, 1) := by decide +kernel
theorem dX11_feed_17 : decode cX11_feed 17 = .ok (.getfield 48, 3) := by decide +kernel
theorem dX11_feed_20 : decode cX11_feed 20 = .ok (.getfield 223, 3) := by decide +kernel
theorem dX11_feed_23 : decode cX11_feed 23 = .ok (.bipush 120, 2) := by decide +kernel
theorem dX11_feed_25 : decode cX11_feed 25 = .ok (.iload_n 2, 1) := by decide +kernel
theorem dX11_feed_26 : decode cX11_feed 26 = .ok (.isub, 1) := by decide +kernel
theorem dX11_feed_27 : decode cX11_feed 27 = .ok (.if_icmp .le 9, 3) := by decide +kernel
theorem dX11_feed_30 : decode cX11_feed 30 = .ok (.aload_n 0, 1) := by decide +kernel
theorem dX11_feed_31 : decode cX11_feed 31 = .ok (.iconst 1, 1) := by decide +kernel
theorem dX11_feed_32 : decode cX11_feed 32 = .ok (.invokevirtual 71, 3) := by decide +kernel
theorem dX11_feed_35 : decode cX11_feed 35 = .ok (.ireturn, 1) := by decide +kernel
theorem dX11_feed_36 : decode cX11_feed 36 = .ok (.iload_n 2, 1) := by decide +kernel
theorem dX11_feed_37 : decode cX11_feed 37 = .ok (.iconst 1, 1) := by decide +kernel
theorem dX11_feed_38 : decode cX11_feed 38 = .ok (.isub, 1) := by decide +kernel
theorem dX11_feed_39 : decode cX11_feed 39 = .ok (.istore_n 3, 1) := by decide +kernel
theorem dX11_feed_40 : decode cX11_feed 40 = .ok (.iload_n 3, 1) := by decide +kernel
theorem dX11_feed_41 : decode cX11_feed 41 = .ok (.ifCond .lt 22, 3) := by decide +kernel
theorem dX11_feed_44 : decode cX11_feed 44 = .ok (.aload_n 0, 1) := by decide +kernel
theorem dX11_feed_45 : decode cX11_feed 45 = .ok (.getfield 48, 3) := by decide +kernel
theorem dX11_feed_48 : decode cX11_feed 48 = .ok (.iload_n 1, 1) := by decide +kernel
theorem dX11_feed_49 : decode cX11_feed 49 = .ok (.bipush 8, 2) := by decide +kernel
theorem dX11_feed_51 : decode cX11_feed 51 = .ok (.iload_n 3, 1) := by decide +kernel
theorem dX11_feed_52 : decode cX11_feed 52 = .ok (.imul, 1) := by decide +kernel
theorem dX11_feed_53 : decode cX11_feed 53 = .ok (.iushr, 1) := by decide +kernel
theorem dX11_feed_54 : decode cX11_feed 54 = .ok (.invokevirtual 224, 3) := by decide +kernel
theorem dX11_feed_57 : decode cX11_feed 57 = .ok (.iinc 3 (-1), 3) := by decide +kernel
theorem dX11_feed_60 : decode cX11_feed 60 = .ok (.goto (-20), 3) := by decide +kernel
theorem dX11_feed_63 : decode cX11_feed 63 = .ok (.aload_n 0, 1) := by decide +kernel
theorem dX11_feed_64 : decode cX11_feed 64 = .ok (.getfield 48, 3) := by decide +kernel
theorem dX11_feed_67 : decode cX11_feed 67 = .ok (.getfield 223, 3) := by decide +kernel
theorem dX11_feed_70 : decode cX11_feed 70 = .ok (.ireturn, 1) := by decide +kernel
theorem dX11_wipe_0 : decode cX11_wipe 0 = .ok (.aload_n 0, 1) := by decide +kernel
theorem dX11_wipe_1 : decode cX11_wipe 1 = .ok (.getfield 48, 3) := by decide +kernel
theorem dX11_wipe_4 : decode cX11_wipe 4 = .ok (.getfield 223, 3) := by decide +kernel
theorem dX11_wipe_7 : decode cX11_wipe 7 = .ok (.istore_n 1, 1) := by decide +kernel
theorem dX11_wipe_8 : decode cX11_wipe 8 = .ok (.aload_n 0, 1) := by decide +kernel
theorem dX11_wipe_9 : decode cX11_wipe 9 = .ok (.getfield 48, 3) := by decide +kernel
theorem dX11_wipe_12 : decode cX11_wipe 12 = .ok (.iconst 0, 1) := by decide +kernel
theorem dX11_wipe_13 : decode cX11_wipe 13 = .ok (.putfield 223, 3) := by decide +kernel
theorem dX11_wipe_16 : decode cX11_wipe 16 = .ok (.iload_n 1, 1) := by decide +kernel
theorem dX11_wipe_17 : decode cX11_wipe 17 = .ok (.ireturn, 1) := by decide +kernel
theorem dX11_text_0 : decode cX11_text 0 = .ok (.aload_n 0, 1) := by decide +kernel
theorem dX11_text_1 : decode cX11_text 1 = .ok (.getfield 39, 3) := by decide +kernel
theorem dX11_text_4 : decode cX11_text 4 = .ok (.aload_n 0, 1) := by decide +kernel
theorem dX11_text_5 : decode cX11_text 5 = .ok (.getfield 33, 3) := by decide +kernel
theorem dX11_text_8 : decode cX11_text 8 = .ok (.invokevirtual 163, 3) := by decide +kernel
theorem dX11_text_11 : decode cX11_text 11 = .ok (.aload_n 0, 1) := by decide +kernel
theorem dX11_text_12 : decode cX11_text 12 = .ok (.getfield 48, 3) := by decide +kernel
theorem dX11_text_15 : decode cX11_text 15 = .ok (.aload_n 0, 1) := by decide +kernel
theorem dX11_text_16 : decode cX11_text 16 = .ok (.getfield 39, 3) := by decide +kernel
theorem dX11_text_19 : decode cX11_text 19 = .ok (.invokevirtual 226, 3) := by decide +kernel
theorem dX11_text_22 : decode cX11_text 22 = .ok (.istore_n 1, 1) := by decide +kernel
theorem dX11_text_23 : decode cX11_text 23 = .ok (.iload_n 1, 1) := by decide +kernel
theorem dX11_text_24 : decode cX11_text 24 = .ok (.ifCond .lt 14, 3) := by decide +kernel
theorem dX11_text_27 : decode cX11_text 27 = .ok (.aload_n 0, 1) := by decide +kernel
theorem dX11_text_28 : decode cX11_text 28 = .ok (.getfield 33, 3) := by decide +kernel
theorem dX11_text_31 : decode cX11_text 31 = .ok (.aload_n 0, 1) := by decide +kernel
theorem dX11_text_32 : decode cX11_text 32 = .ok (.getfield 39, 3) := by decide +kernel
theorem dX11_text_35 : decode cX11_text 35 = .ok (.invokevirtual 163, 3) := by decide +kernel
theorem dX11_text_38 : decode cX11_text 38 = .ok (.aload_n 0, 1) := by decide +kernel
theorem dX11_text_39 : decode cX11_text 39 = .ok (.getfield 48, 3) := by decide +kernel
theorem dX11_text_42 : decode cX11_text 42 = .ok (.iconst 0, 1) := by decide +kernel
theorem dX11_text_43 : decode cX11_text 43 = .ok (.putfield 223, 3) := by decide +kernel
theorem dX11_text_46 : decode cX11_text 46 = .ok (.iload_n 1, 1) := by decide +kernel
theorem dX11_text_47 : decode cX11_text 47 = .ok (.ireturn, 1) := by decide +kernel
theorem dX11_hold_0 : decode cX11_hold 0 = .ok (.iload_n 1, 1) := by decide +kernel
theorem dX11_hold_1 : decode cX11_hold 1 = .ok (.bipush 9, 2) := by decide +kernel
theorem dX11_hold_3 : decode cX11_hold 3 = .ok (.invokestatic 67, 3) := by decide +kernel
theorem dX11_hold_6 : decode cX11_hold 6 = .ok (.ifCond .ne 16, 3) := by decide +kernel
theorem dX11_hold_9 : decode cX11_hold 9 = .ok (.iload_n 2, 1) := by decide +kernel
theorem dX11_hold_10 : decode cX11_hold 10 = .ok (.iconst (-1), 1) := by decide +kernel
theorem dX11_hold_11 : decode cX11_hold 11 = .ok (.if_icmp .eq 17, 3) := by decide +kernel
theorem dX11_hold_14 : decode cX11_hold 14 = .ok (.aload_n 0, 1) := by decide +kernel
theorem dX11_hold_15 : decode cX11_hold 15 = .ok (.iload_n 2, 1) := by decide +kernel
theorem dX11_hold_16 : decode cX11_hold 16 = .ok (.invokevirtual 99, 3) := by decide +kernel
theorem dX11_hold_19 : decode cX11_hold 19 = .ok (.ifCond .eq 9, 3) := by decide +kernel
theorem dX11_hold_22 : decode cX11_hold 22 = .ok (.aload_n 0, 1) := by decide +kernel
theorem dX11_hold_23 : decode cX11_hold 23 = .ok (.iconst 0, 1) := by decide +kernel
theorem dX11_hold_24 : decode cX11_hold 24 = .ok (.invokevirtual 71, 3) := by decide +kernel
theorem dX11_hold_27 : decode cX11_hold 27 = .ok (.ireturn, 1) := by decide +kernel
theorem dX11_hold_28 : decode cX11_hold 28 = .ok (.aload_n 0, 1) := by decide +kernel
theorem dX11_hold_29 : decode cX11_hold 29 = .ok (.getfield 33, 3) := by decide +kernel
theorem dX11_hold_32 : decode cX11_hold 32 = .ok (.getfield 230, 3) := by decide +kernel
theorem dX11_hold_35 : decode cX11_hold 35 = .ok (.iload_n 1, 1) := by decide +kernel
theorem dX11_hold_36 : decode cX11_hold 36 = .ok (.iload_n 2, 1) := by decide +kernel
theorem dX11_hold_37 : decode cX11_hold 37 = .ok (.iastore, 1) := by decide +kernel
theorem dX11_hold_38 : decode cX11_hold 38 = .ok (.iconst 1, 1) := by decide +kernel
theorem dX11_hold_39 : decode cX11_hold 39 = .ok (.ireturn, 1) := by decide +kernel
theorem dX11_as_0 : decode cX11_as 0 = .ok (.iload_n 1, 1) := by decide +kernel
theorem dX11_as_1 : decode cX11_as 1 = .ok (.bipush 9, 2) := by decide +kernel
theorem dX11_as_3 : decode cX11_as 3 = .ok (.invokestatic 67, 3) := by decide +kernel
theorem dX11_as_6 : decode cX11_as 6 = .ok (.ifCond .ne 12, 3) := by decide +kernel
theorem dX11_as_9 : decode cX11_as 9 = .ok (.iload_n 2, 1) := by decide +kernel
theorem dX11_as_10 : decode cX11_as 10 = .ok (.bipush 6, 2) := by decide +kernel
theorem dX11_as_12 : decode cX11_as 12 = .ok (.invokestatic 67, 3) := by decide +kernel
theorem dX11_as_15 : decode cX11_as 15 = .ok (.ifCond .eq 9, 3) := by decide +kernel
theorem dX11_as_18 : decode cX11_as 18 = .ok (.aload_n 0, 1) := by decide +kernel
theorem dX11_as_19 : decode cX11_as 19 = .ok (.iconst 0, 1) := by decide +kernel
theorem dX11_as_20 : decode cX11_as 20 = .ok (.invokevirtual 71, 3) := by decide +kernel
theorem dX11_as_23 : decode cX11_as 23 = .ok (.ireturn, 1) := by decide +kernel
theorem dX11_as_24 : decode cX11_as 24 = .ok (.aload_n 0, 1) := by decide +kernel
theorem dX11_as_25 : decode cX11_as 25 = .ok (.getfield 33, 3) := by decide +kernel
theorem dX11_as_28 : decode cX11_as 28 = .ok (.getfield 230, 3) := by decide +kernel
theorem dX11_as_31 : decode cX11_as 31 = .ok (.iload_n 1, 1) := by decide +kernel
theorem dX11_as_32 : decode cX11_as 32 = .ok (.iaload, 1) := by decide +kernel
theorem dX11_as_33 : decode cX11_as 33 = .ok (.istore_n 3, 1) := by decide +kernel
theorem dX11_as_34 : decode cX11_as 34 = .ok (.aload_n 0, 1) := by decide +kernel
theorem dX11_as_35 : decode cX11_as 35 = .ok (.iload_n 3, 1) := by decide +kernel
theorem dX11_as_36 : decode cX11_as 36 = .ok (.invokevirtual 99, 3) := by decide +kernel
theorem dX11_as_39 : decode cX11_as 39 = .ok (.ifCond .eq 9, 3) := by decide +kernel
theorem dX11_as_42 : decode cX11_as 42 = .ok (.aload_n 0, 1) := by decide +kernel
theorem dX11_as_43 : decode cX11_as 43 = .ok (.iconst 5, 1) := by decide +kernel
theorem dX11_as_44 : decode cX11_as 44 = .ok (.invokevirtual 71, 3) := by decide +kernel
theorem dX11_as_47 : decode cX11_as 47 = .ok (.ireturn, 1) := by decide +kernel
theorem dX11_as_48 : decode cX11_as 48 = .ok (.aload_n 0, 1) := by decide +kernel
theorem dX11_as_49 : decode cX11_as 49 = .ok (.getfield 33, 3) := by decide +kernel
theorem dX11_as_52 : decode cX11_as 52 = .ok (.aload_n 0, 1) := by decide +kernel
theorem dX11_as_53 : decode cX11_as 53 = .ok (.getfield 33, 3) := by decide +kernel
theorem dX11_as_56 : decode cX11_as 56 = .ok (.getfield 103, 3) := by decide +kernel
theorem dX11_as_59 : decode cX11_as 59 = .ok (.iload_n 3, 1) := by decide +kernel
theorem dX11_as_60 : decode cX11_as 60 = .ok (.aaload, 1) := by decide +kernel
theorem dX11_as_61 : decode cX11_as 61 = .ok (.invokevirtual 107, 3) := by decide +kernel
theorem dX11_as_64 : decode cX11_as 64 = .ok (.iload_n 2, 1) := by decide +kernel
theorem dX11_as_65 : decode cX11_as 65 = .ok (.invokevirtual 233, 3) := by decide +kernel
theorem dX11_as_68 : decode cX11_as 68 = .ok (.ifCond .ne 9, 3) := by decide +kernel
theorem dX11_as_71 : decode cX11_as 71 = .ok (.aload_n 0, 1) := by decide +kernel
theorem dX11_as_72 : decode cX11_as 72 = .ok (.iconst 2, 1) := by decide +kernel
theorem dX11_as_73 : decode cX11_as 73 = .ok (.invokevirtual 71, 3) := by decide +kernel
theorem dX11_as_76 : decode cX11_as 76 = .ok (.ireturn, 1) := by decide +kernel
theorem dX11_as_77 : decode cX11_as 77 = .ok (.iload_n 3, 1) := by decide +kernel
theorem dX11_as_78 : decode cX11_as 78 = .ok (.ireturn, 1) := by decide +kernel
theorem dX11_sheet_0 : decode cX11_sheet 0 = .ok (.iload_n 1, 1) := by decide +kernel
theorem dX11_sheet_1 : decode cX11_sheet 1 = .ok (.iconst 3, 1) := by decide +kernel
theorem dX11_sheet_2 : decode cX11_sheet 2 = .ok (.invokestatic 67, 3) := by decide +kernel
theorem dX11_sheet_5 : decode cX11_sheet 5 = .ok (.ifCond .ne 25, 3) := by decide +kernel
theorem dX11_sheet_8 : decode cX11_sheet 8 = .ok (.iload_n 2, 1) := by decide +kernel
theorem dX11_sheet_9 : decode cX11_sheet 9 = .ok (.ifCond .eq 27, 3) := by decide +kernel
theorem dX11_sheet_12 : decode cX11_sheet 12 = .ok (.iload_n 2, 1) := by decide +kernel
theorem dX11_sheet_13 : decode cX11_sheet 13 = .ok (.bipush 8, 2) := by decide +kernel
theorem dX11_sheet_15 : decode cX11_sheet 15 = .ok (.if_icmp .eq 21, 3) := by decide +kernel
theorem dX11_sheet_18 : decode cX11_sheet 18 = .ok (.iload_n 2, 1) := by decide +kernel
theorem dX11_sheet_19 : decode cX11_sheet 19 = .ok (.bipush 16, 2) := by decide +kernel
theorem dX11_sheet_21 : decode cX11_sheet 21 = .ok (.if_icmp .eq 15, 3) := by decide +kernel
theorem dX11_sheet_24 : decode cX11_sheet 24 = .ok (.iload_n 2, 1) := by decide +kernel
theorem dX11_sheet_25 : decode cX11_sheet 25 = .ok (.bipush 32, 2) := by decide +kernel
theorem dX11_sheet_27 : decode cX11_sheet 27 = .ok (.if_icmp .eq 9, 3) := by decide +kernel
theorem dX11_sheet_30 : decode cX11_sheet 30 = .ok (.aload_n 0, 1) := by decide +kernel
theorem dX11_sheet_31 : decode cX11_sheet 31 = .ok (.iconst 0, 1) := by decide +kernel
theorem dX11_sheet_32 : decode cX11_sheet 32 = .ok (.invokevirtual 71, 3) := by decide +kernel
theorem dX11_sheet_35 : decode cX11_sheet 35 = .ok (.ireturn, 1) := by decide +kernel
theorem dX11_sheet_36 : decode cX11_sheet 36 = .ok (.iload_n 3, 1) := by decide +kernel
theorem dX11_sheet_37 : decode cX11_sheet 37 = .ok (.ifCond .ge 10, 3) := by decide +kernel
theorem dX11_sheet_40 : decode cX11_sheet 40 = .ok (.aload_n 0, 1) := by decide +kernel
theorem dX11_sheet_41 : decode cX11_sheet 41 = .ok (.bipush 6, 2) := by decide +kernel
theorem dX11_sheet_43 : decode cX11_sheet 43 = .ok (.invokevirtual 71, 3) := by decide +kernel
theorem dX11_sheet_46 : decode cX11_sheet 46 = .ok (.ireturn, 1) := by decide +kernel
theorem dX11_sheet_47 : decode cX11_sheet 47 = .ok (.iload_n 3, 1) := by decide +kernel
theorem dX11_sheet_48 : decode cX11_sheet 48 = .ok (.bipush 40, 2) := by decide +kernel
theorem dX11_sheet_50 : decode cX11_sheet 50 = .ok (.if_icmp .le 9, 3) := by decide +kernel
theorem dX11_sheet_53 : decode cX11_sheet 53 = .ok (.aload_n 0, 1) := by decide +kernel
theorem dX11_sheet_54 : decode cX11_sheet 54 = .ok (.iconst 0, 1) := by decide +kernel
theorem dX11_sheet_55 : decode cX11_sheet 55 = .ok (.invokevirtual 71, 3) := by decide +kernel
theorem dX11_sheet_58 : decode cX11_sheet 58 = .ok (.ireturn, 1) := by decide +kernel
theorem dX11_sheet_59 : decode cX11_sheet 59 = .ok (.aload_n 0, 1) := by decide +kernel
theorem dX11_sheet_60 : decode cX11_sheet 60 = .ok (.getfield 54, 3) := by decide +kernel
theorem dX11_sheet_63 : decode cX11_sheet 63 = .ok (.iload_n 1, 1) := by decide +kernel
theorem dX11_sheet_64 : decode cX11_sheet 64 = .ok (.aaload, 1) := by decide +kernel
theorem dX11_sheet_65 : decode cX11_sheet 65 = .ok (.iload_n 2, 1) := by decide +kernel
theorem dX11_sheet_66 : decode cX11_sheet 66 = .ok (.iload_n 3, 1) := by decide +kernel
theorem dX11_sheet_67 : decode cX11_sheet 67 = .ok (.invokevirtual 236, 3) := by decide +kernel
theorem dX11_sheet_70 : decode cX11_sheet 70 = .ok (.aload_n 0, 1) := by decide +kernel
theorem dX11_sheet_71 : decode cX11_sheet 71 = .ok (.getfield 54, 3) := by decide +kernel
theorem dX11_sheet_74 : decode cX11_sheet 74 = .ok (.iload_n 1, 1) := by decide +kernel
theorem dX11_sheet_75 : decode cX11_sheet 75 = .ok (.aaload, 1) := by decide +kernel
theorem dX11_sheet_76 : decode cX11_sheet 76 = .ok (.getfield 204, 3) := by decide +kernel
theorem dX11_sheet_79 : decode cX11_sheet 79 = .ok (.ireturn, 1) := by decide +kernel
theorem dX11_write_0 : decode cX11_write 0 = .ok (.iload_n 1, 1) := by decide +kernel
theorem dX11_write_1 : decode cX11_write 1 = .ok (.iconst 3, 1) := by decide +kernel
theorem dX11_write_2 : decode cX11_write 2 = .ok (.invokestatic 67, 3) := by decide +kernel
theorem dX11_write_5 : decode cX11_write 5 = .ok (.ifCond .eq 9, 3) := by decide +kernel
theorem dX11_write_8 : decode cX11_write 8 = .ok (.aload_n 0, 1) := by decide +kernel
theorem dX11_write_9 : decode cX11_write 9 = .ok (.iconst 0, 1) := by decide +kernel
theorem dX11_write_10 : decode cX11_write 10 = .ok (.invokevirtual 71, 3) := by decide +kernel
theorem dX11_write_13 : decode cX11_write 13 = .ok (.ireturn, 1) := by decide +kernel
theorem dX11_write_14 : decode cX11_write 14 = .ok (.aload_n 0, 1) := by decide +kernel
theorem dX11_write_15 : decode cX11_write 15 = .ok (.getfield 54, 3) := by decide +kernel
theorem dX11_write_18 : decode cX11_write 18 = .ok (.iload_n 1, 1) := by decide +kernel
theorem dX11_write_19 : decode cX11_write 19 = .ok (.aaload, 1) := by decide +kernel
theorem dX11_write_20 : decode cX11_write 20 = .ok (.invokevirtual 198, 3) := by decide +kernel
theorem dX11_write_23 : decode cX11_write 23 = .ok (.ifCond .eq 9, 3) := by decide +kernel
theorem dX11_write_26 : decode cX11_write 26 = .ok (.aload_n 0, 1) := by decide +kernel
theorem dX11_write_27 : decode cX11_write 27 = .ok (.iconst 5, 1) := by decide +kernel
theorem dX11_write_28 : decode cX11_write 28 = .ok (.invokevirtual 71, 3) := by decide +kernel
theorem dX11_write_31 : decode cX11_write 31 = .ok (.ireturn, 1) := by decide +kernel
theorem dX11_write_32 : decode cX11_write 32 = .ok (.iload_n 2, 1) := by decide +kernel
theorem dX11_write_33 : decode cX11_write 33 = .ok (.aload_n 0, 1) := by decide +kernel
theorem dX11_write_34 : decode cX11_write 34 = .ok (.getfield 54, 3) := by decide +kernel
theorem dX11_write_37 : decode cX11_write 37 = .ok (.iload_n 1, 1) := by decide +kernel
theorem dX11_write_38 : decode cX11_write 38 = .ok (.aaload, 1) := by decide +kernel
theorem dX11_write_39 : decode cX11_write 39 = .ok (.getfield 204, 3) := by decide +kernel
theorem dX11_write_42 : decode cX11_write 42 = .ok (.iconst 1, 1) := by decide +kernel
theorem dX11_write_43 : decode cX11_write 43 = .ok (.isub, 1) := by decide +kernel
theorem dX11_write_44 : decode cX11_write 44 = .ok (.invokestatic 67, 3) := by decide +kernel
theorem dX11_write_47 : decode cX11_write 47 = .ok (.ifCond .eq 9, 3) := by decide +kernel
theorem dX11_write_50 : decode cX11_write 50 = .ok (.aload_n 0, 1) := by decide +kernel
theorem dX11_write_51 : decode cX11_write 51 = .ok (.iconst 0, 1) := by decide +kernel
theorem dX11_write_52 : decode cX11_write 52 = .ok (.invokevirtual 71, 3) := by decide +kernel
theorem dX11_write_55 : decode cX11_write 55 = .ok (.ireturn, 1) := by decide +kernel
theorem dX11_write_56 : decode cX11_write 56 = .ok (.aload_n 0, 1) := by decide +kernel
theorem dX11_write_57 : decode cX11_write 57 = .ok (.getfield 54, 3) := by decide +kernel
theorem dX11_write_60 : decode cX11_write 60 = .ok (.iload_n 1, 1) := by decide +kernel
theorem dX11_write_61 : decode cX11_write 61 = .ok (.aaload, 1) := by decide +kernel
theorem dX11_write_62 : decode cX11_write 62 = .ok (.iload_n 2, 1) := by decide +kernel
theorem dX11_write_63 : decode cX11_write 63 = .ok (.iload_n 3, 1) := by decide +kernel
theorem dX11_write_64 : decode cX11_write 64 = .ok (.invokevirtual 239, 3) := by decide +kernel
theorem dX11_write_67 : decode cX11_write 67 = .ok (.iconst 1, 1) := by decide +kernel
theorem dX11_write_68 : decode cX11_write 68 = .ok (.ireturn, 1) := by decide +kernel
theorem dX11_copy_0 : decode cX11_copy 0 = .ok (.iload_n 1, 1) := by decide +kernel
theorem dX11_copy_1 : decode cX11_copy 1 = .ok (.iconst 3, 1) := by decide +kernel
theorem dX11_copy_2 : decode cX11_copy 2 = .ok (.invokestatic 67, 3) := by decide +kernel
theorem dX11_copy_5 : decode cX11_copy 5 = .ok (.ifCond .ne 11, 3) := by decide +kernel
theorem dX11_copy_8 : decode cX11_copy 8 = .ok (.iload_n 3, 1) := by decide +kernel
theorem dX11_copy_9 : decode cX11_copy 9 = .ok (.iconst 3, 1) := by decide +kernel
theorem dX11_copy_10 : decode cX11_copy 10 = .ok (.invokestatic 67, 3) := by decide +kernel
theorem dX11_copy_13 : decode cX11_copy 13 = .ok (.ifCond .eq 9, 3) := by decide +kernel
theorem dX11_copy_16 : decode cX11_copy 16 = .ok (.aload_n 0, 1) := by decide +kernel
theorem dX11_copy_17 : decode cX11_copy 17 = .ok (.iconst 0, 1) := by decide +kernel
theorem dX11_copy_18 : decode cX11_copy 18 = .ok (.invokevirtual 71, 3) := by decide +kernel
theorem dX11_copy_21 : decode cX11_copy 21 = .ok (.ireturn, 1) := by decide +kernel
theorem dX11_copy_22 : decode cX11_copy 22 = .ok (.aload_n 0, 1) := by decide +kernel
theorem dX11_copy_23 : decode cX11_copy 23 = .ok (.getfield 54, 3) := by decide +kernel
theorem dX11_copy_26 : decode cX11_copy 26 = .ok (.iload_n 1, 1) := by decide +kernel
theorem dX11_copy_27 : decode cX11_copy 27 = .ok (.aaload, 1) := by decide +kernel
theorem dX11_copy_28 : decode cX11_copy 28 = .ok (.invokevirtual 198, 3) := by decide +kernel
theorem dX11_copy_31 : decode cX11_copy 31 = .ok (.ifCond .ne 15, 3) := by decide +kernel
theorem dX11_copy_34 : decode cX11_copy 34 = .ok (.aload_n 0, 1) := by decide +kernel
theorem dX11_copy_35 : decode cX11_copy 35 = .ok (.getfield 54, 3) := by decide +kernel
theorem dX11_copy_38 : decode cX11_copy 38 = .ok (.iload_n 3, 1) := by decide +kernel
theorem dX11_copy_39 : decode cX11_copy 39 = .ok (.aaload, 1) := by decide +kernel
theorem dX11_copy_40 : decode cX11_copy 40 = .ok (.invokevirtual 198, 3) := by decide +kernel
theorem dX11_copy_43 : decode cX11_copy 43 = .ok (.ifCond .eq 9, 3) := by decide +kernel
theorem dX11_copy_46 : decode cX11_copy 46 = .ok (.aload_n 0, 1) := by decide +kernel
theorem dX11_copy_47 : decode cX11_copy 47 = .ok (.iconst 5, 1) := by decide +kernel
theorem dX11_copy_48 : decode cX11_copy 48 = .ok (.invokevirtual 71, 3) := by decide +kernel
theorem dX11_copy_51 : decode cX11_copy 51 = .ok (.ireturn, 1) := by decide +kernel
theorem dX11_copy_52 : decode cX11_copy 52 = .ok (.aload_n 0, 1) := by decide +kernel
theorem dX11_copy_53 : decode cX11_copy 53 = .ok (.getfield 54, 3) := by decide +kernel
theorem dX11_copy_56 : decode cX11_copy 56 = .ok (.iload_n 1, 1) := by decide +kernel
theorem dX11_copy_57 : decode cX11_copy 57 = .ok (.aaload, 1) := by decide +kernel
theorem dX11_copy_58 : decode cX11_copy 58 = .ok (.getfield 240, 3) := by decide +kernel
theorem dX11_copy_61 : decode cX11_copy 61 = .ok (.aload_n 0, 1) := by decide +kernel
theorem dX11_copy_62 : decode cX11_copy 62 = .ok (.getfield 54, 3) := by decide +kernel
theorem dX11_copy_65 : decode cX11_copy 65 = .ok (.iload_n 3, 1) := by decide +kernel
theorem dX11_copy_66 : decode cX11_copy 66 = .ok (.aaload, 1) := by decide +kernel
theorem dX11_copy_67 : decode cX11_copy 67 = .ok (.getfield 240, 3) := by decide +kernel
theorem dX11_copy_70 : decode cX11_copy 70 = .ok (.if_icmp .eq 9, 3) := by decide +kernel
theorem dX11_copy_73 : decode cX11_copy 73 = .ok (.aload_n 0, 1) := by decide +kernel
theorem dX11_copy_74 : decode cX11_copy 74 = .ok (.iconst 2, 1) := by decide +kernel
theorem dX11_copy_75 : decode cX11_copy 75 = .ok (.invokevirtual 71, 3) := by decide +kernel
theorem dX11_copy_78 : decode cX11_copy 78 = .ok (.ireturn, 1) := by decide +kernel
theorem dX11_copy_79 : decode cX11_copy 79 = .ok (.aload_n 0, 1) := by decide +kernel
theorem dX11_copy_80 : decode cX11_copy 80 = .ok (.getfield 54, 3) := by decide +kernel
theorem dX11_copy_83 : decode cX11_copy 83 = .ok (.iload_n 1, 1) := by decide +kernel
theorem dX11_copy_84 : decode cX11_copy 84 = .ok (.aaload, 1) := by decide +kernel
theorem dX11_copy_85 : decode cX11_copy 85 = .ok (.iload_n 2, 1) := by decide +kernel
theorem dX11_copy_86 : decode cX11_copy 86 = .ok (.iload 5, 2) := by decide +kernel
theorem dX11_copy_88 : decode cX11_copy 88 = .ok (.invokevirtual 243, 3) := by decide +kernel
theorem dX11_copy_91 : decode cX11_copy 91 = .ok (.ifCond .eq 19, 3) := by decide +kernel
theorem dX11_copy_94 : decode cX11_copy 94 = .ok (.aload_n 0, 1) := by decide +kernel
theorem dX11_copy_95 : decode cX11_copy 95 = .ok (.getfield 54, 3) := by decide +kernel
theorem dX11_copy_98 : decode cX11_copy 98 = .ok (.iload_n 3, 1) := by decide +kernel
theorem dX11_copy_99 : decode cX11_copy 99 = .ok (.aaload, 1) := by decide +kernel
theorem dX11_copy_100 : decode cX11_copy 100 = .ok (.iload 4, 2) := by decide +kernel
theorem dX11_copy_102 : decode cX11_copy 102 = .ok (.iload 5, 2) := by decide +kernel
theorem dX11_copy_104 : decode cX11_copy 104 = .ok (.invokevirtual 243, 3) := by decide +kernel
theorem dX11_copy_107 : decode cX11_copy 107 = .ok (.ifCond .ne 9, 3) := by decide +kernel
theorem dX11_copy_110 : decode cX11_copy 110 = .ok (.aload_n 0, 1) := by decide +kernel
theorem dX11_copy_111 : decode cX11_copy 111 = .ok (.iconst 0, 1) := by decide +kernel
theorem dX11_copy_112 : decode cX11_copy 112 = .ok (.invokevirtual 71, 3) := by decide +kernel
theorem dX11_copy_115 : decode cX11_copy 115 = .ok (.ireturn, 1) := by decide +kernel
theorem dX11_copy_116 : decode cX11_copy 116 = .ok (.aload_n 0, 1) := by decide +kernel
theorem dX11_copy_117 : decode cX11_copy 117 = .ok (.getfield 54, 3) := by decide +kernel
theorem dX11_copy_120 : decode cX11_copy 120 = .ok (.iload_n 1, 1) := by decide +kernel
theorem dX11_copy_121 : decode cX11_copy 121 = .ok (.aaload, 1) := by decide +kernel
theorem dX11_copy_122 : decode cX11_copy 122 = .ok (.getfield 246, 3) := by decide +kernel
theorem dX11_copy_125 : decode cX11_copy 125 = .ok (.iload_n 2, 1) := by decide +kernel
theorem dX11_copy_126 : decode cX11_copy 126 = .ok (.aload_n 0, 1) := by decide +kernel
theorem dX11_copy_127 : decode cX11_copy 127 = .ok (.getfield 54, 3) := by decide +kernel
theorem dX11_copy_130 : decode cX11_copy 130 = .ok (.iload_n 3, 1) := by decide +kernel
theorem dX11_copy_131 : decode cX11_copy 131 = .ok (.aaload, 1) := by decide +kernel
theorem dX11_copy_132 : decode cX11_copy 132 = .ok (.getfield 246, 3) := by decide +kernel
theorem dX11_copy_135 : decode cX11_copy 135 = .ok (.iload 4, 2) := by decide +kernel
theorem dX11_copy_137 : decode cX11_copy 137 = .ok (.iload 5, 2) := by decide +kernel
theorem dX11_copy_139 : decode cX11_copy 139 = .ok (.invokestatic 249, 3) := by decide +kernel
theorem dX11_copy_142 : decode cX11_copy 142 = .ok (.iload 5, 2) := by decide +kernel
theorem dX11_copy_144 : decode cX11_copy 144 = .ok (.ireturn, 1) := by decide +kernel
theorem dX11_load_0 : decode cX11_load 0 = .ok (.iload_n 1, 1) := by decide +kernel
theorem dX11_load_1 : decode cX11_load 1 = .ok (.iconst 3, 1) := by decide +kernel
theorem dX11_load_2 : decode cX11_load 2 = .ok (.invokestatic 67, 3) := by decide +kernel
theorem dX11_load_5 : decode cX11_load 5 = .ok (.ifCond .eq 9, 3) := by decide +kernel
theorem dX11_load_8 : decode cX11_load 8 = .ok (.aload_n 0, 1) := by decide +kernel
theorem dX11_load_9 : decode cX11_load 9 = .ok (.iconst 0, 1) := by decide +kernel
theorem dX11_load_10 : decode cX11_load 10 = .ok (.invokevirtual 71, 3) := by decide +kernel
theorem dX11_load_13 : decode cX11_load 13 = .ok (.ireturn, 1) := by decide +kernel
theorem dX11_load_14 : decode cX11_load 14 = .ok (.aload_n 0, 1) := by decide +kernel
theorem dX11_load_15 : decode cX11_load 15 = .ok (.getfield 54, 3) := by decide +kernel
theorem dX11_load_18 : decode cX11_load 18 = .ok (.iload_n 1, 1) := by decide +kernel
theorem dX11_load_19 : decode cX11_load 19 = .ok (.aaload, 1) := by decide +kernel
theorem dX11_load_20 : decode cX11_load 20 = .ok (.invokevirtual 198, 3) := by decide +kernel
theorem dX11_load_23 : decode cX11_load 23 = .ok (.ifCond .eq 9, 3) := by decide +kernel
theorem dX11_load_26 : decode cX11_load 26 = .ok (.aload_n 0, 1) := by decide +kernel
theorem dX11_load_27 : decode cX11_load 27 = .ok (.iconst 5, 1) := by decide +kernel
theorem dX11_load_28 : decode cX11_load 28 = .ok (.invokevirtual 71, 3) := by decide +kernel
theorem dX11_load_31 : decode cX11_load 31 = .ok (.ireturn, 1) := by decide +kernel
theorem dX11_load_32 : decode cX11_load 32 = .ok (.iconst 0, 1) := by decide +kernel
theorem dX11_load_33 : decode cX11_load 33 = .ok (.istore_n 2, 1) := by decide +kernel
theorem dX11_load_34 : decode cX11_load 34 = .ok (.iload_n 2, 1) := by decide +kernel
theorem dX11_load_35 : decode cX11_load 35 = .ok (.aload_n 0, 1) := by decide +kernel
theorem dX11_load_36 : decode cX11_load 36 = .ok (.getfield 54, 3) := by decide +kernel
theorem dX11_load_39 : decode cX11_load 39 = .ok (.iload_n 1, 1) := by decide +kernel
theorem dX11_load_40 : decode cX11_load 40 = .ok (.aaload, 1) := by decide +kernel
theorem dX11_load_41 : decode cX11_load 41 = .ok (.getfield 204, 3) := by decide +kernel
theorem dX11_load_44 : decode cX11_load 44 = .ok (.if_icmp .ge 63, 3) := by decide +kernel
theorem dX11_load_47 : decode cX11_load 47 = .ok (.iload_n 2, 1) := by decide +kernel
theorem dX11_load_48 : decode cX11_load 48 = .ok (.aload_n 0, 1) := by decide +kernel
theorem dX11_load_49 : decode cX11_load 49 = .ok (.getfield 33, 3) := by decide +kernel
theorem dX11_load_52 : decode cX11_load 52 = .ok (.getfield 180, 3) := by decide +kernel
theorem dX11_load_55 : decode cX11_load 55 = .ok (.if_icmp .ge 52, 3) := by decide +kernel
theorem dX11_load_58 : decode cX11_load 58 = .ok (.aload_n 0, 1) := by decide +kernel
theorem dX11_load_59 : decode cX11_load 59 = .ok (.getfield 54, 3) := by decide +kernel
theorem dX11_load_62 : decode cX11_load 62 = .ok (.iload_n 1, 1) := by decide +kernel
theorem dX11_load_63 : decode cX11_load 63 = .ok (.aaload, 1) := by decide +kernel
theorem dX11_load_64 : decode cX11_load 64 = .ok (.getfield 246, 3) := by decide +kernel
theorem dX11_load_67 : decode cX11_load 67 = .ok (.iload_n 2, 1) := by decide +kernel
theorem dX11_load_68 : decode cX11_load 68 = .ok (.iaload, 1) := by decide +kernel
theorem dX11_load_69 : decode cX11_load 69 = .ok (.sipush 999, 3) := by decide +kernel
theorem dX11_load_72 : decode cX11_load 72 = .ok (.invokestatic 67, 3) := by decide +kernel
theorem dX11_load_75 : decode cX11_load 75 = .ok (.ifCond .ne 32, 3) := by decide +kernel
theorem dX11_load_78 : decode cX11_load 78 = .ok (.aload_n 0, 1) := by decide +kernel
theorem dX11_load_79 : decode cX11_load 79 = .ok (.getfield 33, 3) := by decide +kernel
theorem dX11_load_82 : decode cX11_load 82 = .ok (.getfield 103, 3) := by decide +kernel
theorem dX11_load_85 : decode cX11_load 85 = .ok (.iload_n 2, 1) := by decide +kernel
theorem dX11_load_86 : decode cX11_load 86 = .ok (.aaload, 1) := by decide +kernel
theorem dX11_load_87 : decode cX11_load 87 = .ok (.aload_n 0, 1) := by decide +kernel
theorem dX11_load_88 : decode cX11_load 88 = .ok (.getfield 54, 3) := by decide +kernel
theorem dX11_load_91 : decode cX11_load 91 = .ok (.iload_n 1, 1) := by decide +kernel
theorem dX11_load_92 : decode cX11_load 92 = .ok (.aaload, 1) := by decide +kernel
theorem dX11_load_93 : decode cX11_load 93 = .ok (.getfield 246, 3) := by decide +kernel
theorem dX11_load_96 : decode cX11_load 96 = .ok (.iload_n 2, 1) := by decide +kernel
theorem dX11_load_97 : decode cX11_load 97 = .ok (.iaload, 1) := by decide +kernel
theorem dX11_load_98 : decode cX11_load 98 = .ok (.putfield 177, 3) := by decide +kernel
theorem dX11_load_101 : decode cX11_load 101 = .ok (.iinc 2 1, 3) := by decide +kernel
theorem dX11_load_104 : decode cX11_load 104 = .ok (.goto (-70), 3) := by decide +kernel
theorem dX11_load_107 : decode cX11_load 107 = .ok (.iload_n 2, 1) := by decide +kernel
theorem dX11_load_108 : decode cX11_load 108 = .ok (.ireturn, 1) := by decide +kernel
theorem dX11_judge_0 : decode cX11_judge 0 = .ok (.iload_n 1, 1) := by decide +kernel
theorem dX11_judge_1 : decode cX11_judge 1 = .ok (.iconst 3, 1) := by decide +kernel
theorem dX11_judge_2 : decode cX11_judge 2 = .ok (.invokestatic 67, 3) := by decide +kernel
theorem dX11_judge_5 : decode cX11_judge 5 = .ok (.ifCond .eq 9, 3) := by decide +kernel
theorem dX11_judge_8 : decode cX11_judge 8 = .ok (.aload_n 0, 1) := by decide +kernel
theorem dX11_judge_9 : decode cX11_judge 9 = .ok (.iconst 0, 1) := by decide +kernel
theorem dX11_judge_10 : decode cX11_judge 10 = .ok (.invokevirtual 71, 3) := by decide +kernel
theorem dX11_judge_13 : decode cX11_judge 13 = .ok (.ireturn, 1) := by decide +kernel
theorem dX11_judge_14 : decode cX11_judge 14 = .ok (.aload_n 0, 1) := by decide +kernel
theorem dX11_judge_15 : decode cX11_judge 15 = .ok (.getfield 54, 3) := by decide +kernel
theorem dX11_judge_18 : decode cX11_judge 18 = .ok (.iload_n 1, 1) := by decide +kernel
theorem dX11_judge_19 : decode cX11_judge 19 = .ok (.aaload, 1) := by decide +kernel
theorem dX11_judge_20 : decode cX11_judge 20 = .ok (.invokevirtual 198, 3) := by decide +kernel
theorem dX11_judge_23 : decode cX11_judge 23 = .ok (.ifCond .eq 9, 3) := by decide +kernel
theorem dX11_judge_26 : decode cX11_judge 26 = .ok (.aload_n 0, 1) := by decide +kernel
theorem dX11_judge_27 : decode cX11_judge 27 = .ok (.iconst 5, 1) := by decide +kernel
theorem dX11_judge_28 : decode cX11_judge 28 = .ok (.invokevirtual 71, 3) := by decide +kernel
theorem dX11_judge_31 : decode cX11_judge 31 = .ok (.ireturn, 1) := by decide +kernel
theorem dX11_judge_32 : decode cX11_judge 32 = .ok (.iconst 0, 1) := by decide +kernel
theorem dX11_judge_33 : decode cX11_judge 33 = .ok (.istore_n 2, 1) := by decide +kernel
theorem dX11_judge_34 : decode cX11_judge 34 = .ok (.iload_n 2, 1) := by decide +kernel
theorem dX11_judge_35 : decode cX11_judge 35 = .ok (.aload_n 0, 1) := by decide +kernel
theorem dX11_judge_36 : decode cX11_judge 36 = .ok (.getfield 54, 3) := by decide +kernel
theorem dX11_judge_39 : decode cX11_judge 39 = .ok (.iload_n 1, 1) := by decide +kernel
theorem dX11_judge_40 : decode cX11_judge 40 = .ok (.aaload, 1) := by decide +kernel
theorem dX11_judge_41 : decode cX11_judge 41 = .ok (.getfield 204, 3) := by decide +kernel
theorem dX11_judge_44 : decode cX11_judge 44 = .ok (.if_icmp .ge 42, 3) := by decide +kernel
theorem dX11_judge_47 : decode cX11_judge 47 = .ok (.iload_n 2, 1) := by decide +kernel
theorem dX11_judge_48 : decode cX11_judge 48 = .ok (.bipush 24, 2) := by decide +kernel
theorem dX11_judge_50 : decode cX11_judge 50 = .ok (.if_icmp .gt 26, 3) := by decide +kernel
theorem dX11_judge_53 : decode cX11_judge 53 = .ok (.aload_n 0, 1) := by decide +kernel
theorem dX11_judge_54 : decode cX11_judge 54 = .ok (.getfield 54, 3) := by decide +kernel
theorem dX11_judge_57 : decode cX11_judge 57 = .ok (.iload_n 1, 1) := by decide +kernel
theorem dX11_judge_58 : decode cX11_judge 58 = .ok (.aaload, 1) := by decide +kernel
theorem dX11_judge_59 : decode cX11_judge 59 = .ok (.getfield 246, 3) := by decide +kernel
theorem dX11_judge_62 : decode cX11_judge 62 = .ok (.iload_n 2, 1) := by decide +kernel
theorem dX11_judge_63 : decode cX11_judge 63 = .ok (.iaload, 1) := by decide +kernel
theorem dX11_judge_64 : decode cX11_judge 64 = .ok (.aload_n 0, 1) := by decide +kernel
theorem dX11_judge_65 : decode cX11_judge 65 = .ok (.getfield 33, 3) := by decide +kernel
theorem dX11_judge_68 : decode cX11_judge 68 = .ok (.getfield 75, 3) := by decide +kernel
theorem dX11_judge_71 : decode cX11_judge 71 = .ok (.iload_n 2, 1) := by decide +kernel
theorem dX11_judge_72 : decode cX11_judge 72 = .ok (.iaload, 1) := by decide +kernel
theorem dX11_judge_73 : decode cX11_judge 73 = .ok (.if_icmp .eq 7, 3) := by decide +kernel
theorem dX11_judge_76 : decode cX11_judge 76 = .ok (.iconst 1, 1) := by decide +kernel
theorem dX11_judge_77 : decode cX11_judge 77 = .ok (.iload_n 2, 1) := by decide +kernel
theorem dX11_judge_78 : decode cX11_judge 78 = .ok (.iadd, 1) := by decide +kernel
theorem dX11_judge_79 : decode cX11_judge 79 = .ok (.ireturn, 1) := by decide +kernel
theorem dX11_judge_80 : decode cX11_judge 80 = .ok (.iinc 2 1, 3) := by decide +kernel
theorem dX11_judge_83 : decode cX11_judge 83 = .ok (.goto (-49), 3) := by decide +kernel
theorem dX11_judge_86 : decode cX11_judge 86 = .ok (.iconst 0, 1) := by decide +kernel
theorem dX11_judge_87 : decode cX11_judge 87 = .ok (.ireturn, 1) := by decide +kernel
theorem dX11_image_0 : decode cX11_image 0 = .ok (.aload_n 0, 1) := by decide +kernel
theorem dX11_image_1 : decode cX11_image 1 = .ok (.getfield 42, 3) := by decide +kernel
theorem dX11_image_4 : decode cX11_image 4 = .ok (.aload_n 0, 1) := by decide +kernel
theorem dX11_image_5 : decode cX11_image 5 = .ok (.getfield 33, 3) := by decide +kernel
theorem dX11_image_8 : decode cX11_image 8 = .ok (.invokevirtual 163, 3) := by decide +kernel
theorem dX11_image_11 : decode cX11_image 11 = .ok (.aload_n 0, 1) := by decide +kernel
theorem dX11_image_12 : decode cX11_image 12 = .ok (.iconst 1, 1) := by decide +kernel
theorem dX11_image_13 : decode cX11_image 13 = .ok (.putfield 63, 3) := by decide +kernel
theorem dX11_image_16 : decode cX11_image 16 = .ok (.iconst 1, 1) := by decide +kernel
theorem dX11_image_17 : decode cX11_image 17 = .ok (.ireturn, 1) := by decide +kernel
theorem dX11_undo_0 : decode cX11_undo 0 = .ok (.aload_n 0, 1) := by decide +kernel
theorem dX11_undo_1 : decode cX11_undo 1 = .ok (.getfield 63, 3) := by decide +kernel
theorem dX11_undo_4 : decode cX11_undo 4 = .ok (.ifCond .ne 9, 3) := by decide +kernel
theorem dX11_undo_7 : decode cX11_undo 7 = .ok (.aload_n 0, 1) := by decide +kernel
theorem dX11_undo_8 : decode cX11_undo 8 = .ok (.iconst 3, 1) := by decide +kernel
theorem dX11_undo_9 : decode cX11_undo 9 = .ok (.invokevirtual 71, 3) := by decide +kernel
theorem dX11_undo_12 : decode cX11_undo 12 = .ok (.ireturn, 1) := by decide +kernel
theorem dX11_undo_13 : decode cX11_undo 13 = .ok (.aload_n 0, 1) := by decide +kernel
theorem dX11_undo_14 : decode cX11_undo 14 = .ok (.getfield 33, 3) := by decide +kernel
theorem dX11_undo_17 : decode cX11_undo 17 = .ok (.aload_n 0, 1) := by decide +kernel
theorem dX11_undo_18 : decode cX11_undo 18 = .ok (.getfield 42, 3) := by decide +kernel
theorem dX11_undo_21 : decode cX11_undo 21 = .ok (.invokevirtual 163, 3) := by decide +kernel
theorem dX11_undo_24 : decode cX11_undo 24 = .ok (.aload_n 0, 1) := by decide +kernel
theorem dX11_undo_25 : decode cX11_undo 25 = .ok (.getfield 33, 3) := by decide +kernel
theorem dX11_undo_28 : decode cX11_undo 28 = .ok (.getfield 111, 3) := by decide +kernel
theorem dX11_undo_31 : decode cX11_undo 31 = .ok (.ireturn, 1) := by decide +kernel
theorem dX11_tear_0 : decode cX11_tear 0 = .ok (.aload_n 0, 1) := by decide +kernel
theorem dX11_tear_1 : decode cX11_tear 1 = .ok (.getfield 63, 3) := by decide +kernel
theorem dX11_tear_4 : decode cX11_tear 4 = .ok (.ifCond .eq 7, 3) := by decide +kernel
theorem dX11_tear_7 : decode cX11_tear 7 = .ok (.iconst 1, 1) := by decide +kernel
theorem dX11_tear_8 : decode cX11_tear 8 = .ok (.goto 4, 3) := by decide +kernel
theorem dX11_tear_11 : decode cX11_tear 11 = .ok (.iconst 0, 1) := by decide +kernel
theorem dX11_tear_12 : decode cX11_tear 12 = .ok (.istore_n 1, 1) := by decide +kernel
theorem dX11_tear_13 : decode cX11_tear 13 = .ok (.aload_n 0, 1) := by decide +kernel
theorem dX11_tear_14 : decode cX11_tear 14 = .ok (.iconst 0, 1) := by decide +kernel
theorem dX11_tear_15 : decode cX11_tear 15 = .ok (.putfield 63, 3) := by decide +kernel
theorem dX11_tear_18 : decode cX11_tear 18 = .ok (.iload_n 1, 1) := by decide +kernel
theorem dX11_tear_19 : decode cX11_tear 19 = .ok (.ireturn, 1) := by decide +kernel
theorem dX11_count_0 : decode cX11_count 0 = .ok (.iload_n 1, 1) := by decide +kernel
theorem dX11_count_1 : decode cX11_count 1 = .ok (.tableswitch 111 0 7 #[47, 55, 63, 71, 79, 87, 95, 103], 47) := by decide +kernel
theorem dX11_count_48 : decode cX11_count 48 = .ok (.aload_n 0, 1) := by decide +kernel
theorem dX11_count_49 : decode cX11_count 49 = .ok (.getfield 33, 3) := by decide +kernel
theorem dX11_count_52 : decode cX11_count 52 = .ok (.getfield 111, 3) := by decide +kernel
theorem dX11_count_55 : decode cX11_count 55 = .ok (.ireturn, 1) := by decide +kernel
theorem dX11_count_56 : decode cX11_count 56 = .ok (.aload_n 0, 1) := by decide +kernel
theorem dX11_count_57 : decode cX11_count 57 = .ok (.getfield 33, 3) := by decide +kernel
theorem dX11_count_60 : decode cX11_count 60 = .ok (.getfield 180, 3) := by decide +kernel
theorem dX11_count_63 : decode cX11_count 63 = .ok (.ireturn, 1) := by decide +kernel
theorem dX11_count_64 : decode cX11_count 64 = .ok (.aload_n 0, 1) := by decide +kernel
theorem dX11_count_65 : decode cX11_count 65 = .ok (.getfield 33, 3) := by decide +kernel
theorem dX11_count_68 : decode cX11_count 68 = .ok (.invokevirtual 148, 3) := by decide +kernel
theorem dX11_count_71 : decode cX11_count 71 = .ok (.ireturn, 1) := by decide +kernel
theorem dX11_count_72 : decode cX11_count 72 = .ok (.aload_n 0, 1) := by decide +kernel
theorem dX11_count_73 : decode cX11_count 73 = .ok (.getfield 33, 3) := by decide +kernel
theorem dX11_count_76 : decode cX11_count 76 = .ok (.getfield 151, 3) := by decide +kernel
theorem dX11_count_79 : decode cX11_count 79 = .ok (.ireturn, 1) := by decide +kernel
theorem dX11_count_80 : decode cX11_count 80 = .ok (.aload_n 0, 1) := by decide +kernel
theorem dX11_count_81 : decode cX11_count 81 = .ok (.getfield 33, 3) := by decide +kernel
theorem dX11_count_84 : decode cX11_count 84 = .ok (.invokevirtual 145, 3) := by decide +kernel
theorem dX11_count_87 : decode cX11_count 87 = .ok (.ireturn, 1) := by decide +kernel
theorem dX11_count_88 : decode cX11_count 88 = .ok (.aload_n 0, 1) := by decide +kernel
theorem dX11_count_89 : decode cX11_count 89 = .ok (.getfield 48, 3) := by decide +kernel
theorem dX11_count_92 : decode cX11_count 92 = .ok (.getfield 223, 3) := by decide +kernel
theorem dX11_count_95 : decode cX11_count 95 = .ok (.ireturn, 1) := by decide +kernel
theorem dX11_count_96 : decode cX11_count 96 = .ok (.aload_n 0, 1) := by decide +kernel
theorem dX11_count_97 : decode cX11_count 97 = .ok (.getfield 33, 3) := by decide +kernel
theorem dX11_count_100 : decode cX11_count 100 = .ok (.getfield 220, 3) := by decide +kernel
theorem dX11_count_103 : decode cX11_count 103 = .ok (.ireturn, 1) := by decide +kernel
theorem dX11_count_104 : decode cX11_count 104 = .ok (.aload_n 0, 1) := by decide +kernel
theorem dX11_count_105 : decode cX11_count 105 = .ok (.getfield 33, 3) := by decide +kernel
theorem dX11_count_108 : decode cX11_count 108 = .ok (.invokevirtual 255, 3) := by decide +kernel
theorem dX11_count_111 : decode cX11_count 111 = .ok (.ireturn, 1) := by decide +kernel
theorem dX11_count_112 : decode cX11_count 112 = .ok (.aload_n 0, 1) := by decide +kernel
theorem dX11_count_113 : decode cX11_count 113 = .ok (.iconst 0, 1) := by decide +kernel
theorem dX11_count_114 : decode cX11_count 114 = .ok (.invokevirtual 71, 3) := by decide +kernel
theorem dX11_count_117 : decode cX11_count 117 = .ok (.ireturn, 1) := by decide +kernel
theorem dX11_status_0 : decode cX11_status 0 = .ok (.iload_n 1, 1) := by decide +kernel
theorem dX11_status_1 : decode cX11_status 1 = .ok (.iconst (-1), 1) := by decide +kernel
theorem dX11_status_2 : decode cX11_status 2 = .ok (.if_icmp .ne 30, 3) := by decide +kernel
theorem dX11_status_5 : decode cX11_status 5 = .ok (.iconst 0, 1) := by decide +kernel
theorem dX11_status_6 : decode cX11_status 6 = .ok (.istore_n 2, 1) := by decide +kernel
theorem dX11_status_7 : decode cX11_status 7 = .ok (.iconst 0, 1) := by decide +kernel
theorem dX11_status_8 : decode cX11_status 8 = .ok (.istore_n 3, 1) := by decide +kernel
theorem dX11_status_9 : decode cX11_status 9 = .ok (.iload_n 3, 1) := by decide +kernel
theorem dX11_status_10 : decode cX11_status 10 = .ok (.bipush 7, 2) := by decide +kernel
theorem dX11_status_12 : decode cX11_status 12 = .ok (.if_icmp .ge 18, 3) := by decide +kernel
theorem dX11_status_15 : decode cX11_status 15 = .ok (.iload_n 2, 1) := by decide +kernel
theorem dX11_status_16 : decode cX11_status 16 = .ok (.aload_n 0, 1) := by decide +kernel
theorem dX11_status_17 : decode cX11_status 17 = .ok (.getfield 59, 3) := by decide +kernel
theorem dX11_status_20 : decode cX11_status 20 = .ok (.iload_n 3, 1) := by decide +kernel
theorem dX11_status_21 : decode cX11_status 21 = .ok (.iaload, 1) := by decide +kernel
theorem dX11_status_22 : decode cX11_status 22 = .ok (.iadd, 1) := by decide +kernel
theorem dX11_status_23 : decode cX11_status 23 = .ok (.istore_n 2, 1) := by decide +kernel
theorem dX11_status_24 : decode cX11_status 24 = .ok (.iinc 3 1, 3) := by decide +kernel
theorem dX11_status_27 : decode cX11_status 27 = .ok (.goto (-18), 3) := by decide +kernel
theorem dX11_status_30 : decode cX11_status 30 = .ok (.iload_n 2, 1) := by decide +kernel
theorem dX11_status_31 : decode cX11_status 31 = .ok (.ireturn, 1) := by decide +kernel
theorem dX11_status_32 : decode cX11_status 32 = .ok (.iload_n 1, 1) := by decide +kernel
theorem dX11_status_33 : decode cX11_status 33 = .ok (.bipush 6, 2) := by decide +kernel
theorem dX11_status_35 : decode cX11_status 35 = .ok (.invokestatic 67, 3) := by decide +kernel
theorem dX11_status_38 : decode cX11_status 38 = .ok (.ifCond .eq 9, 3) := by decide +kernel
theorem dX11_status_41 : decode cX11_status 41 = .ok (.aload_n 0, 1) := by decide +kernel
theorem dX11_status_42 : decode cX11_status 42 = .ok (.iconst 0, 1) := by decide +kernel
theorem dX11_status_43 : decode cX11_status 43 = .ok (.invokevirtual 71, 3) := by decide +kernel
theorem dX11_status_46 : decode cX11_status 46 = .ok (.ireturn, 1) := by decide +kernel
theorem dX11_status_47 : decode cX11_status 47 = .ok (.aload_n 0, 1) := by decide +kernel
theorem dX11_status_48 : decode cX11_status 48 = .ok (.getfield 59, 3) := by decide +kernel
theorem dX11_status_51 : decode cX11_status 51 = .ok (.iload_n 1, 1) := by decide +kernel
theorem dX11_status_52 : decode cX11_status 52 = .ok (.iaload, 1) := by decide +kernel
theorem dX11_status_53 : decode cX11_status 53 = .ok (.ireturn, 1) := by decide +kernel
theorem dX11_finding_0 : decode cX11_finding 0 = .ok (.aload_n 0, 1) := by decide +kernel
theorem dX11_finding_1 : decode cX11_finding 1 = .ok (.getfield 59, 3) := by decide +kernel
theorem dX11_finding_4 : decode cX11_finding 4 = .ok (.iload_n 1, 1) := by decide +kernel
theorem dX11_finding_5 : decode cX11_finding 5 = .ok (.dup2, 1) := by decide +kernel
theorem dX11_finding_6 : decode cX11_finding 6 = .ok (.iaload, 1) := by decide +kernel
theorem dX11_finding_7 : decode cX11_finding 7 = .ok (.iconst 1, 1) := by decide +kernel
theorem dX11_finding_8 : decode cX11_finding 8 = .ok (.iadd, 1) := by decide +kernel
theorem dX11_finding_9 : decode cX11_finding 9 = .ok (.iastore, 1) := by decide +kernel
theorem dX11_finding_10 : decode cX11_finding 10 = .ok (.ldc_w 258, 3) := by decide +kernel
theorem dX11_finding_13 : decode cX11_finding 13 = .ok (.iload_n 1, 1) := by decide +kernel
theorem dX11_finding_14 : decode cX11_finding 14 = .ok (.isub, 1) := by decide +kernel
theorem dX11_finding_15 : decode cX11_finding 15 = .ok (.ireturn, 1) := by decide +kernel
theorem dX11_outside_0 : decode cX11_outside 0 = .ok (.iload_n 0, 1) := by decide +kernel
theorem dX11_outside_1 : decode cX11_outside 1 = .ok (.ifCond .lt 8, 3) := by decide +kernel
theorem dX11_outside_4 : decode cX11_outside 4 = .ok (.iload_n 0, 1) := by decide +kernel
theorem dX11_outside_5 : decode cX11_outside 5 = .ok (.iload_n 1, 1) := by decide +kernel
theorem dX11_outside_6 : decode cX11_outside 6 = .ok (.if_icmp .le 7, 3) := by decide +kernel
theorem dX11_outside_9 : decode cX11_outside 9 = .ok (.iconst 1, 1) := by decide +kernel
theorem dX11_outside_10 : decode cX11_outside 10 = .ok (.goto 4, 3) := by decide +kernel
theorem dX11_outside_13 : decode cX11_outside 13 = .ok (.iconst 0, 1) := by decide +kernel
theorem dX11_outside_14 : decode cX11_outside 14 = .ok (.ireturn, 1) := by decide +kernel
theorem dX11_noFire_0 : decode cX11_noFire 0 = .ok (.iload_n 1, 1) := by decide +kernel
theorem dX11_noFire_1 : decode cX11_noFire 1 = .ok (.aload_n 0, 1) := by decide +kernel
theorem dX11_noFire_2 : decode cX11_noFire 2 = .ok (.getfield 33, 3) := by decide +kernel
theorem dX11_noFire_5 : decode cX11_noFire 5 = .ok (.getfield 180, 3) := by decide +kernel
theorem dX11_noFire_8 : decode cX11_noFire 8 = .ok (.iconst 1, 1) := by decide +kernel
theorem dX11_noFire_9 : decode cX11_noFire 9 = .ok (.isub, 1) := by decide +kernel
theorem dX11_noFire_10 : decode cX11_noFire 10 = .ok (.invokestatic 67, 3) := by decide +kernel
theorem dX11_noFire_13 : decode cX11_noFire 13 = .ok (.ireturn, 1) := by decide +kernel
theorem dX11_mostOf_0 : decode cX11_mostOf 0 = .ok (.iload_n 0, 1) := by decide +kernel
theorem dX11_mostOf_1 : decode cX11_mostOf 1 = .ok (.tableswitch 58 0 6 #[43, 58, 58, 46, 58, 50, 54], 43) := by decide +kernel
theorem dX11_mostOf_44 : decode cX11_mostOf 44 = .ok (.bipush 6, 2) := by decide +kernel
theorem dX11_mostOf_46 : decode cX11_mostOf 46 = .ok (.ireturn, 1) := by decide +kernel
theorem dX11_mostOf_47 : decode cX11_mostOf 47 = .ok (.sipush 999, 3) := by decide +kernel
theorem dX11_mostOf_50 : decode cX11_mostOf 50 = .ok (.ireturn, 1) := by decide +kernel
theorem dX11_mostOf_51 : decode cX11_mostOf 51 = .ok (.sipush 999, 3) := by decide +kernel
theorem dX11_mostOf_54 : decode cX11_mostOf 54 = .ok (.ireturn, 1) := by decide +kernel
theorem dX11_mostOf_55 : decode cX11_mostOf 55 = .ok (.sipush 9999, 3) := by decide +kernel
theorem dX11_mostOf_58 : decode cX11_mostOf 58 = .ok (.ireturn, 1) := by decide +kernel
theorem dX11_mostOf_59 : decode cX11_mostOf 59 = .ok (.bipush 24, 2) := by decide +kernel
theorem dX11_mostOf_61 : decode cX11_mostOf 61 = .ok (.ireturn, 1) := by decide +kernel
theorem dX11_tryWith_0 : decode cX11_tryWith 0 = .ok (.aload_n 0, 1) := by decide +kernel
theorem dX11_tryWith_1 : decode cX11_tryWith 1 = .ok (.getfield 39, 3) := by decide +kernel
theorem dX11_tryWith_4 : decode cX11_tryWith 4 = .ok (.aload_n 0, 1) := by decide +kernel
theorem dX11_tryWith_5 : decode cX11_tryWith 5 = .ok (.getfield 33, 3) := by decide +kernel
theorem dX11_tryWith_8 : decode cX11_tryWith 8 = .ok (.invokevirtual 163, 3) := by decide +kernel
theorem dX11_tryWith_11 : decode cX11_tryWith 11 = .ok (.aload_n 0, 1) := by decide +kernel
theorem dX11_tryWith_12 : decode cX11_tryWith 12 = .ok (.getfield 39, 3) := by decide +kernel
theorem dX11_tryWith_15 : decode cX11_tryWith 15 = .ok (.getfield 103, 3) := by decide +kernel
theorem dX11_tryWith_18 : decode cX11_tryWith 18 = .ok (.iload_n 1, 1) := by decide +kernel
theorem dX11_tryWith_19 : decode cX11_tryWith 19 = .ok (.aaload, 1) := by decide +kernel
theorem dX11_tryWith_20 : decode cX11_tryWith 20 = .ok (.iload_n 2, 1) := by decide +kernel
theorem dX11_tryWith_21 : decode cX11_tryWith 21 = .ok (.iload_n 3, 1) := by decide +kernel
theorem dX11_tryWith_22 : decode cX11_tryWith 22 = .ok (.invokevirtual 136, 3) := by decide +kernel
theorem dX11_tryWith_25 : decode cX11_tryWith 25 = .ok (.return_, 1) := by decide +kernel
end
section
theorem dX12_init_0 : decode cX12_init 0 = .ok (.aload_n 0, 1) := by decide +kernel
theorem dX12_init_1 : decode cX12_init 1 = .ok (.invokespecial 1, 3) := by decide +kernel
theorem dX12_init_4 : decode cX12_init 4 = .ok (.aload_n 0, 1) := by decide +kernel
theorem dX12_init_5 : decode cX12_init 5 = .ok (.bipush 96, 2) := by decide +kernel
theorem dX12_init_7 : decode cX12_init 7 = .ok (.newarray .int, 2) := by decide +kernel
theorem dX12_init_9 : decode cX12_init 9 = .ok (.putfield 7, 3) := by decide +kernel
theorem dX12_init_12 : decode cX12_init 12 = .ok (.aload_n 0, 1) := by decide +kernel
theorem dX12_init_13 : decode cX12_init 13 = .ok (.bipush 96, 2) := by decide +kernel
theorem dX12_init_15 : decode cX12_init 15 = .ok (.newarray .int, 2) := by decide +kernel
theorem dX12_init_17 : decode cX12_init 17 = .ok (.putfield 13, 3) := by decide +kernel
theorem dX12_init_20 : decode cX12_init 20 = .ok (.aload_n 0, 1) := by decide +kernel
theorem dX12_init_21 : decode cX12_init 21 = .ok (.bipush 96, 2) := by decide +kernel
theorem dX12_init_23 : decode cX12_init 23 = .ok (.newarray .int, 2) := by decide +kernel
theorem dX12_init_25 : decode cX12_init 25 = .ok (.putfield 16, 3) := by decide +kernel
theorem dX12_init_28 : decode cX12_init 28 = .ok (.aload_n 0, 1) := by decide +kernel
theorem dX12_init_29 : decode cX12_init 29 = .ok (.bipush 96, 2) := by decide +kernel
theorem dX12_init_31 : decode cX12_init 31 = .ok (.newarray .int, 2) := by decide +kernel
theorem dX12_init_33 : decode cX12_init 33 = .ok (.putfield 19, 3) := by decide +kernel
theorem dX12_init_36 : decode cX12_init 36 = .ok (.aload_n 0, 1) := by decide +kernel
theorem dX12_init_37 : decode cX12_init 37 = .ok (.bipush 8, 2) := by decide +kernel
theorem dX12_init_39 : decode cX12_init 39 = .ok (.newarray .int, 2) := by decide +kernel
theorem dX12_init_41 : decode cX12_init 41 = .ok (.putfield 22, 3) := by decide +kernel
theorem dX12_init_44 : decode cX12_init 44 = .ok (.aload_n 0, 1) := by decide +kernel
theorem dX12_init_45 : decode cX12_init 45 = .ok (.bipush 120, 2) := by decide +kernel
theorem dX12_init_47 : decode cX12_init 47 = .ok (.newarray .int, 2) := by decide +kernel
theorem dX12_init_49 : decode cX12_init 49 = .ok (.putfield 25, 3) := by decide +kernel
theorem dX12_init_52 : decode cX12_init 52 = .ok (.aload_n 0, 1) := by decide +kernel
theorem dX12_init_53 : decode cX12_init 53 = .ok (.iconst 4, 1) := by decide +kernel
theorem dX12_init_54 : decode cX12_init 54 = .ok (.newarray .int, 2) := by decide +kernel
theorem dX12_init_56 : decode cX12_init 56 = .ok (.dup, 1) := by decide +kernel
theorem dX12_init_57 : decode cX12_init 57 = .ok (.iconst 0, 1) := by decide +kernel
theorem dX12_init_58 : decode cX12_init 58 = .ok (.iconst (-1), 1) := by decide +kernel
theorem dX12_init_59 : decode cX12_init 59 = .ok (.iastore, 1) := by decide +kernel
theorem dX12_init_60 : decode cX12_init 60 = .ok (.dup, 1) := by decide +kernel
theorem dX12_init_61 : decode cX12_init 61 = .ok (.iconst 1, 1) := by decide +kernel
theorem dX12_init_62 : decode cX12_init 62 = .ok (.iconst (-1), 1) := by decide +kernel
theorem dX12_init_63 : decode cX12_init 63 = .ok (.iastore, 1) := by decide +kernel
theorem dX12_init_64 : decode cX12_init 64 = .ok (.dup, 1) := by decide +kernel
theorem dX12_init_65 : decode cX12_init 65 = .ok (.iconst 2, 1) := by decide +kernel
theorem dX12_init_66 : decode cX12_init 66 = .ok (.iconst (-1), 1) := by decide +kernel
theorem dX12_init_67 : decode cX12_init 67 = .ok (.iastore, 1) := by decide +kernel
theorem dX12_init_68 : decode cX12_init 68 = .ok (.dup, 1) := by decide +kernel
theorem dX12_init_69 : decode cX12_init 69 = .ok (.iconst 3, 1) := by decide +kernel
theorem dX12_init_70 : decode cX12_init 70 = .ok (.iconst (-1), 1) := by decide +kernel
theorem dX12_init_71 : decode cX12_init 71 = .ok (.iastore, 1) := by decide +kernel
theorem dX12_init_72 : decode cX12_init 72 = .ok (.putfield 28, 3) := by decide +kernel
theorem dX12_init_75 : decode cX12_init 75 = .ok (.aload_n 0, 1) := by decide +kernel
theorem dX12_init_76 : decode cX12_init 76 = .ok (.iconst 4, 1) := by decide +kernel
theorem dX12_init_77 : decode cX12_init 77 = .ok (.newarray .int, 2) := by decide +kernel
theorem dX12_init_79 : decode cX12_init 79 = .ok (.putfield 31, 3) := by decide +kernel
theorem dX12_init_82 : decode cX12_init 82 = .ok (.aload_n 0, 1) := by decide +kernel
theorem dX12_init_83 : decode cX12_init 83 = .ok (.sipush 160, 3) := by decide +kernel
theorem dX12_init_86 : decode cX12_init 86 = .ok (.newarray .int, 2) := by decide +kernel
theorem dX12_init_88 : decode cX12_init 88 = .ok (.putfield 34, 3) := by decide +kernel
theorem dX12_init_91 : decode cX12_init 91 = .ok (.aload_n 0, 1) := by decide +kernel
theorem dX12_init_92 : decode cX12_init 92 = .ok (.bipush 8, 2) := by decide +kernel
theorem dX12_init_94 : decode cX12_init 94 = .ok (.newarray .int, 2) := by decide +kernel
theorem dX12_init_96 : decode cX12_init 96 = .ok (.putfield 37, 3) := by decide +kernel
theorem dX12_init_99 : decode cX12_init 99 = .ok (.aload_n 0, 1) := by decide +kernel
theorem dX12_init_100 : decode cX12_init 100 = .ok (.getfield 7, 3) := by decide +kernel
theorem dX12_init_103 : decode cX12_init 103 = .ok (.iconst 2, 1) := by decide +kernel
theorem dX12_init_104 : decode cX12_init 104 = .ok (.iconst 1, 1) := by decide +kernel
theorem dX12_init_105 : decode cX12_init 105 = .ok (.iastore, 1) := by decide +kernel
theorem dX12_init_106 : decode cX12_init 106 = .ok (.iconst 0, 1) := by decide +kernel
theorem dX12_init_107 : decode cX12_init 107 = .ok (.istore_n 1, 1) := by decide +kernel
theorem dX12_init_108 : decode cX12_init 108 = .ok (.iload_n 1, 1) := by decide +kernel
theorem dX12_init_109 : decode cX12_init 109 = .ok (.bipush 10, 2) := by decide +kernel
theorem dX12_init_111 : decode cX12_init 111 = .ok (.if_icmp .ge 19, 3) := by decide +kernel
theorem dX12_init_114 : decode cX12_init 114 = .ok (.aload_n 0, 1) := by decide +kernel
theorem dX12_init_115 : decode cX12_init 115 = .ok (.getfield 7, 3) := by decide +kernel
theorem dX12_init_118 : decode cX12_init 118 = .ok (.bipush 86, 2) := by decide +kernel
theorem dX12_init_120 : decode cX12_init 120 = .ok (.iload_n 1, 1) := by decide +kernel
theorem dX12_init_121 : decode cX12_init 121 = .ok (.iadd, 1) := by decide +kernel
theorem dX12_init_122 : decode cX12_init 122 = .ok (.iconst (-1), 1) := by decide +kernel
theorem dX12_init_123 : decode cX12_init 123 = .ok (.iastore, 1) := by decide +kernel
theorem dX12_init_124 : decode cX12_init 124 = .ok (.iinc 1 1, 3) := by decide +kernel
theorem dX12_init_127 : decode cX12_init 127 = .ok (.goto (-19), 3) := by decide +kernel
theorem dX12_init_130 : decode cX12_init 130 = .ok (.return_, 1) := by decide +kernel
theorem dX12_isIn_0 : decode cX12_isIn 0 = .ok (.lload_n 0, 1) := by decide +kernel
theorem dX12_isIn_1 : decode cX12_isIn 1 = .ok (.lload_n 2, 1) := by decide +kernel
theorem dX12_isIn_2 : decode cX12_isIn 2 = .ok (.lcmp, 1) := by decide +kernel
theorem dX12_isIn_3 : decode cX12_isIn 3 = .ok (.ifCond .lt 14, 3) := by decide +kernel
theorem dX12_isIn_6 : decode cX12_isIn 6 = .ok (.lload_n 0, 1) := by decide +kernel
theorem dX12_isIn_7 : decode cX12_isIn 7 = .ok (.lload 4, 2) := by decide +kernel
theorem dX12_isIn_9 : decode cX12_isIn 9 = .ok (.lcmp, 1) := by decide +kernel
theorem dX12_isIn_10 : decode cX12_isIn 10 = .ok (.ifCond .gt 7, 3) := by decide +kernel
theorem dX12_isIn_13 : decode cX12_isIn 13 = .ok (.iconst 1, 1) := by decide +kernel
theorem dX12_isIn_14 : decode cX12_isIn 14 = .ok (.goto 4, 3) := by decide +kernel
theorem dX12_isIn_17 : decode cX12_isIn 17 = .ok (.iconst 0, 1) := by decide +kernel
theorem dX12_isIn_18 : decode cX12_isIn 18 = .ok (.ireturn, 1) := by decide +kernel
theorem dX12_finds_0 : decode cX12_finds 0 = .ok (.aload_n 0, 1) := by decide +kernel
theorem dX12_finds_1 : decode cX12_finds 1 = .ok (.getfield 22, 3) := by decide +kernel
theorem dX12_finds_4 : decode cX12_finds 4 = .ok (.iconst 0, 1) := by decide +kernel
theorem dX12_finds_5 : decode cX12_finds 5 = .ok (.dup2, 1) := by decide +kernel
theorem dX12_finds_6 : decode cX12_finds 6 = .ok (.iaload, 1) := by decide +kernel
theorem dX12_finds_7 : decode cX12_finds 7 = .ok (.iconst 1, 1) := by decide +kernel
theorem dX12_finds_8 : decode cX12_finds 8 = .ok (.iadd, 1) := by decide +kernel
theorem dX12_finds_9 : decode cX12_finds 9 = .ok (.iastore, 1) := by decide +kernel
theorem dX12_finds_10 : decode cX12_finds 10 = .ok (.aload_n 0, 1) := by decide +kernel
theorem dX12_finds_11 : decode cX12_finds 11 = .ok (.getfield 22, 3) := by decide +kernel
theorem dX12_finds_14 : decode cX12_finds 14 = .ok (.ldc 40, 2) := by decide +kernel
theorem dX12_finds_16 : decode cX12_finds 16 = .ok (.iload_n 1, 1) := by decide +kernel
theorem dX12_finds_17 : decode cX12_finds 17 = .ok (.isub, 1) := by decide +kernel
theorem dX12_finds_18 : decode cX12_finds 18 = .ok (.iconst 1, 1) := by decide +kernel
theorem dX12_finds_19 : decode cX12_finds 19 = .ok (.iadd, 1) := by decide +kernel
theorem dX12_finds_20 : decode cX12_finds 20 = .ok (.dup2, 1) := by decide +kernel
theorem dX12_finds_21 : decode cX12_finds 21 = .ok (.iaload, 1) := by decide +kernel
theorem dX12_finds_22 : decode cX12_finds 22 = .ok (.iconst 1, 1) := by decide +kernel
theorem dX12_finds_23 : decode cX12_finds 23 = .ok (.iadd, 1) := by decide +kernel
theorem dX12_finds_24 : decode cX12_finds 24 = .ok (.iastore, 1) := by decide +kernel
theorem dX12_finds_25 : decode cX12_finds 25 = .ok (.iload_n 1, 1) := by decide +kernel
theorem dX12_finds_26 : decode cX12_finds 26 = .ok (.ireturn, 1) := by decide +kernel
theorem dX12_becomes_0 : decode cX12_becomes 0 = .ok (.aload_n 0, 1) := by decide +kernel
theorem dX12_becomes_1 : decode cX12_becomes 1 = .ok (.getfield 7, 3) := by decide +kernel
theorem dX12_becomes_4 : decode cX12_becomes 4 = .ok (.iload_n 1, 1) := by decide +kernel
theorem dX12_becomes_5 : decode cX12_becomes 5 = .ok (.iaload, 1) := by decide +kernel
theorem dX12_becomes_6 : decode cX12_becomes 6 = .ok (.istore_n 3, 1) := by decide +kernel
theorem dX12_becomes_7 : decode cX12_becomes 7 = .ok (.aload_n 0, 1) := by decide +kernel
theorem dX12_becomes_8 : decode cX12_becomes 8 = .ok (.getfield 7, 3) := by decide +kernel
theorem dX12_becomes_11 : decode cX12_becomes 11 = .ok (.iload_n 1, 1) := by decide +kernel
theorem dX12_becomes_12 : decode cX12_becomes 12 = .ok (.iload_n 2, 1) := by decide +kernel
theorem dX12_becomes_13 : decode cX12_becomes 13 = .ok (.iastore, 1) := by decide +kernel
theorem dX12_becomes_14 : decode cX12_becomes 14 = .ok (.iload_n 3, 1) := by decide +kernel
theorem dX12_becomes_15 : decode cX12_becomes 15 = .ok (.ireturn, 1) := by decide +kernel
theorem dX12_copyRow_0 : decode cX12_copyRow 0 = .ok (.iconst 0, 1) := by decide +kernel
theorem dX12_copyRow_1 : decode cX12_copyRow 1 = .ok (.istore_n 2, 1) := by decide +kernel
theorem dX12_copyRow_2 : decode cX12_copyRow 2 = .ok (.iload_n 2, 1) := by decide +kernel
theorem dX12_copyRow_3 : decode cX12_copyRow 3 = .ok (.bipush 96, 2) := by decide +kernel
theorem dX12_copyRow_5 : decode cX12_copyRow 5 = .ok (.if_icmp .ge 15, 3) := by decide +kernel
theorem dX12_copyRow_8 : decode cX12_copyRow 8 = .ok (.aload_n 1, 1) := by decide +kernel
theorem dX12_copyRow_9 : decode cX12_copyRow 9 = .ok (.iload_n 2, 1) := by decide +kernel
theorem dX12_copyRow_10 : decode cX12_copyRow 10 = .ok (.aload_n 0, 1) := by decide +kernel
theorem dX12_copyRow_11 : decode cX12_copyRow 11 = .ok (.iload_n 2, 1) := by decide +kernel
theorem dX12_copyRow_12 : decode cX12_copyRow 12 = .ok (.iaload, 1) := by decide +kernel
theorem dX12_copyRow_13 : decode cX12_copyRow 13 = .ok (.iastore, 1) := by decide +kernel
theorem dX12_copyRow_14 : decode cX12_copyRow 14 = .ok (.iinc 2 1, 3) := by decide +kernel
theorem dX12_copyRow_17 : decode cX12_copyRow 17 = .ok (.goto (-15), 3) := by decide +kernel
theorem dX12_copyRow_20 : decode cX12_copyRow 20 = .ok (.return_, 1) := by decide +kernel
theorem dX12_isCell_0 : decode cX12_isCell 0 = .ok (.iload_n 0, 1) := by decide +kernel
theorem dX12_isCell_1 : decode cX12_isCell 1 = .ok (.ifCond .lt 13, 3) := by decide +kernel
theorem dX12_isCell_4 : decode cX12_isCell 4 = .ok (.iload_n 0, 1) := by decide +kernel
theorem dX12_isCell_5 : decode cX12_isCell 5 = .ok (.bipush 25, 2) := by decide +kernel
theorem dX12_isCell_7 : decode cX12_isCell 7 = .ok (.if_icmp .ge 7, 3) := by decide +kernel
theorem dX12_isCell_10 : decode cX12_isCell 10 = .ok (.iconst 1, 1) := by decide +kernel
theorem dX12_isCell_11 : decode cX12_isCell 11 = .ok (.goto 4, 3) := by decide +kernel
theorem dX12_isCell_14 : decode cX12_isCell 14 = .ok (.iconst 0, 1) := by decide +kernel
theorem dX12_isCell_15 : decode cX12_isCell 15 = .ok (.ireturn, 1) := by decide +kernel
theorem dX12_isFire_0 : decode cX12_isFire 0 = .ok (.iload_n 1, 1) := by decide +kernel
theorem dX12_isFire_1 : decode cX12_isFire 1 = .ok (.ifCond .lt 17, 3) := by decide +kernel
theorem dX12_isFire_4 : decode cX12_isFire 4 = .ok (.iload_n 1, 1) := by decide +kernel
theorem dX12_isFire_5 : decode cX12_isFire 5 = .ok (.aload_n 0, 1) := by decide +kernel
theorem dX12_isFire_6 : decode cX12_isFire 6 = .ok (.getfield 7, 3) := by decide +kernel
theorem dX12_isFire_9 : decode cX12_isFire 9 = .ok (.iconst 0, 1) := by decide +kernel
theorem dX12_isFire_10 : decode cX12_isFire 10 = .ok (.iaload, 1) := by decide +kernel
theorem dX12_isFire_11 : decode cX12_isFire 11 = .ok (.if_icmp .ge 7, 3) := by decide +kernel
theorem dX12_isFire_14 : decode cX12_isFire 14 = .ok (.iconst 1, 1) := by decide +kernel
theorem dX12_isFire_15 : decode cX12_isFire 15 = .ok (.goto 4, 3) := by decide +kernel
theorem dX12_isFire_18 : decode cX12_isFire 18 = .ok (.iconst 0, 1) := by decide +kernel
theorem dX12_isFire_19 : decode cX12_isFire 19 = .ok (.ireturn, 1) := by decide +kernel
theorem dX12_at_0 : decode cX12_at 0 = .ok (.bipush 30, 2) := by decide +kernel
theorem dX12_at_2 : decode cX12_at 2 = .ok (.bipush 7, 2) := by decide +kernel
theorem dX12_at_4 : decode cX12_at 4 = .ok (.iload_n 0, 1) := by decide +kernel
theorem dX12_at_5 : decode cX12_at 5 = .ok (.imul, 1) := by decide +kernel
theorem dX12_at_6 : decode cX12_at 6 = .ok (.iadd, 1) := by decide +kernel
theorem dX12_at_7 : decode cX12_at 7 = .ok (.iload_n 1, 1) := by decide +kernel
theorem dX12_at_8 : decode cX12_at 8 = .ok (.iadd, 1) := by decide +kernel
theorem dX12_at_9 : decode cX12_at 9 = .ok (.ireturn, 1) := by decide +kernel
theorem dX12_its_0 : decode cX12_its 0 = .ok (.aload_n 0, 1) := by decide +kernel
theorem dX12_its_1 : decode cX12_its 1 = .ok (.getfield 7, 3) := by decide +kernel
theorem dX12_its_4 : decode cX12_its 4 = .ok (.bipush 30, 2) := by decide +kernel
theorem dX12_its_6 : decode cX12_its 6 = .ok (.bipush 7, 2) := by decide +kernel
theorem dX12_its_8 : decode cX12_its 8 = .ok (.iload_n 1, 1) := by decide +kernel
theorem dX12_its_9 : decode cX12_its 9 = .ok (.imul, 1) := by decide +kernel
theorem dX12_its_10 : decode cX12_its 10 = .ok (.iadd, 1) := by decide +kernel
theorem dX12_its_11 : decode cX12_its 11 = .ok (.iload_n 2, 1) := by decide +kernel
theorem dX12_its_12 : decode cX12_its 12 = .ok (.iadd, 1) := by decide +kernel
theorem dX12_its_13 : decode cX12_its 13 = .ok (.iaload, 1) := by decide +kernel
theorem dX12_its_14 : decode cX12_its 14 = .ok (.ireturn, 1) := by decide +kernel
theorem dX12_least_0 : decode cX12_least 0 = .ok (.iload_n 0, 1) := by decide +kernel
theorem dX12_least_1 : decode cX12_least 1 = .ok (.iload_n 1, 1) := by decide +kernel
theorem dX12_least_2 : decode cX12_least 2 = .ok (.if_icmp .ge 7, 3) := by decide +kernel
theorem dX12_least_5 : decode cX12_least 5 = .ok (.iload_n 0, 1) := by decide +kernel
theorem dX12_least_6 : decode cX12_least 6 = .ok (.goto 4, 3) := by decide +kernel
theorem dX12_least_9 : decode cX12_least 9 = .ok (.iload_n 1, 1) := by decide +kernel
theorem dX12_least_10 : decode cX12_least 10 = .ok (.ireturn, 1) := by decide +kernel
theorem dX12_greatest_0 : decode cX12_greatest 0 = .ok (.iload_n 0, 1) := by decide +kernel
theorem dX12_greatest_1 : decode cX12_greatest 1 = .ok (.iload_n 1, 1) := by decide +kernel
theorem dX12_greatest_2 : decode cX12_greatest 2 = .ok (.if_icmp .le 7, 3) := by decide +kernel
theorem dX12_greatest_5 : decode cX12_greatest 5 = .ok (.iload_n 0, 1) := by decide +kernel
theorem dX12_greatest_6 : decode cX12_greatest 6 = .ok (.goto 4, 3) := by decide +kernel
theorem dX12_greatest_9 : decode cX12_greatest 9 = .ok (.iload_n 1, 1) := by decide +kernel
theorem dX12_greatest_10 : decode cX12_greatest 10 = .ok (.ireturn, 1) := by decide +kernel
theorem dX12_orNone_0 : decode cX12_orNone 0 = .ok (.iload_n 1, 1) := by decide +kernel
theorem dX12_orNone_1 : decode cX12_orNone 1 = .ok (.ifCond .ge 12, 3) := by decide +kernel
theorem dX12_orNone_4 : decode cX12_orNone 4 = .ok (.aload_n 0, 1) := by decide +kernel
theorem dX12_orNone_5 : decode cX12_orNone 5 = .ok (.ldc 41, 2) := by decide +kernel
theorem dX12_orNone_7 : decode cX12_orNone 7 = .ok (.invokevirtual 42, 3) := by decide +kernel
theorem dX12_orNone_10 : decode cX12_orNone 10 = .ok (.goto 4, 3) := by decide +kernel
theorem dX12_orNone_13 : decode cX12_orNone 13 = .ok (.iload_n 1, 1) := by decide +kernel
theorem dX12_orNone_14 : decode cX12_orNone 14 = .ok (.ireturn, 1) := by decide +kernel
theorem dX12_many_0 : decode cX12_many 0 = .ok (.iconst 0, 1) := by decide +kernel
theorem dX12_many_1 : decode cX12_many 1 = .ok (.istore_n 1, 1) := by decide +kernel
theorem dX12_many_2 : decode cX12_many 2 = .ok (.iload_n 0, 1) := by decide +kernel
theorem dX12_many_3 : decode cX12_many 3 = .ok (.istore_n 2, 1) := by decide +kernel
theorem dX12_many_4 : decode cX12_many 4 = .ok (.iload_n 2, 1) := by decide +kernel
theorem dX12_many_5 : decode cX12_many 5 = .ok (.ifCond .eq 15, 3) := by decide +kernel
theorem dX12_many_8 : decode cX12_many 8 = .ok (.iinc 1 1, 3) := by decide +kernel
theorem dX12_many_11 : decode cX12_many 11 = .ok (.iload_n 2, 1) := by decide +kernel
theorem dX12_many_12 : decode cX12_many 12 = .ok (.iload_n 2, 1) := by decide +kernel
theorem dX12_many_13 : decode cX12_many 13 = .ok (.iconst 1, 1) := by decide +kernel
theorem dX12_many_14 : decode cX12_many 14 = .ok (.isub, 1) := by decide +kernel
theorem dX12_many_15 : decode cX12_many 15 = .ok (.iand, 1) := by decide +kernel
theorem dX12_many_16 : decode cX12_many 16 = .ok (.istore_n 2, 1) := by decide +kernel
theorem dX12_many_17 : decode cX12_many 17 = .ok (.goto (-13), 3) := by decide +kernel
theorem dX12_many_20 : decode cX12_many 20 = .ok (.iload_n 1, 1) := by decide +kernel
theorem dX12_many_21 : decode cX12_many 21 = .ok (.ireturn, 1) := by decide +kernel
theorem dX12_far_0 : decode cX12_far 0 = .ok (.iload_n 0, 1) := by decide +kernel
theorem dX12_far_1 : decode cX12_far 1 = .ok (.iconst 5, 1) := by decide +kernel
theorem dX12_far_2 : decode cX12_far 2 = .ok (.idiv, 1) := by decide +kernel
theorem dX12_far_3 : decode cX12_far 3 = .ok (.iload_n 1, 1) := by decide +kernel
theorem dX12_far_4 : decode cX12_far 4 = .ok (.iconst 5, 1) := by decide +kernel
theorem dX12_far_5 : decode cX12_far 5 = .ok (.idiv, 1) := by decide +kernel
theorem dX12_far_6 : decode cX12_far 6 = .ok (.isub, 1) := by decide +kernel
theorem dX12_far_7 : decode cX12_far 7 = .ok (.istore_n 2, 1) := by decide +kernel
theorem dX12_far_8 : decode cX12_far 8 = .ok (.iload_n 0, 1) := by decide +kernel
theorem dX12_far_9 : decode cX12_far 9 = .ok (.iconst 5, 1) := by decide +kernel
theorem dX12_far_10 : decode cX12_far 10 = .ok (.irem, 1) := by decide +kernel
theorem dX12_far_11 : decode cX12_far 11 = .ok (.iload_n 1, 1) := by decide +kernel
theorem dX12_far_12 : decode cX12_far 12 = .ok (.iconst 5, 1) := by decide +kernel
theorem dX12_far_13 : decode cX12_far 13 = .ok (.irem, 1) := by decide +kernel
theorem dX12_far_14 : decode cX12_far 14 = .ok (.isub, 1) := by decide +kernel
theorem dX12_far_15 : decode cX12_far 15 = .ok (.istore_n 3, 1) := by decide +kernel
theorem dX12_far_16 : decode cX12_far 16 = .ok (.iload_n 2, 1) := by decide +kernel
theorem dX12_far_17 : decode cX12_far 17 = .ok (.ifCond .ge 8, 3) := by decide +kernel
theorem dX12_far_20 : decode cX12_far 20 = .ok (.iload_n 2, 1) := by decide +kernel
theorem dX12_far_21 : decode cX12_far 21 = .ok (.ineg, 1) := by decide +kernel
theorem dX12_far_22 : decode cX12_far 22 = .ok (.goto 4, 3) := by decide +kernel
theorem dX12_far_25 : decode cX12_far 25 = .ok (.iload_n 2, 1) := by decide +kernel
theorem dX12_far_26 : decode cX12_far 26 = .ok (.iload_n 3, 1) := by decide +kernel
theorem dX12_far_27 : decode cX12_far 27 = .ok (.ifCond .ge 8, 3) := by decide +kernel
theorem dX12_far_30 : decode cX12_far 30 = .ok (.iload_n 3, 1) := by decide +kernel
theorem dX12_far_31 : decode cX12_far 31 = .ok (.ineg, 1) := by decide +kernel
theorem dX12_far_32 : decode cX12_far 32 = .ok (.goto 4, 3) := by decide +kernel
theorem dX12_far_35 : decode cX12_far 35 = .ok (.iload_n 3, 1) := by decide +kernel
theorem dX12_far_36 : decode cX12_far 36 = .ok (.iadd, 1) := by decide +kernel
theorem dX12_far_37 : decode cX12_far 37 = .ok (.ireturn, 1) := by decide +kernel
theorem dX12_wood_0 : decode cX12_wood 0 = .ok (.iload_n 1, 1) := by decide +kernel
theorem dX12_wood_1 : decode cX12_wood 1 = .ok (.invokestatic 46, 3) := by decide +kernel
theorem dX12_wood_4 : decode cX12_wood 4 = .ok (.ifCond .eq 26, 3) := by decide +kernel
theorem dX12_wood_7 : decode cX12_wood 7 = .ok (.iload_n 2, 1) := by decide +kernel
theorem dX12_wood_8 : decode cX12_wood 8 = .ok (.i2l, 1) := by decide +kernel
theorem dX12_wood_9 : decode cX12_wood 9 = .ok (.lconst 0, 1) := by decide +kernel
theorem dX12_wood_10 : decode cX12_wood 10 = .ok (.ldc2_w 50, 3) := by decide +kernel
theorem dX12_wood_13 : decode cX12_wood 13 = .ok (.invokestatic 52, 3) := by decide +kernel
theorem dX12_wood_16 : decode cX12_wood 16 = .ok (.ifCond .eq 14, 3) := by decide +kernel
theorem dX12_wood_19 : decode cX12_wood 19 = .ok (.aload_n 0, 1) := by decide +kernel
theorem dX12_wood_20 : decode cX12_wood 20 = .ok (.iconst 5, 1) := by decide +kernel
theorem dX12_wood_21 : decode cX12_wood 21 = .ok (.iload_n 1, 1) := by decide +kernel
theorem dX12_wood_22 : decode cX12_wood 22 = .ok (.iadd, 1) := by decide +kernel
theorem dX12_wood_23 : decode cX12_wood 23 = .ok (.iload_n 2, 1) := by decide +kernel
theorem dX12_wood_24 : decode cX12_wood 24 = .ok (.invokevirtual 56, 3) := by decide +kernel
theorem dX12_wood_27 : decode cX12_wood 27 = .ok (.goto 9, 3) := by decide +kernel
theorem dX12_wood_30 : decode cX12_wood 30 = .ok (.aload_n 0, 1) := by decide +kernel
theorem dX12_wood_31 : decode cX12_wood 31 = .ok (.ldc 40, 2) := by decide +kernel
theorem dX12_wood_33 : decode cX12_wood 33 = .ok (.invokevirtual 42, 3) := by decide +kernel
theorem dX12_wood_36 : decode cX12_wood 36 = .ok (.ireturn, 1) := by decide +kernel
theorem dX12_cell_0 : decode cX12_cell 0 = .ok (.iload_n 1, 1) := by decide +kernel
theorem dX12_cell_1 : decode cX12_cell 1 = .ok (.invokestatic 46, 3) := by decide +kernel
theorem dX12_cell_4 : decode cX12_cell 4 = .ok (.ifCond .eq 15, 3) := by decide +kernel
theorem dX12_cell_7 : decode cX12_cell 7 = .ok (.iload_n 2, 1) := by decide +kernel
theorem dX12_cell_8 : decode cX12_cell 8 = .ok (.i2l, 1) := by decide +kernel
theorem dX12_cell_9 : decode cX12_cell 9 = .ok (.lconst 0, 1) := by decide +kernel
theorem dX12_cell_10 : decode cX12_cell 10 = .ok (.ldc2_w 60, 3) := by decide +kernel
theorem dX12_cell_13 : decode cX12_cell 13 = .ok (.invokestatic 52, 3) := by decide +kernel
theorem dX12_cell_16 : decode cX12_cell 16 = .ok (.ifCond .ne 10, 3) := by decide +kernel
theorem dX12_cell_19 : decode cX12_cell 19 = .ok (.aload_n 0, 1) := by decide +kernel
theorem dX12_cell_20 : decode cX12_cell 20 = .ok (.ldc 40, 2) := by decide +kernel
theorem dX12_cell_22 : decode cX12_cell 22 = .ok (.invokevirtual 42, 3) := by decide +kernel
theorem dX12_cell_25 : decode cX12_cell 25 = .ok (.ireturn, 1) := by decide +kernel
theorem dX12_cell_26 : decode cX12_cell 26 = .ok (.iload_n 2, 1) := by decide +kernel
theorem dX12_cell_27 : decode cX12_cell 27 = .ok (.ifCond .ne 12, 3) := by decide +kernel
theorem dX12_cell_30 : decode cX12_cell 30 = .ok (.aload_n 0, 1) := by decide +kernel
theorem dX12_cell_31 : decode cX12_cell 31 = .ok (.getfield 7, 3) := by decide +kernel
theorem dX12_cell_34 : decode cX12_cell 34 = .ok (.iconst 5, 1) := by decide +kernel
theorem dX12_cell_35 : decode cX12_cell 35 = .ok (.iload_n 1, 1) := by decide +kernel
theorem dX12_cell_36 : decode cX12_cell 36 = .ok (.iadd, 1) := by decide +kernel
theorem dX12_cell_37 : decode cX12_cell 37 = .ok (.iaload, 1) := by decide +kernel
theorem dX12_cell_38 : decode cX12_cell 38 = .ok (.ireturn, 1) := by decide +kernel
theorem dX12_cell_39 : decode cX12_cell 39 = .ok (.iconst 0, 1) := by decide +kernel
theorem dX12_cell_40 : decode cX12_cell 40 = .ok (.istore_n 3, 1) := by decide +kernel
theorem dX12_cell_41 : decode cX12_cell 41 = .ok (.iconst 0, 1) := by decide +kernel
theorem dX12_cell_42 : decode cX12_cell 42 = .ok (.istore 4, 2) := by decide +kernel
theorem dX12_cell_44 : decode cX12_cell 44 = .ok (.iload 4, 2) := by decide +kernel
theorem dX12_cell_46 : decode cX12_cell 46 = .ok (.aload_n 0, 1) := by decide +kernel
theorem dX12_cell_47 : decode cX12_cell 47 = .ok (.getfield 7, 3) := by decide +kernel
theorem dX12_cell_50 : decode cX12_cell 50 = .ok (.iconst 0, 1) := by decide +kernel
theorem dX12_cell_51 : decode cX12_cell 51 = .ok (.iaload, 1) := by decide +kernel
theorem dX12_cell_52 : decode cX12_cell 52 = .ok (.if_icmp .ge 101, 3) := by decide +kernel
theorem dX12_cell_55 : decode cX12_cell 55 = .ok (.iload_n 2, 1) := by decide +kernel
theorem dX12_cell_56 : decode cX12_cell 56 = .ok (.iconst 1, 1) := by decide +kernel
theorem dX12_cell_57 : decode cX12_cell 57 = .ok (.if_icmp .ne 22, 3) := by decide +kernel
theorem dX12_cell_60 : decode cX12_cell 60 = .ok (.aload_n 0, 1) := by decide +kernel
theorem dX12_cell_61 : decode cX12_cell 61 = .ok (.iload 4, 2) := by decide +kernel
theorem dX12_cell_63 : decode cX12_cell 63 = .ok (.iconst 1, 1) := by decide +kernel
theorem dX12_cell_64 : decode cX12_cell 64 = .ok (.invokevirtual 62, 3) := by decide +kernel
theorem dX12_cell_67 : decode cX12_cell 67 = .ok (.iload_n 1, 1) := by decide +kernel
theorem dX12_cell_68 : decode cX12_cell 68 = .ok (.if_icmp .ne 7, 3) := by decide +kernel
theorem dX12_cell_71 : decode cX12_cell 71 = .ok (.iconst 1, 1) := by decide +kernel
theorem dX12_cell_72 : decode cX12_cell 72 = .ok (.goto 57, 3) := by decide +kernel
theorem dX12_cell_75 : decode cX12_cell 75 = .ok (.iconst 0, 1) := by decide +kernel
theorem dX12_cell_76 : decode cX12_cell 76 = .ok (.goto 53, 3) := by decide +kernel
theorem dX12_cell_79 : decode cX12_cell 79 = .ok (.iload_n 2, 1) := by decide +kernel
theorem dX12_cell_80 : decode cX12_cell 80 = .ok (.iconst 2, 1) := by decide +kernel
theorem dX12_cell_81 : decode cX12_cell 81 = .ok (.if_icmp .ne 32, 3) := by decide +kernel
theorem dX12_cell_84 : decode cX12_cell 84 = .ok (.aload_n 0, 1) := by decide +kernel
theorem dX12_cell_85 : decode cX12_cell 85 = .ok (.iload 4, 2) := by decide +kernel
theorem dX12_cell_87 : decode cX12_cell 87 = .ok (.iconst 4, 1) := by decide +kernel
theorem dX12_cell_88 : decode cX12_cell 88 = .ok (.invokevirtual 62, 3) := by decide +kernel
theorem dX12_cell_91 : decode cX12_cell 91 = .ok (.iload_n 1, 1) := by decide +kernel
theorem dX12_cell_92 : decode cX12_cell 92 = .ok (.if_icmp .ne 17, 3) := by decide +kernel
theorem dX12_cell_95 : decode cX12_cell 95 = .ok (.aload_n 0, 1) := by decide +kernel
theorem dX12_cell_96 : decode cX12_cell 96 = .ok (.iload 4, 2) := by decide +kernel
theorem dX12_cell_98 : decode cX12_cell 98 = .ok (.iconst 5, 1) := by decide +kernel
theorem dX12_cell_99 : decode cX12_cell 99 = .ok (.invokevirtual 62, 3) := by decide +kernel
theorem dX12_cell_102 : decode cX12_cell 102 = .ok (.ifCond .le 7, 3) := by decide +kernel
theorem dX12_cell_105 : decode cX12_cell 105 = .ok (.iconst 1, 1) := by decide +kernel
theorem dX12_cell_106 : decode cX12_cell 106 = .ok (.goto 23, 3) := by decide +kernel
theorem dX12_cell_109 : decode cX12_cell 109 = .ok (.iconst 0, 1) := by decide +kernel
theorem dX12_cell_110 : decode cX12_cell 110 = .ok (.goto 19, 3) := by decide +kernel
theorem dX12_cell_113 : decode cX12_cell 113 = .ok (.aload_n 0, 1) := by decide +kernel
theorem dX12_cell_114 : decode cX12_cell 114 = .ok (.iload 4, 2) := by decide +kernel
theorem dX12_cell_116 : decode cX12_cell 116 = .ok (.iconst 2, 1) := by decide +kernel
theorem dX12_cell_117 : decode cX12_cell 117 = .ok (.invokevirtual 62, 3) := by decide +kernel
theorem dX12_cell_120 : decode cX12_cell 120 = .ok (.iload_n 1, 1) := by decide +kernel
theorem dX12_cell_121 : decode cX12_cell 121 = .ok (.if_icmp .ne 7, 3) := by decide +kernel
theorem dX12_cell_124 : decode cX12_cell 124 = .ok (.iconst 1, 1) := by decide +kernel
theorem dX12_cell_125 : decode cX12_cell 125 = .ok (.goto 4, 3) := by decide +kernel
theorem dX12_cell_128 : decode cX12_cell 128 = .ok (.iconst 0, 1) := by decide +kernel
theorem dX12_cell_129 : decode cX12_cell 129 = .ok (.istore 5, 2) := by decide +kernel
theorem dX12_cell_131 : decode cX12_cell 131 = .ok (.iload_n 3, 1) := by decide +kernel
theorem dX12_cell_132 : decode cX12_cell 132 = .ok (.iload 5, 2) := by decide +kernel
theorem dX12_cell_134 : decode cX12_cell 134 = .ok (.ifCond .eq 10, 3) := by decide +kernel
theorem dX12_cell_137 : decode cX12_cell 137 = .ok (.iconst 1, 1) := by decide +kernel
theorem dX12_cell_138 : decode cX12_cell 138 = .ok (.iload 4, 2) := by decide +kernel
theorem dX12_cell_140 : decode cX12_cell 140 = .ok (.ishl, 1) := by decide +kernel
theorem dX12_cell_141 : decode cX12_cell 141 = .ok (.goto 4, 3) := by decide +kernel
theorem dX12_cell_144 : decode cX12_cell 144 = .ok (.iconst 0, 1) := by decide +kernel
theorem dX12_cell_145 : decode cX12_cell 145 = .ok (.ior, 1) := by decide +kernel
theorem dX12_cell_146 : decode cX12_cell 146 = .ok (.istore_n 3, 1) := by decide +kernel
theorem dX12_cell_147 : decode cX12_cell 147 = .ok (.iinc 4 1, 3) := by decide +kernel
theorem dX12_cell_150 : decode cX12_cell 150 = .ok (.goto (-106), 3) := by decide +kernel
theorem dX12_cell_153 : decode cX12_cell 153 = .ok (.iload_n 3, 1) := by decide +kernel
theorem dX12_cell_154 : decode cX12_cell 154 = .ok (.ireturn, 1) := by decide +kernel
theorem dX12_wind_0 : decode cX12_wind 0 = .ok (.iload_n 1, 1) := by decide +kernel
theorem dX12_wind_1 : decode cX12_wind 1 = .ok (.i2l, 1) := by decide +kernel
theorem dX12_wind_2 : decode cX12_wind 2 = .ok (.lconst 0, 1) := by decide +kernel
theorem dX12_wind_3 : decode cX12_wind 3 = .ok (.ldc2_w 65, 3) := by decide +kernel
theorem dX12_wind_6 : decode cX12_wind 6 = .ok (.invokestatic 52, 3) := by decide +kernel
theorem dX12_wind_9 : decode cX12_wind 9 = .ok (.ifCond .eq 12, 3) := by decide +kernel
theorem dX12_wind_12 : decode cX12_wind 12 = .ok (.aload_n 0, 1) := by decide +kernel
theorem dX12_wind_13 : decode cX12_wind 13 = .ok (.iconst 3, 1) := by decide +kernel
theorem dX12_wind_14 : decode cX12_wind 14 = .ok (.iload_n 1, 1) := by decide +kernel
theorem dX12_wind_15 : decode cX12_wind 15 = .ok (.invokevirtual 56, 3) := by decide +kernel
theorem dX12_wind_18 : decode cX12_wind 18 = .ok (.goto 9, 3) := by decide +kernel
theorem dX12_wind_21 : decode cX12_wind 21 = .ok (.aload_n 0, 1) := by decide +kernel
theorem dX12_wind_22 : decode cX12_wind 22 = .ok (.ldc 40, 2) := by decide +kernel
theorem dX12_wind_24 : decode cX12_wind 24 = .ok (.invokevirtual 42, 3) := by decide +kernel
theorem dX12_wind_27 : decode cX12_wind 27 = .ok (.ireturn, 1) := by decide +kernel
theorem dX12_comes_0 : decode cX12_comes 0 = .ok (.aload_n 0, 1) := by decide +kernel
theorem dX12_comes_1 : decode cX12_comes 1 = .ok (.getfield 7, 3) := by decide +kernel
theorem dX12_comes_4 : decode cX12_comes 4 = .ok (.iconst 0, 1) := by decide +kernel
theorem dX12_comes_5 : decode cX12_comes 5 = .ok (.iaload, 1) := by decide +kernel
theorem dX12_comes_6 : decode cX12_comes 6 = .ok (.istore 4, 2) := by decide +kernel
theorem dX12_comes_8 : decode cX12_comes 8 = .ok (.aload_n 0, 1) := by decide +kernel
theorem dX12_comes_9 : decode cX12_comes 9 = .ok (.getfield 7, 3) := by decide +kernel
theorem dX12_comes_12 : decode cX12_comes 12 = .ok (.iload 4, 2) := by decide +kernel
theorem dX12_comes_14 : decode cX12_comes 14 = .ok (.iconst 0, 1) := by decide +kernel
theorem dX12_comes_15 : decode cX12_comes 15 = .ok (.invokestatic 67, 3) := by decide +kernel
theorem dX12_comes_18 : decode cX12_comes 18 = .ok (.iload_n 1, 1) := by decide +kernel
theorem dX12_comes_19 : decode cX12_comes 19 = .ok (.iastore, 1) := by decide +kernel
theorem dX12_comes_20 : decode cX12_comes 20 = .ok (.aload_n 0, 1) := by decide +kernel
theorem dX12_comes_21 : decode cX12_comes 21 = .ok (.getfield 7, 3) := by decide +kernel
theorem dX12_comes_24 : decode cX12_comes 24 = .ok (.iload 4, 2) := by decide +kernel
theorem dX12_comes_26 : decode cX12_comes 26 = .ok (.iconst 1, 1) := by decide +kernel
theorem dX12_comes_27 : decode cX12_comes 27 = .ok (.invokestatic 67, 3) := by decide +kernel
theorem dX12_comes_30 : decode cX12_comes 30 = .ok (.iload_n 2, 1) := by decide +kernel
theorem dX12_comes_31 : decode cX12_comes 31 = .ok (.iastore, 1) := by decide +kernel
theorem dX12_comes_32 : decode cX12_comes 32 = .ok (.aload_n 0, 1) := by decide +kernel
theorem dX12_comes_33 : decode cX12_comes 33 = .ok (.getfield 7, 3) := by decide +kernel
theorem dX12_comes_36 : decode cX12_comes 36 = .ok (.iload 4, 2) := by decide +kernel
theorem dX12_comes_38 : decode cX12_comes 38 = .ok (.iconst 2, 1) := by decide +kernel
theorem dX12_comes_39 : decode cX12_comes 39 = .ok (.invokestatic 67, 3) := by decide +kernel
theorem dX12_comes_42 : decode cX12_comes 42 = .ok (.iload_n 3, 1) := by decide +kernel
theorem dX12_comes_43 : decode cX12_comes 43 = .ok (.iastore, 1) := by decide +kernel
theorem dX12_comes_44 : decode cX12_comes 44 = .ok (.aload_n 0, 1) := by decide +kernel
theorem dX12_comes_45 : decode cX12_comes 45 = .ok (.getfield 7, 3) := by decide +kernel
theorem dX12_comes_48 : decode cX12_comes 48 = .ok (.iload 4, 2) := by decide +kernel
theorem dX12_comes_50 : decode cX12_comes 50 = .ok (.iconst 3, 1) := by decide +kernel
theorem dX12_comes_51 : decode cX12_comes 51 = .ok (.invokestatic 67, 3) := by decide +kernel
theorem dX12_comes_54 : decode cX12_comes 54 = .ok (.bipush 50, 2) := by decide +kernel
theorem dX12_comes_56 : decode cX12_comes 56 = .ok (.iastore, 1) := by decide +kernel
theorem dX12_comes_57 : decode cX12_comes 57 = .ok (.aload_n 0, 1) := by decide +kernel
theorem dX12_comes_58 : decode cX12_comes 58 = .ok (.getfield 7, 3) := by decide +kernel
theorem dX12_comes_61 : decode cX12_comes 61 = .ok (.iload 4, 2) := by decide +kernel
theorem dX12_comes_63 : decode cX12_comes 63 = .ok (.iconst 4, 1) := by decide +kernel
theorem dX12_comes_64 : decode cX12_comes 64 = .ok (.invokestatic 67, 3) := by decide +kernel
theorem dX12_comes_67 : decode cX12_comes 67 = .ok (.iload_n 2, 1) := by decide +kernel
theorem dX12_comes_68 : decode cX12_comes 68 = .ok (.iastore, 1) := by decide +kernel
theorem dX12_comes_69 : decode cX12_comes 69 = .ok (.aload_n 0, 1) := by decide +kernel
theorem dX12_comes_70 : decode cX12_comes 70 = .ok (.getfield 7, 3) := by decide +kernel
theorem dX12_comes_73 : decode cX12_comes 73 = .ok (.iload 4, 2) := by decide +kernel
theorem dX12_comes_75 : decode cX12_comes 75 = .ok (.iconst 5, 1) := by decide +kernel
theorem dX12_comes_76 : decode cX12_comes 76 = .ok (.invokestatic 67, 3) := by decide +kernel
theorem dX12_comes_79 : decode cX12_comes 79 = .ok (.iconst 0, 1) := by decide +kernel
theorem dX12_comes_80 : decode cX12_comes 80 = .ok (.iastore, 1) := by decide +kernel
theorem dX12_comes_81 : decode cX12_comes 81 = .ok (.aload_n 0, 1) := by decide +kernel
theorem dX12_comes_82 : decode cX12_comes 82 = .ok (.getfield 7, 3) := by decide +kernel
theorem dX12_comes_85 : decode cX12_comes 85 = .ok (.iload 4, 2) := by decide +kernel
theorem dX12_comes_87 : decode cX12_comes 87 = .ok (.bipush 6, 2) := by decide +kernel
theorem dX12_comes_89 : decode cX12_comes 89 = .ok (.invokestatic 67, 3) := by decide +kernel
theorem dX12_comes_92 : decode cX12_comes 92 = .ok (.iconst 0, 1) := by decide +kernel
theorem dX12_comes_93 : decode cX12_comes 93 = .ok (.iastore, 1) := by decide +kernel
theorem dX12_comes_94 : decode cX12_comes 94 = .ok (.aload_n 0, 1) := by decide +kernel
theorem dX12_comes_95 : decode cX12_comes 95 = .ok (.getfield 7, 3) := by decide +kernel
theorem dX12_comes_98 : decode cX12_comes 98 = .ok (.iconst 0, 1) := by decide +kernel
theorem dX12_comes_99 : decode cX12_comes 99 = .ok (.dup2, 1) := by decide +kernel
theorem dX12_comes_100 : decode cX12_comes 100 = .ok (.iaload, 1) := by decide +kernel
theorem dX12_comes_101 : decode cX12_comes 101 = .ok (.iconst 1, 1) := by decide +kernel
theorem dX12_comes_102 : decode cX12_comes 102 = .ok (.iadd, 1) := by decide +kernel
theorem dX12_comes_103 : decode cX12_comes 103 = .ok (.iastore, 1) := by decide +kernel
theorem dX12_comes_104 : decode cX12_comes 104 = .ok (.return_, 1) := by decide +kernel
theorem dX12_fire_0 : decode cX12_fire 0 = .ok (.iload_n 1, 1) := by decide +kernel
theorem dX12_fire_1 : decode cX12_fire 1 = .ok (.i2l, 1) := by decide +kernel
theorem dX12_fire_2 : decode cX12_fire 2 = .ok (.lconst 0, 1) := by decide +kernel
theorem dX12_fire_3 : decode cX12_fire 3 = .ok (.ldc2_w 70, 3) := by decide +kernel
theorem dX12_fire_6 : decode cX12_fire 6 = .ok (.invokestatic 52, 3) := by decide +kernel
theorem dX12_fire_9 : decode cX12_fire 9 = .ok (.ifCond .eq 17, 3) := by decide +kernel
theorem dX12_fire_12 : decode cX12_fire 12 = .ok (.iload_n 2, 1) := by decide +kernel
theorem dX12_fire_13 : decode cX12_fire 13 = .ok (.invokestatic 46, 3) := by decide +kernel
theorem dX12_fire_16 : decode cX12_fire 16 = .ok (.ifCond .eq 10, 3) := by decide +kernel
theorem dX12_fire_19 : decode cX12_fire 19 = .ok (.iload_n 3, 1) := by decide +kernel
theorem dX12_fire_20 : decode cX12_fire 20 = .ok (.invokestatic 46, 3) := by decide +kernel
theorem dX12_fire_23 : decode cX12_fire 23 = .ok (.ifCond .ne 10, 3) := by decide +kernel
theorem dX12_fire_26 : decode cX12_fire 26 = .ok (.aload_n 0, 1) := by decide +kernel
theorem dX12_fire_27 : decode cX12_fire 27 = .ok (.ldc 40, 2) := by decide +kernel
theorem dX12_fire_29 : decode cX12_fire 29 = .ok (.invokevirtual 42, 3) := by decide +kernel
theorem dX12_fire_32 : decode cX12_fire 32 = .ok (.ireturn, 1) := by decide +kernel
theorem dX12_fire_33 : decode cX12_fire 33 = .ok (.aload_n 0, 1) := by decide +kernel
theorem dX12_fire_34 : decode cX12_fire 34 = .ok (.getfield 7, 3) := by decide +kernel
theorem dX12_fire_37 : decode cX12_fire 37 = .ok (.iconst 0, 1) := by decide +kernel
theorem dX12_fire_38 : decode cX12_fire 38 = .ok (.iaload, 1) := by decide +kernel
theorem dX12_fire_39 : decode cX12_fire 39 = .ok (.bipush 8, 2) := by decide +kernel
theorem dX12_fire_41 : decode cX12_fire 41 = .ok (.if_icmp .ne 10, 3) := by decide +kernel
theorem dX12_fire_44 : decode cX12_fire 44 = .ok (.aload_n 0, 1) := by decide +kernel
theorem dX12_fire_45 : decode cX12_fire 45 = .ok (.ldc 72, 2) := by decide +kernel
theorem dX12_fire_47 : decode cX12_fire 47 = .ok (.invokevirtual 42, 3) := by decide +kernel
theorem dX12_fire_50 : decode cX12_fire 50 = .ok (.ireturn, 1) := by decide +kernel
theorem dX12_fire_51 : decode cX12_fire 51 = .ok (.aload_n 0, 1) := by decide +kernel
theorem dX12_fire_52 : decode cX12_fire 52 = .ok (.iload_n 1, 1) := by decide +kernel
theorem dX12_fire_53 : decode cX12_fire 53 = .ok (.iload_n 2, 1) := by decide +kernel
theorem dX12_fire_54 : decode cX12_fire 54 = .ok (.iload_n 3, 1) := by decide +kernel
theorem dX12_fire_55 : decode cX12_fire 55 = .ok (.invokevirtual 73, 3) := by decide +kernel
theorem dX12_fire_58 : decode cX12_fire 58 = .ok (.aload_n 0, 1) := by decide +kernel
theorem dX12_fire_59 : decode cX12_fire 59 = .ok (.getfield 7, 3) := by decide +kernel
theorem dX12_fire_62 : decode cX12_fire 62 = .ok (.iconst 0, 1) := by decide +kernel
theorem dX12_fire_63 : decode cX12_fire 63 = .ok (.iaload, 1) := by decide +kernel
theorem dX12_fire_64 : decode cX12_fire 64 = .ok (.iconst 1, 1) := by decide +kernel
theorem dX12_fire_65 : decode cX12_fire 65 = .ok (.isub, 1) := by decide +kernel
theorem dX12_fire_66 : decode cX12_fire 66 = .ok (.ireturn, 1) := by decide +kernel
theorem dX12_burns_0 : decode cX12_burns 0 = .ok (.aload_n 0, 1) := by decide +kernel
theorem dX12_burns_1 : decode cX12_burns 1 = .ok (.iload_n 1, 1) := by decide +kernel
theorem dX12_burns_2 : decode cX12_burns 2 = .ok (.iconst 0, 1) := by decide +kernel
theorem dX12_burns_3 : decode cX12_burns 3 = .ok (.invokevirtual 62, 3) := by decide +kernel
theorem dX12_burns_6 : decode cX12_burns 6 = .ok (.tableswitch 62 1 6 #[38, 40, 42, 42, 62, 59], 38) := by decide +kernel
theorem dX12_burns_44 : decode cX12_burns 44 = .ok (.iconst 5, 1) := by decide +kernel
theorem dX12_burns_45 : decode cX12_burns 45 = .ok (.ireturn, 1) := by decide +kernel
theorem dX12_burns_46 : decode cX12_burns 46 = .ok (.iconst 1, 1) := by decide +kernel
theorem dX12_burns_47 : decode cX12_burns 47 = .ok (.ireturn, 1) := by decide +kernel
theorem dX12_burns_48 : decode cX12_burns 48 = .ok (.aload_n 0, 1) := by decide +kernel
theorem dX12_burns_49 : decode cX12_burns 49 = .ok (.getfield 7, 3) := by decide +kernel
theorem dX12_burns_52 : decode cX12_burns 52 = .ok (.iconst 1, 1) := by decide +kernel
theorem dX12_burns_53 : decode cX12_burns 53 = .ok (.iaload, 1) := by decide +kernel
theorem dX12_burns_54 : decode cX12_burns 54 = .ok (.iconst 2, 1) := by decide +kernel
theorem dX12_burns_55 : decode cX12_burns 55 = .ok (.irem, 1) := by decide +kernel
theorem dX12_burns_56 : decode cX12_burns 56 = .ok (.ifCond .ne 7, 3) := by decide +kernel
theorem dX12_burns_59 : decode cX12_burns 59 = .ok (.iconst 3, 1) := by decide +kernel
theorem dX12_burns_60 : decode cX12_burns 60 = .ok (.goto 4, 3) := by decide +kernel
theorem dX12_burns_63 : decode cX12_burns 63 = .ok (.iconst 1, 1) := by decide +kernel
theorem dX12_burns_64 : decode cX12_burns 64 = .ok (.ireturn, 1) := by decide +kernel
theorem dX12_burns_65 : decode cX12_burns 65 = .ok (.bipush 10, 2) := by decide +kernel
theorem dX12_burns_67 : decode cX12_burns 67 = .ok (.ireturn, 1) := by decide +kernel
theorem dX12_burns_68 : decode cX12_burns 68 = .ok (.iconst 2, 1) := by decide +kernel
theorem dX12_burns_69 : decode cX12_burns 69 = .ok (.ireturn, 1) := by decide +kernel
theorem dX12_steps_0 : decode cX12_steps 0 = .ok (.aload_n 0, 1) := by decide +kernel
theorem dX12_steps_1 : decode cX12_steps 1 = .ok (.iload_n 1, 1) := by decide +kernel
theorem dX12_steps_2 : decode cX12_steps 2 = .ok (.iconst 0, 1) := by decide +kernel
theorem dX12_steps_3 : decode cX12_steps 3 = .ok (.invokevirtual 62, 3) := by decide +kernel
theorem dX12_steps_6 : decode cX12_steps 6 = .ok (.tableswitch 76 1 6 #[38, 40, 76, 57, 76, 74], 38) := by decide +kernel
theorem dX12_steps_44 : decode cX12_steps 44 = .ok (.iconst 2, 1) := by decide +kernel
theorem dX12_steps_45 : decode cX12_steps 45 = .ok (.ireturn, 1) := by decide +kernel
theorem dX12_steps_46 : decode cX12_steps 46 = .ok (.aload_n 0, 1) := by decide +kernel
theorem dX12_steps_47 : decode cX12_steps 47 = .ok (.getfield 7, 3) := by decide +kernel
theorem dX12_steps_50 : decode cX12_steps 50 = .ok (.iconst 1, 1) := by decide +kernel
theorem dX12_steps_51 : decode cX12_steps 51 = .ok (.iaload, 1) := by decide +kernel
theorem dX12_steps_52 : decode cX12_steps 52 = .ok (.iconst 3, 1) := by decide +kernel
theorem dX12_steps_53 : decode cX12_steps 53 = .ok (.irem, 1) := by decide +kernel
theorem dX12_steps_54 : decode cX12_steps 54 = .ok (.ifCond .ne 7, 3) := by decide +kernel
theorem dX12_steps_57 : decode cX12_steps 57 = .ok (.iconst 1, 1) := by decide +kernel
theorem dX12_steps_58 : decode cX12_steps 58 = .ok (.goto 4, 3) := by decide +kernel
theorem dX12_steps_61 : decode cX12_steps 61 = .ok (.iconst 0, 1) := by decide +kernel
theorem dX12_steps_62 : decode cX12_steps 62 = .ok (.ireturn, 1) := by decide +kernel
theorem dX12_steps_63 : decode cX12_steps 63 = .ok (.aload_n 0, 1) := by decide +kernel
theorem dX12_steps_64 : decode cX12_steps 64 = .ok (.iload_n 1, 1) := by decide +kernel
theorem dX12_steps_65 : decode cX12_steps 65 = .ok (.bipush 6, 2) := by decide +kernel
theorem dX12_steps_67 : decode cX12_steps 67 = .ok (.invokevirtual 62, 3) := by decide +kernel
theorem dX12_steps_70 : decode cX12_steps 70 = .ok (.iconst 5, 1) := by decide +kernel
theorem dX12_steps_71 : decode cX12_steps 71 = .ok (.if_icmp .lt 7, 3) := by decide +kernel
theorem dX12_steps_74 : decode cX12_steps 74 = .ok (.iconst 3, 1) := by decide +kernel
theorem dX12_steps_75 : decode cX12_steps 75 = .ok (.goto 4, 3) := by decide +kernel
theorem dX12_steps_78 : decode cX12_steps 78 = .ok (.iconst 1, 1) := by decide +kernel
theorem dX12_steps_79 : decode cX12_steps 79 = .ok (.ireturn, 1) := by decide +kernel
theorem dX12_steps_80 : decode cX12_steps 80 = .ok (.iconst 3, 1) := by decide +kernel
theorem dX12_steps_81 : decode cX12_steps 81 = .ok (.ireturn, 1) := by decide +kernel
theorem dX12_steps_82 : decode cX12_steps 82 = .ok (.iconst 1, 1) := by decide +kernel
theorem dX12_steps_83 : decode cX12_steps 83 = .ok (.ireturn, 1) := by decide +kernel
theorem dX12_bears_0 : decode cX12_bears 0 = .ok (.aload_n 0, 1) := by decide +kernel
theorem dX12_bears_1 : decode cX12_bears 1 = .ok (.iload_n 1, 1) := by decide +kernel
theorem dX12_bears_2 : decode cX12_bears 2 = .ok (.iconst 0, 1) := by decide +kernel
theorem dX12_bears_3 : decode cX12_bears 3 = .ok (.invokevirtual 62, 3) := by decide +kernel
theorem dX12_bears_6 : decode cX12_bears 6 = .ok (.iconst 4, 1) := by decide +kernel
theorem dX12_bears_7 : decode cX12_bears 7 = .ok (.if_icmp .eq 24, 3) := by decide +kernel
theorem dX12_bears_10 : decode cX12_bears 10 = .ok (.aload_n 0, 1) := by decide +kernel
theorem dX12_bears_11 : decode cX12_bears 11 = .ok (.iload_n 1, 1) := by decide +kernel
theorem dX12_bears_12 : decode cX12_bears 12 = .ok (.iconst 0, 1) := by decide +kernel
theorem dX12_bears_13 : decode cX12_bears 13 = .ok (.invokevirtual 62, 3) := by decide +kernel
theorem dX12_bears_16 : decode cX12_bears 16 = .ok (.iconst 5, 1) := by decide +kernel
theorem dX12_bears_17 : decode cX12_bears 17 = .ok (.if_icmp .ne 18, 3) := by decide +kernel
theorem dX12_bears_20 : decode cX12_bears 20 = .ok (.aload_n 0, 1) := by decide +kernel
theorem dX12_bears_21 : decode cX12_bears 21 = .ok (.iload_n 1, 1) := by decide +kernel
theorem dX12_bears_22 : decode cX12_bears 22 = .ok (.iconst 5, 1) := by decide +kernel
theorem dX12_bears_23 : decode cX12_bears 23 = .ok (.invokevirtual 62, 3) := by decide +kernel
theorem dX12_bears_26 : decode cX12_bears 26 = .ok (.bipush 20, 2) := by decide +kernel
theorem dX12_bears_28 : decode cX12_bears 28 = .ok (.if_icmp .le 7, 3) := by decide +kernel
theorem dX12_bears_31 : decode cX12_bears 31 = .ok (.iconst 1, 1) := by decide +kernel
theorem dX12_bears_32 : decode cX12_bears 32 = .ok (.goto 4, 3) := by decide +kernel
theorem dX12_bears_35 : decode cX12_bears 35 = .ok (.iconst 0, 1) := by decide +kernel
theorem dX12_bears_36 : decode cX12_bears 36 = .ok (.ireturn, 1) := by decide +kernel
theorem dX12_of_0 : decode cX12_of 0 = .ok (.aload_n 0, 1) := by decide +kernel
theorem dX12_of_1 : decode cX12_of 1 = .ok (.iload_n 1, 1) := by decide +kernel
theorem dX12_of_2 : decode cX12_of 2 = .ok (.invokevirtual 77, 3) := by decide +kernel
theorem dX12_of_5 : decode cX12_of 5 = .ok (.ifCond .eq 15, 3) := by decide +kernel
theorem dX12_of_8 : decode cX12_of 8 = .ok (.iload_n 2, 1) := by decide +kernel
theorem dX12_of_9 : decode cX12_of 9 = .ok (.i2l, 1) := by decide +kernel
theorem dX12_of_10 : decode cX12_of 10 = .ok (.lconst 0, 1) := by decide +kernel
theorem dX12_of_11 : decode cX12_of 11 = .ok (.ldc2_w 80, 3) := by decide +kernel
theorem dX12_of_14 : decode cX12_of 14 = .ok (.invokestatic 52, 3) := by decide +kernel
theorem dX12_of_17 : decode cX12_of 17 = .ok (.ifCond .ne 10, 3) := by decide +kernel
theorem dX12_of_20 : decode cX12_of 20 = .ok (.aload_n 0, 1) := by decide +kernel
theorem dX12_of_21 : decode cX12_of 21 = .ok (.ldc 40, 2) := by decide +kernel
theorem dX12_of_23 : decode cX12_of 23 = .ok (.invokevirtual 42, 3) := by decide +kernel
theorem dX12_of_26 : decode cX12_of 26 = .ok (.ireturn, 1) := by decide +kernel
theorem dX12_of_27 : decode cX12_of 27 = .ok (.iload_n 2, 1) := by decide +kernel
theorem dX12_of_28 : decode cX12_of 28 = .ok (.tableswitch 56 7 9 #[28, 34, 40], 28) := by decide +kernel
theorem dX12_of_56 : decode cX12_of 56 = .ok (.aload_n 0, 1) := by decide +kernel
theorem dX12_of_57 : decode cX12_of 57 = .ok (.iload_n 1, 1) := by decide +kernel
theorem dX12_of_58 : decode cX12_of 58 = .ok (.invokevirtual 82, 3) := by decide +kernel
theorem dX12_of_61 : decode cX12_of 61 = .ok (.ireturn, 1) := by decide +kernel
theorem dX12_of_62 : decode cX12_of 62 = .ok (.aload_n 0, 1) := by decide +kernel
theorem dX12_of_63 : decode cX12_of 63 = .ok (.iload_n 1, 1) := by decide +kernel
theorem dX12_of_64 : decode cX12_of 64 = .ok (.invokevirtual 85, 3) := by decide +kernel
theorem dX12_of_67 : decode cX12_of 67 = .ok (.ireturn, 1) := by decide +kernel
theorem dX12_of_68 : decode cX12_of 68 = .ok (.aload_n 0, 1) := by decide +kernel
theorem dX12_of_69 : decode cX12_of 69 = .ok (.iload_n 1, 1) := by decide +kernel
theorem dX12_of_70 : decode cX12_of 70 = .ok (.iconst 4, 1) := by decide +kernel
theorem dX12_of_71 : decode cX12_of 71 = .ok (.invokevirtual 62, 3) := by decide +kernel
theorem dX12_of_74 : decode cX12_of 74 = .ok (.aload_n 0, 1) := by decide +kernel
theorem dX12_of_75 : decode cX12_of 75 = .ok (.iload_n 1, 1) := by decide +kernel
theorem dX12_of_76 : decode cX12_of 76 = .ok (.iconst 2, 1) := by decide +kernel
theorem dX12_of_77 : decode cX12_of 77 = .ok (.invokevirtual 62, 3) := by decide +kernel
theorem dX12_of_80 : decode cX12_of 80 = .ok (.invokestatic 88, 3) := by decide +kernel
theorem dX12_of_83 : decode cX12_of 83 = .ok (.ireturn, 1) := by decide +kernel
theorem dX12_of_84 : decode cX12_of 84 = .ok (.aload_n 0, 1) := by decide +kernel
theorem dX12_of_85 : decode cX12_of 85 = .ok (.iload_n 1, 1) := by decide +kernel
theorem dX12_of_86 : decode cX12_of 86 = .ok (.iload_n 2, 1) := by decide +kernel
theorem dX12_of_87 : decode cX12_of 87 = .ok (.invokevirtual 62, 3) := by decide +kernel
theorem dX12_of_90 : decode cX12_of 90 = .ok (.ireturn, 1) := by decide +kernel
theorem dX12_greatestOf_0 : decode cX12_greatestOf 0 = .ok (.iload_n 0, 1) := by decide +kernel
theorem dX12_greatestOf_1 : decode cX12_greatestOf 1 = .ok (.tableswitch 54 0 6 #[43, 54, 54, 46, 54, 46, 50], 43) := by decide +kernel
theorem dX12_greatestOf_44 : decode cX12_greatestOf 44 = .ok (.bipush 6, 2) := by decide +kernel
theorem dX12_greatestOf_46 : decode cX12_greatestOf 46 = .ok (.ireturn, 1) := by decide +kernel
theorem dX12_greatestOf_47 : decode cX12_greatestOf 47 = .ok (.sipush 999, 3) := by decide +kernel
theorem dX12_greatestOf_50 : decode cX12_greatestOf 50 = .ok (.ireturn, 1) := by decide +kernel
theorem dX12_greatestOf_51 : decode cX12_greatestOf 51 = .ok (.sipush 9999, 3) := by decide +kernel
theorem dX12_greatestOf_54 : decode cX12_greatestOf 54 = .ok (.ireturn, 1) := by decide +kernel
theorem dX12_greatestOf_55 : decode cX12_greatestOf 55 = .ok (.bipush 24, 2) := by decide +kernel
theorem dX12_greatestOf_57 : decode cX12_greatestOf 57 = .ok (.ireturn, 1) := by decide +kernel
theorem dX12_change_0 : decode cX12_change 0 = .ok (.aload_n 0, 1) := by decide +kernel
theorem dX12_change_1 : decode cX12_change 1 = .ok (.iload_n 1, 1) := by decide +kernel
theorem dX12_change_2 : decode cX12_change 2 = .ok (.invokevirtual 77, 3) := by decide +kernel
theorem dX12_change_5 : decode cX12_change 5 = .ok (.ifCond .eq 33, 3) := by decide +kernel
theorem dX12_change_8 : decode cX12_change 8 = .ok (.iload_n 2, 1) := by decide +kernel
theorem dX12_change_9 : decode cX12_change 9 = .ok (.i2l, 1) := by decide +kernel
theorem dX12_change_10 : decode cX12_change 10 = .ok (.lconst 0, 1) := by decide +kernel
theorem dX12_change_11 : decode cX12_change 11 = .ok (.ldc2_w 70, 3) := by decide +kernel
theorem dX12_change_14 : decode cX12_change 14 = .ok (.invokestatic 52, 3) := by decide +kernel
theorem dX12_change_17 : decode cX12_change 17 = .ok (.ifCond .eq 21, 3) := by decide +kernel
theorem dX12_change_20 : decode cX12_change 20 = .ok (.iload_n 3, 1) := by decide +kernel
theorem dX12_change_21 : decode cX12_change 21 = .ok (.i2l, 1) := by decide +kernel
theorem dX12_change_22 : decode cX12_change 22 = .ok (.lconst 0, 1) := by decide +kernel
theorem dX12_change_23 : decode cX12_change 23 = .ok (.iload_n 2, 1) := by decide +kernel
theorem dX12_change_24 : decode cX12_change 24 = .ok (.invokestatic 91, 3) := by decide +kernel
theorem dX12_change_27 : decode cX12_change 27 = .ok (.i2l, 1) := by decide +kernel
theorem dX12_change_28 : decode cX12_change 28 = .ok (.invokestatic 52, 3) := by decide +kernel
theorem dX12_change_31 : decode cX12_change 31 = .ok (.ifCond .eq 7, 3) := by decide +kernel
theorem dX12_change_34 : decode cX12_change 34 = .ok (.iconst 1, 1) := by decide +kernel
theorem dX12_change_35 : decode cX12_change 35 = .ok (.goto 4, 3) := by decide +kernel
theorem dX12_change_38 : decode cX12_change 38 = .ok (.iconst 0, 1) := by decide +kernel
theorem dX12_change_39 : decode cX12_change 39 = .ok (.istore 4, 2) := by decide +kernel
theorem dX12_change_41 : decode cX12_change 41 = .ok (.iload 4, 2) := by decide +kernel
theorem dX12_change_43 : decode cX12_change 43 = .ok (.ifCond .eq 16, 3) := by decide +kernel
theorem dX12_change_46 : decode cX12_change 46 = .ok (.aload_n 0, 1) := by decide +kernel
theorem dX12_change_47 : decode cX12_change 47 = .ok (.iload_n 1, 1) := by decide +kernel
theorem dX12_change_48 : decode cX12_change 48 = .ok (.iload_n 2, 1) := by decide +kernel
theorem dX12_change_49 : decode cX12_change 49 = .ok (.invokestatic 67, 3) := by decide +kernel
theorem dX12_change_52 : decode cX12_change 52 = .ok (.iload_n 3, 1) := by decide +kernel
theorem dX12_change_53 : decode cX12_change 53 = .ok (.invokevirtual 56, 3) := by decide +kernel
theorem dX12_change_56 : decode cX12_change 56 = .ok (.goto 9, 3) := by decide +kernel
theorem dX12_change_59 : decode cX12_change 59 = .ok (.aload_n 0, 1) := by decide +kernel
theorem dX12_change_60 : decode cX12_change 60 = .ok (.ldc 40, 2) := by decide +kernel
theorem dX12_change_62 : decode cX12_change 62 = .ok (.invokevirtual 42, 3) := by decide +kernel
theorem dX12_change_65 : decode cX12_change 65 = .ok (.ireturn, 1) := by decide +kernel
theorem dX12_wayFrom_0 : decode cX12_wayFrom 0 = .ok (.aload_n 0, 1) := by decide +kernel
theorem dX12_wayFrom_1 : decode cX12_wayFrom 1 = .ok (.iload_n 1, 1) := by decide +kernel
theorem dX12_wayFrom_2 : decode cX12_wayFrom 2 = .ok (.iconst 2, 1) := by decide +kernel
theorem dX12_wayFrom_3 : decode cX12_wayFrom 3 = .ok (.invokevirtual 62, 3) := by decide +kernel
theorem dX12_wayFrom_6 : decode cX12_wayFrom 6 = .ok (.istore_n 3, 1) := by decide +kernel
theorem dX12_wayFrom_7 : decode cX12_wayFrom 7 = .ok (.iload_n 3, 1) := by decide +kernel
theorem dX12_wayFrom_8 : decode cX12_wayFrom 8 = .ok (.iconst 5, 1) := by decide +kernel
theorem dX12_wayFrom_9 : decode cX12_wayFrom 9 = .ok (.idiv, 1) := by decide +kernel
theorem dX12_wayFrom_10 : decode cX12_wayFrom 10 = .ok (.iload_n 2, 1) := by decide +kernel
theorem dX12_wayFrom_11 : decode cX12_wayFrom 11 = .ok (.iconst 5, 1) := by decide +kernel
theorem dX12_wayFrom_12 : decode cX12_wayFrom 12 = .ok (.idiv, 1) := by decide +kernel
theorem dX12_wayFrom_13 : decode cX12_wayFrom 13 = .ok (.isub, 1) := by decide +kernel
theorem dX12_wayFrom_14 : decode cX12_wayFrom 14 = .ok (.istore 4, 2) := by decide +kernel
theorem dX12_wayFrom_16 : decode cX12_wayFrom 16 = .ok (.iload_n 3, 1) := by decide +kernel
theorem dX12_wayFrom_17 : decode cX12_wayFrom 17 = .ok (.iconst 5, 1) := by decide +kernel
theorem dX12_wayFrom_18 : decode cX12_wayFrom 18 = .ok (.irem, 1) := by decide +kernel
theorem dX12_wayFrom_19 : decode cX12_wayFrom 19 = .ok (.iload_n 2, 1) := by decide +kernel
theorem dX12_wayFrom_20 : decode cX12_wayFrom 20 = .ok (.iconst 5, 1) := by decide +kernel
theorem dX12_wayFrom_21 : decode cX12_wayFrom 21 = .ok (.irem, 1) := by decide +kernel
theorem dX12_wayFrom_22 : decode cX12_wayFrom 22 = .ok (.isub, 1) := by decide +kernel
theorem dX12_wayFrom_23 : decode cX12_wayFrom 23 = .ok (.istore 5, 2) := by decide +kernel
theorem dX12_wayFrom_25 : decode cX12_wayFrom 25 = .ok (.iload 4, 2) := by decide +kernel
theorem dX12_wayFrom_27 : decode cX12_wayFrom 27 = .ok (.ifCond .ge 7, 3) := by decide +kernel
theorem dX12_wayFrom_30 : decode cX12_wayFrom 30 = .ok (.iconst 1, 1) := by decide +kernel
theorem dX12_wayFrom_31 : decode cX12_wayFrom 31 = .ok (.goto 13, 3) := by decide +kernel
theorem dX12_wayFrom_34 : decode cX12_wayFrom 34 = .ok (.iload 4, 2) := by decide +kernel
theorem dX12_wayFrom_36 : decode cX12_wayFrom 36 = .ok (.ifCond .le 7, 3) := by decide +kernel
theorem dX12_wayFrom_39 : decode cX12_wayFrom 39 = .ok (.iconst 3, 1) := by decide +kernel
theorem dX12_wayFrom_40 : decode cX12_wayFrom 40 = .ok (.goto 4, 3) := by decide +kernel
theorem dX12_wayFrom_43 : decode cX12_wayFrom 43 = .ok (.iconst 0, 1) := by decide +kernel
theorem dX12_wayFrom_44 : decode cX12_wayFrom 44 = .ok (.istore 6, 2) := by decide +kernel
theorem dX12_wayFrom_46 : decode cX12_wayFrom 46 = .ok (.iload 5, 2) := by decide +kernel
theorem dX12_wayFrom_48 : decode cX12_wayFrom 48 = .ok (.ifCond .le 7, 3) := by decide +kernel
theorem dX12_wayFrom_51 : decode cX12_wayFrom 51 = .ok (.iconst 2, 1) := by decide +kernel
theorem dX12_wayFrom_52 : decode cX12_wayFrom 52 = .ok (.goto 13, 3) := by decide +kernel
theorem dX12_wayFrom_55 : decode cX12_wayFrom 55 = .ok (.iload 5, 2) := by decide +kernel
theorem dX12_wayFrom_57 : decode cX12_wayFrom 57 = .ok (.ifCond .ge 7, 3) := by decide +kernel
theorem dX12_wayFrom_60 : decode cX12_wayFrom 60 = .ok (.iconst 4, 1) := by decide +kernel
theorem dX12_wayFrom_61 : decode cX12_wayFrom 61 = .ok (.goto 4, 3) := by decide +kernel
theorem dX12_wayFrom_64 : decode cX12_wayFrom 64 = .ok (.iconst 0, 1) := by decide +kernel
theorem dX12_wayFrom_65 : decode cX12_wayFrom 65 = .ok (.istore 7, 2) := by decide +kernel
theorem dX12_wayFrom_67 : decode cX12_wayFrom 67 = .ok (.aload_n 0, 1) := by decide +kernel
theorem dX12_wayFrom_68 : decode cX12_wayFrom 68 = .ok (.iload_n 1, 1) := by decide +kernel
theorem dX12_wayFrom_69 : decode cX12_wayFrom 69 = .ok (.iconst 0, 1) := by decide +kernel
theorem dX12_wayFrom_70 : decode cX12_wayFrom 70 = .ok (.invokevirtual 62, 3) := by decide +kernel
theorem dX12_wayFrom_73 : decode cX12_wayFrom 73 = .ok (.iconst 3, 1) := by decide +kernel
theorem dX12_wayFrom_74 : decode cX12_wayFrom 74 = .ok (.if_icmp .eq 13, 3) := by decide +kernel
theorem dX12_wayFrom_77 : decode cX12_wayFrom 77 = .ok (.aload_n 0, 1) := by decide +kernel
theorem dX12_wayFrom_78 : decode cX12_wayFrom 78 = .ok (.iload_n 1, 1) := by decide +kernel
theorem dX12_wayFrom_79 : decode cX12_wayFrom 79 = .ok (.iconst 0, 1) := by decide +kernel
theorem dX12_wayFrom_80 : decode cX12_wayFrom 80 = .ok (.invokevirtual 62, 3) := by decide +kernel
theorem dX12_wayFrom_83 : decode cX12_wayFrom 83 = .ok (.iconst 4, 1) := by decide +kernel
theorem dX12_wayFrom_84 : decode cX12_wayFrom 84 = .ok (.if_icmp .ne 7, 3) := by decide +kernel
theorem dX12_wayFrom_87 : decode cX12_wayFrom 87 = .ok (.iconst 1, 1) := by decide +kernel
theorem dX12_wayFrom_88 : decode cX12_wayFrom 88 = .ok (.goto 4, 3) := by decide +kernel
theorem dX12_wayFrom_91 : decode cX12_wayFrom 91 = .ok (.iconst 0, 1) := by decide +kernel
theorem dX12_wayFrom_92 : decode cX12_wayFrom 92 = .ok (.istore 8, 2) := by decide +kernel
theorem dX12_wayFrom_94 : decode cX12_wayFrom 94 = .ok (.iload 8, 2) := by decide +kernel
theorem dX12_wayFrom_96 : decode cX12_wayFrom 96 = .ok (.ifCond .eq 8, 3) := by decide +kernel
theorem dX12_wayFrom_99 : decode cX12_wayFrom 99 = .ok (.iload 7, 2) := by decide +kernel
theorem dX12_wayFrom_101 : decode cX12_wayFrom 101 = .ok (.goto 5, 3) := by decide +kernel
theorem dX12_wayFrom_104 : decode cX12_wayFrom 104 = .ok (.iload 6, 2) := by decide +kernel
theorem dX12_wayFrom_106 : decode cX12_wayFrom 106 = .ok (.istore 9, 2) := by decide +kernel
theorem dX12_wayFrom_108 : decode cX12_wayFrom 108 = .ok (.iload 9, 2) := by decide +kernel
theorem dX12_wayFrom_110 : decode cX12_wayFrom 110 = .ok (.ifCond .eq 8, 3) := by decide +kernel
theorem dX12_wayFrom_113 : decode cX12_wayFrom 113 = .ok (.iload 9, 2) := by decide +kernel
theorem dX12_wayFrom_115 : decode cX12_wayFrom 115 = .ok (.goto 15, 3) := by decide +kernel
theorem dX12_wayFrom_118 : decode cX12_wayFrom 118 = .ok (.iload 8, 2) := by decide +kernel
theorem dX12_wayFrom_120 : decode cX12_wayFrom 120 = .ok (.ifCond .eq 8, 3) := by decide +kernel
theorem dX12_wayFrom_123 : decode cX12_wayFrom 123 = .ok (.iload 6, 2) := by decide +kernel
theorem dX12_wayFrom_125 : decode cX12_wayFrom 125 = .ok (.goto 5, 3) := by decide +kernel
theorem dX12_wayFrom_128 : decode cX12_wayFrom 128 = .ok (.iload 7, 2) := by decide +kernel
theorem dX12_wayFrom_130 : decode cX12_wayFrom 130 = .ok (.ireturn, 1) := by decide +kernel
theorem dX12_otherWay_0 : decode cX12_otherWay 0 = .ok (.iload_n 0, 1) := by decide +kernel
theorem dX12_otherWay_1 : decode cX12_otherWay 1 = .ok (.iconst 2, 1) := by decide +kernel
theorem dX12_otherWay_2 : decode cX12_otherWay 2 = .ok (.if_icmp .le 9, 3) := by decide +kernel
theorem dX12_otherWay_5 : decode cX12_otherWay 5 = .ok (.iload_n 0, 1) := by decide +kernel
theorem dX12_otherWay_6 : decode cX12_otherWay 6 = .ok (.iconst 2, 1) := by decide +kernel
theorem dX12_otherWay_7 : decode cX12_otherWay 7 = .ok (.isub, 1) := by decide +kernel
theorem dX12_otherWay_8 : decode cX12_otherWay 8 = .ok (.goto 6, 3) := by decide +kernel
theorem dX12_otherWay_11 : decode cX12_otherWay 11 = .ok (.iload_n 0, 1) := by decide +kernel
theorem dX12_otherWay_12 : decode cX12_otherWay 12 = .ok (.iconst 2, 1) := by decide +kernel
theorem dX12_otherWay_13 : decode cX12_otherWay 13 = .ok (.iadd, 1) := by decide +kernel
theorem dX12_otherWay_14 : decode cX12_otherWay 14 = .ok (.ireturn, 1) := by decide +kernel
theorem dX12_on_0 : decode cX12_on 0 = .ok (.iload_n 1, 1) := by decide +kernel
theorem dX12_on_1 : decode cX12_on 1 = .ok (.iconst 1, 1) := by decide +kernel
theorem dX12_on_2 : decode cX12_on 2 = .ok (.if_icmp .ne 9, 3) := by decide +kernel
theorem dX12_on_5 : decode cX12_on 5 = .ok (.iload_n 0, 1) := by decide +kernel
theorem dX12_on_6 : decode cX12_on 6 = .ok (.iconst 5, 1) := by decide +kernel
theorem dX12_on_7 : decode cX12_on 7 = .ok (.isub, 1) := by decide +kernel
theorem dX12_on_8 : decode cX12_on 8 = .ok (.goto 28, 3) := by decide +kernel
theorem dX12_on_11 : decode cX12_on 11 = .ok (.iload_n 1, 1) := by decide +kernel
theorem dX12_on_12 : decode cX12_on 12 = .ok (.iconst 2, 1) := by decide +kernel
theorem dX12_on_13 : decode cX12_on 13 = .ok (.if_icmp .ne 9, 3) := by decide +kernel
theorem dX12_on_16 : decode cX12_on 16 = .ok (.iload_n 0, 1) := by decide +kernel
theorem dX12_on_17 : decode cX12_on 17 = .ok (.iconst 1, 1) := by decide +kernel
theorem dX12_on_18 : decode cX12_on 18 = .ok (.iadd, 1) := by decide +kernel
theorem dX12_on_19 : decode cX12_on 19 = .ok (.goto 17, 3) := by decide +kernel
theorem dX12_on_22 : decode cX12_on 22 = .ok (.iload_n 1, 1) := by decide +kernel
theorem dX12_on_23 : decode cX12_on 23 = .ok (.iconst 3, 1) := by decide +kernel
theorem dX12_on_24 : decode cX12_on 24 = .ok (.if_icmp .ne 9, 3) := by decide +kernel
theorem dX12_on_27 : decode cX12_on 27 = .ok (.iload_n 0, 1) := by decide +kernel
theorem dX12_on_28 : decode cX12_on 28 = .ok (.iconst 5, 1) := by decide +kernel
theorem dX12_on_29 : decode cX12_on 29 = .ok (.iadd, 1) := by decide +kernel
theorem dX12_on_30 : decode cX12_on 30 = .ok (.goto 6, 3) := by decide +kernel
theorem dX12_on_33 : decode cX12_on 33 = .ok (.iload_n 0, 1) := by decide +kernel
theorem dX12_on_34 : decode cX12_on 34 = .ok (.iconst 1, 1) := by decide +kernel
theorem dX12_on_35 : decode cX12_on 35 = .ok (.isub, 1) := by decide +kernel
theorem dX12_on_36 : decode cX12_on 36 = .ok (.ireturn, 1) := by decide +kernel
theorem dX12_burnsOn_0 : decode cX12_burnsOn 0 = .ok (.aload_n 0, 1) := by decide +kernel
theorem dX12_burnsOn_1 : decode cX12_burnsOn 1 = .ok (.iload_n 1, 1) := by decide +kernel
theorem dX12_burnsOn_2 : decode cX12_burnsOn 2 = .ok (.iconst 4, 1) := by decide +kernel
theorem dX12_burnsOn_3 : decode cX12_burnsOn 3 = .ok (.invokevirtual 62, 3) := by decide +kernel
theorem dX12_burnsOn_6 : decode cX12_burnsOn 6 = .ok (.aload_n 0, 1) := by decide +kernel
theorem dX12_burnsOn_7 : decode cX12_burnsOn 7 = .ok (.iload_n 1, 1) := by decide +kernel
theorem dX12_burnsOn_8 : decode cX12_burnsOn 8 = .ok (.iconst 1, 1) := by decide +kernel
theorem dX12_burnsOn_9 : decode cX12_burnsOn 9 = .ok (.invokevirtual 62, 3) := by decide +kernel
theorem dX12_burnsOn_12 : decode cX12_burnsOn 12 = .ok (.if_icmp .ne 71, 3) := by decide +kernel
theorem dX12_burnsOn_15 : decode cX12_burnsOn 15 = .ok (.aload_n 0, 1) := by decide +kernel
theorem dX12_burnsOn_16 : decode cX12_burnsOn 16 = .ok (.iload_n 1, 1) := by decide +kernel
theorem dX12_burnsOn_17 : decode cX12_burnsOn 17 = .ok (.iconst 1, 1) := by decide +kernel
theorem dX12_burnsOn_18 : decode cX12_burnsOn 18 = .ok (.invokevirtual 62, 3) := by decide +kernel
theorem dX12_burnsOn_21 : decode cX12_burnsOn 21 = .ok (.aload_n 0, 1) := by decide +kernel
theorem dX12_burnsOn_22 : decode cX12_burnsOn 22 = .ok (.iload_n 1, 1) := by decide +kernel
theorem dX12_burnsOn_23 : decode cX12_burnsOn 23 = .ok (.iconst 2, 1) := by decide +kernel
theorem dX12_burnsOn_24 : decode cX12_burnsOn 24 = .ok (.invokevirtual 62, 3) := by decide +kernel
theorem dX12_burnsOn_27 : decode cX12_burnsOn 27 = .ok (.if_icmp .eq 56, 3) := by decide +kernel
theorem dX12_burnsOn_30 : decode cX12_burnsOn 30 = .ok (.aload_n 0, 1) := by decide +kernel
theorem dX12_burnsOn_31 : decode cX12_burnsOn 31 = .ok (.iload_n 1, 1) := by decide +kernel
theorem dX12_burnsOn_32 : decode cX12_burnsOn 32 = .ok (.invokevirtual 82, 3) := by decide +kernel
theorem dX12_burnsOn_35 : decode cX12_burnsOn 35 = .ok (.aload_n 0, 1) := by decide +kernel
theorem dX12_burnsOn_36 : decode cX12_burnsOn 36 = .ok (.iload_n 1, 1) := by decide +kernel
theorem dX12_burnsOn_37 : decode cX12_burnsOn 37 = .ok (.iconst 3, 1) := by decide +kernel
theorem dX12_burnsOn_38 : decode cX12_burnsOn 38 = .ok (.invokevirtual 62, 3) := by decide +kernel
theorem dX12_burnsOn_41 : decode cX12_burnsOn 41 = .ok (.invokestatic 94, 3) := by decide +kernel
theorem dX12_burnsOn_44 : decode cX12_burnsOn 44 = .ok (.istore_n 2, 1) := by decide +kernel
theorem dX12_burnsOn_45 : decode cX12_burnsOn 45 = .ok (.aload_n 0, 1) := by decide +kernel
theorem dX12_burnsOn_46 : decode cX12_burnsOn 46 = .ok (.getfield 7, 3) := by decide +kernel
theorem dX12_burnsOn_49 : decode cX12_burnsOn 49 = .ok (.iload_n 1, 1) := by decide +kernel
theorem dX12_burnsOn_50 : decode cX12_burnsOn 50 = .ok (.iconst 3, 1) := by decide +kernel
theorem dX12_burnsOn_51 : decode cX12_burnsOn 51 = .ok (.invokestatic 67, 3) := by decide +kernel
theorem dX12_burnsOn_54 : decode cX12_burnsOn 54 = .ok (.dup2, 1) := by decide +kernel
theorem dX12_burnsOn_55 : decode cX12_burnsOn 55 = .ok (.iaload, 1) := by decide +kernel
theorem dX12_burnsOn_56 : decode cX12_burnsOn 56 = .ok (.iload_n 2, 1) := by decide +kernel
theorem dX12_burnsOn_57 : decode cX12_burnsOn 57 = .ok (.isub, 1) := by decide +kernel
theorem dX12_burnsOn_58 : decode cX12_burnsOn 58 = .ok (.iastore, 1) := by decide +kernel
theorem dX12_burnsOn_59 : decode cX12_burnsOn 59 = .ok (.aload_n 0, 1) := by decide +kernel
theorem dX12_burnsOn_60 : decode cX12_burnsOn 60 = .ok (.getfield 7, 3) := by decide +kernel
theorem dX12_burnsOn_63 : decode cX12_burnsOn 63 = .ok (.iload_n 1, 1) := by decide +kernel
theorem dX12_burnsOn_64 : decode cX12_burnsOn 64 = .ok (.iconst 5, 1) := by decide +kernel
theorem dX12_burnsOn_65 : decode cX12_burnsOn 65 = .ok (.invokestatic 67, 3) := by decide +kernel
theorem dX12_burnsOn_68 : decode cX12_burnsOn 68 = .ok (.sipush 999, 3) := by decide +kernel
theorem dX12_burnsOn_71 : decode cX12_burnsOn 71 = .ok (.aload_n 0, 1) := by decide +kernel
theorem dX12_burnsOn_72 : decode cX12_burnsOn 72 = .ok (.iload_n 1, 1) := by decide +kernel
theorem dX12_burnsOn_73 : decode cX12_burnsOn 73 = .ok (.iconst 5, 1) := by decide +kernel
theorem dX12_burnsOn_74 : decode cX12_burnsOn 74 = .ok (.invokevirtual 62, 3) := by decide +kernel
theorem dX12_burnsOn_77 : decode cX12_burnsOn 77 = .ok (.iload_n 2, 1) := by decide +kernel
theorem dX12_burnsOn_78 : decode cX12_burnsOn 78 = .ok (.iadd, 1) := by decide +kernel
theorem dX12_burnsOn_79 : decode cX12_burnsOn 79 = .ok (.invokestatic 94, 3) := by decide +kernel
theorem dX12_burnsOn_82 : decode cX12_burnsOn 82 = .ok (.iastore, 1) := by decide +kernel
theorem dX12_burnsOn_83 : decode cX12_burnsOn 83 = .ok (.return_, 1) := by decide +kernel
theorem dX12_goesHome_0 : decode cX12_goesHome 0 = .ok (.aload_n 0, 1) := by decide +kernel
theorem dX12_goesHome_1 : decode cX12_goesHome 1 = .ok (.iload_n 1, 1) := by decide +kernel
theorem dX12_goesHome_2 : decode cX12_goesHome 2 = .ok (.iconst 5, 1) := by decide +kernel
theorem dX12_goesHome_3 : decode cX12_goesHome 3 = .ok (.invokevirtual 62, 3) := by decide +kernel
theorem dX12_goesHome_6 : decode cX12_goesHome 6 = .ok (.ifCond .le 11, 3) := by decide +kernel
theorem dX12_goesHome_9 : decode cX12_goesHome 9 = .ok (.aload_n 0, 1) := by decide +kernel
theorem dX12_goesHome_10 : decode cX12_goesHome 10 = .ok (.iload_n 1, 1) := by decide +kernel
theorem dX12_goesHome_11 : decode cX12_goesHome 11 = .ok (.invokevirtual 85, 3) := by decide +kernel
theorem dX12_goesHome_14 : decode cX12_goesHome 14 = .ok (.goto 4, 3) := by decide +kernel
theorem dX12_goesHome_17 : decode cX12_goesHome 17 = .ok (.iconst 0, 1) := by decide +kernel
theorem dX12_goesHome_18 : decode cX12_goesHome 18 = .ok (.istore_n 2, 1) := by decide +kernel
theorem dX12_goesHome_19 : decode cX12_goesHome 19 = .ok (.iload_n 2, 1) := by decide +kernel
theorem dX12_goesHome_20 : decode cX12_goesHome 20 = .ok (.ifCond .le 108, 3) := by decide +kernel
theorem dX12_goesHome_23 : decode cX12_goesHome 23 = .ok (.aload_n 0, 1) := by decide +kernel
theorem dX12_goesHome_24 : decode cX12_goesHome 24 = .ok (.iload_n 1, 1) := by decide +kernel
theorem dX12_goesHome_25 : decode cX12_goesHome 25 = .ok (.iconst 4, 1) := by decide +kernel
theorem dX12_goesHome_26 : decode cX12_goesHome 26 = .ok (.invokevirtual 62, 3) := by decide +kernel
theorem dX12_goesHome_29 : decode cX12_goesHome 29 = .ok (.aload_n 0, 1) := by decide +kernel
theorem dX12_goesHome_30 : decode cX12_goesHome 30 = .ok (.iload_n 1, 1) := by decide +kernel
theorem dX12_goesHome_31 : decode cX12_goesHome 31 = .ok (.iconst 2, 1) := by decide +kernel
theorem dX12_goesHome_32 : decode cX12_goesHome 32 = .ok (.invokevirtual 62, 3) := by decide +kernel
theorem dX12_goesHome_35 : decode cX12_goesHome 35 = .ok (.if_icmp .eq 93, 3) := by decide +kernel
theorem dX12_goesHome_38 : decode cX12_goesHome 38 = .ok (.aload_n 0, 1) := by decide +kernel
theorem dX12_goesHome_39 : decode cX12_goesHome 39 = .ok (.iload_n 1, 1) := by decide +kernel
theorem dX12_goesHome_40 : decode cX12_goesHome 40 = .ok (.aload_n 0, 1) := by decide +kernel
theorem dX12_goesHome_41 : decode cX12_goesHome 41 = .ok (.iload_n 1, 1) := by decide +kernel
theorem dX12_goesHome_42 : decode cX12_goesHome 42 = .ok (.iconst 4, 1) := by decide +kernel
theorem dX12_goesHome_43 : decode cX12_goesHome 43 = .ok (.invokevirtual 62, 3) := by decide +kernel
theorem dX12_goesHome_46 : decode cX12_goesHome 46 = .ok (.invokevirtual 97, 3) := by decide +kernel
theorem dX12_goesHome_49 : decode cX12_goesHome 49 = .ok (.istore_n 3, 1) := by decide +kernel
theorem dX12_goesHome_50 : decode cX12_goesHome 50 = .ok (.iinc 2 (-1), 3) := by decide +kernel
theorem dX12_goesHome_53 : decode cX12_goesHome 53 = .ok (.aload_n 0, 1) := by decide +kernel
theorem dX12_goesHome_54 : decode cX12_goesHome 54 = .ok (.getfield 7, 3) := by decide +kernel
theorem dX12_goesHome_57 : decode cX12_goesHome 57 = .ok (.iconst 3, 1) := by decide +kernel
theorem dX12_goesHome_58 : decode cX12_goesHome 58 = .ok (.iaload, 1) := by decide +kernel
theorem dX12_goesHome_59 : decode cX12_goesHome 59 = .ok (.iload_n 3, 1) := by decide +kernel
theorem dX12_goesHome_60 : decode cX12_goesHome 60 = .ok (.invokestatic 100, 3) := by decide +kernel
theorem dX12_goesHome_63 : decode cX12_goesHome 63 = .ok (.if_icmp .ne 42, 3) := by decide +kernel
theorem dX12_goesHome_66 : decode cX12_goesHome 66 = .ok (.aload_n 0, 1) := by decide +kernel
theorem dX12_goesHome_67 : decode cX12_goesHome 67 = .ok (.iload_n 1, 1) := by decide +kernel
theorem dX12_goesHome_68 : decode cX12_goesHome 68 = .ok (.invokevirtual 103, 3) := by decide +kernel
theorem dX12_goesHome_71 : decode cX12_goesHome 71 = .ok (.ifCond .ne 34, 3) := by decide +kernel
theorem dX12_goesHome_74 : decode cX12_goesHome 74 = .ok (.aload_n 0, 1) := by decide +kernel
theorem dX12_goesHome_75 : decode cX12_goesHome 75 = .ok (.getfield 7, 3) := by decide +kernel
theorem dX12_goesHome_78 : decode cX12_goesHome 78 = .ok (.iload_n 1, 1) := by decide +kernel
theorem dX12_goesHome_79 : decode cX12_goesHome 79 = .ok (.bipush 6, 2) := by decide +kernel
theorem dX12_goesHome_81 : decode cX12_goesHome 81 = .ok (.invokestatic 67, 3) := by decide +kernel
theorem dX12_goesHome_84 : decode cX12_goesHome 84 = .ok (.sipush 9999, 3) := by decide +kernel
theorem dX12_goesHome_87 : decode cX12_goesHome 87 = .ok (.aload_n 0, 1) := by decide +kernel
theorem dX12_goesHome_88 : decode cX12_goesHome 88 = .ok (.iload_n 1, 1) := by decide +kernel
theorem dX12_goesHome_89 : decode cX12_goesHome 89 = .ok (.bipush 6, 2) := by decide +kernel
theorem dX12_goesHome_91 : decode cX12_goesHome 91 = .ok (.invokevirtual 62, 3) := by decide +kernel
theorem dX12_goesHome_94 : decode cX12_goesHome 94 = .ok (.iconst 1, 1) := by decide +kernel
theorem dX12_goesHome_95 : decode cX12_goesHome 95 = .ok (.iadd, 1) := by decide +kernel
theorem dX12_goesHome_96 : decode cX12_goesHome 96 = .ok (.invokestatic 94, 3) := by decide +kernel
theorem dX12_goesHome_99 : decode cX12_goesHome 99 = .ok (.iastore, 1) := by decide +kernel
theorem dX12_goesHome_100 : decode cX12_goesHome 100 = .ok (.iconst 0, 1) := by decide +kernel
theorem dX12_goesHome_101 : decode cX12_goesHome 101 = .ok (.istore_n 2, 1) := by decide +kernel
theorem dX12_goesHome_102 : decode cX12_goesHome 102 = .ok (.goto 23, 3) := by decide +kernel
theorem dX12_goesHome_105 : decode cX12_goesHome 105 = .ok (.aload_n 0, 1) := by decide +kernel
theorem dX12_goesHome_106 : decode cX12_goesHome 106 = .ok (.getfield 7, 3) := by decide +kernel
theorem dX12_goesHome_109 : decode cX12_goesHome 109 = .ok (.iload_n 1, 1) := by decide +kernel
theorem dX12_goesHome_110 : decode cX12_goesHome 110 = .ok (.iconst 4, 1) := by decide +kernel
theorem dX12_goesHome_111 : decode cX12_goesHome 111 = .ok (.invokestatic 67, 3) := by decide +kernel
theorem dX12_goesHome_114 : decode cX12_goesHome 114 = .ok (.aload_n 0, 1) := by decide +kernel
theorem dX12_goesHome_115 : decode cX12_goesHome 115 = .ok (.iload_n 1, 1) := by decide +kernel
theorem dX12_goesHome_116 : decode cX12_goesHome 116 = .ok (.iconst 4, 1) := by decide +kernel
theorem dX12_goesHome_117 : decode cX12_goesHome 117 = .ok (.invokevirtual 62, 3) := by decide +kernel
theorem dX12_goesHome_120 : decode cX12_goesHome 120 = .ok (.iload_n 3, 1) := by decide +kernel
theorem dX12_goesHome_121 : decode cX12_goesHome 121 = .ok (.invokestatic 106, 3) := by decide +kernel
theorem dX12_goesHome_124 : decode cX12_goesHome 124 = .ok (.iastore, 1) := by decide +kernel
theorem dX12_goesHome_125 : decode cX12_goesHome 125 = .ok (.goto (-106), 3) := by decide +kernel
theorem dX12_goesHome_128 : decode cX12_goesHome 128 = .ok (.return_, 1) := by decide +kernel
theorem dX12_cross_0 : decode cX12_cross 0 = .ok (.aload_n 0, 1) := by decide +kernel
theorem dX12_cross_1 : decode cX12_cross 1 = .ok (.iload_n 1, 1) := by decide +kernel
theorem dX12_cross_2 : decode cX12_cross 2 = .ok (.iconst 4, 1) := by decide +kernel
theorem dX12_cross_3 : decode cX12_cross 3 = .ok (.invokevirtual 62, 3) := by decide +kernel
theorem dX12_cross_6 : decode cX12_cross 6 = .ok (.aload_n 0, 1) := by decide +kernel
theorem dX12_cross_7 : decode cX12_cross 7 = .ok (.iload_n 2, 1) := by decide +kernel
theorem dX12_cross_8 : decode cX12_cross 8 = .ok (.iconst 4, 1) := by decide +kernel
theorem dX12_cross_9 : decode cX12_cross 9 = .ok (.invokevirtual 62, 3) := by decide +kernel
theorem dX12_cross_12 : decode cX12_cross 12 = .ok (.if_icmp .ne 55, 3) := by decide +kernel
theorem dX12_cross_15 : decode cX12_cross 15 = .ok (.aload_n 0, 1) := by decide +kernel
theorem dX12_cross_16 : decode cX12_cross 16 = .ok (.iload_n 1, 1) := by decide +kernel
theorem dX12_cross_17 : decode cX12_cross 17 = .ok (.iconst 5, 1) := by decide +kernel
theorem dX12_cross_18 : decode cX12_cross 18 = .ok (.invokevirtual 62, 3) := by decide +kernel
theorem dX12_cross_21 : decode cX12_cross 21 = .ok (.ifCond .le 46, 3) := by decide +kernel
theorem dX12_cross_24 : decode cX12_cross 24 = .ok (.aload_n 0, 1) := by decide +kernel
theorem dX12_cross_25 : decode cX12_cross 25 = .ok (.iload_n 2, 1) := by decide +kernel
theorem dX12_cross_26 : decode cX12_cross 26 = .ok (.iconst 5, 1) := by decide +kernel
theorem dX12_cross_27 : decode cX12_cross 27 = .ok (.invokevirtual 62, 3) := by decide +kernel
theorem dX12_cross_30 : decode cX12_cross 30 = .ok (.ifCond .le 37, 3) := by decide +kernel
theorem dX12_cross_33 : decode cX12_cross 33 = .ok (.aload_n 0, 1) := by decide +kernel
theorem dX12_cross_34 : decode cX12_cross 34 = .ok (.iload_n 1, 1) := by decide +kernel
theorem dX12_cross_35 : decode cX12_cross 35 = .ok (.iconst 4, 1) := by decide +kernel
theorem dX12_cross_36 : decode cX12_cross 36 = .ok (.invokevirtual 62, 3) := by decide +kernel
theorem dX12_cross_39 : decode cX12_cross 39 = .ok (.aload_n 0, 1) := by decide +kernel
theorem dX12_cross_40 : decode cX12_cross 40 = .ok (.getfield 37, 3) := by decide +kernel
theorem dX12_cross_43 : decode cX12_cross 43 = .ok (.iload_n 1, 1) := by decide +kernel
theorem dX12_cross_44 : decode cX12_cross 44 = .ok (.iaload, 1) := by decide +kernel
theorem dX12_cross_45 : decode cX12_cross 45 = .ok (.if_icmp .ne 18, 3) := by decide +kernel
theorem dX12_cross_48 : decode cX12_cross 48 = .ok (.aload_n 0, 1) := by decide +kernel
theorem dX12_cross_49 : decode cX12_cross 49 = .ok (.iload_n 2, 1) := by decide +kernel
theorem dX12_cross_50 : decode cX12_cross 50 = .ok (.iconst 4, 1) := by decide +kernel
theorem dX12_cross_51 : decode cX12_cross 51 = .ok (.invokevirtual 62, 3) := by decide +kernel
theorem dX12_cross_54 : decode cX12_cross 54 = .ok (.aload_n 0, 1) := by decide +kernel
theorem dX12_cross_55 : decode cX12_cross 55 = .ok (.getfield 37, 3) := by decide +kernel
theorem dX12_cross_58 : decode cX12_cross 58 = .ok (.iload_n 2, 1) := by decide +kernel
theorem dX12_cross_59 : decode cX12_cross 59 = .ok (.iaload, 1) := by decide +kernel
theorem dX12_cross_60 : decode cX12_cross 60 = .ok (.if_icmp .eq 7, 3) := by decide +kernel
theorem dX12_cross_63 : decode cX12_cross 63 = .ok (.iconst 1, 1) := by decide +kernel
theorem dX12_cross_64 : decode cX12_cross 64 = .ok (.goto 4, 3) := by decide +kernel
theorem dX12_cross_67 : decode cX12_cross 67 = .ok (.iconst 0, 1) := by decide +kernel
theorem dX12_cross_68 : decode cX12_cross 68 = .ok (.istore_n 3, 1) := by decide +kernel
theorem dX12_cross_69 : decode cX12_cross 69 = .ok (.iload_n 3, 1) := by decide +kernel
theorem dX12_cross_70 : decode cX12_cross 70 = .ok (.ifCond .eq 78, 3) := by decide +kernel
theorem dX12_cross_73 : decode cX12_cross 73 = .ok (.aload_n 0, 1) := by decide +kernel
theorem dX12_cross_74 : decode cX12_cross 74 = .ok (.iload_n 1, 1) := by decide +kernel
theorem dX12_cross_75 : decode cX12_cross 75 = .ok (.iconst 5, 1) := by decide +kernel
theorem dX12_cross_76 : decode cX12_cross 76 = .ok (.invokevirtual 62, 3) := by decide +kernel
theorem dX12_cross_79 : decode cX12_cross 79 = .ok (.iconst 4, 1) := by decide +kernel
theorem dX12_cross_80 : decode cX12_cross 80 = .ok (.idiv, 1) := by decide +kernel
theorem dX12_cross_81 : decode cX12_cross 81 = .ok (.istore 4, 2) := by decide +kernel
theorem dX12_cross_83 : decode cX12_cross 83 = .ok (.aload_n 0, 1) := by decide +kernel
theorem dX12_cross_84 : decode cX12_cross 84 = .ok (.iload_n 2, 1) := by decide +kernel
theorem dX12_cross_85 : decode cX12_cross 85 = .ok (.iconst 5, 1) := by decide +kernel
theorem dX12_cross_86 : decode cX12_cross 86 = .ok (.invokevirtual 62, 3) := by decide +kernel
theorem dX12_cross_89 : decode cX12_cross 89 = .ok (.iconst 4, 1) := by decide +kernel
theorem dX12_cross_90 : decode cX12_cross 90 = .ok (.idiv, 1) := by decide +kernel
theorem dX12_cross_91 : decode cX12_cross 91 = .ok (.istore 5, 2) := by decide +kernel
theorem dX12_cross_93 : decode cX12_cross 93 = .ok (.aload_n 0, 1) := by decide +kernel
theorem dX12_cross_94 : decode cX12_cross 94 = .ok (.getfield 7, 3) := by decide +kernel
theorem dX12_cross_97 : decode cX12_cross 97 = .ok (.iload_n 1, 1) := by decide +kernel
theorem dX12_cross_98 : decode cX12_cross 98 = .ok (.iconst 5, 1) := by decide +kernel
theorem dX12_cross_99 : decode cX12_cross 99 = .ok (.invokestatic 67, 3) := by decide +kernel
theorem dX12_cross_102 : decode cX12_cross 102 = .ok (.dup2, 1) := by decide +kernel
theorem dX12_cross_103 : decode cX12_cross 103 = .ok (.iaload, 1) := by decide +kernel
theorem dX12_cross_104 : decode cX12_cross 104 = .ok (.iload 5, 2) := by decide +kernel
theorem dX12_cross_106 : decode cX12_cross 106 = .ok (.iload 4, 2) := by decide +kernel
theorem dX12_cross_108 : decode cX12_cross 108 = .ok (.isub, 1) := by decide +kernel
theorem dX12_cross_109 : decode cX12_cross 109 = .ok (.iadd, 1) := by decide +kernel
theorem dX12_cross_110 : decode cX12_cross 110 = .ok (.iastore, 1) := by decide +kernel
theorem dX12_cross_111 : decode cX12_cross 111 = .ok (.aload_n 0, 1) := by decide +kernel
theorem dX12_cross_112 : decode cX12_cross 112 = .ok (.getfield 7, 3) := by decide +kernel
theorem dX12_cross_115 : decode cX12_cross 115 = .ok (.iload_n 2, 1) := by decide +kernel
theorem dX12_cross_116 : decode cX12_cross 116 = .ok (.iconst 5, 1) := by decide +kernel
theorem dX12_cross_117 : decode cX12_cross 117 = .ok (.invokestatic 67, 3) := by decide +kernel
theorem dX12_cross_120 : decode cX12_cross 120 = .ok (.dup2, 1) := by decide +kernel
theorem dX12_cross_121 : decode cX12_cross 121 = .ok (.iaload, 1) := by decide +kernel
theorem dX12_cross_122 : decode cX12_cross 122 = .ok (.iload 4, 2) := by decide +kernel
theorem dX12_cross_124 : decode cX12_cross 124 = .ok (.iload 5, 2) := by decide +kernel
theorem dX12_cross_126 : decode cX12_cross 126 = .ok (.isub, 1) := by decide +kernel
theorem dX12_cross_127 : decode cX12_cross 127 = .ok (.iadd, 1) := by decide +kernel
theorem dX12_cross_128 : decode cX12_cross 128 = .ok (.iastore, 1) := by decide +kernel
theorem dX12_cross_129 : decode cX12_cross 129 = .ok (.aload_n 0, 1) := by decide +kernel
theorem dX12_cross_130 : decode cX12_cross 130 = .ok (.getfield 7, 3) := by decide +kernel
theorem dX12_cross_133 : decode cX12_cross 133 = .ok (.iconst 4, 1) := by decide +kernel
theorem dX12_cross_134 : decode cX12_cross 134 = .ok (.ldc 109, 2) := by decide +kernel
theorem dX12_cross_136 : decode cX12_cross 136 = .ok (.aload_n 0, 1) := by decide +kernel
theorem dX12_cross_137 : decode cX12_cross 137 = .ok (.getfield 7, 3) := by decide +kernel
theorem dX12_cross_140 : decode cX12_cross 140 = .ok (.iconst 4, 1) := by decide +kernel
theorem dX12_cross_141 : decode cX12_cross 141 = .ok (.iaload, 1) := by decide +kernel
theorem dX12_cross_142 : decode cX12_cross 142 = .ok (.iconst 1, 1) := by decide +kernel
theorem dX12_cross_143 : decode cX12_cross 143 = .ok (.iadd, 1) := by decide +kernel
theorem dX12_cross_144 : decode cX12_cross 144 = .ok (.invokestatic 94, 3) := by decide +kernel
theorem dX12_cross_147 : decode cX12_cross 147 = .ok (.iastore, 1) := by decide +kernel
theorem dX12_cross_148 : decode cX12_cross 148 = .ok (.return_, 1) := by decide +kernel
theorem dX12_settles_0 : decode cX12_settles 0 = .ok (.aload_n 0, 1) := by decide +kernel
theorem dX12_settles_1 : decode cX12_settles 1 = .ok (.iload_n 1, 1) := by decide +kernel
theorem dX12_settles_2 : decode cX12_settles 2 = .ok (.iconst 4, 1) := by decide +kernel
theorem dX12_settles_3 : decode cX12_settles 3 = .ok (.invokevirtual 62, 3) := by decide +kernel
theorem dX12_settles_6 : decode cX12_settles 6 = .ok (.aload_n 0, 1) := by decide +kernel
theorem dX12_settles_7 : decode cX12_settles 7 = .ok (.iload_n 1, 1) := by decide +kernel
theorem dX12_settles_8 : decode cX12_settles 8 = .ok (.iconst 2, 1) := by decide +kernel
theorem dX12_settles_9 : decode cX12_settles 9 = .ok (.invokevirtual 62, 3) := by decide +kernel
theorem dX12_settles_12 : decode cX12_settles 12 = .ok (.if_icmp .ne 64, 3) := by decide +kernel
theorem dX12_settles_15 : decode cX12_settles 15 = .ok (.iconst 5, 1) := by decide +kernel
theorem dX12_settles_16 : decode cX12_settles 16 = .ok (.aload_n 0, 1) := by decide +kernel
theorem dX12_settles_17 : decode cX12_settles 17 = .ok (.iload_n 1, 1) := by decide +kernel
theorem dX12_settles_18 : decode cX12_settles 18 = .ok (.iconst 2, 1) := by decide +kernel
theorem dX12_settles_19 : decode cX12_settles 19 = .ok (.invokevirtual 62, 3) := by decide +kernel
theorem dX12_settles_22 : decode cX12_settles 22 = .ok (.iadd, 1) := by decide +kernel
theorem dX12_settles_23 : decode cX12_settles 23 = .ok (.istore_n 2, 1) := by decide +kernel
theorem dX12_settles_24 : decode cX12_settles 24 = .ok (.aload_n 0, 1) := by decide +kernel
theorem dX12_settles_25 : decode cX12_settles 25 = .ok (.getfield 7, 3) := by decide +kernel
theorem dX12_settles_28 : decode cX12_settles 28 = .ok (.iload_n 2, 1) := by decide +kernel
theorem dX12_settles_29 : decode cX12_settles 29 = .ok (.sipush 9999, 3) := by decide +kernel
theorem dX12_settles_32 : decode cX12_settles 32 = .ok (.aload_n 0, 1) := by decide +kernel
theorem dX12_settles_33 : decode cX12_settles 33 = .ok (.getfield 7, 3) := by decide +kernel
theorem dX12_settles_36 : decode cX12_settles 36 = .ok (.iload_n 2, 1) := by decide +kernel
theorem dX12_settles_37 : decode cX12_settles 37 = .ok (.iaload, 1) := by decide +kernel
theorem dX12_settles_38 : decode cX12_settles 38 = .ok (.aload_n 0, 1) := by decide +kernel
theorem dX12_settles_39 : decode cX12_settles 39 = .ok (.iload_n 1, 1) := by decide +kernel
theorem dX12_settles_40 : decode cX12_settles 40 = .ok (.iconst 5, 1) := by decide +kernel
theorem dX12_settles_41 : decode cX12_settles 41 = .ok (.invokevirtual 62, 3) := by decide +kernel
theorem dX12_settles_44 : decode cX12_settles 44 = .ok (.iadd, 1) := by decide +kernel
theorem dX12_settles_45 : decode cX12_settles 45 = .ok (.invokestatic 94, 3) := by decide +kernel
theorem dX12_settles_48 : decode cX12_settles 48 = .ok (.iastore, 1) := by decide +kernel
theorem dX12_settles_49 : decode cX12_settles 49 = .ok (.aload_n 0, 1) := by decide +kernel
theorem dX12_settles_50 : decode cX12_settles 50 = .ok (.getfield 7, 3) := by decide +kernel
theorem dX12_settles_53 : decode cX12_settles 53 = .ok (.iload_n 1, 1) := by decide +kernel
theorem dX12_settles_54 : decode cX12_settles 54 = .ok (.iconst 5, 1) := by decide +kernel
theorem dX12_settles_55 : decode cX12_settles 55 = .ok (.invokestatic 67, 3) := by decide +kernel
theorem dX12_settles_58 : decode cX12_settles 58 = .ok (.iconst 0, 1) := by decide +kernel
theorem dX12_settles_59 : decode cX12_settles 59 = .ok (.iastore, 1) := by decide +kernel
theorem dX12_settles_60 : decode cX12_settles 60 = .ok (.aload_n 0, 1) := by decide +kernel
theorem dX12_settles_61 : decode cX12_settles 61 = .ok (.getfield 7, 3) := by decide +kernel
theorem dX12_settles_64 : decode cX12_settles 64 = .ok (.iload_n 1, 1) := by decide +kernel
theorem dX12_settles_65 : decode cX12_settles 65 = .ok (.iconst 4, 1) := by decide +kernel
theorem dX12_settles_66 : decode cX12_settles 66 = .ok (.invokestatic 67, 3) := by decide +kernel
theorem dX12_settles_69 : decode cX12_settles 69 = .ok (.aload_n 0, 1) := by decide +kernel
theorem dX12_settles_70 : decode cX12_settles 70 = .ok (.iload_n 1, 1) := by decide +kernel
theorem dX12_settles_71 : decode cX12_settles 71 = .ok (.iconst 1, 1) := by decide +kernel
theorem dX12_settles_72 : decode cX12_settles 72 = .ok (.invokevirtual 62, 3) := by decide +kernel
theorem dX12_settles_75 : decode cX12_settles 75 = .ok (.iastore, 1) := by decide +kernel
theorem dX12_settles_76 : decode cX12_settles 76 = .ok (.return_, 1) := by decide +kernel
theorem dX12_hour_0 : decode cX12_hour 0 = .ok (.iconst 0, 1) := by decide +kernel
theorem dX12_hour_1 : decode cX12_hour 1 = .ok (.istore_n 1, 1) := by decide +kernel
theorem dX12_hour_2 : decode cX12_hour 2 = .ok (.iload_n 1, 1) := by decide +kernel
theorem dX12_hour_3 : decode cX12_hour 3 = .ok (.aload_n 0, 1) := by decide +kernel
theorem dX12_hour_4 : decode cX12_hour 4 = .ok (.getfield 7, 3) := by decide +kernel
theorem dX12_hour_7 : decode cX12_hour 7 = .ok (.iconst 0, 1) := by decide +kernel
theorem dX12_hour_8 : decode cX12_hour 8 = .ok (.iaload, 1) := by decide +kernel
theorem dX12_hour_9 : decode cX12_hour 9 = .ok (.if_icmp .ge 26, 3) := by decide +kernel
theorem dX12_hour_12 : decode cX12_hour 12 = .ok (.aload_n 0, 1) := by decide +kernel
theorem dX12_hour_13 : decode cX12_hour 13 = .ok (.getfield 37, 3) := by decide +kernel
theorem dX12_hour_16 : decode cX12_hour 16 = .ok (.iload_n 1, 1) := by decide +kernel
theorem dX12_hour_17 : decode cX12_hour 17 = .ok (.aload_n 0, 1) := by decide +kernel
theorem dX12_hour_18 : decode cX12_hour 18 = .ok (.iload_n 1, 1) := by decide +kernel
theorem dX12_hour_19 : decode cX12_hour 19 = .ok (.iconst 4, 1) := by decide +kernel
theorem dX12_hour_20 : decode cX12_hour 20 = .ok (.invokevirtual 62, 3) := by decide +kernel
theorem dX12_hour_23 : decode cX12_hour 23 = .ok (.iastore, 1) := by decide +kernel
theorem dX12_hour_24 : decode cX12_hour 24 = .ok (.aload_n 0, 1) := by decide +kernel
theorem dX12_hour_25 : decode cX12_hour 25 = .ok (.iload_n 1, 1) := by decide +kernel
theorem dX12_hour_26 : decode cX12_hour 26 = .ok (.invokevirtual 110, 3) := by decide +kernel
theorem dX12_hour_29 : decode cX12_hour 29 = .ok (.iinc 1 1, 3) := by decide +kernel
theorem dX12_hour_32 : decode cX12_hour 32 = .ok (.goto (-30), 3) := by decide +kernel
theorem dX12_hour_35 : decode cX12_hour 35 = .ok (.iconst 0, 1) := by decide +kernel
theorem dX12_hour_36 : decode cX12_hour 36 = .ok (.istore_n 1, 1) := by decide +kernel
theorem dX12_hour_37 : decode cX12_hour 37 = .ok (.iload_n 1, 1) := by decide +kernel
theorem dX12_hour_38 : decode cX12_hour 38 = .ok (.aload_n 0, 1) := by decide +kernel
theorem dX12_hour_39 : decode cX12_hour 39 = .ok (.getfield 7, 3) := by decide +kernel
theorem dX12_hour_42 : decode cX12_hour 42 = .ok (.iconst 0, 1) := by decide +kernel
theorem dX12_hour_43 : decode cX12_hour 43 = .ok (.iaload, 1) := by decide +kernel
theorem dX12_hour_44 : decode cX12_hour 44 = .ok (.if_icmp .ge 14, 3) := by decide +kernel
theorem dX12_hour_47 : decode cX12_hour 47 = .ok (.aload_n 0, 1) := by decide +kernel
theorem dX12_hour_48 : decode cX12_hour 48 = .ok (.iload_n 1, 1) := by decide +kernel
theorem dX12_hour_49 : decode cX12_hour 49 = .ok (.invokevirtual 114, 3) := by decide +kernel
theorem dX12_hour_52 : decode cX12_hour 52 = .ok (.iinc 1 1, 3) := by decide +kernel
theorem dX12_hour_55 : decode cX12_hour 55 = .ok (.goto (-18), 3) := by decide +kernel
theorem dX12_hour_58 : decode cX12_hour 58 = .ok (.iconst 0, 1) := by decide +kernel
theorem dX12_hour_59 : decode cX12_hour 59 = .ok (.istore_n 1, 1) := by decide +kernel
theorem dX12_hour_60 : decode cX12_hour 60 = .ok (.iload_n 1, 1) := by decide +kernel
theorem dX12_hour_61 : decode cX12_hour 61 = .ok (.aload_n 0, 1) := by decide +kernel
theorem dX12_hour_62 : decode cX12_hour 62 = .ok (.getfield 7, 3) := by decide +kernel
theorem dX12_hour_65 : decode cX12_hour 65 = .ok (.iconst 0, 1) := by decide +kernel
theorem dX12_hour_66 : decode cX12_hour 66 = .ok (.iaload, 1) := by decide +kernel
theorem dX12_hour_67 : decode cX12_hour 67 = .ok (.if_icmp .ge 35, 3) := by decide +kernel
theorem dX12_hour_70 : decode cX12_hour 70 = .ok (.iload_n 1, 1) := by decide +kernel
theorem dX12_hour_71 : decode cX12_hour 71 = .ok (.iconst 1, 1) := by decide +kernel
theorem dX12_hour_72 : decode cX12_hour 72 = .ok (.iadd, 1) := by decide +kernel
theorem dX12_hour_73 : decode cX12_hour 73 = .ok (.istore_n 2, 1) := by decide +kernel
theorem dX12_hour_74 : decode cX12_hour 74 = .ok (.iload_n 2, 1) := by decide +kernel
theorem dX12_hour_75 : decode cX12_hour 75 = .ok (.aload_n 0, 1) := by decide +kernel
theorem dX12_hour_76 : decode cX12_hour 76 = .ok (.getfield 7, 3) := by decide +kernel
theorem dX12_hour_79 : decode cX12_hour 79 = .ok (.iconst 0, 1) := by decide +kernel
theorem dX12_hour_80 : decode cX12_hour 80 = .ok (.iaload, 1) := by decide +kernel
theorem dX12_hour_81 : decode cX12_hour 81 = .ok (.if_icmp .ge 15, 3) := by decide +kernel
theorem dX12_hour_84 : decode cX12_hour 84 = .ok (.aload_n 0, 1) := by decide +kernel
theorem dX12_hour_85 : decode cX12_hour 85 = .ok (.iload_n 1, 1) := by decide +kernel
theorem dX12_hour_86 : decode cX12_hour 86 = .ok (.iload_n 2, 1) := by decide +kernel
theorem dX12_hour_87 : decode cX12_hour 87 = .ok (.invokevirtual 117, 3) := by decide +kernel
theorem dX12_hour_90 : decode cX12_hour 90 = .ok (.iinc 2 1, 3) := by decide +kernel
theorem dX12_hour_93 : decode cX12_hour 93 = .ok (.goto (-19), 3) := by decide +kernel
theorem dX12_hour_96 : decode cX12_hour 96 = .ok (.iinc 1 1, 3) := by decide +kernel
theorem dX12_hour_99 : decode cX12_hour 99 = .ok (.goto (-39), 3) := by decide +kernel
theorem dX12_hour_102 : decode cX12_hour 102 = .ok (.iconst 0, 1) := by decide +kernel
theorem dX12_hour_103 : decode cX12_hour 103 = .ok (.istore_n 1, 1) := by decide +kernel
theorem dX12_hour_104 : decode cX12_hour 104 = .ok (.iload_n 1, 1) := by decide +kernel
theorem dX12_hour_105 : decode cX12_hour 105 = .ok (.aload_n 0, 1) := by decide +kernel
theorem dX12_hour_106 : decode cX12_hour 106 = .ok (.getfield 7, 3) := by decide +kernel
theorem dX12_hour_109 : decode cX12_hour 109 = .ok (.iconst 0, 1) := by decide +kernel
theorem dX12_hour_110 : decode cX12_hour 110 = .ok (.iaload, 1) := by decide +kernel
theorem dX12_hour_111 : decode cX12_hour 111 = .ok (.if_icmp .ge 14, 3) := by decide +kernel
theorem dX12_hour_114 : decode cX12_hour 114 = .ok (.aload_n 0, 1) := by decide +kernel
theorem dX12_hour_115 : decode cX12_hour 115 = .ok (.iload_n 1, 1) := by decide +kernel
theorem dX12_hour_116 : decode cX12_hour 116 = .ok (.invokevirtual 121, 3) := by decide +kernel
theorem dX12_hour_119 : decode cX12_hour 119 = .ok (.iinc 1 1, 3) := by decide +kernel
theorem dX12_hour_122 : decode cX12_hour 122 = .ok (.goto (-18), 3) := by decide +kernel
theorem dX12_hour_125 : decode cX12_hour 125 = .ok (.aload_n 0, 1) := by decide +kernel
theorem dX12_hour_126 : decode cX12_hour 126 = .ok (.getfield 7, 3) := by decide +kernel
theorem dX12_hour_129 : decode cX12_hour 129 = .ok (.iconst 1, 1) := by decide +kernel
theorem dX12_hour_130 : decode cX12_hour 130 = .ok (.dup2, 1) := by decide +kernel
theorem dX12_hour_131 : decode cX12_hour 131 = .ok (.iaload, 1) := by decide +kernel
theorem dX12_hour_132 : decode cX12_hour 132 = .ok (.iconst 1, 1) := by decide +kernel
theorem dX12_hour_133 : decode cX12_hour 133 = .ok (.iadd, 1) := by decide +kernel
theorem dX12_hour_134 : decode cX12_hour 134 = .ok (.iastore, 1) := by decide +kernel
theorem dX12_hour_135 : decode cX12_hour 135 = .ok (.return_, 1) := by decide +kernel
theorem dX12_goes_0 : decode cX12_goes 0 = .ok (.iconst 0, 1) := by decide +kernel
theorem dX12_goes_1 : decode cX12_goes 1 = .ok (.istore_n 2, 1) := by decide +kernel
theorem dX12_goes_2 : decode cX12_goes 2 = .ok (.iload_n 2, 1) := by decide +kernel
theorem dX12_goes_3 : decode cX12_goes 3 = .ok (.iload_n 1, 1) := by decide +kernel
theorem dX12_goes_4 : decode cX12_goes 4 = .ok (.if_icmp .ge 13, 3) := by decide +kernel
theorem dX12_goes_7 : decode cX12_goes 7 = .ok (.aload_n 0, 1) := by decide +kernel
theorem dX12_goes_8 : decode cX12_goes 8 = .ok (.invokevirtual 124, 3) := by decide +kernel
theorem dX12_goes_11 : decode cX12_goes 11 = .ok (.iinc 2 1, 3) := by decide +kernel
theorem dX12_goes_14 : decode cX12_goes 14 = .ok (.goto (-12), 3) := by decide +kernel
theorem dX12_goes_17 : decode cX12_goes 17 = .ok (.return_, 1) := by decide +kernel
theorem dX12_woodAll_0 : decode cX12_woodAll 0 = .ok (.iconst 0, 1) := by decide +kernel
theorem dX12_woodAll_1 : decode cX12_woodAll 1 = .ok (.istore_n 1, 1) := by decide +kernel
theorem dX12_woodAll_2 : decode cX12_woodAll 2 = .ok (.iconst 0, 1) := by decide +kernel
theorem dX12_woodAll_3 : decode cX12_woodAll 3 = .ok (.istore_n 2, 1) := by decide +kernel
theorem dX12_woodAll_4 : decode cX12_woodAll 4 = .ok (.iload_n 2, 1) := by decide +kernel
theorem dX12_woodAll_5 : decode cX12_woodAll 5 = .ok (.bipush 25, 2) := by decide +kernel
theorem dX12_woodAll_7 : decode cX12_woodAll 7 = .ok (.if_icmp .ge 20, 3) := by decide +kernel
theorem dX12_woodAll_10 : decode cX12_woodAll 10 = .ok (.iload_n 1, 1) := by decide +kernel
theorem dX12_woodAll_11 : decode cX12_woodAll 11 = .ok (.aload_n 0, 1) := by decide +kernel
theorem dX12_woodAll_12 : decode cX12_woodAll 12 = .ok (.getfield 7, 3) := by decide +kernel
theorem dX12_woodAll_15 : decode cX12_woodAll 15 = .ok (.iconst 5, 1) := by decide +kernel
theorem dX12_woodAll_16 : decode cX12_woodAll 16 = .ok (.iload_n 2, 1) := by decide +kernel
theorem dX12_woodAll_17 : decode cX12_woodAll 17 = .ok (.iadd, 1) := by decide +kernel
theorem dX12_woodAll_18 : decode cX12_woodAll 18 = .ok (.iaload, 1) := by decide +kernel
theorem dX12_woodAll_19 : decode cX12_woodAll 19 = .ok (.iadd, 1) := by decide +kernel
theorem dX12_woodAll_20 : decode cX12_woodAll 20 = .ok (.istore_n 1, 1) := by decide +kernel
theorem dX12_woodAll_21 : decode cX12_woodAll 21 = .ok (.iinc 2 1, 3) := by decide +kernel
theorem dX12_woodAll_24 : decode cX12_woodAll 24 = .ok (.goto (-20), 3) := by decide +kernel
theorem dX12_woodAll_27 : decode cX12_woodAll 27 = .ok (.iload_n 1, 1) := by decide +kernel
theorem dX12_woodAll_28 : decode cX12_woodAll 28 = .ok (.ireturn, 1) := by decide +kernel
theorem dX12_sumOf_0 : decode cX12_sumOf 0 = .ok (.iconst 0, 1) := by decide +kernel
theorem dX12_sumOf_1 : decode cX12_sumOf 1 = .ok (.istore_n 2, 1) := by decide +kernel
theorem dX12_sumOf_2 : decode cX12_sumOf 2 = .ok (.iconst 0, 1) := by decide +kernel
theorem dX12_sumOf_3 : decode cX12_sumOf 3 = .ok (.istore_n 3, 1) := by decide +kernel
theorem dX12_sumOf_4 : decode cX12_sumOf 4 = .ok (.iload_n 3, 1) := by decide +kernel
theorem dX12_sumOf_5 : decode cX12_sumOf 5 = .ok (.aload_n 0, 1) := by decide +kernel
theorem dX12_sumOf_6 : decode cX12_sumOf 6 = .ok (.getfield 7, 3) := by decide +kernel
theorem dX12_sumOf_9 : decode cX12_sumOf 9 = .ok (.iconst 0, 1) := by decide +kernel
theorem dX12_sumOf_10 : decode cX12_sumOf 10 = .ok (.iaload, 1) := by decide +kernel
theorem dX12_sumOf_11 : decode cX12_sumOf 11 = .ok (.if_icmp .ge 18, 3) := by decide +kernel
theorem dX12_sumOf_14 : decode cX12_sumOf 14 = .ok (.iload_n 2, 1) := by decide +kernel
theorem dX12_sumOf_15 : decode cX12_sumOf 15 = .ok (.aload_n 0, 1) := by decide +kernel
theorem dX12_sumOf_16 : decode cX12_sumOf 16 = .ok (.iload_n 3, 1) := by decide +kernel
theorem dX12_sumOf_17 : decode cX12_sumOf 17 = .ok (.iload_n 1, 1) := by decide +kernel
theorem dX12_sumOf_18 : decode cX12_sumOf 18 = .ok (.invokevirtual 62, 3) := by decide +kernel
theorem dX12_sumOf_21 : decode cX12_sumOf 21 = .ok (.iadd, 1) := by decide +kernel
theorem dX12_sumOf_22 : decode cX12_sumOf 22 = .ok (.istore_n 2, 1) := by decide +kernel
theorem dX12_sumOf_23 : decode cX12_sumOf 23 = .ok (.iinc 3 1, 3) := by decide +kernel
theorem dX12_sumOf_26 : decode cX12_sumOf 26 = .ok (.goto (-22), 3) := by decide +kernel
theorem dX12_sumOf_29 : decode cX12_sumOf 29 = .ok (.iload_n 2, 1) := by decide +kernel
theorem dX12_sumOf_30 : decode cX12_sumOf 30 = .ok (.ireturn, 1) := by decide +kernel
theorem dX12_go_0 : decode cX12_go 0 = .ok (.iload_n 1, 1) := by decide +kernel
theorem dX12_go_1 : decode cX12_go 1 = .ok (.i2l, 1) := by decide +kernel
theorem dX12_go_2 : decode cX12_go 2 = .ok (.lconst 1, 1) := by decide +kernel
theorem dX12_go_3 : decode cX12_go 3 = .ok (.ldc2_w 127, 3) := by decide +kernel
theorem dX12_go_6 : decode cX12_go 6 = .ok (.invokestatic 52, 3) := by decide +kernel
theorem dX12_go_9 : decode cX12_go 9 = .ok (.ifCond .ne 10, 3) := by decide +kernel
theorem dX12_go_12 : decode cX12_go 12 = .ok (.aload_n 0, 1) := by decide +kernel
theorem dX12_go_13 : decode cX12_go 13 = .ok (.ldc 40, 2) := by decide +kernel
theorem dX12_go_15 : decode cX12_go 15 = .ok (.invokevirtual 42, 3) := by decide +kernel
theorem dX12_go_18 : decode cX12_go 18 = .ok (.ireturn, 1) := by decide +kernel
theorem dX12_go_19 : decode cX12_go 19 = .ok (.aload_n 0, 1) := by decide +kernel
theorem dX12_go_20 : decode cX12_go 20 = .ok (.getfield 7, 3) := by decide +kernel
theorem dX12_go_23 : decode cX12_go 23 = .ok (.iconst 1, 1) := by decide +kernel
theorem dX12_go_24 : decode cX12_go 24 = .ok (.iaload, 1) := by decide +kernel
theorem dX12_go_25 : decode cX12_go 25 = .ok (.iload_n 1, 1) := by decide +kernel
theorem dX12_go_26 : decode cX12_go 26 = .ok (.iadd, 1) := by decide +kernel
theorem dX12_go_27 : decode cX12_go 27 = .ok (.ldc 109, 2) := by decide +kernel
theorem dX12_go_29 : decode cX12_go 29 = .ok (.if_icmp .le 10, 3) := by decide +kernel
theorem dX12_go_32 : decode cX12_go 32 = .ok (.aload_n 0, 1) := by decide +kernel
theorem dX12_go_33 : decode cX12_go 33 = .ok (.ldc 129, 2) := by decide +kernel
theorem dX12_go_35 : decode cX12_go 35 = .ok (.invokevirtual 42, 3) := by decide +kernel
theorem dX12_go_38 : decode cX12_go 38 = .ok (.ireturn, 1) := by decide +kernel
theorem dX12_go_39 : decode cX12_go 39 = .ok (.aload_n 0, 1) := by decide +kernel
theorem dX12_go_40 : decode cX12_go 40 = .ok (.iload_n 1, 1) := by decide +kernel
theorem dX12_go_41 : decode cX12_go 41 = .ok (.invokevirtual 130, 3) := by decide +kernel
theorem dX12_go_44 : decode cX12_go 44 = .ok (.aload_n 0, 1) := by decide +kernel
theorem dX12_go_45 : decode cX12_go 45 = .ok (.invokevirtual 133, 3) := by decide +kernel
theorem dX12_go_48 : decode cX12_go 48 = .ok (.ireturn, 1) := by decide +kernel
theorem dX12_wooded_0 : decode cX12_wooded 0 = .ok (.iconst 0, 1) := by decide +kernel
theorem dX12_wooded_1 : decode cX12_wooded 1 = .ok (.istore_n 1, 1) := by decide +kernel
theorem dX12_wooded_2 : decode cX12_wooded 2 = .ok (.iconst 0, 1) := by decide +kernel
theorem dX12_wooded_3 : decode cX12_wooded 3 = .ok (.istore_n 2, 1) := by decide +kernel
theorem dX12_wooded_4 : decode cX12_wooded 4 = .ok (.iload_n 2, 1) := by decide +kernel
theorem dX12_wooded_5 : decode cX12_wooded 5 = .ok (.bipush 25, 2) := by decide +kernel
theorem dX12_wooded_7 : decode cX12_wooded 7 = .ok (.if_icmp .ge 30, 3) := by decide +kernel
theorem dX12_wooded_10 : decode cX12_wooded 10 = .ok (.iload_n 1, 1) := by decide +kernel
theorem dX12_wooded_11 : decode cX12_wooded 11 = .ok (.aload_n 0, 1) := by decide +kernel
theorem dX12_wooded_12 : decode cX12_wooded 12 = .ok (.getfield 7, 3) := by decide +kernel
theorem dX12_wooded_15 : decode cX12_wooded 15 = .ok (.iconst 5, 1) := by decide +kernel
theorem dX12_wooded_16 : decode cX12_wooded 16 = .ok (.iload_n 2, 1) := by decide +kernel
theorem dX12_wooded_17 : decode cX12_wooded 17 = .ok (.iadd, 1) := by decide +kernel
theorem dX12_wooded_18 : decode cX12_wooded 18 = .ok (.iaload, 1) := by decide +kernel
theorem dX12_wooded_19 : decode cX12_wooded 19 = .ok (.ifCond .le 9, 3) := by decide +kernel
theorem dX12_wooded_22 : decode cX12_wooded 22 = .ok (.iconst 1, 1) := by decide +kernel
theorem dX12_wooded_23 : decode cX12_wooded 23 = .ok (.iload_n 2, 1) := by decide +kernel
theorem dX12_wooded_24 : decode cX12_wooded 24 = .ok (.ishl, 1) := by decide +kernel
theorem dX12_wooded_25 : decode cX12_wooded 25 = .ok (.goto 4, 3) := by decide +kernel
theorem dX12_wooded_28 : decode cX12_wooded 28 = .ok (.iconst 0, 1) := by decide +kernel
theorem dX12_wooded_29 : decode cX12_wooded 29 = .ok (.ior, 1) := by decide +kernel
theorem dX12_wooded_30 : decode cX12_wooded 30 = .ok (.istore_n 1, 1) := by decide +kernel
theorem dX12_wooded_31 : decode cX12_wooded 31 = .ok (.iinc 2 1, 3) := by decide +kernel
theorem dX12_wooded_34 : decode cX12_wooded 34 = .ok (.goto (-30), 3) := by decide +kernel
theorem dX12_wooded_37 : decode cX12_wooded 37 = .ok (.iload_n 1, 1) := by decide +kernel
theorem dX12_wooded_38 : decode cX12_wooded 38 = .ok (.ireturn, 1) := by decide +kernel
theorem dX12_smoking_0 : decode cX12_smoking 0 = .ok (.iconst 0, 1) := by decide +kernel
theorem dX12_smoking_1 : decode cX12_smoking 1 = .ok (.istore_n 1, 1) := by decide +kernel
theorem dX12_smoking_2 : decode cX12_smoking 2 = .ok (.iconst 0, 1) := by decide +kernel
theorem dX12_smoking_3 : decode cX12_smoking 3 = .ok (.istore_n 2, 1) := by decide +kernel
theorem dX12_smoking_4 : decode cX12_smoking 4 = .ok (.iload_n 2, 1) := by decide +kernel
theorem dX12_smoking_5 : decode cX12_smoking 5 = .ok (.aload_n 0, 1) := by decide +kernel
theorem dX12_smoking_6 : decode cX12_smoking 6 = .ok (.getfield 7, 3) := by decide +kernel
theorem dX12_smoking_9 : decode cX12_smoking 9 = .ok (.iconst 0, 1) := by decide +kernel
theorem dX12_smoking_10 : decode cX12_smoking 10 = .ok (.iaload, 1) := by decide +kernel
theorem dX12_smoking_11 : decode cX12_smoking 11 = .ok (.if_icmp .ge 28, 3) := by decide +kernel
theorem dX12_smoking_14 : decode cX12_smoking 14 = .ok (.iload_n 1, 1) := by decide +kernel
theorem dX12_smoking_15 : decode cX12_smoking 15 = .ok (.aload_n 0, 1) := by decide +kernel
theorem dX12_smoking_16 : decode cX12_smoking 16 = .ok (.iload_n 2, 1) := by decide +kernel
theorem dX12_smoking_17 : decode cX12_smoking 17 = .ok (.iconst 5, 1) := by decide +kernel
theorem dX12_smoking_18 : decode cX12_smoking 18 = .ok (.invokevirtual 62, 3) := by decide +kernel
theorem dX12_smoking_21 : decode cX12_smoking 21 = .ok (.ifCond .le 9, 3) := by decide +kernel
theorem dX12_smoking_24 : decode cX12_smoking 24 = .ok (.iconst 1, 1) := by decide +kernel
theorem dX12_smoking_25 : decode cX12_smoking 25 = .ok (.iload_n 2, 1) := by decide +kernel
theorem dX12_smoking_26 : decode cX12_smoking 26 = .ok (.ishl, 1) := by decide +kernel
theorem dX12_smoking_27 : decode cX12_smoking 27 = .ok (.goto 4, 3) := by decide +kernel
theorem dX12_smoking_30 : decode cX12_smoking 30 = .ok (.iconst 0, 1) := by decide +kernel
theorem dX12_smoking_31 : decode cX12_smoking 31 = .ok (.ior, 1) := by decide +kernel
theorem dX12_smoking_32 : decode cX12_smoking 32 = .ok (.istore_n 1, 1) := by decide +kernel
theorem dX12_smoking_33 : decode cX12_smoking 33 = .ok (.iinc 2 1, 3) := by decide +kernel
theorem dX12_smoking_36 : decode cX12_smoking 36 = .ok (.goto (-32), 3) := by decide +kernel
theorem dX12_smoking_39 : decode cX12_smoking 39 = .ok (.iload_n 1, 1) := by decide +kernel
theorem dX12_smoking_40 : decode cX12_smoking 40 = .ok (.ireturn, 1) := by decide +kernel
theorem dX12_now_0 : decode cX12_now 0 = .ok (.iload_n 1, 1) := by decide +kernel
theorem dX12_now_1 : decode cX12_now 1 = .ok (.tableswitch 84 0 6 #[43, 50, 55, 61, 68, 74, 79], 43) := by decide +kernel
theorem dX12_now_44 : decode cX12_now 44 = .ok (.aload_n 0, 1) := by decide +kernel
theorem dX12_now_45 : decode cX12_now 45 = .ok (.getfield 7, 3) := by decide +kernel
theorem dX12_now_48 : decode cX12_now 48 = .ok (.iconst 1, 1) := by decide +kernel
theorem dX12_now_49 : decode cX12_now 49 = .ok (.iaload, 1) := by decide +kernel
theorem dX12_now_50 : decode cX12_now 50 = .ok (.ireturn, 1) := by decide +kernel
theorem dX12_now_51 : decode cX12_now 51 = .ok (.aload_n 0, 1) := by decide +kernel
theorem dX12_now_52 : decode cX12_now 52 = .ok (.invokevirtual 133, 3) := by decide +kernel
theorem dX12_now_55 : decode cX12_now 55 = .ok (.ireturn, 1) := by decide +kernel
theorem dX12_now_56 : decode cX12_now 56 = .ok (.aload_n 0, 1) := by decide +kernel
theorem dX12_now_57 : decode cX12_now 57 = .ok (.iconst 5, 1) := by decide +kernel
theorem dX12_now_58 : decode cX12_now 58 = .ok (.invokevirtual 137, 3) := by decide +kernel
theorem dX12_now_61 : decode cX12_now 61 = .ok (.ireturn, 1) := by decide +kernel
theorem dX12_now_62 : decode cX12_now 62 = .ok (.aload_n 0, 1) := by decide +kernel
theorem dX12_now_63 : decode cX12_now 63 = .ok (.getfield 7, 3) := by decide +kernel
theorem dX12_now_66 : decode cX12_now 66 = .ok (.iconst 4, 1) := by decide +kernel
theorem dX12_now_67 : decode cX12_now 67 = .ok (.iaload, 1) := by decide +kernel
theorem dX12_now_68 : decode cX12_now 68 = .ok (.ireturn, 1) := by decide +kernel
theorem dX12_now_69 : decode cX12_now 69 = .ok (.aload_n 0, 1) := by decide +kernel
theorem dX12_now_70 : decode cX12_now 70 = .ok (.iconst 3, 1) := by decide +kernel
theorem dX12_now_71 : decode cX12_now 71 = .ok (.invokevirtual 137, 3) := by decide +kernel
theorem dX12_now_74 : decode cX12_now 74 = .ok (.ireturn, 1) := by decide +kernel
theorem dX12_now_75 : decode cX12_now 75 = .ok (.aload_n 0, 1) := by decide +kernel
theorem dX12_now_76 : decode cX12_now 76 = .ok (.invokevirtual 140, 3) := by decide +kernel
theorem dX12_now_79 : decode cX12_now 79 = .ok (.ireturn, 1) := by decide +kernel
theorem dX12_now_80 : decode cX12_now 80 = .ok (.aload_n 0, 1) := by decide +kernel
theorem dX12_now_81 : decode cX12_now 81 = .ok (.invokevirtual 143, 3) := by decide +kernel
theorem dX12_now_84 : decode cX12_now 84 = .ok (.ireturn, 1) := by decide +kernel
theorem dX12_now_85 : decode cX12_now 85 = .ok (.aload_n 0, 1) := by decide +kernel
theorem dX12_now_86 : decode cX12_now 86 = .ok (.ldc 40, 2) := by decide +kernel
theorem dX12_now_88 : decode cX12_now 88 = .ok (.invokevirtual 42, 3) := by decide +kernel
theorem dX12_now_91 : decode cX12_now 91 = .ok (.ireturn, 1) := by decide +kernel
theorem dX12_thenAt_0 : decode cX12_thenAt 0 = .ok (.aload_n 0, 1) := by decide +kernel
theorem dX12_thenAt_1 : decode cX12_thenAt 1 = .ok (.getfield 7, 3) := by decide +kernel
theorem dX12_thenAt_4 : decode cX12_thenAt 4 = .ok (.aload_n 0, 1) := by decide +kernel
theorem dX12_thenAt_5 : decode cX12_thenAt 5 = .ok (.getfield 19, 3) := by decide +kernel
theorem dX12_thenAt_8 : decode cX12_thenAt 8 = .ok (.invokestatic 146, 3) := by decide +kernel
theorem dX12_thenAt_11 : decode cX12_thenAt 11 = .ok (.aload_n 0, 1) := by decide +kernel
theorem dX12_thenAt_12 : decode cX12_thenAt 12 = .ok (.iload_n 2, 1) := by decide +kernel
theorem dX12_thenAt_13 : decode cX12_thenAt 13 = .ok (.invokevirtual 130, 3) := by decide +kernel
theorem dX12_thenAt_16 : decode cX12_thenAt 16 = .ok (.aload_n 0, 1) := by decide +kernel
theorem dX12_thenAt_17 : decode cX12_thenAt 17 = .ok (.getfield 7, 3) := by decide +kernel
theorem dX12_thenAt_20 : decode cX12_thenAt 20 = .ok (.iload_n 1, 1) := by decide +kernel
theorem dX12_thenAt_21 : decode cX12_thenAt 21 = .ok (.iaload, 1) := by decide +kernel
theorem dX12_thenAt_22 : decode cX12_thenAt 22 = .ok (.istore_n 3, 1) := by decide +kernel
theorem dX12_thenAt_23 : decode cX12_thenAt 23 = .ok (.aload_n 0, 1) := by decide +kernel
theorem dX12_thenAt_24 : decode cX12_thenAt 24 = .ok (.getfield 19, 3) := by decide +kernel
theorem dX12_thenAt_27 : decode cX12_thenAt 27 = .ok (.aload_n 0, 1) := by decide +kernel
theorem dX12_thenAt_28 : decode cX12_thenAt 28 = .ok (.getfield 7, 3) := by decide +kernel
theorem dX12_thenAt_31 : decode cX12_thenAt 31 = .ok (.invokestatic 146, 3) := by decide +kernel
theorem dX12_thenAt_34 : decode cX12_thenAt 34 = .ok (.iload_n 3, 1) := by decide +kernel
theorem dX12_thenAt_35 : decode cX12_thenAt 35 = .ok (.ireturn, 1) := by decide +kernel
theorem dX12_woodThen_0 : decode cX12_woodThen 0 = .ok (.aload_n 0, 1) := by decide +kernel
theorem dX12_woodThen_1 : decode cX12_woodThen 1 = .ok (.getfield 7, 3) := by decide +kernel
theorem dX12_woodThen_4 : decode cX12_woodThen 4 = .ok (.aload_n 0, 1) := by decide +kernel
theorem dX12_woodThen_5 : decode cX12_woodThen 5 = .ok (.getfield 19, 3) := by decide +kernel
theorem dX12_woodThen_8 : decode cX12_woodThen 8 = .ok (.invokestatic 146, 3) := by decide +kernel
theorem dX12_woodThen_11 : decode cX12_woodThen 11 = .ok (.aload_n 0, 1) := by decide +kernel
theorem dX12_woodThen_12 : decode cX12_woodThen 12 = .ok (.iload_n 1, 1) := by decide +kernel
theorem dX12_woodThen_13 : decode cX12_woodThen 13 = .ok (.invokevirtual 130, 3) := by decide +kernel
theorem dX12_woodThen_16 : decode cX12_woodThen 16 = .ok (.aload_n 0, 1) := by decide +kernel
theorem dX12_woodThen_17 : decode cX12_woodThen 17 = .ok (.invokevirtual 133, 3) := by decide +kernel
theorem dX12_woodThen_20 : decode cX12_woodThen 20 = .ok (.istore_n 2, 1) := by decide +kernel
theorem dX12_woodThen_21 : decode cX12_woodThen 21 = .ok (.aload_n 0, 1) := by decide +kernel
theorem dX12_woodThen_22 : decode cX12_woodThen 22 = .ok (.getfield 19, 3) := by decide +kernel
theorem dX12_woodThen_25 : decode cX12_woodThen 25 = .ok (.aload_n 0, 1) := by decide +kernel
theorem dX12_woodThen_26 : decode cX12_woodThen 26 = .ok (.getfield 7, 3) := by decide +kernel
theorem dX12_woodThen_29 : decode cX12_woodThen 29 = .ok (.invokestatic 146, 3) := by decide +kernel
theorem dX12_woodThen_32 : decode cX12_woodThen 32 = .ok (.iload_n 2, 1) := by decide +kernel
theorem dX12_woodThen_33 : decode cX12_woodThen 33 = .ok (.ireturn, 1) := by decide +kernel
theorem dX12_ahead_0 : decode cX12_ahead 0 = .ok (.aload_n 0, 1) := by decide +kernel
theorem dX12_ahead_1 : decode cX12_ahead 1 = .ok (.iload_n 1, 1) := by decide +kernel
theorem dX12_ahead_2 : decode cX12_ahead 2 = .ok (.invokevirtual 77, 3) := by decide +kernel
theorem dX12_ahead_5 : decode cX12_ahead 5 = .ok (.ifCond .eq 42, 3) := by decide +kernel
theorem dX12_ahead_8 : decode cX12_ahead 8 = .ok (.iload_n 2, 1) := by decide +kernel
theorem dX12_ahead_9 : decode cX12_ahead 9 = .ok (.i2l, 1) := by decide +kernel
theorem dX12_ahead_10 : decode cX12_ahead 10 = .ok (.ldc2_w 60, 3) := by decide +kernel
theorem dX12_ahead_13 : decode cX12_ahead 13 = .ok (.ldc2_w 70, 3) := by decide +kernel
theorem dX12_ahead_16 : decode cX12_ahead 16 = .ok (.invokestatic 52, 3) := by decide +kernel
theorem dX12_ahead_19 : decode cX12_ahead 19 = .ok (.ifCond .eq 28, 3) := by decide +kernel
theorem dX12_ahead_22 : decode cX12_ahead 22 = .ok (.iload_n 3, 1) := by decide +kernel
theorem dX12_ahead_23 : decode cX12_ahead 23 = .ok (.i2l, 1) := by decide +kernel
theorem dX12_ahead_24 : decode cX12_ahead 24 = .ok (.lconst 0, 1) := by decide +kernel
theorem dX12_ahead_25 : decode cX12_ahead 25 = .ok (.ldc2_w 150, 3) := by decide +kernel
theorem dX12_ahead_28 : decode cX12_ahead 28 = .ok (.invokestatic 52, 3) := by decide +kernel
theorem dX12_ahead_31 : decode cX12_ahead 31 = .ok (.ifCond .eq 16, 3) := by decide +kernel
theorem dX12_ahead_34 : decode cX12_ahead 34 = .ok (.aload_n 0, 1) := by decide +kernel
theorem dX12_ahead_35 : decode cX12_ahead 35 = .ok (.iload_n 1, 1) := by decide +kernel
theorem dX12_ahead_36 : decode cX12_ahead 36 = .ok (.iload_n 2, 1) := by decide +kernel
theorem dX12_ahead_37 : decode cX12_ahead 37 = .ok (.invokestatic 67, 3) := by decide +kernel
theorem dX12_ahead_40 : decode cX12_ahead 40 = .ok (.iload_n 3, 1) := by decide +kernel
theorem dX12_ahead_41 : decode cX12_ahead 41 = .ok (.invokevirtual 152, 3) := by decide +kernel
theorem dX12_ahead_44 : decode cX12_ahead 44 = .ok (.goto 9, 3) := by decide +kernel
theorem dX12_ahead_47 : decode cX12_ahead 47 = .ok (.aload_n 0, 1) := by decide +kernel
theorem dX12_ahead_48 : decode cX12_ahead 48 = .ok (.ldc 40, 2) := by decide +kernel
theorem dX12_ahead_50 : decode cX12_ahead 50 = .ok (.invokevirtual 42, 3) := by decide +kernel
theorem dX12_ahead_53 : decode cX12_ahead 53 = .ok (.ireturn, 1) := by decide +kernel
theorem dX12_grown_0 : decode cX12_grown 0 = .ok (.iload_n 1, 1) := by decide +kernel
theorem dX12_grown_1 : decode cX12_grown 1 = .ok (.invokestatic 46, 3) := by decide +kernel
theorem dX12_grown_4 : decode cX12_grown 4 = .ok (.ifCond .eq 26, 3) := by decide +kernel
theorem dX12_grown_7 : decode cX12_grown 7 = .ok (.iload_n 2, 1) := by decide +kernel
theorem dX12_grown_8 : decode cX12_grown 8 = .ok (.i2l, 1) := by decide +kernel
theorem dX12_grown_9 : decode cX12_grown 9 = .ok (.lconst 0, 1) := by decide +kernel
theorem dX12_grown_10 : decode cX12_grown 10 = .ok (.ldc2_w 150, 3) := by decide +kernel
theorem dX12_grown_13 : decode cX12_grown 13 = .ok (.invokestatic 52, 3) := by decide +kernel
theorem dX12_grown_16 : decode cX12_grown 16 = .ok (.ifCond .eq 14, 3) := by decide +kernel
theorem dX12_grown_19 : decode cX12_grown 19 = .ok (.aload_n 0, 1) := by decide +kernel
theorem dX12_grown_20 : decode cX12_grown 20 = .ok (.iconst 5, 1) := by decide +kernel
theorem dX12_grown_21 : decode cX12_grown 21 = .ok (.iload_n 1, 1) := by decide +kernel
theorem dX12_grown_22 : decode cX12_grown 22 = .ok (.iadd, 1) := by decide +kernel
theorem dX12_grown_23 : decode cX12_grown 23 = .ok (.iload_n 2, 1) := by decide +kernel
theorem dX12_grown_24 : decode cX12_grown 24 = .ok (.invokevirtual 152, 3) := by decide +kernel
theorem dX12_grown_27 : decode cX12_grown 27 = .ok (.goto 9, 3) := by decide +kernel
theorem dX12_grown_30 : decode cX12_grown 30 = .ok (.aload_n 0, 1) := by decide +kernel
theorem dX12_grown_31 : decode cX12_grown 31 = .ok (.ldc 40, 2) := by decide +kernel
theorem dX12_grown_33 : decode cX12_grown 33 = .ok (.invokevirtual 42, 3) := by decide +kernel
theorem dX12_grown_36 : decode cX12_grown 36 = .ok (.ireturn, 1) := by decide +kernel
theorem dX12_when_0 : decode cX12_when 0 = .ok (.iload_n 1, 1) := by decide +kernel
theorem dX12_when_1 : decode cX12_when 1 = .ok (.invokestatic 46, 3) := by decide +kernel
theorem dX12_when_4 : decode cX12_when 4 = .ok (.ifCond .eq 15, 3) := by decide +kernel
theorem dX12_when_7 : decode cX12_when 7 = .ok (.iload_n 2, 1) := by decide +kernel
theorem dX12_when_8 : decode cX12_when 8 = .ok (.i2l, 1) := by decide +kernel
theorem dX12_when_9 : decode cX12_when 9 = .ok (.lconst 0, 1) := by decide +kernel
theorem dX12_when_10 : decode cX12_when 10 = .ok (.ldc2_w 50, 3) := by decide +kernel
theorem dX12_when_13 : decode cX12_when 13 = .ok (.invokestatic 52, 3) := by decide +kernel
theorem dX12_when_16 : decode cX12_when 16 = .ok (.ifCond .ne 10, 3) := by decide +kernel
theorem dX12_when_19 : decode cX12_when 19 = .ok (.aload_n 0, 1) := by decide +kernel
theorem dX12_when_20 : decode cX12_when 20 = .ok (.ldc 40, 2) := by decide +kernel
theorem dX12_when_22 : decode cX12_when 22 = .ok (.invokevirtual 42, 3) := by decide +kernel
theorem dX12_when_25 : decode cX12_when 25 = .ok (.ireturn, 1) := by decide +kernel
theorem dX12_when_26 : decode cX12_when 26 = .ok (.aload_n 0, 1) := by decide +kernel
theorem dX12_when_27 : decode cX12_when 27 = .ok (.getfield 7, 3) := by decide +kernel
theorem dX12_when_30 : decode cX12_when 30 = .ok (.aload_n 0, 1) := by decide +kernel
theorem dX12_when_31 : decode cX12_when 31 = .ok (.getfield 19, 3) := by decide +kernel
theorem dX12_when_34 : decode cX12_when 34 = .ok (.invokestatic 146, 3) := by decide +kernel
theorem dX12_when_37 : decode cX12_when 37 = .ok (.iconst 0, 1) := by decide +kernel
theorem dX12_when_38 : decode cX12_when 38 = .ok (.istore_n 3, 1) := by decide +kernel
theorem dX12_when_39 : decode cX12_when 39 = .ok (.iload_n 3, 1) := by decide +kernel
theorem dX12_when_40 : decode cX12_when 40 = .ok (.bipush 100, 2) := by decide +kernel
theorem dX12_when_42 : decode cX12_when 42 = .ok (.if_icmp .gt 25, 3) := by decide +kernel
theorem dX12_when_45 : decode cX12_when 45 = .ok (.aload_n 0, 1) := by decide +kernel
theorem dX12_when_46 : decode cX12_when 46 = .ok (.getfield 7, 3) := by decide +kernel
theorem dX12_when_49 : decode cX12_when 49 = .ok (.iconst 5, 1) := by decide +kernel
theorem dX12_when_50 : decode cX12_when 50 = .ok (.iload_n 1, 1) := by decide +kernel
theorem dX12_when_51 : decode cX12_when 51 = .ok (.iadd, 1) := by decide +kernel
theorem dX12_when_52 : decode cX12_when 52 = .ok (.iaload, 1) := by decide +kernel
theorem dX12_when_53 : decode cX12_when 53 = .ok (.iload_n 2, 1) := by decide +kernel
theorem dX12_when_54 : decode cX12_when 54 = .ok (.if_icmp .ge 13, 3) := by decide +kernel
theorem dX12_when_57 : decode cX12_when 57 = .ok (.aload_n 0, 1) := by decide +kernel
theorem dX12_when_58 : decode cX12_when 58 = .ok (.invokevirtual 124, 3) := by decide +kernel
theorem dX12_when_61 : decode cX12_when 61 = .ok (.iinc 3 1, 3) := by decide +kernel
theorem dX12_when_64 : decode cX12_when 64 = .ok (.goto (-25), 3) := by decide +kernel
theorem dX12_when_67 : decode cX12_when 67 = .ok (.aload_n 0, 1) := by decide +kernel
theorem dX12_when_68 : decode cX12_when 68 = .ok (.getfield 19, 3) := by decide +kernel
theorem dX12_when_71 : decode cX12_when 71 = .ok (.aload_n 0, 1) := by decide +kernel
theorem dX12_when_72 : decode cX12_when 72 = .ok (.getfield 7, 3) := by decide +kernel
theorem dX12_when_75 : decode cX12_when 75 = .ok (.invokestatic 146, 3) := by decide +kernel
theorem dX12_when_78 : decode cX12_when 78 = .ok (.iload_n 3, 1) := by decide +kernel
theorem dX12_when_79 : decode cX12_when 79 = .ok (.bipush 100, 2) := by decide +kernel
theorem dX12_when_81 : decode cX12_when 81 = .ok (.if_icmp .gt 7, 3) := by decide +kernel
theorem dX12_when_84 : decode cX12_when 84 = .ok (.iload_n 3, 1) := by decide +kernel
theorem dX12_when_85 : decode cX12_when 85 = .ok (.goto 9, 3) := by decide +kernel
theorem dX12_when_88 : decode cX12_when 88 = .ok (.aload_n 0, 1) := by decide +kernel
theorem dX12_when_89 : decode cX12_when 89 = .ok (.ldc 41, 2) := by decide +kernel
theorem dX12_when_91 : decode cX12_when 91 = .ok (.invokevirtual 42, 3) := by decide +kernel
theorem dX12_when_94 : decode cX12_when 94 = .ok (.ireturn, 1) := by decide +kernel
theorem dX12_whenMore_0 : decode cX12_whenMore 0 = .ok (.aload_n 0, 1) := by decide +kernel
theorem dX12_whenMore_1 : decode cX12_whenMore 1 = .ok (.getfield 7, 3) := by decide +kernel
theorem dX12_whenMore_4 : decode cX12_whenMore 4 = .ok (.aload_n 0, 1) := by decide +kernel
theorem dX12_whenMore_5 : decode cX12_whenMore 5 = .ok (.getfield 19, 3) := by decide +kernel
theorem dX12_whenMore_8 : decode cX12_whenMore 8 = .ok (.invokestatic 146, 3) := by decide +kernel
theorem dX12_whenMore_11 : decode cX12_whenMore 11 = .ok (.aload_n 0, 1) := by decide +kernel
theorem dX12_whenMore_12 : decode cX12_whenMore 12 = .ok (.getfield 7, 3) := by decide +kernel
theorem dX12_whenMore_15 : decode cX12_whenMore 15 = .ok (.iload_n 1, 1) := by decide +kernel
theorem dX12_whenMore_16 : decode cX12_whenMore 16 = .ok (.iaload, 1) := by decide +kernel
theorem dX12_whenMore_17 : decode cX12_whenMore 17 = .ok (.istore_n 2, 1) := by decide +kernel
theorem dX12_whenMore_18 : decode cX12_whenMore 18 = .ok (.iconst 0, 1) := by decide +kernel
theorem dX12_whenMore_19 : decode cX12_whenMore 19 = .ok (.istore_n 3, 1) := by decide +kernel
theorem dX12_whenMore_20 : decode cX12_whenMore 20 = .ok (.iload_n 3, 1) := by decide +kernel
theorem dX12_whenMore_21 : decode cX12_whenMore 21 = .ok (.bipush 100, 2) := by decide +kernel
theorem dX12_whenMore_23 : decode cX12_whenMore 23 = .ok (.if_icmp .gt 23, 3) := by decide +kernel
theorem dX12_whenMore_26 : decode cX12_whenMore 26 = .ok (.aload_n 0, 1) := by decide +kernel
theorem dX12_whenMore_27 : decode cX12_whenMore 27 = .ok (.getfield 7, 3) := by decide +kernel
theorem dX12_whenMore_30 : decode cX12_whenMore 30 = .ok (.iload_n 1, 1) := by decide +kernel
theorem dX12_whenMore_31 : decode cX12_whenMore 31 = .ok (.iaload, 1) := by decide +kernel
theorem dX12_whenMore_32 : decode cX12_whenMore 32 = .ok (.iload_n 2, 1) := by decide +kernel
theorem dX12_whenMore_33 : decode cX12_whenMore 33 = .ok (.if_icmp .gt 13, 3) := by decide +kernel
theorem dX12_whenMore_36 : decode cX12_whenMore 36 = .ok (.aload_n 0, 1) := by decide +kernel
theorem dX12_whenMore_37 : decode cX12_whenMore 37 = .ok (.invokevirtual 124, 3) := by decide +kernel
theorem dX12_whenMore_40 : decode cX12_whenMore 40 = .ok (.iinc 3 1, 3) := by decide +kernel
theorem dX12_whenMore_43 : decode cX12_whenMore 43 = .ok (.goto (-23), 3) := by decide +kernel
theorem dX12_whenMore_46 : decode cX12_whenMore 46 = .ok (.aload_n 0, 1) := by decide +kernel
theorem dX12_whenMore_47 : decode cX12_whenMore 47 = .ok (.getfield 19, 3) := by decide +kernel
theorem dX12_whenMore_50 : decode cX12_whenMore 50 = .ok (.aload_n 0, 1) := by decide +kernel
theorem dX12_whenMore_51 : decode cX12_whenMore 51 = .ok (.getfield 7, 3) := by decide +kernel
theorem dX12_whenMore_54 : decode cX12_whenMore 54 = .ok (.invokestatic 146, 3) := by decide +kernel
theorem dX12_whenMore_57 : decode cX12_whenMore 57 = .ok (.iload_n 3, 1) := by decide +kernel
theorem dX12_whenMore_58 : decode cX12_whenMore 58 = .ok (.bipush 100, 2) := by decide +kernel
theorem dX12_whenMore_60 : decode cX12_whenMore 60 = .ok (.if_icmp .gt 7, 3) := by decide +kernel
theorem dX12_whenMore_63 : decode cX12_whenMore 63 = .ok (.iload_n 3, 1) := by decide +kernel
theorem dX12_whenMore_64 : decode cX12_whenMore 64 = .ok (.goto 9, 3) := by decide +kernel
theorem dX12_whenMore_67 : decode cX12_whenMore 67 = .ok (.aload_n 0, 1) := by decide +kernel
theorem dX12_whenMore_68 : decode cX12_whenMore 68 = .ok (.ldc 41, 2) := by decide +kernel
theorem dX12_whenMore_70 : decode cX12_whenMore 70 = .ok (.invokevirtual 42, 3) := by decide +kernel
theorem dX12_whenMore_73 : decode cX12_whenMore 73 = .ok (.ireturn, 1) := by decide +kernel
theorem dX12_stuck_0 : decode cX12_stuck 0 = .ok (.aload_n 0, 1) := by decide +kernel
theorem dX12_stuck_1 : decode cX12_stuck 1 = .ok (.iload_n 1, 1) := by decide +kernel
theorem dX12_stuck_2 : decode cX12_stuck 2 = .ok (.invokevirtual 77, 3) := by decide +kernel
theorem dX12_stuck_5 : decode cX12_stuck 5 = .ok (.ifCond .eq 16, 3) := by decide +kernel
theorem dX12_stuck_8 : decode cX12_stuck 8 = .ok (.aload_n 0, 1) := by decide +kernel
theorem dX12_stuck_9 : decode cX12_stuck 9 = .ok (.iload_n 1, 1) := by decide +kernel
theorem dX12_stuck_10 : decode cX12_stuck 10 = .ok (.bipush 6, 2) := by decide +kernel
theorem dX12_stuck_12 : decode cX12_stuck 12 = .ok (.invokestatic 67, 3) := by decide +kernel
theorem dX12_stuck_15 : decode cX12_stuck 15 = .ok (.invokevirtual 155, 3) := by decide +kernel
theorem dX12_stuck_18 : decode cX12_stuck 18 = .ok (.goto 9, 3) := by decide +kernel
theorem dX12_stuck_21 : decode cX12_stuck 21 = .ok (.aload_n 0, 1) := by decide +kernel
theorem dX12_stuck_22 : decode cX12_stuck 22 = .ok (.ldc 40, 2) := by decide +kernel
theorem dX12_stuck_24 : decode cX12_stuck 24 = .ok (.invokevirtual 42, 3) := by decide +kernel
theorem dX12_stuck_27 : decode cX12_stuck 27 = .ok (.ireturn, 1) := by decide +kernel
theorem dX12_crosses_0 : decode cX12_crosses 0 = .ok (.aload_n 0, 1) := by decide +kernel
theorem dX12_crosses_1 : decode cX12_crosses 1 = .ok (.iconst 4, 1) := by decide +kernel
theorem dX12_crosses_2 : decode cX12_crosses 2 = .ok (.invokevirtual 155, 3) := by decide +kernel
theorem dX12_crosses_5 : decode cX12_crosses 5 = .ok (.ireturn, 1) := by decide +kernel
theorem dX12_windFor_0 : decode cX12_windFor 0 = .ok (.iload_n 1, 1) := by decide +kernel
theorem dX12_windFor_1 : decode cX12_windFor 1 = .ok (.i2l, 1) := by decide +kernel
theorem dX12_windFor_2 : decode cX12_windFor 2 = .ok (.lconst 0, 1) := by decide +kernel
theorem dX12_windFor_3 : decode cX12_windFor 3 = .ok (.ldc2_w 158, 3) := by decide +kernel
theorem dX12_windFor_6 : decode cX12_windFor 6 = .ok (.invokestatic 52, 3) := by decide +kernel
theorem dX12_windFor_9 : decode cX12_windFor 9 = .ok (.ifCond .ne 10, 3) := by decide +kernel
theorem dX12_windFor_12 : decode cX12_windFor 12 = .ok (.aload_n 0, 1) := by decide +kernel
theorem dX12_windFor_13 : decode cX12_windFor 13 = .ok (.ldc 40, 2) := by decide +kernel
theorem dX12_windFor_15 : decode cX12_windFor 15 = .ok (.invokevirtual 42, 3) := by decide +kernel
theorem dX12_windFor_18 : decode cX12_windFor 18 = .ok (.ireturn, 1) := by decide +kernel
theorem dX12_windFor_19 : decode cX12_windFor 19 = .ok (.aload_n 0, 1) := by decide +kernel
theorem dX12_windFor_20 : decode cX12_windFor 20 = .ok (.getfield 7, 3) := by decide +kernel
theorem dX12_windFor_23 : decode cX12_windFor 23 = .ok (.iconst 3, 1) := by decide +kernel
theorem dX12_windFor_24 : decode cX12_windFor 24 = .ok (.iaload, 1) := by decide +kernel
theorem dX12_windFor_25 : decode cX12_windFor 25 = .ok (.istore_n 2, 1) := by decide +kernel
theorem dX12_windFor_26 : decode cX12_windFor 26 = .ok (.iconst 0, 1) := by decide +kernel
theorem dX12_windFor_27 : decode cX12_windFor 27 = .ok (.istore_n 3, 1) := by decide +kernel
theorem dX12_windFor_28 : decode cX12_windFor 28 = .ok (.iconst (-1), 1) := by decide +kernel
theorem dX12_windFor_29 : decode cX12_windFor 29 = .ok (.istore 4, 2) := by decide +kernel
theorem dX12_windFor_31 : decode cX12_windFor 31 = .ok (.iconst 0, 1) := by decide +kernel
theorem dX12_windFor_32 : decode cX12_windFor 32 = .ok (.istore 5, 2) := by decide +kernel
theorem dX12_windFor_34 : decode cX12_windFor 34 = .ok (.iload 5, 2) := by decide +kernel
theorem dX12_windFor_36 : decode cX12_windFor 36 = .ok (.iconst 4, 1) := by decide +kernel
theorem dX12_windFor_37 : decode cX12_windFor 37 = .ok (.if_icmp .gt 47, 3) := by decide +kernel
theorem dX12_windFor_40 : decode cX12_windFor 40 = .ok (.aload_n 0, 1) := by decide +kernel
theorem dX12_windFor_41 : decode cX12_windFor 41 = .ok (.getfield 7, 3) := by decide +kernel
theorem dX12_windFor_44 : decode cX12_windFor 44 = .ok (.iconst 3, 1) := by decide +kernel
theorem dX12_windFor_45 : decode cX12_windFor 45 = .ok (.iload 5, 2) := by decide +kernel
theorem dX12_windFor_47 : decode cX12_windFor 47 = .ok (.iastore, 1) := by decide +kernel
theorem dX12_windFor_48 : decode cX12_windFor 48 = .ok (.aload_n 0, 1) := by decide +kernel
theorem dX12_windFor_49 : decode cX12_windFor 49 = .ok (.iload_n 1, 1) := by decide +kernel
theorem dX12_windFor_50 : decode cX12_windFor 50 = .ok (.invokevirtual 160, 3) := by decide +kernel
theorem dX12_windFor_53 : decode cX12_windFor 53 = .ok (.istore 6, 2) := by decide +kernel
theorem dX12_windFor_55 : decode cX12_windFor 55 = .ok (.iload 6, 2) := by decide +kernel
theorem dX12_windFor_57 : decode cX12_windFor 57 = .ok (.iload 4, 2) := by decide +kernel
theorem dX12_windFor_59 : decode cX12_windFor 59 = .ok (.if_icmp .le 8, 3) := by decide +kernel
theorem dX12_windFor_62 : decode cX12_windFor 62 = .ok (.iload 5, 2) := by decide +kernel
theorem dX12_windFor_64 : decode cX12_windFor 64 = .ok (.goto 4, 3) := by decide +kernel
theorem dX12_windFor_67 : decode cX12_windFor 67 = .ok (.iload_n 3, 1) := by decide +kernel
theorem dX12_windFor_68 : decode cX12_windFor 68 = .ok (.istore_n 3, 1) := by decide +kernel
theorem dX12_windFor_69 : decode cX12_windFor 69 = .ok (.iload 4, 2) := by decide +kernel
theorem dX12_windFor_71 : decode cX12_windFor 71 = .ok (.iload 6, 2) := by decide +kernel
theorem dX12_windFor_73 : decode cX12_windFor 73 = .ok (.invokestatic 163, 3) := by decide +kernel
theorem dX12_windFor_76 : decode cX12_windFor 76 = .ok (.istore 4, 2) := by decide +kernel
theorem dX12_windFor_78 : decode cX12_windFor 78 = .ok (.iinc 5 1, 3) := by decide +kernel
theorem dX12_windFor_81 : decode cX12_windFor 81 = .ok (.goto (-47), 3) := by decide +kernel
theorem dX12_windFor_84 : decode cX12_windFor 84 = .ok (.aload_n 0, 1) := by decide +kernel
theorem dX12_windFor_85 : decode cX12_windFor 85 = .ok (.getfield 7, 3) := by decide +kernel
theorem dX12_windFor_88 : decode cX12_windFor 88 = .ok (.iconst 3, 1) := by decide +kernel
theorem dX12_windFor_89 : decode cX12_windFor 89 = .ok (.iload_n 2, 1) := by decide +kernel
theorem dX12_windFor_90 : decode cX12_windFor 90 = .ok (.iastore, 1) := by decide +kernel
theorem dX12_windFor_91 : decode cX12_windFor 91 = .ok (.iload_n 3, 1) := by decide +kernel
theorem dX12_windFor_92 : decode cX12_windFor 92 = .ok (.ireturn, 1) := by decide +kernel
theorem dX12_isAsked_0 : decode cX12_isAsked 0 = .ok (.aload_n 0, 1) := by decide +kernel
theorem dX12_isAsked_1 : decode cX12_isAsked 1 = .ok (.iload_n 1, 1) := by decide +kernel
theorem dX12_isAsked_2 : decode cX12_isAsked 2 = .ok (.invokevirtual 77, 3) := by decide +kernel
theorem dX12_isAsked_5 : decode cX12_isAsked 5 = .ok (.ifCond .eq 19, 3) := by decide +kernel
theorem dX12_isAsked_8 : decode cX12_isAsked 8 = .ok (.iload_n 2, 1) := by decide +kernel
theorem dX12_isAsked_9 : decode cX12_isAsked 9 = .ok (.i2l, 1) := by decide +kernel
theorem dX12_isAsked_10 : decode cX12_isAsked 10 = .ok (.lconst 0, 1) := by decide +kernel
theorem dX12_isAsked_11 : decode cX12_isAsked 11 = .ok (.ldc2_w 158, 3) := by decide +kernel
theorem dX12_isAsked_14 : decode cX12_isAsked 14 = .ok (.invokestatic 52, 3) := by decide +kernel
theorem dX12_isAsked_17 : decode cX12_isAsked 17 = .ok (.ifCond .eq 7, 3) := by decide +kernel
theorem dX12_isAsked_20 : decode cX12_isAsked 20 = .ok (.iconst 1, 1) := by decide +kernel
theorem dX12_isAsked_21 : decode cX12_isAsked 21 = .ok (.goto 4, 3) := by decide +kernel
theorem dX12_isAsked_24 : decode cX12_isAsked 24 = .ok (.iconst 0, 1) := by decide +kernel
theorem dX12_isAsked_25 : decode cX12_isAsked 25 = .ok (.ireturn, 1) := by decide +kernel
theorem dX12_homeFor_0 : decode cX12_homeFor 0 = .ok (.aload_n 0, 1) := by decide +kernel
theorem dX12_homeFor_1 : decode cX12_homeFor 1 = .ok (.iload_n 1, 1) := by decide +kernel
theorem dX12_homeFor_2 : decode cX12_homeFor 2 = .ok (.iload_n 3, 1) := by decide +kernel
theorem dX12_homeFor_3 : decode cX12_homeFor 3 = .ok (.invokevirtual 166, 3) := by decide +kernel
theorem dX12_homeFor_6 : decode cX12_homeFor 6 = .ok (.ifCond .eq 10, 3) := by decide +kernel
theorem dX12_homeFor_9 : decode cX12_homeFor 9 = .ok (.iload_n 2, 1) := by decide +kernel
theorem dX12_homeFor_10 : decode cX12_homeFor 10 = .ok (.invokestatic 46, 3) := by decide +kernel
theorem dX12_homeFor_13 : decode cX12_homeFor 13 = .ok (.ifCond .ne 10, 3) := by decide +kernel
theorem dX12_homeFor_16 : decode cX12_homeFor 16 = .ok (.aload_n 0, 1) := by decide +kernel
theorem dX12_homeFor_17 : decode cX12_homeFor 17 = .ok (.ldc 40, 2) := by decide +kernel
theorem dX12_homeFor_19 : decode cX12_homeFor 19 = .ok (.invokevirtual 42, 3) := by decide +kernel
theorem dX12_homeFor_22 : decode cX12_homeFor 22 = .ok (.ireturn, 1) := by decide +kernel
theorem dX12_homeFor_23 : decode cX12_homeFor 23 = .ok (.aload_n 0, 1) := by decide +kernel
theorem dX12_homeFor_24 : decode cX12_homeFor 24 = .ok (.iload_n 1, 1) := by decide +kernel
theorem dX12_homeFor_25 : decode cX12_homeFor 25 = .ok (.iconst 2, 1) := by decide +kernel
theorem dX12_homeFor_26 : decode cX12_homeFor 26 = .ok (.invokevirtual 62, 3) := by decide +kernel
theorem dX12_homeFor_29 : decode cX12_homeFor 29 = .ok (.istore 4, 2) := by decide +kernel
theorem dX12_homeFor_31 : decode cX12_homeFor 31 = .ok (.iconst 0, 1) := by decide +kernel
theorem dX12_homeFor_32 : decode cX12_homeFor 32 = .ok (.istore 5, 2) := by decide +kernel
theorem dX12_homeFor_34 : decode cX12_homeFor 34 = .ok (.iconst (-1), 1) := by decide +kernel
theorem dX12_homeFor_35 : decode cX12_homeFor 35 = .ok (.istore 6, 2) := by decide +kernel
theorem dX12_homeFor_37 : decode cX12_homeFor 37 = .ok (.iconst 0, 1) := by decide +kernel
theorem dX12_homeFor_38 : decode cX12_homeFor 38 = .ok (.istore 7, 2) := by decide +kernel
theorem dX12_homeFor_40 : decode cX12_homeFor 40 = .ok (.iload 7, 2) := by decide +kernel
theorem dX12_homeFor_42 : decode cX12_homeFor 42 = .ok (.bipush 25, 2) := by decide +kernel
theorem dX12_homeFor_44 : decode cX12_homeFor 44 = .ok (.if_icmp .ge 56, 3) := by decide +kernel
theorem dX12_homeFor_47 : decode cX12_homeFor 47 = .ok (.aload_n 0, 1) := by decide +kernel
theorem dX12_homeFor_48 : decode cX12_homeFor 48 = .ok (.getfield 7, 3) := by decide +kernel
theorem dX12_homeFor_51 : decode cX12_homeFor 51 = .ok (.iload_n 1, 1) := by decide +kernel
theorem dX12_homeFor_52 : decode cX12_homeFor 52 = .ok (.iconst 2, 1) := by decide +kernel
theorem dX12_homeFor_53 : decode cX12_homeFor 53 = .ok (.invokestatic 67, 3) := by decide +kernel
theorem dX12_homeFor_56 : decode cX12_homeFor 56 = .ok (.iload 7, 2) := by decide +kernel
theorem dX12_homeFor_58 : decode cX12_homeFor 58 = .ok (.iastore, 1) := by decide +kernel
theorem dX12_homeFor_59 : decode cX12_homeFor 59 = .ok (.aload_n 0, 1) := by decide +kernel
theorem dX12_homeFor_60 : decode cX12_homeFor 60 = .ok (.iconst 5, 1) := by decide +kernel
theorem dX12_homeFor_61 : decode cX12_homeFor 61 = .ok (.iload_n 2, 1) := by decide +kernel
theorem dX12_homeFor_62 : decode cX12_homeFor 62 = .ok (.iadd, 1) := by decide +kernel
theorem dX12_homeFor_63 : decode cX12_homeFor 63 = .ok (.iload_n 3, 1) := by decide +kernel
theorem dX12_homeFor_64 : decode cX12_homeFor 64 = .ok (.invokevirtual 152, 3) := by decide +kernel
theorem dX12_homeFor_67 : decode cX12_homeFor 67 = .ok (.istore 8, 2) := by decide +kernel
theorem dX12_homeFor_69 : decode cX12_homeFor 69 = .ok (.iload 8, 2) := by decide +kernel
theorem dX12_homeFor_71 : decode cX12_homeFor 71 = .ok (.iload 6, 2) := by decide +kernel
theorem dX12_homeFor_73 : decode cX12_homeFor 73 = .ok (.if_icmp .le 8, 3) := by decide +kernel
theorem dX12_homeFor_76 : decode cX12_homeFor 76 = .ok (.iload 7, 2) := by decide +kernel
theorem dX12_homeFor_78 : decode cX12_homeFor 78 = .ok (.goto 5, 3) := by decide +kernel
theorem dX12_homeFor_81 : decode cX12_homeFor 81 = .ok (.iload 5, 2) := by decide +kernel
theorem dX12_homeFor_83 : decode cX12_homeFor 83 = .ok (.istore 5, 2) := by decide +kernel
theorem dX12_homeFor_85 : decode cX12_homeFor 85 = .ok (.iload 6, 2) := by decide +kernel
theorem dX12_homeFor_87 : decode cX12_homeFor 87 = .ok (.iload 8, 2) := by decide +kernel
theorem dX12_homeFor_89 : decode cX12_homeFor 89 = .ok (.invokestatic 163, 3) := by decide +kernel
theorem dX12_homeFor_92 : decode cX12_homeFor 92 = .ok (.istore 6, 2) := by decide +kernel
theorem dX12_homeFor_94 : decode cX12_homeFor 94 = .ok (.iinc 7 1, 3) := by decide +kernel
theorem dX12_homeFor_97 : decode cX12_homeFor 97 = .ok (.goto (-57), 3) := by decide +kernel
theorem dX12_homeFor_100 : decode cX12_homeFor 100 = .ok (.aload_n 0, 1) := by decide +kernel
theorem dX12_homeFor_101 : decode cX12_homeFor 101 = .ok (.getfield 7, 3) := by decide +kernel
theorem dX12_homeFor_104 : decode cX12_homeFor 104 = .ok (.iload_n 1, 1) := by decide +kernel
theorem dX12_homeFor_105 : decode cX12_homeFor 105 = .ok (.iconst 2, 1) := by decide +kernel
theorem dX12_homeFor_106 : decode cX12_homeFor 106 = .ok (.invokestatic 67, 3) := by decide +kernel
theorem dX12_homeFor_109 : decode cX12_homeFor 109 = .ok (.iload 4, 2) := by decide +kernel
theorem dX12_homeFor_111 : decode cX12_homeFor 111 = .ok (.iastore, 1) := by decide +kernel
theorem dX12_homeFor_112 : decode cX12_homeFor 112 = .ok (.iload 5, 2) := by decide +kernel
theorem dX12_homeFor_114 : decode cX12_homeFor 114 = .ok (.ireturn, 1) := by decide +kernel
theorem dX12_build_0 : decode cX12_build 0 = .ok (.aload_n 0, 1) := by decide +kernel
theorem dX12_build_1 : decode cX12_build 1 = .ok (.iload_n 1, 1) := by decide +kernel
theorem dX12_build_2 : decode cX12_build 2 = .ok (.iload_n 2, 1) := by decide +kernel
theorem dX12_build_3 : decode cX12_build 3 = .ok (.invokevirtual 166, 3) := by decide +kernel
theorem dX12_build_6 : decode cX12_build 6 = .ok (.ifCond .ne 10, 3) := by decide +kernel
theorem dX12_build_9 : decode cX12_build 9 = .ok (.aload_n 0, 1) := by decide +kernel
theorem dX12_build_10 : decode cX12_build 10 = .ok (.ldc 40, 2) := by decide +kernel
theorem dX12_build_12 : decode cX12_build 12 = .ok (.invokevirtual 42, 3) := by decide +kernel
theorem dX12_build_15 : decode cX12_build 15 = .ok (.ireturn, 1) := by decide +kernel
theorem dX12_build_16 : decode cX12_build 16 = .ok (.aload_n 0, 1) := by decide +kernel
theorem dX12_build_17 : decode cX12_build 17 = .ok (.iload_n 1, 1) := by decide +kernel
theorem dX12_build_18 : decode cX12_build 18 = .ok (.iconst 1, 1) := by decide +kernel
theorem dX12_build_19 : decode cX12_build 19 = .ok (.invokevirtual 62, 3) := by decide +kernel
theorem dX12_build_22 : decode cX12_build 22 = .ok (.istore_n 3, 1) := by decide +kernel
theorem dX12_build_23 : decode cX12_build 23 = .ok (.aload_n 0, 1) := by decide +kernel
theorem dX12_build_24 : decode cX12_build 24 = .ok (.iload_n 1, 1) := by decide +kernel
theorem dX12_build_25 : decode cX12_build 25 = .ok (.iconst 4, 1) := by decide +kernel
theorem dX12_build_26 : decode cX12_build 26 = .ok (.invokevirtual 62, 3) := by decide +kernel
theorem dX12_build_29 : decode cX12_build 29 = .ok (.istore 4, 2) := by decide +kernel
theorem dX12_build_31 : decode cX12_build 31 = .ok (.iconst 0, 1) := by decide +kernel
theorem dX12_build_32 : decode cX12_build 32 = .ok (.istore 5, 2) := by decide +kernel
theorem dX12_build_34 : decode cX12_build 34 = .ok (.sipush 10000, 3) := by decide +kernel
theorem dX12_build_37 : decode cX12_build 37 = .ok (.istore 6, 2) := by decide +kernel
theorem dX12_build_39 : decode cX12_build 39 = .ok (.iconst 0, 1) := by decide +kernel
theorem dX12_build_40 : decode cX12_build 40 = .ok (.istore 7, 2) := by decide +kernel
theorem dX12_build_42 : decode cX12_build 42 = .ok (.iload 7, 2) := by decide +kernel
theorem dX12_build_44 : decode cX12_build 44 = .ok (.bipush 25, 2) := by decide +kernel
theorem dX12_build_46 : decode cX12_build 46 = .ok (.if_icmp .ge 71, 3) := by decide +kernel
theorem dX12_build_49 : decode cX12_build 49 = .ok (.aload_n 0, 1) := by decide +kernel
theorem dX12_build_50 : decode cX12_build 50 = .ok (.getfield 7, 3) := by decide +kernel
theorem dX12_build_53 : decode cX12_build 53 = .ok (.iload_n 1, 1) := by decide +kernel
theorem dX12_build_54 : decode cX12_build 54 = .ok (.iconst 1, 1) := by decide +kernel
theorem dX12_build_55 : decode cX12_build 55 = .ok (.invokestatic 67, 3) := by decide +kernel
theorem dX12_build_58 : decode cX12_build 58 = .ok (.iload 7, 2) := by decide +kernel
theorem dX12_build_60 : decode cX12_build 60 = .ok (.iastore, 1) := by decide +kernel
theorem dX12_build_61 : decode cX12_build 61 = .ok (.aload_n 0, 1) := by decide +kernel
theorem dX12_build_62 : decode cX12_build 62 = .ok (.getfield 7, 3) := by decide +kernel
theorem dX12_build_65 : decode cX12_build 65 = .ok (.iload_n 1, 1) := by decide +kernel
theorem dX12_build_66 : decode cX12_build 66 = .ok (.iconst 4, 1) := by decide +kernel
theorem dX12_build_67 : decode cX12_build 67 = .ok (.invokestatic 67, 3) := by decide +kernel
theorem dX12_build_70 : decode cX12_build 70 = .ok (.iload 7, 2) := by decide +kernel
theorem dX12_build_72 : decode cX12_build 72 = .ok (.iastore, 1) := by decide +kernel
theorem dX12_build_73 : decode cX12_build 73 = .ok (.aload_n 0, 1) := by decide +kernel
theorem dX12_build_74 : decode cX12_build 74 = .ok (.iload_n 1, 1) := by decide +kernel
theorem dX12_build_75 : decode cX12_build 75 = .ok (.bipush 6, 2) := by decide +kernel
theorem dX12_build_77 : decode cX12_build 77 = .ok (.invokestatic 67, 3) := by decide +kernel
theorem dX12_build_80 : decode cX12_build 80 = .ok (.iload_n 2, 1) := by decide +kernel
theorem dX12_build_81 : decode cX12_build 81 = .ok (.invokevirtual 152, 3) := by decide +kernel
theorem dX12_build_84 : decode cX12_build 84 = .ok (.istore 8, 2) := by decide +kernel
theorem dX12_build_86 : decode cX12_build 86 = .ok (.iload 8, 2) := by decide +kernel
theorem dX12_build_88 : decode cX12_build 88 = .ok (.iload 6, 2) := by decide +kernel
theorem dX12_build_90 : decode cX12_build 90 = .ok (.if_icmp .ge 8, 3) := by decide +kernel
theorem dX12_build_93 : decode cX12_build 93 = .ok (.iload 7, 2) := by decide +kernel
theorem dX12_build_95 : decode cX12_build 95 = .ok (.goto 5, 3) := by decide +kernel
theorem dX12_build_98 : decode cX12_build 98 = .ok (.iload 5, 2) := by decide +kernel
theorem dX12_build_100 : decode cX12_build 100 = .ok (.istore 5, 2) := by decide +kernel
theorem dX12_build_102 : decode cX12_build 102 = .ok (.iload 6, 2) := by decide +kernel
theorem dX12_build_104 : decode cX12_build 104 = .ok (.iload 8, 2) := by decide +kernel
theorem dX12_build_106 : decode cX12_build 106 = .ok (.invokestatic 94, 3) := by decide +kernel
theorem dX12_build_109 : decode cX12_build 109 = .ok (.istore 6, 2) := by decide +kernel
theorem dX12_build_111 : decode cX12_build 111 = .ok (.iinc 7 1, 3) := by decide +kernel
theorem dX12_build_114 : decode cX12_build 114 = .ok (.goto (-72), 3) := by decide +kernel
theorem dX12_build_117 : decode cX12_build 117 = .ok (.aload_n 0, 1) := by decide +kernel
theorem dX12_build_118 : decode cX12_build 118 = .ok (.getfield 7, 3) := by decide +kernel
theorem dX12_build_121 : decode cX12_build 121 = .ok (.iload_n 1, 1) := by decide +kernel
theorem dX12_build_122 : decode cX12_build 122 = .ok (.iconst 1, 1) := by decide +kernel
theorem dX12_build_123 : decode cX12_build 123 = .ok (.invokestatic 67, 3) := by decide +kernel
theorem dX12_build_126 : decode cX12_build 126 = .ok (.iload_n 3, 1) := by decide +kernel
theorem dX12_build_127 : decode cX12_build 127 = .ok (.iastore, 1) := by decide +kernel
theorem dX12_build_128 : decode cX12_build 128 = .ok (.aload_n 0, 1) := by decide +kernel
theorem dX12_build_129 : decode cX12_build 129 = .ok (.getfield 7, 3) := by decide +kernel
theorem dX12_build_132 : decode cX12_build 132 = .ok (.iload_n 1, 1) := by decide +kernel
theorem dX12_build_133 : decode cX12_build 133 = .ok (.iconst 4, 1) := by decide +kernel
theorem dX12_build_134 : decode cX12_build 134 = .ok (.invokestatic 67, 3) := by decide +kernel
theorem dX12_build_137 : decode cX12_build 137 = .ok (.iload 4, 2) := by decide +kernel
theorem dX12_build_139 : decode cX12_build 139 = .ok (.iastore, 1) := by decide +kernel
theorem dX12_build_140 : decode cX12_build 140 = .ok (.iload 5, 2) := by decide +kernel
theorem dX12_build_142 : decode cX12_build 142 = .ok (.ireturn, 1) := by decide +kernel
theorem dX12_kindFor_0 : decode cX12_kindFor 0 = .ok (.aload_n 0, 1) := by decide +kernel
theorem dX12_kindFor_1 : decode cX12_kindFor 1 = .ok (.iload_n 1, 1) := by decide +kernel
theorem dX12_kindFor_2 : decode cX12_kindFor 2 = .ok (.iload_n 2, 1) := by decide +kernel
theorem dX12_kindFor_3 : decode cX12_kindFor 3 = .ok (.invokevirtual 166, 3) := by decide +kernel
theorem dX12_kindFor_6 : decode cX12_kindFor 6 = .ok (.ifCond .ne 10, 3) := by decide +kernel
theorem dX12_kindFor_9 : decode cX12_kindFor 9 = .ok (.aload_n 0, 1) := by decide +kernel
theorem dX12_kindFor_10 : decode cX12_kindFor 10 = .ok (.ldc 40, 2) := by decide +kernel
theorem dX12_kindFor_12 : decode cX12_kindFor 12 = .ok (.invokevirtual 42, 3) := by decide +kernel
theorem dX12_kindFor_15 : decode cX12_kindFor 15 = .ok (.ireturn, 1) := by decide +kernel
theorem dX12_kindFor_16 : decode cX12_kindFor 16 = .ok (.aload_n 0, 1) := by decide +kernel
theorem dX12_kindFor_17 : decode cX12_kindFor 17 = .ok (.iload_n 1, 1) := by decide +kernel
theorem dX12_kindFor_18 : decode cX12_kindFor 18 = .ok (.iconst 0, 1) := by decide +kernel
theorem dX12_kindFor_19 : decode cX12_kindFor 19 = .ok (.invokevirtual 62, 3) := by decide +kernel
theorem dX12_kindFor_22 : decode cX12_kindFor 22 = .ok (.istore_n 3, 1) := by decide +kernel
theorem dX12_kindFor_23 : decode cX12_kindFor 23 = .ok (.iconst 0, 1) := by decide +kernel
theorem dX12_kindFor_24 : decode cX12_kindFor 24 = .ok (.istore 4, 2) := by decide +kernel
theorem dX12_kindFor_26 : decode cX12_kindFor 26 = .ok (.iconst (-1), 1) := by decide +kernel
theorem dX12_kindFor_27 : decode cX12_kindFor 27 = .ok (.istore 5, 2) := by decide +kernel
theorem dX12_kindFor_29 : decode cX12_kindFor 29 = .ok (.iconst 0, 1) := by decide +kernel
theorem dX12_kindFor_30 : decode cX12_kindFor 30 = .ok (.istore 6, 2) := by decide +kernel
theorem dX12_kindFor_32 : decode cX12_kindFor 32 = .ok (.iload 6, 2) := by decide +kernel
theorem dX12_kindFor_34 : decode cX12_kindFor 34 = .ok (.bipush 6, 2) := by decide +kernel
theorem dX12_kindFor_36 : decode cX12_kindFor 36 = .ok (.if_icmp .gt 53, 3) := by decide +kernel
theorem dX12_kindFor_39 : decode cX12_kindFor 39 = .ok (.aload_n 0, 1) := by decide +kernel
theorem dX12_kindFor_40 : decode cX12_kindFor 40 = .ok (.getfield 7, 3) := by decide +kernel
theorem dX12_kindFor_43 : decode cX12_kindFor 43 = .ok (.iload_n 1, 1) := by decide +kernel
theorem dX12_kindFor_44 : decode cX12_kindFor 44 = .ok (.iconst 0, 1) := by decide +kernel
theorem dX12_kindFor_45 : decode cX12_kindFor 45 = .ok (.invokestatic 67, 3) := by decide +kernel
theorem dX12_kindFor_48 : decode cX12_kindFor 48 = .ok (.iload 6, 2) := by decide +kernel
theorem dX12_kindFor_50 : decode cX12_kindFor 50 = .ok (.iastore, 1) := by decide +kernel
theorem dX12_kindFor_51 : decode cX12_kindFor 51 = .ok (.aload_n 0, 1) := by decide +kernel
theorem dX12_kindFor_52 : decode cX12_kindFor 52 = .ok (.iload_n 2, 1) := by decide +kernel
theorem dX12_kindFor_53 : decode cX12_kindFor 53 = .ok (.invokevirtual 160, 3) := by decide +kernel
theorem dX12_kindFor_56 : decode cX12_kindFor 56 = .ok (.istore 7, 2) := by decide +kernel
theorem dX12_kindFor_58 : decode cX12_kindFor 58 = .ok (.iload 7, 2) := by decide +kernel
theorem dX12_kindFor_60 : decode cX12_kindFor 60 = .ok (.iload 5, 2) := by decide +kernel
theorem dX12_kindFor_62 : decode cX12_kindFor 62 = .ok (.if_icmp .le 8, 3) := by decide +kernel
theorem dX12_kindFor_65 : decode cX12_kindFor 65 = .ok (.iload 6, 2) := by decide +kernel
end
section
theorem dX12_kindFor_67 : decode cX12_kindFor 67 = .ok (.goto 5, 3) := by decide +kernel
theorem dX12_kindFor_70 : decode cX12_kindFor 70 = .ok (.iload 4, 2) := by decide +kernel
theorem dX12_kindFor_72 : decode cX12_kindFor 72 = .ok (.istore 4, 2) := by decide +kernel
theorem dX12_kindFor_74 : decode cX12_kindFor 74 = .ok (.iload 5, 2) := by decide +kernel
theorem dX12_kindFor_76 : decode cX12_kindFor 76 = .ok (.iload 7, 2) := by decide +kernel
theorem dX12_kindFor_78 : decode cX12_kindFor 78 = .ok (.invokestatic 163, 3) := by decide +kernel
theorem dX12_kindFor_81 : decode cX12_kindFor 81 = .ok (.istore 5, 2) := by decide +kernel
theorem dX12_kindFor_83 : decode cX12_kindFor 83 = .ok (.iinc 6 1, 3) := by decide +kernel
theorem dX12_kindFor_86 : decode cX12_kindFor 86 = .ok (.goto (-54), 3) := by decide +kernel
theorem dX12_kindFor_89 : decode cX12_kindFor 89 = .ok (.aload_n 0, 1) := by decide +kernel
theorem dX12_kindFor_90 : decode cX12_kindFor 90 = .ok (.getfield 7, 3) := by decide +kernel
theorem dX12_kindFor_93 : decode cX12_kindFor 93 = .ok (.iload_n 1, 1) := by decide +kernel
theorem dX12_kindFor_94 : decode cX12_kindFor 94 = .ok (.iconst 0, 1) := by decide +kernel
theorem dX12_kindFor_95 : decode cX12_kindFor 95 = .ok (.invokestatic 67, 3) := by decide +kernel
theorem dX12_kindFor_98 : decode cX12_kindFor 98 = .ok (.iload_n 3, 1) := by decide +kernel
theorem dX12_kindFor_99 : decode cX12_kindFor 99 = .ok (.iastore, 1) := by decide +kernel
theorem dX12_kindFor_100 : decode cX12_kindFor 100 = .ok (.iload 4, 2) := by decide +kernel
theorem dX12_kindFor_102 : decode cX12_kindFor 102 = .ok (.ireturn, 1) := by decide +kernel
theorem dX12_logsFor_0 : decode cX12_logsFor 0 = .ok (.aload_n 0, 1) := by decide +kernel
theorem dX12_logsFor_1 : decode cX12_logsFor 1 = .ok (.iload_n 1, 1) := by decide +kernel
theorem dX12_logsFor_2 : decode cX12_logsFor 2 = .ok (.iload 4, 2) := by decide +kernel
theorem dX12_logsFor_4 : decode cX12_logsFor 4 = .ok (.invokevirtual 166, 3) := by decide +kernel
theorem dX12_logsFor_7 : decode cX12_logsFor 7 = .ok (.ifCond .eq 22, 3) := by decide +kernel
theorem dX12_logsFor_10 : decode cX12_logsFor 10 = .ok (.iload_n 2, 1) := by decide +kernel
theorem dX12_logsFor_11 : decode cX12_logsFor 11 = .ok (.invokestatic 46, 3) := by decide +kernel
theorem dX12_logsFor_14 : decode cX12_logsFor 14 = .ok (.ifCond .eq 15, 3) := by decide +kernel
theorem dX12_logsFor_17 : decode cX12_logsFor 17 = .ok (.iload_n 3, 1) := by decide +kernel
theorem dX12_logsFor_18 : decode cX12_logsFor 18 = .ok (.i2l, 1) := by decide +kernel
theorem dX12_logsFor_19 : decode cX12_logsFor 19 = .ok (.lconst 0, 1) := by decide +kernel
theorem dX12_logsFor_20 : decode cX12_logsFor 20 = .ok (.ldc2_w 50, 3) := by decide +kernel
theorem dX12_logsFor_23 : decode cX12_logsFor 23 = .ok (.invokestatic 52, 3) := by decide +kernel
theorem dX12_logsFor_26 : decode cX12_logsFor 26 = .ok (.ifCond .ne 10, 3) := by decide +kernel
theorem dX12_logsFor_29 : decode cX12_logsFor 29 = .ok (.aload_n 0, 1) := by decide +kernel
theorem dX12_logsFor_30 : decode cX12_logsFor 30 = .ok (.ldc 40, 2) := by decide +kernel
theorem dX12_logsFor_32 : decode cX12_logsFor 32 = .ok (.invokevirtual 42, 3) := by decide +kernel
theorem dX12_logsFor_35 : decode cX12_logsFor 35 = .ok (.ireturn, 1) := by decide +kernel
theorem dX12_logsFor_36 : decode cX12_logsFor 36 = .ok (.aload_n 0, 1) := by decide +kernel
theorem dX12_logsFor_37 : decode cX12_logsFor 37 = .ok (.iload_n 1, 1) := by decide +kernel
theorem dX12_logsFor_38 : decode cX12_logsFor 38 = .ok (.iconst 3, 1) := by decide +kernel
theorem dX12_logsFor_39 : decode cX12_logsFor 39 = .ok (.invokevirtual 62, 3) := by decide +kernel
theorem dX12_logsFor_42 : decode cX12_logsFor 42 = .ok (.istore 5, 2) := by decide +kernel
theorem dX12_logsFor_44 : decode cX12_logsFor 44 = .ok (.iconst (-1), 1) := by decide +kernel
theorem dX12_logsFor_45 : decode cX12_logsFor 45 = .ok (.istore 6, 2) := by decide +kernel
theorem dX12_logsFor_47 : decode cX12_logsFor 47 = .ok (.iconst 0, 1) := by decide +kernel
theorem dX12_logsFor_48 : decode cX12_logsFor 48 = .ok (.istore 7, 2) := by decide +kernel
theorem dX12_logsFor_50 : decode cX12_logsFor 50 = .ok (.iload 7, 2) := by decide +kernel
theorem dX12_logsFor_52 : decode cX12_logsFor 52 = .ok (.sipush 200, 3) := by decide +kernel
theorem dX12_logsFor_55 : decode cX12_logsFor 55 = .ok (.if_icmp .gt 47, 3) := by decide +kernel
theorem dX12_logsFor_58 : decode cX12_logsFor 58 = .ok (.iload 6, 2) := by decide +kernel
theorem dX12_logsFor_60 : decode cX12_logsFor 60 = .ok (.ifCond .ge 42, 3) := by decide +kernel
theorem dX12_logsFor_63 : decode cX12_logsFor 63 = .ok (.aload_n 0, 1) := by decide +kernel
theorem dX12_logsFor_64 : decode cX12_logsFor 64 = .ok (.getfield 7, 3) := by decide +kernel
theorem dX12_logsFor_67 : decode cX12_logsFor 67 = .ok (.iload_n 1, 1) := by decide +kernel
theorem dX12_logsFor_68 : decode cX12_logsFor 68 = .ok (.iconst 3, 1) := by decide +kernel
theorem dX12_logsFor_69 : decode cX12_logsFor 69 = .ok (.invokestatic 67, 3) := by decide +kernel
theorem dX12_logsFor_72 : decode cX12_logsFor 72 = .ok (.iload 7, 2) := by decide +kernel
theorem dX12_logsFor_74 : decode cX12_logsFor 74 = .ok (.iastore, 1) := by decide +kernel
theorem dX12_logsFor_75 : decode cX12_logsFor 75 = .ok (.aload_n 0, 1) := by decide +kernel
theorem dX12_logsFor_76 : decode cX12_logsFor 76 = .ok (.iconst 5, 1) := by decide +kernel
theorem dX12_logsFor_77 : decode cX12_logsFor 77 = .ok (.iload_n 2, 1) := by decide +kernel
theorem dX12_logsFor_78 : decode cX12_logsFor 78 = .ok (.iadd, 1) := by decide +kernel
theorem dX12_logsFor_79 : decode cX12_logsFor 79 = .ok (.iload 4, 2) := by decide +kernel
theorem dX12_logsFor_81 : decode cX12_logsFor 81 = .ok (.invokevirtual 152, 3) := by decide +kernel
theorem dX12_logsFor_84 : decode cX12_logsFor 84 = .ok (.iload_n 3, 1) := by decide +kernel
theorem dX12_logsFor_85 : decode cX12_logsFor 85 = .ok (.if_icmp .lt 8, 3) := by decide +kernel
theorem dX12_logsFor_88 : decode cX12_logsFor 88 = .ok (.iload 7, 2) := by decide +kernel
theorem dX12_logsFor_90 : decode cX12_logsFor 90 = .ok (.goto 4, 3) := by decide +kernel
theorem dX12_logsFor_93 : decode cX12_logsFor 93 = .ok (.iconst (-1), 1) := by decide +kernel
theorem dX12_logsFor_94 : decode cX12_logsFor 94 = .ok (.istore 6, 2) := by decide +kernel
theorem dX12_logsFor_96 : decode cX12_logsFor 96 = .ok (.iinc 7 1, 3) := by decide +kernel
theorem dX12_logsFor_99 : decode cX12_logsFor 99 = .ok (.goto (-49), 3) := by decide +kernel
theorem dX12_logsFor_102 : decode cX12_logsFor 102 = .ok (.aload_n 0, 1) := by decide +kernel
theorem dX12_logsFor_103 : decode cX12_logsFor 103 = .ok (.getfield 7, 3) := by decide +kernel
theorem dX12_logsFor_106 : decode cX12_logsFor 106 = .ok (.iload_n 1, 1) := by decide +kernel
theorem dX12_logsFor_107 : decode cX12_logsFor 107 = .ok (.iconst 3, 1) := by decide +kernel
theorem dX12_logsFor_108 : decode cX12_logsFor 108 = .ok (.invokestatic 67, 3) := by decide +kernel
theorem dX12_logsFor_111 : decode cX12_logsFor 111 = .ok (.iload 5, 2) := by decide +kernel
theorem dX12_logsFor_113 : decode cX12_logsFor 113 = .ok (.iastore, 1) := by decide +kernel
theorem dX12_logsFor_114 : decode cX12_logsFor 114 = .ok (.aload_n 0, 1) := by decide +kernel
theorem dX12_logsFor_115 : decode cX12_logsFor 115 = .ok (.iload 6, 2) := by decide +kernel
theorem dX12_logsFor_117 : decode cX12_logsFor 117 = .ok (.invokevirtual 170, 3) := by decide +kernel
theorem dX12_logsFor_120 : decode cX12_logsFor 120 = .ok (.ireturn, 1) := by decide +kernel
theorem dX12_quench_0 : decode cX12_quench 0 = .ok (.iload_n 1, 1) := by decide +kernel
theorem dX12_quench_1 : decode cX12_quench 1 = .ok (.i2l, 1) := by decide +kernel
theorem dX12_quench_2 : decode cX12_quench 2 = .ok (.lconst 0, 1) := by decide +kernel
theorem dX12_quench_3 : decode cX12_quench 3 = .ok (.ldc2_w 173, 3) := by decide +kernel
theorem dX12_quench_6 : decode cX12_quench 6 = .ok (.invokestatic 52, 3) := by decide +kernel
theorem dX12_quench_9 : decode cX12_quench 9 = .ok (.ifCond .ne 10, 3) := by decide +kernel
theorem dX12_quench_12 : decode cX12_quench 12 = .ok (.aload_n 0, 1) := by decide +kernel
theorem dX12_quench_13 : decode cX12_quench 13 = .ok (.ldc 40, 2) := by decide +kernel
theorem dX12_quench_15 : decode cX12_quench 15 = .ok (.invokevirtual 42, 3) := by decide +kernel
theorem dX12_quench_18 : decode cX12_quench 18 = .ok (.ireturn, 1) := by decide +kernel
theorem dX12_quench_19 : decode cX12_quench 19 = .ok (.aload_n 0, 1) := by decide +kernel
theorem dX12_quench_20 : decode cX12_quench 20 = .ok (.getfield 7, 3) := by decide +kernel
theorem dX12_quench_23 : decode cX12_quench 23 = .ok (.iconst 4, 1) := by decide +kernel
theorem dX12_quench_24 : decode cX12_quench 24 = .ok (.iaload, 1) := by decide +kernel
theorem dX12_quench_25 : decode cX12_quench 25 = .ok (.istore_n 2, 1) := by decide +kernel
theorem dX12_quench_26 : decode cX12_quench 26 = .ok (.iconst (-1), 1) := by decide +kernel
theorem dX12_quench_27 : decode cX12_quench 27 = .ok (.istore_n 3, 1) := by decide +kernel
theorem dX12_quench_28 : decode cX12_quench 28 = .ok (.aload_n 0, 1) := by decide +kernel
theorem dX12_quench_29 : decode cX12_quench 29 = .ok (.getfield 7, 3) := by decide +kernel
theorem dX12_quench_32 : decode cX12_quench 32 = .ok (.aload_n 0, 1) := by decide +kernel
theorem dX12_quench_33 : decode cX12_quench 33 = .ok (.getfield 19, 3) := by decide +kernel
theorem dX12_quench_36 : decode cX12_quench 36 = .ok (.invokestatic 146, 3) := by decide +kernel
theorem dX12_quench_39 : decode cX12_quench 39 = .ok (.iconst 0, 1) := by decide +kernel
theorem dX12_quench_40 : decode cX12_quench 40 = .ok (.istore 4, 2) := by decide +kernel
theorem dX12_quench_42 : decode cX12_quench 42 = .ok (.iload 4, 2) := by decide +kernel
theorem dX12_quench_44 : decode cX12_quench 44 = .ok (.iconst 1, 1) := by decide +kernel
theorem dX12_quench_45 : decode cX12_quench 45 = .ok (.aload_n 0, 1) := by decide +kernel
theorem dX12_quench_46 : decode cX12_quench 46 = .ok (.getfield 7, 3) := by decide +kernel
theorem dX12_quench_49 : decode cX12_quench 49 = .ok (.iconst 0, 1) := by decide +kernel
theorem dX12_quench_50 : decode cX12_quench 50 = .ok (.iaload, 1) := by decide +kernel
theorem dX12_quench_51 : decode cX12_quench 51 = .ok (.ishl, 1) := by decide +kernel
theorem dX12_quench_52 : decode cX12_quench 52 = .ok (.if_icmp .ge 144, 3) := by decide +kernel
theorem dX12_quench_55 : decode cX12_quench 55 = .ok (.iload_n 3, 1) := by decide +kernel
theorem dX12_quench_56 : decode cX12_quench 56 = .ok (.ifCond .lt 15, 3) := by decide +kernel
theorem dX12_quench_59 : decode cX12_quench 59 = .ok (.iload 4, 2) := by decide +kernel
theorem dX12_quench_61 : decode cX12_quench 61 = .ok (.invokestatic 175, 3) := by decide +kernel
theorem dX12_quench_64 : decode cX12_quench 64 = .ok (.iload_n 3, 1) := by decide +kernel
theorem dX12_quench_65 : decode cX12_quench 65 = .ok (.invokestatic 175, 3) := by decide +kernel
theorem dX12_quench_68 : decode cX12_quench 68 = .ok (.if_icmp .ge 122, 3) := by decide +kernel
theorem dX12_quench_71 : decode cX12_quench 71 = .ok (.iconst 0, 1) := by decide +kernel
theorem dX12_quench_72 : decode cX12_quench 72 = .ok (.istore 5, 2) := by decide +kernel
theorem dX12_quench_74 : decode cX12_quench 74 = .ok (.iload 5, 2) := by decide +kernel
theorem dX12_quench_76 : decode cX12_quench 76 = .ok (.aload_n 0, 1) := by decide +kernel
theorem dX12_quench_77 : decode cX12_quench 77 = .ok (.getfield 7, 3) := by decide +kernel
theorem dX12_quench_80 : decode cX12_quench 80 = .ok (.iconst 0, 1) := by decide +kernel
theorem dX12_quench_81 : decode cX12_quench 81 = .ok (.iaload, 1) := by decide +kernel
theorem dX12_quench_82 : decode cX12_quench 82 = .ok (.if_icmp .ge 75, 3) := by decide +kernel
theorem dX12_quench_85 : decode cX12_quench 85 = .ok (.aload_n 0, 1) := by decide +kernel
theorem dX12_quench_86 : decode cX12_quench 86 = .ok (.getfield 7, 3) := by decide +kernel
theorem dX12_quench_89 : decode cX12_quench 89 = .ok (.iload 5, 2) := by decide +kernel
theorem dX12_quench_91 : decode cX12_quench 91 = .ok (.iconst 3, 1) := by decide +kernel
theorem dX12_quench_92 : decode cX12_quench 92 = .ok (.invokestatic 67, 3) := by decide +kernel
theorem dX12_quench_95 : decode cX12_quench 95 = .ok (.iload 4, 2) := by decide +kernel
theorem dX12_quench_97 : decode cX12_quench 97 = .ok (.iload 5, 2) := by decide +kernel
theorem dX12_quench_99 : decode cX12_quench 99 = .ok (.ishr, 1) := by decide +kernel
theorem dX12_quench_100 : decode cX12_quench 100 = .ok (.iconst 1, 1) := by decide +kernel
theorem dX12_quench_101 : decode cX12_quench 101 = .ok (.iand, 1) := by decide +kernel
theorem dX12_quench_102 : decode cX12_quench 102 = .ok (.iconst 1, 1) := by decide +kernel
theorem dX12_quench_103 : decode cX12_quench 103 = .ok (.if_icmp .ne 7, 3) := by decide +kernel
theorem dX12_quench_106 : decode cX12_quench 106 = .ok (.iconst 0, 1) := by decide +kernel
theorem dX12_quench_107 : decode cX12_quench 107 = .ok (.goto 10, 3) := by decide +kernel
theorem dX12_quench_110 : decode cX12_quench 110 = .ok (.aload_n 0, 1) := by decide +kernel
theorem dX12_quench_111 : decode cX12_quench 111 = .ok (.iload 5, 2) := by decide +kernel
theorem dX12_quench_113 : decode cX12_quench 113 = .ok (.iconst 3, 1) := by decide +kernel
theorem dX12_quench_114 : decode cX12_quench 114 = .ok (.invokevirtual 62, 3) := by decide +kernel
theorem dX12_quench_117 : decode cX12_quench 117 = .ok (.iastore, 1) := by decide +kernel
theorem dX12_quench_118 : decode cX12_quench 118 = .ok (.aload_n 0, 1) := by decide +kernel
theorem dX12_quench_119 : decode cX12_quench 119 = .ok (.getfield 7, 3) := by decide +kernel
theorem dX12_quench_122 : decode cX12_quench 122 = .ok (.iload 5, 2) := by decide +kernel
theorem dX12_quench_124 : decode cX12_quench 124 = .ok (.iconst 5, 1) := by decide +kernel
theorem dX12_quench_125 : decode cX12_quench 125 = .ok (.invokestatic 67, 3) := by decide +kernel
theorem dX12_quench_128 : decode cX12_quench 128 = .ok (.iload 4, 2) := by decide +kernel
theorem dX12_quench_130 : decode cX12_quench 130 = .ok (.iload 5, 2) := by decide +kernel
theorem dX12_quench_132 : decode cX12_quench 132 = .ok (.ishr, 1) := by decide +kernel
theorem dX12_quench_133 : decode cX12_quench 133 = .ok (.iconst 1, 1) := by decide +kernel
theorem dX12_quench_134 : decode cX12_quench 134 = .ok (.iand, 1) := by decide +kernel
theorem dX12_quench_135 : decode cX12_quench 135 = .ok (.iconst 1, 1) := by decide +kernel
theorem dX12_quench_136 : decode cX12_quench 136 = .ok (.if_icmp .ne 7, 3) := by decide +kernel
theorem dX12_quench_139 : decode cX12_quench 139 = .ok (.iconst 0, 1) := by decide +kernel
theorem dX12_quench_140 : decode cX12_quench 140 = .ok (.goto 10, 3) := by decide +kernel
theorem dX12_quench_143 : decode cX12_quench 143 = .ok (.aload_n 0, 1) := by decide +kernel
theorem dX12_quench_144 : decode cX12_quench 144 = .ok (.iload 5, 2) := by decide +kernel
theorem dX12_quench_146 : decode cX12_quench 146 = .ok (.iconst 5, 1) := by decide +kernel
theorem dX12_quench_147 : decode cX12_quench 147 = .ok (.invokevirtual 62, 3) := by decide +kernel
theorem dX12_quench_150 : decode cX12_quench 150 = .ok (.iastore, 1) := by decide +kernel
theorem dX12_quench_151 : decode cX12_quench 151 = .ok (.iinc 5 1, 3) := by decide +kernel
theorem dX12_quench_154 : decode cX12_quench 154 = .ok (.goto (-80), 3) := by decide +kernel
theorem dX12_quench_157 : decode cX12_quench 157 = .ok (.aload_n 0, 1) := by decide +kernel
theorem dX12_quench_158 : decode cX12_quench 158 = .ok (.iload_n 1, 1) := by decide +kernel
theorem dX12_quench_159 : decode cX12_quench 159 = .ok (.invokevirtual 130, 3) := by decide +kernel
theorem dX12_quench_162 : decode cX12_quench 162 = .ok (.aload_n 0, 1) := by decide +kernel
theorem dX12_quench_163 : decode cX12_quench 163 = .ok (.getfield 7, 3) := by decide +kernel
theorem dX12_quench_166 : decode cX12_quench 166 = .ok (.iconst 4, 1) := by decide +kernel
theorem dX12_quench_167 : decode cX12_quench 167 = .ok (.iaload, 1) := by decide +kernel
theorem dX12_quench_168 : decode cX12_quench 168 = .ok (.iload_n 2, 1) := by decide +kernel
theorem dX12_quench_169 : decode cX12_quench 169 = .ok (.if_icmp .ne 8, 3) := by decide +kernel
theorem dX12_quench_172 : decode cX12_quench 172 = .ok (.iload 4, 2) := by decide +kernel
theorem dX12_quench_174 : decode cX12_quench 174 = .ok (.goto 4, 3) := by decide +kernel
theorem dX12_quench_177 : decode cX12_quench 177 = .ok (.iload_n 3, 1) := by decide +kernel
theorem dX12_quench_178 : decode cX12_quench 178 = .ok (.istore_n 3, 1) := by decide +kernel
theorem dX12_quench_179 : decode cX12_quench 179 = .ok (.aload_n 0, 1) := by decide +kernel
theorem dX12_quench_180 : decode cX12_quench 180 = .ok (.getfield 19, 3) := by decide +kernel
theorem dX12_quench_183 : decode cX12_quench 183 = .ok (.aload_n 0, 1) := by decide +kernel
theorem dX12_quench_184 : decode cX12_quench 184 = .ok (.getfield 7, 3) := by decide +kernel
theorem dX12_quench_187 : decode cX12_quench 187 = .ok (.invokestatic 146, 3) := by decide +kernel
theorem dX12_quench_190 : decode cX12_quench 190 = .ok (.iinc 4 1, 3) := by decide +kernel
theorem dX12_quench_193 : decode cX12_quench 193 = .ok (.goto (-151), 3) := by decide +kernel
theorem dX12_quench_196 : decode cX12_quench 196 = .ok (.iload_n 3, 1) := by decide +kernel
theorem dX12_quench_197 : decode cX12_quench 197 = .ok (.ireturn, 1) := by decide +kernel
theorem dX12_isTold_0 : decode cX12_isTold 0 = .ok (.aload_n 0, 1) := by decide +kernel
theorem dX12_isTold_1 : decode cX12_isTold 1 = .ok (.getfield 7, 3) := by decide +kernel
theorem dX12_isTold_4 : decode cX12_isTold 4 = .ok (.aload_n 0, 1) := by decide +kernel
theorem dX12_isTold_5 : decode cX12_isTold 5 = .ok (.getfield 19, 3) := by decide +kernel
theorem dX12_isTold_8 : decode cX12_isTold 8 = .ok (.invokestatic 146, 3) := by decide +kernel
theorem dX12_isTold_11 : decode cX12_isTold 11 = .ok (.iconst 1, 1) := by decide +kernel
theorem dX12_isTold_12 : decode cX12_isTold 12 = .ok (.istore_n 3, 1) := by decide +kernel
theorem dX12_isTold_13 : decode cX12_isTold 13 = .ok (.iconst 0, 1) := by decide +kernel
theorem dX12_isTold_14 : decode cX12_isTold 14 = .ok (.istore 4, 2) := by decide +kernel
theorem dX12_isTold_16 : decode cX12_isTold 16 = .ok (.iload 4, 2) := by decide +kernel
theorem dX12_isTold_18 : decode cX12_isTold 18 = .ok (.aload_n 0, 1) := by decide +kernel
theorem dX12_isTold_19 : decode cX12_isTold 19 = .ok (.getfield 31, 3) := by decide +kernel
theorem dX12_isTold_22 : decode cX12_isTold 22 = .ok (.iload_n 1, 1) := by decide +kernel
theorem dX12_isTold_23 : decode cX12_isTold 23 = .ok (.iaload, 1) := by decide +kernel
theorem dX12_isTold_24 : decode cX12_isTold 24 = .ok (.if_icmp .ge 54, 3) := by decide +kernel
theorem dX12_isTold_27 : decode cX12_isTold 27 = .ok (.iload_n 3, 1) := by decide +kernel
theorem dX12_isTold_28 : decode cX12_isTold 28 = .ok (.ifCond .eq 50, 3) := by decide +kernel
theorem dX12_isTold_31 : decode cX12_isTold 31 = .ok (.aload_n 0, 1) := by decide +kernel
theorem dX12_isTold_32 : decode cX12_isTold 32 = .ok (.getfield 34, 3) := by decide +kernel
theorem dX12_isTold_35 : decode cX12_isTold 35 = .ok (.bipush 40, 2) := by decide +kernel
theorem dX12_isTold_37 : decode cX12_isTold 37 = .ok (.iload_n 1, 1) := by decide +kernel
theorem dX12_isTold_38 : decode cX12_isTold 38 = .ok (.imul, 1) := by decide +kernel
theorem dX12_isTold_39 : decode cX12_isTold 39 = .ok (.iload 4, 2) := by decide +kernel
theorem dX12_isTold_41 : decode cX12_isTold 41 = .ok (.iadd, 1) := by decide +kernel
theorem dX12_isTold_42 : decode cX12_isTold 42 = .ok (.iaload, 1) := by decide +kernel
theorem dX12_isTold_43 : decode cX12_isTold 43 = .ok (.istore 5, 2) := by decide +kernel
theorem dX12_isTold_45 : decode cX12_isTold 45 = .ok (.iload 5, 2) := by decide +kernel
theorem dX12_isTold_47 : decode cX12_isTold 47 = .ok (.iconst (-1), 1) := by decide +kernel
theorem dX12_isTold_48 : decode cX12_isTold 48 = .ok (.if_icmp .eq 14, 3) := by decide +kernel
theorem dX12_isTold_51 : decode cX12_isTold 51 = .ok (.iload 5, 2) := by decide +kernel
theorem dX12_isTold_53 : decode cX12_isTold 53 = .ok (.aload_n 0, 1) := by decide +kernel
theorem dX12_isTold_54 : decode cX12_isTold 54 = .ok (.iload_n 2, 1) := by decide +kernel
theorem dX12_isTold_55 : decode cX12_isTold 55 = .ok (.iconst 4, 1) := by decide +kernel
theorem dX12_isTold_56 : decode cX12_isTold 56 = .ok (.invokevirtual 62, 3) := by decide +kernel
theorem dX12_isTold_59 : decode cX12_isTold 59 = .ok (.if_icmp .ne 7, 3) := by decide +kernel
theorem dX12_isTold_62 : decode cX12_isTold 62 = .ok (.iconst 1, 1) := by decide +kernel
theorem dX12_isTold_63 : decode cX12_isTold 63 = .ok (.goto 4, 3) := by decide +kernel
theorem dX12_isTold_66 : decode cX12_isTold 66 = .ok (.iconst 0, 1) := by decide +kernel
theorem dX12_isTold_67 : decode cX12_isTold 67 = .ok (.istore_n 3, 1) := by decide +kernel
theorem dX12_isTold_68 : decode cX12_isTold 68 = .ok (.aload_n 0, 1) := by decide +kernel
theorem dX12_isTold_69 : decode cX12_isTold 69 = .ok (.invokevirtual 124, 3) := by decide +kernel
theorem dX12_isTold_72 : decode cX12_isTold 72 = .ok (.iinc 4 1, 3) := by decide +kernel
theorem dX12_isTold_75 : decode cX12_isTold 75 = .ok (.goto (-59), 3) := by decide +kernel
theorem dX12_isTold_78 : decode cX12_isTold 78 = .ok (.aload_n 0, 1) := by decide +kernel
theorem dX12_isTold_79 : decode cX12_isTold 79 = .ok (.getfield 19, 3) := by decide +kernel
theorem dX12_isTold_82 : decode cX12_isTold 82 = .ok (.aload_n 0, 1) := by decide +kernel
theorem dX12_isTold_83 : decode cX12_isTold 83 = .ok (.getfield 7, 3) := by decide +kernel
theorem dX12_isTold_86 : decode cX12_isTold 86 = .ok (.invokestatic 146, 3) := by decide +kernel
theorem dX12_isTold_89 : decode cX12_isTold 89 = .ok (.iload_n 3, 1) := by decide +kernel
theorem dX12_isTold_90 : decode cX12_isTold 90 = .ok (.ireturn, 1) := by decide +kernel
theorem dX12_couldBe_0 : decode cX12_couldBe 0 = .ok (.aload_n 0, 1) := by decide +kernel
theorem dX12_couldBe_1 : decode cX12_couldBe 1 = .ok (.iload_n 1, 1) := by decide +kernel
theorem dX12_couldBe_2 : decode cX12_couldBe 2 = .ok (.invokevirtual 178, 3) := by decide +kernel
theorem dX12_couldBe_5 : decode cX12_couldBe 5 = .ok (.ifCond .eq 11, 3) := by decide +kernel
theorem dX12_couldBe_8 : decode cX12_couldBe 8 = .ok (.aload_n 0, 1) := by decide +kernel
theorem dX12_couldBe_9 : decode cX12_couldBe 9 = .ok (.iload_n 1, 1) := by decide +kernel
theorem dX12_couldBe_10 : decode cX12_couldBe 10 = .ok (.invokevirtual 178, 3) := by decide +kernel
theorem dX12_couldBe_13 : decode cX12_couldBe 13 = .ok (.goto 17, 3) := by decide +kernel
theorem dX12_couldBe_16 : decode cX12_couldBe 16 = .ok (.aload_n 0, 1) := by decide +kernel
theorem dX12_couldBe_17 : decode cX12_couldBe 17 = .ok (.iload_n 2, 1) := by decide +kernel
theorem dX12_couldBe_18 : decode cX12_couldBe 18 = .ok (.invokevirtual 77, 3) := by decide +kernel
theorem dX12_couldBe_21 : decode cX12_couldBe 21 = .ok (.ifCond .eq 7, 3) := by decide +kernel
theorem dX12_couldBe_24 : decode cX12_couldBe 24 = .ok (.iconst 0, 1) := by decide +kernel
theorem dX12_couldBe_25 : decode cX12_couldBe 25 = .ok (.goto 5, 3) := by decide +kernel
theorem dX12_couldBe_28 : decode cX12_couldBe 28 = .ok (.ldc 40, 2) := by decide +kernel
theorem dX12_couldBe_30 : decode cX12_couldBe 30 = .ok (.istore 4, 2) := by decide +kernel
theorem dX12_couldBe_32 : decode cX12_couldBe 32 = .ok (.iload 4, 2) := by decide +kernel
theorem dX12_couldBe_34 : decode cX12_couldBe 34 = .ok (.ifCond .eq 10, 3) := by decide +kernel
theorem dX12_couldBe_37 : decode cX12_couldBe 37 = .ok (.aload_n 0, 1) := by decide +kernel
theorem dX12_couldBe_38 : decode cX12_couldBe 38 = .ok (.iload 4, 2) := by decide +kernel
theorem dX12_couldBe_40 : decode cX12_couldBe 40 = .ok (.invokevirtual 42, 3) := by decide +kernel
theorem dX12_couldBe_43 : decode cX12_couldBe 43 = .ok (.ireturn, 1) := by decide +kernel
theorem dX12_couldBe_44 : decode cX12_couldBe 44 = .ok (.aload_n 0, 1) := by decide +kernel
theorem dX12_couldBe_45 : decode cX12_couldBe 45 = .ok (.iload_n 2, 1) := by decide +kernel
theorem dX12_couldBe_46 : decode cX12_couldBe 46 = .ok (.iload_n 3, 1) := by decide +kernel
theorem dX12_couldBe_47 : decode cX12_couldBe 47 = .ok (.invokevirtual 62, 3) := by decide +kernel
theorem dX12_couldBe_50 : decode cX12_couldBe 50 = .ok (.istore 5, 2) := by decide +kernel
theorem dX12_couldBe_52 : decode cX12_couldBe 52 = .ok (.iconst 0, 1) := by decide +kernel
theorem dX12_couldBe_53 : decode cX12_couldBe 53 = .ok (.istore 6, 2) := by decide +kernel
theorem dX12_couldBe_55 : decode cX12_couldBe 55 = .ok (.iconst 0, 1) := by decide +kernel
theorem dX12_couldBe_56 : decode cX12_couldBe 56 = .ok (.istore 7, 2) := by decide +kernel
theorem dX12_couldBe_58 : decode cX12_couldBe 58 = .ok (.iload 7, 2) := by decide +kernel
theorem dX12_couldBe_60 : decode cX12_couldBe 60 = .ok (.iload_n 3, 1) := by decide +kernel
theorem dX12_couldBe_61 : decode cX12_couldBe 61 = .ok (.invokestatic 91, 3) := by decide +kernel
theorem dX12_couldBe_64 : decode cX12_couldBe 64 = .ok (.if_icmp .gt 43, 3) := by decide +kernel
theorem dX12_couldBe_67 : decode cX12_couldBe 67 = .ok (.aload_n 0, 1) := by decide +kernel
theorem dX12_couldBe_68 : decode cX12_couldBe 68 = .ok (.getfield 7, 3) := by decide +kernel
theorem dX12_couldBe_71 : decode cX12_couldBe 71 = .ok (.iload_n 2, 1) := by decide +kernel
theorem dX12_couldBe_72 : decode cX12_couldBe 72 = .ok (.iload_n 3, 1) := by decide +kernel
theorem dX12_couldBe_73 : decode cX12_couldBe 73 = .ok (.invokestatic 67, 3) := by decide +kernel
theorem dX12_couldBe_76 : decode cX12_couldBe 76 = .ok (.iload 7, 2) := by decide +kernel
theorem dX12_couldBe_78 : decode cX12_couldBe 78 = .ok (.iastore, 1) := by decide +kernel
theorem dX12_couldBe_79 : decode cX12_couldBe 79 = .ok (.iload 6, 2) := by decide +kernel
theorem dX12_couldBe_81 : decode cX12_couldBe 81 = .ok (.aload_n 0, 1) := by decide +kernel
theorem dX12_couldBe_82 : decode cX12_couldBe 82 = .ok (.iload_n 1, 1) := by decide +kernel
theorem dX12_couldBe_83 : decode cX12_couldBe 83 = .ok (.iload_n 2, 1) := by decide +kernel
theorem dX12_couldBe_84 : decode cX12_couldBe 84 = .ok (.invokevirtual 181, 3) := by decide +kernel
theorem dX12_couldBe_87 : decode cX12_couldBe 87 = .ok (.ifCond .eq 10, 3) := by decide +kernel
theorem dX12_couldBe_90 : decode cX12_couldBe 90 = .ok (.iconst 1, 1) := by decide +kernel
theorem dX12_couldBe_91 : decode cX12_couldBe 91 = .ok (.iload 7, 2) := by decide +kernel
theorem dX12_couldBe_93 : decode cX12_couldBe 93 = .ok (.ishl, 1) := by decide +kernel
theorem dX12_couldBe_94 : decode cX12_couldBe 94 = .ok (.goto 4, 3) := by decide +kernel
theorem dX12_couldBe_97 : decode cX12_couldBe 97 = .ok (.iconst 0, 1) := by decide +kernel
theorem dX12_couldBe_98 : decode cX12_couldBe 98 = .ok (.ior, 1) := by decide +kernel
theorem dX12_couldBe_99 : decode cX12_couldBe 99 = .ok (.istore 6, 2) := by decide +kernel
theorem dX12_couldBe_101 : decode cX12_couldBe 101 = .ok (.iinc 7 1, 3) := by decide +kernel
theorem dX12_couldBe_104 : decode cX12_couldBe 104 = .ok (.goto (-46), 3) := by decide +kernel
theorem dX12_couldBe_107 : decode cX12_couldBe 107 = .ok (.aload_n 0, 1) := by decide +kernel
theorem dX12_couldBe_108 : decode cX12_couldBe 108 = .ok (.getfield 7, 3) := by decide +kernel
theorem dX12_couldBe_111 : decode cX12_couldBe 111 = .ok (.iload_n 2, 1) := by decide +kernel
theorem dX12_couldBe_112 : decode cX12_couldBe 112 = .ok (.iload_n 3, 1) := by decide +kernel
theorem dX12_couldBe_113 : decode cX12_couldBe 113 = .ok (.invokestatic 67, 3) := by decide +kernel
theorem dX12_couldBe_116 : decode cX12_couldBe 116 = .ok (.iload 5, 2) := by decide +kernel
theorem dX12_couldBe_118 : decode cX12_couldBe 118 = .ok (.iastore, 1) := by decide +kernel
theorem dX12_couldBe_119 : decode cX12_couldBe 119 = .ok (.iload 6, 2) := by decide +kernel
theorem dX12_couldBe_121 : decode cX12_couldBe 121 = .ok (.ireturn, 1) := by decide +kernel
theorem dX12_fits_0 : decode cX12_fits 0 = .ok (.aload_n 0, 1) := by decide +kernel
theorem dX12_fits_1 : decode cX12_fits 1 = .ok (.iload_n 1, 1) := by decide +kernel
theorem dX12_fits_2 : decode cX12_fits 2 = .ok (.iload_n 2, 1) := by decide +kernel
theorem dX12_fits_3 : decode cX12_fits 3 = .ok (.iconst 2, 1) := by decide +kernel
theorem dX12_fits_4 : decode cX12_fits 4 = .ok (.invokevirtual 184, 3) := by decide +kernel
theorem dX12_fits_7 : decode cX12_fits 7 = .ok (.ireturn, 1) := by decide +kernel
theorem dX12_kinds_0 : decode cX12_kinds 0 = .ok (.aload_n 0, 1) := by decide +kernel
theorem dX12_kinds_1 : decode cX12_kinds 1 = .ok (.iload_n 1, 1) := by decide +kernel
theorem dX12_kinds_2 : decode cX12_kinds 2 = .ok (.iload_n 2, 1) := by decide +kernel
theorem dX12_kinds_3 : decode cX12_kinds 3 = .ok (.iconst 0, 1) := by decide +kernel
theorem dX12_kinds_4 : decode cX12_kinds 4 = .ok (.invokevirtual 184, 3) := by decide +kernel
theorem dX12_kinds_7 : decode cX12_kinds 7 = .ok (.ireturn, 1) := by decide +kernel
theorem dX12_draw_0 : decode cX12_draw 0 = .ok (.aload_n 0, 1) := by decide +kernel
theorem dX12_draw_1 : decode cX12_draw 1 = .ok (.getfield 7, 3) := by decide +kernel
theorem dX12_draw_4 : decode cX12_draw 4 = .ok (.iconst 2, 1) := by decide +kernel
theorem dX12_draw_5 : decode cX12_draw 5 = .ok (.aload_n 0, 1) := by decide +kernel
theorem dX12_draw_6 : decode cX12_draw 6 = .ok (.getfield 7, 3) := by decide +kernel
theorem dX12_draw_9 : decode cX12_draw 9 = .ok (.iconst 2, 1) := by decide +kernel
theorem dX12_draw_10 : decode cX12_draw 10 = .ok (.iaload, 1) := by decide +kernel
theorem dX12_draw_11 : decode cX12_draw 11 = .ok (.ldc 188, 2) := by decide +kernel
theorem dX12_draw_13 : decode cX12_draw 13 = .ok (.imul, 1) := by decide +kernel
theorem dX12_draw_14 : decode cX12_draw 14 = .ok (.sipush 12345, 3) := by decide +kernel
theorem dX12_draw_17 : decode cX12_draw 17 = .ok (.iadd, 1) := by decide +kernel
theorem dX12_draw_18 : decode cX12_draw 18 = .ok (.iastore, 1) := by decide +kernel
theorem dX12_draw_19 : decode cX12_draw 19 = .ok (.aload_n 0, 1) := by decide +kernel
theorem dX12_draw_20 : decode cX12_draw 20 = .ok (.getfield 7, 3) := by decide +kernel
theorem dX12_draw_23 : decode cX12_draw 23 = .ok (.iconst 2, 1) := by decide +kernel
theorem dX12_draw_24 : decode cX12_draw 24 = .ok (.iaload, 1) := by decide +kernel
theorem dX12_draw_25 : decode cX12_draw 25 = .ok (.bipush 8, 2) := by decide +kernel
theorem dX12_draw_27 : decode cX12_draw 27 = .ok (.iushr, 1) := by decide +kernel
theorem dX12_draw_28 : decode cX12_draw 28 = .ok (.ireturn, 1) := by decide +kernel
theorem dX12_winds_0 : decode cX12_winds 0 = .ok (.iload_n 1, 1) := by decide +kernel
theorem dX12_winds_1 : decode cX12_winds 1 = .ok (.i2l, 1) := by decide +kernel
theorem dX12_winds_2 : decode cX12_winds 2 = .ok (.lconst 1, 1) := by decide +kernel
theorem dX12_winds_3 : decode cX12_winds 3 = .ok (.ldc2_w 173, 3) := by decide +kernel
theorem dX12_winds_6 : decode cX12_winds 6 = .ok (.invokestatic 52, 3) := by decide +kernel
theorem dX12_winds_9 : decode cX12_winds 9 = .ok (.ifCond .ne 10, 3) := by decide +kernel
theorem dX12_winds_12 : decode cX12_winds 12 = .ok (.aload_n 0, 1) := by decide +kernel
theorem dX12_winds_13 : decode cX12_winds 13 = .ok (.ldc 40, 2) := by decide +kernel
theorem dX12_winds_15 : decode cX12_winds 15 = .ok (.invokevirtual 42, 3) := by decide +kernel
theorem dX12_winds_18 : decode cX12_winds 18 = .ok (.ireturn, 1) := by decide +kernel
theorem dX12_winds_19 : decode cX12_winds 19 = .ok (.aload_n 0, 1) := by decide +kernel
theorem dX12_winds_20 : decode cX12_winds 20 = .ok (.getfield 7, 3) := by decide +kernel
theorem dX12_winds_23 : decode cX12_winds 23 = .ok (.iconst 1, 1) := by decide +kernel
theorem dX12_winds_24 : decode cX12_winds 24 = .ok (.iaload, 1) := by decide +kernel
theorem dX12_winds_25 : decode cX12_winds 25 = .ok (.iload_n 1, 1) := by decide +kernel
theorem dX12_winds_26 : decode cX12_winds 26 = .ok (.iadd, 1) := by decide +kernel
theorem dX12_winds_27 : decode cX12_winds 27 = .ok (.ldc 109, 2) := by decide +kernel
theorem dX12_winds_29 : decode cX12_winds 29 = .ok (.if_icmp .le 10, 3) := by decide +kernel
theorem dX12_winds_32 : decode cX12_winds 32 = .ok (.aload_n 0, 1) := by decide +kernel
theorem dX12_winds_33 : decode cX12_winds 33 = .ok (.ldc 129, 2) := by decide +kernel
theorem dX12_winds_35 : decode cX12_winds 35 = .ok (.invokevirtual 42, 3) := by decide +kernel
theorem dX12_winds_38 : decode cX12_winds 38 = .ok (.ireturn, 1) := by decide +kernel
theorem dX12_winds_39 : decode cX12_winds 39 = .ok (.iconst 0, 1) := by decide +kernel
theorem dX12_winds_40 : decode cX12_winds 40 = .ok (.istore_n 2, 1) := by decide +kernel
theorem dX12_winds_41 : decode cX12_winds 41 = .ok (.iload_n 2, 1) := by decide +kernel
theorem dX12_winds_42 : decode cX12_winds 42 = .ok (.iload_n 1, 1) := by decide +kernel
theorem dX12_winds_43 : decode cX12_winds 43 = .ok (.if_icmp .ge 25, 3) := by decide +kernel
theorem dX12_winds_46 : decode cX12_winds 46 = .ok (.aload_n 0, 1) := by decide +kernel
theorem dX12_winds_47 : decode cX12_winds 47 = .ok (.getfield 7, 3) := by decide +kernel
theorem dX12_winds_50 : decode cX12_winds 50 = .ok (.iconst 3, 1) := by decide +kernel
theorem dX12_winds_51 : decode cX12_winds 51 = .ok (.aload_n 0, 1) := by decide +kernel
theorem dX12_winds_52 : decode cX12_winds 52 = .ok (.invokevirtual 189, 3) := by decide +kernel
theorem dX12_winds_55 : decode cX12_winds 55 = .ok (.iconst 5, 1) := by decide +kernel
theorem dX12_winds_56 : decode cX12_winds 56 = .ok (.irem, 1) := by decide +kernel
theorem dX12_winds_57 : decode cX12_winds 57 = .ok (.iastore, 1) := by decide +kernel
theorem dX12_winds_58 : decode cX12_winds 58 = .ok (.aload_n 0, 1) := by decide +kernel
theorem dX12_winds_59 : decode cX12_winds 59 = .ok (.invokevirtual 124, 3) := by decide +kernel
theorem dX12_winds_62 : decode cX12_winds 62 = .ok (.iinc 2 1, 3) := by decide +kernel
theorem dX12_winds_65 : decode cX12_winds 65 = .ok (.goto (-24), 3) := by decide +kernel
theorem dX12_winds_68 : decode cX12_winds 68 = .ok (.aload_n 0, 1) := by decide +kernel
theorem dX12_winds_69 : decode cX12_winds 69 = .ok (.invokevirtual 133, 3) := by decide +kernel
theorem dX12_winds_72 : decode cX12_winds 72 = .ok (.ireturn, 1) := by decide +kernel
theorem dX12_odds_0 : decode cX12_odds 0 = .ok (.aload_n 0, 1) := by decide +kernel
theorem dX12_odds_1 : decode cX12_odds 1 = .ok (.iload_n 1, 1) := by decide +kernel
theorem dX12_odds_2 : decode cX12_odds 2 = .ok (.invokevirtual 77, 3) := by decide +kernel
theorem dX12_odds_5 : decode cX12_odds 5 = .ok (.ifCond .eq 25, 3) := by decide +kernel
theorem dX12_odds_8 : decode cX12_odds 8 = .ok (.iload_n 2, 1) := by decide +kernel
theorem dX12_odds_9 : decode cX12_odds 9 = .ok (.i2l, 1) := by decide +kernel
theorem dX12_odds_10 : decode cX12_odds 10 = .ok (.lconst 0, 1) := by decide +kernel
theorem dX12_odds_11 : decode cX12_odds 11 = .ok (.ldc2_w 192, 3) := by decide +kernel
theorem dX12_odds_14 : decode cX12_odds 14 = .ok (.invokestatic 52, 3) := by decide +kernel
theorem dX12_odds_17 : decode cX12_odds 17 = .ok (.ifCond .eq 13, 3) := by decide +kernel
theorem dX12_odds_20 : decode cX12_odds 20 = .ok (.iload_n 3, 1) := by decide +kernel
theorem dX12_odds_21 : decode cX12_odds 21 = .ok (.i2l, 1) := by decide +kernel
theorem dX12_odds_22 : decode cX12_odds 22 = .ok (.lconst 0, 1) := by decide +kernel
theorem dX12_odds_23 : decode cX12_odds 23 = .ok (.lconst 1, 1) := by decide +kernel
theorem dX12_odds_24 : decode cX12_odds 24 = .ok (.invokestatic 52, 3) := by decide +kernel
theorem dX12_odds_27 : decode cX12_odds 27 = .ok (.ifCond .ne 11, 3) := by decide +kernel
theorem dX12_odds_30 : decode cX12_odds 30 = .ok (.aload_n 0, 1) := by decide +kernel
theorem dX12_odds_31 : decode cX12_odds 31 = .ok (.ldc 40, 2) := by decide +kernel
theorem dX12_odds_33 : decode cX12_odds 33 = .ok (.invokevirtual 42, 3) := by decide +kernel
theorem dX12_odds_36 : decode cX12_odds 36 = .ok (.i2l, 1) := by decide +kernel
theorem dX12_odds_37 : decode cX12_odds 37 = .ok (.lreturn, 1) := by decide +kernel
theorem dX12_odds_38 : decode cX12_odds 38 = .ok (.lconst 1, 1) := by decide +kernel
theorem dX12_odds_39 : decode cX12_odds 39 = .ok (.lstore 4, 2) := by decide +kernel
theorem dX12_odds_41 : decode cX12_odds 41 = .ok (.iconst 0, 1) := by decide +kernel
theorem dX12_odds_42 : decode cX12_odds 42 = .ok (.istore 6, 2) := by decide +kernel
theorem dX12_odds_44 : decode cX12_odds 44 = .ok (.iload 6, 2) := by decide +kernel
theorem dX12_odds_46 : decode cX12_odds 46 = .ok (.iload_n 2, 1) := by decide +kernel
theorem dX12_odds_47 : decode cX12_odds 47 = .ok (.if_icmp .ge 42, 3) := by decide +kernel
theorem dX12_odds_50 : decode cX12_odds 50 = .ok (.aload_n 0, 1) := by decide +kernel
theorem dX12_odds_51 : decode cX12_odds 51 = .ok (.iload_n 1, 1) := by decide +kernel
theorem dX12_odds_52 : decode cX12_odds 52 = .ok (.iconst 1, 1) := by decide +kernel
theorem dX12_odds_53 : decode cX12_odds 53 = .ok (.invokevirtual 62, 3) := by decide +kernel
theorem dX12_odds_56 : decode cX12_odds 56 = .ok (.aload_n 0, 1) := by decide +kernel
theorem dX12_odds_57 : decode cX12_odds 57 = .ok (.iload_n 1, 1) := by decide +kernel
theorem dX12_odds_58 : decode cX12_odds 58 = .ok (.iconst 2, 1) := by decide +kernel
theorem dX12_odds_59 : decode cX12_odds 59 = .ok (.invokevirtual 62, 3) := by decide +kernel
theorem dX12_odds_62 : decode cX12_odds 62 = .ok (.if_icmp .eq 27, 3) := by decide +kernel
theorem dX12_odds_65 : decode cX12_odds 65 = .ok (.lload 4, 2) := by decide +kernel
theorem dX12_odds_67 : decode cX12_odds 67 = .ok (.iload_n 3, 1) := by decide +kernel
theorem dX12_odds_68 : decode cX12_odds 68 = .ok (.ifCond .ne 9, 3) := by decide +kernel
theorem dX12_odds_71 : decode cX12_odds 71 = .ok (.ldc2_w 65, 3) := by decide +kernel
theorem dX12_odds_74 : decode cX12_odds 74 = .ok (.goto 6, 3) := by decide +kernel
theorem dX12_odds_77 : decode cX12_odds 77 = .ok (.ldc2_w 194, 3) := by decide +kernel
theorem dX12_odds_80 : decode cX12_odds 80 = .ok (.lmul, 1) := by decide +kernel
theorem dX12_odds_81 : decode cX12_odds 81 = .ok (.lstore 4, 2) := by decide +kernel
theorem dX12_odds_83 : decode cX12_odds 83 = .ok (.iinc 6 1, 3) := by decide +kernel
theorem dX12_odds_86 : decode cX12_odds 86 = .ok (.goto (-42), 3) := by decide +kernel
theorem dX12_odds_89 : decode cX12_odds 89 = .ok (.lload 4, 2) := by decide +kernel
theorem dX12_odds_91 : decode cX12_odds 91 = .ok (.lreturn, 1) := by decide +kernel
theorem dX12_seed_0 : decode cX12_seed 0 = .ok (.aload_n 0, 1) := by decide +kernel
theorem dX12_seed_1 : decode cX12_seed 1 = .ok (.iconst 2, 1) := by decide +kernel
theorem dX12_seed_2 : decode cX12_seed 2 = .ok (.iload_n 1, 1) := by decide +kernel
theorem dX12_seed_3 : decode cX12_seed 3 = .ok (.invokevirtual 56, 3) := by decide +kernel
theorem dX12_seed_6 : decode cX12_seed 6 = .ok (.ireturn, 1) := by decide +kernel
theorem dX12_feed_0 : decode cX12_feed 0 = .ok (.iload_n 2, 1) := by decide +kernel
theorem dX12_feed_1 : decode cX12_feed 1 = .ok (.i2l, 1) := by decide +kernel
theorem dX12_feed_2 : decode cX12_feed 2 = .ok (.lconst 1, 1) := by decide +kernel
theorem dX12_feed_3 : decode cX12_feed 3 = .ok (.ldc2_w 65, 3) := by decide +kernel
theorem dX12_feed_6 : decode cX12_feed 6 = .ok (.invokestatic 52, 3) := by decide +kernel
theorem dX12_feed_9 : decode cX12_feed 9 = .ok (.ifCond .ne 10, 3) := by decide +kernel
theorem dX12_feed_12 : decode cX12_feed 12 = .ok (.aload_n 0, 1) := by decide +kernel
theorem dX12_feed_13 : decode cX12_feed 13 = .ok (.ldc 40, 2) := by decide +kernel
theorem dX12_feed_15 : decode cX12_feed 15 = .ok (.invokevirtual 42, 3) := by decide +kernel
theorem dX12_feed_18 : decode cX12_feed 18 = .ok (.ireturn, 1) := by decide +kernel
theorem dX12_feed_19 : decode cX12_feed 19 = .ok (.aload_n 0, 1) := by decide +kernel
theorem dX12_feed_20 : decode cX12_feed 20 = .ok (.getfield 196, 3) := by decide +kernel
theorem dX12_feed_23 : decode cX12_feed 23 = .ok (.iload_n 2, 1) := by decide +kernel
theorem dX12_feed_24 : decode cX12_feed 24 = .ok (.iadd, 1) := by decide +kernel
theorem dX12_feed_25 : decode cX12_feed 25 = .ok (.bipush 120, 2) := by decide +kernel
theorem dX12_feed_27 : decode cX12_feed 27 = .ok (.if_icmp .le 10, 3) := by decide +kernel
theorem dX12_feed_30 : decode cX12_feed 30 = .ok (.aload_n 0, 1) := by decide +kernel
theorem dX12_feed_31 : decode cX12_feed 31 = .ok (.ldc 72, 2) := by decide +kernel
theorem dX12_feed_33 : decode cX12_feed 33 = .ok (.invokevirtual 42, 3) := by decide +kernel
theorem dX12_feed_36 : decode cX12_feed 36 = .ok (.ireturn, 1) := by decide +kernel
theorem dX12_feed_37 : decode cX12_feed 37 = .ok (.iload_n 2, 1) := by decide +kernel
theorem dX12_feed_38 : decode cX12_feed 38 = .ok (.iconst 1, 1) := by decide +kernel
theorem dX12_feed_39 : decode cX12_feed 39 = .ok (.isub, 1) := by decide +kernel
theorem dX12_feed_40 : decode cX12_feed 40 = .ok (.istore_n 3, 1) := by decide +kernel
theorem dX12_feed_41 : decode cX12_feed 41 = .ok (.iload_n 3, 1) := by decide +kernel
theorem dX12_feed_42 : decode cX12_feed 42 = .ok (.ifCond .lt 38, 3) := by decide +kernel
theorem dX12_feed_45 : decode cX12_feed 45 = .ok (.aload_n 0, 1) := by decide +kernel
theorem dX12_feed_46 : decode cX12_feed 46 = .ok (.getfield 25, 3) := by decide +kernel
theorem dX12_feed_49 : decode cX12_feed 49 = .ok (.aload_n 0, 1) := by decide +kernel
theorem dX12_feed_50 : decode cX12_feed 50 = .ok (.getfield 196, 3) := by decide +kernel
theorem dX12_feed_53 : decode cX12_feed 53 = .ok (.iload_n 1, 1) := by decide +kernel
theorem dX12_feed_54 : decode cX12_feed 54 = .ok (.bipush 8, 2) := by decide +kernel
theorem dX12_feed_56 : decode cX12_feed 56 = .ok (.iload_n 3, 1) := by decide +kernel
theorem dX12_feed_57 : decode cX12_feed 57 = .ok (.imul, 1) := by decide +kernel
theorem dX12_feed_58 : decode cX12_feed 58 = .ok (.ishr, 1) := by decide +kernel
theorem dX12_feed_59 : decode cX12_feed 59 = .ok (.sipush 255, 3) := by decide +kernel
theorem dX12_feed_62 : decode cX12_feed 62 = .ok (.iand, 1) := by decide +kernel
theorem dX12_feed_63 : decode cX12_feed 63 = .ok (.iastore, 1) := by decide +kernel
theorem dX12_feed_64 : decode cX12_feed 64 = .ok (.aload_n 0, 1) := by decide +kernel
theorem dX12_feed_65 : decode cX12_feed 65 = .ok (.dup, 1) := by decide +kernel
theorem dX12_feed_66 : decode cX12_feed 66 = .ok (.getfield 196, 3) := by decide +kernel
theorem dX12_feed_69 : decode cX12_feed 69 = .ok (.iconst 1, 1) := by decide +kernel
theorem dX12_feed_70 : decode cX12_feed 70 = .ok (.iadd, 1) := by decide +kernel
theorem dX12_feed_71 : decode cX12_feed 71 = .ok (.putfield 196, 3) := by decide +kernel
theorem dX12_feed_74 : decode cX12_feed 74 = .ok (.iinc 3 (-1), 3) := by decide +kernel
theorem dX12_feed_77 : decode cX12_feed 77 = .ok (.goto (-36), 3) := by decide +kernel
theorem dX12_feed_80 : decode cX12_feed 80 = .ok (.aload_n 0, 1) := by decide +kernel
theorem dX12_feed_81 : decode cX12_feed 81 = .ok (.getfield 196, 3) := by decide +kernel
theorem dX12_feed_84 : decode cX12_feed 84 = .ok (.ireturn, 1) := by decide +kernel
theorem dX12_wipe_0 : decode cX12_wipe 0 = .ok (.aload_n 0, 1) := by decide +kernel
theorem dX12_wipe_1 : decode cX12_wipe 1 = .ok (.getfield 196, 3) := by decide +kernel
theorem dX12_wipe_4 : decode cX12_wipe 4 = .ok (.istore_n 1, 1) := by decide +kernel
theorem dX12_wipe_5 : decode cX12_wipe 5 = .ok (.aload_n 0, 1) := by decide +kernel
theorem dX12_wipe_6 : decode cX12_wipe 6 = .ok (.iconst 0, 1) := by decide +kernel
theorem dX12_wipe_7 : decode cX12_wipe 7 = .ok (.putfield 196, 3) := by decide +kernel
theorem dX12_wipe_10 : decode cX12_wipe 10 = .ok (.iload_n 1, 1) := by decide +kernel
theorem dX12_wipe_11 : decode cX12_wipe 11 = .ok (.ireturn, 1) := by decide +kernel
theorem dX12_isLetter_0 : decode cX12_isLetter 0 = .ok (.iload_n 0, 1) := by decide +kernel
theorem dX12_isLetter_1 : decode cX12_isLetter 1 = .ok (.bipush 97, 2) := by decide +kernel
theorem dX12_isLetter_3 : decode cX12_isLetter 3 = .ok (.if_icmp .lt 13, 3) := by decide +kernel
theorem dX12_isLetter_6 : decode cX12_isLetter 6 = .ok (.iload_n 0, 1) := by decide +kernel
theorem dX12_isLetter_7 : decode cX12_isLetter 7 = .ok (.bipush 122, 2) := by decide +kernel
theorem dX12_isLetter_9 : decode cX12_isLetter 9 = .ok (.if_icmp .gt 7, 3) := by decide +kernel
theorem dX12_isLetter_12 : decode cX12_isLetter 12 = .ok (.iconst 1, 1) := by decide +kernel
theorem dX12_isLetter_13 : decode cX12_isLetter 13 = .ok (.goto 4, 3) := by decide +kernel
theorem dX12_isLetter_16 : decode cX12_isLetter 16 = .ok (.iconst 0, 1) := by decide +kernel
theorem dX12_isLetter_17 : decode cX12_isLetter 17 = .ok (.ireturn, 1) := by decide +kernel
theorem dX12_isDigit_0 : decode cX12_isDigit 0 = .ok (.iload_n 0, 1) := by decide +kernel
theorem dX12_isDigit_1 : decode cX12_isDigit 1 = .ok (.bipush 48, 2) := by decide +kernel
theorem dX12_isDigit_3 : decode cX12_isDigit 3 = .ok (.if_icmp .lt 13, 3) := by decide +kernel
theorem dX12_isDigit_6 : decode cX12_isDigit 6 = .ok (.iload_n 0, 1) := by decide +kernel
theorem dX12_isDigit_7 : decode cX12_isDigit 7 = .ok (.bipush 57, 2) := by decide +kernel
theorem dX12_isDigit_9 : decode cX12_isDigit 9 = .ok (.if_icmp .gt 7, 3) := by decide +kernel
theorem dX12_isDigit_12 : decode cX12_isDigit 12 = .ok (.iconst 1, 1) := by decide +kernel
theorem dX12_isDigit_13 : decode cX12_isDigit 13 = .ok (.goto 4, 3) := by decide +kernel
theorem dX12_isDigit_16 : decode cX12_isDigit 16 = .ok (.iconst 0, 1) := by decide +kernel
theorem dX12_isDigit_17 : decode cX12_isDigit 17 = .ok (.ireturn, 1) := by decide +kernel
theorem dX12_byteAt_0 : decode cX12_byteAt 0 = .ok (.iload_n 1, 1) := by decide +kernel
theorem dX12_byteAt_1 : decode cX12_byteAt 1 = .ok (.aload_n 0, 1) := by decide +kernel
theorem dX12_byteAt_2 : decode cX12_byteAt 2 = .ok (.getfield 196, 3) := by decide +kernel
theorem dX12_byteAt_5 : decode cX12_byteAt 5 = .ok (.if_icmp .ge 12, 3) := by decide +kernel
theorem dX12_byteAt_8 : decode cX12_byteAt 8 = .ok (.aload_n 0, 1) := by decide +kernel
theorem dX12_byteAt_9 : decode cX12_byteAt 9 = .ok (.getfield 25, 3) := by decide +kernel
theorem dX12_byteAt_12 : decode cX12_byteAt 12 = .ok (.iload_n 1, 1) := by decide +kernel
theorem dX12_byteAt_13 : decode cX12_byteAt 13 = .ok (.iaload, 1) := by decide +kernel
theorem dX12_byteAt_14 : decode cX12_byteAt 14 = .ok (.goto 4, 3) := by decide +kernel
theorem dX12_byteAt_17 : decode cX12_byteAt 17 = .ok (.iconst (-1), 1) := by decide +kernel
theorem dX12_byteAt_18 : decode cX12_byteAt 18 = .ok (.ireturn, 1) := by decide +kernel
theorem dX12_nextToken_0 : decode cX12_nextToken 0 = .ok (.aload_n 0, 1) := by decide +kernel
theorem dX12_nextToken_1 : decode cX12_nextToken 1 = .ok (.aload_n 0, 1) := by decide +kernel
theorem dX12_nextToken_2 : decode cX12_nextToken 2 = .ok (.getfield 200, 3) := by decide +kernel
theorem dX12_nextToken_5 : decode cX12_nextToken 5 = .ok (.putfield 203, 3) := by decide +kernel
theorem dX12_nextToken_8 : decode cX12_nextToken 8 = .ok (.aload_n 0, 1) := by decide +kernel
theorem dX12_nextToken_9 : decode cX12_nextToken 9 = .ok (.aload_n 0, 1) := by decide +kernel
theorem dX12_nextToken_10 : decode cX12_nextToken 10 = .ok (.getfield 203, 3) := by decide +kernel
theorem dX12_nextToken_13 : decode cX12_nextToken 13 = .ok (.invokevirtual 206, 3) := by decide +kernel
theorem dX12_nextToken_16 : decode cX12_nextToken 16 = .ok (.bipush 32, 2) := by decide +kernel
theorem dX12_nextToken_18 : decode cX12_nextToken 18 = .ok (.if_icmp .ne 16, 3) := by decide +kernel
theorem dX12_nextToken_21 : decode cX12_nextToken 21 = .ok (.aload_n 0, 1) := by decide +kernel
theorem dX12_nextToken_22 : decode cX12_nextToken 22 = .ok (.dup, 1) := by decide +kernel
theorem dX12_nextToken_23 : decode cX12_nextToken 23 = .ok (.getfield 203, 3) := by decide +kernel
theorem dX12_nextToken_26 : decode cX12_nextToken 26 = .ok (.iconst 1, 1) := by decide +kernel
theorem dX12_nextToken_27 : decode cX12_nextToken 27 = .ok (.iadd, 1) := by decide +kernel
theorem dX12_nextToken_28 : decode cX12_nextToken 28 = .ok (.putfield 203, 3) := by decide +kernel
theorem dX12_nextToken_31 : decode cX12_nextToken 31 = .ok (.goto (-23), 3) := by decide +kernel
theorem dX12_nextToken_34 : decode cX12_nextToken 34 = .ok (.aload_n 0, 1) := by decide +kernel
theorem dX12_nextToken_35 : decode cX12_nextToken 35 = .ok (.aload_n 0, 1) := by decide +kernel
theorem dX12_nextToken_36 : decode cX12_nextToken 36 = .ok (.getfield 203, 3) := by decide +kernel
theorem dX12_nextToken_39 : decode cX12_nextToken 39 = .ok (.putfield 200, 3) := by decide +kernel
theorem dX12_nextToken_42 : decode cX12_nextToken 42 = .ok (.aload_n 0, 1) := by decide +kernel
theorem dX12_nextToken_43 : decode cX12_nextToken 43 = .ok (.aload_n 0, 1) := by decide +kernel
theorem dX12_nextToken_44 : decode cX12_nextToken 44 = .ok (.getfield 203, 3) := by decide +kernel
theorem dX12_nextToken_47 : decode cX12_nextToken 47 = .ok (.invokevirtual 206, 3) := by decide +kernel
theorem dX12_nextToken_50 : decode cX12_nextToken 50 = .ok (.istore_n 1, 1) := by decide +kernel
theorem dX12_nextToken_51 : decode cX12_nextToken 51 = .ok (.aload_n 0, 1) := by decide +kernel
theorem dX12_nextToken_52 : decode cX12_nextToken 52 = .ok (.iload_n 1, 1) := by decide +kernel
theorem dX12_nextToken_53 : decode cX12_nextToken 53 = .ok (.ifCond .ge 7, 3) := by decide +kernel
theorem dX12_nextToken_56 : decode cX12_nextToken 56 = .ok (.iconst 0, 1) := by decide +kernel
theorem dX12_nextToken_57 : decode cX12_nextToken 57 = .ok (.goto 36, 3) := by decide +kernel
theorem dX12_nextToken_60 : decode cX12_nextToken 60 = .ok (.iload_n 1, 1) := by decide +kernel
theorem dX12_nextToken_61 : decode cX12_nextToken 61 = .ok (.invokestatic 209, 3) := by decide +kernel
theorem dX12_nextToken_64 : decode cX12_nextToken 64 = .ok (.ifCond .eq 7, 3) := by decide +kernel
theorem dX12_nextToken_67 : decode cX12_nextToken 67 = .ok (.iconst 1, 1) := by decide +kernel
theorem dX12_nextToken_68 : decode cX12_nextToken 68 = .ok (.goto 25, 3) := by decide +kernel
theorem dX12_nextToken_71 : decode cX12_nextToken 71 = .ok (.iload_n 1, 1) := by decide +kernel
theorem dX12_nextToken_72 : decode cX12_nextToken 72 = .ok (.invokestatic 212, 3) := by decide +kernel
theorem dX12_nextToken_75 : decode cX12_nextToken 75 = .ok (.ifCond .eq 7, 3) := by decide +kernel
theorem dX12_nextToken_78 : decode cX12_nextToken 78 = .ok (.iconst 2, 1) := by decide +kernel
theorem dX12_nextToken_79 : decode cX12_nextToken 79 = .ok (.goto 14, 3) := by decide +kernel
theorem dX12_nextToken_82 : decode cX12_nextToken 82 = .ok (.iload_n 1, 1) := by decide +kernel
theorem dX12_nextToken_83 : decode cX12_nextToken 83 = .ok (.bipush 59, 2) := by decide +kernel
theorem dX12_nextToken_85 : decode cX12_nextToken 85 = .ok (.if_icmp .ne 7, 3) := by decide +kernel
theorem dX12_nextToken_88 : decode cX12_nextToken 88 = .ok (.iconst 3, 1) := by decide +kernel
theorem dX12_nextToken_89 : decode cX12_nextToken 89 = .ok (.goto 4, 3) := by decide +kernel
theorem dX12_nextToken_92 : decode cX12_nextToken 92 = .ok (.iconst 4, 1) := by decide +kernel
theorem dX12_nextToken_93 : decode cX12_nextToken 93 = .ok (.putfield 215, 3) := by decide +kernel
theorem dX12_nextToken_96 : decode cX12_nextToken 96 = .ok (.aload_n 0, 1) := by decide +kernel
theorem dX12_nextToken_97 : decode cX12_nextToken 97 = .ok (.iconst 0, 1) := by decide +kernel
theorem dX12_nextToken_98 : decode cX12_nextToken 98 = .ok (.putfield 218, 3) := by decide +kernel
theorem dX12_nextToken_101 : decode cX12_nextToken 101 = .ok (.aload_n 0, 1) := by decide +kernel
theorem dX12_nextToken_102 : decode cX12_nextToken 102 = .ok (.getfield 215, 3) := by decide +kernel
theorem dX12_nextToken_105 : decode cX12_nextToken 105 = .ok (.iconst 1, 1) := by decide +kernel
theorem dX12_nextToken_106 : decode cX12_nextToken 106 = .ok (.if_icmp .ne 30, 3) := by decide +kernel
theorem dX12_nextToken_109 : decode cX12_nextToken 109 = .ok (.aload_n 0, 1) := by decide +kernel
theorem dX12_nextToken_110 : decode cX12_nextToken 110 = .ok (.aload_n 0, 1) := by decide +kernel
theorem dX12_nextToken_111 : decode cX12_nextToken 111 = .ok (.getfield 200, 3) := by decide +kernel
theorem dX12_nextToken_114 : decode cX12_nextToken 114 = .ok (.invokevirtual 206, 3) := by decide +kernel
theorem dX12_nextToken_117 : decode cX12_nextToken 117 = .ok (.invokestatic 209, 3) := by decide +kernel
theorem dX12_nextToken_120 : decode cX12_nextToken 120 = .ok (.ifCond .eq 16, 3) := by decide +kernel
theorem dX12_nextToken_123 : decode cX12_nextToken 123 = .ok (.aload_n 0, 1) := by decide +kernel
theorem dX12_nextToken_124 : decode cX12_nextToken 124 = .ok (.dup, 1) := by decide +kernel
theorem dX12_nextToken_125 : decode cX12_nextToken 125 = .ok (.getfield 200, 3) := by decide +kernel
theorem dX12_nextToken_128 : decode cX12_nextToken 128 = .ok (.iconst 1, 1) := by decide +kernel
theorem dX12_nextToken_129 : decode cX12_nextToken 129 = .ok (.iadd, 1) := by decide +kernel
theorem dX12_nextToken_130 : decode cX12_nextToken 130 = .ok (.putfield 200, 3) := by decide +kernel
theorem dX12_nextToken_133 : decode cX12_nextToken 133 = .ok (.goto (-32), 3) := by decide +kernel
theorem dX12_nextToken_136 : decode cX12_nextToken 136 = .ok (.aload_n 0, 1) := by decide +kernel
theorem dX12_nextToken_137 : decode cX12_nextToken 137 = .ok (.getfield 215, 3) := by decide +kernel
theorem dX12_nextToken_140 : decode cX12_nextToken 140 = .ok (.iconst 2, 1) := by decide +kernel
theorem dX12_nextToken_141 : decode cX12_nextToken 141 = .ok (.if_icmp .ne 70, 3) := by decide +kernel
theorem dX12_nextToken_144 : decode cX12_nextToken 144 = .ok (.aload_n 0, 1) := by decide +kernel
theorem dX12_nextToken_145 : decode cX12_nextToken 145 = .ok (.aload_n 0, 1) := by decide +kernel
theorem dX12_nextToken_146 : decode cX12_nextToken 146 = .ok (.getfield 200, 3) := by decide +kernel
theorem dX12_nextToken_149 : decode cX12_nextToken 149 = .ok (.invokevirtual 206, 3) := by decide +kernel
theorem dX12_nextToken_152 : decode cX12_nextToken 152 = .ok (.invokestatic 212, 3) := by decide +kernel
theorem dX12_nextToken_155 : decode cX12_nextToken 155 = .ok (.ifCond .eq 56, 3) := by decide +kernel
theorem dX12_nextToken_158 : decode cX12_nextToken 158 = .ok (.aload_n 0, 1) := by decide +kernel
theorem dX12_nextToken_159 : decode cX12_nextToken 159 = .ok (.aload_n 0, 1) := by decide +kernel
theorem dX12_nextToken_160 : decode cX12_nextToken 160 = .ok (.getfield 218, 3) := by decide +kernel
theorem dX12_nextToken_163 : decode cX12_nextToken 163 = .ok (.sipush 9999, 3) := by decide +kernel
theorem dX12_nextToken_166 : decode cX12_nextToken 166 = .ok (.if_icmp .le 10, 3) := by decide +kernel
theorem dX12_nextToken_169 : decode cX12_nextToken 169 = .ok (.aload_n 0, 1) := by decide +kernel
theorem dX12_nextToken_170 : decode cX12_nextToken 170 = .ok (.getfield 218, 3) := by decide +kernel
theorem dX12_nextToken_173 : decode cX12_nextToken 173 = .ok (.goto 22, 3) := by decide +kernel
theorem dX12_nextToken_176 : decode cX12_nextToken 176 = .ok (.bipush 10, 2) := by decide +kernel
theorem dX12_nextToken_178 : decode cX12_nextToken 178 = .ok (.aload_n 0, 1) := by decide +kernel
theorem dX12_nextToken_179 : decode cX12_nextToken 179 = .ok (.getfield 218, 3) := by decide +kernel
theorem dX12_nextToken_182 : decode cX12_nextToken 182 = .ok (.imul, 1) := by decide +kernel
theorem dX12_nextToken_183 : decode cX12_nextToken 183 = .ok (.aload_n 0, 1) := by decide +kernel
theorem dX12_nextToken_184 : decode cX12_nextToken 184 = .ok (.aload_n 0, 1) := by decide +kernel
theorem dX12_nextToken_185 : decode cX12_nextToken 185 = .ok (.getfield 200, 3) := by decide +kernel
theorem dX12_nextToken_188 : decode cX12_nextToken 188 = .ok (.invokevirtual 206, 3) := by decide +kernel
theorem dX12_nextToken_191 : decode cX12_nextToken 191 = .ok (.iadd, 1) := by decide +kernel
theorem dX12_nextToken_192 : decode cX12_nextToken 192 = .ok (.bipush 48, 2) := by decide +kernel
theorem dX12_nextToken_194 : decode cX12_nextToken 194 = .ok (.isub, 1) := by decide +kernel
theorem dX12_nextToken_195 : decode cX12_nextToken 195 = .ok (.putfield 218, 3) := by decide +kernel
theorem dX12_nextToken_198 : decode cX12_nextToken 198 = .ok (.aload_n 0, 1) := by decide +kernel
theorem dX12_nextToken_199 : decode cX12_nextToken 199 = .ok (.dup, 1) := by decide +kernel
theorem dX12_nextToken_200 : decode cX12_nextToken 200 = .ok (.getfield 200, 3) := by decide +kernel
theorem dX12_nextToken_203 : decode cX12_nextToken 203 = .ok (.iconst 1, 1) := by decide +kernel
theorem dX12_nextToken_204 : decode cX12_nextToken 204 = .ok (.iadd, 1) := by decide +kernel
theorem dX12_nextToken_205 : decode cX12_nextToken 205 = .ok (.putfield 200, 3) := by decide +kernel
theorem dX12_nextToken_208 : decode cX12_nextToken 208 = .ok (.goto (-72), 3) := by decide +kernel
theorem dX12_nextToken_211 : decode cX12_nextToken 211 = .ok (.aload_n 0, 1) := by decide +kernel
theorem dX12_nextToken_212 : decode cX12_nextToken 212 = .ok (.dup, 1) := by decide +kernel
theorem dX12_nextToken_213 : decode cX12_nextToken 213 = .ok (.getfield 200, 3) := by decide +kernel
theorem dX12_nextToken_216 : decode cX12_nextToken 216 = .ok (.aload_n 0, 1) := by decide +kernel
theorem dX12_nextToken_217 : decode cX12_nextToken 217 = .ok (.getfield 215, 3) := by decide +kernel
theorem dX12_nextToken_220 : decode cX12_nextToken 220 = .ok (.iconst 2, 1) := by decide +kernel
theorem dX12_nextToken_221 : decode cX12_nextToken 221 = .ok (.if_icmp .le 7, 3) := by decide +kernel
theorem dX12_nextToken_224 : decode cX12_nextToken 224 = .ok (.iconst 1, 1) := by decide +kernel
theorem dX12_nextToken_225 : decode cX12_nextToken 225 = .ok (.goto 4, 3) := by decide +kernel
theorem dX12_nextToken_228 : decode cX12_nextToken 228 = .ok (.iconst 0, 1) := by decide +kernel
theorem dX12_nextToken_229 : decode cX12_nextToken 229 = .ok (.iadd, 1) := by decide +kernel
theorem dX12_nextToken_230 : decode cX12_nextToken 230 = .ok (.putfield 200, 3) := by decide +kernel
theorem dX12_nextToken_233 : decode cX12_nextToken 233 = .ok (.return_, 1) := by decide +kernel
theorem dX12_has3_0 : decode cX12_has3 0 = .ok (.aload_n 0, 1) := by decide +kernel
theorem dX12_has3_1 : decode cX12_has3 1 = .ok (.aload_n 0, 1) := by decide +kernel
theorem dX12_has3_2 : decode cX12_has3 2 = .ok (.getfield 203, 3) := by decide +kernel
theorem dX12_has3_5 : decode cX12_has3 5 = .ok (.iload_n 1, 1) := by decide +kernel
theorem dX12_has3_6 : decode cX12_has3 6 = .ok (.iadd, 1) := by decide +kernel
theorem dX12_has3_7 : decode cX12_has3 7 = .ok (.invokevirtual 206, 3) := by decide +kernel
theorem dX12_has3_10 : decode cX12_has3 10 = .ok (.iload_n 2, 1) := by decide +kernel
theorem dX12_has3_11 : decode cX12_has3 11 = .ok (.if_icmp .ne 40, 3) := by decide +kernel
theorem dX12_has3_14 : decode cX12_has3 14 = .ok (.aload_n 0, 1) := by decide +kernel
theorem dX12_has3_15 : decode cX12_has3 15 = .ok (.aload_n 0, 1) := by decide +kernel
theorem dX12_has3_16 : decode cX12_has3 16 = .ok (.getfield 203, 3) := by decide +kernel
theorem dX12_has3_19 : decode cX12_has3 19 = .ok (.iload_n 1, 1) := by decide +kernel
theorem dX12_has3_20 : decode cX12_has3 20 = .ok (.iadd, 1) := by decide +kernel
theorem dX12_has3_21 : decode cX12_has3 21 = .ok (.iconst 1, 1) := by decide +kernel
theorem dX12_has3_22 : decode cX12_has3 22 = .ok (.iadd, 1) := by decide +kernel
theorem dX12_has3_23 : decode cX12_has3 23 = .ok (.invokevirtual 206, 3) := by decide +kernel
theorem dX12_has3_26 : decode cX12_has3 26 = .ok (.iload_n 3, 1) := by decide +kernel
theorem dX12_has3_27 : decode cX12_has3 27 = .ok (.if_icmp .ne 24, 3) := by decide +kernel
theorem dX12_has3_30 : decode cX12_has3 30 = .ok (.aload_n 0, 1) := by decide +kernel
theorem dX12_has3_31 : decode cX12_has3 31 = .ok (.aload_n 0, 1) := by decide +kernel
theorem dX12_has3_32 : decode cX12_has3 32 = .ok (.getfield 203, 3) := by decide +kernel
theorem dX12_has3_35 : decode cX12_has3 35 = .ok (.iload_n 1, 1) := by decide +kernel
theorem dX12_has3_36 : decode cX12_has3 36 = .ok (.iadd, 1) := by decide +kernel
theorem dX12_has3_37 : decode cX12_has3 37 = .ok (.iconst 2, 1) := by decide +kernel
theorem dX12_has3_38 : decode cX12_has3 38 = .ok (.iadd, 1) := by decide +kernel
theorem dX12_has3_39 : decode cX12_has3 39 = .ok (.invokevirtual 206, 3) := by decide +kernel
theorem dX12_has3_42 : decode cX12_has3 42 = .ok (.iload 4, 2) := by decide +kernel
theorem dX12_has3_44 : decode cX12_has3 44 = .ok (.if_icmp .ne 7, 3) := by decide +kernel
theorem dX12_has3_47 : decode cX12_has3 47 = .ok (.iconst 1, 1) := by decide +kernel
theorem dX12_has3_48 : decode cX12_has3 48 = .ok (.goto 4, 3) := by decide +kernel
theorem dX12_has3_51 : decode cX12_has3 51 = .ok (.iconst 0, 1) := by decide +kernel
theorem dX12_has3_52 : decode cX12_has3 52 = .ok (.ireturn, 1) := by decide +kernel
theorem dX12_isWord_0 : decode cX12_isWord 0 = .ok (.aload_n 0, 1) := by decide +kernel
theorem dX12_isWord_1 : decode cX12_isWord 1 = .ok (.getfield 215, 3) := by decide +kernel
theorem dX12_isWord_4 : decode cX12_isWord 4 = .ok (.iconst 1, 1) := by decide +kernel
theorem dX12_isWord_5 : decode cX12_isWord 5 = .ok (.if_icmp .ne 20, 3) := by decide +kernel
theorem dX12_isWord_8 : decode cX12_isWord 8 = .ok (.aload_n 0, 1) := by decide +kernel
theorem dX12_isWord_9 : decode cX12_isWord 9 = .ok (.getfield 200, 3) := by decide +kernel
theorem dX12_isWord_12 : decode cX12_isWord 12 = .ok (.aload_n 0, 1) := by decide +kernel
theorem dX12_isWord_13 : decode cX12_isWord 13 = .ok (.getfield 203, 3) := by decide +kernel
theorem dX12_isWord_16 : decode cX12_isWord 16 = .ok (.isub, 1) := by decide +kernel
theorem dX12_isWord_17 : decode cX12_isWord 17 = .ok (.iload_n 1, 1) := by decide +kernel
theorem dX12_isWord_18 : decode cX12_isWord 18 = .ok (.if_icmp .ne 7, 3) := by decide +kernel
theorem dX12_isWord_21 : decode cX12_isWord 21 = .ok (.iconst 1, 1) := by decide +kernel
theorem dX12_isWord_22 : decode cX12_isWord 22 = .ok (.goto 4, 3) := by decide +kernel
theorem dX12_isWord_25 : decode cX12_isWord 25 = .ok (.iconst 0, 1) := by decide +kernel
theorem dX12_isWord_26 : decode cX12_isWord 26 = .ok (.ireturn, 1) := by decide +kernel
theorem dX12_fails_0 : decode cX12_fails 0 = .ok (.aload_n 0, 1) := by decide +kernel
theorem dX12_fails_1 : decode cX12_fails 1 = .ok (.aload_n 0, 1) := by decide +kernel
theorem dX12_fails_2 : decode cX12_fails 2 = .ok (.getfield 203, 3) := by decide +kernel
theorem dX12_fails_5 : decode cX12_fails 5 = .ok (.putfield 221, 3) := by decide +kernel
theorem dX12_fails_8 : decode cX12_fails 8 = .ok (.iconst 0, 1) := by decide +kernel
theorem dX12_fails_9 : decode cX12_fails 9 = .ok (.ireturn, 1) := by decide +kernel
theorem dX12_isFour_0 : decode cX12_isFour 0 = .ok (.aload_n 0, 1) := by decide +kernel
theorem dX12_isFour_1 : decode cX12_isFour 1 = .ok (.iconst 4, 1) := by decide +kernel
theorem dX12_isFour_2 : decode cX12_isFour 2 = .ok (.invokevirtual 224, 3) := by decide +kernel
theorem dX12_isFour_5 : decode cX12_isFour 5 = .ok (.ifCond .eq 30, 3) := by decide +kernel
theorem dX12_isFour_8 : decode cX12_isFour 8 = .ok (.aload_n 0, 1) := by decide +kernel
theorem dX12_isFour_9 : decode cX12_isFour 9 = .ok (.iconst 0, 1) := by decide +kernel
theorem dX12_isFour_10 : decode cX12_isFour 10 = .ok (.iload_n 1, 1) := by decide +kernel
theorem dX12_isFour_11 : decode cX12_isFour 11 = .ok (.iload_n 2, 1) := by decide +kernel
theorem dX12_isFour_12 : decode cX12_isFour 12 = .ok (.iload_n 3, 1) := by decide +kernel
theorem dX12_isFour_13 : decode cX12_isFour 13 = .ok (.invokevirtual 227, 3) := by decide +kernel
theorem dX12_isFour_16 : decode cX12_isFour 16 = .ok (.ifCond .eq 19, 3) := by decide +kernel
theorem dX12_isFour_19 : decode cX12_isFour 19 = .ok (.aload_n 0, 1) := by decide +kernel
theorem dX12_isFour_20 : decode cX12_isFour 20 = .ok (.iconst 1, 1) := by decide +kernel
theorem dX12_isFour_21 : decode cX12_isFour 21 = .ok (.iload_n 2, 1) := by decide +kernel
theorem dX12_isFour_22 : decode cX12_isFour 22 = .ok (.iload_n 3, 1) := by decide +kernel
theorem dX12_isFour_23 : decode cX12_isFour 23 = .ok (.iload 4, 2) := by decide +kernel
theorem dX12_isFour_25 : decode cX12_isFour 25 = .ok (.invokevirtual 227, 3) := by decide +kernel
theorem dX12_isFour_28 : decode cX12_isFour 28 = .ok (.ifCond .eq 7, 3) := by decide +kernel
theorem dX12_isFour_31 : decode cX12_isFour 31 = .ok (.iconst 1, 1) := by decide +kernel
theorem dX12_isFour_32 : decode cX12_isFour 32 = .ok (.goto 4, 3) := by decide +kernel
theorem dX12_isFour_35 : decode cX12_isFour 35 = .ok (.iconst 0, 1) := by decide +kernel
theorem dX12_isFour_36 : decode cX12_isFour 36 = .ok (.ireturn, 1) := by decide +kernel
theorem dX12_isFive_0 : decode cX12_isFive 0 = .ok (.aload_n 0, 1) := by decide +kernel
theorem dX12_isFive_1 : decode cX12_isFive 1 = .ok (.iconst 5, 1) := by decide +kernel
theorem dX12_isFive_2 : decode cX12_isFive 2 = .ok (.invokevirtual 224, 3) := by decide +kernel
theorem dX12_isFive_5 : decode cX12_isFive 5 = .ok (.ifCond .eq 31, 3) := by decide +kernel
theorem dX12_isFive_8 : decode cX12_isFive 8 = .ok (.aload_n 0, 1) := by decide +kernel
theorem dX12_isFive_9 : decode cX12_isFive 9 = .ok (.iconst 0, 1) := by decide +kernel
theorem dX12_isFive_10 : decode cX12_isFive 10 = .ok (.iload_n 1, 1) := by decide +kernel
theorem dX12_isFive_11 : decode cX12_isFive 11 = .ok (.iload_n 2, 1) := by decide +kernel
theorem dX12_isFive_12 : decode cX12_isFive 12 = .ok (.iload_n 3, 1) := by decide +kernel
theorem dX12_isFive_13 : decode cX12_isFive 13 = .ok (.invokevirtual 227, 3) := by decide +kernel
theorem dX12_isFive_16 : decode cX12_isFive 16 = .ok (.ifCond .eq 20, 3) := by decide +kernel
theorem dX12_isFive_19 : decode cX12_isFive 19 = .ok (.aload_n 0, 1) := by decide +kernel
theorem dX12_isFive_20 : decode cX12_isFive 20 = .ok (.iconst 2, 1) := by decide +kernel
theorem dX12_isFive_21 : decode cX12_isFive 21 = .ok (.iload_n 3, 1) := by decide +kernel
theorem dX12_isFive_22 : decode cX12_isFive 22 = .ok (.iload 4, 2) := by decide +kernel
theorem dX12_isFive_24 : decode cX12_isFive 24 = .ok (.iload 5, 2) := by decide +kernel
theorem dX12_isFive_26 : decode cX12_isFive 26 = .ok (.invokevirtual 227, 3) := by decide +kernel
theorem dX12_isFive_29 : decode cX12_isFive 29 = .ok (.ifCond .eq 7, 3) := by decide +kernel
theorem dX12_isFive_32 : decode cX12_isFive 32 = .ok (.iconst 1, 1) := by decide +kernel
theorem dX12_isFive_33 : decode cX12_isFive 33 = .ok (.goto 4, 3) := by decide +kernel
theorem dX12_isFive_36 : decode cX12_isFive 36 = .ok (.iconst 0, 1) := by decide +kernel
theorem dX12_isFive_37 : decode cX12_isFive 37 = .ok (.ireturn, 1) := by decide +kernel
theorem dX12_isSix_0 : decode cX12_isSix 0 = .ok (.aload_n 0, 1) := by decide +kernel
theorem dX12_isSix_1 : decode cX12_isSix 1 = .ok (.bipush 6, 2) := by decide +kernel
theorem dX12_isSix_3 : decode cX12_isSix 3 = .ok (.invokevirtual 224, 3) := by decide +kernel
theorem dX12_isSix_6 : decode cX12_isSix 6 = .ok (.ifCond .eq 32, 3) := by decide +kernel
theorem dX12_isSix_9 : decode cX12_isSix 9 = .ok (.aload_n 0, 1) := by decide +kernel
theorem dX12_isSix_10 : decode cX12_isSix 10 = .ok (.iconst 0, 1) := by decide +kernel
theorem dX12_isSix_11 : decode cX12_isSix 11 = .ok (.iload_n 1, 1) := by decide +kernel
theorem dX12_isSix_12 : decode cX12_isSix 12 = .ok (.iload_n 2, 1) := by decide +kernel
theorem dX12_isSix_13 : decode cX12_isSix 13 = .ok (.iload_n 3, 1) := by decide +kernel
theorem dX12_isSix_14 : decode cX12_isSix 14 = .ok (.invokevirtual 227, 3) := by decide +kernel
theorem dX12_isSix_17 : decode cX12_isSix 17 = .ok (.ifCond .eq 21, 3) := by decide +kernel
theorem dX12_isSix_20 : decode cX12_isSix 20 = .ok (.aload_n 0, 1) := by decide +kernel
theorem dX12_isSix_21 : decode cX12_isSix 21 = .ok (.iconst 3, 1) := by decide +kernel
theorem dX12_isSix_22 : decode cX12_isSix 22 = .ok (.iload 4, 2) := by decide +kernel
theorem dX12_isSix_24 : decode cX12_isSix 24 = .ok (.iload 5, 2) := by decide +kernel
theorem dX12_isSix_26 : decode cX12_isSix 26 = .ok (.iload 6, 2) := by decide +kernel
theorem dX12_isSix_28 : decode cX12_isSix 28 = .ok (.invokevirtual 227, 3) := by decide +kernel
theorem dX12_isSix_31 : decode cX12_isSix 31 = .ok (.ifCond .eq 7, 3) := by decide +kernel
theorem dX12_isSix_34 : decode cX12_isSix 34 = .ok (.iconst 1, 1) := by decide +kernel
theorem dX12_isSix_35 : decode cX12_isSix 35 = .ok (.goto 4, 3) := by decide +kernel
theorem dX12_isSix_38 : decode cX12_isSix 38 = .ok (.iconst 0, 1) := by decide +kernel
theorem dX12_isSix_39 : decode cX12_isSix 39 = .ok (.ireturn, 1) := by decide +kernel
theorem dX12_isNumber_0 : decode cX12_isNumber 0 = .ok (.aload_n 0, 1) := by decide +kernel
theorem dX12_isNumber_1 : decode cX12_isNumber 1 = .ok (.getfield 215, 3) := by decide +kernel
theorem dX12_isNumber_4 : decode cX12_isNumber 4 = .ok (.iconst 2, 1) := by decide +kernel
theorem dX12_isNumber_5 : decode cX12_isNumber 5 = .ok (.if_icmp .ne 18, 3) := by decide +kernel
theorem dX12_isNumber_8 : decode cX12_isNumber 8 = .ok (.aload_n 0, 1) := by decide +kernel
theorem dX12_isNumber_9 : decode cX12_isNumber 9 = .ok (.getfield 218, 3) := by decide +kernel
theorem dX12_isNumber_12 : decode cX12_isNumber 12 = .ok (.i2l, 1) := by decide +kernel
theorem dX12_isNumber_13 : decode cX12_isNumber 13 = .ok (.iload_n 1, 1) := by decide +kernel
theorem dX12_isNumber_14 : decode cX12_isNumber 14 = .ok (.i2l, 1) := by decide +kernel
theorem dX12_isNumber_15 : decode cX12_isNumber 15 = .ok (.iload_n 2, 1) := by decide +kernel
theorem dX12_isNumber_16 : decode cX12_isNumber 16 = .ok (.i2l, 1) := by decide +kernel
theorem dX12_isNumber_17 : decode cX12_isNumber 17 = .ok (.invokestatic 52, 3) := by decide +kernel
theorem dX12_isNumber_20 : decode cX12_isNumber 20 = .ok (.ifCond .ne 10, 3) := by decide +kernel
theorem dX12_isNumber_23 : decode cX12_isNumber 23 = .ok (.aload_n 0, 1) := by decide +kernel
theorem dX12_isNumber_24 : decode cX12_isNumber 24 = .ok (.invokevirtual 231, 3) := by decide +kernel
theorem dX12_isNumber_27 : decode cX12_isNumber 27 = .ok (.ifCond .eq 7, 3) := by decide +kernel
theorem dX12_isNumber_30 : decode cX12_isNumber 30 = .ok (.iconst 1, 1) := by decide +kernel
theorem dX12_isNumber_31 : decode cX12_isNumber 31 = .ok (.goto 4, 3) := by decide +kernel
theorem dX12_isNumber_34 : decode cX12_isNumber 34 = .ok (.iconst 0, 1) := by decide +kernel
theorem dX12_isNumber_35 : decode cX12_isNumber 35 = .ok (.ireturn, 1) := by decide +kernel
theorem dX12_kindHere_0 : decode cX12_kindHere 0 = .ok (.aload_n 0, 1) := by decide +kernel
theorem dX12_kindHere_1 : decode cX12_kindHere 1 = .ok (.bipush 102, 2) := by decide +kernel
theorem dX12_kindHere_3 : decode cX12_kindHere 3 = .ok (.bipush 105, 2) := by decide +kernel
theorem dX12_kindHere_5 : decode cX12_kindHere 5 = .ok (.bipush 114, 2) := by decide +kernel
theorem dX12_kindHere_7 : decode cX12_kindHere 7 = .ok (.bipush 101, 2) := by decide +kernel
theorem dX12_kindHere_9 : decode cX12_kindHere 9 = .ok (.invokevirtual 235, 3) := by decide +kernel
theorem dX12_kindHere_12 : decode cX12_kindHere 12 = .ok (.ifCond .eq 5, 3) := by decide +kernel
theorem dX12_kindHere_15 : decode cX12_kindHere 15 = .ok (.iconst 0, 1) := by decide +kernel
theorem dX12_kindHere_16 : decode cX12_kindHere 16 = .ok (.ireturn, 1) := by decide +kernel
theorem dX12_kindHere_17 : decode cX12_kindHere 17 = .ok (.aload_n 0, 1) := by decide +kernel
theorem dX12_kindHere_18 : decode cX12_kindHere 18 = .ok (.bipush 115, 2) := by decide +kernel
theorem dX12_kindHere_20 : decode cX12_kindHere 20 = .ok (.bipush 116, 2) := by decide +kernel
theorem dX12_kindHere_22 : decode cX12_kindHere 22 = .ok (.bipush 111, 2) := by decide +kernel
theorem dX12_kindHere_24 : decode cX12_kindHere 24 = .ok (.bipush 118, 2) := by decide +kernel
theorem dX12_kindHere_26 : decode cX12_kindHere 26 = .ok (.bipush 101, 2) := by decide +kernel
theorem dX12_kindHere_28 : decode cX12_kindHere 28 = .ok (.invokevirtual 238, 3) := by decide +kernel
theorem dX12_kindHere_31 : decode cX12_kindHere 31 = .ok (.ifCond .eq 5, 3) := by decide +kernel
theorem dX12_kindHere_34 : decode cX12_kindHere 34 = .ok (.iconst 1, 1) := by decide +kernel
theorem dX12_kindHere_35 : decode cX12_kindHere 35 = .ok (.ireturn, 1) := by decide +kernel
theorem dX12_kindHere_36 : decode cX12_kindHere 36 = .ok (.aload_n 0, 1) := by decide +kernel
theorem dX12_kindHere_37 : decode cX12_kindHere 37 = .ok (.bipush 112, 2) := by decide +kernel
theorem dX12_kindHere_39 : decode cX12_kindHere 39 = .ok (.bipush 114, 2) := by decide +kernel
theorem dX12_kindHere_41 : decode cX12_kindHere 41 = .ok (.bipush 105, 2) := by decide +kernel
theorem dX12_kindHere_43 : decode cX12_kindHere 43 = .ok (.bipush 101, 2) := by decide +kernel
theorem dX12_kindHere_45 : decode cX12_kindHere 45 = .ok (.bipush 115, 2) := by decide +kernel
theorem dX12_kindHere_47 : decode cX12_kindHere 47 = .ok (.bipush 116, 2) := by decide +kernel
theorem dX12_kindHere_49 : decode cX12_kindHere 49 = .ok (.invokevirtual 242, 3) := by decide +kernel
theorem dX12_kindHere_52 : decode cX12_kindHere 52 = .ok (.ifCond .eq 5, 3) := by decide +kernel
theorem dX12_kindHere_55 : decode cX12_kindHere 55 = .ok (.iconst 2, 1) := by decide +kernel
theorem dX12_kindHere_56 : decode cX12_kindHere 56 = .ok (.ireturn, 1) := by decide +kernel
theorem dX12_kindHere_57 : decode cX12_kindHere 57 = .ok (.aload_n 0, 1) := by decide +kernel
theorem dX12_kindHere_58 : decode cX12_kindHere 58 = .ok (.bipush 112, 2) := by decide +kernel
theorem dX12_kindHere_60 : decode cX12_kindHere 60 = .ok (.bipush 111, 2) := by decide +kernel
theorem dX12_kindHere_62 : decode cX12_kindHere 62 = .ok (.bipush 111, 2) := by decide +kernel
theorem dX12_kindHere_64 : decode cX12_kindHere 64 = .ok (.bipush 114, 2) := by decide +kernel
theorem dX12_kindHere_66 : decode cX12_kindHere 66 = .ok (.invokevirtual 235, 3) := by decide +kernel
theorem dX12_kindHere_69 : decode cX12_kindHere 69 = .ok (.ifCond .eq 5, 3) := by decide +kernel
theorem dX12_kindHere_72 : decode cX12_kindHere 72 = .ok (.iconst 3, 1) := by decide +kernel
theorem dX12_kindHere_73 : decode cX12_kindHere 73 = .ok (.ireturn, 1) := by decide +kernel
theorem dX12_kindHere_74 : decode cX12_kindHere 74 = .ok (.aload_n 0, 1) := by decide +kernel
theorem dX12_kindHere_75 : decode cX12_kindHere 75 = .ok (.iconst 3, 1) := by decide +kernel
theorem dX12_kindHere_76 : decode cX12_kindHere 76 = .ok (.invokevirtual 224, 3) := by decide +kernel
theorem dX12_kindHere_79 : decode cX12_kindHere 79 = .ok (.ifCond .eq 19, 3) := by decide +kernel
theorem dX12_kindHere_82 : decode cX12_kindHere 82 = .ok (.aload_n 0, 1) := by decide +kernel
theorem dX12_kindHere_83 : decode cX12_kindHere 83 = .ok (.iconst 0, 1) := by decide +kernel
theorem dX12_kindHere_84 : decode cX12_kindHere 84 = .ok (.bipush 106, 2) := by decide +kernel
theorem dX12_kindHere_86 : decode cX12_kindHere 86 = .ok (.bipush 97, 2) := by decide +kernel
theorem dX12_kindHere_88 : decode cX12_kindHere 88 = .ok (.bipush 114, 2) := by decide +kernel
theorem dX12_kindHere_90 : decode cX12_kindHere 90 = .ok (.invokevirtual 227, 3) := by decide +kernel
theorem dX12_kindHere_93 : decode cX12_kindHere 93 = .ok (.ifCond .eq 5, 3) := by decide +kernel
theorem dX12_kindHere_96 : decode cX12_kindHere 96 = .ok (.iconst 4, 1) := by decide +kernel
theorem dX12_kindHere_97 : decode cX12_kindHere 97 = .ok (.ireturn, 1) := by decide +kernel
theorem dX12_kindHere_98 : decode cX12_kindHere 98 = .ok (.aload_n 0, 1) := by decide +kernel
theorem dX12_kindHere_99 : decode cX12_kindHere 99 = .ok (.bipush 7, 2) := by decide +kernel
theorem dX12_kindHere_101 : decode cX12_kindHere 101 = .ok (.invokevirtual 224, 3) := by decide +kernel
theorem dX12_kindHere_104 : decode cX12_kindHere 104 = .ok (.ifCond .eq 47, 3) := by decide +kernel
theorem dX12_kindHere_107 : decode cX12_kindHere 107 = .ok (.aload_n 0, 1) := by decide +kernel
theorem dX12_kindHere_108 : decode cX12_kindHere 108 = .ok (.iconst 0, 1) := by decide +kernel
theorem dX12_kindHere_109 : decode cX12_kindHere 109 = .ok (.bipush 102, 2) := by decide +kernel
theorem dX12_kindHere_111 : decode cX12_kindHere 111 = .ok (.bipush 111, 2) := by decide +kernel
theorem dX12_kindHere_113 : decode cX12_kindHere 113 = .ok (.bipush 114, 2) := by decide +kernel
theorem dX12_kindHere_115 : decode cX12_kindHere 115 = .ok (.invokevirtual 227, 3) := by decide +kernel
theorem dX12_kindHere_118 : decode cX12_kindHere 118 = .ok (.ifCond .eq 33, 3) := by decide +kernel
theorem dX12_kindHere_121 : decode cX12_kindHere 121 = .ok (.aload_n 0, 1) := by decide +kernel
theorem dX12_kindHere_122 : decode cX12_kindHere 122 = .ok (.iconst 3, 1) := by decide +kernel
theorem dX12_kindHere_123 : decode cX12_kindHere 123 = .ok (.bipush 101, 2) := by decide +kernel
theorem dX12_kindHere_125 : decode cX12_kindHere 125 = .ok (.bipush 105, 2) := by decide +kernel
theorem dX12_kindHere_127 : decode cX12_kindHere 127 = .ok (.bipush 103, 2) := by decide +kernel
theorem dX12_kindHere_129 : decode cX12_kindHere 129 = .ok (.invokevirtual 227, 3) := by decide +kernel
theorem dX12_kindHere_132 : decode cX12_kindHere 132 = .ok (.ifCond .eq 19, 3) := by decide +kernel
theorem dX12_kindHere_135 : decode cX12_kindHere 135 = .ok (.aload_n 0, 1) := by decide +kernel
theorem dX12_kindHere_136 : decode cX12_kindHere 136 = .ok (.iconst 4, 1) := by decide +kernel
theorem dX12_kindHere_137 : decode cX12_kindHere 137 = .ok (.bipush 105, 2) := by decide +kernel
theorem dX12_kindHere_139 : decode cX12_kindHere 139 = .ok (.bipush 103, 2) := by decide +kernel
theorem dX12_kindHere_141 : decode cX12_kindHere 141 = .ok (.bipush 110, 2) := by decide +kernel
theorem dX12_kindHere_143 : decode cX12_kindHere 143 = .ok (.invokevirtual 227, 3) := by decide +kernel
theorem dX12_kindHere_146 : decode cX12_kindHere 146 = .ok (.ifCond .eq 5, 3) := by decide +kernel
theorem dX12_kindHere_149 : decode cX12_kindHere 149 = .ok (.iconst 5, 1) := by decide +kernel
theorem dX12_kindHere_150 : decode cX12_kindHere 150 = .ok (.ireturn, 1) := by decide +kernel
theorem dX12_kindHere_151 : decode cX12_kindHere 151 = .ok (.aload_n 0, 1) := by decide +kernel
theorem dX12_kindHere_152 : decode cX12_kindHere 152 = .ok (.iconst 3, 1) := by decide +kernel
theorem dX12_kindHere_153 : decode cX12_kindHere 153 = .ok (.invokevirtual 224, 3) := by decide +kernel
theorem dX12_kindHere_156 : decode cX12_kindHere 156 = .ok (.ifCond .eq 22, 3) := by decide +kernel
theorem dX12_kindHere_159 : decode cX12_kindHere 159 = .ok (.aload_n 0, 1) := by decide +kernel
theorem dX12_kindHere_160 : decode cX12_kindHere 160 = .ok (.iconst 0, 1) := by decide +kernel
theorem dX12_kindHere_161 : decode cX12_kindHere 161 = .ok (.bipush 98, 2) := by decide +kernel
theorem dX12_kindHere_163 : decode cX12_kindHere 163 = .ok (.bipush 101, 2) := by decide +kernel
theorem dX12_kindHere_165 : decode cX12_kindHere 165 = .ok (.bipush 100, 2) := by decide +kernel
theorem dX12_kindHere_167 : decode cX12_kindHere 167 = .ok (.invokevirtual 227, 3) := by decide +kernel
theorem dX12_kindHere_170 : decode cX12_kindHere 170 = .ok (.ifCond .eq 8, 3) := by decide +kernel
theorem dX12_kindHere_173 : decode cX12_kindHere 173 = .ok (.bipush 6, 2) := by decide +kernel
theorem dX12_kindHere_175 : decode cX12_kindHere 175 = .ok (.goto 4, 3) := by decide +kernel
theorem dX12_kindHere_178 : decode cX12_kindHere 178 = .ok (.iconst (-1), 1) := by decide +kernel
theorem dX12_kindHere_179 : decode cX12_kindHere 179 = .ok (.ireturn, 1) := by decide +kernel
theorem dX12_perhaps_0 : decode cX12_perhaps 0 = .ok (.iload_n 1, 1) := by decide +kernel
theorem dX12_perhaps_1 : decode cX12_perhaps 1 = .ok (.ifCond .ne 5, 3) := by decide +kernel
theorem dX12_perhaps_4 : decode cX12_perhaps 4 = .ok (.iconst 1, 1) := by decide +kernel
theorem dX12_perhaps_5 : decode cX12_perhaps 5 = .ok (.ireturn, 1) := by decide +kernel
theorem dX12_perhaps_6 : decode cX12_perhaps 6 = .ok (.aload_n 0, 1) := by decide +kernel
theorem dX12_perhaps_7 : decode cX12_perhaps 7 = .ok (.invokevirtual 246, 3) := by decide +kernel
theorem dX12_perhaps_10 : decode cX12_perhaps 10 = .ok (.aload_n 0, 1) := by decide +kernel
theorem dX12_perhaps_11 : decode cX12_perhaps 11 = .ok (.iconst 0, 1) := by decide +kernel
theorem dX12_perhaps_12 : decode cX12_perhaps 12 = .ok (.iload_n 3, 1) := by decide +kernel
theorem dX12_perhaps_13 : decode cX12_perhaps 13 = .ok (.invokevirtual 249, 3) := by decide +kernel
theorem dX12_perhaps_16 : decode cX12_perhaps 16 = .ok (.ifCond .ne 5, 3) := by decide +kernel
theorem dX12_perhaps_19 : decode cX12_perhaps 19 = .ok (.iconst 0, 1) := by decide +kernel
theorem dX12_perhaps_20 : decode cX12_perhaps 20 = .ok (.ireturn, 1) := by decide +kernel
theorem dX12_perhaps_21 : decode cX12_perhaps 21 = .ok (.aload_n 0, 1) := by decide +kernel
theorem dX12_perhaps_22 : decode cX12_perhaps 22 = .ok (.getfield 7, 3) := by decide +kernel
theorem dX12_perhaps_25 : decode cX12_perhaps 25 = .ok (.iload_n 2, 1) := by decide +kernel
theorem dX12_perhaps_26 : decode cX12_perhaps 26 = .ok (.aload_n 0, 1) := by decide +kernel
theorem dX12_perhaps_27 : decode cX12_perhaps 27 = .ok (.getfield 218, 3) := by decide +kernel
theorem dX12_perhaps_30 : decode cX12_perhaps 30 = .ok (.iastore, 1) := by decide +kernel
theorem dX12_perhaps_31 : decode cX12_perhaps 31 = .ok (.aload_n 0, 1) := by decide +kernel
theorem dX12_perhaps_32 : decode cX12_perhaps 32 = .ok (.invokevirtual 246, 3) := by decide +kernel
theorem dX12_perhaps_35 : decode cX12_perhaps 35 = .ok (.iconst 1, 1) := by decide +kernel
theorem dX12_perhaps_36 : decode cX12_perhaps 36 = .ok (.ireturn, 1) := by decide +kernel
theorem dX12_fireHere_0 : decode cX12_fireHere 0 = .ok (.aload_n 0, 1) := by decide +kernel
theorem dX12_fireHere_1 : decode cX12_fireHere 1 = .ok (.getfield 7, 3) := by decide +kernel
theorem dX12_fireHere_4 : decode cX12_fireHere 4 = .ok (.iconst 0, 1) := by decide +kernel
theorem dX12_fireHere_5 : decode cX12_fireHere 5 = .ok (.iaload, 1) := by decide +kernel
theorem dX12_fireHere_6 : decode cX12_fireHere 6 = .ok (.bipush 8, 2) := by decide +kernel
theorem dX12_fireHere_8 : decode cX12_fireHere 8 = .ok (.if_icmp .ne 8, 3) := by decide +kernel
theorem dX12_fireHere_11 : decode cX12_fireHere 11 = .ok (.aload_n 0, 1) := by decide +kernel
theorem dX12_fireHere_12 : decode cX12_fireHere 12 = .ok (.invokevirtual 231, 3) := by decide +kernel
theorem dX12_fireHere_15 : decode cX12_fireHere 15 = .ok (.ireturn, 1) := by decide +kernel
theorem dX12_fireHere_16 : decode cX12_fireHere 16 = .ok (.aload_n 0, 1) := by decide +kernel
theorem dX12_fireHere_17 : decode cX12_fireHere 17 = .ok (.iload_n 1, 1) := by decide +kernel
theorem dX12_fireHere_18 : decode cX12_fireHere 18 = .ok (.iconst 0, 1) := by decide +kernel
theorem dX12_fireHere_19 : decode cX12_fireHere 19 = .ok (.iconst 0, 1) := by decide +kernel
theorem dX12_fireHere_20 : decode cX12_fireHere 20 = .ok (.invokevirtual 73, 3) := by decide +kernel
theorem dX12_fireHere_23 : decode cX12_fireHere 23 = .ok (.aload_n 0, 1) := by decide +kernel
theorem dX12_fireHere_24 : decode cX12_fireHere 24 = .ok (.getfield 7, 3) := by decide +kernel
theorem dX12_fireHere_27 : decode cX12_fireHere 27 = .ok (.iconst 0, 1) := by decide +kernel
theorem dX12_fireHere_28 : decode cX12_fireHere 28 = .ok (.iaload, 1) := by decide +kernel
theorem dX12_fireHere_29 : decode cX12_fireHere 29 = .ok (.iconst 1, 1) := by decide +kernel
theorem dX12_fireHere_30 : decode cX12_fireHere 30 = .ok (.isub, 1) := by decide +kernel
theorem dX12_fireHere_31 : decode cX12_fireHere 31 = .ok (.istore_n 2, 1) := by decide +kernel
theorem dX12_fireHere_32 : decode cX12_fireHere 32 = .ok (.aload_n 0, 1) := by decide +kernel
theorem dX12_fireHere_33 : decode cX12_fireHere 33 = .ok (.invokevirtual 246, 3) := by decide +kernel
theorem dX12_fireHere_36 : decode cX12_fireHere 36 = .ok (.aload_n 0, 1) := by decide +kernel
theorem dX12_fireHere_37 : decode cX12_fireHere 37 = .ok (.aload_n 0, 1) := by decide +kernel
theorem dX12_fireHere_38 : decode cX12_fireHere 38 = .ok (.iconst 2, 1) := by decide +kernel
theorem dX12_fireHere_39 : decode cX12_fireHere 39 = .ok (.invokevirtual 224, 3) := by decide +kernel
theorem dX12_fireHere_42 : decode cX12_fireHere 42 = .ok (.ifCond .eq 35, 3) := by decide +kernel
theorem dX12_fireHere_45 : decode cX12_fireHere 45 = .ok (.aload_n 0, 1) := by decide +kernel
theorem dX12_fireHere_46 : decode cX12_fireHere 46 = .ok (.aload_n 0, 1) := by decide +kernel
theorem dX12_fireHere_47 : decode cX12_fireHere 47 = .ok (.getfield 203, 3) := by decide +kernel
theorem dX12_fireHere_50 : decode cX12_fireHere 50 = .ok (.invokevirtual 206, 3) := by decide +kernel
theorem dX12_fireHere_53 : decode cX12_fireHere 53 = .ok (.bipush 97, 2) := by decide +kernel
theorem dX12_fireHere_55 : decode cX12_fireHere 55 = .ok (.if_icmp .ne 22, 3) := by decide +kernel
theorem dX12_fireHere_58 : decode cX12_fireHere 58 = .ok (.aload_n 0, 1) := by decide +kernel
theorem dX12_fireHere_59 : decode cX12_fireHere 59 = .ok (.aload_n 0, 1) := by decide +kernel
theorem dX12_fireHere_60 : decode cX12_fireHere 60 = .ok (.getfield 203, 3) := by decide +kernel
theorem dX12_fireHere_63 : decode cX12_fireHere 63 = .ok (.iconst 1, 1) := by decide +kernel
theorem dX12_fireHere_64 : decode cX12_fireHere 64 = .ok (.iadd, 1) := by decide +kernel
theorem dX12_fireHere_65 : decode cX12_fireHere 65 = .ok (.invokevirtual 206, 3) := by decide +kernel
theorem dX12_fireHere_68 : decode cX12_fireHere 68 = .ok (.bipush 116, 2) := by decide +kernel
theorem dX12_fireHere_70 : decode cX12_fireHere 70 = .ok (.if_icmp .ne 7, 3) := by decide +kernel
theorem dX12_fireHere_73 : decode cX12_fireHere 73 = .ok (.iconst 1, 1) := by decide +kernel
theorem dX12_fireHere_74 : decode cX12_fireHere 74 = .ok (.goto 4, 3) := by decide +kernel
theorem dX12_fireHere_77 : decode cX12_fireHere 77 = .ok (.iconst 0, 1) := by decide +kernel
theorem dX12_fireHere_78 : decode cX12_fireHere 78 = .ok (.iload_n 2, 1) := by decide +kernel
theorem dX12_fireHere_79 : decode cX12_fireHere 79 = .ok (.iconst 1, 1) := by decide +kernel
theorem dX12_fireHere_80 : decode cX12_fireHere 80 = .ok (.invokestatic 67, 3) := by decide +kernel
theorem dX12_fireHere_83 : decode cX12_fireHere 83 = .ok (.bipush 24, 2) := by decide +kernel
theorem dX12_fireHere_85 : decode cX12_fireHere 85 = .ok (.invokevirtual 252, 3) := by decide +kernel
theorem dX12_fireHere_88 : decode cX12_fireHere 88 = .ok (.ifCond .ne 5, 3) := by decide +kernel
theorem dX12_fireHere_91 : decode cX12_fireHere 91 = .ok (.iconst 0, 1) := by decide +kernel
theorem dX12_fireHere_92 : decode cX12_fireHere 92 = .ok (.ireturn, 1) := by decide +kernel
theorem dX12_fireHere_93 : decode cX12_fireHere 93 = .ok (.aload_n 0, 1) := by decide +kernel
theorem dX12_fireHere_94 : decode cX12_fireHere 94 = .ok (.getfield 7, 3) := by decide +kernel
theorem dX12_fireHere_97 : decode cX12_fireHere 97 = .ok (.iload_n 2, 1) := by decide +kernel
theorem dX12_fireHere_98 : decode cX12_fireHere 98 = .ok (.iconst 4, 1) := by decide +kernel
theorem dX12_fireHere_99 : decode cX12_fireHere 99 = .ok (.invokestatic 67, 3) := by decide +kernel
theorem dX12_fireHere_102 : decode cX12_fireHere 102 = .ok (.aload_n 0, 1) := by decide +kernel
theorem dX12_fireHere_103 : decode cX12_fireHere 103 = .ok (.iload_n 2, 1) := by decide +kernel
theorem dX12_fireHere_104 : decode cX12_fireHere 104 = .ok (.iconst 1, 1) := by decide +kernel
theorem dX12_fireHere_105 : decode cX12_fireHere 105 = .ok (.invokevirtual 62, 3) := by decide +kernel
theorem dX12_fireHere_108 : decode cX12_fireHere 108 = .ok (.iastore, 1) := by decide +kernel
theorem dX12_fireHere_109 : decode cX12_fireHere 109 = .ok (.aload_n 0, 1) := by decide +kernel
theorem dX12_fireHere_110 : decode cX12_fireHere 110 = .ok (.getfield 7, 3) := by decide +kernel
theorem dX12_fireHere_113 : decode cX12_fireHere 113 = .ok (.iload_n 2, 1) := by decide +kernel
theorem dX12_fireHere_114 : decode cX12_fireHere 114 = .ok (.iconst 2, 1) := by decide +kernel
theorem dX12_fireHere_115 : decode cX12_fireHere 115 = .ok (.invokestatic 67, 3) := by decide +kernel
theorem dX12_fireHere_118 : decode cX12_fireHere 118 = .ok (.aload_n 0, 1) := by decide +kernel
theorem dX12_fireHere_119 : decode cX12_fireHere 119 = .ok (.iload_n 2, 1) := by decide +kernel
theorem dX12_fireHere_120 : decode cX12_fireHere 120 = .ok (.iconst 1, 1) := by decide +kernel
theorem dX12_fireHere_121 : decode cX12_fireHere 121 = .ok (.invokevirtual 62, 3) := by decide +kernel
theorem dX12_fireHere_124 : decode cX12_fireHere 124 = .ok (.iastore, 1) := by decide +kernel
theorem dX12_fireHere_125 : decode cX12_fireHere 125 = .ok (.aload_n 0, 1) := by decide +kernel
theorem dX12_fireHere_126 : decode cX12_fireHere 126 = .ok (.aload_n 0, 1) := by decide +kernel
theorem dX12_fireHere_127 : decode cX12_fireHere 127 = .ok (.bipush 104, 2) := by decide +kernel
theorem dX12_fireHere_129 : decode cX12_fireHere 129 = .ok (.bipush 111, 2) := by decide +kernel
theorem dX12_fireHere_131 : decode cX12_fireHere 131 = .ok (.bipush 109, 2) := by decide +kernel
theorem dX12_fireHere_133 : decode cX12_fireHere 133 = .ok (.bipush 101, 2) := by decide +kernel
theorem dX12_fireHere_135 : decode cX12_fireHere 135 = .ok (.invokevirtual 235, 3) := by decide +kernel
theorem dX12_fireHere_138 : decode cX12_fireHere 138 = .ok (.iload_n 2, 1) := by decide +kernel
theorem dX12_fireHere_139 : decode cX12_fireHere 139 = .ok (.iconst 2, 1) := by decide +kernel
theorem dX12_fireHere_140 : decode cX12_fireHere 140 = .ok (.invokestatic 67, 3) := by decide +kernel
theorem dX12_fireHere_143 : decode cX12_fireHere 143 = .ok (.bipush 24, 2) := by decide +kernel
theorem dX12_fireHere_145 : decode cX12_fireHere 145 = .ok (.invokevirtual 252, 3) := by decide +kernel
theorem dX12_fireHere_148 : decode cX12_fireHere 148 = .ok (.ifCond .eq 34, 3) := by decide +kernel
theorem dX12_fireHere_151 : decode cX12_fireHere 151 = .ok (.aload_n 0, 1) := by decide +kernel
theorem dX12_fireHere_152 : decode cX12_fireHere 152 = .ok (.aload_n 0, 1) := by decide +kernel
theorem dX12_fireHere_153 : decode cX12_fireHere 153 = .ok (.bipush 108, 2) := by decide +kernel
theorem dX12_fireHere_155 : decode cX12_fireHere 155 = .ok (.bipush 111, 2) := by decide +kernel
theorem dX12_fireHere_157 : decode cX12_fireHere 157 = .ok (.bipush 103, 2) := by decide +kernel
theorem dX12_fireHere_159 : decode cX12_fireHere 159 = .ok (.bipush 115, 2) := by decide +kernel
theorem dX12_fireHere_161 : decode cX12_fireHere 161 = .ok (.invokevirtual 235, 3) := by decide +kernel
theorem dX12_fireHere_164 : decode cX12_fireHere 164 = .ok (.iload_n 2, 1) := by decide +kernel
theorem dX12_fireHere_165 : decode cX12_fireHere 165 = .ok (.iconst 3, 1) := by decide +kernel
theorem dX12_fireHere_166 : decode cX12_fireHere 166 = .ok (.invokestatic 67, 3) := by decide +kernel
theorem dX12_fireHere_169 : decode cX12_fireHere 169 = .ok (.sipush 999, 3) := by decide +kernel
theorem dX12_fireHere_172 : decode cX12_fireHere 172 = .ok (.invokevirtual 252, 3) := by decide +kernel
theorem dX12_fireHere_175 : decode cX12_fireHere 175 = .ok (.ifCond .eq 7, 3) := by decide +kernel
theorem dX12_fireHere_178 : decode cX12_fireHere 178 = .ok (.iconst 1, 1) := by decide +kernel
theorem dX12_fireHere_179 : decode cX12_fireHere 179 = .ok (.goto 4, 3) := by decide +kernel
theorem dX12_fireHere_182 : decode cX12_fireHere 182 = .ok (.iconst 0, 1) := by decide +kernel
theorem dX12_fireHere_183 : decode cX12_fireHere 183 = .ok (.ireturn, 1) := by decide +kernel
theorem dX12_woodHere_0 : decode cX12_woodHere 0 = .ok (.aload_n 0, 1) := by decide +kernel
theorem dX12_woodHere_1 : decode cX12_woodHere 1 = .ok (.invokevirtual 246, 3) := by decide +kernel
theorem dX12_woodHere_4 : decode cX12_woodHere 4 = .ok (.aload_n 0, 1) := by decide +kernel
theorem dX12_woodHere_5 : decode cX12_woodHere 5 = .ok (.iconst 0, 1) := by decide +kernel
theorem dX12_woodHere_6 : decode cX12_woodHere 6 = .ok (.bipush 24, 2) := by decide +kernel
theorem dX12_woodHere_8 : decode cX12_woodHere 8 = .ok (.invokevirtual 249, 3) := by decide +kernel
theorem dX12_woodHere_11 : decode cX12_woodHere 11 = .ok (.ifCond .eq 24, 3) := by decide +kernel
theorem dX12_woodHere_14 : decode cX12_woodHere 14 = .ok (.aload_n 0, 1) := by decide +kernel
theorem dX12_woodHere_15 : decode cX12_woodHere 15 = .ok (.iconst 1, 1) := by decide +kernel
theorem dX12_woodHere_16 : decode cX12_woodHere 16 = .ok (.iconst 5, 1) := by decide +kernel
theorem dX12_woodHere_17 : decode cX12_woodHere 17 = .ok (.aload_n 0, 1) := by decide +kernel
theorem dX12_woodHere_18 : decode cX12_woodHere 18 = .ok (.getfield 218, 3) := by decide +kernel
theorem dX12_woodHere_21 : decode cX12_woodHere 21 = .ok (.iadd, 1) := by decide +kernel
theorem dX12_woodHere_22 : decode cX12_woodHere 22 = .ok (.sipush 9999, 3) := by decide +kernel
theorem dX12_woodHere_25 : decode cX12_woodHere 25 = .ok (.invokevirtual 252, 3) := by decide +kernel
theorem dX12_woodHere_28 : decode cX12_woodHere 28 = .ok (.ifCond .eq 7, 3) := by decide +kernel
theorem dX12_woodHere_31 : decode cX12_woodHere 31 = .ok (.iconst 1, 1) := by decide +kernel
theorem dX12_woodHere_32 : decode cX12_woodHere 32 = .ok (.goto 4, 3) := by decide +kernel
theorem dX12_woodHere_35 : decode cX12_woodHere 35 = .ok (.iconst 0, 1) := by decide +kernel
theorem dX12_woodHere_36 : decode cX12_woodHere 36 = .ok (.ireturn, 1) := by decide +kernel
theorem dX12_itemHere_0 : decode cX12_itemHere 0 = .ok (.aload_n 0, 1) := by decide +kernel
theorem dX12_itemHere_1 : decode cX12_itemHere 1 = .ok (.invokevirtual 256, 3) := by decide +kernel
theorem dX12_itemHere_4 : decode cX12_itemHere 4 = .ok (.istore_n 1, 1) := by decide +kernel
theorem dX12_itemHere_5 : decode cX12_itemHere 5 = .ok (.iload_n 1, 1) := by decide +kernel
theorem dX12_itemHere_6 : decode cX12_itemHere 6 = .ok (.ifCond .lt 9, 3) := by decide +kernel
theorem dX12_itemHere_9 : decode cX12_itemHere 9 = .ok (.aload_n 0, 1) := by decide +kernel
theorem dX12_itemHere_10 : decode cX12_itemHere 10 = .ok (.iload_n 1, 1) := by decide +kernel
theorem dX12_itemHere_11 : decode cX12_itemHere 11 = .ok (.invokevirtual 259, 3) := by decide +kernel
theorem dX12_itemHere_14 : decode cX12_itemHere 14 = .ok (.ireturn, 1) := by decide +kernel
theorem dX12_itemHere_15 : decode cX12_itemHere 15 = .ok (.aload_n 0, 1) := by decide +kernel
theorem dX12_itemHere_16 : decode cX12_itemHere 16 = .ok (.bipush 119, 2) := by decide +kernel
theorem dX12_itemHere_18 : decode cX12_itemHere 18 = .ok (.bipush 105, 2) := by decide +kernel
theorem dX12_itemHere_20 : decode cX12_itemHere 20 = .ok (.bipush 110, 2) := by decide +kernel
theorem dX12_itemHere_22 : decode cX12_itemHere 22 = .ok (.bipush 100, 2) := by decide +kernel
theorem dX12_itemHere_24 : decode cX12_itemHere 24 = .ok (.invokevirtual 235, 3) := by decide +kernel
theorem dX12_itemHere_27 : decode cX12_itemHere 27 = .ok (.ifCond .eq 11, 3) := by decide +kernel
theorem dX12_itemHere_30 : decode cX12_itemHere 30 = .ok (.aload_n 0, 1) := by decide +kernel
theorem dX12_itemHere_31 : decode cX12_itemHere 31 = .ok (.iconst 1, 1) := by decide +kernel
theorem dX12_itemHere_32 : decode cX12_itemHere 32 = .ok (.iconst 3, 1) := by decide +kernel
theorem dX12_itemHere_33 : decode cX12_itemHere 33 = .ok (.iconst 4, 1) := by decide +kernel
theorem dX12_itemHere_34 : decode cX12_itemHere 34 = .ok (.invokevirtual 252, 3) := by decide +kernel
theorem dX12_itemHere_37 : decode cX12_itemHere 37 = .ok (.ireturn, 1) := by decide +kernel
theorem dX12_itemHere_38 : decode cX12_itemHere 38 = .ok (.aload_n 0, 1) := by decide +kernel
theorem dX12_itemHere_39 : decode cX12_itemHere 39 = .ok (.bipush 119, 2) := by decide +kernel
theorem dX12_itemHere_41 : decode cX12_itemHere 41 = .ok (.bipush 111, 2) := by decide +kernel
theorem dX12_itemHere_43 : decode cX12_itemHere 43 = .ok (.bipush 111, 2) := by decide +kernel
theorem dX12_itemHere_45 : decode cX12_itemHere 45 = .ok (.bipush 100, 2) := by decide +kernel
theorem dX12_itemHere_47 : decode cX12_itemHere 47 = .ok (.invokevirtual 235, 3) := by decide +kernel
theorem dX12_itemHere_50 : decode cX12_itemHere 50 = .ok (.ifCond .eq 10, 3) := by decide +kernel
theorem dX12_itemHere_53 : decode cX12_itemHere 53 = .ok (.aload_n 0, 1) := by decide +kernel
theorem dX12_itemHere_54 : decode cX12_itemHere 54 = .ok (.invokevirtual 262, 3) := by decide +kernel
theorem dX12_itemHere_57 : decode cX12_itemHere 57 = .ok (.goto 7, 3) := by decide +kernel
theorem dX12_itemHere_60 : decode cX12_itemHere 60 = .ok (.aload_n 0, 1) := by decide +kernel
theorem dX12_itemHere_61 : decode cX12_itemHere 61 = .ok (.invokevirtual 231, 3) := by decide +kernel
theorem dX12_itemHere_64 : decode cX12_itemHere 64 = .ok (.ireturn, 1) := by decide +kernel
theorem dX12_text_0 : decode cX12_text 0 = .ok (.aload_n 0, 1) := by decide +kernel
theorem dX12_text_1 : decode cX12_text 1 = .ok (.getfield 7, 3) := by decide +kernel
theorem dX12_text_4 : decode cX12_text 4 = .ok (.aload_n 0, 1) := by decide +kernel
theorem dX12_text_5 : decode cX12_text 5 = .ok (.getfield 16, 3) := by decide +kernel
theorem dX12_text_8 : decode cX12_text 8 = .ok (.invokestatic 146, 3) := by decide +kernel
theorem dX12_text_11 : decode cX12_text 11 = .ok (.aload_n 0, 1) := by decide +kernel
theorem dX12_text_12 : decode cX12_text 12 = .ok (.iconst 0, 1) := by decide +kernel
theorem dX12_text_13 : decode cX12_text 13 = .ok (.putfield 200, 3) := by decide +kernel
theorem dX12_text_16 : decode cX12_text 16 = .ok (.aload_n 0, 1) := by decide +kernel
theorem dX12_text_17 : decode cX12_text 17 = .ok (.invokevirtual 246, 3) := by decide +kernel
theorem dX12_text_20 : decode cX12_text 20 = .ok (.iconst 1, 1) := by decide +kernel
theorem dX12_text_21 : decode cX12_text 21 = .ok (.istore_n 1, 1) := by decide +kernel
theorem dX12_text_22 : decode cX12_text 22 = .ok (.aload_n 0, 1) := by decide +kernel
theorem dX12_text_23 : decode cX12_text 23 = .ok (.invokevirtual 265, 3) := by decide +kernel
theorem dX12_text_26 : decode cX12_text 26 = .ok (.istore_n 2, 1) := by decide +kernel
theorem dX12_text_27 : decode cX12_text 27 = .ok (.iload_n 2, 1) := by decide +kernel
theorem dX12_text_28 : decode cX12_text 28 = .ok (.ifCond .eq 26, 3) := by decide +kernel
theorem dX12_text_31 : decode cX12_text 31 = .ok (.aload_n 0, 1) := by decide +kernel
theorem dX12_text_32 : decode cX12_text 32 = .ok (.getfield 215, 3) := by decide +kernel
theorem dX12_text_35 : decode cX12_text 35 = .ok (.iconst 3, 1) := by decide +kernel
theorem dX12_text_36 : decode cX12_text 36 = .ok (.if_icmp .ne 18, 3) := by decide +kernel
theorem dX12_text_39 : decode cX12_text 39 = .ok (.aload_n 0, 1) := by decide +kernel
theorem dX12_text_40 : decode cX12_text 40 = .ok (.invokevirtual 246, 3) := by decide +kernel
theorem dX12_text_43 : decode cX12_text 43 = .ok (.aload_n 0, 1) := by decide +kernel
theorem dX12_text_44 : decode cX12_text 44 = .ok (.invokevirtual 265, 3) := by decide +kernel
theorem dX12_text_47 : decode cX12_text 47 = .ok (.istore_n 2, 1) := by decide +kernel
theorem dX12_text_48 : decode cX12_text 48 = .ok (.iinc 1 1, 3) := by decide +kernel
theorem dX12_text_51 : decode cX12_text 51 = .ok (.goto (-24), 3) := by decide +kernel
theorem dX12_text_54 : decode cX12_text 54 = .ok (.iload_n 2, 1) := by decide +kernel
theorem dX12_text_55 : decode cX12_text 55 = .ok (.ifCond .eq 21, 3) := by decide +kernel
theorem dX12_text_58 : decode cX12_text 58 = .ok (.aload_n 0, 1) := by decide +kernel
theorem dX12_text_59 : decode cX12_text 59 = .ok (.getfield 215, 3) := by decide +kernel
theorem dX12_text_62 : decode cX12_text 62 = .ok (.ifCond .eq 10, 3) := by decide +kernel
theorem dX12_text_65 : decode cX12_text 65 = .ok (.aload_n 0, 1) := by decide +kernel
theorem dX12_text_66 : decode cX12_text 66 = .ok (.invokevirtual 231, 3) := by decide +kernel
theorem dX12_text_69 : decode cX12_text 69 = .ok (.ifCond .eq 7, 3) := by decide +kernel
theorem dX12_text_72 : decode cX12_text 72 = .ok (.iconst 1, 1) := by decide +kernel
theorem dX12_text_73 : decode cX12_text 73 = .ok (.goto 4, 3) := by decide +kernel
theorem dX12_text_76 : decode cX12_text 76 = .ok (.iconst 0, 1) := by decide +kernel
theorem dX12_text_77 : decode cX12_text 77 = .ok (.istore_n 2, 1) := by decide +kernel
theorem dX12_text_78 : decode cX12_text 78 = .ok (.aload_n 0, 1) := by decide +kernel
theorem dX12_text_79 : decode cX12_text 79 = .ok (.iconst 0, 1) := by decide +kernel
theorem dX12_text_80 : decode cX12_text 80 = .ok (.putfield 196, 3) := by decide +kernel
theorem dX12_text_83 : decode cX12_text 83 = .ok (.iload_n 2, 1) := by decide +kernel
theorem dX12_text_84 : decode cX12_text 84 = .ok (.ifCond .ne 14, 3) := by decide +kernel
theorem dX12_text_87 : decode cX12_text 87 = .ok (.aload_n 0, 1) := by decide +kernel
theorem dX12_text_88 : decode cX12_text 88 = .ok (.getfield 16, 3) := by decide +kernel
theorem dX12_text_91 : decode cX12_text 91 = .ok (.aload_n 0, 1) := by decide +kernel
theorem dX12_text_92 : decode cX12_text 92 = .ok (.getfield 7, 3) := by decide +kernel
theorem dX12_text_95 : decode cX12_text 95 = .ok (.invokestatic 146, 3) := by decide +kernel
theorem dX12_text_98 : decode cX12_text 98 = .ok (.iload_n 2, 1) := by decide +kernel
theorem dX12_text_99 : decode cX12_text 99 = .ok (.ifCond .eq 7, 3) := by decide +kernel
theorem dX12_text_102 : decode cX12_text 102 = .ok (.iload_n 1, 1) := by decide +kernel
theorem dX12_text_103 : decode cX12_text 103 = .ok (.goto 9, 3) := by decide +kernel
theorem dX12_text_106 : decode cX12_text 106 = .ok (.iconst (-1), 1) := by decide +kernel
theorem dX12_text_107 : decode cX12_text 107 = .ok (.aload_n 0, 1) := by decide +kernel
theorem dX12_text_108 : decode cX12_text 108 = .ok (.getfield 221, 3) := by decide +kernel
theorem dX12_text_111 : decode cX12_text 111 = .ok (.isub, 1) := by decide +kernel
theorem dX12_text_112 : decode cX12_text 112 = .ok (.ireturn, 1) := by decide +kernel
theorem dX12_hold_0 : decode cX12_hold 0 = .ok (.iload_n 1, 1) := by decide +kernel
theorem dX12_hold_1 : decode cX12_hold 1 = .ok (.i2l, 1) := by decide +kernel
theorem dX12_hold_2 : decode cX12_hold 2 = .ok (.lconst 0, 1) := by decide +kernel
theorem dX12_hold_3 : decode cX12_hold 3 = .ok (.ldc2_w 80, 3) := by decide +kernel
theorem dX12_hold_6 : decode cX12_hold 6 = .ok (.invokestatic 52, 3) := by decide +kernel
theorem dX12_hold_9 : decode cX12_hold 9 = .ok (.ifCond .eq 16, 3) := by decide +kernel
theorem dX12_hold_12 : decode cX12_hold 12 = .ok (.iload_n 2, 1) := by decide +kernel
theorem dX12_hold_13 : decode cX12_hold 13 = .ok (.iconst (-1), 1) := by decide +kernel
theorem dX12_hold_14 : decode cX12_hold 14 = .ok (.if_icmp .eq 18, 3) := by decide +kernel
theorem dX12_hold_17 : decode cX12_hold 17 = .ok (.aload_n 0, 1) := by decide +kernel
theorem dX12_hold_18 : decode cX12_hold 18 = .ok (.iload_n 2, 1) := by decide +kernel
theorem dX12_hold_19 : decode cX12_hold 19 = .ok (.invokevirtual 77, 3) := by decide +kernel
theorem dX12_hold_22 : decode cX12_hold 22 = .ok (.ifCond .ne 10, 3) := by decide +kernel
theorem dX12_hold_25 : decode cX12_hold 25 = .ok (.aload_n 0, 1) := by decide +kernel
theorem dX12_hold_26 : decode cX12_hold 26 = .ok (.ldc 40, 2) := by decide +kernel
theorem dX12_hold_28 : decode cX12_hold 28 = .ok (.invokevirtual 42, 3) := by decide +kernel
theorem dX12_hold_31 : decode cX12_hold 31 = .ok (.ireturn, 1) := by decide +kernel
theorem dX12_hold_32 : decode cX12_hold 32 = .ok (.aload_n 0, 1) := by decide +kernel
theorem dX12_hold_33 : decode cX12_hold 33 = .ok (.getfield 7, 3) := by decide +kernel
theorem dX12_hold_36 : decode cX12_hold 36 = .ok (.bipush 86, 2) := by decide +kernel
theorem dX12_hold_38 : decode cX12_hold 38 = .ok (.iload_n 1, 1) := by decide +kernel
theorem dX12_hold_39 : decode cX12_hold 39 = .ok (.iadd, 1) := by decide +kernel
theorem dX12_hold_40 : decode cX12_hold 40 = .ok (.iload_n 2, 1) := by decide +kernel
theorem dX12_hold_41 : decode cX12_hold 41 = .ok (.iastore, 1) := by decide +kernel
theorem dX12_hold_42 : decode cX12_hold 42 = .ok (.iconst 1, 1) := by decide +kernel
theorem dX12_hold_43 : decode cX12_hold 43 = .ok (.ireturn, 1) := by decide +kernel
theorem dX12_isUnder_0 : decode cX12_isUnder 0 = .ok (.iload_n 1, 1) := by decide +kernel
theorem dX12_isUnder_1 : decode cX12_isUnder 1 = .ok (.ifCond .eq 44, 3) := by decide +kernel
theorem dX12_isUnder_4 : decode cX12_isUnder 4 = .ok (.iload_n 0, 1) := by decide +kernel
theorem dX12_isUnder_5 : decode cX12_isUnder 5 = .ok (.iload_n 1, 1) := by decide +kernel
theorem dX12_isUnder_6 : decode cX12_isUnder 6 = .ok (.if_icmp .eq 39, 3) := by decide +kernel
theorem dX12_isUnder_9 : decode cX12_isUnder 9 = .ok (.iload_n 1, 1) := by decide +kernel
theorem dX12_isUnder_10 : decode cX12_isUnder 10 = .ok (.iconst 2, 1) := by decide +kernel
theorem dX12_isUnder_11 : decode cX12_isUnder 11 = .ok (.if_icmp .ne 13, 3) := by decide +kernel
theorem dX12_isUnder_14 : decode cX12_isUnder 14 = .ok (.iload_n 0, 1) := by decide +kernel
theorem dX12_isUnder_15 : decode cX12_isUnder 15 = .ok (.iconst 3, 1) := by decide +kernel
theorem dX12_isUnder_16 : decode cX12_isUnder 16 = .ok (.if_icmp .eq 29, 3) := by decide +kernel
theorem dX12_isUnder_19 : decode cX12_isUnder 19 = .ok (.iload_n 0, 1) := by decide +kernel
theorem dX12_isUnder_20 : decode cX12_isUnder 20 = .ok (.iconst 4, 1) := by decide +kernel
theorem dX12_isUnder_21 : decode cX12_isUnder 21 = .ok (.if_icmp .eq 24, 3) := by decide +kernel
theorem dX12_isUnder_24 : decode cX12_isUnder 24 = .ok (.iload_n 1, 1) := by decide +kernel
theorem dX12_isUnder_25 : decode cX12_isUnder 25 = .ok (.iconst 3, 1) := by decide +kernel
theorem dX12_isUnder_26 : decode cX12_isUnder 26 = .ok (.if_icmp .ne 8, 3) := by decide +kernel
theorem dX12_isUnder_29 : decode cX12_isUnder 29 = .ok (.iload_n 0, 1) := by decide +kernel
theorem dX12_isUnder_30 : decode cX12_isUnder 30 = .ok (.iconst 4, 1) := by decide +kernel
theorem dX12_isUnder_31 : decode cX12_isUnder 31 = .ok (.if_icmp .eq 14, 3) := by decide +kernel
theorem dX12_isUnder_34 : decode cX12_isUnder 34 = .ok (.iload_n 1, 1) := by decide +kernel
theorem dX12_isUnder_35 : decode cX12_isUnder 35 = .ok (.iconst 1, 1) := by decide +kernel
theorem dX12_isUnder_36 : decode cX12_isUnder 36 = .ok (.if_icmp .ne 13, 3) := by decide +kernel
theorem dX12_isUnder_39 : decode cX12_isUnder 39 = .ok (.iload_n 0, 1) := by decide +kernel
theorem dX12_isUnder_40 : decode cX12_isUnder 40 = .ok (.bipush 6, 2) := by decide +kernel
theorem dX12_isUnder_42 : decode cX12_isUnder 42 = .ok (.if_icmp .ne 7, 3) := by decide +kernel
theorem dX12_isUnder_45 : decode cX12_isUnder 45 = .ok (.iconst 1, 1) := by decide +kernel
theorem dX12_isUnder_46 : decode cX12_isUnder 46 = .ok (.goto 4, 3) := by decide +kernel
theorem dX12_isUnder_49 : decode cX12_isUnder 49 = .ok (.iconst 0, 1) := by decide +kernel
theorem dX12_isUnder_50 : decode cX12_isUnder 50 = .ok (.ireturn, 1) := by decide +kernel
theorem dX12_as_0 : decode cX12_as 0 = .ok (.iload_n 1, 1) := by decide +kernel
theorem dX12_as_1 : decode cX12_as 1 = .ok (.i2l, 1) := by decide +kernel
theorem dX12_as_2 : decode cX12_as 2 = .ok (.lconst 0, 1) := by decide +kernel
theorem dX12_as_3 : decode cX12_as 3 = .ok (.ldc2_w 80, 3) := by decide +kernel
theorem dX12_as_6 : decode cX12_as 6 = .ok (.invokestatic 52, 3) := by decide +kernel
theorem dX12_as_9 : decode cX12_as 9 = .ok (.ifCond .eq 15, 3) := by decide +kernel
theorem dX12_as_12 : decode cX12_as 12 = .ok (.iload_n 2, 1) := by decide +kernel
theorem dX12_as_13 : decode cX12_as 13 = .ok (.i2l, 1) := by decide +kernel
theorem dX12_as_14 : decode cX12_as 14 = .ok (.lconst 0, 1) := by decide +kernel
theorem dX12_as_15 : decode cX12_as 15 = .ok (.ldc2_w 70, 3) := by decide +kernel
theorem dX12_as_18 : decode cX12_as 18 = .ok (.invokestatic 52, 3) := by decide +kernel
theorem dX12_as_21 : decode cX12_as 21 = .ok (.ifCond .ne 10, 3) := by decide +kernel
theorem dX12_as_24 : decode cX12_as 24 = .ok (.aload_n 0, 1) := by decide +kernel
theorem dX12_as_25 : decode cX12_as 25 = .ok (.ldc 40, 2) := by decide +kernel
theorem dX12_as_27 : decode cX12_as 27 = .ok (.invokevirtual 42, 3) := by decide +kernel
theorem dX12_as_30 : decode cX12_as 30 = .ok (.ireturn, 1) := by decide +kernel
theorem dX12_as_31 : decode cX12_as 31 = .ok (.aload_n 0, 1) := by decide +kernel
theorem dX12_as_32 : decode cX12_as 32 = .ok (.getfield 7, 3) := by decide +kernel
theorem dX12_as_35 : decode cX12_as 35 = .ok (.bipush 86, 2) := by decide +kernel
theorem dX12_as_37 : decode cX12_as 37 = .ok (.iload_n 1, 1) := by decide +kernel
theorem dX12_as_38 : decode cX12_as 38 = .ok (.iadd, 1) := by decide +kernel
theorem dX12_as_39 : decode cX12_as 39 = .ok (.iaload, 1) := by decide +kernel
theorem dX12_as_40 : decode cX12_as 40 = .ok (.istore_n 3, 1) := by decide +kernel
theorem dX12_as_41 : decode cX12_as 41 = .ok (.iload_n 3, 1) := by decide +kernel
theorem dX12_as_42 : decode cX12_as 42 = .ok (.ifCond .ge 11, 3) := by decide +kernel
theorem dX12_as_45 : decode cX12_as 45 = .ok (.aload_n 0, 1) := by decide +kernel
theorem dX12_as_46 : decode cX12_as 46 = .ok (.ldc_w 268, 3) := by decide +kernel
theorem dX12_as_49 : decode cX12_as 49 = .ok (.invokevirtual 42, 3) := by decide +kernel
theorem dX12_as_52 : decode cX12_as 52 = .ok (.ireturn, 1) := by decide +kernel
theorem dX12_as_53 : decode cX12_as 53 = .ok (.aload_n 0, 1) := by decide +kernel
theorem dX12_as_54 : decode cX12_as 54 = .ok (.iload_n 3, 1) := by decide +kernel
theorem dX12_as_55 : decode cX12_as 55 = .ok (.iconst 0, 1) := by decide +kernel
theorem dX12_as_56 : decode cX12_as 56 = .ok (.invokevirtual 62, 3) := by decide +kernel
theorem dX12_as_59 : decode cX12_as 59 = .ok (.iload_n 2, 1) := by decide +kernel
theorem dX12_as_60 : decode cX12_as 60 = .ok (.invokestatic 269, 3) := by decide +kernel
theorem dX12_as_63 : decode cX12_as 63 = .ok (.ifCond .eq 7, 3) := by decide +kernel
theorem dX12_as_66 : decode cX12_as 66 = .ok (.iload_n 3, 1) := by decide +kernel
theorem dX12_as_67 : decode cX12_as 67 = .ok (.goto 10, 3) := by decide +kernel
theorem dX12_as_70 : decode cX12_as 70 = .ok (.aload_n 0, 1) := by decide +kernel
theorem dX12_as_71 : decode cX12_as 71 = .ok (.ldc_w 272, 3) := by decide +kernel
theorem dX12_as_74 : decode cX12_as 74 = .ok (.invokevirtual 42, 3) := by decide +kernel
theorem dX12_as_77 : decode cX12_as 77 = .ok (.ireturn, 1) := by decide +kernel
theorem dX12_isSheet_0 : decode cX12_isSheet 0 = .ok (.iload_n 0, 1) := by decide +kernel
theorem dX12_isSheet_1 : decode cX12_isSheet 1 = .ok (.ifCond .lt 12, 3) := by decide +kernel
theorem dX12_isSheet_4 : decode cX12_isSheet 4 = .ok (.iload_n 0, 1) := by decide +kernel
theorem dX12_isSheet_5 : decode cX12_isSheet 5 = .ok (.iconst 4, 1) := by decide +kernel
theorem dX12_isSheet_6 : decode cX12_isSheet 6 = .ok (.if_icmp .ge 7, 3) := by decide +kernel
theorem dX12_isSheet_9 : decode cX12_isSheet 9 = .ok (.iconst 1, 1) := by decide +kernel
theorem dX12_isSheet_10 : decode cX12_isSheet 10 = .ok (.goto 4, 3) := by decide +kernel
theorem dX12_isSheet_13 : decode cX12_isSheet 13 = .ok (.iconst 0, 1) := by decide +kernel
theorem dX12_isSheet_14 : decode cX12_isSheet 14 = .ok (.ireturn, 1) := by decide +kernel
theorem dX12_sheet_0 : decode cX12_sheet 0 = .ok (.iload_n 1, 1) := by decide +kernel
theorem dX12_sheet_1 : decode cX12_sheet 1 = .ok (.invokestatic 273, 3) := by decide +kernel
theorem dX12_sheet_4 : decode cX12_sheet 4 = .ok (.ifCond .eq 25, 3) := by decide +kernel
theorem dX12_sheet_7 : decode cX12_sheet 7 = .ok (.iload_n 2, 1) := by decide +kernel
theorem dX12_sheet_8 : decode cX12_sheet 8 = .ok (.ifCond .eq 28, 3) := by decide +kernel
theorem dX12_sheet_11 : decode cX12_sheet 11 = .ok (.iload_n 2, 1) := by decide +kernel
theorem dX12_sheet_12 : decode cX12_sheet 12 = .ok (.bipush 8, 2) := by decide +kernel
theorem dX12_sheet_14 : decode cX12_sheet 14 = .ok (.if_icmp .eq 22, 3) := by decide +kernel
theorem dX12_sheet_17 : decode cX12_sheet 17 = .ok (.iload_n 2, 1) := by decide +kernel
theorem dX12_sheet_18 : decode cX12_sheet 18 = .ok (.bipush 16, 2) := by decide +kernel
theorem dX12_sheet_20 : decode cX12_sheet 20 = .ok (.if_icmp .eq 16, 3) := by decide +kernel
theorem dX12_sheet_23 : decode cX12_sheet 23 = .ok (.iload_n 2, 1) := by decide +kernel
theorem dX12_sheet_24 : decode cX12_sheet 24 = .ok (.bipush 32, 2) := by decide +kernel
theorem dX12_sheet_26 : decode cX12_sheet 26 = .ok (.if_icmp .eq 10, 3) := by decide +kernel
theorem dX12_sheet_29 : decode cX12_sheet 29 = .ok (.aload_n 0, 1) := by decide +kernel
theorem dX12_sheet_30 : decode cX12_sheet 30 = .ok (.ldc 40, 2) := by decide +kernel
theorem dX12_sheet_32 : decode cX12_sheet 32 = .ok (.invokevirtual 42, 3) := by decide +kernel
theorem dX12_sheet_35 : decode cX12_sheet 35 = .ok (.ireturn, 1) := by decide +kernel
theorem dX12_sheet_36 : decode cX12_sheet 36 = .ok (.iload_n 3, 1) := by decide +kernel
theorem dX12_sheet_37 : decode cX12_sheet 37 = .ok (.ifCond .ge 11, 3) := by decide +kernel
theorem dX12_sheet_40 : decode cX12_sheet 40 = .ok (.aload_n 0, 1) := by decide +kernel
theorem dX12_sheet_41 : decode cX12_sheet 41 = .ok (.ldc_w 276, 3) := by decide +kernel
theorem dX12_sheet_44 : decode cX12_sheet 44 = .ok (.invokevirtual 42, 3) := by decide +kernel
theorem dX12_sheet_47 : decode cX12_sheet 47 = .ok (.ireturn, 1) := by decide +kernel
theorem dX12_sheet_48 : decode cX12_sheet 48 = .ok (.iload_n 3, 1) := by decide +kernel
theorem dX12_sheet_49 : decode cX12_sheet 49 = .ok (.bipush 40, 2) := by decide +kernel
theorem dX12_sheet_51 : decode cX12_sheet 51 = .ok (.if_icmp .le 10, 3) := by decide +kernel
theorem dX12_sheet_54 : decode cX12_sheet 54 = .ok (.aload_n 0, 1) := by decide +kernel
theorem dX12_sheet_55 : decode cX12_sheet 55 = .ok (.ldc 40, 2) := by decide +kernel
theorem dX12_sheet_57 : decode cX12_sheet 57 = .ok (.invokevirtual 42, 3) := by decide +kernel
theorem dX12_sheet_60 : decode cX12_sheet 60 = .ok (.ireturn, 1) := by decide +kernel
theorem dX12_sheet_61 : decode cX12_sheet 61 = .ok (.aload_n 0, 1) := by decide +kernel
theorem dX12_sheet_62 : decode cX12_sheet 62 = .ok (.getfield 28, 3) := by decide +kernel
theorem dX12_sheet_65 : decode cX12_sheet 65 = .ok (.iload_n 1, 1) := by decide +kernel
theorem dX12_sheet_66 : decode cX12_sheet 66 = .ok (.iload_n 2, 1) := by decide +kernel
theorem dX12_sheet_67 : decode cX12_sheet 67 = .ok (.ifCond .ne 7, 3) := by decide +kernel
theorem dX12_sheet_70 : decode cX12_sheet 70 = .ok (.iconst (-1), 1) := by decide +kernel
theorem dX12_sheet_71 : decode cX12_sheet 71 = .ok (.goto 4, 3) := by decide +kernel
theorem dX12_sheet_74 : decode cX12_sheet 74 = .ok (.iload_n 2, 1) := by decide +kernel
theorem dX12_sheet_75 : decode cX12_sheet 75 = .ok (.iastore, 1) := by decide +kernel
theorem dX12_sheet_76 : decode cX12_sheet 76 = .ok (.aload_n 0, 1) := by decide +kernel
theorem dX12_sheet_77 : decode cX12_sheet 77 = .ok (.getfield 31, 3) := by decide +kernel
theorem dX12_sheet_80 : decode cX12_sheet 80 = .ok (.iload_n 1, 1) := by decide +kernel
theorem dX12_sheet_81 : decode cX12_sheet 81 = .ok (.iload_n 2, 1) := by decide +kernel
theorem dX12_sheet_82 : decode cX12_sheet 82 = .ok (.ifCond .ne 7, 3) := by decide +kernel
theorem dX12_sheet_85 : decode cX12_sheet 85 = .ok (.iconst 0, 1) := by decide +kernel
theorem dX12_sheet_86 : decode cX12_sheet 86 = .ok (.goto 4, 3) := by decide +kernel
theorem dX12_sheet_89 : decode cX12_sheet 89 = .ok (.iload_n 3, 1) := by decide +kernel
theorem dX12_sheet_90 : decode cX12_sheet 90 = .ok (.iastore, 1) := by decide +kernel
theorem dX12_sheet_91 : decode cX12_sheet 91 = .ok (.iconst 0, 1) := by decide +kernel
theorem dX12_sheet_92 : decode cX12_sheet 92 = .ok (.istore 4, 2) := by decide +kernel
theorem dX12_sheet_94 : decode cX12_sheet 94 = .ok (.iload 4, 2) := by decide +kernel
theorem dX12_sheet_96 : decode cX12_sheet 96 = .ok (.bipush 40, 2) := by decide +kernel
theorem dX12_sheet_98 : decode cX12_sheet 98 = .ok (.if_icmp .ge 22, 3) := by decide +kernel
theorem dX12_sheet_101 : decode cX12_sheet 101 = .ok (.aload_n 0, 1) := by decide +kernel
theorem dX12_sheet_102 : decode cX12_sheet 102 = .ok (.getfield 34, 3) := by decide +kernel
theorem dX12_sheet_105 : decode cX12_sheet 105 = .ok (.bipush 40, 2) := by decide +kernel
theorem dX12_sheet_107 : decode cX12_sheet 107 = .ok (.iload_n 1, 1) := by decide +kernel
theorem dX12_sheet_108 : decode cX12_sheet 108 = .ok (.imul, 1) := by decide +kernel
theorem dX12_sheet_109 : decode cX12_sheet 109 = .ok (.iload 4, 2) := by decide +kernel
theorem dX12_sheet_111 : decode cX12_sheet 111 = .ok (.iadd, 1) := by decide +kernel
theorem dX12_sheet_112 : decode cX12_sheet 112 = .ok (.iconst 0, 1) := by decide +kernel
theorem dX12_sheet_113 : decode cX12_sheet 113 = .ok (.iastore, 1) := by decide +kernel
theorem dX12_sheet_114 : decode cX12_sheet 114 = .ok (.iinc 4 1, 3) := by decide +kernel
theorem dX12_sheet_117 : decode cX12_sheet 117 = .ok (.goto (-23), 3) := by decide +kernel
theorem dX12_sheet_120 : decode cX12_sheet 120 = .ok (.aload_n 0, 1) := by decide +kernel
theorem dX12_sheet_121 : decode cX12_sheet 121 = .ok (.getfield 31, 3) := by decide +kernel
theorem dX12_sheet_124 : decode cX12_sheet 124 = .ok (.iload_n 1, 1) := by decide +kernel
theorem dX12_sheet_125 : decode cX12_sheet 125 = .ok (.iaload, 1) := by decide +kernel
theorem dX12_sheet_126 : decode cX12_sheet 126 = .ok (.ireturn, 1) := by decide +kernel
theorem dX12_write_0 : decode cX12_write 0 = .ok (.iload_n 1, 1) := by decide +kernel
theorem dX12_write_1 : decode cX12_write 1 = .ok (.invokestatic 273, 3) := by decide +kernel
theorem dX12_write_4 : decode cX12_write 4 = .ok (.ifCond .ne 10, 3) := by decide +kernel
theorem dX12_write_7 : decode cX12_write 7 = .ok (.aload_n 0, 1) := by decide +kernel
theorem dX12_write_8 : decode cX12_write 8 = .ok (.ldc 40, 2) := by decide +kernel
theorem dX12_write_10 : decode cX12_write 10 = .ok (.invokevirtual 42, 3) := by decide +kernel
theorem dX12_write_13 : decode cX12_write 13 = .ok (.ireturn, 1) := by decide +kernel
theorem dX12_write_14 : decode cX12_write 14 = .ok (.aload_n 0, 1) := by decide +kernel
theorem dX12_write_15 : decode cX12_write 15 = .ok (.getfield 28, 3) := by decide +kernel
theorem dX12_write_18 : decode cX12_write 18 = .ok (.iload_n 1, 1) := by decide +kernel
theorem dX12_write_19 : decode cX12_write 19 = .ok (.iaload, 1) := by decide +kernel
theorem dX12_write_20 : decode cX12_write 20 = .ok (.ifCond .ge 11, 3) := by decide +kernel
theorem dX12_write_23 : decode cX12_write 23 = .ok (.aload_n 0, 1) := by decide +kernel
theorem dX12_write_24 : decode cX12_write 24 = .ok (.ldc_w 268, 3) := by decide +kernel
theorem dX12_write_27 : decode cX12_write 27 = .ok (.invokevirtual 42, 3) := by decide +kernel
theorem dX12_write_30 : decode cX12_write 30 = .ok (.ireturn, 1) := by decide +kernel
theorem dX12_write_31 : decode cX12_write 31 = .ok (.iload_n 2, 1) := by decide +kernel
theorem dX12_write_32 : decode cX12_write 32 = .ok (.i2l, 1) := by decide +kernel
theorem dX12_write_33 : decode cX12_write 33 = .ok (.lconst 0, 1) := by decide +kernel
theorem dX12_write_34 : decode cX12_write 34 = .ok (.aload_n 0, 1) := by decide +kernel
theorem dX12_write_35 : decode cX12_write 35 = .ok (.getfield 31, 3) := by decide +kernel
theorem dX12_write_38 : decode cX12_write 38 = .ok (.iload_n 1, 1) := by decide +kernel
theorem dX12_write_39 : decode cX12_write 39 = .ok (.iaload, 1) := by decide +kernel
theorem dX12_write_40 : decode cX12_write 40 = .ok (.iconst 1, 1) := by decide +kernel
theorem dX12_write_41 : decode cX12_write 41 = .ok (.isub, 1) := by decide +kernel
theorem dX12_write_42 : decode cX12_write 42 = .ok (.i2l, 1) := by decide +kernel
theorem dX12_write_43 : decode cX12_write 43 = .ok (.invokestatic 52, 3) := by decide +kernel
theorem dX12_write_46 : decode cX12_write 46 = .ok (.ifCond .ne 10, 3) := by decide +kernel
theorem dX12_write_49 : decode cX12_write 49 = .ok (.aload_n 0, 1) := by decide +kernel
theorem dX12_write_50 : decode cX12_write 50 = .ok (.ldc 40, 2) := by decide +kernel
theorem dX12_write_52 : decode cX12_write 52 = .ok (.invokevirtual 42, 3) := by decide +kernel
theorem dX12_write_55 : decode cX12_write 55 = .ok (.ireturn, 1) := by decide +kernel
theorem dX12_write_56 : decode cX12_write 56 = .ok (.aload_n 0, 1) := by decide +kernel
theorem dX12_write_57 : decode cX12_write 57 = .ok (.getfield 34, 3) := by decide +kernel
theorem dX12_write_60 : decode cX12_write 60 = .ok (.bipush 40, 2) := by decide +kernel
theorem dX12_write_62 : decode cX12_write 62 = .ok (.iload_n 1, 1) := by decide +kernel
theorem dX12_write_63 : decode cX12_write 63 = .ok (.imul, 1) := by decide +kernel
theorem dX12_write_64 : decode cX12_write 64 = .ok (.iload_n 2, 1) := by decide +kernel
theorem dX12_write_65 : decode cX12_write 65 = .ok (.iadd, 1) := by decide +kernel
theorem dX12_write_66 : decode cX12_write 66 = .ok (.aload_n 0, 1) := by decide +kernel
theorem dX12_write_67 : decode cX12_write 67 = .ok (.getfield 28, 3) := by decide +kernel
theorem dX12_write_70 : decode cX12_write 70 = .ok (.iload_n 1, 1) := by decide +kernel
theorem dX12_write_71 : decode cX12_write 71 = .ok (.iaload, 1) := by decide +kernel
theorem dX12_write_72 : decode cX12_write 72 = .ok (.bipush 8, 2) := by decide +kernel
theorem dX12_write_74 : decode cX12_write 74 = .ok (.if_icmp .ne 8, 3) := by decide +kernel
theorem dX12_write_77 : decode cX12_write 77 = .ok (.iload_n 3, 1) := by decide +kernel
theorem dX12_write_78 : decode cX12_write 78 = .ok (.i2b, 1) := by decide +kernel
theorem dX12_write_79 : decode cX12_write 79 = .ok (.goto 20, 3) := by decide +kernel
theorem dX12_write_82 : decode cX12_write 82 = .ok (.aload_n 0, 1) := by decide +kernel
theorem dX12_write_83 : decode cX12_write 83 = .ok (.getfield 28, 3) := by decide +kernel
theorem dX12_write_86 : decode cX12_write 86 = .ok (.iload_n 1, 1) := by decide +kernel
theorem dX12_write_87 : decode cX12_write 87 = .ok (.iaload, 1) := by decide +kernel
theorem dX12_write_88 : decode cX12_write 88 = .ok (.bipush 16, 2) := by decide +kernel
theorem dX12_write_90 : decode cX12_write 90 = .ok (.if_icmp .ne 8, 3) := by decide +kernel
theorem dX12_write_93 : decode cX12_write 93 = .ok (.iload_n 3, 1) := by decide +kernel
theorem dX12_write_94 : decode cX12_write 94 = .ok (.i2s, 1) := by decide +kernel
theorem dX12_write_95 : decode cX12_write 95 = .ok (.goto 4, 3) := by decide +kernel
theorem dX12_write_98 : decode cX12_write 98 = .ok (.iload_n 3, 1) := by decide +kernel
theorem dX12_write_99 : decode cX12_write 99 = .ok (.iastore, 1) := by decide +kernel
theorem dX12_write_100 : decode cX12_write 100 = .ok (.iconst 1, 1) := by decide +kernel
theorem dX12_write_101 : decode cX12_write 101 = .ok (.ireturn, 1) := by decide +kernel
theorem dX12_copy_0 : decode cX12_copy 0 = .ok (.iload_n 1, 1) := by decide +kernel
theorem dX12_copy_1 : decode cX12_copy 1 = .ok (.invokestatic 273, 3) := by decide +kernel
theorem dX12_copy_4 : decode cX12_copy 4 = .ok (.ifCond .eq 10, 3) := by decide +kernel
theorem dX12_copy_7 : decode cX12_copy 7 = .ok (.iload_n 3, 1) := by decide +kernel
theorem dX12_copy_8 : decode cX12_copy 8 = .ok (.invokestatic 273, 3) := by decide +kernel
theorem dX12_copy_11 : decode cX12_copy 11 = .ok (.ifCond .ne 10, 3) := by decide +kernel
theorem dX12_copy_14 : decode cX12_copy 14 = .ok (.aload_n 0, 1) := by decide +kernel
theorem dX12_copy_15 : decode cX12_copy 15 = .ok (.ldc 40, 2) := by decide +kernel
theorem dX12_copy_17 : decode cX12_copy 17 = .ok (.invokevirtual 42, 3) := by decide +kernel
theorem dX12_copy_20 : decode cX12_copy 20 = .ok (.ireturn, 1) := by decide +kernel
theorem dX12_copy_21 : decode cX12_copy 21 = .ok (.aload_n 0, 1) := by decide +kernel
theorem dX12_copy_22 : decode cX12_copy 22 = .ok (.getfield 28, 3) := by decide +kernel
theorem dX12_copy_25 : decode cX12_copy 25 = .ok (.iload_n 1, 1) := by decide +kernel
theorem dX12_copy_26 : decode cX12_copy 26 = .ok (.iaload, 1) := by decide +kernel
theorem dX12_copy_27 : decode cX12_copy 27 = .ok (.ifCond .lt 12, 3) := by decide +kernel
theorem dX12_copy_30 : decode cX12_copy 30 = .ok (.aload_n 0, 1) := by decide +kernel
theorem dX12_copy_31 : decode cX12_copy 31 = .ok (.getfield 28, 3) := by decide +kernel
theorem dX12_copy_34 : decode cX12_copy 34 = .ok (.iload_n 3, 1) := by decide +kernel
theorem dX12_copy_35 : decode cX12_copy 35 = .ok (.iaload, 1) := by decide +kernel
theorem dX12_copy_36 : decode cX12_copy 36 = .ok (.ifCond .ge 11, 3) := by decide +kernel
theorem dX12_copy_39 : decode cX12_copy 39 = .ok (.aload_n 0, 1) := by decide +kernel
theorem dX12_copy_40 : decode cX12_copy 40 = .ok (.ldc_w 268, 3) := by decide +kernel
theorem dX12_copy_43 : decode cX12_copy 43 = .ok (.invokevirtual 42, 3) := by decide +kernel
theorem dX12_copy_46 : decode cX12_copy 46 = .ok (.ireturn, 1) := by decide +kernel
theorem dX12_copy_47 : decode cX12_copy 47 = .ok (.aload_n 0, 1) := by decide +kernel
theorem dX12_copy_48 : decode cX12_copy 48 = .ok (.getfield 28, 3) := by decide +kernel
theorem dX12_copy_51 : decode cX12_copy 51 = .ok (.iload_n 1, 1) := by decide +kernel
theorem dX12_copy_52 : decode cX12_copy 52 = .ok (.iaload, 1) := by decide +kernel
theorem dX12_copy_53 : decode cX12_copy 53 = .ok (.aload_n 0, 1) := by decide +kernel
theorem dX12_copy_54 : decode cX12_copy 54 = .ok (.getfield 28, 3) := by decide +kernel
theorem dX12_copy_57 : decode cX12_copy 57 = .ok (.iload_n 3, 1) := by decide +kernel
theorem dX12_copy_58 : decode cX12_copy 58 = .ok (.iaload, 1) := by decide +kernel
theorem dX12_copy_59 : decode cX12_copy 59 = .ok (.if_icmp .eq 11, 3) := by decide +kernel
theorem dX12_copy_62 : decode cX12_copy 62 = .ok (.aload_n 0, 1) := by decide +kernel
theorem dX12_copy_63 : decode cX12_copy 63 = .ok (.ldc_w 272, 3) := by decide +kernel
theorem dX12_copy_66 : decode cX12_copy 66 = .ok (.invokevirtual 42, 3) := by decide +kernel
theorem dX12_copy_69 : decode cX12_copy 69 = .ok (.ireturn, 1) := by decide +kernel
theorem dX12_copy_70 : decode cX12_copy 70 = .ok (.iload_n 2, 1) := by decide +kernel
theorem dX12_copy_71 : decode cX12_copy 71 = .ok (.ifCond .lt 40, 3) := by decide +kernel
theorem dX12_copy_74 : decode cX12_copy 74 = .ok (.iload 4, 2) := by decide +kernel
theorem dX12_copy_76 : decode cX12_copy 76 = .ok (.ifCond .lt 35, 3) := by decide +kernel
theorem dX12_copy_79 : decode cX12_copy 79 = .ok (.iload 5, 2) := by decide +kernel
theorem dX12_copy_81 : decode cX12_copy 81 = .ok (.ifCond .lt 30, 3) := by decide +kernel
theorem dX12_copy_84 : decode cX12_copy 84 = .ok (.iload 5, 2) := by decide +kernel
theorem dX12_copy_86 : decode cX12_copy 86 = .ok (.aload_n 0, 1) := by decide +kernel
theorem dX12_copy_87 : decode cX12_copy 87 = .ok (.getfield 31, 3) := by decide +kernel
theorem dX12_copy_90 : decode cX12_copy 90 = .ok (.iload_n 1, 1) := by decide +kernel
theorem dX12_copy_91 : decode cX12_copy 91 = .ok (.iaload, 1) := by decide +kernel
theorem dX12_copy_92 : decode cX12_copy 92 = .ok (.iload_n 2, 1) := by decide +kernel
theorem dX12_copy_93 : decode cX12_copy 93 = .ok (.isub, 1) := by decide +kernel
theorem dX12_copy_94 : decode cX12_copy 94 = .ok (.if_icmp .gt 17, 3) := by decide +kernel
theorem dX12_copy_97 : decode cX12_copy 97 = .ok (.iload 5, 2) := by decide +kernel
theorem dX12_copy_99 : decode cX12_copy 99 = .ok (.aload_n 0, 1) := by decide +kernel
theorem dX12_copy_100 : decode cX12_copy 100 = .ok (.getfield 31, 3) := by decide +kernel
theorem dX12_copy_103 : decode cX12_copy 103 = .ok (.iload_n 3, 1) := by decide +kernel
theorem dX12_copy_104 : decode cX12_copy 104 = .ok (.iaload, 1) := by decide +kernel
theorem dX12_copy_105 : decode cX12_copy 105 = .ok (.iload 4, 2) := by decide +kernel
theorem dX12_copy_107 : decode cX12_copy 107 = .ok (.isub, 1) := by decide +kernel
theorem dX12_copy_108 : decode cX12_copy 108 = .ok (.if_icmp .le 10, 3) := by decide +kernel
theorem dX12_copy_111 : decode cX12_copy 111 = .ok (.aload_n 0, 1) := by decide +kernel
theorem dX12_copy_112 : decode cX12_copy 112 = .ok (.ldc 40, 2) := by decide +kernel
theorem dX12_copy_114 : decode cX12_copy 114 = .ok (.invokevirtual 42, 3) := by decide +kernel
theorem dX12_copy_117 : decode cX12_copy 117 = .ok (.ireturn, 1) := by decide +kernel
theorem dX12_copy_118 : decode cX12_copy 118 = .ok (.bipush 40, 2) := by decide +kernel
theorem dX12_copy_120 : decode cX12_copy 120 = .ok (.iload_n 1, 1) := by decide +kernel
theorem dX12_copy_121 : decode cX12_copy 121 = .ok (.imul, 1) := by decide +kernel
theorem dX12_copy_122 : decode cX12_copy 122 = .ok (.iload_n 2, 1) := by decide +kernel
theorem dX12_copy_123 : decode cX12_copy 123 = .ok (.iadd, 1) := by decide +kernel
theorem dX12_copy_124 : decode cX12_copy 124 = .ok (.istore 6, 2) := by decide +kernel
theorem dX12_copy_126 : decode cX12_copy 126 = .ok (.bipush 40, 2) := by decide +kernel
theorem dX12_copy_128 : decode cX12_copy 128 = .ok (.iload_n 3, 1) := by decide +kernel
theorem dX12_copy_129 : decode cX12_copy 129 = .ok (.imul, 1) := by decide +kernel
theorem dX12_copy_130 : decode cX12_copy 130 = .ok (.iload 4, 2) := by decide +kernel
theorem dX12_copy_132 : decode cX12_copy 132 = .ok (.iadd, 1) := by decide +kernel
theorem dX12_copy_133 : decode cX12_copy 133 = .ok (.istore 7, 2) := by decide +kernel
theorem dX12_copy_135 : decode cX12_copy 135 = .ok (.iconst 0, 1) := by decide +kernel
theorem dX12_copy_136 : decode cX12_copy 136 = .ok (.istore 8, 2) := by decide +kernel
theorem dX12_copy_138 : decode cX12_copy 138 = .ok (.iload 8, 2) := by decide +kernel
theorem dX12_copy_140 : decode cX12_copy 140 = .ok (.iload 5, 2) := by decide +kernel
theorem dX12_copy_142 : decode cX12_copy 142 = .ok (.if_icmp .ge 50, 3) := by decide +kernel
theorem dX12_copy_145 : decode cX12_copy 145 = .ok (.iload 6, 2) := by decide +kernel
theorem dX12_copy_147 : decode cX12_copy 147 = .ok (.iload 7, 2) := by decide +kernel
theorem dX12_copy_149 : decode cX12_copy 149 = .ok (.if_icmp .ge 13, 3) := by decide +kernel
theorem dX12_copy_152 : decode cX12_copy 152 = .ok (.iload 5, 2) := by decide +kernel
theorem dX12_copy_154 : decode cX12_copy 154 = .ok (.iconst 1, 1) := by decide +kernel
theorem dX12_copy_155 : decode cX12_copy 155 = .ok (.isub, 1) := by decide +kernel
theorem dX12_copy_156 : decode cX12_copy 156 = .ok (.iload 8, 2) := by decide +kernel
theorem dX12_copy_158 : decode cX12_copy 158 = .ok (.isub, 1) := by decide +kernel
theorem dX12_copy_159 : decode cX12_copy 159 = .ok (.goto 5, 3) := by decide +kernel
theorem dX12_copy_162 : decode cX12_copy 162 = .ok (.iload 8, 2) := by decide +kernel
theorem dX12_copy_164 : decode cX12_copy 164 = .ok (.istore 9, 2) := by decide +kernel
theorem dX12_copy_166 : decode cX12_copy 166 = .ok (.aload_n 0, 1) := by decide +kernel
theorem dX12_copy_167 : decode cX12_copy 167 = .ok (.getfield 34, 3) := by decide +kernel
theorem dX12_copy_170 : decode cX12_copy 170 = .ok (.iload 7, 2) := by decide +kernel
theorem dX12_copy_172 : decode cX12_copy 172 = .ok (.iload 9, 2) := by decide +kernel
theorem dX12_copy_174 : decode cX12_copy 174 = .ok (.iadd, 1) := by decide +kernel
theorem dX12_copy_175 : decode cX12_copy 175 = .ok (.aload_n 0, 1) := by decide +kernel
theorem dX12_copy_176 : decode cX12_copy 176 = .ok (.getfield 34, 3) := by decide +kernel
theorem dX12_copy_179 : decode cX12_copy 179 = .ok (.iload 6, 2) := by decide +kernel
theorem dX12_copy_181 : decode cX12_copy 181 = .ok (.iload 9, 2) := by decide +kernel
theorem dX12_copy_183 : decode cX12_copy 183 = .ok (.iadd, 1) := by decide +kernel
theorem dX12_copy_184 : decode cX12_copy 184 = .ok (.iaload, 1) := by decide +kernel
theorem dX12_copy_185 : decode cX12_copy 185 = .ok (.iastore, 1) := by decide +kernel
theorem dX12_copy_186 : decode cX12_copy 186 = .ok (.iinc 8 1, 3) := by decide +kernel
theorem dX12_copy_189 : decode cX12_copy 189 = .ok (.goto (-51), 3) := by decide +kernel
theorem dX12_copy_192 : decode cX12_copy 192 = .ok (.iload 5, 2) := by decide +kernel
theorem dX12_copy_194 : decode cX12_copy 194 = .ok (.ireturn, 1) := by decide +kernel
theorem dX12_wants_0 : decode cX12_wants 0 = .ok (.iload_n 1, 1) := by decide +kernel
theorem dX12_wants_1 : decode cX12_wants 1 = .ok (.invokestatic 273, 3) := by decide +kernel
theorem dX12_wants_4 : decode cX12_wants 4 = .ok (.ifCond .ne 8, 3) := by decide +kernel
theorem dX12_wants_7 : decode cX12_wants 7 = .ok (.ldc 40, 2) := by decide +kernel
theorem dX12_wants_9 : decode cX12_wants 9 = .ok (.goto 19, 3) := by decide +kernel
theorem dX12_wants_12 : decode cX12_wants 12 = .ok (.aload_n 0, 1) := by decide +kernel
theorem dX12_wants_13 : decode cX12_wants 13 = .ok (.getfield 28, 3) := by decide +kernel
theorem dX12_wants_16 : decode cX12_wants 16 = .ok (.iload_n 1, 1) := by decide +kernel
theorem dX12_wants_17 : decode cX12_wants 17 = .ok (.iaload, 1) := by decide +kernel
theorem dX12_wants_18 : decode cX12_wants 18 = .ok (.ifCond .ge 9, 3) := by decide +kernel
theorem dX12_wants_21 : decode cX12_wants 21 = .ok (.ldc_w 268, 3) := by decide +kernel
theorem dX12_wants_24 : decode cX12_wants 24 = .ok (.goto 4, 3) := by decide +kernel
theorem dX12_wants_27 : decode cX12_wants 27 = .ok (.iconst 0, 1) := by decide +kernel
theorem dX12_wants_28 : decode cX12_wants 28 = .ok (.ireturn, 1) := by decide +kernel
theorem dX12_load_0 : decode cX12_load 0 = .ok (.aload_n 0, 1) := by decide +kernel
theorem dX12_load_1 : decode cX12_load 1 = .ok (.iload_n 1, 1) := by decide +kernel
theorem dX12_load_2 : decode cX12_load 2 = .ok (.invokevirtual 178, 3) := by decide +kernel
theorem dX12_load_5 : decode cX12_load 5 = .ok (.ifCond .eq 13, 3) := by decide +kernel
theorem dX12_load_8 : decode cX12_load 8 = .ok (.aload_n 0, 1) := by decide +kernel
theorem dX12_load_9 : decode cX12_load 9 = .ok (.aload_n 0, 1) := by decide +kernel
theorem dX12_load_10 : decode cX12_load 10 = .ok (.iload_n 1, 1) := by decide +kernel
theorem dX12_load_11 : decode cX12_load 11 = .ok (.invokevirtual 178, 3) := by decide +kernel
theorem dX12_load_14 : decode cX12_load 14 = .ok (.invokevirtual 42, 3) := by decide +kernel
theorem dX12_load_17 : decode cX12_load 17 = .ok (.ireturn, 1) := by decide +kernel
theorem dX12_load_18 : decode cX12_load 18 = .ok (.iconst 0, 1) := by decide +kernel
theorem dX12_load_19 : decode cX12_load 19 = .ok (.istore_n 2, 1) := by decide +kernel
theorem dX12_load_20 : decode cX12_load 20 = .ok (.iload_n 2, 1) := by decide +kernel
theorem dX12_load_21 : decode cX12_load 21 = .ok (.aload_n 0, 1) := by decide +kernel
theorem dX12_load_22 : decode cX12_load 22 = .ok (.getfield 31, 3) := by decide +kernel
theorem dX12_load_25 : decode cX12_load 25 = .ok (.iload_n 1, 1) := by decide +kernel
theorem dX12_load_26 : decode cX12_load 26 = .ok (.iaload, 1) := by decide +kernel
theorem dX12_load_27 : decode cX12_load 27 = .ok (.if_icmp .ge 60, 3) := by decide +kernel
theorem dX12_load_30 : decode cX12_load 30 = .ok (.aload_n 0, 1) := by decide +kernel
theorem dX12_load_31 : decode cX12_load 31 = .ok (.iload_n 2, 1) := by decide +kernel
theorem dX12_load_32 : decode cX12_load 32 = .ok (.invokevirtual 77, 3) := by decide +kernel
theorem dX12_load_35 : decode cX12_load 35 = .ok (.ifCond .eq 52, 3) := by decide +kernel
theorem dX12_load_38 : decode cX12_load 38 = .ok (.aload_n 0, 1) := by decide +kernel
theorem dX12_load_39 : decode cX12_load 39 = .ok (.getfield 34, 3) := by decide +kernel
theorem dX12_load_42 : decode cX12_load 42 = .ok (.bipush 40, 2) := by decide +kernel
theorem dX12_load_44 : decode cX12_load 44 = .ok (.iload_n 1, 1) := by decide +kernel
theorem dX12_load_45 : decode cX12_load 45 = .ok (.imul, 1) := by decide +kernel
theorem dX12_load_46 : decode cX12_load 46 = .ok (.iload_n 2, 1) := by decide +kernel
theorem dX12_load_47 : decode cX12_load 47 = .ok (.iadd, 1) := by decide +kernel
theorem dX12_load_48 : decode cX12_load 48 = .ok (.iaload, 1) := by decide +kernel
theorem dX12_load_49 : decode cX12_load 49 = .ok (.i2l, 1) := by decide +kernel
theorem dX12_load_50 : decode cX12_load 50 = .ok (.lconst 0, 1) := by decide +kernel
theorem dX12_load_51 : decode cX12_load 51 = .ok (.ldc2_w 277, 3) := by decide +kernel
theorem dX12_load_54 : decode cX12_load 54 = .ok (.invokestatic 52, 3) := by decide +kernel
theorem dX12_load_57 : decode cX12_load 57 = .ok (.ifCond .eq 30, 3) := by decide +kernel
theorem dX12_load_60 : decode cX12_load 60 = .ok (.aload_n 0, 1) := by decide +kernel
theorem dX12_load_61 : decode cX12_load 61 = .ok (.getfield 7, 3) := by decide +kernel
theorem dX12_load_64 : decode cX12_load 64 = .ok (.iload_n 2, 1) := by decide +kernel
theorem dX12_load_65 : decode cX12_load 65 = .ok (.iconst 3, 1) := by decide +kernel
theorem dX12_load_66 : decode cX12_load 66 = .ok (.invokestatic 67, 3) := by decide +kernel
theorem dX12_load_69 : decode cX12_load 69 = .ok (.aload_n 0, 1) := by decide +kernel
theorem dX12_load_70 : decode cX12_load 70 = .ok (.getfield 34, 3) := by decide +kernel
theorem dX12_load_73 : decode cX12_load 73 = .ok (.bipush 40, 2) := by decide +kernel
theorem dX12_load_75 : decode cX12_load 75 = .ok (.iload_n 1, 1) := by decide +kernel
theorem dX12_load_76 : decode cX12_load 76 = .ok (.imul, 1) := by decide +kernel
theorem dX12_load_77 : decode cX12_load 77 = .ok (.iload_n 2, 1) := by decide +kernel
theorem dX12_load_78 : decode cX12_load 78 = .ok (.iadd, 1) := by decide +kernel
theorem dX12_load_79 : decode cX12_load 79 = .ok (.iaload, 1) := by decide +kernel
theorem dX12_load_80 : decode cX12_load 80 = .ok (.iastore, 1) := by decide +kernel
theorem dX12_load_81 : decode cX12_load 81 = .ok (.iinc 2 1, 3) := by decide +kernel
theorem dX12_load_84 : decode cX12_load 84 = .ok (.goto (-64), 3) := by decide +kernel
theorem dX12_load_87 : decode cX12_load 87 = .ok (.iload_n 2, 1) := by decide +kernel
theorem dX12_load_88 : decode cX12_load 88 = .ok (.ireturn, 1) := by decide +kernel
theorem dX12_judge_0 : decode cX12_judge 0 = .ok (.aload_n 0, 1) := by decide +kernel
theorem dX12_judge_1 : decode cX12_judge 1 = .ok (.iload_n 1, 1) := by decide +kernel
theorem dX12_judge_2 : decode cX12_judge 2 = .ok (.invokevirtual 178, 3) := by decide +kernel
theorem dX12_judge_5 : decode cX12_judge 5 = .ok (.ifCond .eq 13, 3) := by decide +kernel
theorem dX12_judge_8 : decode cX12_judge 8 = .ok (.aload_n 0, 1) := by decide +kernel
theorem dX12_judge_9 : decode cX12_judge 9 = .ok (.aload_n 0, 1) := by decide +kernel
theorem dX12_judge_10 : decode cX12_judge 10 = .ok (.iload_n 1, 1) := by decide +kernel
theorem dX12_judge_11 : decode cX12_judge 11 = .ok (.invokevirtual 178, 3) := by decide +kernel
theorem dX12_judge_14 : decode cX12_judge 14 = .ok (.invokevirtual 42, 3) := by decide +kernel
theorem dX12_judge_17 : decode cX12_judge 17 = .ok (.ireturn, 1) := by decide +kernel
theorem dX12_judge_18 : decode cX12_judge 18 = .ok (.iconst 0, 1) := by decide +kernel
theorem dX12_judge_19 : decode cX12_judge 19 = .ok (.istore_n 2, 1) := by decide +kernel
theorem dX12_judge_20 : decode cX12_judge 20 = .ok (.iload_n 2, 1) := by decide +kernel
theorem dX12_judge_21 : decode cX12_judge 21 = .ok (.aload_n 0, 1) := by decide +kernel
theorem dX12_judge_22 : decode cX12_judge 22 = .ok (.getfield 31, 3) := by decide +kernel
theorem dX12_judge_25 : decode cX12_judge 25 = .ok (.iload_n 1, 1) := by decide +kernel
theorem dX12_judge_26 : decode cX12_judge 26 = .ok (.iaload, 1) := by decide +kernel
theorem dX12_judge_27 : decode cX12_judge 27 = .ok (.if_icmp .ge 37, 3) := by decide +kernel
theorem dX12_judge_30 : decode cX12_judge 30 = .ok (.iload_n 2, 1) := by decide +kernel
theorem dX12_judge_31 : decode cX12_judge 31 = .ok (.bipush 25, 2) := by decide +kernel
theorem dX12_judge_33 : decode cX12_judge 33 = .ok (.if_icmp .ge 31, 3) := by decide +kernel
theorem dX12_judge_36 : decode cX12_judge 36 = .ok (.aload_n 0, 1) := by decide +kernel
theorem dX12_judge_37 : decode cX12_judge 37 = .ok (.getfield 34, 3) := by decide +kernel
theorem dX12_judge_40 : decode cX12_judge 40 = .ok (.bipush 40, 2) := by decide +kernel
theorem dX12_judge_42 : decode cX12_judge 42 = .ok (.iload_n 1, 1) := by decide +kernel
theorem dX12_judge_43 : decode cX12_judge 43 = .ok (.imul, 1) := by decide +kernel
theorem dX12_judge_44 : decode cX12_judge 44 = .ok (.iload_n 2, 1) := by decide +kernel
theorem dX12_judge_45 : decode cX12_judge 45 = .ok (.iadd, 1) := by decide +kernel
theorem dX12_judge_46 : decode cX12_judge 46 = .ok (.iaload, 1) := by decide +kernel
theorem dX12_judge_47 : decode cX12_judge 47 = .ok (.aload_n 0, 1) := by decide +kernel
theorem dX12_judge_48 : decode cX12_judge 48 = .ok (.getfield 7, 3) := by decide +kernel
theorem dX12_judge_51 : decode cX12_judge 51 = .ok (.iconst 5, 1) := by decide +kernel
theorem dX12_judge_52 : decode cX12_judge 52 = .ok (.iload_n 2, 1) := by decide +kernel
theorem dX12_judge_53 : decode cX12_judge 53 = .ok (.iadd, 1) := by decide +kernel
theorem dX12_judge_54 : decode cX12_judge 54 = .ok (.iaload, 1) := by decide +kernel
theorem dX12_judge_55 : decode cX12_judge 55 = .ok (.if_icmp .ne 9, 3) := by decide +kernel
theorem dX12_judge_58 : decode cX12_judge 58 = .ok (.iinc 2 1, 3) := by decide +kernel
theorem dX12_judge_61 : decode cX12_judge 61 = .ok (.goto (-41), 3) := by decide +kernel
theorem dX12_judge_64 : decode cX12_judge 64 = .ok (.iload_n 2, 1) := by decide +kernel
theorem dX12_judge_65 : decode cX12_judge 65 = .ok (.aload_n 0, 1) := by decide +kernel
theorem dX12_judge_66 : decode cX12_judge 66 = .ok (.getfield 31, 3) := by decide +kernel
theorem dX12_judge_69 : decode cX12_judge 69 = .ok (.iload_n 1, 1) := by decide +kernel
theorem dX12_judge_70 : decode cX12_judge 70 = .ok (.iaload, 1) := by decide +kernel
theorem dX12_judge_71 : decode cX12_judge 71 = .ok (.if_icmp .ge 9, 3) := by decide +kernel
theorem dX12_judge_74 : decode cX12_judge 74 = .ok (.iconst 1, 1) := by decide +kernel
theorem dX12_judge_75 : decode cX12_judge 75 = .ok (.iload_n 2, 1) := by decide +kernel
theorem dX12_judge_76 : decode cX12_judge 76 = .ok (.iadd, 1) := by decide +kernel
theorem dX12_judge_77 : decode cX12_judge 77 = .ok (.goto 4, 3) := by decide +kernel
theorem dX12_judge_80 : decode cX12_judge 80 = .ok (.iconst 0, 1) := by decide +kernel
theorem dX12_judge_81 : decode cX12_judge 81 = .ok (.ireturn, 1) := by decide +kernel
theorem dX12_image_0 : decode cX12_image 0 = .ok (.aload_n 0, 1) := by decide +kernel
theorem dX12_image_1 : decode cX12_image 1 = .ok (.getfield 7, 3) := by decide +kernel
theorem dX12_image_4 : decode cX12_image 4 = .ok (.aload_n 0, 1) := by decide +kernel
theorem dX12_image_5 : decode cX12_image 5 = .ok (.getfield 13, 3) := by decide +kernel
theorem dX12_image_8 : decode cX12_image 8 = .ok (.invokestatic 146, 3) := by decide +kernel
theorem dX12_image_11 : decode cX12_image 11 = .ok (.aload_n 0, 1) := by decide +kernel
theorem dX12_image_12 : decode cX12_image 12 = .ok (.iconst 1, 1) := by decide +kernel
theorem dX12_image_13 : decode cX12_image 13 = .ok (.putfield 279, 3) := by decide +kernel
theorem dX12_image_16 : decode cX12_image 16 = .ok (.iconst 1, 1) := by decide +kernel
theorem dX12_image_17 : decode cX12_image 17 = .ok (.ireturn, 1) := by decide +kernel
theorem dX12_undo_0 : decode cX12_undo 0 = .ok (.aload_n 0, 1) := by decide +kernel
theorem dX12_undo_1 : decode cX12_undo 1 = .ok (.getfield 279, 3) := by decide +kernel
theorem dX12_undo_4 : decode cX12_undo 4 = .ok (.ifCond .ne 10, 3) := by decide +kernel
theorem dX12_undo_7 : decode cX12_undo 7 = .ok (.aload_n 0, 1) := by decide +kernel
theorem dX12_undo_8 : decode cX12_undo 8 = .ok (.ldc 41, 2) := by decide +kernel
theorem dX12_undo_10 : decode cX12_undo 10 = .ok (.invokevirtual 42, 3) := by decide +kernel
theorem dX12_undo_13 : decode cX12_undo 13 = .ok (.ireturn, 1) := by decide +kernel
theorem dX12_undo_14 : decode cX12_undo 14 = .ok (.aload_n 0, 1) := by decide +kernel
theorem dX12_undo_15 : decode cX12_undo 15 = .ok (.getfield 13, 3) := by decide +kernel
theorem dX12_undo_18 : decode cX12_undo 18 = .ok (.aload_n 0, 1) := by decide +kernel
theorem dX12_undo_19 : decode cX12_undo 19 = .ok (.getfield 7, 3) := by decide +kernel
theorem dX12_undo_22 : decode cX12_undo 22 = .ok (.invokestatic 146, 3) := by decide +kernel
theorem dX12_undo_25 : decode cX12_undo 25 = .ok (.aload_n 0, 1) := by decide +kernel
theorem dX12_undo_26 : decode cX12_undo 26 = .ok (.getfield 7, 3) := by decide +kernel
theorem dX12_undo_29 : decode cX12_undo 29 = .ok (.iconst 1, 1) := by decide +kernel
theorem dX12_undo_30 : decode cX12_undo 30 = .ok (.iaload, 1) := by decide +kernel
theorem dX12_undo_31 : decode cX12_undo 31 = .ok (.ireturn, 1) := by decide +kernel
theorem dX12_tear_0 : decode cX12_tear 0 = .ok (.aload_n 0, 1) := by decide +kernel
theorem dX12_tear_1 : decode cX12_tear 1 = .ok (.getfield 279, 3) := by decide +kernel
theorem dX12_tear_4 : decode cX12_tear 4 = .ok (.istore_n 1, 1) := by decide +kernel
theorem dX12_tear_5 : decode cX12_tear 5 = .ok (.aload_n 0, 1) := by decide +kernel
theorem dX12_tear_6 : decode cX12_tear 6 = .ok (.iconst 0, 1) := by decide +kernel
theorem dX12_tear_7 : decode cX12_tear 7 = .ok (.putfield 279, 3) := by decide +kernel
theorem dX12_tear_10 : decode cX12_tear 10 = .ok (.iload_n 1, 1) := by decide +kernel
theorem dX12_tear_11 : decode cX12_tear 11 = .ok (.ifCond .eq 7, 3) := by decide +kernel
theorem dX12_tear_14 : decode cX12_tear 14 = .ok (.iconst 1, 1) := by decide +kernel
theorem dX12_tear_15 : decode cX12_tear 15 = .ok (.goto 4, 3) := by decide +kernel
theorem dX12_tear_18 : decode cX12_tear 18 = .ok (.iconst 0, 1) := by decide +kernel
theorem dX12_tear_19 : decode cX12_tear 19 = .ok (.ireturn, 1) := by decide +kernel
theorem dX12_count_0 : decode cX12_count 0 = .ok (.iconst 0, 1) := by decide +kernel
theorem dX12_count_1 : decode cX12_count 1 = .ok (.istore_n 2, 1) := by decide +kernel
theorem dX12_count_2 : decode cX12_count 2 = .ok (.iload_n 1, 1) := by decide +kernel
theorem dX12_count_3 : decode cX12_count 3 = .ok (.tableswitch 125 0 7 #[45, 52, 59, 65, 72, 77, 82, 89], 45) := by decide +kernel
theorem dX12_count_48 : decode cX12_count 48 = .ok (.aload_n 0, 1) := by decide +kernel
theorem dX12_count_49 : decode cX12_count 49 = .ok (.getfield 7, 3) := by decide +kernel
theorem dX12_count_52 : decode cX12_count 52 = .ok (.iconst 1, 1) := by decide +kernel
theorem dX12_count_53 : decode cX12_count 53 = .ok (.iaload, 1) := by decide +kernel
theorem dX12_count_54 : decode cX12_count 54 = .ok (.ireturn, 1) := by decide +kernel
theorem dX12_count_55 : decode cX12_count 55 = .ok (.aload_n 0, 1) := by decide +kernel
theorem dX12_count_56 : decode cX12_count 56 = .ok (.getfield 7, 3) := by decide +kernel
theorem dX12_count_59 : decode cX12_count 59 = .ok (.iconst 0, 1) := by decide +kernel
theorem dX12_count_60 : decode cX12_count 60 = .ok (.iaload, 1) := by decide +kernel
theorem dX12_count_61 : decode cX12_count 61 = .ok (.ireturn, 1) := by decide +kernel
theorem dX12_count_62 : decode cX12_count 62 = .ok (.aload_n 0, 1) := by decide +kernel
theorem dX12_count_63 : decode cX12_count 63 = .ok (.iconst 5, 1) := by decide +kernel
theorem dX12_count_64 : decode cX12_count 64 = .ok (.invokevirtual 137, 3) := by decide +kernel
theorem dX12_count_67 : decode cX12_count 67 = .ok (.ireturn, 1) := by decide +kernel
theorem dX12_count_68 : decode cX12_count 68 = .ok (.aload_n 0, 1) := by decide +kernel
theorem dX12_count_69 : decode cX12_count 69 = .ok (.getfield 7, 3) := by decide +kernel
theorem dX12_count_72 : decode cX12_count 72 = .ok (.iconst 4, 1) := by decide +kernel
theorem dX12_count_73 : decode cX12_count 73 = .ok (.iaload, 1) := by decide +kernel
theorem dX12_count_74 : decode cX12_count 74 = .ok (.ireturn, 1) := by decide +kernel
theorem dX12_count_75 : decode cX12_count 75 = .ok (.aload_n 0, 1) := by decide +kernel
theorem dX12_count_76 : decode cX12_count 76 = .ok (.invokevirtual 133, 3) := by decide +kernel
theorem dX12_count_79 : decode cX12_count 79 = .ok (.ireturn, 1) := by decide +kernel
theorem dX12_count_80 : decode cX12_count 80 = .ok (.aload_n 0, 1) := by decide +kernel
theorem dX12_count_81 : decode cX12_count 81 = .ok (.getfield 196, 3) := by decide +kernel
theorem dX12_count_84 : decode cX12_count 84 = .ok (.ireturn, 1) := by decide +kernel
theorem dX12_count_85 : decode cX12_count 85 = .ok (.aload_n 0, 1) := by decide +kernel
theorem dX12_count_86 : decode cX12_count 86 = .ok (.getfield 7, 3) := by decide +kernel
theorem dX12_count_89 : decode cX12_count 89 = .ok (.iconst 2, 1) := by decide +kernel
theorem dX12_count_90 : decode cX12_count 90 = .ok (.iaload, 1) := by decide +kernel
theorem dX12_count_91 : decode cX12_count 91 = .ok (.ireturn, 1) := by decide +kernel
theorem dX12_count_92 : decode cX12_count 92 = .ok (.iconst 0, 1) := by decide +kernel
theorem dX12_count_93 : decode cX12_count 93 = .ok (.istore_n 3, 1) := by decide +kernel
theorem dX12_count_94 : decode cX12_count 94 = .ok (.iload_n 3, 1) := by decide +kernel
theorem dX12_count_95 : decode cX12_count 95 = .ok (.bipush 10, 2) := by decide +kernel
theorem dX12_count_97 : decode cX12_count 97 = .ok (.if_icmp .ge 29, 3) := by decide +kernel
theorem dX12_count_100 : decode cX12_count 100 = .ok (.iload_n 2, 1) := by decide +kernel
theorem dX12_count_101 : decode cX12_count 101 = .ok (.aload_n 0, 1) := by decide +kernel
theorem dX12_count_102 : decode cX12_count 102 = .ok (.getfield 7, 3) := by decide +kernel
theorem dX12_count_105 : decode cX12_count 105 = .ok (.bipush 86, 2) := by decide +kernel
theorem dX12_count_107 : decode cX12_count 107 = .ok (.iload_n 3, 1) := by decide +kernel
theorem dX12_count_108 : decode cX12_count 108 = .ok (.iadd, 1) := by decide +kernel
theorem dX12_count_109 : decode cX12_count 109 = .ok (.iaload, 1) := by decide +kernel
theorem dX12_count_110 : decode cX12_count 110 = .ok (.ifCond .ge 7, 3) := by decide +kernel
theorem dX12_count_113 : decode cX12_count 113 = .ok (.iconst 0, 1) := by decide +kernel
theorem dX12_count_114 : decode cX12_count 114 = .ok (.goto 4, 3) := by decide +kernel
theorem dX12_count_117 : decode cX12_count 117 = .ok (.iconst 1, 1) := by decide +kernel
theorem dX12_count_118 : decode cX12_count 118 = .ok (.iadd, 1) := by decide +kernel
theorem dX12_count_119 : decode cX12_count 119 = .ok (.istore_n 2, 1) := by decide +kernel
theorem dX12_count_120 : decode cX12_count 120 = .ok (.iinc 3 1, 3) := by decide +kernel
theorem dX12_count_123 : decode cX12_count 123 = .ok (.goto (-29), 3) := by decide +kernel
theorem dX12_count_126 : decode cX12_count 126 = .ok (.iload_n 2, 1) := by decide +kernel
theorem dX12_count_127 : decode cX12_count 127 = .ok (.ireturn, 1) := by decide +kernel
theorem dX12_count_128 : decode cX12_count 128 = .ok (.aload_n 0, 1) := by decide +kernel
theorem dX12_count_129 : decode cX12_count 129 = .ok (.ldc 40, 2) := by decide +kernel
theorem dX12_count_131 : decode cX12_count 131 = .ok (.invokevirtual 42, 3) := by decide +kernel
theorem dX12_count_134 : decode cX12_count 134 = .ok (.ireturn, 1) := by decide +kernel
theorem dX12_status_0 : decode cX12_status 0 = .ok (.iload_n 1, 1) := by decide +kernel
theorem dX12_status_1 : decode cX12_status 1 = .ok (.i2l, 1) := by decide +kernel
theorem dX12_status_2 : decode cX12_status 2 = .ok (.ldc2_w 283, 3) := by decide +kernel
theorem dX12_status_5 : decode cX12_status 5 = .ok (.ldc2_w 70, 3) := by decide +kernel
theorem dX12_status_8 : decode cX12_status 8 = .ok (.invokestatic 52, 3) := by decide +kernel
theorem dX12_status_11 : decode cX12_status 11 = .ok (.ifCond .eq 14, 3) := by decide +kernel
theorem dX12_status_14 : decode cX12_status 14 = .ok (.aload_n 0, 1) := by decide +kernel
theorem dX12_status_15 : decode cX12_status 15 = .ok (.getfield 22, 3) := by decide +kernel
theorem dX12_status_18 : decode cX12_status 18 = .ok (.iload_n 1, 1) := by decide +kernel
theorem dX12_status_19 : decode cX12_status 19 = .ok (.iconst 1, 1) := by decide +kernel
theorem dX12_status_20 : decode cX12_status 20 = .ok (.iadd, 1) := by decide +kernel
theorem dX12_status_21 : decode cX12_status 21 = .ok (.iaload, 1) := by decide +kernel
theorem dX12_status_22 : decode cX12_status 22 = .ok (.goto 9, 3) := by decide +kernel
theorem dX12_status_25 : decode cX12_status 25 = .ok (.aload_n 0, 1) := by decide +kernel
theorem dX12_status_26 : decode cX12_status 26 = .ok (.ldc 40, 2) := by decide +kernel
theorem dX12_status_28 : decode cX12_status 28 = .ok (.invokevirtual 42, 3) := by decide +kernel
theorem dX12_status_31 : decode cX12_status 31 = .ok (.ireturn, 1) := by decide +kernel
end
section
theorem dJ6_bitCount_0f7a4_0 : decode cJ6_bitCount_0f7a4 0 = .ok (.iload_n 0, 1) := by decide +kernel
theorem dJ6_bitCount_0f7a4_1 : decode cJ6_bitCount_0f7a4 1 = .ok (.iload_n 0, 1) := by decide +kernel
theorem dJ6_bitCount_0f7a4_2 : decode cJ6_bitCount_0f7a4 2 = .ok (.iconst 1, 1) := by decide +kernel
theorem dJ6_bitCount_0f7a4_3 : decode cJ6_bitCount_0f7a4 3 = .ok (.iushr, 1) := by decide +kernel
theorem dJ6_bitCount_0f7a4_4 : decode cJ6_bitCount_0f7a4 4 = .ok (.ldc_w 265, 3) := by decide +kernel
theorem dJ6_bitCount_0f7a4_7 : decode cJ6_bitCount_0f7a4 7 = .ok (.iand, 1) := by decide +kernel
theorem dJ6_bitCount_0f7a4_8 : decode cJ6_bitCount_0f7a4 8 = .ok (.isub, 1) := by decide +kernel
theorem dJ6_bitCount_0f7a4_9 : decode cJ6_bitCount_0f7a4 9 = .ok (.istore_n 0, 1) := by decide +kernel
theorem dJ6_bitCount_0f7a4_10 : decode cJ6_bitCount_0f7a4 10 = .ok (.iload_n 0, 1) := by decide +kernel
theorem dJ6_bitCount_0f7a4_11 : decode cJ6_bitCount_0f7a4 11 = .ok (.ldc_w 266, 3) := by decide +kernel
theorem dJ6_bitCount_0f7a4_14 : decode cJ6_bitCount_0f7a4 14 = .ok (.iand, 1) := by decide +kernel
theorem dJ6_bitCount_0f7a4_15 : decode cJ6_bitCount_0f7a4 15 = .ok (.iload_n 0, 1) := by decide +kernel
theorem dJ6_bitCount_0f7a4_16 : decode cJ6_bitCount_0f7a4 16 = .ok (.iconst 2, 1) := by decide +kernel
theorem dJ6_bitCount_0f7a4_17 : decode cJ6_bitCount_0f7a4 17 = .ok (.iushr, 1) := by decide +kernel
theorem dJ6_bitCount_0f7a4_18 : decode cJ6_bitCount_0f7a4 18 = .ok (.ldc_w 266, 3) := by decide +kernel
theorem dJ6_bitCount_0f7a4_21 : decode cJ6_bitCount_0f7a4 21 = .ok (.iand, 1) := by decide +kernel
theorem dJ6_bitCount_0f7a4_22 : decode cJ6_bitCount_0f7a4 22 = .ok (.iadd, 1) := by decide +kernel
theorem dJ6_bitCount_0f7a4_23 : decode cJ6_bitCount_0f7a4 23 = .ok (.istore_n 0, 1) := by decide +kernel
theorem dJ6_bitCount_0f7a4_24 : decode cJ6_bitCount_0f7a4 24 = .ok (.iload_n 0, 1) := by decide +kernel
theorem dJ6_bitCount_0f7a4_25 : decode cJ6_bitCount_0f7a4 25 = .ok (.iload_n 0, 1) := by decide +kernel
theorem dJ6_bitCount_0f7a4_26 : decode cJ6_bitCount_0f7a4 26 = .ok (.iconst 4, 1) := by decide +kernel
theorem dJ6_bitCount_0f7a4_27 : decode cJ6_bitCount_0f7a4 27 = .ok (.iushr, 1) := by decide +kernel
theorem dJ6_bitCount_0f7a4_28 : decode cJ6_bitCount_0f7a4 28 = .ok (.iadd, 1) := by decide +kernel
theorem dJ6_bitCount_0f7a4_29 : decode cJ6_bitCount_0f7a4 29 = .ok (.ldc_w 267, 3) := by decide +kernel
theorem dJ6_bitCount_0f7a4_32 : decode cJ6_bitCount_0f7a4 32 = .ok (.iand, 1) := by decide +kernel
theorem dJ6_bitCount_0f7a4_33 : decode cJ6_bitCount_0f7a4 33 = .ok (.istore_n 0, 1) := by decide +kernel
theorem dJ6_bitCount_0f7a4_34 : decode cJ6_bitCount_0f7a4 34 = .ok (.iload_n 0, 1) := by decide +kernel
theorem dJ6_bitCount_0f7a4_35 : decode cJ6_bitCount_0f7a4 35 = .ok (.iload_n 0, 1) := by decide +kernel
theorem dJ6_bitCount_0f7a4_36 : decode cJ6_bitCount_0f7a4 36 = .ok (.bipush 8, 2) := by decide +kernel
theorem dJ6_bitCount_0f7a4_38 : decode cJ6_bitCount_0f7a4 38 = .ok (.iushr, 1) := by decide +kernel
theorem dJ6_bitCount_0f7a4_39 : decode cJ6_bitCount_0f7a4 39 = .ok (.iadd, 1) := by decide +kernel
theorem dJ6_bitCount_0f7a4_40 : decode cJ6_bitCount_0f7a4 40 = .ok (.istore_n 0, 1) := by decide +kernel
theorem dJ6_bitCount_0f7a4_41 : decode cJ6_bitCount_0f7a4 41 = .ok (.iload_n 0, 1) := by decide +kernel
theorem dJ6_bitCount_0f7a4_42 : decode cJ6_bitCount_0f7a4 42 = .ok (.iload_n 0, 1) := by decide +kernel
theorem dJ6_bitCount_0f7a4_43 : decode cJ6_bitCount_0f7a4 43 = .ok (.bipush 16, 2) := by decide +kernel
theorem dJ6_bitCount_0f7a4_45 : decode cJ6_bitCount_0f7a4 45 = .ok (.iushr, 1) := by decide +kernel
theorem dJ6_bitCount_0f7a4_46 : decode cJ6_bitCount_0f7a4 46 = .ok (.iadd, 1) := by decide +kernel
theorem dJ6_bitCount_0f7a4_47 : decode cJ6_bitCount_0f7a4 47 = .ok (.istore_n 0, 1) := by decide +kernel
theorem dJ6_bitCount_0f7a4_48 : decode cJ6_bitCount_0f7a4 48 = .ok (.iload_n 0, 1) := by decide +kernel
theorem dJ6_bitCount_0f7a4_49 : decode cJ6_bitCount_0f7a4 49 = .ok (.bipush 63, 2) := by decide +kernel
theorem dJ6_bitCount_0f7a4_51 : decode cJ6_bitCount_0f7a4 51 = .ok (.iand, 1) := by decide +kernel
theorem dJ6_bitCount_0f7a4_52 : decode cJ6_bitCount_0f7a4 52 = .ok (.ireturn, 1) := by decide +kernel
theorem dJ9_abs_0f7a4_0 : decode cJ9_abs_0f7a4 0 = .ok (.iload_n 0, 1) := by decide +kernel
theorem dJ9_abs_0f7a4_1 : decode cJ9_abs_0f7a4 1 = .ok (.ifCond .ge 8, 3) := by decide +kernel
theorem dJ9_abs_0f7a4_4 : decode cJ9_abs_0f7a4 4 = .ok (.iload_n 0, 1) := by decide +kernel
theorem dJ9_abs_0f7a4_5 : decode cJ9_abs_0f7a4 5 = .ok (.ineg, 1) := by decide +kernel
theorem dJ9_abs_0f7a4_6 : decode cJ9_abs_0f7a4 6 = .ok (.goto 4, 3) := by decide +kernel
theorem dJ9_abs_0f7a4_9 : decode cJ9_abs_0f7a4 9 = .ok (.iload_n 0, 1) := by decide +kernel
theorem dJ9_abs_0f7a4_10 : decode cJ9_abs_0f7a4 10 = .ok (.ireturn, 1) := by decide +kernel
theorem dJ9_min_7cf53_0 : decode cJ9_min_7cf53 0 = .ok (.iload_n 0, 1) := by decide +kernel
theorem dJ9_min_7cf53_1 : decode cJ9_min_7cf53 1 = .ok (.iload_n 1, 1) := by decide +kernel
theorem dJ9_min_7cf53_2 : decode cJ9_min_7cf53 2 = .ok (.if_icmp .gt 7, 3) := by decide +kernel
theorem dJ9_min_7cf53_5 : decode cJ9_min_7cf53 5 = .ok (.iload_n 0, 1) := by decide +kernel
theorem dJ9_min_7cf53_6 : decode cJ9_min_7cf53 6 = .ok (.goto 4, 3) := by decide +kernel
theorem dJ9_min_7cf53_9 : decode cJ9_min_7cf53 9 = .ok (.iload_n 1, 1) := by decide +kernel
theorem dJ9_min_7cf53_10 : decode cJ9_min_7cf53 10 = .ok (.ireturn, 1) := by decide +kernel
theorem dJ0_length_8abf5_0 : decode cJ0_length_8abf5 0 = .ok (.aload_n 0, 1) := by decide +kernel
theorem dJ0_length_8abf5_1 : decode cJ0_length_8abf5 1 = .ok (.getfield 9, 3) := by decide +kernel
theorem dJ0_length_8abf5_4 : decode cJ0_length_8abf5 4 = .ok (.arraylength, 1) := by decide +kernel
theorem dJ0_length_8abf5_5 : decode cJ0_length_8abf5 5 = .ok (.aload_n 0, 1) := by decide +kernel
theorem dJ0_length_8abf5_6 : decode cJ0_length_8abf5 6 = .ok (.invokevirtual 335, 3) := by decide +kernel
theorem dJ0_length_8abf5_9 : decode cJ0_length_8abf5 9 = .ok (.ishr, 1) := by decide +kernel
theorem dJ0_length_8abf5_10 : decode cJ0_length_8abf5 10 = .ok (.ireturn, 1) := by decide +kernel
theorem dJ0_charAt_5068e_0 : decode cJ0_charAt_5068e 0 = .ok (.aload_n 0, 1) := by decide +kernel
theorem dJ0_charAt_5068e_1 : decode cJ0_charAt_5068e 1 = .ok (.invokevirtual 492, 3) := by decide +kernel
theorem dJ0_charAt_5068e_4 : decode cJ0_charAt_5068e 4 = .ok (.ifCond .eq 12, 3) := by decide +kernel
theorem dJ0_charAt_5068e_7 : decode cJ0_charAt_5068e 7 = .ok (.aload_n 0, 1) := by decide +kernel
theorem dJ0_charAt_5068e_8 : decode cJ0_charAt_5068e 8 = .ok (.getfield 9, 3) := by decide +kernel
theorem dJ0_charAt_5068e_11 : decode cJ0_charAt_5068e 11 = .ok (.iload_n 1, 1) := by decide +kernel
theorem dJ0_charAt_5068e_12 : decode cJ0_charAt_5068e 12 = .ok (.invokestatic 495, 3) := by decide +kernel
theorem dJ0_charAt_5068e_15 : decode cJ0_charAt_5068e 15 = .ok (.ireturn, 1) := by decide +kernel
theorem dJ0_charAt_5068e_16 : decode cJ0_charAt_5068e 16 = .ok (.aload_n 0, 1) := by decide +kernel
theorem dJ0_charAt_5068e_17 : decode cJ0_charAt_5068e 17 = .ok (.getfield 9, 3) := by decide +kernel
theorem dJ0_charAt_5068e_20 : decode cJ0_charAt_5068e 20 = .ok (.iload_n 1, 1) := by decide +kernel
theorem dJ0_charAt_5068e_21 : decode cJ0_charAt_5068e 21 = .ok (.invokestatic 498, 3) := by decide +kernel
theorem dJ0_charAt_5068e_24 : decode cJ0_charAt_5068e 24 = .ok (.ireturn, 1) := by decide +kernel
theorem dJ0_coder_7d493_0 : decode cJ0_coder_7d493 0 = .ok (.getstatic 38, 3) := by decide +kernel
theorem dJ0_coder_7d493_3 : decode cJ0_coder_7d493 3 = .ok (.ifCond .eq 10, 3) := by decide +kernel
theorem dJ0_coder_7d493_6 : decode cJ0_coder_7d493 6 = .ok (.aload_n 0, 1) := by decide +kernel
theorem dJ0_coder_7d493_7 : decode cJ0_coder_7d493 7 = .ok (.getfield 15, 3) := by decide +kernel
theorem dJ0_coder_7d493_10 : decode cJ0_coder_7d493 10 = .ok (.goto 4, 3) := by decide +kernel
theorem dJ0_coder_7d493_13 : decode cJ0_coder_7d493 13 = .ok (.iconst 1, 1) := by decide +kernel
theorem dJ0_coder_7d493_14 : decode cJ0_coder_7d493 14 = .ok (.ireturn, 1) := by decide +kernel
theorem dJ0_isLatin1_aae02_0 : decode cJ0_isLatin1_aae02 0 = .ok (.getstatic 38, 3) := by decide +kernel
theorem dJ0_isLatin1_aae02_3 : decode cJ0_isLatin1_aae02 3 = .ok (.ifCond .eq 14, 3) := by decide +kernel
theorem dJ0_isLatin1_aae02_6 : decode cJ0_isLatin1_aae02 6 = .ok (.aload_n 0, 1) := by decide +kernel
theorem dJ0_isLatin1_aae02_7 : decode cJ0_isLatin1_aae02 7 = .ok (.getfield 15, 3) := by decide +kernel
theorem dJ0_isLatin1_aae02_10 : decode cJ0_isLatin1_aae02 10 = .ok (.ifCond .ne 7, 3) := by decide +kernel
theorem dJ0_isLatin1_aae02_13 : decode cJ0_isLatin1_aae02 13 = .ok (.iconst 1, 1) := by decide +kernel
theorem dJ0_isLatin1_aae02_14 : decode cJ0_isLatin1_aae02 14 = .ok (.goto 4, 3) := by decide +kernel
theorem dJ0_isLatin1_aae02_17 : decode cJ0_isLatin1_aae02 17 = .ok (.iconst 0, 1) := by decide +kernel
theorem dJ0_isLatin1_aae02_18 : decode cJ0_isLatin1_aae02 18 = .ok (.ireturn, 1) := by decide +kernel
theorem dJ0_checkIndex_df160_0 : decode cJ0_checkIndex_df160 0 = .ok (.iload_n 0, 1) := by decide +kernel
theorem dJ0_checkIndex_df160_1 : decode cJ0_checkIndex_df160 1 = .ok (.iload_n 1, 1) := by decide +kernel
theorem dJ0_checkIndex_df160_2 : decode cJ0_checkIndex_df160 2 = .ok (.getstatic 1053, 3) := by decide +kernel
theorem dJ0_checkIndex_df160_5 : decode cJ0_checkIndex_df160 5 = .ok (.invokestatic 1059, 3) := by decide +kernel
theorem dJ0_checkIndex_df160_8 : decode cJ0_checkIndex_df160 8 = .ok (.pop, 1) := by decide +kernel
theorem dJ0_checkIndex_df160_9 : decode cJ0_checkIndex_df160 9 = .ok (.return_, 1) := by decide +kernel
theorem dJ1_charAt_3b067_0 : decode cJ1_charAt_3b067 0 = .ok (.iload_n 1, 1) := by decide +kernel
theorem dJ1_charAt_3b067_1 : decode cJ1_charAt_3b067 1 = .ok (.aload_n 0, 1) := by decide +kernel
theorem dJ1_charAt_3b067_2 : decode cJ1_charAt_3b067 2 = .ok (.arraylength, 1) := by decide +kernel
theorem dJ1_charAt_3b067_3 : decode cJ1_charAt_3b067 3 = .ok (.invokestatic 9, 3) := by decide +kernel
theorem dJ1_charAt_3b067_6 : decode cJ1_charAt_3b067 6 = .ok (.aload_n 0, 1) := by decide +kernel
theorem dJ1_charAt_3b067_7 : decode cJ1_charAt_3b067 7 = .ok (.iload_n 1, 1) := by decide +kernel
theorem dJ1_charAt_3b067_8 : decode cJ1_charAt_3b067 8 = .ok (.baload, 1) := by decide +kernel
theorem dJ1_charAt_3b067_9 : decode cJ1_charAt_3b067 9 = .ok (.sipush 255, 3) := by decide +kernel
theorem dJ1_charAt_3b067_12 : decode cJ1_charAt_3b067 12 = .ok (.iand, 1) := by decide +kernel
theorem dJ1_charAt_3b067_13 : decode cJ1_charAt_3b067 13 = .ok (.i2c, 1) := by decide +kernel
theorem dJ1_charAt_3b067_14 : decode cJ1_charAt_3b067 14 = .ok (.ireturn, 1) := by decide +kernel
theorem dJ2_getChar_3b067_0 : decode cJ2_getChar_3b067 0 = .ok (.getstatic 44, 3) := by decide +kernel
theorem dJ2_getChar_3b067_3 : decode cJ2_getChar_3b067 3 = .ok (.ifCond .ne 25, 3) := by decide +kernel
theorem dJ2_getChar_3b067_6 : decode cJ2_getChar_3b067 6 = .ok (.iload_n 1, 1) := by decide +kernel
theorem dJ2_getChar_3b067_7 : decode cJ2_getChar_3b067 7 = .ok (.ifCond .lt 11, 3) := by decide +kernel
theorem dJ2_getChar_3b067_10 : decode cJ2_getChar_3b067 10 = .ok (.iload_n 1, 1) := by decide +kernel
theorem dJ2_getChar_3b067_11 : decode cJ2_getChar_3b067 11 = .ok (.aload_n 0, 1) := by decide +kernel
theorem dJ2_getChar_3b067_12 : decode cJ2_getChar_3b067 12 = .ok (.invokestatic 48, 3) := by decide +kernel
theorem dJ2_getChar_3b067_15 : decode cJ2_getChar_3b067 15 = .ok (.if_icmp .lt 13, 3) := by decide +kernel
theorem dJ2_getChar_3b067_18 : decode cJ2_getChar_3b067 18 = .ok (.new 52, 3) := by decide +kernel
theorem dJ2_getChar_3b067_21 : decode cJ2_getChar_3b067 21 = .ok (.dup, 1) := by decide +kernel
theorem dJ2_getChar_3b067_22 : decode cJ2_getChar_3b067 22 = .ok (.ldc 54, 2) := by decide +kernel
theorem dJ2_getChar_3b067_24 : decode cJ2_getChar_3b067 24 = .ok (.invokespecial 56, 3) := by decide +kernel
theorem dJ2_getChar_3b067_27 : decode cJ2_getChar_3b067 27 = .ok (.athrow, 1) := by decide +kernel
theorem dJ2_getChar_3b067_28 : decode cJ2_getChar_3b067 28 = .ok (.iload_n 1, 1) := by decide +kernel
theorem dJ2_getChar_3b067_29 : decode cJ2_getChar_3b067 29 = .ok (.iconst 1, 1) := by decide +kernel
theorem dJ2_getChar_3b067_30 : decode cJ2_getChar_3b067 30 = .ok (.ishl, 1) := by decide +kernel
theorem dJ2_getChar_3b067_31 : decode cJ2_getChar_3b067 31 = .ok (.istore_n 1, 1) := by decide +kernel
theorem dJ2_getChar_3b067_32 : decode cJ2_getChar_3b067 32 = .ok (.aload_n 0, 1) := by decide +kernel
theorem dJ2_getChar_3b067_33 : decode cJ2_getChar_3b067 33 = .ok (.iload_n 1, 1) := by decide +kernel
theorem dJ2_getChar_3b067_34 : decode cJ2_getChar_3b067 34 = .ok (.iinc 1 1, 3) := by decide +kernel
theorem dJ2_getChar_3b067_37 : decode cJ2_getChar_3b067 37 = .ok (.baload, 1) := by decide +kernel
theorem dJ2_getChar_3b067_38 : decode cJ2_getChar_3b067 38 = .ok (.sipush 255, 3) := by decide +kernel
theorem dJ2_getChar_3b067_41 : decode cJ2_getChar_3b067 41 = .ok (.iand, 1) := by decide +kernel
theorem dJ2_getChar_3b067_42 : decode cJ2_getChar_3b067 42 = .ok (.getstatic 59, 3) := by decide +kernel
theorem dJ2_getChar_3b067_45 : decode cJ2_getChar_3b067 45 = .ok (.ishl, 1) := by decide +kernel
theorem dJ2_getChar_3b067_46 : decode cJ2_getChar_3b067 46 = .ok (.aload_n 0, 1) := by decide +kernel
theorem dJ2_getChar_3b067_47 : decode cJ2_getChar_3b067 47 = .ok (.iload_n 1, 1) := by decide +kernel
theorem dJ2_getChar_3b067_48 : decode cJ2_getChar_3b067 48 = .ok (.baload, 1) := by decide +kernel
theorem dJ2_getChar_3b067_49 : decode cJ2_getChar_3b067 49 = .ok (.sipush 255, 3) := by decide +kernel
theorem dJ2_getChar_3b067_52 : decode cJ2_getChar_3b067 52 = .ok (.iand, 1) := by decide +kernel
theorem dJ2_getChar_3b067_53 : decode cJ2_getChar_3b067 53 = .ok (.getstatic 63, 3) := by decide +kernel
theorem dJ2_getChar_3b067_56 : decode cJ2_getChar_3b067 56 = .ok (.ishl, 1) := by decide +kernel
theorem dJ2_getChar_3b067_57 : decode cJ2_getChar_3b067 57 = .ok (.ior, 1) := by decide +kernel
theorem dJ2_getChar_3b067_58 : decode cJ2_getChar_3b067 58 = .ok (.i2c, 1) := by decide +kernel
theorem dJ2_getChar_3b067_59 : decode cJ2_getChar_3b067 59 = .ok (.ireturn, 1) := by decide +kernel
theorem dJ2_length_9d52b_0 : decode cJ2_length_9d52b 0 = .ok (.aload_n 0, 1) := by decide +kernel
theorem dJ2_length_9d52b_1 : decode cJ2_length_9d52b 1 = .ok (.arraylength, 1) := by decide +kernel
theorem dJ2_length_9d52b_2 : decode cJ2_length_9d52b 2 = .ok (.iconst 1, 1) := by decide +kernel
theorem dJ2_length_9d52b_3 : decode cJ2_length_9d52b 3 = .ok (.ishr, 1) := by decide +kernel
theorem dJ2_length_9d52b_4 : decode cJ2_length_9d52b 4 = .ok (.ireturn, 1) := by decide +kernel
theorem dJ2_charAt_3b067_0 : decode cJ2_charAt_3b067 0 = .ok (.iload_n 1, 1) := by decide +kernel
theorem dJ2_charAt_3b067_1 : decode cJ2_charAt_3b067 1 = .ok (.aload_n 0, 1) := by decide +kernel
theorem dJ2_charAt_3b067_2 : decode cJ2_charAt_3b067 2 = .ok (.invokestatic 67, 3) := by decide +kernel
theorem dJ2_charAt_3b067_5 : decode cJ2_charAt_3b067 5 = .ok (.aload_n 0, 1) := by decide +kernel
theorem dJ2_charAt_3b067_6 : decode cJ2_charAt_3b067 6 = .ok (.iload_n 1, 1) := by decide +kernel
theorem dJ2_charAt_3b067_7 : decode cJ2_charAt_3b067 7 = .ok (.invokestatic 71, 3) := by decide +kernel
theorem dJ2_charAt_3b067_10 : decode cJ2_charAt_3b067 10 = .ok (.ireturn, 1) := by decide +kernel
theorem dJ2_checkIndex_2214a_0 : decode cJ2_checkIndex_2214a 0 = .ok (.iload_n 0, 1) := by decide +kernel
theorem dJ2_checkIndex_2214a_1 : decode cJ2_checkIndex_2214a 1 = .ok (.aload_n 1, 1) := by decide +kernel
theorem dJ2_checkIndex_2214a_2 : decode cJ2_checkIndex_2214a 2 = .ok (.invokestatic 48, 3) := by decide +kernel
theorem dJ2_checkIndex_2214a_5 : decode cJ2_checkIndex_2214a 5 = .ok (.invokestatic 414, 3) := by decide +kernel
theorem dJ2_checkIndex_2214a_8 : decode cJ2_checkIndex_2214a 8 = .ok (.return_, 1) := by decide +kernel
theorem dJ3_checkIndex_8e157_0 : decode cJ3_checkIndex_8e157 0 = .ok (.iload_n 0, 1) := by decide +kernel
theorem dJ3_checkIndex_8e157_1 : decode cJ3_checkIndex_8e157 1 = .ok (.ifCond .lt 8, 3) := by decide +kernel
theorem dJ3_checkIndex_8e157_4 : decode cJ3_checkIndex_8e157 4 = .ok (.iload_n 0, 1) := by decide +kernel
theorem dJ3_checkIndex_8e157_5 : decode cJ3_checkIndex_8e157 5 = .ok (.iload_n 1, 1) := by decide +kernel
theorem dJ3_checkIndex_8e157_6 : decode cJ3_checkIndex_8e157 6 = .ok (.if_icmp .lt 10, 3) := by decide +kernel
theorem dJ3_checkIndex_8e157_9 : decode cJ3_checkIndex_8e157 9 = .ok (.aload_n 2, 1) := by decide +kernel
theorem dJ3_checkIndex_8e157_10 : decode cJ3_checkIndex_8e157 10 = .ok (.iload_n 0, 1) := by decide +kernel
theorem dJ3_checkIndex_8e157_11 : decode cJ3_checkIndex_8e157 11 = .ok (.iload_n 1, 1) := by decide +kernel
theorem dJ3_checkIndex_8e157_12 : decode cJ3_checkIndex_8e157 12 = .ok (.invokestatic 95, 3) := by decide +kernel
theorem dJ3_checkIndex_8e157_15 : decode cJ3_checkIndex_8e157 15 = .ok (.athrow, 1) := by decide +kernel
theorem dJ3_checkIndex_8e157_16 : decode cJ3_checkIndex_8e157 16 = .ok (.iload_n 0, 1) := by decide +kernel
theorem dJ3_checkIndex_8e157_17 : decode cJ3_checkIndex_8e157 17 = .ok (.ireturn, 1) := by decide +kernel
theorem dL_law_0 : decode cL_law 0 = .ok (.new 7, 3) := by decide +kernel
theorem dL_law_3 : decode cL_law 3 = .ok (.dup, 1) := by decide +kernel
theorem dL_law_4 : decode cL_law 4 = .ok (.invokespecial 9, 3) := by decide +kernel
theorem dL_law_7 : decode cL_law 7 = .ok (.astore_n 1, 1) := by decide +kernel
theorem dL_law_8 : decode cL_law 8 = .ok (.new 10, 3) := by decide +kernel
theorem dL_law_11 : decode cL_law 11 = .ok (.dup, 1) := by decide +kernel
theorem dL_law_12 : decode cL_law 12 = .ok (.invokespecial 12, 3) := by decide +kernel
theorem dL_law_15 : decode cL_law 15 = .ok (.astore_n 2, 1) := by decide +kernel
theorem dL_law_16 : decode cL_law 16 = .ok (.iconst 0, 1) := by decide +kernel
theorem dL_law_17 : decode cL_law 17 = .ok (.istore_n 3, 1) := by decide +kernel
theorem dL_law_18 : decode cL_law 18 = .ok (.iload_n 3, 1) := by decide +kernel
theorem dL_law_19 : decode cL_law 19 = .ok (.aload_n 0, 1) := by decide +kernel
theorem dL_law_20 : decode cL_law 20 = .ok (.arraylength, 1) := by decide +kernel
theorem dL_law_21 : decode cL_law 21 = .ok (.bipush 6, 2) := by decide +kernel
theorem dL_law_23 : decode cL_law 23 = .ok (.isub, 1) := by decide +kernel
theorem dL_law_24 : decode cL_law 24 = .ok (.if_icmp .gt 1354, 3) := by decide +kernel
theorem dL_law_27 : decode cL_law 27 = .ok (.aload_n 0, 1) := by decide +kernel
theorem dL_law_28 : decode cL_law 28 = .ok (.iload_n 3, 1) := by decide +kernel
theorem dL_law_29 : decode cL_law 29 = .ok (.iaload, 1) := by decide +kernel
theorem dL_law_30 : decode cL_law 30 = .ok (.bipush 63, 2) := by decide +kernel
theorem dL_law_32 : decode cL_law 32 = .ok (.iand, 1) := by decide +kernel
theorem dL_law_33 : decode cL_law 33 = .ok (.tableswitch 1339 0 38 #[171, 204, 237, 260, 303, 336, 379, 402, 425, 468, 501, 534, 557, 570, 593, 636, 669, 702, 755, 778, 811, 844, 867, 911, 934, 967, 980, 993, 1026, 1059, 1102, 1145, 1208, 1231, 1254, 1267, 1280, 1293, 1316], 171) := by decide +kernel
theorem dL_law_204 : decode cL_law 204 = .ok (.aload_n 1, 1) := by decide +kernel
theorem dL_law_205 : decode cL_law 205 = .ok (.aload_n 0, 1) := by decide +kernel
theorem dL_law_206 : decode cL_law 206 = .ok (.iload_n 3, 1) := by decide +kernel
theorem dL_law_207 : decode cL_law 207 = .ok (.iconst 1, 1) := by decide +kernel
theorem dL_law_208 : decode cL_law 208 = .ok (.iadd, 1) := by decide +kernel
theorem dL_law_209 : decode cL_law 209 = .ok (.iaload, 1) := by decide +kernel
theorem dL_law_210 : decode cL_law 210 = .ok (.aload_n 0, 1) := by decide +kernel
theorem dL_law_211 : decode cL_law 211 = .ok (.iload_n 3, 1) := by decide +kernel
theorem dL_law_212 : decode cL_law 212 = .ok (.iconst 2, 1) := by decide +kernel
theorem dL_law_213 : decode cL_law 213 = .ok (.iadd, 1) := by decide +kernel
theorem dL_law_214 : decode cL_law 214 = .ok (.iaload, 1) := by decide +kernel
theorem dL_law_215 : decode cL_law 215 = .ok (.invokevirtual 13, 3) := by decide +kernel
theorem dL_law_218 : decode cL_law 218 = .ok (.aload_n 2, 1) := by decide +kernel
theorem dL_law_219 : decode cL_law 219 = .ok (.aload_n 0, 1) := by decide +kernel
theorem dL_law_220 : decode cL_law 220 = .ok (.iload_n 3, 1) := by decide +kernel
theorem dL_law_221 : decode cL_law 221 = .ok (.iconst 1, 1) := by decide +kernel
theorem dL_law_222 : decode cL_law 222 = .ok (.iadd, 1) := by decide +kernel
theorem dL_law_223 : decode cL_law 223 = .ok (.iaload, 1) := by decide +kernel
theorem dL_law_224 : decode cL_law 224 = .ok (.aload_n 0, 1) := by decide +kernel
theorem dL_law_225 : decode cL_law 225 = .ok (.iload_n 3, 1) := by decide +kernel
theorem dL_law_226 : decode cL_law 226 = .ok (.iconst 2, 1) := by decide +kernel
theorem dL_law_227 : decode cL_law 227 = .ok (.iadd, 1) := by decide +kernel
theorem dL_law_228 : decode cL_law 228 = .ok (.iaload, 1) := by decide +kernel
theorem dL_law_229 : decode cL_law 229 = .ok (.invokevirtual 17, 3) := by decide +kernel
theorem dL_law_232 : decode cL_law 232 = .ok (.if_icmp .eq 1140, 3) := by decide +kernel
theorem dL_law_235 : decode cL_law 235 = .ok (.iconst 0, 1) := by decide +kernel
theorem dL_law_236 : decode cL_law 236 = .ok (.ireturn, 1) := by decide +kernel
theorem dL_law_237 : decode cL_law 237 = .ok (.aload_n 1, 1) := by decide +kernel
theorem dL_law_238 : decode cL_law 238 = .ok (.aload_n 0, 1) := by decide +kernel
theorem dL_law_239 : decode cL_law 239 = .ok (.iload_n 3, 1) := by decide +kernel
theorem dL_law_240 : decode cL_law 240 = .ok (.iconst 1, 1) := by decide +kernel
theorem dL_law_241 : decode cL_law 241 = .ok (.iadd, 1) := by decide +kernel
theorem dL_law_242 : decode cL_law 242 = .ok (.iaload, 1) := by decide +kernel
theorem dL_law_243 : decode cL_law 243 = .ok (.aload_n 0, 1) := by decide +kernel
theorem dL_law_244 : decode cL_law 244 = .ok (.iload_n 3, 1) := by decide +kernel
theorem dL_law_245 : decode cL_law 245 = .ok (.iconst 2, 1) := by decide +kernel
theorem dL_law_246 : decode cL_law 246 = .ok (.iadd, 1) := by decide +kernel
theorem dL_law_247 : decode cL_law 247 = .ok (.iaload, 1) := by decide +kernel
theorem dL_law_248 : decode cL_law 248 = .ok (.invokevirtual 18, 3) := by decide +kernel
theorem dL_law_251 : decode cL_law 251 = .ok (.aload_n 2, 1) := by decide +kernel
theorem dL_law_252 : decode cL_law 252 = .ok (.aload_n 0, 1) := by decide +kernel
theorem dL_law_253 : decode cL_law 253 = .ok (.iload_n 3, 1) := by decide +kernel
theorem dL_law_254 : decode cL_law 254 = .ok (.iconst 1, 1) := by decide +kernel
theorem dL_law_255 : decode cL_law 255 = .ok (.iadd, 1) := by decide +kernel
theorem dL_law_256 : decode cL_law 256 = .ok (.iaload, 1) := by decide +kernel
theorem dL_law_257 : decode cL_law 257 = .ok (.aload_n 0, 1) := by decide +kernel
theorem dL_law_258 : decode cL_law 258 = .ok (.iload_n 3, 1) := by decide +kernel
theorem dL_law_259 : decode cL_law 259 = .ok (.iconst 2, 1) := by decide +kernel
theorem dL_law_260 : decode cL_law 260 = .ok (.iadd, 1) := by decide +kernel
theorem dL_law_261 : decode cL_law 261 = .ok (.iaload, 1) := by decide +kernel
theorem dL_law_262 : decode cL_law 262 = .ok (.invokevirtual 21, 3) := by decide +kernel
theorem dL_law_265 : decode cL_law 265 = .ok (.if_icmp .eq 1107, 3) := by decide +kernel
theorem dL_law_268 : decode cL_law 268 = .ok (.iconst 0, 1) := by decide +kernel
theorem dL_law_269 : decode cL_law 269 = .ok (.ireturn, 1) := by decide +kernel
theorem dL_law_270 : decode cL_law 270 = .ok (.aload_n 1, 1) := by decide +kernel
theorem dL_law_271 : decode cL_law 271 = .ok (.aload_n 0, 1) := by decide +kernel
theorem dL_law_272 : decode cL_law 272 = .ok (.iload_n 3, 1) := by decide +kernel
theorem dL_law_273 : decode cL_law 273 = .ok (.iconst 1, 1) := by decide +kernel
theorem dL_law_274 : decode cL_law 274 = .ok (.iadd, 1) := by decide +kernel
theorem dL_law_275 : decode cL_law 275 = .ok (.iaload, 1) := by decide +kernel
theorem dL_law_276 : decode cL_law 276 = .ok (.invokevirtual 22, 3) := by decide +kernel
theorem dL_law_279 : decode cL_law 279 = .ok (.aload_n 2, 1) := by decide +kernel
theorem dL_law_280 : decode cL_law 280 = .ok (.aload_n 0, 1) := by decide +kernel
theorem dL_law_281 : decode cL_law 281 = .ok (.iload_n 3, 1) := by decide +kernel
theorem dL_law_282 : decode cL_law 282 = .ok (.iconst 1, 1) := by decide +kernel
theorem dL_law_283 : decode cL_law 283 = .ok (.iadd, 1) := by decide +kernel
theorem dL_law_284 : decode cL_law 284 = .ok (.iaload, 1) := by decide +kernel
theorem dL_law_285 : decode cL_law 285 = .ok (.invokevirtual 26, 3) := by decide +kernel
theorem dL_law_288 : decode cL_law 288 = .ok (.if_icmp .eq 1084, 3) := by decide +kernel
theorem dL_law_291 : decode cL_law 291 = .ok (.iconst 0, 1) := by decide +kernel
theorem dL_law_292 : decode cL_law 292 = .ok (.ireturn, 1) := by decide +kernel
theorem dL_law_293 : decode cL_law 293 = .ok (.aload_n 1, 1) := by decide +kernel
theorem dL_law_294 : decode cL_law 294 = .ok (.aload_n 0, 1) := by decide +kernel
theorem dL_law_295 : decode cL_law 295 = .ok (.iload_n 3, 1) := by decide +kernel
theorem dL_law_296 : decode cL_law 296 = .ok (.iconst 1, 1) := by decide +kernel
theorem dL_law_297 : decode cL_law 297 = .ok (.iadd, 1) := by decide +kernel
theorem dL_law_298 : decode cL_law 298 = .ok (.iaload, 1) := by decide +kernel
theorem dL_law_299 : decode cL_law 299 = .ok (.aload_n 0, 1) := by decide +kernel
theorem dL_law_300 : decode cL_law 300 = .ok (.iload_n 3, 1) := by decide +kernel
theorem dL_law_301 : decode cL_law 301 = .ok (.iconst 2, 1) := by decide +kernel
theorem dL_law_302 : decode cL_law 302 = .ok (.iadd, 1) := by decide +kernel
theorem dL_law_303 : decode cL_law 303 = .ok (.iaload, 1) := by decide +kernel
theorem dL_law_304 : decode cL_law 304 = .ok (.aload_n 0, 1) := by decide +kernel
theorem dL_law_305 : decode cL_law 305 = .ok (.iload_n 3, 1) := by decide +kernel
theorem dL_law_306 : decode cL_law 306 = .ok (.iconst 3, 1) := by decide +kernel
theorem dL_law_307 : decode cL_law 307 = .ok (.iadd, 1) := by decide +kernel
theorem dL_law_308 : decode cL_law 308 = .ok (.iaload, 1) := by decide +kernel
theorem dL_law_309 : decode cL_law 309 = .ok (.invokevirtual 27, 3) := by decide +kernel
theorem dL_law_312 : decode cL_law 312 = .ok (.aload_n 2, 1) := by decide +kernel
theorem dL_law_313 : decode cL_law 313 = .ok (.aload_n 0, 1) := by decide +kernel
theorem dL_law_314 : decode cL_law 314 = .ok (.iload_n 3, 1) := by decide +kernel
theorem dL_law_315 : decode cL_law 315 = .ok (.iconst 1, 1) := by decide +kernel
theorem dL_law_316 : decode cL_law 316 = .ok (.iadd, 1) := by decide +kernel
theorem dL_law_317 : decode cL_law 317 = .ok (.iaload, 1) := by decide +kernel
theorem dL_law_318 : decode cL_law 318 = .ok (.aload_n 0, 1) := by decide +kernel
theorem dL_law_319 : decode cL_law 319 = .ok (.iload_n 3, 1) := by decide +kernel
theorem dL_law_320 : decode cL_law 320 = .ok (.iconst 2, 1) := by decide +kernel
theorem dL_law_321 : decode cL_law 321 = .ok (.iadd, 1) := by decide +kernel
theorem dL_law_322 : decode cL_law 322 = .ok (.iaload, 1) := by decide +kernel
theorem dL_law_323 : decode cL_law 323 = .ok (.aload_n 0, 1) := by decide +kernel
theorem dL_law_324 : decode cL_law 324 = .ok (.iload_n 3, 1) := by decide +kernel
theorem dL_law_325 : decode cL_law 325 = .ok (.iconst 3, 1) := by decide +kernel
theorem dL_law_326 : decode cL_law 326 = .ok (.iadd, 1) := by decide +kernel
theorem dL_law_327 : decode cL_law 327 = .ok (.iaload, 1) := by decide +kernel
theorem dL_law_328 : decode cL_law 328 = .ok (.invokevirtual 31, 3) := by decide +kernel
theorem dL_law_331 : decode cL_law 331 = .ok (.if_icmp .eq 1041, 3) := by decide +kernel
theorem dL_law_334 : decode cL_law 334 = .ok (.iconst 0, 1) := by decide +kernel
theorem dL_law_335 : decode cL_law 335 = .ok (.ireturn, 1) := by decide +kernel
theorem dL_law_336 : decode cL_law 336 = .ok (.aload_n 1, 1) := by decide +kernel
theorem dL_law_337 : decode cL_law 337 = .ok (.aload_n 0, 1) := by decide +kernel
theorem dL_law_338 : decode cL_law 338 = .ok (.iload_n 3, 1) := by decide +kernel
theorem dL_law_339 : decode cL_law 339 = .ok (.iconst 1, 1) := by decide +kernel
theorem dL_law_340 : decode cL_law 340 = .ok (.iadd, 1) := by decide +kernel
theorem dL_law_341 : decode cL_law 341 = .ok (.iaload, 1) := by decide +kernel
theorem dL_law_342 : decode cL_law 342 = .ok (.aload_n 0, 1) := by decide +kernel
theorem dL_law_343 : decode cL_law 343 = .ok (.iload_n 3, 1) := by decide +kernel
theorem dL_law_344 : decode cL_law 344 = .ok (.iconst 2, 1) := by decide +kernel
theorem dL_law_345 : decode cL_law 345 = .ok (.iadd, 1) := by decide +kernel
theorem dL_law_346 : decode cL_law 346 = .ok (.iaload, 1) := by decide +kernel
theorem dL_law_347 : decode cL_law 347 = .ok (.invokevirtual 32, 3) := by decide +kernel
theorem dL_law_350 : decode cL_law 350 = .ok (.aload_n 2, 1) := by decide +kernel
theorem dL_law_351 : decode cL_law 351 = .ok (.aload_n 0, 1) := by decide +kernel
theorem dL_law_352 : decode cL_law 352 = .ok (.iload_n 3, 1) := by decide +kernel
theorem dL_law_353 : decode cL_law 353 = .ok (.iconst 1, 1) := by decide +kernel
theorem dL_law_354 : decode cL_law 354 = .ok (.iadd, 1) := by decide +kernel
theorem dL_law_355 : decode cL_law 355 = .ok (.iaload, 1) := by decide +kernel
theorem dL_law_356 : decode cL_law 356 = .ok (.aload_n 0, 1) := by decide +kernel
theorem dL_law_357 : decode cL_law 357 = .ok (.iload_n 3, 1) := by decide +kernel
theorem dL_law_358 : decode cL_law 358 = .ok (.iconst 2, 1) := by decide +kernel
theorem dL_law_359 : decode cL_law 359 = .ok (.iadd, 1) := by decide +kernel
theorem dL_law_360 : decode cL_law 360 = .ok (.iaload, 1) := by decide +kernel
theorem dL_law_361 : decode cL_law 361 = .ok (.invokevirtual 35, 3) := by decide +kernel
theorem dL_law_364 : decode cL_law 364 = .ok (.if_icmp .eq 1008, 3) := by decide +kernel
theorem dL_law_367 : decode cL_law 367 = .ok (.iconst 0, 1) := by decide +kernel
theorem dL_law_368 : decode cL_law 368 = .ok (.ireturn, 1) := by decide +kernel
theorem dL_law_369 : decode cL_law 369 = .ok (.aload_n 1, 1) := by decide +kernel
theorem dL_law_370 : decode cL_law 370 = .ok (.aload_n 0, 1) := by decide +kernel
theorem dL_law_371 : decode cL_law 371 = .ok (.iload_n 3, 1) := by decide +kernel
theorem dL_law_372 : decode cL_law 372 = .ok (.iconst 1, 1) := by decide +kernel
theorem dL_law_373 : decode cL_law 373 = .ok (.iadd, 1) := by decide +kernel
theorem dL_law_374 : decode cL_law 374 = .ok (.iaload, 1) := by decide +kernel
theorem dL_law_375 : decode cL_law 375 = .ok (.aload_n 0, 1) := by decide +kernel
theorem dL_law_376 : decode cL_law 376 = .ok (.iload_n 3, 1) := by decide +kernel
theorem dL_law_377 : decode cL_law 377 = .ok (.iconst 2, 1) := by decide +kernel
theorem dL_law_378 : decode cL_law 378 = .ok (.iadd, 1) := by decide +kernel
theorem dL_law_379 : decode cL_law 379 = .ok (.iaload, 1) := by decide +kernel
theorem dL_law_380 : decode cL_law 380 = .ok (.aload_n 0, 1) := by decide +kernel
theorem dL_law_381 : decode cL_law 381 = .ok (.iload_n 3, 1) := by decide +kernel
theorem dL_law_382 : decode cL_law 382 = .ok (.iconst 3, 1) := by decide +kernel
theorem dL_law_383 : decode cL_law 383 = .ok (.iadd, 1) := by decide +kernel
theorem dL_law_384 : decode cL_law 384 = .ok (.iaload, 1) := by decide +kernel
theorem dL_law_385 : decode cL_law 385 = .ok (.invokevirtual 36, 3) := by decide +kernel
theorem dL_law_388 : decode cL_law 388 = .ok (.aload_n 2, 1) := by decide +kernel
theorem dL_law_389 : decode cL_law 389 = .ok (.aload_n 0, 1) := by decide +kernel
theorem dL_law_390 : decode cL_law 390 = .ok (.iload_n 3, 1) := by decide +kernel
theorem dL_law_391 : decode cL_law 391 = .ok (.iconst 1, 1) := by decide +kernel
theorem dL_law_392 : decode cL_law 392 = .ok (.iadd, 1) := by decide +kernel
theorem dL_law_393 : decode cL_law 393 = .ok (.iaload, 1) := by decide +kernel
theorem dL_law_394 : decode cL_law 394 = .ok (.aload_n 0, 1) := by decide +kernel
theorem dL_law_395 : decode cL_law 395 = .ok (.iload_n 3, 1) := by decide +kernel
theorem dL_law_396 : decode cL_law 396 = .ok (.iconst 2, 1) := by decide +kernel
theorem dL_law_397 : decode cL_law 397 = .ok (.iadd, 1) := by decide +kernel
theorem dL_law_398 : decode cL_law 398 = .ok (.iaload, 1) := by decide +kernel
theorem dL_law_399 : decode cL_law 399 = .ok (.aload_n 0, 1) := by decide +kernel
theorem dL_law_400 : decode cL_law 400 = .ok (.iload_n 3, 1) := by decide +kernel
theorem dL_law_401 : decode cL_law 401 = .ok (.iconst 3, 1) := by decide +kernel
theorem dL_law_402 : decode cL_law 402 = .ok (.iadd, 1) := by decide +kernel
theorem dL_law_403 : decode cL_law 403 = .ok (.iaload, 1) := by decide +kernel
theorem dL_law_404 : decode cL_law 404 = .ok (.invokevirtual 39, 3) := by decide +kernel
theorem dL_law_407 : decode cL_law 407 = .ok (.if_icmp .eq 965, 3) := by decide +kernel
theorem dL_law_410 : decode cL_law 410 = .ok (.iconst 0, 1) := by decide +kernel
theorem dL_law_411 : decode cL_law 411 = .ok (.ireturn, 1) := by decide +kernel
theorem dL_law_412 : decode cL_law 412 = .ok (.aload_n 1, 1) := by decide +kernel
theorem dL_law_413 : decode cL_law 413 = .ok (.aload_n 0, 1) := by decide +kernel
theorem dL_law_414 : decode cL_law 414 = .ok (.iload_n 3, 1) := by decide +kernel
theorem dL_law_415 : decode cL_law 415 = .ok (.iconst 1, 1) := by decide +kernel
theorem dL_law_416 : decode cL_law 416 = .ok (.iadd, 1) := by decide +kernel
theorem dL_law_417 : decode cL_law 417 = .ok (.iaload, 1) := by decide +kernel
theorem dL_law_418 : decode cL_law 418 = .ok (.invokevirtual 40, 3) := by decide +kernel
theorem dL_law_421 : decode cL_law 421 = .ok (.aload_n 2, 1) := by decide +kernel
theorem dL_law_422 : decode cL_law 422 = .ok (.aload_n 0, 1) := by decide +kernel
theorem dL_law_423 : decode cL_law 423 = .ok (.iload_n 3, 1) := by decide +kernel
theorem dL_law_424 : decode cL_law 424 = .ok (.iconst 1, 1) := by decide +kernel
theorem dL_law_425 : decode cL_law 425 = .ok (.iadd, 1) := by decide +kernel
theorem dL_law_426 : decode cL_law 426 = .ok (.iaload, 1) := by decide +kernel
theorem dL_law_427 : decode cL_law 427 = .ok (.invokevirtual 43, 3) := by decide +kernel
theorem dL_law_430 : decode cL_law 430 = .ok (.if_icmp .eq 942, 3) := by decide +kernel
theorem dL_law_433 : decode cL_law 433 = .ok (.iconst 0, 1) := by decide +kernel
theorem dL_law_434 : decode cL_law 434 = .ok (.ireturn, 1) := by decide +kernel
theorem dL_law_435 : decode cL_law 435 = .ok (.aload_n 1, 1) := by decide +kernel
theorem dL_law_436 : decode cL_law 436 = .ok (.aload_n 0, 1) := by decide +kernel
theorem dL_law_437 : decode cL_law 437 = .ok (.iload_n 3, 1) := by decide +kernel
theorem dL_law_438 : decode cL_law 438 = .ok (.iconst 1, 1) := by decide +kernel
theorem dL_law_439 : decode cL_law 439 = .ok (.iadd, 1) := by decide +kernel
theorem dL_law_440 : decode cL_law 440 = .ok (.iaload, 1) := by decide +kernel
theorem dL_law_441 : decode cL_law 441 = .ok (.invokevirtual 44, 3) := by decide +kernel
theorem dL_law_444 : decode cL_law 444 = .ok (.aload_n 2, 1) := by decide +kernel
theorem dL_law_445 : decode cL_law 445 = .ok (.aload_n 0, 1) := by decide +kernel
theorem dL_law_446 : decode cL_law 446 = .ok (.iload_n 3, 1) := by decide +kernel
theorem dL_law_447 : decode cL_law 447 = .ok (.iconst 1, 1) := by decide +kernel
theorem dL_law_448 : decode cL_law 448 = .ok (.iadd, 1) := by decide +kernel
theorem dL_law_449 : decode cL_law 449 = .ok (.iaload, 1) := by decide +kernel
theorem dL_law_450 : decode cL_law 450 = .ok (.invokevirtual 47, 3) := by decide +kernel
theorem dL_law_453 : decode cL_law 453 = .ok (.if_icmp .eq 919, 3) := by decide +kernel
theorem dL_law_456 : decode cL_law 456 = .ok (.iconst 0, 1) := by decide +kernel
theorem dL_law_457 : decode cL_law 457 = .ok (.ireturn, 1) := by decide +kernel
theorem dL_law_458 : decode cL_law 458 = .ok (.aload_n 1, 1) := by decide +kernel
theorem dL_law_459 : decode cL_law 459 = .ok (.aload_n 0, 1) := by decide +kernel
theorem dL_law_460 : decode cL_law 460 = .ok (.iload_n 3, 1) := by decide +kernel
theorem dL_law_461 : decode cL_law 461 = .ok (.iconst 1, 1) := by decide +kernel
theorem dL_law_462 : decode cL_law 462 = .ok (.iadd, 1) := by decide +kernel
theorem dL_law_463 : decode cL_law 463 = .ok (.iaload, 1) := by decide +kernel
theorem dL_law_464 : decode cL_law 464 = .ok (.aload_n 0, 1) := by decide +kernel
theorem dL_law_465 : decode cL_law 465 = .ok (.iload_n 3, 1) := by decide +kernel
theorem dL_law_466 : decode cL_law 466 = .ok (.iconst 2, 1) := by decide +kernel
theorem dL_law_467 : decode cL_law 467 = .ok (.iadd, 1) := by decide +kernel
theorem dL_law_468 : decode cL_law 468 = .ok (.iaload, 1) := by decide +kernel
theorem dL_law_469 : decode cL_law 469 = .ok (.aload_n 0, 1) := by decide +kernel
theorem dL_law_470 : decode cL_law 470 = .ok (.iload_n 3, 1) := by decide +kernel
theorem dL_law_471 : decode cL_law 471 = .ok (.iconst 3, 1) := by decide +kernel
theorem dL_law_472 : decode cL_law 472 = .ok (.iadd, 1) := by decide +kernel
theorem dL_law_473 : decode cL_law 473 = .ok (.iaload, 1) := by decide +kernel
theorem dL_law_474 : decode cL_law 474 = .ok (.invokevirtual 48, 3) := by decide +kernel
theorem dL_law_477 : decode cL_law 477 = .ok (.aload_n 2, 1) := by decide +kernel
theorem dL_law_478 : decode cL_law 478 = .ok (.aload_n 0, 1) := by decide +kernel
theorem dL_law_479 : decode cL_law 479 = .ok (.iload_n 3, 1) := by decide +kernel
theorem dL_law_480 : decode cL_law 480 = .ok (.iconst 1, 1) := by decide +kernel
theorem dL_law_481 : decode cL_law 481 = .ok (.iadd, 1) := by decide +kernel
theorem dL_law_482 : decode cL_law 482 = .ok (.iaload, 1) := by decide +kernel
theorem dL_law_483 : decode cL_law 483 = .ok (.aload_n 0, 1) := by decide +kernel
theorem dL_law_484 : decode cL_law 484 = .ok (.iload_n 3, 1) := by decide +kernel
theorem dL_law_485 : decode cL_law 485 = .ok (.iconst 2, 1) := by decide +kernel
theorem dL_law_486 : decode cL_law 486 = .ok (.iadd, 1) := by decide +kernel
theorem dL_law_487 : decode cL_law 487 = .ok (.iaload, 1) := by decide +kernel
theorem dL_law_488 : decode cL_law 488 = .ok (.aload_n 0, 1) := by decide +kernel
theorem dL_law_489 : decode cL_law 489 = .ok (.iload_n 3, 1) := by decide +kernel
theorem dL_law_490 : decode cL_law 490 = .ok (.iconst 3, 1) := by decide +kernel
theorem dL_law_491 : decode cL_law 491 = .ok (.iadd, 1) := by decide +kernel
theorem dL_law_492 : decode cL_law 492 = .ok (.iaload, 1) := by decide +kernel
theorem dL_law_493 : decode cL_law 493 = .ok (.invokevirtual 51, 3) := by decide +kernel
theorem dL_law_496 : decode cL_law 496 = .ok (.if_icmp .eq 876, 3) := by decide +kernel
theorem dL_law_499 : decode cL_law 499 = .ok (.iconst 0, 1) := by decide +kernel
theorem dL_law_500 : decode cL_law 500 = .ok (.ireturn, 1) := by decide +kernel
theorem dL_law_501 : decode cL_law 501 = .ok (.aload_n 1, 1) := by decide +kernel
theorem dL_law_502 : decode cL_law 502 = .ok (.aload_n 0, 1) := by decide +kernel
theorem dL_law_503 : decode cL_law 503 = .ok (.iload_n 3, 1) := by decide +kernel
theorem dL_law_504 : decode cL_law 504 = .ok (.iconst 1, 1) := by decide +kernel
theorem dL_law_505 : decode cL_law 505 = .ok (.iadd, 1) := by decide +kernel
theorem dL_law_506 : decode cL_law 506 = .ok (.iaload, 1) := by decide +kernel
theorem dL_law_507 : decode cL_law 507 = .ok (.aload_n 0, 1) := by decide +kernel
theorem dL_law_508 : decode cL_law 508 = .ok (.iload_n 3, 1) := by decide +kernel
theorem dL_law_509 : decode cL_law 509 = .ok (.iconst 2, 1) := by decide +kernel
theorem dL_law_510 : decode cL_law 510 = .ok (.iadd, 1) := by decide +kernel
theorem dL_law_511 : decode cL_law 511 = .ok (.iaload, 1) := by decide +kernel
theorem dL_law_512 : decode cL_law 512 = .ok (.invokevirtual 52, 3) := by decide +kernel
theorem dL_law_515 : decode cL_law 515 = .ok (.aload_n 2, 1) := by decide +kernel
theorem dL_law_516 : decode cL_law 516 = .ok (.aload_n 0, 1) := by decide +kernel
theorem dL_law_517 : decode cL_law 517 = .ok (.iload_n 3, 1) := by decide +kernel
theorem dL_law_518 : decode cL_law 518 = .ok (.iconst 1, 1) := by decide +kernel
theorem dL_law_519 : decode cL_law 519 = .ok (.iadd, 1) := by decide +kernel
theorem dL_law_520 : decode cL_law 520 = .ok (.iaload, 1) := by decide +kernel
theorem dL_law_521 : decode cL_law 521 = .ok (.aload_n 0, 1) := by decide +kernel
theorem dL_law_522 : decode cL_law 522 = .ok (.iload_n 3, 1) := by decide +kernel
theorem dL_law_523 : decode cL_law 523 = .ok (.iconst 2, 1) := by decide +kernel
theorem dL_law_524 : decode cL_law 524 = .ok (.iadd, 1) := by decide +kernel
theorem dL_law_525 : decode cL_law 525 = .ok (.iaload, 1) := by decide +kernel
theorem dL_law_526 : decode cL_law 526 = .ok (.invokevirtual 55, 3) := by decide +kernel
theorem dL_law_529 : decode cL_law 529 = .ok (.if_icmp .eq 843, 3) := by decide +kernel
theorem dL_law_532 : decode cL_law 532 = .ok (.iconst 0, 1) := by decide +kernel
theorem dL_law_533 : decode cL_law 533 = .ok (.ireturn, 1) := by decide +kernel
theorem dL_law_534 : decode cL_law 534 = .ok (.aload_n 1, 1) := by decide +kernel
theorem dL_law_535 : decode cL_law 535 = .ok (.aload_n 0, 1) := by decide +kernel
theorem dL_law_536 : decode cL_law 536 = .ok (.iload_n 3, 1) := by decide +kernel
theorem dL_law_537 : decode cL_law 537 = .ok (.iconst 1, 1) := by decide +kernel
theorem dL_law_538 : decode cL_law 538 = .ok (.iadd, 1) := by decide +kernel
theorem dL_law_539 : decode cL_law 539 = .ok (.iaload, 1) := by decide +kernel
theorem dL_law_540 : decode cL_law 540 = .ok (.aload_n 0, 1) := by decide +kernel
theorem dL_law_541 : decode cL_law 541 = .ok (.iload_n 3, 1) := by decide +kernel
theorem dL_law_542 : decode cL_law 542 = .ok (.iconst 2, 1) := by decide +kernel
theorem dL_law_543 : decode cL_law 543 = .ok (.iadd, 1) := by decide +kernel
theorem dL_law_544 : decode cL_law 544 = .ok (.iaload, 1) := by decide +kernel
theorem dL_law_545 : decode cL_law 545 = .ok (.invokevirtual 56, 3) := by decide +kernel
theorem dL_law_548 : decode cL_law 548 = .ok (.aload_n 2, 1) := by decide +kernel
theorem dL_law_549 : decode cL_law 549 = .ok (.aload_n 0, 1) := by decide +kernel
theorem dL_law_550 : decode cL_law 550 = .ok (.iload_n 3, 1) := by decide +kernel
theorem dL_law_551 : decode cL_law 551 = .ok (.iconst 1, 1) := by decide +kernel
theorem dL_law_552 : decode cL_law 552 = .ok (.iadd, 1) := by decide +kernel
theorem dL_law_553 : decode cL_law 553 = .ok (.iaload, 1) := by decide +kernel
theorem dL_law_554 : decode cL_law 554 = .ok (.aload_n 0, 1) := by decide +kernel
theorem dL_law_555 : decode cL_law 555 = .ok (.iload_n 3, 1) := by decide +kernel
theorem dL_law_556 : decode cL_law 556 = .ok (.iconst 2, 1) := by decide +kernel
theorem dL_law_557 : decode cL_law 557 = .ok (.iadd, 1) := by decide +kernel
theorem dL_law_558 : decode cL_law 558 = .ok (.iaload, 1) := by decide +kernel
theorem dL_law_559 : decode cL_law 559 = .ok (.invokevirtual 59, 3) := by decide +kernel
theorem dL_law_562 : decode cL_law 562 = .ok (.if_icmp .eq 810, 3) := by decide +kernel
theorem dL_law_565 : decode cL_law 565 = .ok (.iconst 0, 1) := by decide +kernel
theorem dL_law_566 : decode cL_law 566 = .ok (.ireturn, 1) := by decide +kernel
theorem dL_law_567 : decode cL_law 567 = .ok (.aload_n 1, 1) := by decide +kernel
theorem dL_law_568 : decode cL_law 568 = .ok (.aload_n 0, 1) := by decide +kernel
theorem dL_law_569 : decode cL_law 569 = .ok (.iload_n 3, 1) := by decide +kernel
theorem dL_law_570 : decode cL_law 570 = .ok (.iconst 1, 1) := by decide +kernel
theorem dL_law_571 : decode cL_law 571 = .ok (.iadd, 1) := by decide +kernel
theorem dL_law_572 : decode cL_law 572 = .ok (.iaload, 1) := by decide +kernel
theorem dL_law_573 : decode cL_law 573 = .ok (.invokevirtual 60, 3) := by decide +kernel
theorem dL_law_576 : decode cL_law 576 = .ok (.aload_n 2, 1) := by decide +kernel
theorem dL_law_577 : decode cL_law 577 = .ok (.aload_n 0, 1) := by decide +kernel
theorem dL_law_578 : decode cL_law 578 = .ok (.iload_n 3, 1) := by decide +kernel
theorem dL_law_579 : decode cL_law 579 = .ok (.iconst 1, 1) := by decide +kernel
theorem dL_law_580 : decode cL_law 580 = .ok (.iadd, 1) := by decide +kernel
theorem dL_law_581 : decode cL_law 581 = .ok (.iaload, 1) := by decide +kernel
theorem dL_law_582 : decode cL_law 582 = .ok (.invokevirtual 63, 3) := by decide +kernel
theorem dL_law_585 : decode cL_law 585 = .ok (.if_icmp .eq 787, 3) := by decide +kernel
theorem dL_law_588 : decode cL_law 588 = .ok (.iconst 0, 1) := by decide +kernel
theorem dL_law_589 : decode cL_law 589 = .ok (.ireturn, 1) := by decide +kernel
theorem dL_law_590 : decode cL_law 590 = .ok (.aload_n 1, 1) := by decide +kernel
theorem dL_law_591 : decode cL_law 591 = .ok (.invokevirtual 64, 3) := by decide +kernel
theorem dL_law_594 : decode cL_law 594 = .ok (.aload_n 2, 1) := by decide +kernel
theorem dL_law_595 : decode cL_law 595 = .ok (.invokevirtual 68, 3) := by decide +kernel
theorem dL_law_598 : decode cL_law 598 = .ok (.if_icmp .eq 774, 3) := by decide +kernel
theorem dL_law_601 : decode cL_law 601 = .ok (.iconst 0, 1) := by decide +kernel
theorem dL_law_602 : decode cL_law 602 = .ok (.ireturn, 1) := by decide +kernel
theorem dL_law_603 : decode cL_law 603 = .ok (.aload_n 1, 1) := by decide +kernel
theorem dL_law_604 : decode cL_law 604 = .ok (.aload_n 0, 1) := by decide +kernel
theorem dL_law_605 : decode cL_law 605 = .ok (.iload_n 3, 1) := by decide +kernel
theorem dL_law_606 : decode cL_law 606 = .ok (.iconst 1, 1) := by decide +kernel
theorem dL_law_607 : decode cL_law 607 = .ok (.iadd, 1) := by decide +kernel
theorem dL_law_608 : decode cL_law 608 = .ok (.iaload, 1) := by decide +kernel
theorem dL_law_609 : decode cL_law 609 = .ok (.invokevirtual 69, 3) := by decide +kernel
theorem dL_law_612 : decode cL_law 612 = .ok (.aload_n 2, 1) := by decide +kernel
theorem dL_law_613 : decode cL_law 613 = .ok (.aload_n 0, 1) := by decide +kernel
theorem dL_law_614 : decode cL_law 614 = .ok (.iload_n 3, 1) := by decide +kernel
theorem dL_law_615 : decode cL_law 615 = .ok (.iconst 1, 1) := by decide +kernel
theorem dL_law_616 : decode cL_law 616 = .ok (.iadd, 1) := by decide +kernel
theorem dL_law_617 : decode cL_law 617 = .ok (.iaload, 1) := by decide +kernel
theorem dL_law_618 : decode cL_law 618 = .ok (.invokevirtual 72, 3) := by decide +kernel
theorem dL_law_621 : decode cL_law 621 = .ok (.if_icmp .eq 751, 3) := by decide +kernel
theorem dL_law_624 : decode cL_law 624 = .ok (.iconst 0, 1) := by decide +kernel
theorem dL_law_625 : decode cL_law 625 = .ok (.ireturn, 1) := by decide +kernel
theorem dL_law_626 : decode cL_law 626 = .ok (.aload_n 1, 1) := by decide +kernel
theorem dL_law_627 : decode cL_law 627 = .ok (.aload_n 0, 1) := by decide +kernel
theorem dL_law_628 : decode cL_law 628 = .ok (.iload_n 3, 1) := by decide +kernel
theorem dL_law_629 : decode cL_law 629 = .ok (.iconst 1, 1) := by decide +kernel
theorem dL_law_630 : decode cL_law 630 = .ok (.iadd, 1) := by decide +kernel
theorem dL_law_631 : decode cL_law 631 = .ok (.iaload, 1) := by decide +kernel
theorem dL_law_632 : decode cL_law 632 = .ok (.aload_n 0, 1) := by decide +kernel
theorem dL_law_633 : decode cL_law 633 = .ok (.iload_n 3, 1) := by decide +kernel
theorem dL_law_634 : decode cL_law 634 = .ok (.iconst 2, 1) := by decide +kernel
theorem dL_law_635 : decode cL_law 635 = .ok (.iadd, 1) := by decide +kernel
theorem dL_law_636 : decode cL_law 636 = .ok (.iaload, 1) := by decide +kernel
theorem dL_law_637 : decode cL_law 637 = .ok (.aload_n 0, 1) := by decide +kernel
theorem dL_law_638 : decode cL_law 638 = .ok (.iload_n 3, 1) := by decide +kernel
theorem dL_law_639 : decode cL_law 639 = .ok (.iconst 3, 1) := by decide +kernel
theorem dL_law_640 : decode cL_law 640 = .ok (.iadd, 1) := by decide +kernel
theorem dL_law_641 : decode cL_law 641 = .ok (.iaload, 1) := by decide +kernel
theorem dL_law_642 : decode cL_law 642 = .ok (.invokevirtual 73, 3) := by decide +kernel
theorem dL_law_645 : decode cL_law 645 = .ok (.aload_n 2, 1) := by decide +kernel
theorem dL_law_646 : decode cL_law 646 = .ok (.aload_n 0, 1) := by decide +kernel
theorem dL_law_647 : decode cL_law 647 = .ok (.iload_n 3, 1) := by decide +kernel
theorem dL_law_648 : decode cL_law 648 = .ok (.iconst 1, 1) := by decide +kernel
theorem dL_law_649 : decode cL_law 649 = .ok (.iadd, 1) := by decide +kernel
theorem dL_law_650 : decode cL_law 650 = .ok (.iaload, 1) := by decide +kernel
theorem dL_law_651 : decode cL_law 651 = .ok (.aload_n 0, 1) := by decide +kernel
theorem dL_law_652 : decode cL_law 652 = .ok (.iload_n 3, 1) := by decide +kernel
theorem dL_law_653 : decode cL_law 653 = .ok (.iconst 2, 1) := by decide +kernel
theorem dL_law_654 : decode cL_law 654 = .ok (.iadd, 1) := by decide +kernel
theorem dL_law_655 : decode cL_law 655 = .ok (.iaload, 1) := by decide +kernel
theorem dL_law_656 : decode cL_law 656 = .ok (.aload_n 0, 1) := by decide +kernel
theorem dL_law_657 : decode cL_law 657 = .ok (.iload_n 3, 1) := by decide +kernel
theorem dL_law_658 : decode cL_law 658 = .ok (.iconst 3, 1) := by decide +kernel
theorem dL_law_659 : decode cL_law 659 = .ok (.iadd, 1) := by decide +kernel
theorem dL_law_660 : decode cL_law 660 = .ok (.iaload, 1) := by decide +kernel
theorem dL_law_661 : decode cL_law 661 = .ok (.invokevirtual 76, 3) := by decide +kernel
theorem dL_law_664 : decode cL_law 664 = .ok (.if_icmp .eq 708, 3) := by decide +kernel
theorem dL_law_667 : decode cL_law 667 = .ok (.iconst 0, 1) := by decide +kernel
theorem dL_law_668 : decode cL_law 668 = .ok (.ireturn, 1) := by decide +kernel
theorem dL_law_669 : decode cL_law 669 = .ok (.aload_n 1, 1) := by decide +kernel
theorem dL_law_670 : decode cL_law 670 = .ok (.aload_n 0, 1) := by decide +kernel
theorem dL_law_671 : decode cL_law 671 = .ok (.iload_n 3, 1) := by decide +kernel
theorem dL_law_672 : decode cL_law 672 = .ok (.iconst 1, 1) := by decide +kernel
theorem dL_law_673 : decode cL_law 673 = .ok (.iadd, 1) := by decide +kernel
theorem dL_law_674 : decode cL_law 674 = .ok (.iaload, 1) := by decide +kernel
theorem dL_law_675 : decode cL_law 675 = .ok (.aload_n 0, 1) := by decide +kernel
theorem dL_law_676 : decode cL_law 676 = .ok (.iload_n 3, 1) := by decide +kernel
theorem dL_law_677 : decode cL_law 677 = .ok (.iconst 2, 1) := by decide +kernel
theorem dL_law_678 : decode cL_law 678 = .ok (.iadd, 1) := by decide +kernel
theorem dL_law_679 : decode cL_law 679 = .ok (.iaload, 1) := by decide +kernel
theorem dL_law_680 : decode cL_law 680 = .ok (.invokevirtual 77, 3) := by decide +kernel
theorem dL_law_683 : decode cL_law 683 = .ok (.aload_n 2, 1) := by decide +kernel
theorem dL_law_684 : decode cL_law 684 = .ok (.aload_n 0, 1) := by decide +kernel
theorem dL_law_685 : decode cL_law 685 = .ok (.iload_n 3, 1) := by decide +kernel
theorem dL_law_686 : decode cL_law 686 = .ok (.iconst 1, 1) := by decide +kernel
theorem dL_law_687 : decode cL_law 687 = .ok (.iadd, 1) := by decide +kernel
theorem dL_law_688 : decode cL_law 688 = .ok (.iaload, 1) := by decide +kernel
theorem dL_law_689 : decode cL_law 689 = .ok (.aload_n 0, 1) := by decide +kernel
theorem dL_law_690 : decode cL_law 690 = .ok (.iload_n 3, 1) := by decide +kernel
theorem dL_law_691 : decode cL_law 691 = .ok (.iconst 2, 1) := by decide +kernel
theorem dL_law_692 : decode cL_law 692 = .ok (.iadd, 1) := by decide +kernel
theorem dL_law_693 : decode cL_law 693 = .ok (.iaload, 1) := by decide +kernel
theorem dL_law_694 : decode cL_law 694 = .ok (.invokevirtual 80, 3) := by decide +kernel
theorem dL_law_697 : decode cL_law 697 = .ok (.if_icmp .eq 675, 3) := by decide +kernel
theorem dL_law_700 : decode cL_law 700 = .ok (.iconst 0, 1) := by decide +kernel
theorem dL_law_701 : decode cL_law 701 = .ok (.ireturn, 1) := by decide +kernel
theorem dL_law_702 : decode cL_law 702 = .ok (.aload_n 1, 1) := by decide +kernel
theorem dL_law_703 : decode cL_law 703 = .ok (.aload_n 0, 1) := by decide +kernel
theorem dL_law_704 : decode cL_law 704 = .ok (.iload_n 3, 1) := by decide +kernel
theorem dL_law_705 : decode cL_law 705 = .ok (.iconst 1, 1) := by decide +kernel
theorem dL_law_706 : decode cL_law 706 = .ok (.iadd, 1) := by decide +kernel
theorem dL_law_707 : decode cL_law 707 = .ok (.iaload, 1) := by decide +kernel
theorem dL_law_708 : decode cL_law 708 = .ok (.aload_n 0, 1) := by decide +kernel
theorem dL_law_709 : decode cL_law 709 = .ok (.iload_n 3, 1) := by decide +kernel
theorem dL_law_710 : decode cL_law 710 = .ok (.iconst 2, 1) := by decide +kernel
theorem dL_law_711 : decode cL_law 711 = .ok (.iadd, 1) := by decide +kernel
theorem dL_law_712 : decode cL_law 712 = .ok (.iaload, 1) := by decide +kernel
theorem dL_law_713 : decode cL_law 713 = .ok (.invokevirtual 81, 3) := by decide +kernel
theorem dL_law_716 : decode cL_law 716 = .ok (.aload_n 2, 1) := by decide +kernel
theorem dL_law_717 : decode cL_law 717 = .ok (.aload_n 0, 1) := by decide +kernel
theorem dL_law_718 : decode cL_law 718 = .ok (.iload_n 3, 1) := by decide +kernel
theorem dL_law_719 : decode cL_law 719 = .ok (.iconst 1, 1) := by decide +kernel
theorem dL_law_720 : decode cL_law 720 = .ok (.iadd, 1) := by decide +kernel
theorem dL_law_721 : decode cL_law 721 = .ok (.iaload, 1) := by decide +kernel
theorem dL_law_722 : decode cL_law 722 = .ok (.aload_n 0, 1) := by decide +kernel
theorem dL_law_723 : decode cL_law 723 = .ok (.iload_n 3, 1) := by decide +kernel
theorem dL_law_724 : decode cL_law 724 = .ok (.iconst 2, 1) := by decide +kernel
theorem dL_law_725 : decode cL_law 725 = .ok (.iadd, 1) := by decide +kernel
theorem dL_law_726 : decode cL_law 726 = .ok (.iaload, 1) := by decide +kernel
theorem dL_law_727 : decode cL_law 727 = .ok (.invokevirtual 84, 3) := by decide +kernel
theorem dL_law_730 : decode cL_law 730 = .ok (.if_icmp .eq 642, 3) := by decide +kernel
theorem dL_law_733 : decode cL_law 733 = .ok (.iconst 0, 1) := by decide +kernel
theorem dL_law_734 : decode cL_law 734 = .ok (.ireturn, 1) := by decide +kernel
theorem dL_law_735 : decode cL_law 735 = .ok (.aload_n 1, 1) := by decide +kernel
theorem dL_law_736 : decode cL_law 736 = .ok (.aload_n 0, 1) := by decide +kernel
theorem dL_law_737 : decode cL_law 737 = .ok (.iload_n 3, 1) := by decide +kernel
theorem dL_law_738 : decode cL_law 738 = .ok (.iconst 1, 1) := by decide +kernel
theorem dL_law_739 : decode cL_law 739 = .ok (.iadd, 1) := by decide +kernel
theorem dL_law_740 : decode cL_law 740 = .ok (.iaload, 1) := by decide +kernel
theorem dL_law_741 : decode cL_law 741 = .ok (.aload_n 0, 1) := by decide +kernel
theorem dL_law_742 : decode cL_law 742 = .ok (.iload_n 3, 1) := by decide +kernel
theorem dL_law_743 : decode cL_law 743 = .ok (.iconst 2, 1) := by decide +kernel
theorem dL_law_744 : decode cL_law 744 = .ok (.iadd, 1) := by decide +kernel
theorem dL_law_745 : decode cL_law 745 = .ok (.iaload, 1) := by decide +kernel
theorem dL_law_746 : decode cL_law 746 = .ok (.aload_n 0, 1) := by decide +kernel
theorem dL_law_747 : decode cL_law 747 = .ok (.iload_n 3, 1) := by decide +kernel
theorem dL_law_748 : decode cL_law 748 = .ok (.iconst 3, 1) := by decide +kernel
theorem dL_law_749 : decode cL_law 749 = .ok (.iadd, 1) := by decide +kernel
theorem dL_law_750 : decode cL_law 750 = .ok (.iaload, 1) := by decide +kernel
theorem dL_law_751 : decode cL_law 751 = .ok (.aload_n 0, 1) := by decide +kernel
theorem dL_law_752 : decode cL_law 752 = .ok (.iload_n 3, 1) := by decide +kernel
theorem dL_law_753 : decode cL_law 753 = .ok (.iconst 4, 1) := by decide +kernel
theorem dL_law_754 : decode cL_law 754 = .ok (.iadd, 1) := by decide +kernel
theorem dL_law_755 : decode cL_law 755 = .ok (.iaload, 1) := by decide +kernel
theorem dL_law_756 : decode cL_law 756 = .ok (.invokevirtual 85, 3) := by decide +kernel
theorem dL_law_759 : decode cL_law 759 = .ok (.aload_n 2, 1) := by decide +kernel
theorem dL_law_760 : decode cL_law 760 = .ok (.aload_n 0, 1) := by decide +kernel
theorem dL_law_761 : decode cL_law 761 = .ok (.iload_n 3, 1) := by decide +kernel
theorem dL_law_762 : decode cL_law 762 = .ok (.iconst 1, 1) := by decide +kernel
theorem dL_law_763 : decode cL_law 763 = .ok (.iadd, 1) := by decide +kernel
theorem dL_law_764 : decode cL_law 764 = .ok (.iaload, 1) := by decide +kernel
theorem dL_law_765 : decode cL_law 765 = .ok (.aload_n 0, 1) := by decide +kernel
theorem dL_law_766 : decode cL_law 766 = .ok (.iload_n 3, 1) := by decide +kernel
theorem dL_law_767 : decode cL_law 767 = .ok (.iconst 2, 1) := by decide +kernel
theorem dL_law_768 : decode cL_law 768 = .ok (.iadd, 1) := by decide +kernel
theorem dL_law_769 : decode cL_law 769 = .ok (.iaload, 1) := by decide +kernel
theorem dL_law_770 : decode cL_law 770 = .ok (.aload_n 0, 1) := by decide +kernel
theorem dL_law_771 : decode cL_law 771 = .ok (.iload_n 3, 1) := by decide +kernel
theorem dL_law_772 : decode cL_law 772 = .ok (.iconst 3, 1) := by decide +kernel
theorem dL_law_773 : decode cL_law 773 = .ok (.iadd, 1) := by decide +kernel
theorem dL_law_774 : decode cL_law 774 = .ok (.iaload, 1) := by decide +kernel
theorem dL_law_775 : decode cL_law 775 = .ok (.aload_n 0, 1) := by decide +kernel
theorem dL_law_776 : decode cL_law 776 = .ok (.iload_n 3, 1) := by decide +kernel
theorem dL_law_777 : decode cL_law 777 = .ok (.iconst 4, 1) := by decide +kernel
theorem dL_law_778 : decode cL_law 778 = .ok (.iadd, 1) := by decide +kernel
theorem dL_law_779 : decode cL_law 779 = .ok (.iaload, 1) := by decide +kernel
theorem dL_law_780 : decode cL_law 780 = .ok (.invokevirtual 89, 3) := by decide +kernel
theorem dL_law_783 : decode cL_law 783 = .ok (.if_icmp .eq 589, 3) := by decide +kernel
theorem dL_law_786 : decode cL_law 786 = .ok (.iconst 0, 1) := by decide +kernel
theorem dL_law_787 : decode cL_law 787 = .ok (.ireturn, 1) := by decide +kernel
theorem dL_law_788 : decode cL_law 788 = .ok (.aload_n 1, 1) := by decide +kernel
theorem dL_law_789 : decode cL_law 789 = .ok (.aload_n 0, 1) := by decide +kernel
theorem dL_law_790 : decode cL_law 790 = .ok (.iload_n 3, 1) := by decide +kernel
theorem dL_law_791 : decode cL_law 791 = .ok (.iconst 1, 1) := by decide +kernel
theorem dL_law_792 : decode cL_law 792 = .ok (.iadd, 1) := by decide +kernel
theorem dL_law_793 : decode cL_law 793 = .ok (.iaload, 1) := by decide +kernel
theorem dL_law_794 : decode cL_law 794 = .ok (.invokevirtual 90, 3) := by decide +kernel
theorem dL_law_797 : decode cL_law 797 = .ok (.aload_n 2, 1) := by decide +kernel
theorem dL_law_798 : decode cL_law 798 = .ok (.aload_n 0, 1) := by decide +kernel
theorem dL_law_799 : decode cL_law 799 = .ok (.iload_n 3, 1) := by decide +kernel
theorem dL_law_800 : decode cL_law 800 = .ok (.iconst 1, 1) := by decide +kernel
theorem dL_law_801 : decode cL_law 801 = .ok (.iadd, 1) := by decide +kernel
theorem dL_law_802 : decode cL_law 802 = .ok (.iaload, 1) := by decide +kernel
theorem dL_law_803 : decode cL_law 803 = .ok (.invokevirtual 93, 3) := by decide +kernel
theorem dL_law_806 : decode cL_law 806 = .ok (.if_icmp .eq 566, 3) := by decide +kernel
theorem dL_law_809 : decode cL_law 809 = .ok (.iconst 0, 1) := by decide +kernel
theorem dL_law_810 : decode cL_law 810 = .ok (.ireturn, 1) := by decide +kernel
theorem dL_law_811 : decode cL_law 811 = .ok (.aload_n 1, 1) := by decide +kernel
theorem dL_law_812 : decode cL_law 812 = .ok (.aload_n 0, 1) := by decide +kernel
theorem dL_law_813 : decode cL_law 813 = .ok (.iload_n 3, 1) := by decide +kernel
theorem dL_law_814 : decode cL_law 814 = .ok (.iconst 1, 1) := by decide +kernel
theorem dL_law_815 : decode cL_law 815 = .ok (.iadd, 1) := by decide +kernel
theorem dL_law_816 : decode cL_law 816 = .ok (.iaload, 1) := by decide +kernel
theorem dL_law_817 : decode cL_law 817 = .ok (.aload_n 0, 1) := by decide +kernel
theorem dL_law_818 : decode cL_law 818 = .ok (.iload_n 3, 1) := by decide +kernel
theorem dL_law_819 : decode cL_law 819 = .ok (.iconst 2, 1) := by decide +kernel
theorem dL_law_820 : decode cL_law 820 = .ok (.iadd, 1) := by decide +kernel
theorem dL_law_821 : decode cL_law 821 = .ok (.iaload, 1) := by decide +kernel
theorem dL_law_822 : decode cL_law 822 = .ok (.invokevirtual 94, 3) := by decide +kernel
theorem dL_law_825 : decode cL_law 825 = .ok (.aload_n 2, 1) := by decide +kernel
theorem dL_law_826 : decode cL_law 826 = .ok (.aload_n 0, 1) := by decide +kernel
theorem dL_law_827 : decode cL_law 827 = .ok (.iload_n 3, 1) := by decide +kernel
theorem dL_law_828 : decode cL_law 828 = .ok (.iconst 1, 1) := by decide +kernel
theorem dL_law_829 : decode cL_law 829 = .ok (.iadd, 1) := by decide +kernel
theorem dL_law_830 : decode cL_law 830 = .ok (.iaload, 1) := by decide +kernel
theorem dL_law_831 : decode cL_law 831 = .ok (.aload_n 0, 1) := by decide +kernel
theorem dL_law_832 : decode cL_law 832 = .ok (.iload_n 3, 1) := by decide +kernel
theorem dL_law_833 : decode cL_law 833 = .ok (.iconst 2, 1) := by decide +kernel
theorem dL_law_834 : decode cL_law 834 = .ok (.iadd, 1) := by decide +kernel
theorem dL_law_835 : decode cL_law 835 = .ok (.iaload, 1) := by decide +kernel
theorem dL_law_836 : decode cL_law 836 = .ok (.invokevirtual 97, 3) := by decide +kernel
theorem dL_law_839 : decode cL_law 839 = .ok (.if_icmp .eq 533, 3) := by decide +kernel
theorem dL_law_842 : decode cL_law 842 = .ok (.iconst 0, 1) := by decide +kernel
theorem dL_law_843 : decode cL_law 843 = .ok (.ireturn, 1) := by decide +kernel
theorem dL_law_844 : decode cL_law 844 = .ok (.aload_n 1, 1) := by decide +kernel
theorem dL_law_845 : decode cL_law 845 = .ok (.aload_n 0, 1) := by decide +kernel
theorem dL_law_846 : decode cL_law 846 = .ok (.iload_n 3, 1) := by decide +kernel
theorem dL_law_847 : decode cL_law 847 = .ok (.iconst 1, 1) := by decide +kernel
theorem dL_law_848 : decode cL_law 848 = .ok (.iadd, 1) := by decide +kernel
theorem dL_law_849 : decode cL_law 849 = .ok (.iaload, 1) := by decide +kernel
theorem dL_law_850 : decode cL_law 850 = .ok (.aload_n 0, 1) := by decide +kernel
theorem dL_law_851 : decode cL_law 851 = .ok (.iload_n 3, 1) := by decide +kernel
theorem dL_law_852 : decode cL_law 852 = .ok (.iconst 2, 1) := by decide +kernel
theorem dL_law_853 : decode cL_law 853 = .ok (.iadd, 1) := by decide +kernel
theorem dL_law_854 : decode cL_law 854 = .ok (.iaload, 1) := by decide +kernel
theorem dL_law_855 : decode cL_law 855 = .ok (.invokevirtual 98, 3) := by decide +kernel
theorem dL_law_858 : decode cL_law 858 = .ok (.aload_n 2, 1) := by decide +kernel
theorem dL_law_859 : decode cL_law 859 = .ok (.aload_n 0, 1) := by decide +kernel
theorem dL_law_860 : decode cL_law 860 = .ok (.iload_n 3, 1) := by decide +kernel
theorem dL_law_861 : decode cL_law 861 = .ok (.iconst 1, 1) := by decide +kernel
theorem dL_law_862 : decode cL_law 862 = .ok (.iadd, 1) := by decide +kernel
theorem dL_law_863 : decode cL_law 863 = .ok (.iaload, 1) := by decide +kernel
theorem dL_law_864 : decode cL_law 864 = .ok (.aload_n 0, 1) := by decide +kernel
theorem dL_law_865 : decode cL_law 865 = .ok (.iload_n 3, 1) := by decide +kernel
theorem dL_law_866 : decode cL_law 866 = .ok (.iconst 2, 1) := by decide +kernel
theorem dL_law_867 : decode cL_law 867 = .ok (.iadd, 1) := by decide +kernel
theorem dL_law_868 : decode cL_law 868 = .ok (.iaload, 1) := by decide +kernel
theorem dL_law_869 : decode cL_law 869 = .ok (.invokevirtual 101, 3) := by decide +kernel
theorem dL_law_872 : decode cL_law 872 = .ok (.if_icmp .eq 500, 3) := by decide +kernel
theorem dL_law_875 : decode cL_law 875 = .ok (.iconst 0, 1) := by decide +kernel
theorem dL_law_876 : decode cL_law 876 = .ok (.ireturn, 1) := by decide +kernel
theorem dL_law_877 : decode cL_law 877 = .ok (.aload_n 1, 1) := by decide +kernel
theorem dL_law_878 : decode cL_law 878 = .ok (.aload_n 0, 1) := by decide +kernel
theorem dL_law_879 : decode cL_law 879 = .ok (.iload_n 3, 1) := by decide +kernel
theorem dL_law_880 : decode cL_law 880 = .ok (.iconst 1, 1) := by decide +kernel
theorem dL_law_881 : decode cL_law 881 = .ok (.iadd, 1) := by decide +kernel
theorem dL_law_882 : decode cL_law 882 = .ok (.iaload, 1) := by decide +kernel
theorem dL_law_883 : decode cL_law 883 = .ok (.invokevirtual 102, 3) := by decide +kernel
theorem dL_law_886 : decode cL_law 886 = .ok (.aload_n 2, 1) := by decide +kernel
theorem dL_law_887 : decode cL_law 887 = .ok (.aload_n 0, 1) := by decide +kernel
theorem dL_law_888 : decode cL_law 888 = .ok (.iload_n 3, 1) := by decide +kernel
theorem dL_law_889 : decode cL_law 889 = .ok (.iconst 1, 1) := by decide +kernel
theorem dL_law_890 : decode cL_law 890 = .ok (.iadd, 1) := by decide +kernel
theorem dL_law_891 : decode cL_law 891 = .ok (.iaload, 1) := by decide +kernel
theorem dL_law_892 : decode cL_law 892 = .ok (.invokevirtual 105, 3) := by decide +kernel
theorem dL_law_895 : decode cL_law 895 = .ok (.if_icmp .eq 477, 3) := by decide +kernel
theorem dL_law_898 : decode cL_law 898 = .ok (.iconst 0, 1) := by decide +kernel
theorem dL_law_899 : decode cL_law 899 = .ok (.ireturn, 1) := by decide +kernel
theorem dL_law_900 : decode cL_law 900 = .ok (.aload_n 1, 1) := by decide +kernel
theorem dL_law_901 : decode cL_law 901 = .ok (.aload_n 0, 1) := by decide +kernel
theorem dL_law_902 : decode cL_law 902 = .ok (.iload_n 3, 1) := by decide +kernel
theorem dL_law_903 : decode cL_law 903 = .ok (.iconst 1, 1) := by decide +kernel
theorem dL_law_904 : decode cL_law 904 = .ok (.iadd, 1) := by decide +kernel
theorem dL_law_905 : decode cL_law 905 = .ok (.iaload, 1) := by decide +kernel
theorem dL_law_906 : decode cL_law 906 = .ok (.aload_n 0, 1) := by decide +kernel
theorem dL_law_907 : decode cL_law 907 = .ok (.iload_n 3, 1) := by decide +kernel
theorem dL_law_908 : decode cL_law 908 = .ok (.iconst 2, 1) := by decide +kernel
theorem dL_law_909 : decode cL_law 909 = .ok (.iadd, 1) := by decide +kernel
theorem dL_law_910 : decode cL_law 910 = .ok (.iaload, 1) := by decide +kernel
theorem dL_law_911 : decode cL_law 911 = .ok (.aload_n 0, 1) := by decide +kernel
theorem dL_law_912 : decode cL_law 912 = .ok (.iload_n 3, 1) := by decide +kernel
theorem dL_law_913 : decode cL_law 913 = .ok (.iconst 3, 1) := by decide +kernel
theorem dL_law_914 : decode cL_law 914 = .ok (.iadd, 1) := by decide +kernel
theorem dL_law_915 : decode cL_law 915 = .ok (.iaload, 1) := by decide +kernel
theorem dL_law_916 : decode cL_law 916 = .ok (.invokevirtual 106, 3) := by decide +kernel
theorem dL_law_919 : decode cL_law 919 = .ok (.aload_n 2, 1) := by decide +kernel
theorem dL_law_920 : decode cL_law 920 = .ok (.aload_n 0, 1) := by decide +kernel
theorem dL_law_921 : decode cL_law 921 = .ok (.iload_n 3, 1) := by decide +kernel
theorem dL_law_922 : decode cL_law 922 = .ok (.iconst 1, 1) := by decide +kernel
theorem dL_law_923 : decode cL_law 923 = .ok (.iadd, 1) := by decide +kernel
theorem dL_law_924 : decode cL_law 924 = .ok (.iaload, 1) := by decide +kernel
theorem dL_law_925 : decode cL_law 925 = .ok (.aload_n 0, 1) := by decide +kernel
theorem dL_law_926 : decode cL_law 926 = .ok (.iload_n 3, 1) := by decide +kernel
theorem dL_law_927 : decode cL_law 927 = .ok (.iconst 2, 1) := by decide +kernel
theorem dL_law_928 : decode cL_law 928 = .ok (.iadd, 1) := by decide +kernel
theorem dL_law_929 : decode cL_law 929 = .ok (.iaload, 1) := by decide +kernel
theorem dL_law_930 : decode cL_law 930 = .ok (.aload_n 0, 1) := by decide +kernel
theorem dL_law_931 : decode cL_law 931 = .ok (.iload_n 3, 1) := by decide +kernel
theorem dL_law_932 : decode cL_law 932 = .ok (.iconst 3, 1) := by decide +kernel
theorem dL_law_933 : decode cL_law 933 = .ok (.iadd, 1) := by decide +kernel
theorem dL_law_934 : decode cL_law 934 = .ok (.iaload, 1) := by decide +kernel
theorem dL_law_935 : decode cL_law 935 = .ok (.invokevirtual 110, 3) := by decide +kernel
theorem dL_law_938 : decode cL_law 938 = .ok (.lcmp, 1) := by decide +kernel
theorem dL_law_939 : decode cL_law 939 = .ok (.ifCond .eq 433, 3) := by decide +kernel
theorem dL_law_942 : decode cL_law 942 = .ok (.iconst 0, 1) := by decide +kernel
theorem dL_law_943 : decode cL_law 943 = .ok (.ireturn, 1) := by decide +kernel
theorem dL_law_944 : decode cL_law 944 = .ok (.aload_n 1, 1) := by decide +kernel
theorem dL_law_945 : decode cL_law 945 = .ok (.aload_n 0, 1) := by decide +kernel
theorem dL_law_946 : decode cL_law 946 = .ok (.iload_n 3, 1) := by decide +kernel
theorem dL_law_947 : decode cL_law 947 = .ok (.iconst 1, 1) := by decide +kernel
theorem dL_law_948 : decode cL_law 948 = .ok (.iadd, 1) := by decide +kernel
theorem dL_law_949 : decode cL_law 949 = .ok (.iaload, 1) := by decide +kernel
theorem dL_law_950 : decode cL_law 950 = .ok (.invokevirtual 111, 3) := by decide +kernel
theorem dL_law_953 : decode cL_law 953 = .ok (.aload_n 2, 1) := by decide +kernel
theorem dL_law_954 : decode cL_law 954 = .ok (.aload_n 0, 1) := by decide +kernel
theorem dL_law_955 : decode cL_law 955 = .ok (.iload_n 3, 1) := by decide +kernel
theorem dL_law_956 : decode cL_law 956 = .ok (.iconst 1, 1) := by decide +kernel
theorem dL_law_957 : decode cL_law 957 = .ok (.iadd, 1) := by decide +kernel
theorem dL_law_958 : decode cL_law 958 = .ok (.iaload, 1) := by decide +kernel
theorem dL_law_959 : decode cL_law 959 = .ok (.invokevirtual 114, 3) := by decide +kernel
theorem dL_law_962 : decode cL_law 962 = .ok (.if_icmp .eq 410, 3) := by decide +kernel
theorem dL_law_965 : decode cL_law 965 = .ok (.iconst 0, 1) := by decide +kernel
theorem dL_law_966 : decode cL_law 966 = .ok (.ireturn, 1) := by decide +kernel
theorem dL_law_967 : decode cL_law 967 = .ok (.aload_n 1, 1) := by decide +kernel
theorem dL_law_968 : decode cL_law 968 = .ok (.aload_n 0, 1) := by decide +kernel
theorem dL_law_969 : decode cL_law 969 = .ok (.iload_n 3, 1) := by decide +kernel
theorem dL_law_970 : decode cL_law 970 = .ok (.iconst 1, 1) := by decide +kernel
theorem dL_law_971 : decode cL_law 971 = .ok (.iadd, 1) := by decide +kernel
theorem dL_law_972 : decode cL_law 972 = .ok (.iaload, 1) := by decide +kernel
theorem dL_law_973 : decode cL_law 973 = .ok (.aload_n 0, 1) := by decide +kernel
theorem dL_law_974 : decode cL_law 974 = .ok (.iload_n 3, 1) := by decide +kernel
theorem dL_law_975 : decode cL_law 975 = .ok (.iconst 2, 1) := by decide +kernel
theorem dL_law_976 : decode cL_law 976 = .ok (.iadd, 1) := by decide +kernel
theorem dL_law_977 : decode cL_law 977 = .ok (.iaload, 1) := by decide +kernel
theorem dL_law_978 : decode cL_law 978 = .ok (.invokevirtual 115, 3) := by decide +kernel
theorem dL_law_981 : decode cL_law 981 = .ok (.aload_n 2, 1) := by decide +kernel
theorem dL_law_982 : decode cL_law 982 = .ok (.aload_n 0, 1) := by decide +kernel
theorem dL_law_983 : decode cL_law 983 = .ok (.iload_n 3, 1) := by decide +kernel
theorem dL_law_984 : decode cL_law 984 = .ok (.iconst 1, 1) := by decide +kernel
theorem dL_law_985 : decode cL_law 985 = .ok (.iadd, 1) := by decide +kernel
theorem dL_law_986 : decode cL_law 986 = .ok (.iaload, 1) := by decide +kernel
theorem dL_law_987 : decode cL_law 987 = .ok (.aload_n 0, 1) := by decide +kernel
theorem dL_law_988 : decode cL_law 988 = .ok (.iload_n 3, 1) := by decide +kernel
theorem dL_law_989 : decode cL_law 989 = .ok (.iconst 2, 1) := by decide +kernel
theorem dL_law_990 : decode cL_law 990 = .ok (.iadd, 1) := by decide +kernel
theorem dL_law_991 : decode cL_law 991 = .ok (.iaload, 1) := by decide +kernel
theorem dL_law_992 : decode cL_law 992 = .ok (.invokevirtual 118, 3) := by decide +kernel
theorem dL_law_995 : decode cL_law 995 = .ok (.if_icmp .eq 377, 3) := by decide +kernel
theorem dL_law_998 : decode cL_law 998 = .ok (.iconst 0, 1) := by decide +kernel
theorem dL_law_999 : decode cL_law 999 = .ok (.ireturn, 1) := by decide +kernel
theorem dL_law_1000 : decode cL_law 1000 = .ok (.aload_n 1, 1) := by decide +kernel
theorem dL_law_1001 : decode cL_law 1001 = .ok (.invokevirtual 119, 3) := by decide +kernel
theorem dL_law_1004 : decode cL_law 1004 = .ok (.aload_n 2, 1) := by decide +kernel
theorem dL_law_1005 : decode cL_law 1005 = .ok (.invokevirtual 122, 3) := by decide +kernel
theorem dL_law_1008 : decode cL_law 1008 = .ok (.if_icmp .eq 364, 3) := by decide +kernel
theorem dL_law_1011 : decode cL_law 1011 = .ok (.iconst 0, 1) := by decide +kernel
theorem dL_law_1012 : decode cL_law 1012 = .ok (.ireturn, 1) := by decide +kernel
theorem dL_law_1013 : decode cL_law 1013 = .ok (.aload_n 1, 1) := by decide +kernel
theorem dL_law_1014 : decode cL_law 1014 = .ok (.invokevirtual 123, 3) := by decide +kernel
theorem dL_law_1017 : decode cL_law 1017 = .ok (.aload_n 2, 1) := by decide +kernel
theorem dL_law_1018 : decode cL_law 1018 = .ok (.invokevirtual 126, 3) := by decide +kernel
theorem dL_law_1021 : decode cL_law 1021 = .ok (.if_icmp .eq 351, 3) := by decide +kernel
theorem dL_law_1024 : decode cL_law 1024 = .ok (.iconst 0, 1) := by decide +kernel
theorem dL_law_1025 : decode cL_law 1025 = .ok (.ireturn, 1) := by decide +kernel
theorem dL_law_1026 : decode cL_law 1026 = .ok (.aload_n 1, 1) := by decide +kernel
theorem dL_law_1027 : decode cL_law 1027 = .ok (.aload_n 0, 1) := by decide +kernel
theorem dL_law_1028 : decode cL_law 1028 = .ok (.iload_n 3, 1) := by decide +kernel
theorem dL_law_1029 : decode cL_law 1029 = .ok (.iconst 1, 1) := by decide +kernel
theorem dL_law_1030 : decode cL_law 1030 = .ok (.iadd, 1) := by decide +kernel
theorem dL_law_1031 : decode cL_law 1031 = .ok (.iaload, 1) := by decide +kernel
theorem dL_law_1032 : decode cL_law 1032 = .ok (.aload_n 0, 1) := by decide +kernel
theorem dL_law_1033 : decode cL_law 1033 = .ok (.iload_n 3, 1) := by decide +kernel
theorem dL_law_1034 : decode cL_law 1034 = .ok (.iconst 2, 1) := by decide +kernel
theorem dL_law_1035 : decode cL_law 1035 = .ok (.iadd, 1) := by decide +kernel
theorem dL_law_1036 : decode cL_law 1036 = .ok (.iaload, 1) := by decide +kernel
theorem dL_law_1037 : decode cL_law 1037 = .ok (.invokevirtual 127, 3) := by decide +kernel
theorem dL_law_1040 : decode cL_law 1040 = .ok (.aload_n 2, 1) := by decide +kernel
theorem dL_law_1041 : decode cL_law 1041 = .ok (.aload_n 0, 1) := by decide +kernel
theorem dL_law_1042 : decode cL_law 1042 = .ok (.iload_n 3, 1) := by decide +kernel
theorem dL_law_1043 : decode cL_law 1043 = .ok (.iconst 1, 1) := by decide +kernel
theorem dL_law_1044 : decode cL_law 1044 = .ok (.iadd, 1) := by decide +kernel
theorem dL_law_1045 : decode cL_law 1045 = .ok (.iaload, 1) := by decide +kernel
theorem dL_law_1046 : decode cL_law 1046 = .ok (.aload_n 0, 1) := by decide +kernel
theorem dL_law_1047 : decode cL_law 1047 = .ok (.iload_n 3, 1) := by decide +kernel
theorem dL_law_1048 : decode cL_law 1048 = .ok (.iconst 2, 1) := by decide +kernel
theorem dL_law_1049 : decode cL_law 1049 = .ok (.iadd, 1) := by decide +kernel
theorem dL_law_1050 : decode cL_law 1050 = .ok (.iaload, 1) := by decide +kernel
theorem dL_law_1051 : decode cL_law 1051 = .ok (.invokevirtual 130, 3) := by decide +kernel
theorem dL_law_1054 : decode cL_law 1054 = .ok (.if_icmp .eq 318, 3) := by decide +kernel
theorem dL_law_1057 : decode cL_law 1057 = .ok (.iconst 0, 1) := by decide +kernel
theorem dL_law_1058 : decode cL_law 1058 = .ok (.ireturn, 1) := by decide +kernel
theorem dL_law_1059 : decode cL_law 1059 = .ok (.aload_n 1, 1) := by decide +kernel
theorem dL_law_1060 : decode cL_law 1060 = .ok (.aload_n 0, 1) := by decide +kernel
theorem dL_law_1061 : decode cL_law 1061 = .ok (.iload_n 3, 1) := by decide +kernel
theorem dL_law_1062 : decode cL_law 1062 = .ok (.iconst 1, 1) := by decide +kernel
theorem dL_law_1063 : decode cL_law 1063 = .ok (.iadd, 1) := by decide +kernel
theorem dL_law_1064 : decode cL_law 1064 = .ok (.iaload, 1) := by decide +kernel
theorem dL_law_1065 : decode cL_law 1065 = .ok (.aload_n 0, 1) := by decide +kernel
theorem dL_law_1066 : decode cL_law 1066 = .ok (.iload_n 3, 1) := by decide +kernel
theorem dL_law_1067 : decode cL_law 1067 = .ok (.iconst 2, 1) := by decide +kernel
theorem dL_law_1068 : decode cL_law 1068 = .ok (.iadd, 1) := by decide +kernel
theorem dL_law_1069 : decode cL_law 1069 = .ok (.iaload, 1) := by decide +kernel
theorem dL_law_1070 : decode cL_law 1070 = .ok (.invokevirtual 131, 3) := by decide +kernel
theorem dL_law_1073 : decode cL_law 1073 = .ok (.aload_n 2, 1) := by decide +kernel
theorem dL_law_1074 : decode cL_law 1074 = .ok (.aload_n 0, 1) := by decide +kernel
theorem dL_law_1075 : decode cL_law 1075 = .ok (.iload_n 3, 1) := by decide +kernel
theorem dL_law_1076 : decode cL_law 1076 = .ok (.iconst 1, 1) := by decide +kernel
theorem dL_law_1077 : decode cL_law 1077 = .ok (.iadd, 1) := by decide +kernel
theorem dL_law_1078 : decode cL_law 1078 = .ok (.iaload, 1) := by decide +kernel
theorem dL_law_1079 : decode cL_law 1079 = .ok (.aload_n 0, 1) := by decide +kernel
theorem dL_law_1080 : decode cL_law 1080 = .ok (.iload_n 3, 1) := by decide +kernel
theorem dL_law_1081 : decode cL_law 1081 = .ok (.iconst 2, 1) := by decide +kernel
theorem dL_law_1082 : decode cL_law 1082 = .ok (.iadd, 1) := by decide +kernel
theorem dL_law_1083 : decode cL_law 1083 = .ok (.iaload, 1) := by decide +kernel
theorem dL_law_1084 : decode cL_law 1084 = .ok (.invokevirtual 134, 3) := by decide +kernel
theorem dL_law_1087 : decode cL_law 1087 = .ok (.if_icmp .eq 285, 3) := by decide +kernel
theorem dL_law_1090 : decode cL_law 1090 = .ok (.iconst 0, 1) := by decide +kernel
theorem dL_law_1091 : decode cL_law 1091 = .ok (.ireturn, 1) := by decide +kernel
theorem dL_law_1092 : decode cL_law 1092 = .ok (.aload_n 1, 1) := by decide +kernel
theorem dL_law_1093 : decode cL_law 1093 = .ok (.aload_n 0, 1) := by decide +kernel
theorem dL_law_1094 : decode cL_law 1094 = .ok (.iload_n 3, 1) := by decide +kernel
theorem dL_law_1095 : decode cL_law 1095 = .ok (.iconst 1, 1) := by decide +kernel
theorem dL_law_1096 : decode cL_law 1096 = .ok (.iadd, 1) := by decide +kernel
theorem dL_law_1097 : decode cL_law 1097 = .ok (.iaload, 1) := by decide +kernel
theorem dL_law_1098 : decode cL_law 1098 = .ok (.aload_n 0, 1) := by decide +kernel
theorem dL_law_1099 : decode cL_law 1099 = .ok (.iload_n 3, 1) := by decide +kernel
theorem dL_law_1100 : decode cL_law 1100 = .ok (.iconst 2, 1) := by decide +kernel
theorem dL_law_1101 : decode cL_law 1101 = .ok (.iadd, 1) := by decide +kernel
theorem dL_law_1102 : decode cL_law 1102 = .ok (.iaload, 1) := by decide +kernel
theorem dL_law_1103 : decode cL_law 1103 = .ok (.aload_n 0, 1) := by decide +kernel
theorem dL_law_1104 : decode cL_law 1104 = .ok (.iload_n 3, 1) := by decide +kernel
theorem dL_law_1105 : decode cL_law 1105 = .ok (.iconst 3, 1) := by decide +kernel
theorem dL_law_1106 : decode cL_law 1106 = .ok (.iadd, 1) := by decide +kernel
theorem dL_law_1107 : decode cL_law 1107 = .ok (.iaload, 1) := by decide +kernel
theorem dL_law_1108 : decode cL_law 1108 = .ok (.invokevirtual 135, 3) := by decide +kernel
theorem dL_law_1111 : decode cL_law 1111 = .ok (.aload_n 2, 1) := by decide +kernel
theorem dL_law_1112 : decode cL_law 1112 = .ok (.aload_n 0, 1) := by decide +kernel
theorem dL_law_1113 : decode cL_law 1113 = .ok (.iload_n 3, 1) := by decide +kernel
theorem dL_law_1114 : decode cL_law 1114 = .ok (.iconst 1, 1) := by decide +kernel
theorem dL_law_1115 : decode cL_law 1115 = .ok (.iadd, 1) := by decide +kernel
theorem dL_law_1116 : decode cL_law 1116 = .ok (.iaload, 1) := by decide +kernel
theorem dL_law_1117 : decode cL_law 1117 = .ok (.aload_n 0, 1) := by decide +kernel
theorem dL_law_1118 : decode cL_law 1118 = .ok (.iload_n 3, 1) := by decide +kernel
theorem dL_law_1119 : decode cL_law 1119 = .ok (.iconst 2, 1) := by decide +kernel
theorem dL_law_1120 : decode cL_law 1120 = .ok (.iadd, 1) := by decide +kernel
theorem dL_law_1121 : decode cL_law 1121 = .ok (.iaload, 1) := by decide +kernel
theorem dL_law_1122 : decode cL_law 1122 = .ok (.aload_n 0, 1) := by decide +kernel
theorem dL_law_1123 : decode cL_law 1123 = .ok (.iload_n 3, 1) := by decide +kernel
theorem dL_law_1124 : decode cL_law 1124 = .ok (.iconst 3, 1) := by decide +kernel
theorem dL_law_1125 : decode cL_law 1125 = .ok (.iadd, 1) := by decide +kernel
theorem dL_law_1126 : decode cL_law 1126 = .ok (.iaload, 1) := by decide +kernel
theorem dL_law_1127 : decode cL_law 1127 = .ok (.invokevirtual 138, 3) := by decide +kernel
theorem dL_law_1130 : decode cL_law 1130 = .ok (.if_icmp .eq 242, 3) := by decide +kernel
theorem dL_law_1133 : decode cL_law 1133 = .ok (.iconst 0, 1) := by decide +kernel
theorem dL_law_1134 : decode cL_law 1134 = .ok (.ireturn, 1) := by decide +kernel
theorem dL_law_1135 : decode cL_law 1135 = .ok (.aload_n 1, 1) := by decide +kernel
theorem dL_law_1136 : decode cL_law 1136 = .ok (.aload_n 0, 1) := by decide +kernel
theorem dL_law_1137 : decode cL_law 1137 = .ok (.iload_n 3, 1) := by decide +kernel
theorem dL_law_1138 : decode cL_law 1138 = .ok (.iconst 1, 1) := by decide +kernel
theorem dL_law_1139 : decode cL_law 1139 = .ok (.iadd, 1) := by decide +kernel
theorem dL_law_1140 : decode cL_law 1140 = .ok (.iaload, 1) := by decide +kernel
theorem dL_law_1141 : decode cL_law 1141 = .ok (.aload_n 0, 1) := by decide +kernel
theorem dL_law_1142 : decode cL_law 1142 = .ok (.iload_n 3, 1) := by decide +kernel
theorem dL_law_1143 : decode cL_law 1143 = .ok (.iconst 2, 1) := by decide +kernel
theorem dL_law_1144 : decode cL_law 1144 = .ok (.iadd, 1) := by decide +kernel
theorem dL_law_1145 : decode cL_law 1145 = .ok (.iaload, 1) := by decide +kernel
theorem dL_law_1146 : decode cL_law 1146 = .ok (.aload_n 0, 1) := by decide +kernel
theorem dL_law_1147 : decode cL_law 1147 = .ok (.iload_n 3, 1) := by decide +kernel
theorem dL_law_1148 : decode cL_law 1148 = .ok (.iconst 3, 1) := by decide +kernel
theorem dL_law_1149 : decode cL_law 1149 = .ok (.iadd, 1) := by decide +kernel
theorem dL_law_1150 : decode cL_law 1150 = .ok (.iaload, 1) := by decide +kernel
theorem dL_law_1151 : decode cL_law 1151 = .ok (.invokevirtual 139, 3) := by decide +kernel
theorem dL_law_1154 : decode cL_law 1154 = .ok (.aload_n 2, 1) := by decide +kernel
theorem dL_law_1155 : decode cL_law 1155 = .ok (.aload_n 0, 1) := by decide +kernel
theorem dL_law_1156 : decode cL_law 1156 = .ok (.iload_n 3, 1) := by decide +kernel
theorem dL_law_1157 : decode cL_law 1157 = .ok (.iconst 1, 1) := by decide +kernel
theorem dL_law_1158 : decode cL_law 1158 = .ok (.iadd, 1) := by decide +kernel
theorem dL_law_1159 : decode cL_law 1159 = .ok (.iaload, 1) := by decide +kernel
theorem dL_law_1160 : decode cL_law 1160 = .ok (.aload_n 0, 1) := by decide +kernel
theorem dL_law_1161 : decode cL_law 1161 = .ok (.iload_n 3, 1) := by decide +kernel
theorem dL_law_1162 : decode cL_law 1162 = .ok (.iconst 2, 1) := by decide +kernel
theorem dL_law_1163 : decode cL_law 1163 = .ok (.iadd, 1) := by decide +kernel
theorem dL_law_1164 : decode cL_law 1164 = .ok (.iaload, 1) := by decide +kernel
theorem dL_law_1165 : decode cL_law 1165 = .ok (.aload_n 0, 1) := by decide +kernel
theorem dL_law_1166 : decode cL_law 1166 = .ok (.iload_n 3, 1) := by decide +kernel
theorem dL_law_1167 : decode cL_law 1167 = .ok (.iconst 3, 1) := by decide +kernel
theorem dL_law_1168 : decode cL_law 1168 = .ok (.iadd, 1) := by decide +kernel
theorem dL_law_1169 : decode cL_law 1169 = .ok (.iaload, 1) := by decide +kernel
theorem dL_law_1170 : decode cL_law 1170 = .ok (.invokevirtual 142, 3) := by decide +kernel
theorem dL_law_1173 : decode cL_law 1173 = .ok (.if_icmp .eq 199, 3) := by decide +kernel
theorem dL_law_1176 : decode cL_law 1176 = .ok (.iconst 0, 1) := by decide +kernel
theorem dL_law_1177 : decode cL_law 1177 = .ok (.ireturn, 1) := by decide +kernel
theorem dL_law_1178 : decode cL_law 1178 = .ok (.aload_n 1, 1) := by decide +kernel
theorem dL_law_1179 : decode cL_law 1179 = .ok (.aload_n 0, 1) := by decide +kernel
theorem dL_law_1180 : decode cL_law 1180 = .ok (.iload_n 3, 1) := by decide +kernel
theorem dL_law_1181 : decode cL_law 1181 = .ok (.iconst 1, 1) := by decide +kernel
theorem dL_law_1182 : decode cL_law 1182 = .ok (.iadd, 1) := by decide +kernel
theorem dL_law_1183 : decode cL_law 1183 = .ok (.iaload, 1) := by decide +kernel
theorem dL_law_1184 : decode cL_law 1184 = .ok (.aload_n 0, 1) := by decide +kernel
theorem dL_law_1185 : decode cL_law 1185 = .ok (.iload_n 3, 1) := by decide +kernel
theorem dL_law_1186 : decode cL_law 1186 = .ok (.iconst 2, 1) := by decide +kernel
theorem dL_law_1187 : decode cL_law 1187 = .ok (.iadd, 1) := by decide +kernel
theorem dL_law_1188 : decode cL_law 1188 = .ok (.iaload, 1) := by decide +kernel
theorem dL_law_1189 : decode cL_law 1189 = .ok (.aload_n 0, 1) := by decide +kernel
theorem dL_law_1190 : decode cL_law 1190 = .ok (.iload_n 3, 1) := by decide +kernel
theorem dL_law_1191 : decode cL_law 1191 = .ok (.iconst 3, 1) := by decide +kernel
theorem dL_law_1192 : decode cL_law 1192 = .ok (.iadd, 1) := by decide +kernel
theorem dL_law_1193 : decode cL_law 1193 = .ok (.iaload, 1) := by decide +kernel
theorem dL_law_1194 : decode cL_law 1194 = .ok (.aload_n 0, 1) := by decide +kernel
theorem dL_law_1195 : decode cL_law 1195 = .ok (.iload_n 3, 1) := by decide +kernel
theorem dL_law_1196 : decode cL_law 1196 = .ok (.iconst 4, 1) := by decide +kernel
theorem dL_law_1197 : decode cL_law 1197 = .ok (.iadd, 1) := by decide +kernel
theorem dL_law_1198 : decode cL_law 1198 = .ok (.iaload, 1) := by decide +kernel
theorem dL_law_1199 : decode cL_law 1199 = .ok (.aload_n 0, 1) := by decide +kernel
theorem dL_law_1200 : decode cL_law 1200 = .ok (.iload_n 3, 1) := by decide +kernel
theorem dL_law_1201 : decode cL_law 1201 = .ok (.iconst 5, 1) := by decide +kernel
theorem dL_law_1202 : decode cL_law 1202 = .ok (.iadd, 1) := by decide +kernel
theorem dL_law_1203 : decode cL_law 1203 = .ok (.iaload, 1) := by decide +kernel
theorem dL_law_1204 : decode cL_law 1204 = .ok (.invokevirtual 143, 3) := by decide +kernel
theorem dL_law_1207 : decode cL_law 1207 = .ok (.aload_n 2, 1) := by decide +kernel
theorem dL_law_1208 : decode cL_law 1208 = .ok (.aload_n 0, 1) := by decide +kernel
theorem dL_law_1209 : decode cL_law 1209 = .ok (.iload_n 3, 1) := by decide +kernel
theorem dL_law_1210 : decode cL_law 1210 = .ok (.iconst 1, 1) := by decide +kernel
theorem dL_law_1211 : decode cL_law 1211 = .ok (.iadd, 1) := by decide +kernel
theorem dL_law_1212 : decode cL_law 1212 = .ok (.iaload, 1) := by decide +kernel
theorem dL_law_1213 : decode cL_law 1213 = .ok (.aload_n 0, 1) := by decide +kernel
theorem dL_law_1214 : decode cL_law 1214 = .ok (.iload_n 3, 1) := by decide +kernel
theorem dL_law_1215 : decode cL_law 1215 = .ok (.iconst 2, 1) := by decide +kernel
theorem dL_law_1216 : decode cL_law 1216 = .ok (.iadd, 1) := by decide +kernel
theorem dL_law_1217 : decode cL_law 1217 = .ok (.iaload, 1) := by decide +kernel
theorem dL_law_1218 : decode cL_law 1218 = .ok (.aload_n 0, 1) := by decide +kernel
theorem dL_law_1219 : decode cL_law 1219 = .ok (.iload_n 3, 1) := by decide +kernel
theorem dL_law_1220 : decode cL_law 1220 = .ok (.iconst 3, 1) := by decide +kernel
theorem dL_law_1221 : decode cL_law 1221 = .ok (.iadd, 1) := by decide +kernel
theorem dL_law_1222 : decode cL_law 1222 = .ok (.iaload, 1) := by decide +kernel
theorem dL_law_1223 : decode cL_law 1223 = .ok (.aload_n 0, 1) := by decide +kernel
theorem dL_law_1224 : decode cL_law 1224 = .ok (.iload_n 3, 1) := by decide +kernel
theorem dL_law_1225 : decode cL_law 1225 = .ok (.iconst 4, 1) := by decide +kernel
theorem dL_law_1226 : decode cL_law 1226 = .ok (.iadd, 1) := by decide +kernel
theorem dL_law_1227 : decode cL_law 1227 = .ok (.iaload, 1) := by decide +kernel
theorem dL_law_1228 : decode cL_law 1228 = .ok (.aload_n 0, 1) := by decide +kernel
theorem dL_law_1229 : decode cL_law 1229 = .ok (.iload_n 3, 1) := by decide +kernel
theorem dL_law_1230 : decode cL_law 1230 = .ok (.iconst 5, 1) := by decide +kernel
theorem dL_law_1231 : decode cL_law 1231 = .ok (.iadd, 1) := by decide +kernel
theorem dL_law_1232 : decode cL_law 1232 = .ok (.iaload, 1) := by decide +kernel
theorem dL_law_1233 : decode cL_law 1233 = .ok (.invokevirtual 147, 3) := by decide +kernel
theorem dL_law_1236 : decode cL_law 1236 = .ok (.if_icmp .eq 136, 3) := by decide +kernel
theorem dL_law_1239 : decode cL_law 1239 = .ok (.iconst 0, 1) := by decide +kernel
theorem dL_law_1240 : decode cL_law 1240 = .ok (.ireturn, 1) := by decide +kernel
theorem dL_law_1241 : decode cL_law 1241 = .ok (.aload_n 1, 1) := by decide +kernel
theorem dL_law_1242 : decode cL_law 1242 = .ok (.aload_n 0, 1) := by decide +kernel
theorem dL_law_1243 : decode cL_law 1243 = .ok (.iload_n 3, 1) := by decide +kernel
theorem dL_law_1244 : decode cL_law 1244 = .ok (.iconst 1, 1) := by decide +kernel
theorem dL_law_1245 : decode cL_law 1245 = .ok (.iadd, 1) := by decide +kernel
theorem dL_law_1246 : decode cL_law 1246 = .ok (.iaload, 1) := by decide +kernel
theorem dL_law_1247 : decode cL_law 1247 = .ok (.invokevirtual 148, 3) := by decide +kernel
theorem dL_law_1250 : decode cL_law 1250 = .ok (.aload_n 2, 1) := by decide +kernel
theorem dL_law_1251 : decode cL_law 1251 = .ok (.aload_n 0, 1) := by decide +kernel
theorem dL_law_1252 : decode cL_law 1252 = .ok (.iload_n 3, 1) := by decide +kernel
theorem dL_law_1253 : decode cL_law 1253 = .ok (.iconst 1, 1) := by decide +kernel
theorem dL_law_1254 : decode cL_law 1254 = .ok (.iadd, 1) := by decide +kernel
theorem dL_law_1255 : decode cL_law 1255 = .ok (.iaload, 1) := by decide +kernel
theorem dL_law_1256 : decode cL_law 1256 = .ok (.invokevirtual 151, 3) := by decide +kernel
theorem dL_law_1259 : decode cL_law 1259 = .ok (.if_icmp .eq 113, 3) := by decide +kernel
theorem dL_law_1262 : decode cL_law 1262 = .ok (.iconst 0, 1) := by decide +kernel
theorem dL_law_1263 : decode cL_law 1263 = .ok (.ireturn, 1) := by decide +kernel
theorem dL_law_1264 : decode cL_law 1264 = .ok (.aload_n 1, 1) := by decide +kernel
theorem dL_law_1265 : decode cL_law 1265 = .ok (.aload_n 0, 1) := by decide +kernel
theorem dL_law_1266 : decode cL_law 1266 = .ok (.iload_n 3, 1) := by decide +kernel
theorem dL_law_1267 : decode cL_law 1267 = .ok (.iconst 1, 1) := by decide +kernel
theorem dL_law_1268 : decode cL_law 1268 = .ok (.iadd, 1) := by decide +kernel
theorem dL_law_1269 : decode cL_law 1269 = .ok (.iaload, 1) := by decide +kernel
theorem dL_law_1270 : decode cL_law 1270 = .ok (.invokevirtual 152, 3) := by decide +kernel
theorem dL_law_1273 : decode cL_law 1273 = .ok (.aload_n 2, 1) := by decide +kernel
theorem dL_law_1274 : decode cL_law 1274 = .ok (.aload_n 0, 1) := by decide +kernel
theorem dL_law_1275 : decode cL_law 1275 = .ok (.iload_n 3, 1) := by decide +kernel
theorem dL_law_1276 : decode cL_law 1276 = .ok (.iconst 1, 1) := by decide +kernel
theorem dL_law_1277 : decode cL_law 1277 = .ok (.iadd, 1) := by decide +kernel
theorem dL_law_1278 : decode cL_law 1278 = .ok (.iaload, 1) := by decide +kernel
theorem dL_law_1279 : decode cL_law 1279 = .ok (.invokevirtual 155, 3) := by decide +kernel
theorem dL_law_1282 : decode cL_law 1282 = .ok (.if_icmp .eq 90, 3) := by decide +kernel
theorem dL_law_1285 : decode cL_law 1285 = .ok (.iconst 0, 1) := by decide +kernel
theorem dL_law_1286 : decode cL_law 1286 = .ok (.ireturn, 1) := by decide +kernel
theorem dL_law_1287 : decode cL_law 1287 = .ok (.aload_n 1, 1) := by decide +kernel
theorem dL_law_1288 : decode cL_law 1288 = .ok (.invokevirtual 156, 3) := by decide +kernel
theorem dL_law_1291 : decode cL_law 1291 = .ok (.aload_n 2, 1) := by decide +kernel
theorem dL_law_1292 : decode cL_law 1292 = .ok (.invokevirtual 159, 3) := by decide +kernel
theorem dL_law_1295 : decode cL_law 1295 = .ok (.if_icmp .eq 77, 3) := by decide +kernel
theorem dL_law_1298 : decode cL_law 1298 = .ok (.iconst 0, 1) := by decide +kernel
theorem dL_law_1299 : decode cL_law 1299 = .ok (.ireturn, 1) := by decide +kernel
theorem dL_law_1300 : decode cL_law 1300 = .ok (.aload_n 1, 1) := by decide +kernel
theorem dL_law_1301 : decode cL_law 1301 = .ok (.invokevirtual 160, 3) := by decide +kernel
theorem dL_law_1304 : decode cL_law 1304 = .ok (.aload_n 2, 1) := by decide +kernel
theorem dL_law_1305 : decode cL_law 1305 = .ok (.invokevirtual 163, 3) := by decide +kernel
theorem dL_law_1308 : decode cL_law 1308 = .ok (.if_icmp .eq 64, 3) := by decide +kernel
theorem dL_law_1311 : decode cL_law 1311 = .ok (.iconst 0, 1) := by decide +kernel
theorem dL_law_1312 : decode cL_law 1312 = .ok (.ireturn, 1) := by decide +kernel
theorem dL_law_1313 : decode cL_law 1313 = .ok (.aload_n 1, 1) := by decide +kernel
theorem dL_law_1314 : decode cL_law 1314 = .ok (.invokevirtual 164, 3) := by decide +kernel
theorem dL_law_1317 : decode cL_law 1317 = .ok (.aload_n 2, 1) := by decide +kernel
theorem dL_law_1318 : decode cL_law 1318 = .ok (.invokevirtual 167, 3) := by decide +kernel
theorem dL_law_1321 : decode cL_law 1321 = .ok (.if_icmp .eq 51, 3) := by decide +kernel
theorem dL_law_1324 : decode cL_law 1324 = .ok (.iconst 0, 1) := by decide +kernel
theorem dL_law_1325 : decode cL_law 1325 = .ok (.ireturn, 1) := by decide +kernel
theorem dL_law_1326 : decode cL_law 1326 = .ok (.aload_n 1, 1) := by decide +kernel
theorem dL_law_1327 : decode cL_law 1327 = .ok (.aload_n 0, 1) := by decide +kernel
theorem dL_law_1328 : decode cL_law 1328 = .ok (.iload_n 3, 1) := by decide +kernel
theorem dL_law_1329 : decode cL_law 1329 = .ok (.iconst 1, 1) := by decide +kernel
theorem dL_law_1330 : decode cL_law 1330 = .ok (.iadd, 1) := by decide +kernel
theorem dL_law_1331 : decode cL_law 1331 = .ok (.iaload, 1) := by decide +kernel
theorem dL_law_1332 : decode cL_law 1332 = .ok (.invokevirtual 168, 3) := by decide +kernel
theorem dL_law_1335 : decode cL_law 1335 = .ok (.aload_n 2, 1) := by decide +kernel
theorem dL_law_1336 : decode cL_law 1336 = .ok (.aload_n 0, 1) := by decide +kernel
theorem dL_law_1337 : decode cL_law 1337 = .ok (.iload_n 3, 1) := by decide +kernel
theorem dL_law_1338 : decode cL_law 1338 = .ok (.iconst 1, 1) := by decide +kernel
theorem dL_law_1339 : decode cL_law 1339 = .ok (.iadd, 1) := by decide +kernel
theorem dL_law_1340 : decode cL_law 1340 = .ok (.iaload, 1) := by decide +kernel
theorem dL_law_1341 : decode cL_law 1341 = .ok (.invokevirtual 171, 3) := by decide +kernel
theorem dL_law_1344 : decode cL_law 1344 = .ok (.if_icmp .eq 28, 3) := by decide +kernel
theorem dL_law_1347 : decode cL_law 1347 = .ok (.iconst 0, 1) := by decide +kernel
theorem dL_law_1348 : decode cL_law 1348 = .ok (.ireturn, 1) := by decide +kernel
theorem dL_law_1349 : decode cL_law 1349 = .ok (.aload_n 1, 1) := by decide +kernel
theorem dL_law_1350 : decode cL_law 1350 = .ok (.aload_n 0, 1) := by decide +kernel
theorem dL_law_1351 : decode cL_law 1351 = .ok (.iload_n 3, 1) := by decide +kernel
theorem dL_law_1352 : decode cL_law 1352 = .ok (.iconst 1, 1) := by decide +kernel
theorem dL_law_1353 : decode cL_law 1353 = .ok (.iadd, 1) := by decide +kernel
theorem dL_law_1354 : decode cL_law 1354 = .ok (.iaload, 1) := by decide +kernel
theorem dL_law_1355 : decode cL_law 1355 = .ok (.invokevirtual 172, 3) := by decide +kernel
theorem dL_law_1358 : decode cL_law 1358 = .ok (.aload_n 2, 1) := by decide +kernel
theorem dL_law_1359 : decode cL_law 1359 = .ok (.aload_n 0, 1) := by decide +kernel
theorem dL_law_1360 : decode cL_law 1360 = .ok (.iload_n 3, 1) := by decide +kernel
theorem dL_law_1361 : decode cL_law 1361 = .ok (.iconst 1, 1) := by decide +kernel
theorem dL_law_1362 : decode cL_law 1362 = .ok (.iadd, 1) := by decide +kernel
theorem dL_law_1363 : decode cL_law 1363 = .ok (.iaload, 1) := by decide +kernel
theorem dL_law_1364 : decode cL_law 1364 = .ok (.invokevirtual 175, 3) := by decide +kernel
theorem dL_law_1367 : decode cL_law 1367 = .ok (.if_icmp .eq 5, 3) := by decide +kernel
theorem dL_law_1370 : decode cL_law 1370 = .ok (.iconst 0, 1) := by decide +kernel
theorem dL_law_1371 : decode cL_law 1371 = .ok (.ireturn, 1) := by decide +kernel
theorem dL_law_1372 : decode cL_law 1372 = .ok (.iinc 3 6, 3) := by decide +kernel
theorem dL_law_1375 : decode cL_law 1375 = .ok (.goto (-1357), 3) := by decide +kernel
theorem dL_law_1378 : decode cL_law 1378 = .ok (.iconst 1, 1) := by decide +kernel
theorem dL_law_1379 : decode cL_law 1379 = .ok (.ireturn, 1) := by decide +kernel
end
section
/-! THE LAYER: one judgement V over the kit's W. The heap that a run has made is a row of n cells (numbers 0 .. n-1, at the addresses base + i); a reference is the number of its cell; String constants are numbers from 1000 on. -/
theorem zl_mem {w : Cond} {l : List Cond} (i : Nat) (h : l[i]? = some w) (g : goodWord w = true) : w ∈ l.filter goodWord := List.mem_filter.mpr ⟨List.mem_of_getElem? h, g⟩
def tb : List Cond := lw_tbl.filter goodWord
theorem tb_good {y : MethodName} {cc : ByteArray} {nL : Nat} {ret : Option FieldType} (h : Cond.code y cc nL ret ∈ tb) : GoodIn tb (Cond.code y cc nL ret :: tb) := by
  intro w hw
  rcases List.mem_cons.mp hw with rfl | hw
  · exact ⟨h, good_of_word (List.mem_filter.mp h).2⟩
  · exact ⟨hw, good_of_word (List.mem_filter.mp hw).2⟩
abbrev classes : List vw_C := [(RX0, TX0, 0), (RX1, TX1, 8), (RX2, TX2, 0), (RX3, TX3, 0), (RX4, TX4, 0), (RX5, TX5, 0), (RX6, TX6, 0), (RX7, TX7, 6), (RX8, TX8, 3), (RX9, TX9, 0), (RX10, TX10, 9), (RX11, TX11, 7), (RX12, TX12, 17)]
/-- base, addresses of String constants, class ids, slots of fields, array class ids, addresses of the texts' bytes -/
abbrev vEnv : Type := Nat × (Nat → Nat) × (Nat → ClassId) × (Nat → Nat → Nat) × (Nat → ClassId) × (Nat → Nat)
def eB (E : vEnv) : Nat := E.1
def eK (E : vEnv) : Nat → Nat := E.2.1
def eD (E : vEnv) : va_G := (E.2.2.1, E.2.2.2.1)
def eA (E : vEnv) : Nat → ClassId := E.2.2.2.2.1
def eV (E : vEnv) : Nat → Nat := E.2.2.2.2.2
abbrev AC : Type := (Nat × vp_A) ⊕ (Nat × List Value)
def vad (E : vEnv) (i : Nat) : Nat := if i < 1000 then eB E + i else eK E (i - 1000)
def vr (E : vEnv) : Value → Value
  | .ref i => .ref (vad E i)
  | v => v
theorem vr_cat (E : vEnv) (v : Value) : (vr E v).category = v.category := by cases v <;> rfl
def vrA (E : vEnv) (a : vp_A) : vp_A := match a.2 with
  | .inr (.inr (.inr (.inr f))) => (a.1, .inr (.inr (.inr (.inr (fun j => (f j).map (vad E))))))
  | _ => a
def vrC (E : vEnv) (c : AC) : va_E := match c with
  | .inl (t, a) => .inl (eA E t, vrA E a)
  | .inr (ci, fs) => .inr (ci, fs.map (vr E))
def vA (E : vEnv) : Nat → Prop := fun q => eB E ≤ q
def vTy (E : vEnv) : List (ClassId × FieldType) := [(eA E 0, .int), (eA E 1, .byte), (eA E 2, .object "SmokeHome$Kind"), (eA E 3, .object "SmokeHome$Fire"), (eA E 4, .object "SmokeHome$Sheet")]
def vKn (E : vEnv) (s : State) : Prop := va_K (eD E) classes (vTy E) s
theorem vKn.moved {E : vEnv} {u U : State} (hvm : u.vm.Alike U.vm) (h : vKn E u) : vKn E U := va_K.moved hvm h
def vRel (E : vEnv) (n : Nat) (hp : Nat → AC) (H : Heap) : Prop := H.size = eB E + n ∧ n ≤ 1000 ∧ ∀ i, i < n → va_at (eD E) classes (eB E + i, vrC E (hp i)) H
/-- the String constants: own class, entry, text -/
def sO (k : Nat) : String := [RX7, RX7, RX7, RX7, RX7, RX4, RX9, RX6, RX5, RX3, RX2, RX0].getD k ""
def sI (k : Nat) : Nat := [35, 44, 59, 65, 67, 7, 19, 19, 15, 15, 11, 19].getD k 0
def sX (k : Nat) : String := ["wind", "wood", "at", "home", "logs", "fire", "stove", "priest", "poor", "jar", "foreign", "bed"].getD k ""
def sLen : List Nat := [4, 4, 2, 4, 4, 4, 5, 6, 4, 3, 7, 3]
def sByt : List (List Int32) := [[119, 105, 110, 100], [119, 111, 111, 100], [97, 116], [104, 111, 109, 101], [108, 111, 103, 115], [102, 105, 114, 101], [115, 116, 111, 118, 101], [112, 114, 105, 101, 115, 116], [112, 111, 111, 114], [106, 97, 114], [102, 111, 114, 101, 105, 103, 110], [98, 101, 100]]
def vSt (E : vEnv) (s : State) (H : Heap) : Prop := vk_S 12 sLen sByt (eK E) (eV E) (vA E) s H ∧ ∀ k, k < 12 → vk_R (sO k) (sI k) (sX k) (eK E k) s
def vCtx (E : vEnv) (own nm : String) (cc : ByteArray) (nL : Nat) (ret : Option FieldType) (d : Nat) (p : Program) (R : Room) (s : State) (m : MethodId) (args : Array Value) (meth : Method) (c : Code) : Prop :=
  p.tables.exec = Jvm.exec ∧ c.code = cc ∧ meth.sig.returnType = ret ∧ c.maxLocals = nL ∧ s.vm.findClass own = some m.cls ∧ (∀ w ∈ tb, w.before args s = true) ∧ meth.locks = false ∧ vKn E s ∧ vSt E s s.heap ∧ d ≤ R.frames ∧ 40 * d ≤ R.locals ∧ eB E ≤ s.heap.size ∧ meth.name = nm
def vRk (cc : ByteArray) (pc : Nat) (ret : Option FieldType) (r : Option Value) : Prop :=
  (ret = none ∧ r = none ∧ decode cc pc = .ok (.return_, 1)) ∨ (∃ v ty, ret = some ty ∧ narrow ty (.int v) = .int v ∧ r = some (.int v) ∧ decode cc pc = .ok (.ireturn, 1)) ∨ (∃ v, ret = some .long ∧ r = some (.long v) ∧ decode cc pc = .ok (.lreturn, 1)) ∨ (∃ i rt nm, ret = some rt ∧ rt = .object nm ∧ r = some (.ref i) ∧ decode cc pc = .ok (.areturn, 1))
def vRet (E : vEnv) (cc : ByteArray) (ret : Option FieldType) (Qa : Option Value → Nat → (Nat → AC) → Prop) (p : Program) (l : Launch) (e : Env) (R : Room) (s : State) (m : MethodId) (args : Array Value) (below : List Frame) (meth : Method) (c : Code) (cells slots : Nat) (Q : State → Prop) : Prop :=
  ∀ (r : Option Value) (n' : Nat) (hp' : Nat → AC) (H' : Heap) (locs' : List Loc) (pc' : Nat) (ls' : Array Slot), Qa r n' hp' → vRel E n' hp' H' → va_S (vA E) s.heap H' locs' → vRk cc pc' ret r → W p l e R s m args below meth c H' locs' cells slots Q (F0 m pc' ls' ((r.map (vr E)).toList))
/-- locals by their places -/
def vLs (E : vEnv) (nL : Nat) (ls : List (Option Value)) (lsA : Array Slot) : Prop := lsA.size = nL ∧ lv_wf lsA ∧ ∀ (i : Nat) (v : Value), ls[i]? = some (some v) → lsA[i]? = some (.val (vr E v))
def vLv (E : vEnv) (ls : List (Option Value)) : List (Nat × Value) := (List.range ls.length).filterMap fun i => (ls[i]?).join.map fun v => (i, vr E v)
theorem mem_vLv {E : vEnv} {ls : List (Option Value)} {q : Nat × Value} : q ∈ vLv E ls ↔ ∃ v, ls[q.1]? = some (some v) ∧ q.2 = vr E v := by
  unfold vLv
  rw [List.mem_filterMap]
  constructor
  · rintro ⟨i, hi, h⟩
    cases hj : (ls[i]?).join with
    | none => rw [hj] at h; cases h
    | some v =>
      rw [hj] at h
      have e : (i, vr E v) = q := by simpa using h
      subst e
      refine ⟨v, ?_, rfl⟩
      cases hl : ls[i]? with
      | none => rw [hl] at hj; cases hj
      | some o => rw [hl] at hj; cases o with
        | none => cases hj
        | some w => cases hj; rfl
  · rintro ⟨v, h1, h2⟩
    refine ⟨q.1, ?_, ?_⟩
    · rw [List.mem_range]
      exact (List.getElem?_eq_some_iff.mp h1).1
    · rw [h1]
      show some (q.1, vr E v) = some q
      rw [← h2]
theorem vLs.has {E : vEnv} {nL : Nat} {ls : List (Option Value)} {lsA : Array Slot} (h : vLs E nL ls lsA) : lv_has lsA nL (vLv E ls) := by
  refine ⟨h.1, h.2.1, fun q hq => ?_⟩
  obtain ⟨v, h1, h2⟩ := mem_vLv.mp hq
  rw [h2]
  exact h.2.2 _ _ h1
/-- no number of two words begins just ahead of a place -/
def vNL (ls : List (Option Value)) (i : Nat) : Bool := match i with
  | 0 => true
  | j + 1 => match ls[j]? with
    | some (some v) => v.category == 1
    | _ => true
theorem vLs.store {E : vEnv} {nL i : Nat} {ls : List (Option Value)} {lsA ls' : Array Slot} {x : Value} (hn : vNL ls i = true) (h' : lv_has ls' nL ((i, vr E x) :: (vLv E ls).filter (fun q => !(q.1 == i) && !(q.1 + 1 == i && q.2.category == 2)))) : vLs E nL (ls.set i (some x)) ls' := by
  refine ⟨h'.1, h'.2.1, fun j v hj => ?_⟩
  by_cases hji : j = i
  · subst hji
    have hl : j < ls.length := by
      have := (List.getElem?_eq_some_iff.mp hj).1
      simpa using this
    rw [List.getElem?_set_self hl] at hj
    cases hj
    exact h'.2.2 (j, vr E x) List.mem_cons_self
  · rw [List.getElem?_set_ne (Ne.symm hji)] at hj
    refine h'.2.2 (j, vr E v) (List.mem_cons_of_mem _ (List.mem_filter.mpr ⟨mem_vLv.mpr ⟨v, hj, rfl⟩, ?_⟩))
    have h1 : (j == i) = false := by simpa using hji
    show (!(j == i) && !(j + 1 == i && (vr E v).category == 2)) = true
    rw [h1, vr_cat]
    cases i with
    | zero => simp
    | succ k =>
      by_cases hk : j = k
      · subst hk
        have hn' : (match ls[j]? with | some (some v) => v.category == 1 | _ => true) = true := hn
        rw [hj] at hn'
        have : v.category = 1 := by simpa using hn'
        simp [this]
      · simp [hk]
theorem vLs.storeL {E : vEnv} {nL i : Nat} {ls : List (Option Value)} {lsA ls' : Array Slot} {x : Int64} (hn : vNL ls i = true) (h' : lv_has ls' nL ((i, .long x) :: (vLv E ls).filter (fun q => !(q.1 == i) && (!(q.1 == i + 1) && !(q.1 + 1 == i && q.2.category == 2))))) : vLs E nL ((ls.set i (some (.long x))).set (i + 1) none) ls' := by
  refine ⟨h'.1, h'.2.1, fun j v hj => ?_⟩
  by_cases hj1 : j = i + 1
  · subst hj1
    exfalso
    have hl := (List.getElem?_eq_some_iff.mp hj).1
    rw [List.getElem?_set_self (by simpa using hl)] at hj
    cases hj
  rw [List.getElem?_set_ne (Ne.symm hj1)] at hj
  by_cases hji : j = i
  · subst hji
    have hl : j < ls.length := by
      have := (List.getElem?_eq_some_iff.mp hj).1
      simpa using this
    rw [List.getElem?_set_self hl] at hj
    cases hj
    exact h'.2.2 (j, .long x) List.mem_cons_self
  · rw [List.getElem?_set_ne (Ne.symm hji)] at hj
    refine h'.2.2 (j, vr E v) (List.mem_cons_of_mem _ (List.mem_filter.mpr ⟨mem_vLv.mpr ⟨v, hj, rfl⟩, ?_⟩))
    have h1 : (j == i) = false := by simpa using hji
    have h2 : (j == i + 1) = false := by simpa using hj1
    show (!(j == i) && (!(j == i + 1) && !(j + 1 == i && (vr E v).category == 2))) = true
    rw [h1, h2, vr_cat]
    cases i with
    | zero => simp
    | succ k =>
      by_cases hk : j = k
      · subst hk
        have hn' : (match ls[j]? with | some (some v) => v.category == 1 | _ => true) = true := hn
        rw [hj] at hn'
        have : v.category = 1 := by simpa using hn'
        simp [this]
      · simp [hk]
def V (E : vEnv) (own nm : String) (cc : ByteArray) (nL : Nat) (ret : Option FieldType) (d kc ks : Nat) (Qa : Option Value → Nat → (Nat → AC) → Prop) (n : Nat) (hp : Nat → AC) (pc : Nat) (ls : List (Option Value)) (st : List Value) : Prop :=
  ∀ (p : Program) (l : Launch) (e : Env) (R : Room) (s : State) (m : MethodId) (args : Array Value) (below : List Frame) (meth : Method) (c : Code) (H : Heap) (locs : List Loc) (cells slots : Nat) (Q : State → Prop) (lsA : Array Slot),
    vCtx E own nm cc nL ret d p R s m args meth c → vRet E cc ret Qa p l e R s m args below meth c (cells + kc) (slots + ks) Q → cells + kc ≤ R.cells → slots + ks ≤ R.slots → vRel E n hp H → va_S (vA E) s.heap H locs → vLs E nL ls lsA →
    W p l e R s m args below meth c H locs cells slots Q (F0 m pc lsA (st.map (vr E)))
section VROWS
variable {E : vEnv} {own nm : String} {cc : ByteArray} {nL : Nat} {ret : Option FieldType} {d kc ks : Nat} {Qa : Option Value → Nat → (Nat → AC) → Prop} {n : Nat} {hp : Nat → AC} {pc : Nat} {ls : List (Option Value)} {st : List Value}

theorem V_iadd {x y : Int32} (hd : decode cc pc = .ok (.iadd, 1)) (k : V E own nm cc nL ret d kc ks Qa n hp (pc + 1) ls (.int (x + y) :: st)) : V E own nm cc nL ret d kc ks Qa n hp (pc) ls (.int y :: .int x :: st) := by
  intro p l e R s m args below meth c H locs cells slots Q lsA C Rt h1 h2 hR hS hL
  exact lv_iadd C.1 C.2.1 hd (k p l e R s m args below meth c H locs cells slots Q lsA C Rt h1 h2 hR hS hL)
theorem V_isub {x y : Int32} (hd : decode cc pc = .ok (.isub, 1)) (k : V E own nm cc nL ret d kc ks Qa n hp (pc + 1) ls (.int (x - y) :: st)) : V E own nm cc nL ret d kc ks Qa n hp (pc) ls (.int y :: .int x :: st) := by
  intro p l e R s m args below meth c H locs cells slots Q lsA C Rt h1 h2 hR hS hL
  exact lv_isub C.1 C.2.1 hd (k p l e R s m args below meth c H locs cells slots Q lsA C Rt h1 h2 hR hS hL)
theorem V_imul {x y : Int32} (hd : decode cc pc = .ok (.imul, 1)) (k : V E own nm cc nL ret d kc ks Qa n hp (pc + 1) ls (.int (x * y) :: st)) : V E own nm cc nL ret d kc ks Qa n hp (pc) ls (.int y :: .int x :: st) := by
  intro p l e R s m args below meth c H locs cells slots Q lsA C Rt h1 h2 hR hS hL
  exact lv_imul C.1 C.2.1 hd (k p l e R s m args below meth c H locs cells slots Q lsA C Rt h1 h2 hR hS hL)
theorem V_iand {x y : Int32} (hd : decode cc pc = .ok (.iand, 1)) (k : V E own nm cc nL ret d kc ks Qa n hp (pc + 1) ls (.int (x &&& y) :: st)) : V E own nm cc nL ret d kc ks Qa n hp (pc) ls (.int y :: .int x :: st) := by
  intro p l e R s m args below meth c H locs cells slots Q lsA C Rt h1 h2 hR hS hL
  exact lv_iand C.1 C.2.1 hd (k p l e R s m args below meth c H locs cells slots Q lsA C Rt h1 h2 hR hS hL)
theorem V_ior {x y : Int32} (hd : decode cc pc = .ok (.ior, 1)) (k : V E own nm cc nL ret d kc ks Qa n hp (pc + 1) ls (.int (x ||| y) :: st)) : V E own nm cc nL ret d kc ks Qa n hp (pc) ls (.int y :: .int x :: st) := by
  intro p l e R s m args below meth c H locs cells slots Q lsA C Rt h1 h2 hR hS hL
  exact lv_ior C.1 C.2.1 hd (k p l e R s m args below meth c H locs cells slots Q lsA C Rt h1 h2 hR hS hL)
theorem V_ishl {x y : Int32} (hd : decode cc pc = .ok (.ishl, 1)) (k : V E own nm cc nL ret d kc ks Qa n hp (pc + 1) ls (.int (x <<< (y &&& 31)) :: st)) : V E own nm cc nL ret d kc ks Qa n hp (pc) ls (.int y :: .int x :: st) := by
  intro p l e R s m args below meth c H locs cells slots Q lsA C Rt h1 h2 hR hS hL
  exact lv_ishl C.1 C.2.1 hd (k p l e R s m args below meth c H locs cells slots Q lsA C Rt h1 h2 hR hS hL)
theorem V_ishr {x y : Int32} (hd : decode cc pc = .ok (.ishr, 1)) (k : V E own nm cc nL ret d kc ks Qa n hp (pc + 1) ls (.int (x >>> (y &&& 31)) :: st)) : V E own nm cc nL ret d kc ks Qa n hp (pc) ls (.int y :: .int x :: st) := by
  intro p l e R s m args below meth c H locs cells slots Q lsA C Rt h1 h2 hR hS hL
  exact lv_ishr C.1 C.2.1 hd (k p l e R s m args below meth c H locs cells slots Q lsA C Rt h1 h2 hR hS hL)
theorem V_idiv {x y : Int32} (hd : decode cc pc = .ok (.idiv, 1)) (hne : ¬ y = 0) (k : V E own nm cc nL ret d kc ks Qa n hp (pc + 1) ls (.int (x / y) :: st)) : V E own nm cc nL ret d kc ks Qa n hp (pc) ls (.int y :: .int x :: st) := by
  intro p l e R s m args below meth c H locs cells slots Q lsA C Rt h1 h2 hR hS hL
  exact lv_idiv C.1 C.2.1 hd hne (k p l e R s m args below meth c H locs cells slots Q lsA C Rt h1 h2 hR hS hL)
theorem V_irem {x y : Int32} (hd : decode cc pc = .ok (.irem, 1)) (hne : ¬ y = 0) (k : V E own nm cc nL ret d kc ks Qa n hp (pc + 1) ls (.int (x - x / y * y) :: st)) : V E own nm cc nL ret d kc ks Qa n hp (pc) ls (.int y :: .int x :: st) := by
  intro p l e R s m args below meth c H locs cells slots Q lsA C Rt h1 h2 hR hS hL
  exact lv_irem C.1 C.2.1 hd hne (k p l e R s m args below meth c H locs cells slots Q lsA C Rt h1 h2 hR hS hL)
theorem V_ineg {x : Int32} (hd : decode cc pc = .ok (.ineg, 1)) (k : V E own nm cc nL ret d kc ks Qa n hp (pc + 1) ls (.int (-x) :: st)) : V E own nm cc nL ret d kc ks Qa n hp (pc) ls (.int x :: st) := by
  intro p l e R s m args below meth c H locs cells slots Q lsA C Rt h1 h2 hR hS hL
  exact lv_ineg C.1 C.2.1 hd (k p l e R s m args below meth c H locs cells slots Q lsA C Rt h1 h2 hR hS hL)
theorem V_iushr {x y : Int32} (hd : decode cc pc = .ok (.iushr, 1)) (k : V E own nm cc nL ret d kc ks Qa n hp (pc + 1) ls (.int ((x.toUInt32 >>> (y.toUInt32 &&& Int32.toUInt32 31)).toInt32) :: st)) : V E own nm cc nL ret d kc ks Qa n hp (pc) ls (.int y :: .int x :: st) := by
  intro p l e R s m args below meth c H locs cells slots Q lsA C Rt h1 h2 hR hS hL
  exact lv_iushr C.1 C.2.1 hd rfl (k p l e R s m args below meth c H locs cells slots Q lsA C Rt h1 h2 hR hS hL)
theorem V_lmul {x y : Int64} (hd : decode cc pc = .ok (.lmul, 1)) (k : V E own nm cc nL ret d kc ks Qa n hp (pc + 1) ls (.long (x * y) :: st)) : V E own nm cc nL ret d kc ks Qa n hp (pc) ls (.long y :: .long x :: st) := by
  intro p l e R s m args below meth c H locs cells slots Q lsA C Rt h1 h2 hR hS hL
  exact lv_lmul C.1 C.2.1 hd (k p l e R s m args below meth c H locs cells slots Q lsA C Rt h1 h2 hR hS hL)
theorem V_lcmp {x y : Int64} (hd : decode cc pc = .ok (.lcmp, 1)) (k : V E own nm cc nL ret d kc ks Qa n hp (pc + 1) ls (.int (lg_cmp x y) :: st)) : V E own nm cc nL ret d kc ks Qa n hp (pc) ls (.long y :: .long x :: st) := by
  intro p l e R s m args below meth c H locs cells slots Q lsA C Rt h1 h2 hR hS hL
  exact W.lcmp C.1 C.2.1 hd (k p l e R s m args below meth c H locs cells slots Q lsA C Rt h1 h2 hR hS hL)
theorem V_i2l {x : Int32} (hd : decode cc pc = .ok (.i2l, 1)) (k : V E own nm cc nL ret d kc ks Qa n hp (pc + 1) ls (.long x.toInt64 :: st)) : V E own nm cc nL ret d kc ks Qa n hp (pc) ls (.int x :: st) := by
  intro p l e R s m args below meth c H locs cells slots Q lsA C Rt h1 h2 hR hS hL
  exact lv_i2l C.1 C.2.1 hd rfl (k p l e R s m args below meth c H locs cells slots Q lsA C Rt h1 h2 hR hS hL)
theorem V_i2b {x : Int32} (hd : decode cc pc = .ok (.i2b, 1)) (k : V E own nm cc nL ret d kc ks Qa n hp (pc + 1) ls (.int x.toInt8.toInt32 :: st)) : V E own nm cc nL ret d kc ks Qa n hp (pc) ls (.int x :: st) := by
  intro p l e R s m args below meth c H locs cells slots Q lsA C Rt h1 h2 hR hS hL
  exact lv_i2b C.1 C.2.1 hd rfl (k p l e R s m args below meth c H locs cells slots Q lsA C Rt h1 h2 hR hS hL)
theorem V_i2s {x : Int32} (hd : decode cc pc = .ok (.i2s, 1)) (k : V E own nm cc nL ret d kc ks Qa n hp (pc + 1) ls (.int x.toInt16.toInt32 :: st)) : V E own nm cc nL ret d kc ks Qa n hp (pc) ls (.int x :: st) := by
  intro p l e R s m args below meth c H locs cells slots Q lsA C Rt h1 h2 hR hS hL
  exact lv_i2s C.1 C.2.1 hd rfl (k p l e R s m args below meth c H locs cells slots Q lsA C Rt h1 h2 hR hS hL)
theorem V_iconst {k : Int} {v : Int32} (hd : decode cc pc = .ok (.iconst k, 1)) (hv : Int32.ofInt k = v) (k : V E own nm cc nL ret d kc ks Qa n hp (pc + 1) ls (.int v :: st)) : V E own nm cc nL ret d kc ks Qa n hp (pc) ls (st) := by
  intro p l e R s m args below meth c H locs cells slots Q lsA C Rt h1 h2 hR hS hL
  exact lv_iconst C.1 C.2.1 hd hv (k p l e R s m args below meth c H locs cells slots Q lsA C Rt h1 h2 hR hS hL)
theorem V_bipush {k : Int} {v : Int32} (hd : decode cc pc = .ok (.bipush k, 2)) (hv : (Int8.ofInt k).toInt32 = v) (k : V E own nm cc nL ret d kc ks Qa n hp (pc + 2) ls (.int v :: st)) : V E own nm cc nL ret d kc ks Qa n hp (pc) ls (st) := by
  intro p l e R s m args below meth c H locs cells slots Q lsA C Rt h1 h2 hR hS hL
  exact lv_bipush C.1 C.2.1 hd hv (k p l e R s m args below meth c H locs cells slots Q lsA C Rt h1 h2 hR hS hL)
theorem V_sipush {k : Int} {v : Int32} (hd : decode cc pc = .ok (.sipush k, 3)) (hv : (Int16.ofInt k).toInt32 = v) (k : V E own nm cc nL ret d kc ks Qa n hp (pc + 3) ls (.int v :: st)) : V E own nm cc nL ret d kc ks Qa n hp (pc) ls (st) := by
  intro p l e R s m args below meth c H locs cells slots Q lsA C Rt h1 h2 hR hS hL
  exact lv_sipush C.1 C.2.1 hd hv (k p l e R s m args below meth c H locs cells slots Q lsA C Rt h1 h2 hR hS hL)
theorem V_lconst {k : Fin 2} {v : Int64} (hd : decode cc pc = .ok (.lconst k, 1)) (hv : Int64.ofNat (k : Nat) = v) (k : V E own nm cc nL ret d kc ks Qa n hp (pc + 1) ls (.long v :: st)) : V E own nm cc nL ret d kc ks Qa n hp (pc) ls (st) := by
  intro p l e R s m args below meth c H locs cells slots Q lsA C Rt h1 h2 hR hS hL
  exact lv_lconst C.1 C.2.1 hd hv (k p l e R s m args below meth c H locs cells slots Q lsA C Rt h1 h2 hR hS hL)
theorem V_ldc {i : Nat} {v : Int32} (hw : Cond.constant own i v ∈ tb) (hd : decode cc pc = .ok (.ldc i, 2)) (k : V E own nm cc nL ret d kc ks Qa n hp (pc + 2) ls (.int v :: st)) : V E own nm cc nL ret d kc ks Qa n hp (pc) ls (st) := by
  intro p l e R s m args below meth c H locs cells slots Q lsA C Rt h1 h2 hR hS hL
  exact lv_ldc C.1 C.2.1 C.2.2.2.2.1 (C.2.2.2.2.2.1 _ hw) hd (k p l e R s m args below meth c H locs cells slots Q lsA C Rt h1 h2 hR hS hL)
theorem V_ldcw {i : Nat} {v : Int32} (hw : Cond.constant own i v ∈ tb) (hd : decode cc pc = .ok (.ldc_w i, 3)) (k : V E own nm cc nL ret d kc ks Qa n hp (pc + 3) ls (.int v :: st)) : V E own nm cc nL ret d kc ks Qa n hp (pc) ls (st) := by
  intro p l e R s m args below meth c H locs cells slots Q lsA C Rt h1 h2 hR hS hL
  exact lv_ldcw C.1 C.2.1 C.2.2.2.2.1 (C.2.2.2.2.2.1 _ hw) hd (k p l e R s m args below meth c H locs cells slots Q lsA C Rt h1 h2 hR hS hL)
theorem V_ldc2 {i : Nat} {v : Int64} (hw : Cond.constantLong own i v ∈ tb) (hd : decode cc pc = .ok (.ldc2_w i, 3)) (k : V E own nm cc nL ret d kc ks Qa n hp (pc + 3) ls (.long v :: st)) : V E own nm cc nL ret d kc ks Qa n hp (pc) ls (st) := by
  intro p l e R s m args below meth c H locs cells slots Q lsA C Rt h1 h2 hR hS hL
  exact lv_ldc2 C.1 C.2.1 C.2.2.2.2.1 (C.2.2.2.2.2.1 _ hw) hd (k p l e R s m args below meth c H locs cells slots Q lsA C Rt h1 h2 hR hS hL)
theorem V_dup {v : Value} (hd : decode cc pc = .ok (.dup, 1)) (hv : v.category = 1) (k : V E own nm cc nL ret d kc ks Qa n hp (pc + 1) ls (v :: v :: st)) : V E own nm cc nL ret d kc ks Qa n hp (pc) ls (v :: st) := by
  intro p l e R s m args below meth c H locs cells slots Q lsA C Rt h1 h2 hR hS hL
  exact lv_dup C.1 C.2.1 hd ((vr_cat E v).trans hv) (k p l e R s m args below meth c H locs cells slots Q lsA C Rt h1 h2 hR hS hL)
theorem V_dup2 {v w : Value} (hd : decode cc pc = .ok (.dup2, 1)) (hv : v.category = 1) (hw : w.category = 1) (k : V E own nm cc nL ret d kc ks Qa n hp (pc + 1) ls (v :: w :: v :: w :: st)) : V E own nm cc nL ret d kc ks Qa n hp (pc) ls (v :: w :: st) := by
  intro p l e R s m args below meth c H locs cells slots Q lsA C Rt h1 h2 hR hS hL
  exact lv_dup2_11 C.1 C.2.1 hd ((vr_cat E v).trans hv) ((vr_cat E w).trans hw) (k p l e R s m args below meth c H locs cells slots Q lsA C Rt h1 h2 hR hS hL)
theorem V_pop {v : Value} (hd : decode cc pc = .ok (.pop, 1)) (hv : v.category = 1) (k : V E own nm cc nL ret d kc ks Qa n hp (pc + 1) ls (st)) : V E own nm cc nL ret d kc ks Qa n hp (pc) ls (v :: st) := by
  intro p l e R s m args below meth c H locs cells slots Q lsA C Rt h1 h2 hR hS hL
  exact lv_pop C.1 C.2.1 hd ((vr_cat E v).trans hv) (k p l e R s m args below meth c H locs cells slots Q lsA C Rt h1 h2 hR hS hL)
theorem V_iload_n {k : Fin 4} {i : Nat} {x : Int32} (hd : decode cc pc = .ok (.iload_n k, 1)) (hi : (k : Nat) = i) (hl : ls[i]? = some (some (.int x))) (k : V E own nm cc nL ret d kc ks Qa n hp (pc + 1) ls (.int x :: st)) : V E own nm cc nL ret d kc ks Qa n hp (pc) ls (st) := by
  intro p l e R s m args below meth c H locs cells slots Q lsA C Rt h1 h2 hR hS hL
  exact lv_iload_n C.1 C.2.1 hd hi (hL.2.2 _ _ hl) (k p l e R s m args below meth c H locs cells slots Q lsA C Rt h1 h2 hR hS hL)
theorem V_iload {i : Nat} {x : Int32} (hd : decode cc pc = .ok (.iload i, 2)) (hl : ls[i]? = some (some (.int x))) (k : V E own nm cc nL ret d kc ks Qa n hp (pc + 2) ls (.int x :: st)) : V E own nm cc nL ret d kc ks Qa n hp (pc) ls (st) := by
  intro p l e R s m args below meth c H locs cells slots Q lsA C Rt h1 h2 hR hS hL
  exact lv_iload C.1 C.2.1 hd (hL.2.2 _ _ hl) (k p l e R s m args below meth c H locs cells slots Q lsA C Rt h1 h2 hR hS hL)
theorem V_lload_n {k : Fin 4} {i : Nat} {x : Int64} (hd : decode cc pc = .ok (.lload_n k, 1)) (hi : (k : Nat) = i) (hl : ls[i]? = some (some (.long x))) (k : V E own nm cc nL ret d kc ks Qa n hp (pc + 1) ls (.long x :: st)) : V E own nm cc nL ret d kc ks Qa n hp (pc) ls (st) := by
  intro p l e R s m args below meth c H locs cells slots Q lsA C Rt h1 h2 hR hS hL
  exact lv_lload_n C.1 C.2.1 hd hi (hL.2.2 _ _ hl) (k p l e R s m args below meth c H locs cells slots Q lsA C Rt h1 h2 hR hS hL)
theorem V_lload {i : Nat} {x : Int64} (hd : decode cc pc = .ok (.lload i, 2)) (hl : ls[i]? = some (some (.long x))) (k : V E own nm cc nL ret d kc ks Qa n hp (pc + 2) ls (.long x :: st)) : V E own nm cc nL ret d kc ks Qa n hp (pc) ls (st) := by
  intro p l e R s m args below meth c H locs cells slots Q lsA C Rt h1 h2 hR hS hL
  exact lv_lload C.1 C.2.1 hd (hL.2.2 _ _ hl) (k p l e R s m args below meth c H locs cells slots Q lsA C Rt h1 h2 hR hS hL)
theorem V_aload_n {k : Fin 4} {i : Nat} {x : Nat} (hd : decode cc pc = .ok (.aload_n k, 1)) (hi : (k : Nat) = i) (hl : ls[i]? = some (some (.ref x))) (k : V E own nm cc nL ret d kc ks Qa n hp (pc + 1) ls (.ref x :: st)) : V E own nm cc nL ret d kc ks Qa n hp (pc) ls (st) := by
  intro p l e R s m args below meth c H locs cells slots Q lsA C Rt h1 h2 hR hS hL
  exact lv_aload_n C.1 C.2.1 hd hi (hL.2.2 _ _ hl) (k p l e R s m args below meth c H locs cells slots Q lsA C Rt h1 h2 hR hS hL)
theorem V_aload {i : Nat} {x : Nat} (hd : decode cc pc = .ok (.aload i, 2)) (hl : ls[i]? = some (some (.ref x))) (k : V E own nm cc nL ret d kc ks Qa n hp (pc + 2) ls (.ref x :: st)) : V E own nm cc nL ret d kc ks Qa n hp (pc) ls (st) := by
  intro p l e R s m args below meth c H locs cells slots Q lsA C Rt h1 h2 hR hS hL
  exact lv_aload C.1 C.2.1 hd (hL.2.2 _ _ hl) (k p l e R s m args below meth c H locs cells slots Q lsA C Rt h1 h2 hR hS hL)
theorem V_istore_n {k : Fin 4} {i : Nat} {x : Int32} {ls2 : List (Option Value)} (hd : decode cc pc = .ok (.istore_n k, 1)) (hi : (k : Nat) = i) (hn : i < nL) (hz : vNL ls i = true) (he : ls.set i (some (.int x)) = ls2) (k : V E own nm cc nL ret d kc ks Qa n hp (pc + 1) ls2 (st)) : V E own nm cc nL ret d kc ks Qa n hp (pc) ls (.int x :: st) := by
  intro p l e R s m args below meth c H locs cells slots Q lsA C Rt h1 h2 hR hS hL
  subst he
  exact lv_istore_n C.1 C.2.1 hd hi hL.has hn rfl (fun ls' h' => k p l e R s m args below meth c H locs cells slots Q ls' C Rt h1 h2 hR hS (vLs.store (lsA := lsA) (x := .int x) hz h'))
theorem V_istore {i : Nat} {x : Int32} {ls2 : List (Option Value)} (hd : decode cc pc = .ok (.istore i, 2)) (hn : i < nL) (hz : vNL ls i = true) (he : ls.set i (some (.int x)) = ls2) (k : V E own nm cc nL ret d kc ks Qa n hp (pc + 2) ls2 (st)) : V E own nm cc nL ret d kc ks Qa n hp (pc) ls (.int x :: st) := by
  intro p l e R s m args below meth c H locs cells slots Q lsA C Rt h1 h2 hR hS hL
  subst he
  exact lv_istore C.1 C.2.1 hd hL.has hn rfl (fun ls' h' => k p l e R s m args below meth c H locs cells slots Q ls' C Rt h1 h2 hR hS (vLs.store (lsA := lsA) (x := .int x) hz h'))
theorem V_astore_n {k : Fin 4} {i : Nat} {x : Nat} {ls2 : List (Option Value)} (hd : decode cc pc = .ok (.astore_n k, 1)) (hi : (k : Nat) = i) (hn : i < nL) (hz : vNL ls i = true) (he : ls.set i (some (.ref x)) = ls2) (k : V E own nm cc nL ret d kc ks Qa n hp (pc + 1) ls2 (st)) : V E own nm cc nL ret d kc ks Qa n hp (pc) ls (.ref x :: st) := by
  intro p l e R s m args below meth c H locs cells slots Q lsA C Rt h1 h2 hR hS hL
  subst he
  exact lv_astore_n C.1 C.2.1 hd hi hL.has hn rfl (fun ls' h' => k p l e R s m args below meth c H locs cells slots Q ls' C Rt h1 h2 hR hS (vLs.store (lsA := lsA) (x := .ref x) hz h'))
theorem V_astore {i : Nat} {x : Nat} {ls2 : List (Option Value)} (hd : decode cc pc = .ok (.astore i, 2)) (hn : i < nL) (hz : vNL ls i = true) (he : ls.set i (some (.ref x)) = ls2) (k : V E own nm cc nL ret d kc ks Qa n hp (pc + 2) ls2 (st)) : V E own nm cc nL ret d kc ks Qa n hp (pc) ls (.ref x :: st) := by
  intro p l e R s m args below meth c H locs cells slots Q lsA C Rt h1 h2 hR hS hL
  subst he
  exact lv_astore C.1 C.2.1 hd hL.has hn rfl (fun ls' h' => k p l e R s m args below meth c H locs cells slots Q ls' C Rt h1 h2 hR hS (vLs.store (lsA := lsA) (x := .ref x) hz h'))
theorem V_lstore_n {k : Fin 4} {i : Nat} {x : Int64} {ls2 : List (Option Value)} (hd : decode cc pc = .ok (.lstore_n k, 1)) (hi : (k : Nat) = i) (hn : i + 1 < nL) (hz : vNL ls i = true) (he : (ls.set i (some (.long x))).set (i + 1) none = ls2) (k : V E own nm cc nL ret d kc ks Qa n hp (pc + 1) ls2 (st)) : V E own nm cc nL ret d kc ks Qa n hp (pc) ls (.long x :: st) := by
  intro p l e R s m args below meth c H locs cells slots Q lsA C Rt h1 h2 hR hS hL
  subst he
  exact lv_lstore_n C.1 C.2.1 hd hi hL.has hn rfl (fun ls' h' => k p l e R s m args below meth c H locs cells slots Q ls' C Rt h1 h2 hR hS (vLs.storeL (lsA := lsA) hz h'))
theorem V_lstore {i : Nat} {x : Int64} {ls2 : List (Option Value)} (hd : decode cc pc = .ok (.lstore i, 2)) (hn : i + 1 < nL) (hz : vNL ls i = true) (he : (ls.set i (some (.long x))).set (i + 1) none = ls2) (k : V E own nm cc nL ret d kc ks Qa n hp (pc + 2) ls2 (st)) : V E own nm cc nL ret d kc ks Qa n hp (pc) ls (.long x :: st) := by
  intro p l e R s m args below meth c H locs cells slots Q lsA C Rt h1 h2 hR hS hL
  subst he
  exact lv_lstore C.1 C.2.1 hd hL.has hn rfl (fun ls' h' => k p l e R s m args below meth c H locs cells slots Q ls' C Rt h1 h2 hR hS (vLs.storeL (lsA := lsA) hz h'))
theorem V_iinc {i : Nat} {a : Int} {x v : Int32} {ls2 : List (Option Value)} (hd : decode cc pc = .ok (.iinc i a, 3)) (hl : ls[i]? = some (some (.int x))) (hv : x + Int32.ofInt a = v) (hn : i < nL) (hz : vNL ls i = true) (he : ls.set i (some (.int v)) = ls2) (k : V E own nm cc nL ret d kc ks Qa n hp (pc + 3) ls2 (st)) : V E own nm cc nL ret d kc ks Qa n hp (pc) ls (st) := by
  intro p l e R s m args below meth c H locs cells slots Q lsA C Rt h1 h2 hR hS hL
  subst he
  obtain ⟨j, hj⟩ := List.getElem?_of_mem (mem_vLv.mpr ⟨.int x, hl, rfl⟩ : (i, vr E (.int x)) ∈ vLv E ls)
  exact lv_iinc C.1 C.2.1 hd hL.has hj hv hn rfl (fun ls' h' => k p l e R s m args below meth c H locs cells slots Q ls' C Rt h1 h2 hR hS (vLs.store (lsA := lsA) (x := .int v) hz h'))
theorem V_icmp_eq {x y : Int32} {off : Int} {tgt : Nat} (hd : decode cc pc = .ok (.if_icmp .eq off, 3)) (ht : (pc : Int) + off = (tgt : Int)) (kt : x = y → V E own nm cc nL ret d kc ks Qa n hp (tgt) ls (st)) (kf : ¬ x = y → V E own nm cc nL ret d kc ks Qa n hp (pc + 3) ls (st)) : V E own nm cc nL ret d kc ks Qa n hp (pc) ls (.int y :: .int x :: st) := by
  intro p l e R s m args below meth c H locs cells slots Q lsA C Rt h1 h2 hR hS hL
  exact lv_icmp_eq C.1 C.2.1 hd ht (fun z => kt z p l e R s m args below meth c H locs cells slots Q lsA C Rt h1 h2 hR hS hL) (fun z => kf z p l e R s m args below meth c H locs cells slots Q lsA C Rt h1 h2 hR hS hL)
theorem V_if_eq {x : Int32} {off : Int} {tgt : Nat} (hd : decode cc pc = .ok (.ifCond .eq off, 3)) (ht : (pc : Int) + off = (tgt : Int)) (kt : x = 0 → V E own nm cc nL ret d kc ks Qa n hp (tgt) ls (st)) (kf : ¬ x = 0 → V E own nm cc nL ret d kc ks Qa n hp (pc + 3) ls (st)) : V E own nm cc nL ret d kc ks Qa n hp (pc) ls (.int x :: st) := by
  intro p l e R s m args below meth c H locs cells slots Q lsA C Rt h1 h2 hR hS hL
  exact lv_if_eq C.1 C.2.1 hd ht (fun z => kt z p l e R s m args below meth c H locs cells slots Q lsA C Rt h1 h2 hR hS hL) (fun z => kf z p l e R s m args below meth c H locs cells slots Q lsA C Rt h1 h2 hR hS hL)
theorem V_icmp_ne {x y : Int32} {off : Int} {tgt : Nat} (hd : decode cc pc = .ok (.if_icmp .ne off, 3)) (ht : (pc : Int) + off = (tgt : Int)) (kt : ¬ x = y → V E own nm cc nL ret d kc ks Qa n hp (tgt) ls (st)) (kf : x = y → V E own nm cc nL ret d kc ks Qa n hp (pc + 3) ls (st)) : V E own nm cc nL ret d kc ks Qa n hp (pc) ls (.int y :: .int x :: st) := by
  intro p l e R s m args below meth c H locs cells slots Q lsA C Rt h1 h2 hR hS hL
  exact lv_icmp_ne C.1 C.2.1 hd ht (fun z => kt z p l e R s m args below meth c H locs cells slots Q lsA C Rt h1 h2 hR hS hL) (fun z => kf z p l e R s m args below meth c H locs cells slots Q lsA C Rt h1 h2 hR hS hL)
theorem V_if_ne {x : Int32} {off : Int} {tgt : Nat} (hd : decode cc pc = .ok (.ifCond .ne off, 3)) (ht : (pc : Int) + off = (tgt : Int)) (kt : ¬ x = 0 → V E own nm cc nL ret d kc ks Qa n hp (tgt) ls (st)) (kf : x = 0 → V E own nm cc nL ret d kc ks Qa n hp (pc + 3) ls (st)) : V E own nm cc nL ret d kc ks Qa n hp (pc) ls (.int x :: st) := by
  intro p l e R s m args below meth c H locs cells slots Q lsA C Rt h1 h2 hR hS hL
  exact lv_if_ne C.1 C.2.1 hd ht (fun z => kt z p l e R s m args below meth c H locs cells slots Q lsA C Rt h1 h2 hR hS hL) (fun z => kf z p l e R s m args below meth c H locs cells slots Q lsA C Rt h1 h2 hR hS hL)
theorem V_icmp_lt {x y : Int32} {off : Int} {tgt : Nat} (hd : decode cc pc = .ok (.if_icmp .lt off, 3)) (ht : (pc : Int) + off = (tgt : Int)) (kt : x < y → V E own nm cc nL ret d kc ks Qa n hp (tgt) ls (st)) (kf : ¬ x < y → V E own nm cc nL ret d kc ks Qa n hp (pc + 3) ls (st)) : V E own nm cc nL ret d kc ks Qa n hp (pc) ls (.int y :: .int x :: st) := by
  intro p l e R s m args below meth c H locs cells slots Q lsA C Rt h1 h2 hR hS hL
  exact lv_icmp_lt C.1 C.2.1 hd ht (fun z => kt z p l e R s m args below meth c H locs cells slots Q lsA C Rt h1 h2 hR hS hL) (fun z => kf z p l e R s m args below meth c H locs cells slots Q lsA C Rt h1 h2 hR hS hL)
theorem V_if_lt {x : Int32} {off : Int} {tgt : Nat} (hd : decode cc pc = .ok (.ifCond .lt off, 3)) (ht : (pc : Int) + off = (tgt : Int)) (kt : x < 0 → V E own nm cc nL ret d kc ks Qa n hp (tgt) ls (st)) (kf : ¬ x < 0 → V E own nm cc nL ret d kc ks Qa n hp (pc + 3) ls (st)) : V E own nm cc nL ret d kc ks Qa n hp (pc) ls (.int x :: st) := by
  intro p l e R s m args below meth c H locs cells slots Q lsA C Rt h1 h2 hR hS hL
  exact lv_if_lt C.1 C.2.1 hd ht (fun z => kt z p l e R s m args below meth c H locs cells slots Q lsA C Rt h1 h2 hR hS hL) (fun z => kf z p l e R s m args below meth c H locs cells slots Q lsA C Rt h1 h2 hR hS hL)
theorem V_icmp_ge {x y : Int32} {off : Int} {tgt : Nat} (hd : decode cc pc = .ok (.if_icmp .ge off, 3)) (ht : (pc : Int) + off = (tgt : Int)) (kt : y ≤ x → V E own nm cc nL ret d kc ks Qa n hp (tgt) ls (st)) (kf : ¬ y ≤ x → V E own nm cc nL ret d kc ks Qa n hp (pc + 3) ls (st)) : V E own nm cc nL ret d kc ks Qa n hp (pc) ls (.int y :: .int x :: st) := by
  intro p l e R s m args below meth c H locs cells slots Q lsA C Rt h1 h2 hR hS hL
  exact lv_icmp_ge C.1 C.2.1 hd ht (fun z => kt z p l e R s m args below meth c H locs cells slots Q lsA C Rt h1 h2 hR hS hL) (fun z => kf z p l e R s m args below meth c H locs cells slots Q lsA C Rt h1 h2 hR hS hL)
theorem V_if_ge {x : Int32} {off : Int} {tgt : Nat} (hd : decode cc pc = .ok (.ifCond .ge off, 3)) (ht : (pc : Int) + off = (tgt : Int)) (kt : 0 ≤ x → V E own nm cc nL ret d kc ks Qa n hp (tgt) ls (st)) (kf : ¬ 0 ≤ x → V E own nm cc nL ret d kc ks Qa n hp (pc + 3) ls (st)) : V E own nm cc nL ret d kc ks Qa n hp (pc) ls (.int x :: st) := by
  intro p l e R s m args below meth c H locs cells slots Q lsA C Rt h1 h2 hR hS hL
  exact lv_if_ge C.1 C.2.1 hd ht (fun z => kt z p l e R s m args below meth c H locs cells slots Q lsA C Rt h1 h2 hR hS hL) (fun z => kf z p l e R s m args below meth c H locs cells slots Q lsA C Rt h1 h2 hR hS hL)
theorem V_icmp_gt {x y : Int32} {off : Int} {tgt : Nat} (hd : decode cc pc = .ok (.if_icmp .gt off, 3)) (ht : (pc : Int) + off = (tgt : Int)) (kt : y < x → V E own nm cc nL ret d kc ks Qa n hp (tgt) ls (st)) (kf : ¬ y < x → V E own nm cc nL ret d kc ks Qa n hp (pc + 3) ls (st)) : V E own nm cc nL ret d kc ks Qa n hp (pc) ls (.int y :: .int x :: st) := by
  intro p l e R s m args below meth c H locs cells slots Q lsA C Rt h1 h2 hR hS hL
  exact lv_icmp_gt C.1 C.2.1 hd ht (fun z => kt z p l e R s m args below meth c H locs cells slots Q lsA C Rt h1 h2 hR hS hL) (fun z => kf z p l e R s m args below meth c H locs cells slots Q lsA C Rt h1 h2 hR hS hL)
theorem V_if_gt {x : Int32} {off : Int} {tgt : Nat} (hd : decode cc pc = .ok (.ifCond .gt off, 3)) (ht : (pc : Int) + off = (tgt : Int)) (kt : 0 < x → V E own nm cc nL ret d kc ks Qa n hp (tgt) ls (st)) (kf : ¬ 0 < x → V E own nm cc nL ret d kc ks Qa n hp (pc + 3) ls (st)) : V E own nm cc nL ret d kc ks Qa n hp (pc) ls (.int x :: st) := by
  intro p l e R s m args below meth c H locs cells slots Q lsA C Rt h1 h2 hR hS hL
  exact lv_if_gt C.1 C.2.1 hd ht (fun z => kt z p l e R s m args below meth c H locs cells slots Q lsA C Rt h1 h2 hR hS hL) (fun z => kf z p l e R s m args below meth c H locs cells slots Q lsA C Rt h1 h2 hR hS hL)
theorem V_icmp_le {x y : Int32} {off : Int} {tgt : Nat} (hd : decode cc pc = .ok (.if_icmp .le off, 3)) (ht : (pc : Int) + off = (tgt : Int)) (kt : x ≤ y → V E own nm cc nL ret d kc ks Qa n hp (tgt) ls (st)) (kf : ¬ x ≤ y → V E own nm cc nL ret d kc ks Qa n hp (pc + 3) ls (st)) : V E own nm cc nL ret d kc ks Qa n hp (pc) ls (.int y :: .int x :: st) := by
  intro p l e R s m args below meth c H locs cells slots Q lsA C Rt h1 h2 hR hS hL
  exact lv_icmp_le C.1 C.2.1 hd ht (fun z => kt z p l e R s m args below meth c H locs cells slots Q lsA C Rt h1 h2 hR hS hL) (fun z => kf z p l e R s m args below meth c H locs cells slots Q lsA C Rt h1 h2 hR hS hL)
theorem V_if_le {x : Int32} {off : Int} {tgt : Nat} (hd : decode cc pc = .ok (.ifCond .le off, 3)) (ht : (pc : Int) + off = (tgt : Int)) (kt : x ≤ 0 → V E own nm cc nL ret d kc ks Qa n hp (tgt) ls (st)) (kf : ¬ x ≤ 0 → V E own nm cc nL ret d kc ks Qa n hp (pc + 3) ls (st)) : V E own nm cc nL ret d kc ks Qa n hp (pc) ls (.int x :: st) := by
  intro p l e R s m args below meth c H locs cells slots Q lsA C Rt h1 h2 hR hS hL
  exact lv_if_le C.1 C.2.1 hd ht (fun z => kt z p l e R s m args below meth c H locs cells slots Q lsA C Rt h1 h2 hR hS hL) (fun z => kf z p l e R s m args below meth c H locs cells slots Q lsA C Rt h1 h2 hR hS hL)
theorem V_goto {off : Int} {tgt : Nat} (hd : decode cc pc = .ok (.goto off, 3)) (ht : (pc : Int) + off = (tgt : Int)) (k : V E own nm cc nL ret d kc ks Qa n hp (tgt) ls (st)) : V E own nm cc nL ret d kc ks Qa n hp (pc) ls (st) := by
  intro p l e R s m args below meth c H locs cells slots Q lsA C Rt h1 h2 hR hS hL
  exact lv_goto C.1 C.2.1 hd ht (k p l e R s m args below meth c H locs cells slots Q lsA C Rt h1 h2 hR hS hL)
theorem V_tableIn {dflt lo hi : Int} {offs : Array Int} {len : Nat} {x : Int32} {off : Int} {tgt : Nat} (hd : decode cc pc = .ok (.tableswitch dflt lo hi offs, len)) (h1 : ¬ x.toInt < lo) (h2 : ¬ hi < x.toInt) (ho : offs[(x.toInt - lo).toNat]? = some off) (ht : (pc : Int) + off = (tgt : Int)) (k : V E own nm cc nL ret d kc ks Qa n hp (tgt) ls (st)) : V E own nm cc nL ret d kc ks Qa n hp (pc) ls (.int x :: st) := by
  intro p l e R s m args below meth c H locs cells slots Q lsA C Rt g1 g2 hR hS hL
  exact lv_tableIn C.1 C.2.1 hd h1 h2 ho ht (k p l e R s m args below meth c H locs cells slots Q lsA C Rt g1 g2 hR hS hL)
theorem V_tableOut {dflt lo hi : Int} {offs : Array Int} {len : Nat} {x : Int32} {tgt : Nat} (hd : decode cc pc = .ok (.tableswitch dflt lo hi offs, len)) (h : x.toInt < lo ∨ hi < x.toInt) (ht : (pc : Int) + dflt = (tgt : Int)) (k : V E own nm cc nL ret d kc ks Qa n hp (tgt) ls (st)) : V E own nm cc nL ret d kc ks Qa n hp (pc) ls (.int x :: st) := by
  intro p l e R s m args below meth c H locs cells slots Q lsA C Rt h1 h2 hR hS hL
  exact lv_tableOut C.1 C.2.1 hd h ht (k p l e R s m args below meth c H locs cells slots Q lsA C Rt h1 h2 hR hS hL)
theorem V_lookup {dflt : Int} {ps : Array (Int × Int)} {len : Nat} {x : Int32} {off : Int} {tgt : Nat} (hd : decode cc pc = .ok (.lookupswitch dflt ps, len)) (hp2 : (ps.toList.zip (ps.toList.drop 1)).all (fun (a, next) => a.1 < next.1) = true) (ho : Op.lookupswitch.offset ps.toList dflt x.toInt = off) (ht : (pc : Int) + off = (tgt : Int)) (k : V E own nm cc nL ret d kc ks Qa n hp (tgt) ls (st)) : V E own nm cc nL ret d kc ks Qa n hp (pc) ls (.int x :: st) := by
  intro p l e R s m args below meth c H locs cells slots Q lsA C Rt h1 h2 hR hS hL
  exact lv_lookup C.1 C.2.1 hd hp2 ho ht (k p l e R s m args below meth c H locs cells slots Q lsA C Rt h1 h2 hR hS hL)
theorem V_iret {v : Int32} {ty : FieldType} (hd : decode cc pc = .ok (.ireturn, 1)) (hr : ret = some ty) (hn : narrow ty (.int v) = .int v) (k : Qa (some (.int v)) n hp) : V E own nm cc nL ret d kc ks Qa n hp (pc) ls ([.int v]) := by
  intro p l e R s m args below meth c H locs cells slots Q lsA C Rt h1 h2 hR hS hL
  refine W.widen (k := cells + kc) (n := slots + ks) (Nat.le_add_right _ _) (Nat.le_add_right _ _) ?_
  exact Rt (some (.int v)) n hp H locs pc lsA k hR hS (Or.inr (Or.inl ⟨v, ty, hr, hn, rfl, hd⟩))
theorem V_lret {v : Int64} (hd : decode cc pc = .ok (.lreturn, 1)) (hr : ret = some .long) (k : Qa (some (.long v)) n hp) : V E own nm cc nL ret d kc ks Qa n hp (pc) ls ([.long v]) := by
  intro p l e R s m args below meth c H locs cells slots Q lsA C Rt h1 h2 hR hS hL
  refine W.widen (k := cells + kc) (n := slots + ks) (Nat.le_add_right _ _) (Nat.le_add_right _ _) ?_
  exact Rt (some (.long v)) n hp H locs pc lsA k hR hS (Or.inr (Or.inr (Or.inl ⟨v, hr, rfl, hd⟩)))
theorem V_aret {v : Nat} {tn : String} (hd : decode cc pc = .ok (.areturn, 1)) (hr : ret = some (.object tn)) (k : Qa (some (.ref v)) n hp) : V E own nm cc nL ret d kc ks Qa n hp (pc) ls ([.ref v]) := by
  intro p l e R s m args below meth c H locs cells slots Q lsA C Rt h1 h2 hR hS hL
  refine W.widen (k := cells + kc) (n := slots + ks) (Nat.le_add_right _ _) (Nat.le_add_right _ _) ?_
  exact Rt (some (.ref v)) n hp H locs pc lsA k hR hS (Or.inr (Or.inr (Or.inr ⟨v, _, tn, hr, rfl, rfl, hd⟩)))
theorem V_vret (hd : decode cc pc = .ok (.return_, 1)) (hr : ret = none) (k : Qa none n hp) : V E own nm cc nL ret d kc ks Qa n hp (pc) ls ([]) := by
  intro p l e R s m args below meth c H locs cells slots Q lsA C Rt h1 h2 hR hS hL
  refine W.widen (k := cells + kc) (n := slots + ks) (Nat.le_add_right _ _) (Nat.le_add_right _ _) ?_
  exact Rt none n hp H locs pc lsA k hR hS (Or.inl ⟨hr, rfl, hd⟩)
end VROWS
end
section
/-! THE LAYER, second part: fields, arrays, calls, contracts -/
theorem vad_lt {E : vEnv} {i : Nat} (h : i < 1000) : vad E i = eB E + i := if_pos h
theorem vRel.one {E : vEnv} {n i : Nat} {hp : Nat → AC} {H : Heap} (h : vRel E n hp H) (hi : i < n) : va_P (eD E) classes [(eB E + i, vrC E (hp i))] H := by
  intro k q hq
  have hk : k < 1 := (List.getElem?_eq_some_iff.mp hq).1
  rw [show k = 0 by omega] at hq
  cases hq
  exact h.2.2 i hi
theorem vRel.oneD {E : vEnv} {i : Nat} {hp : Nat → AC} : va_D (vA E) [(eB E + i, vrC E (hp i))] := by
  refine ⟨fun i j p q hp hq _ => ?_, fun k q hq => ?_⟩
  · have h1 : i < 1 := (List.getElem?_eq_some_iff.mp hp).1
    have h2 : j < 1 := (List.getElem?_eq_some_iff.mp hq).1
    omega
  · have h1 : k < 1 := (List.getElem?_eq_some_iff.mp hq).1
    rw [show k = 0 by omega] at hq
    cases hq
    exact Nat.le_add_right _ _
theorem vRel.set {E : vEnv} {n i : Nat} {hp : Nat → AC} {H H' : Heap} {c : AC} (h : vRel E n hp H) (e2 : H'.size = H.size) (e3 : ∀ q : Nat, q ≠ eB E + i → H'[q]? = H[q]?) (hat : va_at (eD E) classes (eB E + i, vrC E c) H') : vRel E n (va_up hp i c) H' := by
  refine ⟨e2.trans h.1, h.2.1, fun j hj => ?_⟩
  by_cases hji : j = i
  · subst hji
    show va_at _ _ (eB E + j, vrC E (if j = j then c else hp j)) H'
    rw [if_pos rfl]
    exact hat
  · show va_at _ _ (eB E + j, vrC E (if j = i then c else hp j)) H'
    rw [if_neg hji]
    exact (h.2.2 j hj).kept (e3 _ (by show eB E + j ≠ eB E + i; omega))
theorem vRel.push {E : vEnv} {n : Nat} {hp : Nat → AC} {H H' : Heap} {c : AC} (h : vRel E n hp H) (hn : n < 1000) (e2 : H'.size = H.size + 1) (e3 : ∀ q : Nat, q < H.size → H'[q]? = H[q]?) (hat : va_at (eD E) classes (eB E + n, vrC E c) H') : vRel E (n + 1) (va_up hp n c) H' := by
  refine ⟨by rw [e2, h.1]; rfl, hn, fun j hj => ?_⟩
  by_cases hji : j = n
  · subst hji
    show va_at _ _ (eB E + j, vrC E (if j = j then c else hp j)) H'
    rw [if_pos rfl]
    exact hat
  · show va_at _ _ (eB E + j, vrC E (if j = n then c else hp j)) H'
    rw [if_neg hji]
    exact (h.2.2 j (by omega)).kept (e3 _ (by show eB E + j < H.size; rw [h.1]; omega))
/-- a field's link: of own's entry idx, the field k of class ci -/
def vFL (own : String) (idx ci k : Nat) : Prop := ∃ (C : String) (T : u_T) (N : Nat), classes[ci]? = some (C, T, N) ∧ k < N ∧ Cond.fieldLink own idx (T k).1 (T k).2.1 (T k).2.2.1 ∈ tb ∧ ∀ w ∈ u_ws C T N, w ∈ tb
def vFP (own : String) (idx ci k : Nat) (ty : FieldType) (fin : Bool) : Prop := ∃ (C : String) (T : u_T) (N : Nat) (ty0 : Nat → FieldType), classes[ci]? = some (C, T, N) ∧ k < N ∧ Cond.fieldLink own idx (T k).1 (T k).2.1 (T k).2.2.1 ∈ tb ∧ (∀ w ∈ u_ws C T N, w ∈ tb) ∧ (∀ k, k < N → parseFieldDescriptor (T k).2.2.1 = some (ty0 k)) ∧ (∀ a, a < N → ∀ b, b < N → a ≠ b → (T a).2.1 ≠ (T b).2.1) ∧ (T k).2.2.2 = fin ∧ parseFieldDescriptor (T k).2.2.1 = some ty ∧ (T k).1 = C
section VHEAP
variable {E : vEnv} {own nm : String} {cc : ByteArray} {nL : Nat} {ret : Option FieldType} {d kc ks : Nat} {Qa : Option Value → Nat → (Nat → AC) → Prop} {n : Nat} {hp : Nat → AC} {pc : Nat} {ls : List (Option Value)} {st : List Value}
theorem V_getf {ci k idx i : Nat} {fs : List Value} {v : Value} (hf : vFL own idx ci k) (hd : decode cc pc = .ok (.getfield idx, 3)) (hi : i < n) (hc : hp i = .inr (ci, fs)) (hv : fs[k]? = some v) (kk : V E own nm cc nL ret d kc ks Qa n hp (pc + 3) ls (v :: st)) : V E own nm cc nL ret d kc ks Qa n hp pc ls (.ref i :: st) := by
  intro p l e R s m args below meth c H locs cells slots Q lsA C Rt h1 h2 hR hS hL
  obtain ⟨C', T, N, g1, g2, g3, g4⟩ := hf
  have hin : i < 1000 := Nat.lt_of_lt_of_le hi hR.2.1
  show W p l e R s m args below meth c H locs cells slots Q (F0 m pc lsA (.ref (vad E i) :: st.map (vr E)))
  rw [vad_lt hin]
  obtain ⟨cx, cb, cr, cm, co, ct, cl0, ck, cs, cd1, cd2, cz, cn⟩ := id C
  exact va_get (v := vr E v) cx cb ct g4 co ck (hR.one hi) 0 (fs := fs.map (vr E)) (by rw [hc]; rfl) g1 k g2 (ct _ g3) (fun _ h => h) (by rw [List.getElem?_map, hv]; rfl) hd (kk p l e R s m args below meth c H locs cells slots Q lsA C Rt h1 h2 hR hS hL)
theorem V_putf {ci k idx i : Nat} {fs : List Value} {v : Value} {ty : FieldType} {hp2 : Nat → AC} (hf : vFP own idx ci k ty false) (hd : decode cc pc = .ok (.putfield idx, 3)) (hi : i < n) (hc : hp i = .inr (ci, fs)) (hk : k < fs.length) (hn : ∀ E, narrow ty (vr E v) = vr E v ∧ fits ty (vr E v) = true) (he : va_up hp i (.inr (ci, fs.set k v)) = hp2) (kk : V E own nm cc nL ret d kc ks Qa n hp2 (pc + 3) ls st) : V E own nm cc nL ret d kc ks Qa n hp pc ls (v :: .ref i :: st) := by
  intro p l e R s m args below meth c H locs cells slots Q lsA C Rt h1 h2 hR hS hL
  subst he
  obtain ⟨C', T, N, ty0, g1, g2, g3, g4, g5, g6, g7, g8, -⟩ := hf
  have hin : i < 1000 := Nat.lt_of_lt_of_le hi hR.2.1
  show W p l e R s m args below meth c H locs cells slots Q (F0 m pc lsA (vr E v :: .ref (vad E i) :: st.map (vr E)))
  rw [vad_lt hin]
  obtain ⟨cx, cb, cr, cm, co, ct, cl0, ck, cs, cd1, cd2, cz, cn⟩ := id C
  have hap := va_apart (own := own) ct g4 ty0 g5 g6 ck g1
  have hat := hR.2.2 i hi
  rw [hc] at hat
  obtain ⟨r, z1, cell, q1, q2, q3, q4⟩ := hat
  have hr : r = (C', T, N) := Option.some.inj (z1.symm.trans g1)
  subst hr
  obtain ⟨hS0, hfc, kC, hkC, hkind⟩ := ck.1 ci _ g1
  obtain ⟨cf, kf, fi, f, hi0, hsl⟩ := hS0 k g2
  have hlay := ct _ (g4 _ (u_in_lay g2))
  unfold u_lay at hlay
  rw [if_neg (by rw [g7]; decide)] at hlay
  have hst := (u_facts hfc hkC (u_lays ct g4 g2) hi0).1
  have h6 := u_store hfc hkC hkind hlay hi0 g8 (hn E).1 (hn E).2
  refine W.putK cx cb (f := f) ⟨co, ct _ g3, ⟨_, _, _, hi0⟩, hst⟩ (by rw [q2]; exact h6) q1 q3 (by rw [hsl]; exact k2_hasslot (q4 k g2)) rfl rfl hd fun H' e1 e2 e3 => ?_
  rw [hsl] at e1 ⊢
  refine kk p l e R s m args below meth c H' _ cells slots Q lsA C Rt h1 h2 (hR.set (c := .inr (ci, fs.set k v)) e2 e3 ?_) (hS.put e2 e3 (Nat.le_add_right _ _)) hL
  refine ⟨_, g1, ?_⟩
  have hl2 : k < (fs.map (vr E)).length := by rw [List.length_map]; exact hk
  have e5 : (fs.set k v).map (vr E) = (fs.map (vr E)).set k (vr E v) := List.map_set
  show t_OB _ _ _ _ H' (vp_V ((fs.set k v).map (vr E)))
  rw [e5]
  exact t_OB.to (V := updV (vp_V (fs.map (vr E))) k (vr E v)) ⟨_, e1, q2, q3, t_set q4 hap g2 (vr E v)⟩ (fun j _ => vp_updV_set hl2 (vr E v) j)
theorem V_putF {ci k idx i : Nat} {fs : List Value} {v : Value} {ty : FieldType} {hp2 : Nat → AC} (hnm : nm = "<init>") (how : (classes.getD ci ("", TX0, 0)).1 = own) (hf : vFP own idx ci k ty true) (hd : decode cc pc = .ok (.putfield idx, 3)) (hi : i < n) (hc : hp i = .inr (ci, fs)) (hk : k < fs.length) (hn : ∀ E, narrow ty (vr E v) = vr E v ∧ fits ty (vr E v) = true) (he : va_up hp i (.inr (ci, fs.set k v)) = hp2) (kk : V E own nm cc nL ret d kc ks Qa n hp2 (pc + 3) ls st) : V E own nm cc nL ret d kc ks Qa n hp pc ls (v :: .ref i :: st) := by
  intro p l e R s m args below meth c H locs cells slots Q lsA C Rt h1 h2 hR hS hL
  subst he
  obtain ⟨C', T, N, ty0, g1, g2, g3, g4, g5, g6, g7, g8, g9⟩ := hf
  have hin : i < 1000 := Nat.lt_of_lt_of_le hi hR.2.1
  show W p l e R s m args below meth c H locs cells slots Q (F0 m pc lsA (vr E v :: .ref (vad E i) :: st.map (vr E)))
  rw [vad_lt hin]
  obtain ⟨cx, cb, cr, cm, co, ct, cl0, ck, cs, cd1, cd2, cz, cn⟩ := id C
  have hap := va_apart (own := own) ct g4 ty0 g5 g6 ck g1
  have hat := hR.2.2 i hi
  rw [hc] at hat
  obtain ⟨r, z1, cell, q1, q2, q3, q4⟩ := hat
  have hr : r = (C', T, N) := Option.some.inj (z1.symm.trans g1)
  subst hr
  obtain ⟨hS0, hfc, kC, hkC, hkind⟩ := ck.1 ci _ g1
  obtain ⟨cf, kf, fi, f, hi0, hsl⟩ := hS0 k g2
  have hlay := ct _ (g4 _ (u_in_lay g2))
  unfold u_lay at hlay
  rw [if_pos g7] at hlay
  have hst := (u_facts hfc hkC (u_lays ct g4 g2) hi0).1
  have hCo : C' = own := by rw [List.getD_eq_getElem?_getD, g1] at how; exact how
  have hcf : m.cls = cf := by
    obtain ⟨_, _, c', _, _, _, -, -, hf', -, -, -, hown2, -⟩ := Cond.laysFinal_spec hlay
    have e1 : c' = cf := by have := hi0.symm.trans hf'; simp at this; exact this.1.symm
    rw [g9, hCo] at hown2
    rw [← e1]; exact Option.some.inj (co.symm.trans hown2)
  have h6 := u_fits hfc hkC hkind (Or.inr hlay) hi0 g8 (hn E).1 (hn E).2
  refine W.putFinK cx cb co (ct _ g3) hi0 hst hcf (cn.trans hnm) (by rw [q2]; exact h6) q1 q3 (by rw [hsl]; exact k2_hasslot (q4 k g2)) rfl rfl hd fun H' e1 e2 e3 => ?_
  rw [hsl] at e1 ⊢
  refine kk p l e R s m args below meth c H' _ cells slots Q lsA C Rt h1 h2 (hR.set (c := .inr (ci, fs.set k v)) e2 e3 ?_) (hS.put e2 e3 (Nat.le_add_right _ _)) hL
  refine ⟨_, g1, ?_⟩
  have hl2 : k < (fs.map (vr E)).length := by rw [List.length_map]; exact hk
  have e5 : (fs.set k v).map (vr E) = (fs.map (vr E)).set k (vr E v) := List.map_set
  show t_OB _ _ _ _ H' (vp_V ((fs.set k v).map (vr E)))
  rw [e5]
  exact t_OB.to (V := updV (vp_V (fs.map (vr E))) k (vr E v)) ⟨_, e1, q2, q3, t_set q4 hap g2 (vr E v)⟩ (fun j _ => vp_updV_set hl2 (vr E v) j)
theorem V_iald {i len : Nat} {f : Nat → Int32} {j : Int32} (hd : decode cc pc = .ok (.iaload, 1)) (hi : i < n) (hc : hp i = .inl (0, (len, .inl f))) (hin : vp_in j len) (kk : V E own nm cc nL ret d kc ks Qa n hp (pc + 1) ls (.int (f j.toNatClampNeg) :: st)) : V E own nm cc nL ret d kc ks Qa n hp pc ls (.int j :: .ref i :: st) := by
  intro p l e R s m args below meth c H locs cells slots Q lsA C Rt h1 h2 hR hS hL
  have hin' : i < 1000 := Nat.lt_of_lt_of_le hi hR.2.1
  show W p l e R s m args below meth c H locs cells slots Q (F0 m pc lsA (.int j :: .ref (vad E i) :: st.map (vr E)))
  rw [vad_lt hin']
  obtain ⟨cx, cb, cr, cm, co, ct, cl0, ck, cs, cd1, cd2, cz, cn⟩ := id C
  exact va_iald cx cb ck (hR.one hi) 0 0 (f := f) (by rw [hc]; rfl) rfl hin hd (kk p l e R s m args below meth c H locs cells slots Q lsA C Rt h1 h2 hR hS hL)
theorem V_bald {i len : Nat} {f : Nat → Int32} {j : Int32} (hd : decode cc pc = .ok (.baload, 1)) (hi : i < n) (hc : hp i = .inl (1, (len, .inl f))) (hin : vp_in j len) (kk : V E own nm cc nL ret d kc ks Qa n hp (pc + 1) ls (.int (f j.toNatClampNeg) :: st)) : V E own nm cc nL ret d kc ks Qa n hp pc ls (.int j :: .ref i :: st) := by
  intro p l e R s m args below meth c H locs cells slots Q lsA C Rt h1 h2 hR hS hL
  have hin' : i < 1000 := Nat.lt_of_lt_of_le hi hR.2.1
  show W p l e R s m args below meth c H locs cells slots Q (F0 m pc lsA (.int j :: .ref (vad E i) :: st.map (vr E)))
  rw [vad_lt hin']
  obtain ⟨cx, cb, cr, cm, co, ct, cl0, ck, cs, cd1, cd2, cz, cn⟩ := id C
  exact va_bald cx cb ck (hR.one hi) 0 1 (f := f) (by rw [hc]; rfl) rfl hin hd (kk p l e R s m args below meth c H locs cells slots Q lsA C Rt h1 h2 hR hS hL)
theorem V_aald {i len t a : Nat} {Cn : String} {f : Nat → Option Nat} {j : Int32} (hd : decode cc pc = .ok (.aaload, 1)) (hi : i < n) (hc : hp i = .inl (t, (len, .inr (.inr (.inr (.inr f)))))) (ht : ∀ E, (vTy E)[t]? = some (eA E t, .object Cn)) (hin : vp_in j len) (ha : f j.toNatClampNeg = some a) (kk : V E own nm cc nL ret d kc ks Qa n hp (pc + 1) ls (.ref a :: st)) : V E own nm cc nL ret d kc ks Qa n hp pc ls (.int j :: .ref i :: st) := by
  intro p l e R s m args below meth c H locs cells slots Q lsA C Rt h1 h2 hR hS hL
  have hin' : i < 1000 := Nat.lt_of_lt_of_le hi hR.2.1
  show W p l e R s m args below meth c H locs cells slots Q (F0 m pc lsA (.int j :: .ref (vad E i) :: st.map (vr E)))
  rw [vad_lt hin']
  obtain ⟨cx, cb, cr, cm, co, ct, cl0, ck, cs, cd1, cd2, cz, cn⟩ := id C
  refine va_aldq cx cb ck (hR.one hi) 0 t (f := fun q => (f q).map (vad E)) (by rw [hc]; rfl) (ht E) hin hd ?_
  show W p l e R s m args below meth c H locs cells slots Q (F0 m (pc + 1) lsA (va_rf ((f j.toNatClampNeg).map (vad E)) :: st.map (vr E)))
  rw [ha]
  exact kk p l e R s m args below meth c H locs cells slots Q lsA C Rt h1 h2 hR hS hL
theorem V_iast {i len : Nat} {f : Nat → Int32} {j x : Int32} {hp2 : Nat → AC} (hd : decode cc pc = .ok (.iastore, 1)) (hi : i < n) (hc : hp i = .inl (0, (len, .inl f))) (hin : vp_in j len) (he : va_up hp i (.inl (0, (len, .inl (upd f j.toNatClampNeg x)))) = hp2) (kk : V E own nm cc nL ret d kc ks Qa n hp2 (pc + 1) ls st) : V E own nm cc nL ret d kc ks Qa n hp pc ls (.int x :: .int j :: .ref i :: st) := by
  intro p l e R s m args below meth c H locs cells slots Q lsA C Rt h1 h2 hR hS hL
  subst he
  have hin' : i < 1000 := Nat.lt_of_lt_of_le hi hR.2.1
  show W p l e R s m args below meth c H locs cells slots Q (F0 m pc lsA (.int x :: .int j :: .ref (vad E i) :: st.map (vr E)))
  rw [vad_lt hin']
  obtain ⟨cx, cb, cr, cm, co, ct, cl0, ck, cs, cd1, cd2, cz, cn⟩ := id C
  have hat := hR.2.2 i hi
  rw [hc] at hat
  refine W.iast cx cb hat ((ck.2 0 _ rfl).1 len (fun q => .int (f q))) (fun q => by cases q) (by show ¬ (j < 0 ∨ (arrV _ _ _).slots.size ≤ _); rw [arrV_size]; exact hin) rfl rfl hd fun H1 e1 z oq => ?_
  refine kk p l e R s m args below meth c H1 _ cells slots Q lsA C Rt h1 h2 (hR.set (c := .inl (0, (len, .inl (upd f j.toNatClampNeg x)))) z oq ?_) (hS.put z oq (Nat.le_add_right _ _)) hL
  show H1[eB E + i]? = some (vp_cell (eA E 0) (len, .inl (upd f j.toNatClampNeg x)))
  rw [e1]
  show some ((vp_cell (eA E 0) (len, .inl f)).setSlot _ _) = _
  rw [vp_cell_i, vp_cell_i, arrV_store]
  congr 2
  funext q
  by_cases hq : q = j.toNatClampNeg
  · subst hq
    simp [updV, upd]
  · simp [updV, upd, hq]
theorem V_bast {i len : Nat} {f : Nat → Int32} {j x : Int32} {hp2 : Nat → AC} (hd : decode cc pc = .ok (.bastore, 1)) (hi : i < n) (hc : hp i = .inl (1, (len, .inl f))) (hin : vp_in j len) (hx : narrow .byte (.int x) = .int x) (he : va_up hp i (.inl (1, (len, .inl (upd f j.toNatClampNeg x)))) = hp2) (kk : V E own nm cc nL ret d kc ks Qa n hp2 (pc + 1) ls st) : V E own nm cc nL ret d kc ks Qa n hp pc ls (.int x :: .int j :: .ref i :: st) := by
  intro p l e R s m args below meth c H locs cells slots Q lsA C Rt h1 h2 hR hS hL
  subst he
  have hin' : i < 1000 := Nat.lt_of_lt_of_le hi hR.2.1
  show W p l e R s m args below meth c H locs cells slots Q (F0 m pc lsA (.int x :: .int j :: .ref (vad E i) :: st.map (vr E)))
  rw [vad_lt hin']
  obtain ⟨cx, cb, cr, cm, co, ct, cl0, ck, cs, cd1, cd2, cz, cn⟩ := id C
  have hat := hR.2.2 i hi
  rw [hc] at hat
  refine W.bast cx cb hat ((ck.2 1 _ rfl).1 len (fun q => .int (f q))) (fun q => by cases q) (by show ¬ (j < 0 ∨ (arrV _ _ _).slots.size ≤ _); rw [arrV_size]; exact hin) rfl rfl hd fun H1 e1 z oq => ?_
  rw [hx] at e1
  refine kk p l e R s m args below meth c H1 _ cells slots Q lsA C Rt h1 h2 (hR.set (c := .inl (1, (len, .inl (upd f j.toNatClampNeg x)))) z oq ?_) (hS.put z oq (Nat.le_add_right _ _)) hL
  show H1[eB E + i]? = some (vp_cell (eA E 1) (len, .inl (upd f j.toNatClampNeg x)))
  rw [e1]
  show some ((vp_cell (eA E 1) (len, .inl f)).setSlot _ _) = _
  rw [vp_cell_i, vp_cell_i, arrV_store]
  congr 2
  funext q
  by_cases hq : q = j.toNatClampNeg
  · subst hq
    simp [updV, upd]
  · simp [updV, upd, hq]
end VHEAP
end
section
/-! THE LAYER, third part: contracts and calls -/
def vRm (d kc ks : Nat) : Room := { frames := d, cells := kc, slots := ks, locals := 40 * d }
def vPre (E : vEnv) (args : List Value) (n : Nat) (hp : Nat → AC) : Array Value → State → Prop := va_Pc (args.map (vr E)) (fun U => vRel E n hp U.heap ∧ vKn E U ∧ vSt E U U.heap)
def vQc (E : vEnv) (Qa : Option Value → Nat → (Nat → AC) → Prop) : Array Value → State → Outcome → State → Prop := fun _ st oc t => (∃ (r : Option Value) (n' : Nat) (hp' : Nat → AC), oc = .returned (r.map (vr E)) ∧ Qa r n' hp' ∧ vRel E n' hp' t.heap) ∧ va_F (vA E) st t
/-- THE CONTRACT of a method: from the heap hp with these arguments it returns, and Qa holds of its answer and of the heap then -/
def Ct (y : MethodName) (cc : ByteArray) (nL : Nat) (ret : Option FieldType) (d kc ks : Nat) (args : List Value) (n : Nat) (hp : Nat → AC) (Qa : Option Value → Nat → (Nat → AC) → Prop) : Prop :=
  ∀ (l : Launch) (E : vEnv), Met l y (Cond.code y cc nL ret :: tb) (vRm d kc ks) (vPre E args n hp) (vQc E Qa) kc ks (vA E)
def vAr : List Value → List (Option Value)
  | [] => []
  | v9 :: t9 => if v9.category = 2 then some v9 :: none :: vAr t9 else some v9 :: vAr t9
def vArgs (args : List Value) (nL : Nat) : List (Option Value) := vAr args ++ List.replicate (nL - (vAr args).length) none
theorem vAr_mem {E : vEnv} : ∀ (args : List Value) (k i : Nat) (v9 : Value), (vAr args)[i]? = some (some v9) → (k + i, vr E v9) ∈ lv_args k (args.map (vr E))
  | [], k, i, v9, h => by simp [vAr] at h
  | a :: t9, k, i, v9, h => by
    show (k + i, vr E v9) ∈ (k, vr E a) :: lv_args (if (vr E a).category = 2 then k + 2 else k + 1) (t9.map (vr E))
    rw [vr_cat]
    unfold vAr at h
    by_cases h2 : a.category = 2
    · rw [if_pos h2] at h ⊢
      match i, h with
      | 0, h => cases h; exact List.mem_cons_self
      | 1, h => cases h
      | i + 2, h =>
        have h3 : (vAr t9)[i]? = some (some v9) := h
        have := vAr_mem (E := E) t9 (k + 2) i v9 h3
        rw [show k + (i + 2) = k + 2 + i by omega]
        exact List.mem_cons_of_mem _ this
    · rw [if_neg h2] at h ⊢
      match i, h with
      | 0, h => cases h; exact List.mem_cons_self
      | i + 1, h =>
        have h3 : (vAr t9)[i]? = some (some v9) := h
        have := vAr_mem (E := E) t9 (k + 1) i v9 h3
        rw [show k + (i + 1) = k + 1 + i by omega]
        exact List.mem_cons_of_mem _ this
theorem lg_sl_vr (E : vEnv) : ∀ args : List Value, (lg_sl (args.map (vr E))).length = (lg_sl args).length
  | [] => rfl
  | a :: t9 => by
    have ih := lg_sl_vr E t9
    unfold lg_sl at ih ⊢
    rw [List.map_cons, List.flatMap_cons, List.flatMap_cons, List.length_append, List.length_append, ih, vr_cat]
    by_cases h : a.category = 2
    · rw [if_pos h, if_pos h]; rfl
    · rw [if_neg h, if_neg h]; rfl
theorem Ct.ofV {y : MethodName} {cc : ByteArray} {nL : Nat} {ret : Option FieldType} {d kc ks : Nat} {args : List Value} {n : Nat} {hp : Nat → AC} {Qa : Option Value → Nat → (Nat → AC) → Prop} (hy : plainName y.cls = true) (hlen : (lg_sl args).length ≤ nL) (h : ∀ E, V E y.cls y.name cc nL ret d kc ks Qa n hp 0 (vArgs args nL) []) : Ct y cc nL ret d kc ks args n hp Qa := by
  intro l E
  refine Met.ofW (cc := cc) (maxL := nL) (ret := ret) hy rfl ?_
  intro p e s m args' below meth c s₁ B hml hv
  obtain ⟨rfl, hrel, hk, hst⟩ := hv
  have hts := atoms_spec (ws := Cond.code y cc nL ret :: tb) B.pre
  have hown : s.vm.findClass y.cls = some m.cls := findClass_of_methodNamed B.named
  have hl := lv_entry (args.map (vr E)) (n := nL) (by rw [lg_sl_vr]; exact hlen)
  have hnotS := B.notSynchronized
  have hx := B.exec
  have hb := B.bytes
  have hr := B.returns
  have hnm : meth.name = y.name := (name_of_methodNamed B.named B.method).1
  have hbase : eB E ≤ s.heap.size := by rw [hrel.1]; exact Nat.le_add_right _ _
  rw [lg_entry_eq]
  generalize (lg_sl (args.map (vr E)) ++ List.replicate (nL - (lg_sl (args.map (vr E))).length) Slot.unset).toArray = lsA at hl ⊢
  refine h E p l e _ s m _ below meth c s.heap [] 0 0 _ lsA ⟨hx, hb, hr, hml, hown, fun w hw => hts w (List.mem_cons_of_mem _ hw), hnotS, hk, hst, Nat.le_refl _, Nat.le_refl _, hbase, hnm⟩ ?_ (by show 0 + kc ≤ kc; omega) (by show 0 + ks ≤ ks; omega) hrel va_S.rf ⟨hl.1, hl.2.1, fun i v9 hi => ?_⟩
  · intro r n' hp' H' locs' pc' ls' hq hR hS hrk
    rw [Nat.zero_add, Nat.zero_add]
    rcases hrk with ⟨e1, rfl, hd⟩ | ⟨v9, ty, e1, hn, rfl, hd⟩ | ⟨v9, e1, rfl, hd⟩ | ⟨v9, rt, tn, e1, e2, rfl, hd⟩
    · exact W.vret hx hb (hr.trans e1) (fun t ht hW => ⟨⟨none, n', hp', rfl, hq, by rw [ht]; exact hR⟩, hS.F ht⟩) hS.2.2 hd hnotS
    · exact W.zret hx hb (hr.trans e1) hn (fun t ht hW => ⟨⟨some (.int v9), n', hp', rfl, hq, by rw [ht]; exact hR⟩, hS.F ht⟩) hS.2.2 hd hnotS
    · exact W.lret hx hb (hr.trans e1) (fun t ht hW => ⟨⟨some (.long v9), n', hp', rfl, hq, by rw [ht]; exact hR⟩, hS.F ht⟩) hS.2.2 hd hnotS
    · exact W.aret hx hb (hr.trans e1) (Or.inl ⟨tn, e2⟩) (Or.inr ⟨_, rfl⟩) (fun t ht hW => ⟨⟨some (.ref v9), n', hp', rfl, hq, by rw [ht]; exact hR⟩, hS.F ht⟩) hS.2.2 hd hnotS
  · have hi2 : (vAr args)[i]? = some (some v9) := by
      unfold vArgs at hi
      rw [List.getElem?_append] at hi
      split at hi
      · exact hi
      · have := List.eq_of_mem_replicate (List.mem_of_getElem? hi)
        cases this
    have := vAr_mem (E := E) args 0 i v9 hi2
    rw [Nat.zero_add] at this
    exact hl.2.2 _ this
theorem vPre.blind {E : vEnv} {args : List Value} {n : Nat} {hp : Nat → AC} : FrameBlind (vPre E args n hp) := by
  intro a U g mk q
  obtain ⟨q0, q1, q2, q3, q4⟩ := q
  exact ⟨q0, q1, q2.moved (Vm.Alike.refl U.vm), q3.moved (Vm.Alike.refl U.vm), fun k hk => (q4 k hk).same rfl⟩
theorem vPre.here {E : vEnv} {args : List Value} {n : Nat} {hp : Nat → AC} {s U : State} {H : Heap} {locs : List Loc} (hR : vRel E n hp H) (hk : vKn E s) (hs : vSt E s s.heap) (hS : va_S (vA E) s.heap H locs) (hU : U.heap = H) (hW : s.WarmedH U.vm) : vPre E args n hp (args.map (vr E)).toArray U := by
  refine ⟨rfl, by rw [hU]; exact hR, hk.moved hW.alike, ?_, fun k hk2 => (hs.2 k hk2).warm hW⟩
  exact vk_S.moved hW.alike (hs.1.kept (fun a h1 h2 => by rw [hU]; exact hS.2.1 a h1 h2))
section VCALL
variable {E : vEnv} {own nm : String} {cc : ByteArray} {nL : Nat} {ret : Option FieldType} {d kc ks : Nat} {Qa : Option Value → Nat → (Nat → AC) → Prop} {n : Nat} {hp : Nat → AC} {pc : Nat} {ls : List (Option Value)} {st : List Value}
variable {y : MethodName} {cc2 : ByteArray} {nL2 : Nat} {ret2 : Option FieldType} {d2 kc2 ks2 : Nat} {Qa2 : Option Value → Nat → (Nat → AC) → Prop}
/-- behind a call -/
theorem V_run {args : List Value} (hlen : ∃ len : Nat, len = 3)
    (hrun : ∀ (p : Program) (l : Launch) (e : Env) (R : Room) (s : State) (m : MethodId) (args' : Array Value) (below : List Frame) (meth : Method) (c : Code) (H : Heap) (locs : List Loc) (cells slots : Nat) (lsA : Array Slot), vCtx E own nm cc nL ret d p R s m args' meth c → cells + kc2 ≤ R.cells → slots + ks2 ≤ R.slots → vRel E n hp H → va_S (vA E) s.heap H locs → lsA.size = nL →
      ∃ a : Array Value, va_Run p l e R s m args' below meth c H locs cells slots kc2 ks2 (F0 m pc lsA ((args.reverse ++ st).map (vr E))) (st.map (vr E)) (vQc E Qa2 a) (vA E))
    (kk : ∀ r n' hp', Qa2 r n' hp' → V E own nm cc nL ret d kc ks Qa n' hp' (pc + 3) ls (r.toList ++ st)) : V E own nm cc nL ret d (kc2 + kc) (ks2 + ks) Qa n hp pc ls (args.reverse ++ st) := by
  intro p l e R s m args' below meth c H locs cells slots Q lsA C Rt h1 h2 hR hS hL T hT X
  obtain ⟨a, hr⟩ := hrun p l e R s m args' below meth c H locs cells slots lsA C (by omega) (by omega) hR hS hL.1
  obtain ⟨v9, st₀, t, T', L, h0, X', hLf, e1, e2, ⟨⟨r, n', hp', hv, hq, hrel⟩, hz, hk⟩, stp⟩ := hr T hT X
  have hv2 : v9 = r.map (vr E) := by cases hv; rfl
  subst hv2
  rw [h0] at hz hk
  have hS2 : va_S (vA E) s.heap T'.heap (locs ++ L) := ⟨Nat.le_trans hS.1 (by rw [e1]; exact hz), fun q g1 g2 => by rw [e1, hk q (Nat.lt_of_lt_of_le g1 hS.1) g2]; exact hS.2.1 q g1 g2, fun q hq2 => by
      rcases List.mem_append.mp hq2 with h | h
      · exact hS.2.2 q h
      · exact hLf q h⟩
  obtain ⟨t2, a1, b1⟩ := kk r n' hp' hq p l e R s m args' below meth c T'.heap (locs ++ L) (cells + kc2) (slots + ks2) Q lsA C (by rw [Nat.add_assoc, Nat.add_assoc]; exact Rt) (by omega) (by omega) (by rw [e1]; exact hrel) hS2 hL T' rfl X'
  refine ⟨t2, stp t2 ?_, b1⟩
  have e9 : (r.map (vr E)).toList ++ st.map (vr E) = (r.toList ++ st).map (vr E) := by cases r <;> rfl
  show Steps p.tables e below (T'.setTop (F0 m (pc + 3) lsA ((r.map (vr E)).toList ++ st.map (vr E)))) t2
  rw [e9]
  exact a1
/-- what a call of y asks of the tables, static -/
def vLS (own : String) (idx : Nat) (y : MethodName) (cc2 : ByteArray) (nL2 : Nat) (ret2 : Option FieldType) (k : Nat) : Prop := Cond.methodLink own idx y ∈ tb ∧ Cond.static y ∈ tb ∧ Cond.initialized y.cls ∈ tb ∧ Cond.code y cc2 nL2 ret2 ∈ tb ∧ (y.cls ≠ "java/lang/invoke/MethodHandle" ∧ y.cls ≠ "java/lang/invoke/VarHandle" ∧ (parseMethodDescriptor y.desc).map (fun d => d.parameters.length) = some k) ∧ nL2 ≤ 21
def vLV (own : String) (idx ci : Nat) (y : MethodName) (cc2 : ByteArray) (nL2 : Nat) (ret2 : Option FieldType) (k : Nat) : Prop := (∃ T N, classes[ci]? = some (y.cls, T, N)) ∧ Cond.methodLink own idx y ∈ tb ∧ Cond.instanceMethod y ∈ tb ∧ Cond.selects y.cls y y ∈ tb ∧ Cond.initialized y.cls ∈ tb ∧ Cond.code y cc2 nL2 ret2 ∈ tb ∧ (y.cls ≠ "java/lang/invoke/MethodHandle" ∧ y.cls ≠ "java/lang/invoke/VarHandle" ∧ (parseMethodDescriptor y.desc).map (fun d => d.parameters.length) = some k) ∧ nL2 ≤ 21
theorem vroom {R : Room} {d d2 nL2 kc2 ks2 : Nat} (h1 : d ≤ R.frames) (h2 : 40 * d ≤ R.locals) (hd : d2 + 1 ≤ d) (hn : nL2 ≤ 21) : (vRm d2 kc2 ks2).frames + 1 ≤ R.frames ∧ 8 + (nL2 + 11) + (vRm d2 kc2 ks2).locals ≤ R.locals := by
  show d2 + 1 ≤ R.frames ∧ 8 + (nL2 + 11) + 40 * d2 ≤ R.locals
  omega
theorem vcat (E : vEnv) (st : List Value) : ((st.map (vr E)).map fun v => v.category).sum = (st.map fun v => v.category).sum := by
  rw [List.map_map]
  congr 2
  funext v9
  exact vr_cat E v9
theorem V_callSK {args : List Value} {idx : Nat} (hl : vLS own idx y cc2 nL2 ret2 args.length) (hd : decode cc pc = .ok (.invokestatic idx, 3)) (hdd : d2 + 1 ≤ d) (hst : (st.map fun v => v.category).sum ≤ 8) (hC : Ct y cc2 nL2 ret2 d2 kc2 ks2 args n hp Qa2)
    (kk : ∀ r n' hp', Qa2 r n' hp' → V E own nm cc nL ret d kc ks Qa n' hp' (pc + 3) ls (r.toList ++ st)) : V E own nm cc nL ret d (kc2 + kc) (ks2 + ks) Qa n hp pc ls (args.reverse ++ st) := by
  refine V_run (Qa2 := Qa2) ⟨3, rfl⟩ ?_ kk
  intro p l e R s m args' below meth c H locs cells slots lsA C h1 h2 hR hS hsz
  obtain ⟨l1, l2, l3, l4, l5, l6⟩ := hl
  obtain ⟨cx, cb, cr, cm, co, ct, cl0, ck, cs, cd1, cd2, cz, cn⟩ := id C
  refine ⟨_, va_runS (As := args.map (vr E)) (rest := st.map (vr E)) (n := args.length) ⟨cx, cb, cm, co, ct⟩ (hC l E) ⟨callB_of args.length ct (tb_good l4) rfl rfl rfl (ct _ l3) (ct _ l1) l5 (vroom cd1 cd2 hdd l6), ct _ l2⟩ ⟨vPre.blind, fun U hU hW => vPre.here hR ck cs hS hU hW⟩ rfl (by rw [List.length_map]) hsz ?_ (lv_room (by rw [vcat]; exact hst)) hd ⟨h1, h2⟩⟩
  show (args.reverse ++ st).map (vr E) = _
  rw [List.map_append, List.map_reverse]
theorem V_callVK {i ci idx : Nat} {fs : List Value} {args : List Value} (hl : vLV own idx ci y cc2 nL2 ret2 args.length) (hd : decode cc pc = .ok (.invokevirtual idx, 3)) (hi : i < n) (hc : hp i = .inr (ci, fs)) (hdd : d2 + 1 ≤ d) (hst : (st.map fun v => v.category).sum ≤ 8) (hC : Ct y cc2 nL2 ret2 d2 kc2 ks2 (.ref i :: args) n hp Qa2)
    (kk : ∀ r n' hp', Qa2 r n' hp' → V E own nm cc nL ret d kc ks Qa n' hp' (pc + 3) ls (r.toList ++ st)) : V E own nm cc nL ret d (kc2 + kc) (ks2 + ks) Qa n hp pc ls ((.ref i :: args).reverse ++ st) := by
  refine V_run (Qa2 := Qa2) ⟨3, rfl⟩ ?_ kk
  intro p l e R s m args' below meth c H locs cells slots lsA C h1 h2 hR hS hsz
  obtain ⟨⟨T, N, l0⟩, l1, l2, l3, l4, l5, l6, l7⟩ := hl
  obtain ⟨cx, cb, cr, cm, co, ct, cl0, ck, cs, cd1, cd2, cz, cn⟩ := id C
  have hin : i < 1000 := Nat.lt_of_lt_of_le hi hR.2.1
  refine ⟨_, va_runV (C := y.cls) (b := eB E + i) (As := args.map (vr E)) (rest := st.map (vr E)) (n := args.length) ⟨cx, cb, cm, co, ct⟩ (hC l E) ⟨callB_of args.length ct (tb_good l5) rfl rfl rfl (ct _ l4) (ct _ l1) l6 (vroom cd1 cd2 hdd l7), ct _ l2, ct _ l3⟩ ⟨vPre.blind, va_recv ck (hR.one hi) (ci := ci) (q0 := 0) (fs := fs.map (vr E)) l0 (by rw [hc]; rfl), fun U hU hW => ?_⟩ rfl (by rw [List.length_map]) hsz ?_ (lv_room (by rw [vcat]; exact hst)) hd ⟨h1, h2⟩⟩
  · have := vPre.here (args := .ref i :: args) hR ck cs hS hU hW
    have e1 : (Value.ref i :: args).map (vr E) = .ref (eB E + i) :: args.map (vr E) := by
      show Value.ref (vad E i) :: _ = _
      rw [vad_lt hin]
    rw [e1] at this
    exact this
  · show ((Value.ref i :: args).reverse ++ st).map (vr E) = _
    rw [List.map_append, List.reverse_cons, List.map_append, List.map_reverse, List.append_assoc]
    show _ ++ ([Value.ref (vad E i)] ++ _) = _
    rw [vad_lt hin]
    rfl
/-- a method that a class above declares: x is called, y is run -/
def vLU (own : String) (idx ci : Nat) (x y : MethodName) (cc2 : ByteArray) (nL2 : Nat) (ret2 : Option FieldType) (k : Nat) : Prop := (∃ C T N, classes[ci]? = some (C, T, N) ∧ Cond.selects C x y ∈ tb) ∧ Cond.methodLink own idx x ∈ tb ∧ Cond.sameMethod x.cls x.cls x.name x.desc ∈ tb ∧ Cond.instanceMethod y ∈ tb ∧ Cond.initialized y.cls ∈ tb ∧ Cond.code y cc2 nL2 ret2 ∈ tb ∧ (Cond.instanceMethod x ∈ tb ∧ ∃ b q r, Cond.code x b q r ∈ tb) ∧ (x.cls ≠ "java/lang/invoke/MethodHandle" ∧ x.cls ≠ "java/lang/invoke/VarHandle" ∧ (parseMethodDescriptor x.desc).map (fun d => d.parameters.length) = some k) ∧ nL2 ≤ 21
theorem V_callUK {x : MethodName} {i ci idx : Nat} {fs : List Value} {args : List Value} (hl : vLU own idx ci x y cc2 nL2 ret2 args.length) (hd : decode cc pc = .ok (.invokevirtual idx, 3)) (hi : i < n) (hc : hp i = .inr (ci, fs)) (hdd : d2 + 1 ≤ d) (hst : (st.map fun v => v.category).sum ≤ 8) (hC : Ct y cc2 nL2 ret2 d2 kc2 ks2 (.ref i :: args) n hp Qa2)
    (kk : ∀ r n' hp', Qa2 r n' hp' → V E own nm cc nL ret d kc ks Qa n' hp' (pc + 3) ls (r.toList ++ st)) : V E own nm cc nL ret d (kc2 + kc) (ks2 + ks) Qa n hp pc ls ((.ref i :: args).reverse ++ st) := by
  refine V_run (Qa2 := Qa2) ⟨3, rfl⟩ ?_ kk
  intro p l e R s m args' below meth c H locs cells slots lsA C h1 h2 hR hS hsz
  obtain ⟨⟨Cn, T, N, l0, l8⟩, l1, l2, l3, l4, l5, ⟨l9, bx, qx, rx, l10⟩, l6, l7⟩ := hl
  obtain ⟨cx, cb, cr, cm, co, ct, cl0, ck, cs, cd1, cd2, cz, cn⟩ := id C
  have hin : i < 1000 := Nat.lt_of_lt_of_le hi hR.2.1
  have hrm := vroom (R := R) (kc2 := kc2) (ks2 := ks2) cd1 cd2 hdd l7
  have hG := tb_good l5
  refine ⟨_, va_runU (C := Cn) (owner := x.cls) (x := x) (b := eB E + i) (As := args.map (vr E)) (rest := st.map (vr E)) (n := args.length) ⟨cx, cb, cm, co, ct⟩ (hC l E) ⟨⟨rfl, rfl, hrm.1, hrm.2, pay_in ct hG, List.mem_cons_self⟩, ct _ l5, ct _ l4, ⟨l6.1, l6.2.1⟩, fun sig h => ?_, ct _ l1, ct _ l2, va_Decl.of (ct _ l9) (ct _ l10), ct _ l8, ct _ l3⟩ ⟨vPre.blind, va_recv ck (hR.one hi) (ci := ci) (q0 := 0) (fs := fs.map (vr E)) l0 (by rw [hc]; rfl), fun U hU hW => ?_⟩ rfl (by rw [List.length_map]) hsz ?_ (lv_room (by rw [vcat]; exact hst)) hd ⟨h1, h2⟩⟩
  · have z2 := l6.2.2
    rw [h] at z2
    exact (Option.some.inj z2).symm
  · have := vPre.here (args := .ref i :: args) hR ck cs hS hU hW
    have e1 : (Value.ref i :: args).map (vr E) = .ref (eB E + i) :: args.map (vr E) := by
      show Value.ref (vad E i) :: _ = _
      rw [vad_lt hin]
    rw [e1] at this
    exact this
  · show ((Value.ref i :: args).reverse ++ st).map (vr E) = _
    rw [List.map_append, List.reverse_cons, List.map_append, List.map_reverse, List.append_assoc]
    show _ ++ ([Value.ref (vad E i)] ++ _) = _
    rw [vad_lt hin]
    rfl
def vLP (own : String) (idx ci : Nat) (y : MethodName) (cc2 : ByteArray) (nL2 : Nat) (ret2 : Option FieldType) (k : Nat) : Prop := (∃ C T N, classes[ci]? = some (C, T, N)) ∧ Cond.methodLink own idx y ∈ tb ∧ Cond.sameMethod y.cls y.cls y.name y.desc ∈ tb ∧ Cond.superclass own y.cls ∈ tb ∧ Cond.instanceMethod y ∈ tb ∧ Cond.initialized y.cls ∈ tb ∧ Cond.code y cc2 nL2 ret2 ∈ tb ∧ y.name ≠ "<init>" ∧ (parseMethodDescriptor y.desc).map (fun d => d.parameters.length) = some k ∧ nL2 ≤ 21
theorem V_callPK {i ci idx : Nat} {fs : List Value} {args : List Value} (hl : vLP own idx ci y cc2 nL2 ret2 args.length) (hd : decode cc pc = .ok (.invokespecial idx, 3)) (hi : i < n) (hc : hp i = .inr (ci, fs)) (hdd : d2 + 1 ≤ d) (hst : (st.map fun v => v.category).sum ≤ 8) (hC : Ct y cc2 nL2 ret2 d2 kc2 ks2 (.ref i :: args) n hp Qa2)
    (kk : ∀ r n' hp', Qa2 r n' hp' → V E own nm cc nL ret d kc ks Qa n' hp' (pc + 3) ls (r.toList ++ st)) : V E own nm cc nL ret d (kc2 + kc) (ks2 + ks) Qa n hp pc ls ((.ref i :: args).reverse ++ st) := by
  refine V_run (Qa2 := Qa2) ⟨3, rfl⟩ ?_ kk
  intro p l e R s m args' below meth c H locs cells slots lsA C h1 h2 hR hS hsz
  obtain ⟨⟨Cn, T, N, l0⟩, l1, l2, l3, l4, l5, l6, l7, l8, l9⟩ := hl
  obtain ⟨cx, cb, cr, cm, co, ct, cl0, ck, cs, cd1, cd2, cz, cn⟩ := id C
  have hin : i < 1000 := Nat.lt_of_lt_of_le hi hR.2.1
  have hrm := vroom (R := R) (kc2 := kc2) (ks2 := ks2) cd1 cd2 hdd l9
  have hG := tb_good l6
  refine ⟨_, va_runSU (C := Cn) (cC := (eD E).1 ci) (b := eB E + i) (As := args.map (vr E)) (rest := st.map (vr E)) (n := args.length) (ck.1 ci _ l0).2 ⟨cx, cb, cm, co, ct⟩ (hC l E) ⟨⟨rfl, rfl, hrm.1, hrm.2, pay_in ct hG, List.mem_cons_self⟩, ct _ l1, ct _ l2, ct _ l3, ct _ l4, ct _ l5, ct _ l6, l7, fun sig h => ?_⟩ ⟨vPre.blind, va_recv ck (hR.one hi) (ci := ci) (q0 := 0) (fs := fs.map (vr E)) l0 (by rw [hc]; rfl), fun U hU hW => ?_⟩ rfl (by rw [List.length_map]) hsz ?_ (lv_room (by rw [vcat]; exact hst)) hd ⟨h1, h2⟩⟩
  · have z2 := l8
    rw [h] at z2
    exact (Option.some.inj z2).symm
  · have := vPre.here (args := .ref i :: args) hR ck cs hS hU hW
    have e1 : (Value.ref i :: args).map (vr E) = .ref (eB E + i) :: args.map (vr E) := by
      show Value.ref (vad E i) :: _ = _
      rw [vad_lt hin]
    rw [e1] at this
    exact this
  · show ((Value.ref i :: args).reverse ++ st).map (vr E) = _
    rw [List.map_append, List.reverse_cons, List.map_append, List.map_reverse, List.append_assoc]
    show _ ++ ([Value.ref (vad E i)] ++ _) = _
    rw [vad_lt hin]
    rfl
end VCALL
end
