section
-- ===== PART A: goes FIRST, ahead of the names: the tables' words, and 'selects' of the private methods out of them =====
/-- a private method of a class that the tables say can be made, by its rows of tables_1 -/
def lw_okq (q : MethodName × Nat) : Prop := (q.1.cls ≠ "java/lang/invoke/MethodHandle" ∧ q.1.cls ≠ "java/lang/invoke/VarHandle") ∧ Cond.instantiable q.1.cls q.2 ∈ tables_1 ∧ Cond.privateMethod q.1 ∈ tables_1 ∧ Cond.instanceMethod q.1 ∈ tables_1
theorem lw_p0 : lw_okq (⟨"NoonTrains$Scene", "forgetToday", "()V"⟩, 12) := ⟨⟨by decide +kernel, by decide +kernel⟩, List.mem_of_getElem? (i := 119) (by decide +kernel), List.mem_of_getElem? (i := 132) (by decide +kernel), List.mem_of_getElem? (i := 133) (by decide +kernel)⟩
theorem lw_p1 : lw_okq (⟨"NoonTrains$Scene", "isWithSeeker", "()Z"⟩, 12) := ⟨⟨by decide +kernel, by decide +kernel⟩, List.mem_of_getElem? (i := 119) (by decide +kernel), List.mem_of_getElem? (i := 139) (by decide +kernel), List.mem_of_getElem? (i := 140) (by decide +kernel)⟩
theorem lw_p2 : lw_okq (⟨"NoonTrains$Reader", "readLine", "()Z"⟩, 7) := ⟨⟨by decide +kernel, by decide +kernel⟩, List.mem_of_getElem? (i := 87) (by decide +kernel), List.mem_of_getElem? (i := 352) (by decide +kernel), List.mem_of_getElem? (i := 353) (by decide +kernel)⟩
theorem lw_p3 : lw_okq (⟨"NoonTrains$Reader", "step", "()V"⟩, 7) := ⟨⟨by decide +kernel, by decide +kernel⟩, List.mem_of_getElem? (i := 87) (by decide +kernel), List.mem_of_getElem? (i := 356) (by decide +kernel), List.mem_of_getElem? (i := 357) (by decide +kernel)⟩
theorem lw_p4 : lw_okq (⟨"NoonTrains$Reader", "sortAt", "(I)I"⟩, 7) := ⟨⟨by decide +kernel, by decide +kernel⟩, List.mem_of_getElem? (i := 87) (by decide +kernel), List.mem_of_getElem? (i := 364) (by decide +kernel), List.mem_of_getElem? (i := 365) (by decide +kernel)⟩
theorem lw_p5 : lw_okq (⟨"NoonTrains$Reader", "lineOfWord", "()I"⟩, 7) := ⟨⟨by decide +kernel, by decide +kernel⟩, List.mem_of_getElem? (i := 87) (by decide +kernel), List.mem_of_getElem? (i := 369) (by decide +kernel), List.mem_of_getElem? (i := 370) (by decide +kernel)⟩
theorem lw_p6 : lw_okq (⟨"NoonTrains$Reader", "spells", "(Ljava/lang/String;)Z"⟩, 7) := ⟨⟨by decide +kernel, by decide +kernel⟩, List.mem_of_getElem? (i := 87) (by decide +kernel), List.mem_of_getElem? (i := 374) (by decide +kernel), List.mem_of_getElem? (i := 375) (by decide +kernel)⟩
theorem lw_p7 : lw_okq (⟨"NoonTrains$Reader", "tokenValue", "()I"⟩, 7) := ⟨⟨by decide +kernel, by decide +kernel⟩, List.mem_of_getElem? (i := 87) (by decide +kernel), List.mem_of_getElem? (i := 438) (by decide +kernel), List.mem_of_getElem? (i := 439) (by decide +kernel)⟩
theorem lw_p8 : lw_okq (⟨"NoonTrains$Reader", "fits", "(III)Z"⟩, 7) := ⟨⟨by decide +kernel, by decide +kernel⟩, List.mem_of_getElem? (i := 87) (by decide +kernel), List.mem_of_getElem? (i := 442) (by decide +kernel), List.mem_of_getElem? (i := 443) (by decide +kernel)⟩
theorem lw_p9 : lw_okq (⟨"NoonTrains$Reader", "fitsTrain", "(II)Z"⟩, 7) := ⟨⟨by decide +kernel, by decide +kernel⟩, List.mem_of_getElem? (i := 87) (by decide +kernel), List.mem_of_getElem? (i := 446) (by decide +kernel), List.mem_of_getElem? (i := 447) (by decide +kernel)⟩
theorem lw_p10 : lw_okq (⟨"NoonTrains$Reader", "draw", "(I)V"⟩, 7) := ⟨⟨by decide +kernel, by decide +kernel⟩, List.mem_of_getElem? (i := 87) (by decide +kernel), List.mem_of_getElem? (i := 457) (by decide +kernel), List.mem_of_getElem? (i := 458) (by decide +kernel)⟩
theorem lw_p11 : lw_okq (⟨"NoonTrains$Reader", "drawTrain", "()V"⟩, 7) := ⟨⟨by decide +kernel, by decide +kernel⟩, List.mem_of_getElem? (i := 87) (by decide +kernel), List.mem_of_getElem? (i := 466) (by decide +kernel), List.mem_of_getElem? (i := 467) (by decide +kernel)⟩
theorem lw_p12 : lw_okq (⟨"NoonTrains", "isSuch", "(II)Z"⟩, 10) := ⟨⟨by decide +kernel, by decide +kernel⟩, List.mem_of_getElem? (i := 19) (by decide +kernel), List.mem_of_getElem? (i := 528) (by decide +kernel), List.mem_of_getElem? (i := 529) (by decide +kernel)⟩
theorem lw_p13 : lw_okq (⟨"NoonTrains$Scene", "learnTicket", "()V"⟩, 12) := ⟨⟨by decide +kernel, by decide +kernel⟩, List.mem_of_getElem? (i := 119) (by decide +kernel), List.mem_of_getElem? (i := 586) (by decide +kernel), List.mem_of_getElem? (i := 587) (by decide +kernel)⟩
theorem lw_p14 : lw_okq (⟨"NoonTrains$Scene", "moveHim", "()V"⟩, 12) := ⟨⟨by decide +kernel, by decide +kernel⟩, List.mem_of_getElem? (i := 119) (by decide +kernel), List.mem_of_getElem? (i := 590) (by decide +kernel), List.mem_of_getElem? (i := 591) (by decide +kernel)⟩
theorem lw_p15 : lw_okq (⟨"NoonTrains$Scene", "learnPlaces", "()V"⟩, 12) := ⟨⟨by decide +kernel, by decide +kernel⟩, List.mem_of_getElem? (i := 119) (by decide +kernel), List.mem_of_getElem? (i := 595) (by decide +kernel), List.mem_of_getElem? (i := 596) (by decide +kernel)⟩
def lw_privs_1 : List (MethodName × Nat) := [(⟨"NoonTrains$Scene", "forgetToday", "()V"⟩, 12), (⟨"NoonTrains$Scene", "isWithSeeker", "()Z"⟩, 12), (⟨"NoonTrains$Reader", "readLine", "()Z"⟩, 7), (⟨"NoonTrains$Reader", "step", "()V"⟩, 7), (⟨"NoonTrains$Reader", "sortAt", "(I)I"⟩, 7), (⟨"NoonTrains$Reader", "lineOfWord", "()I"⟩, 7), (⟨"NoonTrains$Reader", "spells", "(Ljava/lang/String;)Z"⟩, 7), (⟨"NoonTrains$Reader", "tokenValue", "()I"⟩, 7), (⟨"NoonTrains$Reader", "fits", "(III)Z"⟩, 7), (⟨"NoonTrains$Reader", "fitsTrain", "(II)Z"⟩, 7), (⟨"NoonTrains$Reader", "draw", "(I)V"⟩, 7), (⟨"NoonTrains$Reader", "drawTrain", "()V"⟩, 7), (⟨"NoonTrains", "isSuch", "(II)Z"⟩, 10), (⟨"NoonTrains$Scene", "learnTicket", "()V"⟩, 12), (⟨"NoonTrains$Scene", "moveHim", "()V"⟩, 12), (⟨"NoonTrains$Scene", "learnPlaces", "()V"⟩, 12)]
theorem lw_r1 : ∀ q ∈ lw_privs_1, lw_okq q := List.forall_mem_cons.mpr ⟨lw_p0, List.forall_mem_cons.mpr ⟨lw_p1, List.forall_mem_cons.mpr ⟨lw_p2, List.forall_mem_cons.mpr ⟨lw_p3, List.forall_mem_cons.mpr ⟨lw_p4, List.forall_mem_cons.mpr ⟨lw_p5, List.forall_mem_cons.mpr ⟨lw_p6, List.forall_mem_cons.mpr ⟨lw_p7, List.forall_mem_cons.mpr ⟨lw_p8, List.forall_mem_cons.mpr ⟨lw_p9, List.forall_mem_cons.mpr ⟨lw_p10, List.forall_mem_cons.mpr ⟨lw_p11, List.forall_mem_cons.mpr ⟨lw_p12, List.forall_mem_cons.mpr ⟨lw_p13, List.forall_mem_cons.mpr ⟨lw_p14, List.forall_mem_cons.mpr ⟨lw_p15, fun _ h => absurd h List.not_mem_nil⟩⟩⟩⟩⟩⟩⟩⟩⟩⟩⟩⟩⟩⟩⟩⟩
theorem lw_p16 : lw_okq (⟨"NoonTrains$Foresight", "choices", "(I)I"⟩, 6) := ⟨⟨by decide +kernel, by decide +kernel⟩, List.mem_of_getElem? (i := 196) (by decide +kernel), List.mem_of_getElem? (i := 633) (by decide +kernel), List.mem_of_getElem? (i := 634) (by decide +kernel)⟩
theorem lw_p17 : lw_okq (⟨"NoonTrains$Foresight", "leftBy", "(I)I"⟩, 6) := ⟨⟨by decide +kernel, by decide +kernel⟩, List.mem_of_getElem? (i := 196) (by decide +kernel), List.mem_of_getElem? (i := 655) (by decide +kernel), List.mem_of_getElem? (i := 656) (by decide +kernel)⟩
theorem lw_p18 : lw_okq (⟨"NoonTrains$Pursuit", "markCaught", "()V"⟩, 10) := ⟨⟨by decide +kernel, by decide +kernel⟩, List.mem_of_getElem? (i := 225) (by decide +kernel), List.mem_of_getElem? (i := 676) (by decide +kernel), List.mem_of_getElem? (i := 677) (by decide +kernel)⟩
theorem lw_p19 : lw_okq (⟨"NoonTrains$Pursuit", "gather", "(II)V"⟩, 10) := ⟨⟨by decide +kernel, by decide +kernel⟩, List.mem_of_getElem? (i := 225) (by decide +kernel), List.mem_of_getElem? (i := 683) (by decide +kernel), List.mem_of_getElem? (i := 684) (by decide +kernel)⟩
theorem lw_p20 : lw_okq (⟨"NoonTrains$Pursuit", "foldHim", "()V"⟩, 10) := ⟨⟨by decide +kernel, by decide +kernel⟩, List.mem_of_getElem? (i := 225) (by decide +kernel), List.mem_of_getElem? (i := 693) (by decide +kernel), List.mem_of_getElem? (i := 694) (by decide +kernel)⟩
theorem lw_p21 : lw_okq (⟨"NoonTrains$Pursuit", "foldZero", "()V"⟩, 10) := ⟨⟨by decide +kernel, by decide +kernel⟩, List.mem_of_getElem? (i := 225) (by decide +kernel), List.mem_of_getElem? (i := 701) (by decide +kernel), List.mem_of_getElem? (i := 702) (by decide +kernel)⟩
theorem lw_p22 : lw_okq (⟨"NoonTrains$Pursuit", "foldOne", "()V"⟩, 10) := ⟨⟨by decide +kernel, by decide +kernel⟩, List.mem_of_getElem? (i := 225) (by decide +kernel), List.mem_of_getElem? (i := 705) (by decide +kernel), List.mem_of_getElem? (i := 706) (by decide +kernel)⟩
theorem lw_p23 : lw_okq (⟨"NoonTrains$Rides", "spend", "(I)Z"⟩, 6) := ⟨⟨by decide +kernel, by decide +kernel⟩, List.mem_of_getElem? (i := 264) (by decide +kernel), List.mem_of_getElem? (i := 748) (by decide +kernel), List.mem_of_getElem? (i := 749) (by decide +kernel)⟩
theorem lw_p24 : lw_okq (⟨"NoonTrains$Rides", "rideOn", "(II)V"⟩, 6) := ⟨⟨by decide +kernel, by decide +kernel⟩, List.mem_of_getElem? (i := 264) (by decide +kernel), List.mem_of_getElem? (i := 764) (by decide +kernel), List.mem_of_getElem? (i := 765) (by decide +kernel)⟩
theorem lw_p25 : lw_okq (⟨"NoonTrains$Rides", "arrive", "(IJ)V"⟩, 6) := ⟨⟨by decide +kernel, by decide +kernel⟩, List.mem_of_getElem? (i := 264) (by decide +kernel), List.mem_of_getElem? (i := 769) (by decide +kernel), List.mem_of_getElem? (i := 770) (by decide +kernel)⟩
theorem lw_p26 : lw_okq (⟨"NoonTrains", "image", "(I)LNoonTrains$Scene;"⟩, 10) := ⟨⟨by decide +kernel, by decide +kernel⟩, List.mem_of_getElem? (i := 19) (by decide +kernel), List.mem_of_getElem? (i := 785) (by decide +kernel), List.mem_of_getElem? (i := 786) (by decide +kernel)⟩
theorem lw_p27 : lw_okq (⟨"NoonTrainsModel", "begin", "()V"⟩, 26) := ⟨⟨by decide +kernel, by decide +kernel⟩, List.mem_of_getElem? (i := 802) (by decide +kernel), List.mem_of_getElem? (i := 808) (by decide +kernel), List.mem_of_getElem? (i := 809) (by decide +kernel)⟩
theorem lw_p28 : lw_okq (⟨"NoonTrainsModel", "token", "()V"⟩, 26) := ⟨⟨by decide +kernel, by decide +kernel⟩, List.mem_of_getElem? (i := 802) (by decide +kernel), List.mem_of_getElem? (i := 909) (by decide +kernel), List.mem_of_getElem? (i := 910) (by decide +kernel)⟩
theorem lw_p29 : lw_okq (⟨"NoonTrainsModel", "readsLine", "()Z"⟩, 26) := ⟨⟨by decide +kernel, by decide +kernel⟩, List.mem_of_getElem? (i := 802) (by decide +kernel), List.mem_of_getElem? (i := 916) (by decide +kernel), List.mem_of_getElem? (i := 917) (by decide +kernel)⟩
theorem lw_p30 : lw_okq (⟨"NoonTrainsModel", "wordOf", "()I"⟩, 26) := ⟨⟨by decide +kernel, by decide +kernel⟩, List.mem_of_getElem? (i := 802) (by decide +kernel), List.mem_of_getElem? (i := 920) (by decide +kernel), List.mem_of_getElem? (i := 921) (by decide +kernel)⟩
theorem lw_p31 : lw_okq (⟨"NoonTrainsModel", "isWord", "(JI)Z"⟩, 26) := ⟨⟨by decide +kernel, by decide +kernel⟩, List.mem_of_getElem? (i := 802) (by decide +kernel), List.mem_of_getElem? (i := 925) (by decide +kernel), List.mem_of_getElem? (i := 926) (by decide +kernel)⟩
def lw_privs_2 : List (MethodName × Nat) := [(⟨"NoonTrains$Foresight", "choices", "(I)I"⟩, 6), (⟨"NoonTrains$Foresight", "leftBy", "(I)I"⟩, 6), (⟨"NoonTrains$Pursuit", "markCaught", "()V"⟩, 10), (⟨"NoonTrains$Pursuit", "gather", "(II)V"⟩, 10), (⟨"NoonTrains$Pursuit", "foldHim", "()V"⟩, 10), (⟨"NoonTrains$Pursuit", "foldZero", "()V"⟩, 10), (⟨"NoonTrains$Pursuit", "foldOne", "()V"⟩, 10), (⟨"NoonTrains$Rides", "spend", "(I)Z"⟩, 6), (⟨"NoonTrains$Rides", "rideOn", "(II)V"⟩, 6), (⟨"NoonTrains$Rides", "arrive", "(IJ)V"⟩, 6), (⟨"NoonTrains", "image", "(I)LNoonTrains$Scene;"⟩, 10), (⟨"NoonTrainsModel", "begin", "()V"⟩, 26), (⟨"NoonTrainsModel", "token", "()V"⟩, 26), (⟨"NoonTrainsModel", "readsLine", "()Z"⟩, 26), (⟨"NoonTrainsModel", "wordOf", "()I"⟩, 26), (⟨"NoonTrainsModel", "isWord", "(JI)Z"⟩, 26)]
theorem lw_r2 : ∀ q ∈ lw_privs_2, lw_okq q := List.forall_mem_cons.mpr ⟨lw_p16, List.forall_mem_cons.mpr ⟨lw_p17, List.forall_mem_cons.mpr ⟨lw_p18, List.forall_mem_cons.mpr ⟨lw_p19, List.forall_mem_cons.mpr ⟨lw_p20, List.forall_mem_cons.mpr ⟨lw_p21, List.forall_mem_cons.mpr ⟨lw_p22, List.forall_mem_cons.mpr ⟨lw_p23, List.forall_mem_cons.mpr ⟨lw_p24, List.forall_mem_cons.mpr ⟨lw_p25, List.forall_mem_cons.mpr ⟨lw_p26, List.forall_mem_cons.mpr ⟨lw_p27, List.forall_mem_cons.mpr ⟨lw_p28, List.forall_mem_cons.mpr ⟨lw_p29, List.forall_mem_cons.mpr ⟨lw_p30, List.forall_mem_cons.mpr ⟨lw_p31, fun _ h => absurd h List.not_mem_nil⟩⟩⟩⟩⟩⟩⟩⟩⟩⟩⟩⟩⟩⟩⟩⟩
theorem lw_p32 : lw_okq (⟨"NoonTrainsModel", "readsRest", "(I)Z"⟩, 26) := ⟨⟨by decide +kernel, by decide +kernel⟩, List.mem_of_getElem? (i := 802) (by decide +kernel), List.mem_of_getElem? (i := 935) (by decide +kernel), List.mem_of_getElem? (i := 936) (by decide +kernel)⟩
theorem lw_p33 : lw_okq (⟨"NoonTrainsModel", "reads", "(IIII)Z"⟩, 26) := ⟨⟨by decide +kernel, by decide +kernel⟩, List.mem_of_getElem? (i := 802) (by decide +kernel), List.mem_of_getElem? (i := 939) (by decide +kernel), List.mem_of_getElem? (i := 940) (by decide +kernel)⟩
theorem lw_p34 : lw_okq (⟨"NoonTrainsModel", "readsTrain", "()Z"⟩, 26) := ⟨⟨by decide +kernel, by decide +kernel⟩, List.mem_of_getElem? (i := 802) (by decide +kernel), List.mem_of_getElem? (i := 943) (by decide +kernel), List.mem_of_getElem? (i := 944) (by decide +kernel)⟩
theorem lw_p35 : lw_okq (⟨"NoonTrainsModel", "tell", "(I)V"⟩, 26) := ⟨⟨by decide +kernel, by decide +kernel⟩, List.mem_of_getElem? (i := 802) (by decide +kernel), List.mem_of_getElem? (i := 952) (by decide +kernel), List.mem_of_getElem? (i := 953) (by decide +kernel)⟩
theorem lw_p36 : lw_okq (⟨"NoonTrainsModel", "isTrain", "(I)Z"⟩, 26) := ⟨⟨by decide +kernel, by decide +kernel⟩, List.mem_of_getElem? (i := 802) (by decide +kernel), List.mem_of_getElem? (i := 960) (by decide +kernel), List.mem_of_getElem? (i := 961) (by decide +kernel)⟩
theorem lw_p37 : lw_okq (⟨"NoonTrainsModel", "leaves", "(III)Z"⟩, 26) := ⟨⟨by decide +kernel, by decide +kernel⟩, List.mem_of_getElem? (i := 802) (by decide +kernel), List.mem_of_getElem? (i := 969) (by decide +kernel), List.mem_of_getElem? (i := 970) (by decide +kernel)⟩
theorem lw_p38 : lw_okq (⟨"NoonTrainsModel", "hisTrains", "()I"⟩, 26) := ⟨⟨by decide +kernel, by decide +kernel⟩, List.mem_of_getElem? (i := 802) (by decide +kernel), List.mem_of_getElem? (i := 982) (by decide +kernel), List.mem_of_getElem? (i := 983) (by decide +kernel)⟩
theorem lw_p39 : lw_okq (⟨"NoonTrainsModel", "ridable", "(I)I"⟩, 26) := ⟨⟨by decide +kernel, by decide +kernel⟩, List.mem_of_getElem? (i := 802) (by decide +kernel), List.mem_of_getElem? (i := 986) (by decide +kernel), List.mem_of_getElem? (i := 987) (by decide +kernel)⟩
theorem lw_p40 : lw_okq (⟨"NoonTrainsModel", "nextOf", "()I"⟩, 26) := ⟨⟨by decide +kernel, by decide +kernel⟩, List.mem_of_getElem? (i := 802) (by decide +kernel), List.mem_of_getElem? (i := 1004) (by decide +kernel), List.mem_of_getElem? (i := 1005) (by decide +kernel)⟩
theorem lw_p41 : lw_okq (⟨"NoonTrainsModel", "layByNone", "()V"⟩, 26) := ⟨⟨by decide +kernel, by decide +kernel⟩, List.mem_of_getElem? (i := 802) (by decide +kernel), List.mem_of_getElem? (i := 1008) (by decide +kernel), List.mem_of_getElem? (i := 1009) (by decide +kernel)⟩
theorem lw_p42 : lw_okq (⟨"NoonTrainsModel", "layBy", "(I)V"⟩, 26) := ⟨⟨by decide +kernel, by decide +kernel⟩, List.mem_of_getElem? (i := 802) (by decide +kernel), List.mem_of_getElem? (i := 1012) (by decide +kernel), List.mem_of_getElem? (i := 1013) (by decide +kernel)⟩
theorem lw_p43 : lw_okq (⟨"NoonTrainsModel", "reach", "(III)I"⟩, 26) := ⟨⟨by decide +kernel, by decide +kernel⟩, List.mem_of_getElem? (i := 802) (by decide +kernel), List.mem_of_getElem? (i := 1044) (by decide +kernel), List.mem_of_getElem? (i := 1045) (by decide +kernel)⟩
theorem lw_p44 : lw_okq (⟨"NoonTrainsModel", "nightsFrom", "(III)I"⟩, 26) := ⟨⟨by decide +kernel, by decide +kernel⟩, List.mem_of_getElem? (i := 802) (by decide +kernel), List.mem_of_getElem? (i := 1048) (by decide +kernel), List.mem_of_getElem? (i := 1049) (by decide +kernel)⟩
theorem lw_p45 : lw_okq (⟨"NoonTrainsModel", "isNoChase", "()Z"⟩, 26) := ⟨⟨by decide +kernel, by decide +kernel⟩, List.mem_of_getElem? (i := 802) (by decide +kernel), List.mem_of_getElem? (i := 1063) (by decide +kernel), List.mem_of_getElem? (i := 1064) (by decide +kernel)⟩
theorem lw_p46 : lw_okq (⟨"NoonTrainsModel", "chaseBy", "(I)I"⟩, 26) := ⟨⟨by decide +kernel, by decide +kernel⟩, List.mem_of_getElem? (i := 802) (by decide +kernel), List.mem_of_getElem? (i := 1067) (by decide +kernel), List.mem_of_getElem? (i := 1068) (by decide +kernel)⟩
theorem lw_p47 : lw_okq (⟨"NoonTrainsModel", "bestFrom", "(IIIII)I"⟩, 26) := ⟨⟨by decide +kernel, by decide +kernel⟩, List.mem_of_getElem? (i := 802) (by decide +kernel), List.mem_of_getElem? (i := 1071) (by decide +kernel), List.mem_of_getElem? (i := 1072) (by decide +kernel)⟩
def lw_privs_3 : List (MethodName × Nat) := [(⟨"NoonTrainsModel", "readsRest", "(I)Z"⟩, 26), (⟨"NoonTrainsModel", "reads", "(IIII)Z"⟩, 26), (⟨"NoonTrainsModel", "readsTrain", "()Z"⟩, 26), (⟨"NoonTrainsModel", "tell", "(I)V"⟩, 26), (⟨"NoonTrainsModel", "isTrain", "(I)Z"⟩, 26), (⟨"NoonTrainsModel", "leaves", "(III)Z"⟩, 26), (⟨"NoonTrainsModel", "hisTrains", "()I"⟩, 26), (⟨"NoonTrainsModel", "ridable", "(I)I"⟩, 26), (⟨"NoonTrainsModel", "nextOf", "()I"⟩, 26), (⟨"NoonTrainsModel", "layByNone", "()V"⟩, 26), (⟨"NoonTrainsModel", "layBy", "(I)V"⟩, 26), (⟨"NoonTrainsModel", "reach", "(III)I"⟩, 26), (⟨"NoonTrainsModel", "nightsFrom", "(III)I"⟩, 26), (⟨"NoonTrainsModel", "isNoChase", "()Z"⟩, 26), (⟨"NoonTrainsModel", "chaseBy", "(I)I"⟩, 26), (⟨"NoonTrainsModel", "bestFrom", "(IIIII)I"⟩, 26)]
theorem lw_r3 : ∀ q ∈ lw_privs_3, lw_okq q := List.forall_mem_cons.mpr ⟨lw_p32, List.forall_mem_cons.mpr ⟨lw_p33, List.forall_mem_cons.mpr ⟨lw_p34, List.forall_mem_cons.mpr ⟨lw_p35, List.forall_mem_cons.mpr ⟨lw_p36, List.forall_mem_cons.mpr ⟨lw_p37, List.forall_mem_cons.mpr ⟨lw_p38, List.forall_mem_cons.mpr ⟨lw_p39, List.forall_mem_cons.mpr ⟨lw_p40, List.forall_mem_cons.mpr ⟨lw_p41, List.forall_mem_cons.mpr ⟨lw_p42, List.forall_mem_cons.mpr ⟨lw_p43, List.forall_mem_cons.mpr ⟨lw_p44, List.forall_mem_cons.mpr ⟨lw_p45, List.forall_mem_cons.mpr ⟨lw_p46, List.forall_mem_cons.mpr ⟨lw_p47, fun _ h => absurd h List.not_mem_nil⟩⟩⟩⟩⟩⟩⟩⟩⟩⟩⟩⟩⟩⟩⟩⟩
theorem lw_p48 : lw_okq (⟨"NoonTrainsModel", "worst", "(IIII)I"⟩, 26) := ⟨⟨by decide +kernel, by decide +kernel⟩, List.mem_of_getElem? (i := 802) (by decide +kernel), List.mem_of_getElem? (i := 1075) (by decide +kernel), List.mem_of_getElem? (i := 1076) (by decide +kernel)⟩
theorem lw_p49 : lw_okq (⟨"NoonTrainsModel", "rideLate", "(II)V"⟩, 26) := ⟨⟨by decide +kernel, by decide +kernel⟩, List.mem_of_getElem? (i := 802) (by decide +kernel), List.mem_of_getElem? (i := 1105) (by decide +kernel), List.mem_of_getElem? (i := 1106) (by decide +kernel)⟩
theorem lw_p50 : lw_okq (⟨"NoonTrainsModel", "addThen", "(IJ)V"⟩, 26) := ⟨⟨by decide +kernel, by decide +kernel⟩, List.mem_of_getElem? (i := 802) (by decide +kernel), List.mem_of_getElem? (i := 1109) (by decide +kernel), List.mem_of_getElem? (i := 1110) (by decide +kernel)⟩
theorem lw_p51 : lw_okq (⟨"NoonTrainsModel", "copy", "(II)V"⟩, 26) := ⟨⟨by decide +kernel, by decide +kernel⟩, List.mem_of_getElem? (i := 802) (by decide +kernel), List.mem_of_getElem? (i := 1120) (by decide +kernel), List.mem_of_getElem? (i := 1121) (by decide +kernel)⟩
def lw_privs_4 : List (MethodName × Nat) := [(⟨"NoonTrainsModel", "worst", "(IIII)I"⟩, 26), (⟨"NoonTrainsModel", "rideLate", "(II)V"⟩, 26), (⟨"NoonTrainsModel", "addThen", "(IJ)V"⟩, 26), (⟨"NoonTrainsModel", "copy", "(II)V"⟩, 26)]
theorem lw_r4 : ∀ q ∈ lw_privs_4, lw_okq q := List.forall_mem_cons.mpr ⟨lw_p48, List.forall_mem_cons.mpr ⟨lw_p49, List.forall_mem_cons.mpr ⟨lw_p50, List.forall_mem_cons.mpr ⟨lw_p51, fun _ h => absurd h List.not_mem_nil⟩⟩⟩⟩
def lw_privs : List (MethodName × Nat) := lw_privs_1 ++ (lw_privs_2 ++ (lw_privs_3 ++ (lw_privs_4)))
def lw_tbl : List Cond := k2_sels lw_privs ++ tables_1
theorem lw_privs_ok : ∀ q ∈ lw_privs, lw_okq q := by
  show ∀ q ∈ lw_privs_1 ++ (lw_privs_2 ++ (lw_privs_3 ++ (lw_privs_4))), lw_okq q
  exact List.forall_mem_append.mpr ⟨lw_r1, List.forall_mem_append.mpr ⟨lw_r2, List.forall_mem_append.mpr ⟨lw_r3, lw_r4⟩⟩⟩
end
section
def RX0 : String := "NoonTrains$Foresight"
def TX0 : u_T := fun k => match k with
  | 0 => ("NoonTrains$Foresight", "land", "LNoonTrains$Land;", true)
  | 1 => ("NoonTrains$Foresight", "scene", "LNoonTrains$Scene;", true)
  | 2 => ("NoonTrains$Foresight", "most", "I", false)
  | 3 => ("NoonTrains$Foresight", "placeZero", "I", false)
  | 4 => ("NoonTrains$Foresight", "placeOne", "I", false)
  | _ => ("NoonTrains$Foresight", "hidingTrain", "I", false)
def tyX0 : Nat → FieldType := fun k => match k with
  | 0 => .object "NoonTrains$Land"
  | 1 => .object "NoonTrains$Scene"
  | 2 => .int
  | 3 => .int
  | 4 => .int
  | _ => .int
theorem nmX0 : ∀ a, a < 6 → ∀ b, b < 6 → a ≠ b → (TX0 a).2.1 ≠ (TX0 b).2.1 := by decide +kernel
theorem tyX0_ok : ∀ k, k < 6 → parseFieldDescriptor (TX0 k).2.2.1 = some (tyX0 k) := by decide +kernel
abbrev cX0_init : ByteArray := prog_2_method_1_code
def yX0_init : MethodName := ⟨RX0, "<init>", "(LNoonTrains$Land;LNoonTrains$Scene;)V"⟩
abbrev cX0_stand : ByteArray := prog_2_method_2_code
def yX0_stand : MethodName := ⟨RX0, "stand", "()V"⟩
abbrev cX0_choices : ByteArray := prog_2_method_3_code
def yX0_choices : MethodName := ⟨RX0, "choices", "(I)I"⟩
abbrev cX0_hide : ByteArray := prog_2_method_4_code
def yX0_hide : MethodName := ⟨RX0, "hide", "()V"⟩
abbrev cX0_leftBy : ByteArray := prog_2_method_5_code
def yX0_leftBy : MethodName := ⟨RX0, "leftBy", "(I)I"⟩
def RX1 : String := "NoonTrains$Land"
def TX1 : u_T := fun k => match k with
  | 0 => ("NoonTrains$Land", "stations", "I", false)
  | 1 => ("NoonTrains$Land", "trains", "I", false)
  | 2 => ("NoonTrains$Land", "start", "I", false)
  | 3 => ("NoonTrains$Land", "show", "I", false)
  | 4 => ("NoonTrains$Land", "rows", "[I", true)
  | 5 => ("NoonTrains$Land", "tickets", "[I", true)
  | _ => ("NoonTrains$Land", "seekers", "[I", true)
def tyX1 : Nat → FieldType := fun k => match k with
  | 0 => .int
  | 1 => .int
  | 2 => .int
  | 3 => .int
  | 4 => .array .int
  | 5 => .array .int
  | _ => .array .int
theorem nmX1 : ∀ a, a < 7 → ∀ b, b < 7 → a ≠ b → (TX1 a).2.1 ≠ (TX1 b).2.1 := by decide +kernel
theorem tyX1_ok : ∀ k, k < 7 → parseFieldDescriptor (TX1 k).2.2.1 = some (tyX1 k) := by decide +kernel
abbrev cX1_init : ByteArray := prog_3_method_1_code
def yX1_init : MethodName := ⟨RX1, "<init>", "()V"⟩
abbrev cX1_copy : ByteArray := prog_3_method_2_code
def yX1_copy : MethodName := ⟨RX1, "copy", "(LNoonTrains$Land;)V"⟩
abbrev cX1_clear : ByteArray := prog_3_method_3_code
def yX1_clear : MethodName := ⟨RX1, "clear", "(I)V"⟩
abbrev cX1_setPart : ByteArray := prog_3_method_4_code
def yX1_setPart : MethodName := ⟨RX1, "setPart", "(III)V"⟩
abbrev cX1_setTickets : ByteArray := prog_3_method_5_code
def yX1_setTickets : MethodName := ⟨RX1, "setTickets", "(II)V"⟩
abbrev cX1_setSeeker : ByteArray := prog_3_method_6_code
def yX1_setSeeker : MethodName := ⟨RX1, "setSeeker", "(II)V"⟩
abbrev cX1_hasStation : ByteArray := prog_3_method_7_code
def yX1_hasStation : MethodName := ⟨RX1, "hasStation", "(I)Z"⟩
abbrev cX1_hasTrain : ByteArray := prog_3_method_8_code
def yX1_hasTrain : MethodName := ⟨RX1, "hasTrain", "(I)Z"⟩
abbrev cX1_isFull : ByteArray := prog_3_method_9_code
def yX1_isFull : MethodName := ⟨RX1, "isFull", "()Z"⟩
abbrev cX1_part : ByteArray := prog_3_method_10_code
def yX1_part : MethodName := ⟨RX1, "part", "(II)I"⟩
abbrev cX1_runsOn : ByteArray := prog_3_method_11_code
def yX1_runsOn : MethodName := ⟨RX1, "runsOn", "(II)Z"⟩
abbrev cX1_leaves : ByteArray := prog_3_method_12_code
def yX1_leaves : MethodName := ⟨RX1, "leaves", "(III)Z"⟩
abbrev cX1_rideable : ByteArray := prog_3_method_13_code
def yX1_rideable : MethodName := ⟨RX1, "rideable", "(III)I"⟩
abbrev cX1_reached : ByteArray := prog_3_method_14_code
def yX1_reached : MethodName := ⟨RX1, "reached", "(IIII)I"⟩
abbrev cX1_stuck : ByteArray := prog_3_method_15_code
def yX1_stuck : MethodName := ⟨RX1, "stuck", "(III)I"⟩
def RX2 : String := "NoonTrains$Pursuit"
def TX2 : u_T := fun k => match k with
  | 0 => ("NoonTrains$Pursuit", "land", "LNoonTrains$Land;", true)
  | 1 => ("NoonTrains$Pursuit", "scene", "LNoonTrains$Scene;", true)
  | 2 => ("NoonTrains$Pursuit", "days", "[I", true)
  | 3 => ("NoonTrains$Pursuit", "behindHim", "[I", true)
  | 4 => ("NoonTrains$Pursuit", "behindZero", "[I", true)
  | 5 => ("NoonTrains$Pursuit", "froms", "[I", true)
  | 6 => ("NoonTrains$Pursuit", "tos", "[I", true)
  | 7 => ("NoonTrains$Pursuit", "running", "I", false)
  | 8 => ("NoonTrains$Pursuit", "closedTrain", "I", false)
  | _ => ("NoonTrains$Pursuit", "closedDays", "I", false)
def tyX2 : Nat → FieldType := fun k => match k with
  | 0 => .object "NoonTrains$Land"
  | 1 => .object "NoonTrains$Scene"
  | 2 => .array .int
  | 3 => .array .int
  | 4 => .array .int
  | 5 => .array .int
  | 6 => .array .int
  | 7 => .int
  | 8 => .int
  | _ => .int
theorem nmX2 : ∀ a, a < 10 → ∀ b, b < 10 → a ≠ b → (TX2 a).2.1 ≠ (TX2 b).2.1 := by decide +kernel
theorem tyX2_ok : ∀ k, k < 10 → parseFieldDescriptor (TX2 k).2.2.1 = some (tyX2 k) := by decide +kernel
abbrev cX2_init : ByteArray := prog_4_method_1_code
def yX2_init : MethodName := ⟨RX2, "<init>", "(LNoonTrains$Land;LNoonTrains$Scene;)V"⟩
abbrev cX2_close : ByteArray := prog_4_method_2_code
def yX2_close : MethodName := ⟨RX2, "close", "()V"⟩
abbrev cX2_fewestDays : ByteArray := prog_4_method_3_code
def yX2_fewestDays : MethodName := ⟨RX2, "fewestDays", "(II)I"⟩
abbrev cX2_placeOf : ByteArray := prog_4_method_4_code
def yX2_placeOf : MethodName := ⟨RX2, "placeOf", "(I)I"⟩
abbrev cX2_markCaught : ByteArray := prog_4_method_5_code
def yX2_markCaught : MethodName := ⟨RX2, "markCaught", "()V"⟩
abbrev cX2_gather : ByteArray := prog_4_method_6_code
def yX2_gather : MethodName := ⟨RX2, "gather", "(II)V"⟩
abbrev cX2_isStation : ByteArray := prog_4_method_7_code
def yX2_isStation : MethodName := ⟨RX2, "isStation", "(I)Z"⟩
abbrev cX2_foldHim : ByteArray := prog_4_method_8_code
def yX2_foldHim : MethodName := ⟨RX2, "foldHim", "()V"⟩
abbrev cX2_foldZero : ByteArray := prog_4_method_9_code
def yX2_foldZero : MethodName := ⟨RX2, "foldZero", "()V"⟩
abbrev cX2_foldOne : ByteArray := prog_4_method_10_code
def yX2_foldOne : MethodName := ⟨RX2, "foldOne", "()V"⟩
def RX3 : String := "NoonTrains$Reader"
def TX3 : u_T := fun k => match k with
  | 0 => ("NoonTrains$Reader", "text", "LNoonTrains$Text;", true)
  | 1 => ("NoonTrains$Reader", "draft", "LNoonTrains$Land;", true)
  | 2 => ("NoonTrains$Reader", "lines", "I", false)
  | 3 => ("NoonTrains$Reader", "fields", "[I", true)
  | 4 => ("NoonTrains$Reader", "tokenSort", "I", false)
  | 5 => ("NoonTrains$Reader", "tokenAt", "I", false)
  | _ => ("NoonTrains$Reader", "tokenPast", "I", false)
def tyX3 : Nat → FieldType := fun k => match k with
  | 0 => .object "NoonTrains$Text"
  | 1 => .object "NoonTrains$Land"
  | 2 => .int
  | 3 => .array .int
  | 4 => .int
  | 5 => .int
  | _ => .int
theorem nmX3 : ∀ a, a < 7 → ∀ b, b < 7 → a ≠ b → (TX3 a).2.1 ≠ (TX3 b).2.1 := by decide +kernel
theorem tyX3_ok : ∀ k, k < 7 → parseFieldDescriptor (TX3 k).2.2.1 = some (tyX3 k) := by decide +kernel
abbrev cX3_init : ByteArray := prog_5_method_1_code
def yX3_init : MethodName := ⟨RX3, "<init>", "(LNoonTrains$Text;)V"⟩
abbrev cX3_firstFault : ByteArray := prog_5_method_2_code
def yX3_firstFault : MethodName := ⟨RX3, "firstFault", "(LNoonTrains$Land;)I"⟩
abbrev cX3_readLine : ByteArray := prog_5_method_3_code
def yX3_readLine : MethodName := ⟨RX3, "readLine", "()Z"⟩
abbrev cX3_step : ByteArray := prog_5_method_4_code
def yX3_step : MethodName := ⟨RX3, "step", "()V"⟩
abbrev cX3_sortAt : ByteArray := prog_5_method_5_code
def yX3_sortAt : MethodName := ⟨RX3, "sortAt", "(I)I"⟩
abbrev cX3_lineOfWord : ByteArray := prog_5_method_6_code
def yX3_lineOfWord : MethodName := ⟨RX3, "lineOfWord", "()I"⟩
abbrev cX3_spells : ByteArray := prog_5_method_7_code
def yX3_spells : MethodName := ⟨RX3, "spells", "(Ljava/lang/String;)Z"⟩
abbrev cX3_tokenValue : ByteArray := prog_5_method_8_code
def yX3_tokenValue : MethodName := ⟨RX3, "tokenValue", "()I"⟩
abbrev cX3_fieldsOf : ByteArray := prog_5_method_9_code
def yX3_fieldsOf : MethodName := ⟨RX3, "fieldsOf", "(I)I"⟩
abbrev cX3_fits : ByteArray := prog_5_method_10_code
def yX3_fits : MethodName := ⟨RX3, "fits", "(III)Z"⟩
abbrev cX3_fitsTrain : ByteArray := prog_5_method_11_code
def yX3_fitsTrain : MethodName := ⟨RX3, "fitsTrain", "(II)Z"⟩
abbrev cX3_draw : ByteArray := prog_5_method_12_code
def yX3_draw : MethodName := ⟨RX3, "draw", "(I)V"⟩
abbrev cX3_drawTrain : ByteArray := prog_5_method_13_code
def yX3_drawTrain : MethodName := ⟨RX3, "drawTrain", "()V"⟩
def RX4 : String := "NoonTrains$Rides"
def TX4 : u_T := fun k => match k with
  | 0 => ("NoonTrains$Rides", "land", "LNoonTrains$Land;", true)
  | 1 => ("NoonTrains$Rides", "trains", "[I", true)
  | 2 => ("NoonTrains$Rides", "length", "I", false)
  | 3 => ("NoonTrains$Rides", "purse", "[I", true)
  | 4 => ("NoonTrains$Rides", "ways", "[J", true)
  | _ => ("NoonTrains$Rides", "waysBehind", "[J", true)
def tyX4 : Nat → FieldType := fun k => match k with
  | 0 => .object "NoonTrains$Land"
  | 1 => .array .int
  | 2 => .int
  | 3 => .array .int
  | 4 => .array .long
  | _ => .array .long
theorem nmX4 : ∀ a, a < 6 → ∀ b, b < 6 → a ≠ b → (TX4 a).2.1 ≠ (TX4 b).2.1 := by decide +kernel
theorem tyX4_ok : ∀ k, k < 6 → parseFieldDescriptor (TX4 k).2.2.1 = some (tyX4 k) := by decide +kernel
abbrev cX4_init : ByteArray := prog_6_method_1_code
def yX4_init : MethodName := ⟨RX4, "<init>", "(LNoonTrains$Land;)V"⟩
abbrev cX4_append : ByteArray := prog_6_method_2_code
def yX4_append : MethodName := ⟨RX4, "append", "(I)Z"⟩
abbrev cX4_firstImpossible : ByteArray := prog_6_method_3_code
def yX4_firstImpossible : MethodName := ⟨RX4, "firstImpossible", "()I"⟩
abbrev cX4_spend : ByteArray := prog_6_method_4_code
def yX4_spend : MethodName := ⟨RX4, "spend", "(I)Z"⟩
abbrev cX4_waysInTime : ByteArray := prog_6_method_5_code
def yX4_waysInTime : MethodName := ⟨RX4, "waysInTime", "(II)J"⟩
abbrev cX4_waysInAll : ByteArray := prog_6_method_6_code
def yX4_waysInAll : MethodName := ⟨RX4, "waysInAll", "()J"⟩
abbrev cX4_rideOn : ByteArray := prog_6_method_7_code
def yX4_rideOn : MethodName := ⟨RX4, "rideOn", "(II)V"⟩
abbrev cX4_arrive : ByteArray := prog_6_method_8_code
def yX4_arrive : MethodName := ⟨RX4, "arrive", "(IJ)V"⟩
def RX5 : String := "NoonTrains$Scene"
def TX5 : u_T := fun k => match k with
  | 0 => ("NoonTrains$Scene", "land", "LNoonTrains$Land;", true)
  | 1 => ("NoonTrains$Scene", "day", "I", false)
  | 2 => ("NoonTrains$Scene", "station", "I", false)
  | 3 => ("NoonTrains$Scene", "onWay", "Z", false)
  | 4 => ("NoonTrains$Scene", "caught", "Z", false)
  | 5 => ("NoonTrains$Scene", "ridden", "I", false)
  | 6 => ("NoonTrains$Scene", "tickets", "[I", true)
  | 7 => ("NoonTrains$Scene", "seekers", "[I", true)
  | 8 => ("NoonTrains$Scene", "sent", "[I", true)
  | 9 => ("NoonTrains$Scene", "mayBits", "I", false)
  | 10 => ("NoonTrains$Scene", "wayBits", "I", false)
  | _ => ("NoonTrains$Scene", "letterBits", "I", false)
def tyX5 : Nat → FieldType := fun k => match k with
  | 0 => .object "NoonTrains$Land"
  | 1 => .int
  | 2 => .int
  | 3 => .boolean
  | 4 => .boolean
  | 5 => .int
  | 6 => .array .int
  | 7 => .array .int
  | 8 => .array .int
  | 9 => .int
  | 10 => .int
  | _ => .int
theorem nmX5 : ∀ a, a < 12 → ∀ b, b < 12 → a ≠ b → (TX5 a).2.1 ≠ (TX5 b).2.1 := by decide +kernel
theorem tyX5_ok : ∀ k, k < 12 → parseFieldDescriptor (TX5 k).2.2.1 = some (tyX5 k) := by decide +kernel
abbrev cX5_init : ByteArray := prog_7_method_1_code
def yX5_init : MethodName := ⟨RX5, "<init>", "(LNoonTrains$Land;)V"⟩
abbrev cX5_begin : ByteArray := prog_7_method_2_code
def yX5_begin : MethodName := ⟨RX5, "begin", "()V"⟩
abbrev cX5_copy : ByteArray := prog_7_method_3_code
def yX5_copy : MethodName := ⟨RX5, "copy", "(LNoonTrains$Scene;)V"⟩
abbrev cX5_forgetToday : ByteArray := prog_7_method_4_code
def yX5_forgetToday : MethodName := ⟨RX5, "forgetToday", "()V"⟩
abbrev cX5_ticketsOf : ByteArray := prog_7_method_5_code
def yX5_ticketsOf : MethodName := ⟨RX5, "ticketsOf", "(I)I"⟩
abbrev cX5_kindsLeft : ByteArray := prog_7_method_6_code
def yX5_kindsLeft : MethodName := ⟨RX5, "kindsLeft", "()I"⟩
abbrev cX5_seekingBits : ByteArray := prog_7_method_7_code
def yX5_seekingBits : MethodName := ⟨RX5, "seekingBits", "()I"⟩
abbrev cX5_anySeeks : ByteArray := prog_7_method_8_code
def yX5_anySeeks : MethodName := ⟨RX5, "anySeeks", "()Z"⟩
abbrev cX5_rideable : ByteArray := prog_7_method_9_code
def yX5_rideable : MethodName := ⟨RX5, "rideable", "()I"⟩
abbrev cX5_canSend : ByteArray := prog_7_method_10_code
def yX5_canSend : MethodName := ⟨RX5, "canSend", "(II)Z"⟩
abbrev cX5_placeBehind : ByteArray := prog_7_method_11_code
def yX5_placeBehind : MethodName := ⟨RX5, "placeBehind", "(I)I"⟩
abbrev cX5_nextBits : ByteArray := prog_7_method_12_code
def yX5_nextBits : MethodName := ⟨RX5, "nextBits", "()I"⟩
abbrev cX5_advance : ByteArray := prog_7_method_13_code
def yX5_advance : MethodName := ⟨RX5, "advance", "()V"⟩
abbrev cX5_learnTicket : ByteArray := prog_7_method_14_code
def yX5_learnTicket : MethodName := ⟨RX5, "learnTicket", "()V"⟩
abbrev cX5_moveHim : ByteArray := prog_7_method_15_code
def yX5_moveHim : MethodName := ⟨RX5, "moveHim", "()V"⟩
abbrev cX5_learnPlaces : ByteArray := prog_7_method_16_code
def yX5_learnPlaces : MethodName := ⟨RX5, "learnPlaces", "()V"⟩
abbrev cX5_isWithSeeker : ByteArray := prog_7_method_17_code
def yX5_isWithSeeker : MethodName := ⟨RX5, "isWithSeeker", "()Z"⟩
def RX6 : String := "NoonTrains$Text"
def TX6 : u_T := fun k => match k with
  | 0 => ("NoonTrains$Text", "bytes", "[C", true)
  | _ => ("NoonTrains$Text", "length", "I", false)
def tyX6 : Nat → FieldType := fun k => match k with
  | 0 => .array .char
  | _ => .int
theorem nmX6 : ∀ a, a < 2 → ∀ b, b < 2 → a ≠ b → (TX6 a).2.1 ≠ (TX6 b).2.1 := by decide +kernel
theorem tyX6_ok : ∀ k, k < 2 → parseFieldDescriptor (TX6 k).2.2.1 = some (tyX6 k) := by decide +kernel
abbrev cX6_init : ByteArray := prog_8_method_1_code
def yX6_init : MethodName := ⟨RX6, "<init>", "()V"⟩
abbrev cX6_append : ByteArray := prog_8_method_2_code
def yX6_append : MethodName := ⟨RX6, "append", "(I)V"⟩
abbrev cX6_byteAt : ByteArray := prog_8_method_3_code
def yX6_byteAt : MethodName := ⟨RX6, "byteAt", "(I)I"⟩
def RX7 : String := "NoonTrains"
def TX7 : u_T := fun k => match k with
  | 0 => ("NoonTrains", "text", "LNoonTrains$Text;", true)
  | 1 => ("NoonTrains", "told", "LNoonTrains$Land;", true)
  | 2 => ("NoonTrains", "reader", "LNoonTrains$Reader;", true)
  | 3 => ("NoonTrains", "now", "LNoonTrains$Scene;", true)
  | 4 => ("NoonTrains", "imageZero", "LNoonTrains$Scene;", true)
  | 5 => ("NoonTrains", "imageOne", "LNoonTrains$Scene;", true)
  | 6 => ("NoonTrains", "foresight", "LNoonTrains$Foresight;", true)
  | 7 => ("NoonTrains", "pursuit", "LNoonTrains$Pursuit;", true)
  | 8 => ("NoonTrains", "rides", "LNoonTrains$Rides;", true)
  | _ => ("NoonTrains", "keptBits", "I", false)
def tyX7 : Nat → FieldType := fun k => match k with
  | 0 => .object "NoonTrains$Text"
  | 1 => .object "NoonTrains$Land"
  | 2 => .object "NoonTrains$Reader"
  | 3 => .object "NoonTrains$Scene"
  | 4 => .object "NoonTrains$Scene"
  | 5 => .object "NoonTrains$Scene"
  | 6 => .object "NoonTrains$Foresight"
  | 7 => .object "NoonTrains$Pursuit"
  | 8 => .object "NoonTrains$Rides"
  | _ => .int
theorem nmX7 : ∀ a, a < 10 → ∀ b, b < 10 → a ≠ b → (TX7 a).2.1 ≠ (TX7 b).2.1 := by decide +kernel
theorem tyX7_ok : ∀ k, k < 10 → parseFieldDescriptor (TX7 k).2.2.1 = some (tyX7 k) := by decide +kernel
abbrev cX7_init : ByteArray := prog_1_method_1_code
def yX7_init : MethodName := ⟨RX7, "<init>", "()V"⟩
abbrev cX7_write : ByteArray := prog_1_method_2_code
def yX7_write : MethodName := ⟨RX7, "write", "(JI)I"⟩
abbrev cX7_erase : ByteArray := prog_1_method_3_code
def yX7_erase : MethodName := ⟨RX7, "erase", "()I"⟩
abbrev cX7_fault : ByteArray := prog_1_method_4_code
def yX7_fault : MethodName := ⟨RX7, "fault", "()I"⟩
abbrev cX7_land : ByteArray := prog_1_method_5_code
def yX7_land : MethodName := ⟨RX7, "land", "()I"⟩
abbrev cX7_train : ByteArray := prog_1_method_6_code
def yX7_train : MethodName := ⟨RX7, "train", "(II)I"⟩
abbrev cX7_runs : ByteArray := prog_1_method_7_code
def yX7_runs : MethodName := ⟨RX7, "runs", "(II)I"⟩
abbrev cX7_as : ByteArray := prog_1_method_8_code
def yX7_as : MethodName := ⟨RX7, "as", "(II)I"⟩
abbrev cX7_isSuch : ByteArray := prog_1_method_9_code
def yX7_isSuch : MethodName := ⟨RX7, "isSuch", "(II)Z"⟩
abbrev cX7_ride : ByteArray := prog_1_method_10_code
def yX7_ride : MethodName := ⟨RX7, "ride", "(I)I"⟩
abbrev cX7_send : ByteArray := prog_1_method_11_code
def yX7_send : MethodName := ⟨RX7, "send", "(II)I"⟩
abbrev cX7_noon : ByteArray := prog_1_method_12_code
def yX7_noon : MethodName := ⟨RX7, "noon", "()I"⟩
abbrev cX7_he : ByteArray := prog_1_method_13_code
def yX7_he : MethodName := ⟨RX7, "he", "(I)I"⟩
abbrev cX7_seeker : ByteArray := prog_1_method_14_code
def yX7_seeker : MethodName := ⟨RX7, "seeker", "(I)I"⟩
abbrev cX7_may : ByteArray := prog_1_method_15_code
def yX7_may : MethodName := ⟨RX7, "may", "()I"⟩
abbrev cX7_way : ByteArray := prog_1_method_16_code
def yX7_way : MethodName := ⟨RX7, "way", "()I"⟩
abbrev cX7_next : ByteArray := prog_1_method_17_code
def yX7_next : MethodName := ⟨RX7, "next", "()I"⟩
abbrev cX7_letter : ByteArray := prog_1_method_18_code
def yX7_letter : MethodName := ⟨RX7, "letter", "()I"⟩
abbrev cX7_shut : ByteArray := prog_1_method_19_code
def yX7_shut : MethodName := ⟨RX7, "shut", "(I)I"⟩
abbrev cX7_hides : ByteArray := prog_1_method_20_code
def yX7_hides : MethodName := ⟨RX7, "hides", "(I)I"⟩
abbrev cX7_chase : ByteArray := prog_1_method_21_code
def yX7_chase : MethodName := ⟨RX7, "chase", "()I"⟩
abbrev cX7_closed : ByteArray := prog_1_method_22_code
def yX7_closed : MethodName := ⟨RX7, "closed", "(I)I"⟩
abbrev cX7_daysOrNone : ByteArray := prog_1_method_23_code
def yX7_daysOrNone : MethodName := ⟨RX7, "daysOrNone", "(I)I"⟩
abbrev cX7_log : ByteArray := prog_1_method_24_code
def yX7_log : MethodName := ⟨RX7, "log", "(I)I"⟩
abbrev cX7_burn : ByteArray := prog_1_method_25_code
def yX7_burn : MethodName := ⟨RX7, "burn", "()I"⟩
abbrev cX7_judge : ByteArray := prog_1_method_26_code
def yX7_judge : MethodName := ⟨RX7, "judge", "()I"⟩
abbrev cX7_late : ByteArray := prog_1_method_27_code
def yX7_late : MethodName := ⟨RX7, "late", "(III)J"⟩
abbrev cX7_keep : ByteArray := prog_1_method_28_code
def yX7_keep : MethodName := ⟨RX7, "keep", "(I)I"⟩
abbrev cX7_back : ByteArray := prog_1_method_29_code
def yX7_back : MethodName := ⟨RX7, "back", "(I)I"⟩
abbrev cX7_count : ByteArray := prog_1_method_30_code
def yX7_count : MethodName := ⟨RX7, "count", "(I)I"⟩
abbrev cX7_image : ByteArray := prog_1_method_31_code
def yX7_image : MethodName := ⟨RX7, "image", "(I)LNoonTrains$Scene;"⟩
abbrev cX7_isSeeker : ByteArray := prog_1_method_32_code
def yX7_isSeeker : MethodName := ⟨RX7, "isSeeker", "(I)Z"⟩
abbrev cX7_within : ByteArray := prog_1_method_33_code
def yX7_within : MethodName := ⟨RX7, "within", "(III)Z"⟩
abbrev cX7_hasBit : ByteArray := prog_1_method_34_code
def yX7_hasBit : MethodName := ⟨RX7, "hasBit", "(II)Z"⟩
abbrev cX7_commonDivisor : ByteArray := prog_1_method_35_code
def yX7_commonDivisor : MethodName := ⟨RX7, "commonDivisor", "(JJ)J"⟩
def RX8 : String := "NoonTrainsModel"
def TX8 : u_T := fun k => match k with
  | 0 => ("NoonTrainsModel", "row", "[I", true)
  | 1 => ("NoonTrainsModel", "isKept", "[Z", true)
  | 2 => ("NoonTrainsModel", "text", "[I", true)
  | 3 => ("NoonTrainsModel", "length", "I", false)
  | 4 => ("NoonTrainsModel", "read", "[I", true)
  | 5 => ("NoonTrainsModel", "readMany", "I", false)
  | 6 => ("NoonTrainsModel", "stations", "I", false)
  | 7 => ("NoonTrainsModel", "trains", "[I", true)
  | 8 => ("NoonTrainsModel", "trainMany", "I", false)
  | 9 => ("NoonTrainsModel", "start", "I", false)
  | 10 => ("NoonTrainsModel", "tickets", "[I", true)
  | 11 => ("NoonTrainsModel", "show", "I", false)
  | 12 => ("NoonTrainsModel", "seekers", "[I", true)
  | 13 => ("NoonTrainsModel", "at", "I", false)
  | 14 => ("NoonTrainsModel", "place", "I", false)
  | 15 => ("NoonTrainsModel", "end", "I", false)
  | 16 => ("NoonTrainsModel", "readStations", "I", false)
  | 17 => ("NoonTrainsModel", "readTrains", "I", false)
  | 18 => ("NoonTrainsModel", "nextMay", "I", false)
  | 19 => ("NoonTrainsModel", "nextWay", "I", false)
  | 20 => ("NoonTrainsModel", "least", "[I", true)
  | 21 => ("NoonTrainsModel", "logs", "[I", true)
  | 22 => ("NoonTrainsModel", "logMany", "I", false)
  | 23 => ("NoonTrainsModel", "purse", "[I", true)
  | 24 => ("NoonTrainsModel", "comes", "[J", true)
  | _ => ("NoonTrainsModel", "then", "[J", true)
def tyX8 : Nat → FieldType := fun k => match k with
  | 0 => .array .int
  | 1 => .array .boolean
  | 2 => .array .int
  | 3 => .int
  | 4 => .array .int
  | 5 => .int
  | 6 => .int
  | 7 => .array .int
  | 8 => .int
  | 9 => .int
  | 10 => .array .int
  | 11 => .int
  | 12 => .array .int
  | 13 => .int
  | 14 => .int
  | 15 => .int
  | 16 => .int
  | 17 => .int
  | 18 => .int
  | 19 => .int
  | 20 => .array .int
  | 21 => .array .int
  | 22 => .int
  | 23 => .array .int
  | 24 => .array .long
  | _ => .array .long
theorem nmX8 : ∀ a, a < 26 → ∀ b, b < 26 → a ≠ b → (TX8 a).2.1 ≠ (TX8 b).2.1 := by decide +kernel
theorem tyX8_ok : ∀ k, k < 26 → parseFieldDescriptor (TX8 k).2.2.1 = some (tyX8 k) := by decide +kernel
abbrev cX8_init : ByteArray := prog_10_method_1_code
def yX8_init : MethodName := ⟨RX8, "<init>", "()V"⟩
abbrev cX8_in : ByteArray := prog_10_method_2_code
def yX8_in : MethodName := ⟨RX8, "in", "(JJJ)Z"⟩
abbrev cX8_has : ByteArray := prog_10_method_3_code
def yX8_has : MethodName := ⟨RX8, "has", "(II)Z"⟩
abbrev cX8_begin : ByteArray := prog_10_method_4_code
def yX8_begin : MethodName := ⟨RX8, "begin", "()V"⟩
abbrev cX8_write : ByteArray := prog_10_method_5_code
def yX8_write : MethodName := ⟨RX8, "write", "(JI)I"⟩
abbrev cX8_erase : ByteArray := prog_10_method_6_code
def yX8_erase : MethodName := ⟨RX8, "erase", "()I"⟩
abbrev cX8_sort : ByteArray := prog_10_method_7_code
def yX8_sort : MethodName := ⟨RX8, "sort", "(I)I"⟩
abbrev cX8_token : ByteArray := prog_10_method_8_code
def yX8_token : MethodName := ⟨RX8, "token", "()V"⟩
abbrev cX8_isWord : ByteArray := prog_10_method_9_code
def yX8_isWord : MethodName := ⟨RX8, "isWord", "(JI)Z"⟩
abbrev cX8_wordOf : ByteArray := prog_10_method_10_code
def yX8_wordOf : MethodName := ⟨RX8, "wordOf", "()I"⟩
abbrev cX8_reads : ByteArray := prog_10_method_11_code
def yX8_reads : MethodName := ⟨RX8, "reads", "(IIII)Z"⟩
abbrev cX8_readsTrain : ByteArray := prog_10_method_12_code
def yX8_readsTrain : MethodName := ⟨RX8, "readsTrain", "()Z"⟩
abbrev cX8_readsRest : ByteArray := prog_10_method_13_code
def yX8_readsRest : MethodName := ⟨RX8, "readsRest", "(I)Z"⟩
abbrev cX8_readsLine : ByteArray := prog_10_method_14_code
def yX8_readsLine : MethodName := ⟨RX8, "readsLine", "()Z"⟩
abbrev cX8_fault : ByteArray := prog_10_method_15_code
def yX8_fault : MethodName := ⟨RX8, "fault", "()I"⟩
abbrev cX8_tell : ByteArray := prog_10_method_16_code
def yX8_tell : MethodName := ⟨RX8, "tell", "(I)V"⟩
abbrev cX8_land : ByteArray := prog_10_method_17_code
def yX8_land : MethodName := ⟨RX8, "land", "()I"⟩
abbrev cX8_isTrain : ByteArray := prog_10_method_18_code
def yX8_isTrain : MethodName := ⟨RX8, "isTrain", "(I)Z"⟩
abbrev cX8_isSeeker : ByteArray := prog_10_method_19_code
def yX8_isSeeker : MethodName := ⟨RX8, "isSeeker", "(I)Z"⟩
abbrev cX8_train : ByteArray := prog_10_method_20_code
def yX8_train : MethodName := ⟨RX8, "train", "(II)I"⟩
abbrev cX8_leaves : ByteArray := prog_10_method_21_code
def yX8_leaves : MethodName := ⟨RX8, "leaves", "(III)Z"⟩
abbrev cX8_runs : ByteArray := prog_10_method_22_code
def yX8_runs : MethodName := ⟨RX8, "runs", "(II)I"⟩
abbrev cX8_as : ByteArray := prog_10_method_23_code
def yX8_as : MethodName := ⟨RX8, "as", "(II)I"⟩
abbrev cX8_ridable : ByteArray := prog_10_method_24_code
def yX8_ridable : MethodName := ⟨RX8, "ridable", "(I)I"⟩
abbrev cX8_hisTrains : ByteArray := prog_10_method_25_code
def yX8_hisTrains : MethodName := ⟨RX8, "hisTrains", "()I"⟩
abbrev cX8_ride : ByteArray := prog_10_method_26_code
def yX8_ride : MethodName := ⟨RX8, "ride", "(I)I"⟩
abbrev cX8_send : ByteArray := prog_10_method_27_code
def yX8_send : MethodName := ⟨RX8, "send", "(II)I"⟩
abbrev cX8_layBy : ByteArray := prog_10_method_28_code
def yX8_layBy : MethodName := ⟨RX8, "layBy", "(I)V"⟩
abbrev cX8_layByNone : ByteArray := prog_10_method_29_code
def yX8_layByNone : MethodName := ⟨RX8, "layByNone", "()V"⟩
abbrev cX8_nextOf : ByteArray := prog_10_method_30_code
def yX8_nextOf : MethodName := ⟨RX8, "nextOf", "()I"⟩
abbrev cX8_noon : ByteArray := prog_10_method_31_code
def yX8_noon : MethodName := ⟨RX8, "noon", "()I"⟩
abbrev cX8_he : ByteArray := prog_10_method_32_code
def yX8_he : MethodName := ⟨RX8, "he", "(I)I"⟩
abbrev cX8_seeker : ByteArray := prog_10_method_33_code
def yX8_seeker : MethodName := ⟨RX8, "seeker", "(I)I"⟩
abbrev cX8_may : ByteArray := prog_10_method_34_code
def yX8_may : MethodName := ⟨RX8, "may", "()I"⟩
abbrev cX8_way : ByteArray := prog_10_method_35_code
def yX8_way : MethodName := ⟨RX8, "way", "()I"⟩
abbrev cX8_next : ByteArray := prog_10_method_36_code
def yX8_next : MethodName := ⟨RX8, "next", "()I"⟩
abbrev cX8_letter : ByteArray := prog_10_method_37_code
def yX8_letter : MethodName := ⟨RX8, "letter", "()I"⟩
abbrev cX8_bits : ByteArray := prog_10_method_38_code
def yX8_bits : MethodName := ⟨RX8, "bits", "(I)I"⟩
abbrev cX8_nightsFrom : ByteArray := prog_10_method_39_code
def yX8_nightsFrom : MethodName := ⟨RX8, "nightsFrom", "(III)I"⟩
abbrev cX8_reach : ByteArray := prog_10_method_40_code
def yX8_reach : MethodName := ⟨RX8, "reach", "(III)I"⟩
abbrev cX8_shut : ByteArray := prog_10_method_41_code
def yX8_shut : MethodName := ⟨RX8, "shut", "(I)I"⟩
abbrev cX8_hides : ByteArray := prog_10_method_42_code
def yX8_hides : MethodName := ⟨RX8, "hides", "(I)I"⟩
abbrev cX8_placeOf : ByteArray := prog_10_method_43_code
def yX8_placeOf : MethodName := ⟨RX8, "placeOf", "(IIII)I"⟩
abbrev cX8_worst : ByteArray := prog_10_method_44_code
def yX8_worst : MethodName := ⟨RX8, "worst", "(IIII)I"⟩
abbrev cX8_bestFrom : ByteArray := prog_10_method_45_code
def yX8_bestFrom : MethodName := ⟨RX8, "bestFrom", "(IIIII)I"⟩
abbrev cX8_chaseBy : ByteArray := prog_10_method_46_code
def yX8_chaseBy : MethodName := ⟨RX8, "chaseBy", "(I)I"⟩
abbrev cX8_isNoChase : ByteArray := prog_10_method_47_code
def yX8_isNoChase : MethodName := ⟨RX8, "isNoChase", "()Z"⟩
abbrev cX8_chase : ByteArray := prog_10_method_48_code
def yX8_chase : MethodName := ⟨RX8, "chase", "()I"⟩
abbrev cX8_closed : ByteArray := prog_10_method_49_code
def yX8_closed : MethodName := ⟨RX8, "closed", "(I)I"⟩
abbrev cX8_log : ByteArray := prog_10_method_50_code
def yX8_log : MethodName := ⟨RX8, "log", "(I)I"⟩
abbrev cX8_burn : ByteArray := prog_10_method_51_code
def yX8_burn : MethodName := ⟨RX8, "burn", "()I"⟩
abbrev cX8_judge : ByteArray := prog_10_method_52_code
def yX8_judge : MethodName := ⟨RX8, "judge", "()I"⟩
abbrev cX8_addThen : ByteArray := prog_10_method_53_code
def yX8_addThen : MethodName := ⟨RX8, "addThen", "(IJ)V"⟩
abbrev cX8_rideLate : ByteArray := prog_10_method_54_code
def yX8_rideLate : MethodName := ⟨RX8, "rideLate", "(II)V"⟩
abbrev cX8_divisor : ByteArray := prog_10_method_55_code
def yX8_divisor : MethodName := ⟨RX8, "divisor", "(JJ)J"⟩
abbrev cX8_late : ByteArray := prog_10_method_56_code
def yX8_late : MethodName := ⟨RX8, "late", "(III)J"⟩
abbrev cX8_copy : ByteArray := prog_10_method_57_code
def yX8_copy : MethodName := ⟨RX8, "copy", "(II)V"⟩
abbrev cX8_keep : ByteArray := prog_10_method_58_code
def yX8_keep : MethodName := ⟨RX8, "keep", "(I)I"⟩
abbrev cX8_back : ByteArray := prog_10_method_59_code
def yX8_back : MethodName := ⟨RX8, "back", "(I)I"⟩
abbrev cX8_count : ByteArray := prog_10_method_60_code
def yX8_count : MethodName := ⟨RX8, "count", "(I)I"⟩
def RJx145de : String := "java/io/Serializable"
def RJx9f9b0 : String := "java/lang/CharSequence"
def RJxb160c : String := "java/lang/Comparable"
def RJ6 : String := "java/lang/Integer"
abbrev cJ6_bitCount_0f7a4 : ByteArray := prog_11_method_49_code
def yJ6_bitCount_0f7a4 : MethodName := ⟨RJ6, "bitCount", "(I)I"⟩
def RJ9 : String := "java/lang/Math"
abbrev cJ9_max_7cf53 : ByteArray := prog_12_method_65_code
def yJ9_max_7cf53 : MethodName := ⟨RJ9, "max", "(II)I"⟩
abbrev cJ9_min_7cf53 : ByteArray := prog_12_method_69_code
def yJ9_min_7cf53 : MethodName := ⟨RJ9, "min", "(II)I"⟩
def RJ0 : String := "java/lang/String"
abbrev cJ0_length_8abf5 : ByteArray := prog_13_method_54_code
def yJ0_length_8abf5 : MethodName := ⟨RJ0, "length", "()I"⟩
abbrev cJ0_charAt_5068e : ByteArray := prog_13_method_56_code
def yJ0_charAt_5068e : MethodName := ⟨RJ0, "charAt", "(I)C"⟩
abbrev cJ0_coder_7d493 : ByteArray := prog_13_method_152_code
def yJ0_coder_7d493 : MethodName := ⟨RJ0, "coder", "()B"⟩
abbrev cJ0_isLatin1_aae02 : ByteArray := prog_13_method_154_code
def yJ0_isLatin1_aae02 : MethodName := ⟨RJ0, "isLatin1", "()Z"⟩
abbrev cJ0_checkIndex_df160 : ByteArray := prog_13_method_155_code
def yJ0_checkIndex_df160 : MethodName := ⟨RJ0, "checkIndex", "(II)V"⟩
def RJ1 : String := "java/lang/StringLatin1"
abbrev cJ1_charAt_3b067 : ByteArray := prog_14_method_2_code
def yJ1_charAt_3b067 : MethodName := ⟨RJ1, "charAt", "([BI)C"⟩
def RJ2 : String := "java/lang/StringUTF16"
abbrev cJ2_getChar_3b067 : ByteArray := prog_15_method_5_code
def yJ2_getChar_3b067 : MethodName := ⟨RJ2, "getChar", "([BI)C"⟩
abbrev cJ2_length_9d52b : ByteArray := prog_15_method_6_code
def yJ2_length_9d52b : MethodName := ⟨RJ2, "length", "([B)I"⟩
abbrev cJ2_charAt_3b067 : ByteArray := prog_15_method_83_code
def yJ2_charAt_3b067 : MethodName := ⟨RJ2, "charAt", "([BI)C"⟩
abbrev cJ2_checkIndex_2214a : ByteArray := prog_15_method_91_code
def yJ2_checkIndex_2214a : MethodName := ⟨RJ2, "checkIndex", "(I[B)V"⟩
def RJ10 : String := "java/lang/System"
def RJxfd54e : String := "java/lang/constant/Constable"
def RJx3cf43 : String := "java/lang/constant/ConstantDesc"
def RJ7 : String := "java/util/Arrays"
abbrev cJ7_fill_d0a16 : ByteArray := prog_17_method_101_code
def yJ7_fill_d0a16 : MethodName := ⟨RJ7, "fill", "([JJ)V"⟩
abbrev cJ7_fill_53178 : ByteArray := prog_17_method_103_code
def yJ7_fill_53178 : MethodName := ⟨RJ7, "fill", "([II)V"⟩
def RJ3 : String := "jdk/internal/util/Preconditions"
abbrev cJ3_checkIndex_8e157 : ByteArray := prog_18_method_11_code
def yJ3_checkIndex_8e157 : MethodName := ⟨RJ3, "checkIndex", "(IILjava/util/function/BiFunction;)I"⟩
def RL : String := "NoonTrainsLaw"
abbrev cL_law : ByteArray := code
def yL_law : MethodName := ⟨RL, "law", "([I)Z"⟩
abbrev vwCl : List vw_C := [(RX0, TX0, 6), (RX1, TX1, 7), (RX2, TX2, 10), (RX3, TX3, 7), (RX4, TX4, 6), (RX5, TX5, 12), (RX6, TX6, 2), (RX7, TX7, 10), (RX8, TX8, 26)]
end
section
/-! The world: fifty cells at addresses gA g; numbers in w.1 (cell, slot or place), longs in w.2 -/
abbrev Wd : Type := (Nat → Nat → Int32) × (Nat → Nat → Int64)
/-- class ids and slots; array classes (int, char, long, boolean); addresses of the cells; of the string constants; of their bytes -/
abbrev GG : Type := va_G × (ClassId × ClassId × ClassId × ClassId) × (Nat → Nat) × (Nat → Nat) × (Nat → Nat)
def gD (g : GG) : va_G := g.1
def gA (g : GG) : Nat → Nat := g.2.2.1
def gK (g : GG) : Nat → Nat := g.2.2.2.1
def gV (g : GG) : Nat → Nat := g.2.2.2.2
def tyl (g : GG) : List (ClassId × FieldType) := [(g.2.1.1, .int), (g.2.1.2.1, .char), (g.2.1.2.2.1, .long), (g.2.1.2.2.2, .boolean)]
def cellE (g : GG) (w : Wd) : Nat → va_E
  | 0 => .inr (7, [.ref (gA g 1), .ref (gA g 3), .ref (gA g 7), .ref (gA g 13), .ref (gA g 17), .ref (gA g 21), .ref (gA g 25), .ref (gA g 26), .ref (gA g 32), .int (w.1 0 9)])
  | 1 => .inr (6, [.ref (gA g 2), .int (w.1 1 1)])
  | 2 => .inl (g.2.1.2.1, 200, .inl (w.1 2))
  | 3 => .inr (1, [.int (w.1 3 0), .int (w.1 3 1), .int (w.1 3 2), .int (w.1 3 3), .ref (gA g 4), .ref (gA g 5), .ref (gA g 6)])
  | 4 => .inl (g.2.1.1, 72, .inl (w.1 4))
  | 5 => .inl (g.2.1.1, 3, .inl (w.1 5))
  | 6 => .inl (g.2.1.1, 2, .inl (w.1 6))
  | 7 => .inr (3, [.ref (gA g 1), .ref (gA g 8), .int (w.1 7 2), .ref (gA g 12), .int (w.1 7 4), .int (w.1 7 5), .int (w.1 7 6)])
  | 8 => .inr (1, [.int (w.1 8 0), .int (w.1 8 1), .int (w.1 8 2), .int (w.1 8 3), .ref (gA g 9), .ref (gA g 10), .ref (gA g 11)])
  | 9 => .inl (g.2.1.1, 72, .inl (w.1 9))
  | 10 => .inl (g.2.1.1, 3, .inl (w.1 10))
  | 11 => .inl (g.2.1.1, 2, .inl (w.1 11))
  | 12 => .inl (g.2.1.1, 6, .inl (w.1 12))
  | 13 => .inr (5, [.ref (gA g 3), .int (w.1 13 1), .int (w.1 13 2), .int (w.1 13 3), .int (w.1 13 4), .int (w.1 13 5), .ref (gA g 14), .ref (gA g 15), .ref (gA g 16), .int (w.1 13 9), .int (w.1 13 10), .int (w.1 13 11)])
  | 14 => .inl (g.2.1.1, 3, .inl (w.1 14))
  | 15 => .inl (g.2.1.1, 2, .inl (w.1 15))
  | 16 => .inl (g.2.1.1, 2, .inl (w.1 16))
  | 17 => .inr (5, [.ref (gA g 3), .int (w.1 17 1), .int (w.1 17 2), .int (w.1 17 3), .int (w.1 17 4), .int (w.1 17 5), .ref (gA g 18), .ref (gA g 19), .ref (gA g 20), .int (w.1 17 9), .int (w.1 17 10), .int (w.1 17 11)])
  | 18 => .inl (g.2.1.1, 3, .inl (w.1 18))
  | 19 => .inl (g.2.1.1, 2, .inl (w.1 19))
  | 20 => .inl (g.2.1.1, 2, .inl (w.1 20))
  | 21 => .inr (5, [.ref (gA g 3), .int (w.1 21 1), .int (w.1 21 2), .int (w.1 21 3), .int (w.1 21 4), .int (w.1 21 5), .ref (gA g 22), .ref (gA g 23), .ref (gA g 24), .int (w.1 21 9), .int (w.1 21 10), .int (w.1 21 11)])
  | 22 => .inl (g.2.1.1, 3, .inl (w.1 22))
  | 23 => .inl (g.2.1.1, 2, .inl (w.1 23))
  | 24 => .inl (g.2.1.1, 2, .inl (w.1 24))
  | 25 => .inr (0, [.ref (gA g 3), .ref (gA g 13), .int (w.1 25 2), .int (w.1 25 3), .int (w.1 25 4), .int (w.1 25 5)])
  | 26 => .inr (2, [.ref (gA g 3), .ref (gA g 13), .ref (gA g 27), .ref (gA g 28), .ref (gA g 29), .ref (gA g 30), .ref (gA g 31), .int (w.1 26 7), .int (w.1 26 8), .int (w.1 26 9)])
  | 27 => .inl (g.2.1.1, 448, .inl (w.1 27))
  | 28 => .inl (g.2.1.1, 448, .inl (w.1 28))
  | 29 => .inl (g.2.1.1, 448, .inl (w.1 29))
  | 30 => .inl (g.2.1.1, 12, .inl (w.1 30))
  | 31 => .inl (g.2.1.1, 12, .inl (w.1 31))
  | 32 => .inr (4, [.ref (gA g 3), .ref (gA g 33), .int (w.1 32 2), .ref (gA g 34), .ref (gA g 35), .ref (gA g 36)])
  | 33 => .inl (g.2.1.1, 12, .inl (w.1 33))
  | 34 => .inl (g.2.1.1, 3, .inl (w.1 34))
  | 35 => .inl (g.2.1.2.2.1, 41, .inr (.inl (w.2 35)))
  | 36 => .inl (g.2.1.2.2.1, 41, .inr (.inl (w.2 36)))
  | 37 => .inr (8, [.ref (gA g 38), .ref (gA g 39), .ref (gA g 40), .int (w.1 37 3), .ref (gA g 41), .int (w.1 37 5), .int (w.1 37 6), .ref (gA g 42), .int (w.1 37 8), .int (w.1 37 9), .ref (gA g 43), .int (w.1 37 11), .ref (gA g 44), .int (w.1 37 13), .int (w.1 37 14), .int (w.1 37 15), .int (w.1 37 16), .int (w.1 37 17), .int (w.1 37 18), .int (w.1 37 19), .ref (gA g 45), .ref (gA g 46), .int (w.1 37 22), .ref (gA g 47), .ref (gA g 48), .ref (gA g 49)])
  | 38 => .inl (g.2.1.1, 45, .inl (w.1 38))
  | 39 => .inl (g.2.1.2.2.2, 2, .inl (w.1 39))
  | 40 => .inl (g.2.1.1, 200, .inl (w.1 40))
  | 41 => .inl (g.2.1.1, 70, .inl (w.1 41))
  | 42 => .inl (g.2.1.1, 72, .inl (w.1 42))
  | 43 => .inl (g.2.1.1, 3, .inl (w.1 43))
  | 44 => .inl (g.2.1.1, 2, .inl (w.1 44))
  | 45 => .inl (g.2.1.1, 6656, .inl (w.1 45))
  | 46 => .inl (g.2.1.1, 12, .inl (w.1 46))
  | 47 => .inl (g.2.1.1, 3, .inl (w.1 47))
  | 48 => .inl (g.2.1.2.2.1, 41, .inr (.inl (w.2 48)))
  | 49 => .inl (g.2.1.2.2.1, 41, .inr (.inl (w.2 49)))
  | _ => .inr (0, [])
/-- a number, a long set -/
def sI (w : Wd) (c k : Nat) (v : Int32) : Wd := (fun a => if a = c then upd (w.1 a) k v else w.1 a, w.2)
def sJ (w : Wd) (c k : Nat) (v : Int64) : Wd := (w.1, fun a => if a = c then vp_updL (w.2 a) k v else w.2 a)
def cI (w : Wd) (src sp dst dp n : Nat) : Wd := (fun a => if a = dst then va_cpy (w.1 src) (w.1 dst) sp dp n else w.1 a, w.2)
def cJ (w : Wd) (src sp dst dp n : Nat) : Wd := (w.1, fun a => if a = dst then va_cpy (w.2 src) (w.2 dst) sp dp n else w.2 a)
theorem sI_1 (w : Wd) (c k : Nat) (v : Int32) (a b : Nat) : (sI w c k v).1 a b = if a = c ∧ b = k then v else w.1 a b := by
  unfold sI
  by_cases h : a = c
  · by_cases h2 : b = k <;> simp [h, h2, upd]
  · simp [h]
theorem sI_2 (w : Wd) (c k : Nat) (v : Int32) : (sI w c k v).2 = w.2 := rfl
theorem sJ_1 (w : Wd) (c k : Nat) (v : Int64) : (sJ w c k v).1 = w.1 := rfl
theorem sJ_2 (w : Wd) (c k : Nat) (v : Int64) (a b : Nat) : (sJ w c k v).2 a b = if a = c ∧ b = k then v else w.2 a b := by
  unfold sJ
  by_cases h : a = c
  · by_cases h2 : b = k <;> simp [h, h2, vp_updL]
  · simp [h]
theorem cI_1 (w : Wd) (src sp dst dp n a b : Nat) : (cI w src sp dst dp n).1 a b = if a = dst ∧ dp ≤ b ∧ b < dp + n then w.1 src (sp + (b - dp)) else w.1 a b := by
  unfold cI
  by_cases h : a = dst
  · by_cases h2 : dp ≤ b ∧ b < dp + n <;> simp [h, h2, va_cpy]
  · simp [h]
theorem cI_2 (w : Wd) (src sp dst dp n : Nat) : (cI w src sp dst dp n).2 = w.2 := rfl
theorem cJ_1 (w : Wd) (src sp dst dp n : Nat) : (cJ w src sp dst dp n).1 = w.1 := rfl
theorem cJ_2 (w : Wd) (src sp dst dp n a b : Nat) : (cJ w src sp dst dp n).2 a b = if a = dst ∧ dp ≤ b ∧ b < dp + n then w.2 src (sp + (b - dp)) else w.2 a b := by
  unfold cJ
  by_cases h : a = dst
  · by_cases h2 : dp ≤ b ∧ b < dp + n <;> simp [h, h2, va_cpy]
  · simp [h]
theorem cellE_congr {g : GG} {w w' : Wd} {c : Nat} (h1 : w'.1 c = w.1 c) (h2 : w'.2 c = w.2 c) : cellE g w' c = cellE g w c := by
  unfold cellE
  split <;> simp_all
theorem cellE_sI {g : GG} {w : Wd} {c k a : Nat} {v : Int32} (h : a ≠ c) : cellE g (sI w c k v) a = cellE g w a := cellE_congr (if_neg h) rfl
theorem cellE_sJ {g : GG} {w : Wd} {c k a : Nat} {v : Int64} (h : a ≠ c) : cellE g (sJ w c k v) a = cellE g w a := cellE_congr rfl (if_neg h)
theorem cellE_cI {g : GG} {w : Wd} {src sp dst dp n a : Nat} (h : a ≠ dst) : cellE g (cI w src sp dst dp n) a = cellE g w a := cellE_congr (if_neg h) rfl
theorem cellE_cJ {g : GG} {w : Wd} {src sp dst dp n a : Nat} (h : a ≠ dst) : cellE g (cJ w src sp dst dp n) a = cellE g w a := cellE_congr rfl (if_neg h)
/-- the class's side (true) or the reference's, and the other side's world -/
abbrev Sd : Type := Bool × Wd
def EE (g : GG) (σ : Sd) (w : Wd) : va_W := (List.range 50).map (fun c => (gA g c, if decide (c < 37) = σ.1 then cellE g w c else cellE g σ.2 c))
def AD (g : GG) : Nat → Prop := fun q => ∃ c, c < 50 ∧ q = gA g c
def OKg (g : GG) : Prop := ∀ i j, i < 50 → j < 50 → gA g i = gA g j → i = j
theorem EE_at {g : GG} {σ : Sd} {w : Wd} {c : Nat} (hc : c < 50) : (EE g σ w)[c]? = some (gA g c, if decide (c < 37) = σ.1 then cellE g w c else cellE g σ.2 c) := by
  unfold EE
  rw [List.getElem?_map, List.getElem?_range hc]
  rfl
theorem EE_get {g : GG} {σ : Sd} {w : Wd} {c : Nat} (hc : c < 50) (hs : decide (c < 37) = σ.1) : (EE g σ w)[c]? = some (gA g c, cellE g w c) := by
  rw [EE_at hc, if_pos hs]
theorem EE_len {g : GG} {σ : Sd} {w : Wd} : (EE g σ w).length = 50 := by simp [EE]
theorem EE_set {g : GG} {σ : Sd} {w w' : Wd} {c : Nat} (hc : c < 50) (hs : decide (c < 37) = σ.1) (h : ∀ a, a ≠ c → cellE g w' a = cellE g w a) : (EE g σ w).set c (gA g c, cellE g w' c) = EE g σ w' := by
  apply List.ext_getElem?
  intro k
  by_cases hk : k = c
  · subst hk
    rw [List.getElem?_set_self (by rw [EE_len]; exact hc), EE_get hc hs]
  · rw [List.getElem?_set_ne (Ne.symm hk)]
    by_cases h50 : k < 50
    · rw [EE_at h50, EE_at h50, h k hk]
    · rw [List.getElem?_eq_none (by rw [EE_len]; omega), List.getElem?_eq_none (by rw [EE_len]; omega)]
theorem EE_D {g : GG} (hg : OKg g) {σ : Sd} {w : Wd} : va_D (AD g) (EE g σ w) := by
  have key : ∀ (k : Nat) (q : Nat × va_E), (EE g σ w)[k]? = some q → k < 50 ∧ q.1 = gA g k := by
    intro k q hq
    have hk : k < 50 := by
      have := (List.getElem?_eq_some_iff.mp hq).1
      rwa [EE_len] at this
    rw [EE_at hk] at hq
    cases hq
    exact ⟨hk, rfl⟩
  refine ⟨fun i j p q hi hj hpq => ?_, fun k q hk => ?_⟩
  · obtain ⟨a1, a2⟩ := key i p hi
    obtain ⟨b1, b2⟩ := key j q hj
    exact hg i j a1 b1 (by rw [← a2, ← b2]; exact hpq)
  · obtain ⟨a1, a2⟩ := key k q hk
    exact ⟨k, a1, a2⟩
/-- string constants of the reader, in their order -/
def sLen : List Nat := [4, 5, 5, 7, 4, 6]
def sByt : List (List Int32) := [[108, 97, 110, 100], [116, 114, 97, 105, 110], [115, 116, 97, 114, 116], [116, 105, 99, 107, 101, 116, 115], [115, 104, 111, 119], [115, 101, 101, 107, 101, 114]]
def sIdx : List Nat := [86, 92, 94, 96, 98, 100]
def sTxt : List String := ["land", "train", "start", "tickets", "show", "seeker"]
def SK (g : GG) (U : State) (H : Heap) : Prop := vk_S 6 sLen sByt (gK g) (gV g) (AD g) U H ∧ (∀ i, i < 6 → vk_R RX3 (sIdx.getD i 0) (sTxt.getD i "") (gK g i) U) ∧ va_Z "java/lang/String" "COMPACT_STRINGS" "Z" (.int 1) (AD g) U H ∧ va_Zq "jdk/internal/util/Preconditions" "SIOOBE_FORMATTER" "Ljava/util/function/BiFunction;" (AD g) U H
theorem SK.warm {g : GG} {s U : State} {H : Heap} (hW : s.WarmedH U.vm) (h : SK g s H) : SK g U H := ⟨h.1.moved hW.alike, fun i hi => (h.2.1 i hi).warm hW, h.2.2.1.moved hW.alike, h.2.2.2.moved hW.alike⟩
theorem SK.same {g : GG} {u U : State} {H : Heap} (hv : U.vm = u.vm) (h : SK g u H) : SK g U H := ⟨h.1.moved (by rw [hv]; exact Vm.Alike.refl _), fun i hi => (h.2.1 i hi).same hv, h.2.2.1.moved (by rw [hv]; exact Vm.Alike.refl _), h.2.2.2.moved (by rw [hv]; exact Vm.Alike.refl _)⟩
theorem SK.kept {g : GG} {U : State} {H H1 : Heap} (h : SK g U H) (hq : ∀ a : Nat, a < H.size → ¬ AD g a → H1[a]? = H[a]?) : SK g U H1 := ⟨h.1.kept hq, h.2.1, h.2.2.1.kept hq, h.2.2.2.kept hq⟩
/-- the words of nest mates -/
def nstF : List (String × Nat × String × String × String) := [(RX5, 44, RX1, "tickets", "[I"), (RX4, 37, RX1, "tickets", "[I"), (RX5, 51, RX1, "seekers", "[I")]
def nstM : List (String × Nat × MethodName) := [(RX7, 11, yX6_init), (RX7, 18, yX1_init), (RX3, 11, yX1_init), (RX0, 42, yX7_hasBit), (RX1, 46, yX7_within), (RX1, 50, yX7_isSeeker), (RX1, 65, yX7_hasBit), (RX2, 96, yX7_within), (RX3, 118, yX7_isSeeker), (RX3, 83, yX7_within), (RX4, 33, yX7_within), (RX5, 80, yX7_within), (RX5, 95, yX7_isSeeker), (RX6, 19, yX7_within)]
def Nst (U : State) : Prop := (∀ q ∈ nstF, va_Nw (.fieldLinkNest q.1 q.2.1 q.2.2.1 q.2.2.2.1 q.2.2.2.2 RX7) U) ∧ ∀ q ∈ nstM, va_Nw (.methodLinkNest q.1 q.2.1 q.2.2 RX7) U
theorem Nst.warm {s U : State} (hW : s.WarmedH U.vm) (h : Nst s) : Nst U := ⟨fun q hq => (h.1 q hq).warmF hW, fun q hq => (h.2 q hq).warmM hW⟩
theorem Nst.same {u U : State} (hv : u.vm = U.vm) (h : Nst u) : Nst U := ⟨fun q hq => (h.1 q hq).same rfl hv, fun q hq => (h.2 q hq).same rfl hv⟩
/-- the good words of the tables -/
def TB : List Cond := lw_tbl.filter goodWord
theorem tb_of {w : Cond} (i : Nat) (h : lw_tbl[i]? = some w) (hg : goodWord w = true) : w ∈ TB := List.mem_filter.mpr ⟨List.mem_of_getElem? h, hg⟩
theorem tb_good {ws : List Cond} (h : ∀ w ∈ ws, w ∈ TB) : GoodIn TB ws := fun w hw => ⟨h w hw, good_of_word (List.mem_filter.mp (h w hw)).2⟩
theorem tb_code {y : MethodName} {cc : ByteArray} {n : Nat} {r : Option FieldType} (h : Cond.code y cc n r ∈ TB) : GoodIn TB (.code y cc n r :: TB) := tb_good (fun w hw => (List.mem_cons.mp hw).elim (fun e => e ▸ h) id)
/-- what a state holds -/
def HD (g : GG) (σ : Sd) (w : Wd) (U : State) : Prop := va_P (gD g) vwCl (EE g σ w) U.heap ∧ va_K (gD g) vwCl (tyl g) U ∧ Nst U ∧ SK g U U.heap
def QQ (g : GG) (σ : Sd) (r : Option Value) (w' : Wd) : Array Value → State → Outcome → State → Prop := fun _ st o t => o = .returned r ∧ va_P (gD g) vwCl (EE g σ w') t.heap ∧ va_F (AD g) st t
/-- a contract: with these arguments, in this world, it answers r and leaves the world w' -/
def CT (l : Launch) (g : GG) (σ : Sd) (y : MethodName) (cc : ByteArray) (nL : Nat) (ret : Option FieldType) (fr lo : Nat) (av : List Value) (w : Wd) (r : Option Value) (w' : Wd) : Prop :=
  Met l y (.code y cc nL ret :: TB) { frames := fr, cells := 0, slots := 0, locals := lo } (va_Pc av (fun U => HD g σ w U)) (QQ g σ r w') 0 0 (AD g)
theorem HD_blind {g : GG} {σ : Sd} {w : Wd} {av : List Value} : FrameBlind (va_Pc av (fun U => HD g σ w U)) := by
  intro a U f mk h
  obtain ⟨h0, hP, hK, hN, hS⟩ := h
  exact ⟨h0, hP, va_K.moved (u := U) (U := U.calling f mk a) (Vm.Alike.refl U.vm) hK, hN.same rfl, SK.same (u := U) (U := U.calling f mk a) rfl hS⟩
abbrev Ctx : Type := Program × Launch × Env × Room × State × MethodId × Array Value × List Frame × Method × Code × GG × Sd
/-- at pc, with locals lv and stack st, in world w, the method goes on to what 'res' says (if it says something) -/
def N (K : Ctx) {ρ : Type} (rt : ρ → Option Value × Wd) (res : Option ρ) (w : Wd) (pc : Nat) (lv : List (Nat × Value)) (st : List Value) : Prop :=
  match K with
  | (p, l, e, R, s, m, args, below, meth, c, g, σ) => ∀ q, res = some q → ∀ (H : Heap) (locs : List Loc) (ls : Array Slot), va_P (gD g) vwCl (EE g σ w) H → va_S (AD g) s.heap H locs → lv_has ls c.maxLocals lv →
    W p l e R s m args below meth c H locs 0 0 (MQ below (QQ g σ (rt q).1 (rt q).2) args s 0 0 (AD g)) (F0 m pc ls st)
/-- what is fixed in a method's body -/
def Fx (K : Ctx) (cc : ByteArray) (nL : Nat) (own : String) (ret : Option FieldType) (fr lo : Nat) (b : Bool) : Prop :=
  match K with
  | (p, _, _, R, s, m, args, _, meth, c, g, σ) => p.tables.exec = Jvm.exec ∧ c.code = cc ∧ c.maxLocals = nL ∧ s.vm.findClass own = some m.cls ∧ (∀ w ∈ TB, w.before args s = true) ∧ va_K (gD g) vwCl (tyl g) s ∧ Nst s ∧ SK g s s.heap ∧ OKg g ∧ meth.locks = false ∧ meth.sig.returnType = ret ∧ R = { frames := fr, cells := 0, slots := 0, locals := lo } ∧ σ.1 = b
/-- a method's body gives its contract -/
theorem ct_of {l : Launch} {g : GG} {σ : Sd} {y : MethodName} {cc : ByteArray} {nL : Nat} {ret : Option FieldType} {fr lo : Nat} {av : List Value} {w : Wd} {ρ : Type} {rt : ρ → Option Value × Wd} {res : Option ρ} {q : ρ} {own : String} {b : Bool} (hg : OKg g) (hb : σ.1 = b) (hy : plainName y.cls = true) (ho : y.cls = own) (hn : (lg_sl av).length ≤ nL) (hq : res = some q)
    (body : ∀ K : Ctx, K.2.2.2.2.2.2.2.2.2.2.1 = g → K.2.2.2.2.2.2.2.2.2.2.2 = σ → K.2.1 = l → Fx K cc nL own ret fr lo b → N K rt res w 0 (lv_args 0 av) []) : CT l g σ y cc nL ret fr lo av w (rt q).1 (rt q).2 := by
  refine Met.ofW (cc := cc) (maxL := nL) (ret := ret) hy rfl ?_
  intro p e s m args below meth c s₁ B hml hv
  obtain ⟨rfl, hP, hK, hN, hS⟩ := hv
  have hts := atoms_spec (ws := Cond.code y cc nL ret :: TB) B.pre
  have hown : s.vm.findClass own = some m.cls := ho ▸ findClass_of_methodNamed B.named
  have hl := lv_entry av (n := nL) hn
  rw [lg_entry_eq]
  exact body (p, l, e, _, s, m, _, below, meth, c, g, σ) rfl rfl rfl ⟨B.exec, B.bytes, hml, hown, fun w hw => hts w (List.mem_cons_of_mem _ hw), hK, hN, hS, hg, B.notSynchronized, B.returns, rfl, hb⟩ q hq s.heap [] _ hP va_S.rf (by rw [hml]; exact hl)
end
