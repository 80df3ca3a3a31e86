section
-- ===== PART A: goes FIRST, ahead of the names: the tables' words, and 'selects' of the private methods out of them =====
/-- a private method of a class that the tables say can be made, by its rows of tables_1 -/
def lw_okq (q : MethodName × Nat) : Prop := (q.1.cls ≠ "java/lang/invoke/MethodHandle" ∧ q.1.cls ≠ "java/lang/invoke/VarHandle") ∧ Cond.instantiable q.1.cls q.2 ∈ tables_1 ∧ Cond.privateMethod q.1 ∈ tables_1 ∧ Cond.instanceMethod q.1 ∈ tables_1
theorem lw_p0 : lw_okq (⟨"NoonTrains$Scene", "forgetToday", "()V"⟩, 12) := ⟨⟨by decide +kernel, by decide +kernel⟩, List.mem_of_getElem? (i := 119) (by decide +kernel), List.mem_of_getElem? (i := 132) (by decide +kernel), List.mem_of_getElem? (i := 133) (by decide +kernel)⟩
theorem lw_p1 : lw_okq (⟨"NoonTrains$Scene", "isWithSeeker", "()Z"⟩, 12) := ⟨⟨by decide +kernel, by decide +kernel⟩, List.mem_of_getElem? (i := 119) (by decide +kernel), List.mem_of_getElem? (i := 139) (by decide +kernel), List.mem_of_getElem? (i := 140) (by decide +kernel)⟩
theorem lw_p2 : lw_okq (⟨"NoonTrains$Reader", "readLine", "()Z"⟩, 7) := ⟨⟨by decide +kernel, by decide +kernel⟩, List.mem_of_getElem? (i := 87) (by decide +kernel), List.mem_of_getElem? (i := 352) (by decide +kernel), List.mem_of_getElem? (i := 353) (by decide +kernel)⟩
theorem lw_p3 : lw_okq (⟨"NoonTrains$Reader", "step", "()V"⟩, 7) := ⟨⟨by decide +kernel, by decide +kernel⟩, List.mem_of_getElem? (i := 87) (by decide +kernel), List.mem_of_getElem? (i := 356) (by decide +kernel), List.mem_of_getElem? (i := 357) (by decide +kernel)⟩
theorem lw_p4 : lw_okq (⟨"NoonTrains$Reader", "sortAt", "(I)I"⟩, 7) := ⟨⟨by decide +kernel, by decide +kernel⟩, List.mem_of_getElem? (i := 87) (by decide +kernel), List.mem_of_getElem? (i := 364) (by decide +kernel), List.mem_of_getElem? (i := 365) (by decide +kernel)⟩
theorem lw_p5 : lw_okq (⟨"NoonTrains$Reader", "lineOfWord", "()I"⟩, 7) := ⟨⟨by decide +kernel, by decide +kernel⟩, List.mem_of_getElem? (i := 87) (by decide +kernel), List.mem_of_getElem? (i := 369) (by decide +kernel), List.mem_of_getElem? (i := 370) (by decide +kernel)⟩
theorem lw_p6 : lw_okq (⟨"NoonTrains$Reader", "spells", "(Ljava/lang/String;)Z"⟩, 7) := ⟨⟨by decide +kernel, by decide +kernel⟩, List.mem_of_getElem? (i := 87) (by decide +kernel), List.mem_of_getElem? (i := 374) (by decide +kernel), List.mem_of_getElem? (i := 375) (by decide +kernel)⟩
theorem lw_p7 : lw_okq (⟨"NoonTrains$Reader", "tokenValue", "()I"⟩, 7) := ⟨⟨by decide +kernel, by decide +kernel⟩, List.mem_of_getElem? (i := 87) (by decide +kernel), List.mem_of_getElem? (i := 438) (by decide +kernel), List.mem_of_getElem? (i := 439) (by decide +kernel)⟩
theorem lw_p8 : lw_okq (⟨"NoonTrains$Reader", "fits", "(III)Z"⟩, 7) := ⟨⟨by decide +kernel, by decide +kernel⟩, List.mem_of_getElem? (i := 87) (by decide +kernel), List.mem_of_getElem? (i := 442) (by decide +kernel), List.mem_of_getElem? (i := 443) (by decide +kernel)⟩
theorem lw_p9 : lw_okq (⟨"NoonTrains$Reader", "fitsTrain", "(II)Z"⟩, 7) := ⟨⟨by decide +kernel, by decide +kernel⟩, List.mem_of_getElem? (i := 87) (by decide +kernel), List.mem_of_getElem? (i := 446) (by decide +kernel), List.mem_of_getElem? (i := 447) (by decide +kernel)⟩
theorem lw_p10 : lw_okq (⟨"NoonTrains$Reader", "draw", "(I)V"⟩, 7) := ⟨⟨by decide +kernel, by decide +kernel⟩, List.mem_of_getElem? (i := 87) (by decide +kernel), List.mem_of_getElem? (i := 457) (by decide +kernel), List.mem_of_getElem? (i := 458) (by decide +kernel)⟩
theorem lw_p11 : lw_okq (⟨"NoonTrains$Reader", "drawTrain", "()V"⟩, 7) := ⟨⟨by decide +kernel, by decide +kernel⟩, List.mem_of_getElem? (i := 87) (by decide +kernel), List.mem_of_getElem? (i := 466) (by decide +kernel), List.mem_of_getElem? (i := 467) (by decide +kernel)⟩
theorem lw_p12 : lw_okq (⟨"NoonTrains", "isSuch", "(II)Z"⟩, 10) := ⟨⟨by decide +kernel, by decide +kernel⟩, List.mem_of_getElem? (i := 19) (by decide +kernel), List.mem_of_getElem? (i := 528) (by decide +kernel), List.mem_of_getElem? (i := 529) (by decide +kernel)⟩
theorem lw_p13 : lw_okq (⟨"NoonTrains$Scene", "learnTicket", "()V"⟩, 12) := ⟨⟨by decide +kernel, by decide +kernel⟩, List.mem_of_getElem? (i := 119) (by decide +kernel), List.mem_of_getElem? (i := 586) (by decide +kernel), List.mem_of_getElem? (i := 587) (by decide +kernel)⟩
theorem lw_p14 : lw_okq (⟨"NoonTrains$Scene", "moveHim", "()V"⟩, 12) := ⟨⟨by decide +kernel, by decide +kernel⟩, List.mem_of_getElem? (i := 119) (by decide +kernel), List.mem_of_getElem? (i := 590) (by decide +kernel), List.mem_of_getElem? (i := 591) (by decide +kernel)⟩
theorem lw_p15 : lw_okq (⟨"NoonTrains$Scene", "learnPlaces", "()V"⟩, 12) := ⟨⟨by decide +kernel, by decide +kernel⟩, List.mem_of_getElem? (i := 119) (by decide +kernel), List.mem_of_getElem? (i := 595) (by decide +kernel), List.mem_of_getElem? (i := 596) (by decide +kernel)⟩
def lw_privs_1 : List (MethodName × Nat) := [(⟨"NoonTrains$Scene", "forgetToday", "()V"⟩, 12), (⟨"NoonTrains$Scene", "isWithSeeker", "()Z"⟩, 12), (⟨"NoonTrains$Reader", "readLine", "()Z"⟩, 7), (⟨"NoonTrains$Reader", "step", "()V"⟩, 7), (⟨"NoonTrains$Reader", "sortAt", "(I)I"⟩, 7), (⟨"NoonTrains$Reader", "lineOfWord", "()I"⟩, 7), (⟨"NoonTrains$Reader", "spells", "(Ljava/lang/String;)Z"⟩, 7), (⟨"NoonTrains$Reader", "tokenValue", "()I"⟩, 7), (⟨"NoonTrains$Reader", "fits", "(III)Z"⟩, 7), (⟨"NoonTrains$Reader", "fitsTrain", "(II)Z"⟩, 7), (⟨"NoonTrains$Reader", "draw", "(I)V"⟩, 7), (⟨"NoonTrains$Reader", "drawTrain", "()V"⟩, 7), (⟨"NoonTrains", "isSuch", "(II)Z"⟩, 10), (⟨"NoonTrains$Scene", "learnTicket", "()V"⟩, 12), (⟨"NoonTrains$Scene", "moveHim", "()V"⟩, 12), (⟨"NoonTrains$Scene", "learnPlaces", "()V"⟩, 12)]
theorem lw_r1 : ∀ q ∈ lw_privs_1, lw_okq q := List.forall_mem_cons.mpr ⟨lw_p0, List.forall_mem_cons.mpr ⟨lw_p1, List.forall_mem_cons.mpr ⟨lw_p2, List.forall_mem_cons.mpr ⟨lw_p3, List.forall_mem_cons.mpr ⟨lw_p4, List.forall_mem_cons.mpr ⟨lw_p5, List.forall_mem_cons.mpr ⟨lw_p6, List.forall_mem_cons.mpr ⟨lw_p7, List.forall_mem_cons.mpr ⟨lw_p8, List.forall_mem_cons.mpr ⟨lw_p9, List.forall_mem_cons.mpr ⟨lw_p10, List.forall_mem_cons.mpr ⟨lw_p11, List.forall_mem_cons.mpr ⟨lw_p12, List.forall_mem_cons.mpr ⟨lw_p13, List.forall_mem_cons.mpr ⟨lw_p14, List.forall_mem_cons.mpr ⟨lw_p15, fun _ h => absurd h List.not_mem_nil⟩⟩⟩⟩⟩⟩⟩⟩⟩⟩⟩⟩⟩⟩⟩⟩
theorem lw_p16 : lw_okq (⟨"NoonTrains$Foresight", "choices", "(I)I"⟩, 6) := ⟨⟨by decide +kernel, by decide +kernel⟩, List.mem_of_getElem? (i := 196) (by decide +kernel), List.mem_of_getElem? (i := 633) (by decide +kernel), List.mem_of_getElem? (i := 634) (by decide +kernel)⟩
theorem lw_p17 : lw_okq (⟨"NoonTrains$Foresight", "leftBy", "(I)I"⟩, 6) := ⟨⟨by decide +kernel, by decide +kernel⟩, List.mem_of_getElem? (i := 196) (by decide +kernel), List.mem_of_getElem? (i := 655) (by decide +kernel), List.mem_of_getElem? (i := 656) (by decide +kernel)⟩
theorem lw_p18 : lw_okq (⟨"NoonTrains$Pursuit", "markCaught", "()V"⟩, 10) := ⟨⟨by decide +kernel, by decide +kernel⟩, List.mem_of_getElem? (i := 225) (by decide +kernel), List.mem_of_getElem? (i := 676) (by decide +kernel), List.mem_of_getElem? (i := 677) (by decide +kernel)⟩
theorem lw_p19 : lw_okq (⟨"NoonTrains$Pursuit", "gather", "(II)V"⟩, 10) := ⟨⟨by decide +kernel, by decide +kernel⟩, List.mem_of_getElem? (i := 225) (by decide +kernel), List.mem_of_getElem? (i := 683) (by decide +kernel), List.mem_of_getElem? (i := 684) (by decide +kernel)⟩
theorem lw_p20 : lw_okq (⟨"NoonTrains$Pursuit", "foldHim", "()V"⟩, 10) := ⟨⟨by decide +kernel, by decide +kernel⟩, List.mem_of_getElem? (i := 225) (by decide +kernel), List.mem_of_getElem? (i := 693) (by decide +kernel), List.mem_of_getElem? (i := 694) (by decide +kernel)⟩
theorem lw_p21 : lw_okq (⟨"NoonTrains$Pursuit", "foldZero", "()V"⟩, 10) := ⟨⟨by decide +kernel, by decide +kernel⟩, List.mem_of_getElem? (i := 225) (by decide +kernel), List.mem_of_getElem? (i := 701) (by decide +kernel), List.mem_of_getElem? (i := 702) (by decide +kernel)⟩
theorem lw_p22 : lw_okq (⟨"NoonTrains$Pursuit", "foldOne", "()V"⟩, 10) := ⟨⟨by decide +kernel, by decide +kernel⟩, List.mem_of_getElem? (i := 225) (by decide +kernel), List.mem_of_getElem? (i := 705) (by decide +kernel), List.mem_of_getElem? (i := 706) (by decide +kernel)⟩
theorem lw_p23 : lw_okq (⟨"NoonTrains$Rides", "spend", "(I)Z"⟩, 6) := ⟨⟨by decide +kernel, by decide +kernel⟩, List.mem_of_getElem? (i := 264) (by decide +kernel), List.mem_of_getElem? (i := 748) (by decide +kernel), List.mem_of_getElem? (i := 749) (by decide +kernel)⟩
theorem lw_p24 : lw_okq (⟨"NoonTrains$Rides", "rideOn", "(II)V"⟩, 6) := ⟨⟨by decide +kernel, by decide +kernel⟩, List.mem_of_getElem? (i := 264) (by decide +kernel), List.mem_of_getElem? (i := 764) (by decide +kernel), List.mem_of_getElem? (i := 765) (by decide +kernel)⟩
theorem lw_p25 : lw_okq (⟨"NoonTrains$Rides", "arrive", "(IJ)V"⟩, 6) := ⟨⟨by decide +kernel, by decide +kernel⟩, List.mem_of_getElem? (i := 264) (by decide +kernel), List.mem_of_getElem? (i := 769) (by decide +kernel), List.mem_of_getElem? (i := 770) (by decide +kernel)⟩
theorem lw_p26 : lw_okq (⟨"NoonTrains", "image", "(I)LNoonTrains$Scene;"⟩, 10) := ⟨⟨by decide +kernel, by decide +kernel⟩, List.mem_of_getElem? (i := 19) (by decide +kernel), List.mem_of_getElem? (i := 785) (by decide +kernel), List.mem_of_getElem? (i := 786) (by decide +kernel)⟩
theorem lw_p27 : lw_okq (⟨"NoonTrainsModel", "begin", "()V"⟩, 26) := ⟨⟨by decide +kernel, by decide +kernel⟩, List.mem_of_getElem? (i := 802) (by decide +kernel), List.mem_of_getElem? (i := 808) (by decide +kernel), List.mem_of_getElem? (i := 809) (by decide +kernel)⟩
theorem lw_p28 : lw_okq (⟨"NoonTrainsModel", "token", "()V"⟩, 26) := ⟨⟨by decide +kernel, by decide +kernel⟩, List.mem_of_getElem? (i := 802) (by decide +kernel), List.mem_of_getElem? (i := 909) (by decide +kernel), List.mem_of_getElem? (i := 910) (by decide +kernel)⟩
theorem lw_p29 : lw_okq (⟨"NoonTrainsModel", "readsLine", "()Z"⟩, 26) := ⟨⟨by decide +kernel, by decide +kernel⟩, List.mem_of_getElem? (i := 802) (by decide +kernel), List.mem_of_getElem? (i := 916) (by decide +kernel), List.mem_of_getElem? (i := 917) (by decide +kernel)⟩
theorem lw_p30 : lw_okq (⟨"NoonTrainsModel", "wordOf", "()I"⟩, 26) := ⟨⟨by decide +kernel, by decide +kernel⟩, List.mem_of_getElem? (i := 802) (by decide +kernel), List.mem_of_getElem? (i := 920) (by decide +kernel), List.mem_of_getElem? (i := 921) (by decide +kernel)⟩
theorem lw_p31 : lw_okq (⟨"NoonTrainsModel", "isWord", "(JI)Z"⟩, 26) := ⟨⟨by decide +kernel, by decide +kernel⟩, List.mem_of_getElem? (i := 802) (by decide +kernel), List.mem_of_getElem? (i := 925) (by decide +kernel), List.mem_of_getElem? (i := 926) (by decide +kernel)⟩
def lw_privs_2 : List (MethodName × Nat) := [(⟨"NoonTrains$Foresight", "choices", "(I)I"⟩, 6), (⟨"NoonTrains$Foresight", "leftBy", "(I)I"⟩, 6), (⟨"NoonTrains$Pursuit", "markCaught", "()V"⟩, 10), (⟨"NoonTrains$Pursuit", "gather", "(II)V"⟩, 10), (⟨"NoonTrains$Pursuit", "foldHim", "()V"⟩, 10), (⟨"NoonTrains$Pursuit", "foldZero", "()V"⟩, 10), (⟨"NoonTrains$Pursuit", "foldOne", "()V"⟩, 10), (⟨"NoonTrains$Rides", "spend", "(I)Z"⟩, 6), (⟨"NoonTrains$Rides", "rideOn", "(II)V"⟩, 6), (⟨"NoonTrains$Rides", "arrive", "(IJ)V"⟩, 6), (⟨"NoonTrains", "image", "(I)LNoonTrains$Scene;"⟩, 10), (⟨"NoonTrainsModel", "begin", "()V"⟩, 26), (⟨"NoonTrainsModel", "token", "()V"⟩, 26), (⟨"NoonTrainsModel", "readsLine", "()Z"⟩, 26), (⟨"NoonTrainsModel", "wordOf", "()I"⟩, 26), (⟨"NoonTrainsModel", "isWord", "(JI)Z"⟩, 26)]
theorem lw_r2 : ∀ q ∈ lw_privs_2, lw_okq q := List.forall_mem_cons.mpr ⟨lw_p16, List.forall_mem_cons.mpr ⟨lw_p17, List.forall_mem_cons.mpr ⟨lw_p18, List.forall_mem_cons.mpr ⟨lw_p19, List.forall_mem_cons.mpr ⟨lw_p20, List.forall_mem_cons.mpr ⟨lw_p21, List.forall_mem_cons.mpr ⟨lw_p22, List.forall_mem_cons.mpr ⟨lw_p23, List.forall_mem_cons.mpr ⟨lw_p24, List.forall_mem_cons.mpr ⟨lw_p25, List.forall_mem_cons.mpr ⟨lw_p26, List.forall_mem_cons.mpr ⟨lw_p27, List.forall_mem_cons.mpr ⟨lw_p28, List.forall_mem_cons.mpr ⟨lw_p29, List.forall_mem_cons.mpr ⟨lw_p30, List.forall_mem_cons.mpr ⟨lw_p31, fun _ h => absurd h List.not_mem_nil⟩⟩⟩⟩⟩⟩⟩⟩⟩⟩⟩⟩⟩⟩⟩⟩
theorem lw_p32 : lw_okq (⟨"NoonTrainsModel", "readsRest", "(I)Z"⟩, 26) := ⟨⟨by decide +kernel, by decide +kernel⟩, List.mem_of_getElem? (i := 802) (by decide +kernel), List.mem_of_getElem? (i := 935) (by decide +kernel), List.mem_of_getElem? (i := 936) (by decide +kernel)⟩
theorem lw_p33 : lw_okq (⟨"NoonTrainsModel", "reads", "(IIII)Z"⟩, 26) := ⟨⟨by decide +kernel, by decide +kernel⟩, List.mem_of_getElem? (i := 802) (by decide +kernel), List.mem_of_getElem? (i := 939) (by decide +kernel), List.mem_of_getElem? (i := 940) (by decide +kernel)⟩
theorem lw_p34 : lw_okq (⟨"NoonTrainsModel", "readsTrain", "()Z"⟩, 26) := ⟨⟨by decide +kernel, by decide +kernel⟩, List.mem_of_getElem? (i := 802) (by decide +kernel), List.mem_of_getElem? (i := 943) (by decide +kernel), List.mem_of_getElem? (i := 944) (by decide +kernel)⟩
theorem lw_p35 : lw_okq (⟨"NoonTrainsModel", "tell", "(I)V"⟩, 26) := ⟨⟨by decide +kernel, by decide +kernel⟩, List.mem_of_getElem? (i := 802) (by decide +kernel), List.mem_of_getElem? (i := 952) (by decide +kernel), List.mem_of_getElem? (i := 953) (by decide +kernel)⟩
theorem lw_p36 : lw_okq (⟨"NoonTrainsModel", "isTrain", "(I)Z"⟩, 26) := ⟨⟨by decide +kernel, by decide +kernel⟩, List.mem_of_getElem? (i := 802) (by decide +kernel), List.mem_of_getElem? (i := 960) (by decide +kernel), List.mem_of_getElem? (i := 961) (by decide +kernel)⟩
theorem lw_p37 : lw_okq (⟨"NoonTrainsModel", "leaves", "(III)Z"⟩, 26) := ⟨⟨by decide +kernel, by decide +kernel⟩, List.mem_of_getElem? (i := 802) (by decide +kernel), List.mem_of_getElem? (i := 969) (by decide +kernel), List.mem_of_getElem? (i := 970) (by decide +kernel)⟩
theorem lw_p38 : lw_okq (⟨"NoonTrainsModel", "hisTrains", "()I"⟩, 26) := ⟨⟨by decide +kernel, by decide +kernel⟩, List.mem_of_getElem? (i := 802) (by decide +kernel), List.mem_of_getElem? (i := 982) (by decide +kernel), List.mem_of_getElem? (i := 983) (by decide +kernel)⟩
theorem lw_p39 : lw_okq (⟨"NoonTrainsModel", "ridable", "(I)I"⟩, 26) := ⟨⟨by decide +kernel, by decide +kernel⟩, List.mem_of_getElem? (i := 802) (by decide +kernel), List.mem_of_getElem? (i := 986) (by decide +kernel), List.mem_of_getElem? (i := 987) (by decide +kernel)⟩
theorem lw_p40 : lw_okq (⟨"NoonTrainsModel", "nextOf", "()I"⟩, 26) := ⟨⟨by decide +kernel, by decide +kernel⟩, List.mem_of_getElem? (i := 802) (by decide +kernel), List.mem_of_getElem? (i := 1004) (by decide +kernel), List.mem_of_getElem? (i := 1005) (by decide +kernel)⟩
theorem lw_p41 : lw_okq (⟨"NoonTrainsModel", "layByNone", "()V"⟩, 26) := ⟨⟨by decide +kernel, by decide +kernel⟩, List.mem_of_getElem? (i := 802) (by decide +kernel), List.mem_of_getElem? (i := 1008) (by decide +kernel), List.mem_of_getElem? (i := 1009) (by decide +kernel)⟩
theorem lw_p42 : lw_okq (⟨"NoonTrainsModel", "layBy", "(I)V"⟩, 26) := ⟨⟨by decide +kernel, by decide +kernel⟩, List.mem_of_getElem? (i := 802) (by decide +kernel), List.mem_of_getElem? (i := 1012) (by decide +kernel), List.mem_of_getElem? (i := 1013) (by decide +kernel)⟩
theorem lw_p43 : lw_okq (⟨"NoonTrainsModel", "reach", "(III)I"⟩, 26) := ⟨⟨by decide +kernel, by decide +kernel⟩, List.mem_of_getElem? (i := 802) (by decide +kernel), List.mem_of_getElem? (i := 1044) (by decide +kernel), List.mem_of_getElem? (i := 1045) (by decide +kernel)⟩
theorem lw_p44 : lw_okq (⟨"NoonTrainsModel", "nightsFrom", "(III)I"⟩, 26) := ⟨⟨by decide +kernel, by decide +kernel⟩, List.mem_of_getElem? (i := 802) (by decide +kernel), List.mem_of_getElem? (i := 1048) (by decide +kernel), List.mem_of_getElem? (i := 1049) (by decide +kernel)⟩
theorem lw_p45 : lw_okq (⟨"NoonTrainsModel", "isNoChase", "()Z"⟩, 26) := ⟨⟨by decide +kernel, by decide +kernel⟩, List.mem_of_getElem? (i := 802) (by decide +kernel), List.mem_of_getElem? (i := 1063) (by decide +kernel), List.mem_of_getElem? (i := 1064) (by decide +kernel)⟩
theorem lw_p46 : lw_okq (⟨"NoonTrainsModel", "chaseBy", "(I)I"⟩, 26) := ⟨⟨by decide +kernel, by decide +kernel⟩, List.mem_of_getElem? (i := 802) (by decide +kernel), List.mem_of_getElem? (i := 1067) (by decide +kernel), List.mem_of_getElem? (i := 1068) (by decide +kernel)⟩
theorem lw_p47 : lw_okq (⟨"NoonTrainsModel", "bestFrom", "(IIIII)I"⟩, 26) := ⟨⟨by decide +kernel, by decide +kernel⟩, List.mem_of_getElem? (i := 802) (by decide +kernel), List.mem_of_getElem? (i := 1071) (by decide +kernel), List.mem_of_getElem? (i := 1072) (by decide +kernel)⟩
def lw_privs_3 : List (MethodName × Nat) := [(⟨"NoonTrainsModel", "readsRest", "(I)Z"⟩, 26), (⟨"NoonTrainsModel", "reads", "(IIII)Z"⟩, 26), (⟨"NoonTrainsModel", "readsTrain", "()Z"⟩, 26), (⟨"NoonTrainsModel", "tell", "(I)V"⟩, 26), (⟨"NoonTrainsModel", "isTrain", "(I)Z"⟩, 26), (⟨"NoonTrainsModel", "leaves", "(III)Z"⟩, 26), (⟨"NoonTrainsModel", "hisTrains", "()I"⟩, 26), (⟨"NoonTrainsModel", "ridable", "(I)I"⟩, 26), (⟨"NoonTrainsModel", "nextOf", "()I"⟩, 26), (⟨"NoonTrainsModel", "layByNone", "()V"⟩, 26), (⟨"NoonTrainsModel", "layBy", "(I)V"⟩, 26), (⟨"NoonTrainsModel", "reach", "(III)I"⟩, 26), (⟨"NoonTrainsModel", "nightsFrom", "(III)I"⟩, 26), (⟨"NoonTrainsModel", "isNoChase", "()Z"⟩, 26), (⟨"NoonTrainsModel", "chaseBy", "(I)I"⟩, 26), (⟨"NoonTrainsModel", "bestFrom", "(IIIII)I"⟩, 26)]
theorem lw_r3 : ∀ q ∈ lw_privs_3, lw_okq q := List.forall_mem_cons.mpr ⟨lw_p32, List.forall_mem_cons.mpr ⟨lw_p33, List.forall_mem_cons.mpr ⟨lw_p34, List.forall_mem_cons.mpr ⟨lw_p35, List.forall_mem_cons.mpr ⟨lw_p36, List.forall_mem_cons.mpr ⟨lw_p37, List.forall_mem_cons.mpr ⟨lw_p38, List.forall_mem_cons.mpr ⟨lw_p39, List.forall_mem_cons.mpr ⟨lw_p40, List.forall_mem_cons.mpr ⟨lw_p41, List.forall_mem_cons.mpr ⟨lw_p42, List.forall_mem_cons.mpr ⟨lw_p43, List.forall_mem_cons.mpr ⟨lw_p44, List.forall_mem_cons.mpr ⟨lw_p45, List.forall_mem_cons.mpr ⟨lw_p46, List.forall_mem_cons.mpr ⟨lw_p47, fun _ h => absurd h List.not_mem_nil⟩⟩⟩⟩⟩⟩⟩⟩⟩⟩⟩⟩⟩⟩⟩⟩
theorem lw_p48 : lw_okq (⟨"NoonTrainsModel", "worst", "(IIII)I"⟩, 26) := ⟨⟨by decide +kernel, by decide +kernel⟩, List.mem_of_getElem? (i := 802) (by decide +kernel), List.mem_of_getElem? (i := 1075) (by decide +kernel), List.mem_of_getElem? (i := 1076) (by decide +kernel)⟩
theorem lw_p49 : lw_okq (⟨"NoonTrainsModel", "rideLate", "(II)V"⟩, 26) := ⟨⟨by decide +kernel, by decide +kernel⟩, List.mem_of_getElem? (i := 802) (by decide +kernel), List.mem_of_getElem? (i := 1105) (by decide +kernel), List.mem_of_getElem? (i := 1106) (by decide +kernel)⟩
theorem lw_p50 : lw_okq (⟨"NoonTrainsModel", "addThen", "(IJ)V"⟩, 26) := ⟨⟨by decide +kernel, by decide +kernel⟩, List.mem_of_getElem? (i := 802) (by decide +kernel), List.mem_of_getElem? (i := 1109) (by decide +kernel), List.mem_of_getElem? (i := 1110) (by decide +kernel)⟩
theorem lw_p51 : lw_okq (⟨"NoonTrainsModel", "copy", "(II)V"⟩, 26) := ⟨⟨by decide +kernel, by decide +kernel⟩, List.mem_of_getElem? (i := 802) (by decide +kernel), List.mem_of_getElem? (i := 1120) (by decide +kernel), List.mem_of_getElem? (i := 1121) (by decide +kernel)⟩
def lw_privs_4 : List (MethodName × Nat) := [(⟨"NoonTrainsModel", "worst", "(IIII)I"⟩, 26), (⟨"NoonTrainsModel", "rideLate", "(II)V"⟩, 26), (⟨"NoonTrainsModel", "addThen", "(IJ)V"⟩, 26), (⟨"NoonTrainsModel", "copy", "(II)V"⟩, 26)]
theorem lw_r4 : ∀ q ∈ lw_privs_4, lw_okq q := List.forall_mem_cons.mpr ⟨lw_p48, List.forall_mem_cons.mpr ⟨lw_p49, List.forall_mem_cons.mpr ⟨lw_p50, List.forall_mem_cons.mpr ⟨lw_p51, fun _ h => absurd h List.not_mem_nil⟩⟩⟩⟩
def lw_privs : List (MethodName × Nat) := lw_privs_1 ++ (lw_privs_2 ++ (lw_privs_3 ++ (lw_privs_4)))
def lw_tbl : List Cond := k2_sels lw_privs ++ tables_1
theorem lw_privs_ok : ∀ q ∈ lw_privs, lw_okq q := by
  show ∀ q ∈ lw_privs_1 ++ (lw_privs_2 ++ (lw_privs_3 ++ (lw_privs_4))), lw_okq q
  exact List.forall_mem_append.mpr ⟨lw_r1, List.forall_mem_append.mpr ⟨lw_r2, List.forall_mem_append.mpr ⟨lw_r3, lw_r4⟩⟩⟩
end
section
def RX0 : String := "NoonTrains$Foresight"
def TX0 : u_T := fun k => match k with
  | 0 => ("NoonTrains$Foresight", "land", "LNoonTrains$Land;", true)
  | 1 => ("NoonTrains$Foresight", "scene", "LNoonTrains$Scene;", true)
  | 2 => ("NoonTrains$Foresight", "most", "I", false)
  | 3 => ("NoonTrains$Foresight", "placeZero", "I", false)
  | 4 => ("NoonTrains$Foresight", "placeOne", "I", false)
  | _ => ("NoonTrains$Foresight", "hidingTrain", "I", false)
def tyX0 : Nat → FieldType := fun k => match k with
  | 0 => .object "NoonTrains$Land"
  | 1 => .object "NoonTrains$Scene"
  | 2 => .int
  | 3 => .int
  | 4 => .int
  | _ => .int
theorem nmX0 : ∀ a, a < 6 → ∀ b, b < 6 → a ≠ b → (TX0 a).2.1 ≠ (TX0 b).2.1 := by decide +kernel
theorem tyX0_ok : ∀ k, k < 6 → parseFieldDescriptor (TX0 k).2.2.1 = some (tyX0 k) := by decide +kernel
abbrev cX0_init : ByteArray := prog_2_method_1_code
def yX0_init : MethodName := ⟨RX0, "<init>", "(LNoonTrains$Land;LNoonTrains$Scene;)V"⟩
abbrev cX0_stand : ByteArray := prog_2_method_2_code
def yX0_stand : MethodName := ⟨RX0, "stand", "()V"⟩
abbrev cX0_choices : ByteArray := prog_2_method_3_code
def yX0_choices : MethodName := ⟨RX0, "choices", "(I)I"⟩
abbrev cX0_hide : ByteArray := prog_2_method_4_code
def yX0_hide : MethodName := ⟨RX0, "hide", "()V"⟩
abbrev cX0_leftBy : ByteArray := prog_2_method_5_code
def yX0_leftBy : MethodName := ⟨RX0, "leftBy", "(I)I"⟩
def RX1 : String := "NoonTrains$Land"
def TX1 : u_T := fun k => match k with
  | 0 => ("NoonTrains$Land", "stations", "I", false)
  | 1 => ("NoonTrains$Land", "trains", "I", false)
  | 2 => ("NoonTrains$Land", "start", "I", false)
  | 3 => ("NoonTrains$Land", "show", "I", false)
  | 4 => ("NoonTrains$Land", "rows", "[I", true)
  | 5 => ("NoonTrains$Land", "tickets", "[I", true)
  | _ => ("NoonTrains$Land", "seekers", "[I", true)
def tyX1 : Nat → FieldType := fun k => match k with
  | 0 => .int
  | 1 => .int
  | 2 => .int
  | 3 => .int
  | 4 => .array .int
  | 5 => .array .int
  | _ => .array .int
theorem nmX1 : ∀ a, a < 7 → ∀ b, b < 7 → a ≠ b → (TX1 a).2.1 ≠ (TX1 b).2.1 := by decide +kernel
theorem tyX1_ok : ∀ k, k < 7 → parseFieldDescriptor (TX1 k).2.2.1 = some (tyX1 k) := by decide +kernel
abbrev cX1_init : ByteArray := prog_3_method_1_code
def yX1_init : MethodName := ⟨RX1, "<init>", "()V"⟩
abbrev cX1_copy : ByteArray := prog_3_method_2_code
def yX1_copy : MethodName := ⟨RX1, "copy", "(LNoonTrains$Land;)V"⟩
abbrev cX1_clear : ByteArray := prog_3_method_3_code
def yX1_clear : MethodName := ⟨RX1, "clear", "(I)V"⟩
abbrev cX1_setPart : ByteArray := prog_3_method_4_code
def yX1_setPart : MethodName := ⟨RX1, "setPart", "(III)V"⟩
abbrev cX1_setTickets : ByteArray := prog_3_method_5_code
def yX1_setTickets : MethodName := ⟨RX1, "setTickets", "(II)V"⟩
abbrev cX1_setSeeker : ByteArray := prog_3_method_6_code
def yX1_setSeeker : MethodName := ⟨RX1, "setSeeker", "(II)V"⟩
abbrev cX1_hasStation : ByteArray := prog_3_method_7_code
def yX1_hasStation : MethodName := ⟨RX1, "hasStation", "(I)Z"⟩
abbrev cX1_hasTrain : ByteArray := prog_3_method_8_code
def yX1_hasTrain : MethodName := ⟨RX1, "hasTrain", "(I)Z"⟩
abbrev cX1_isFull : ByteArray := prog_3_method_9_code
def yX1_isFull : MethodName := ⟨RX1, "isFull", "()Z"⟩
abbrev cX1_part : ByteArray := prog_3_method_10_code
def yX1_part : MethodName := ⟨RX1, "part", "(II)I"⟩
abbrev cX1_runsOn : ByteArray := prog_3_method_11_code
def yX1_runsOn : MethodName := ⟨RX1, "runsOn", "(II)Z"⟩
abbrev cX1_leaves : ByteArray := prog_3_method_12_code
def yX1_leaves : MethodName := ⟨RX1, "leaves", "(III)Z"⟩
abbrev cX1_rideable : ByteArray := prog_3_method_13_code
def yX1_rideable : MethodName := ⟨RX1, "rideable", "(III)I"⟩
abbrev cX1_reached : ByteArray := prog_3_method_14_code
def yX1_reached : MethodName := ⟨RX1, "reached", "(IIII)I"⟩
abbrev cX1_stuck : ByteArray := prog_3_method_15_code
def yX1_stuck : MethodName := ⟨RX1, "stuck", "(III)I"⟩
def RX2 : String := "NoonTrains$Pursuit"
def TX2 : u_T := fun k => match k with
  | 0 => ("NoonTrains$Pursuit", "land", "LNoonTrains$Land;", true)
  | 1 => ("NoonTrains$Pursuit", "scene", "LNoonTrains$Scene;", true)
  | 2 => ("NoonTrains$Pursuit", "days", "[I", true)
  | 3 => ("NoonTrains$Pursuit", "behindHim", "[I", true)
  | 4 => ("NoonTrains$Pursuit", "behindZero", "[I", true)
  | 5 => ("NoonTrains$Pursuit", "froms", "[I", true)
  | 6 => ("NoonTrains$Pursuit", "tos", "[I", true)
  | 7 => ("NoonTrains$Pursuit", "running", "I", false)
  | 8 => ("NoonTrains$Pursuit", "closedTrain", "I", false)
  | _ => ("NoonTrains$Pursuit", "closedDays", "I", false)
def tyX2 : Nat → FieldType := fun k => match k with
  | 0 => .object "NoonTrains$Land"
  | 1 => .object "NoonTrains$Scene"
  | 2 => .array .int
  | 3 => .array .int
  | 4 => .array .int
  | 5 => .array .int
  | 6 => .array .int
  | 7 => .int
  | 8 => .int
  | _ => .int
theorem nmX2 : ∀ a, a < 10 → ∀ b, b < 10 → a ≠ b → (TX2 a).2.1 ≠ (TX2 b).2.1 := by decide +kernel
theorem tyX2_ok : ∀ k, k < 10 → parseFieldDescriptor (TX2 k).2.2.1 = some (tyX2 k) := by decide +kernel
abbrev cX2_init : ByteArray := prog_4_method_1_code
def yX2_init : MethodName := ⟨RX2, "<init>", "(LNoonTrains$Land;LNoonTrains$Scene;)V"⟩
abbrev cX2_close : ByteArray := prog_4_method_2_code
def yX2_close : MethodName := ⟨RX2, "close", "()V"⟩
abbrev cX2_fewestDays : ByteArray := prog_4_method_3_code
def yX2_fewestDays : MethodName := ⟨RX2, "fewestDays", "(II)I"⟩
abbrev cX2_placeOf : ByteArray := prog_4_method_4_code
def yX2_placeOf : MethodName := ⟨RX2, "placeOf", "(I)I"⟩
abbrev cX2_markCaught : ByteArray := prog_4_method_5_code
def yX2_markCaught : MethodName := ⟨RX2, "markCaught", "()V"⟩
abbrev cX2_gather : ByteArray := prog_4_method_6_code
def yX2_gather : MethodName := ⟨RX2, "gather", "(II)V"⟩
abbrev cX2_isStation : ByteArray := prog_4_method_7_code
def yX2_isStation : MethodName := ⟨RX2, "isStation", "(I)Z"⟩
abbrev cX2_foldHim : ByteArray := prog_4_method_8_code
def yX2_foldHim : MethodName := ⟨RX2, "foldHim", "()V"⟩
abbrev cX2_foldZero : ByteArray := prog_4_method_9_code
def yX2_foldZero : MethodName := ⟨RX2, "foldZero", "()V"⟩
abbrev cX2_foldOne : ByteArray := prog_4_method_10_code
def yX2_foldOne : MethodName := ⟨RX2, "foldOne", "()V"⟩
def RX3 : String := "NoonTrains$Reader"
def TX3 : u_T := fun k => match k with
  | 0 => ("NoonTrains$Reader", "text", "LNoonTrains$Text;", true)
  | 1 => ("NoonTrains$Reader", "draft", "LNoonTrains$Land;", true)
  | 2 => ("NoonTrains$Reader", "lines", "I", false)
  | 3 => ("NoonTrains$Reader", "fields", "[I", true)
  | 4 => ("NoonTrains$Reader", "tokenSort", "I", false)
  | 5 => ("NoonTrains$Reader", "tokenAt", "I", false)
  | _ => ("NoonTrains$Reader", "tokenPast", "I", false)
def tyX3 : Nat → FieldType := fun k => match k with
  | 0 => .object "NoonTrains$Text"
  | 1 => .object "NoonTrains$Land"
  | 2 => .int
  | 3 => .array .int
  | 4 => .int
  | 5 => .int
  | _ => .int
theorem nmX3 : ∀ a, a < 7 → ∀ b, b < 7 → a ≠ b → (TX3 a).2.1 ≠ (TX3 b).2.1 := by decide +kernel
theorem tyX3_ok : ∀ k, k < 7 → parseFieldDescriptor (TX3 k).2.2.1 = some (tyX3 k) := by decide +kernel
abbrev cX3_init : ByteArray := prog_5_method_1_code
def yX3_init : MethodName := ⟨RX3, "<init>", "(LNoonTrains$Text;)V"⟩
abbrev cX3_firstFault : ByteArray := prog_5_method_2_code
def yX3_firstFault : MethodName := ⟨RX3, "firstFault", "(LNoonTrains$Land;)I"⟩
abbrev cX3_readLine : ByteArray := prog_5_method_3_code
def yX3_readLine : MethodName := ⟨RX3, "readLine", "()Z"⟩
abbrev cX3_step : ByteArray := prog_5_method_4_code
def yX3_step : MethodName := ⟨RX3, "step", "()V"⟩
abbrev cX3_sortAt : ByteArray := prog_5_method_5_code
def yX3_sortAt : MethodName := ⟨RX3, "sortAt", "(I)I"⟩
abbrev cX3_lineOfWord : ByteArray := prog_5_method_6_code
def yX3_lineOfWord : MethodName := ⟨RX3, "lineOfWord", "()I"⟩
abbrev cX3_spells : ByteArray := prog_5_method_7_code
def yX3_spells : MethodName := ⟨RX3, "spells", "(Ljava/lang/String;)Z"⟩
abbrev cX3_tokenValue : ByteArray := prog_5_method_8_code
def yX3_tokenValue : MethodName := ⟨RX3, "tokenValue", "()I"⟩
abbrev cX3_fieldsOf : ByteArray := prog_5_method_9_code
def yX3_fieldsOf : MethodName := ⟨RX3, "fieldsOf", "(I)I"⟩
abbrev cX3_fits : ByteArray := prog_5_method_10_code
def yX3_fits : MethodName := ⟨RX3, "fits", "(III)Z"⟩
abbrev cX3_fitsTrain : ByteArray := prog_5_method_11_code
def yX3_fitsTrain : MethodName := ⟨RX3, "fitsTrain", "(II)Z"⟩
abbrev cX3_draw : ByteArray := prog_5_method_12_code
def yX3_draw : MethodName := ⟨RX3, "draw", "(I)V"⟩
abbrev cX3_drawTrain : ByteArray := prog_5_method_13_code
def yX3_drawTrain : MethodName := ⟨RX3, "drawTrain", "()V"⟩
def RX4 : String := "NoonTrains$Rides"
def TX4 : u_T := fun k => match k with
  | 0 => ("NoonTrains$Rides", "land", "LNoonTrains$Land;", true)
  | 1 => ("NoonTrains$Rides", "trains", "[I", true)
  | 2 => ("NoonTrains$Rides", "length", "I", false)
  | 3 => ("NoonTrains$Rides", "purse", "[I", true)
  | 4 => ("NoonTrains$Rides", "ways", "[J", true)
  | _ => ("NoonTrains$Rides", "waysBehind", "[J", true)
def tyX4 : Nat → FieldType := fun k => match k with
  | 0 => .object "NoonTrains$Land"
  | 1 => .array .int
  | 2 => .int
  | 3 => .array .int
  | 4 => .array .long
  | _ => .array .long
theorem nmX4 : ∀ a, a < 6 → ∀ b, b < 6 → a ≠ b → (TX4 a).2.1 ≠ (TX4 b).2.1 := by decide +kernel
theorem tyX4_ok : ∀ k, k < 6 → parseFieldDescriptor (TX4 k).2.2.1 = some (tyX4 k) := by decide +kernel
abbrev cX4_init : ByteArray := prog_6_method_1_code
def yX4_init : MethodName := ⟨RX4, "<init>", "(LNoonTrains$Land;)V"⟩
abbrev cX4_append : ByteArray := prog_6_method_2_code
def yX4_append : MethodName := ⟨RX4, "append", "(I)Z"⟩
abbrev cX4_firstImpossible : ByteArray := prog_6_method_3_code
def yX4_firstImpossible : MethodName := ⟨RX4, "firstImpossible", "()I"⟩
abbrev cX4_spend : ByteArray := prog_6_method_4_code
def yX4_spend : MethodName := ⟨RX4, "spend", "(I)Z"⟩
abbrev cX4_waysInTime : ByteArray := prog_6_method_5_code
def yX4_waysInTime : MethodName := ⟨RX4, "waysInTime", "(II)J"⟩
abbrev cX4_waysInAll : ByteArray := prog_6_method_6_code
def yX4_waysInAll : MethodName := ⟨RX4, "waysInAll", "()J"⟩
abbrev cX4_rideOn : ByteArray := prog_6_method_7_code
def yX4_rideOn : MethodName := ⟨RX4, "rideOn", "(II)V"⟩
abbrev cX4_arrive : ByteArray := prog_6_method_8_code
def yX4_arrive : MethodName := ⟨RX4, "arrive", "(IJ)V"⟩
def RX5 : String := "NoonTrains$Scene"
def TX5 : u_T := fun k => match k with
  | 0 => ("NoonTrains$Scene", "land", "LNoonTrains$Land;", true)
  | 1 => ("NoonTrains$Scene", "day", "I", false)
  | 2 => ("NoonTrains$Scene", "station", "I", false)
  | 3 => ("NoonTrains$Scene", "onWay", "Z", false)
  | 4 => ("NoonTrains$Scene", "caught", "Z", false)
  | 5 => ("NoonTrains$Scene", "ridden", "I", false)
  | 6 => ("NoonTrains$Scene", "tickets", "[I", true)
  | 7 => ("NoonTrains$Scene", "seekers", "[I", true)
  | 8 => ("NoonTrains$Scene", "sent", "[I", true)
  | 9 => ("NoonTrains$Scene", "mayBits", "I", false)
  | 10 => ("NoonTrains$Scene", "wayBits", "I", false)
  | _ => ("NoonTrains$Scene", "letterBits", "I", false)
def tyX5 : Nat → FieldType := fun k => match k with
  | 0 => .object "NoonTrains$Land"
  | 1 => .int
  | 2 => .int
  | 3 => .boolean
  | 4 => .boolean
  | 5 => .int
  | 6 => .array .int
  | 7 => .array .int
  | 8 => .array .int
  | 9 => .int
  | 10 => .int
  | _ => .int
theorem nmX5 : ∀ a, a < 12 → ∀ b, b < 12 → a ≠ b → (TX5 a).2.1 ≠ (TX5 b).2.1 := by decide +kernel
theorem tyX5_ok : ∀ k, k < 12 → parseFieldDescriptor (TX5 k).2.2.1 = some (tyX5 k) := by decide +kernel
abbrev cX5_init : ByteArray := prog_7_method_1_code
def yX5_init : MethodName := ⟨RX5, "<init>", "(LNoonTrains$Land;)V"⟩
abbrev cX5_begin : ByteArray := prog_7_method_2_code
def yX5_begin : MethodName := ⟨RX5, "begin", "()V"⟩
abbrev cX5_copy : ByteArray := prog_7_method_3_code
def yX5_copy : MethodName := ⟨RX5, "copy", "(LNoonTrains$Scene;)V"⟩
abbrev cX5_forgetToday : ByteArray := prog_7_method_4_code
def yX5_forgetToday : MethodName := ⟨RX5, "forgetToday", "()V"⟩
abbrev cX5_ticketsOf : ByteArray := prog_7_method_5_code
def yX5_ticketsOf : MethodName := ⟨RX5, "ticketsOf", "(I)I"⟩
abbrev cX5_kindsLeft : ByteArray := prog_7_method_6_code
def yX5_kindsLeft : MethodName := ⟨RX5, "kindsLeft", "()I"⟩
abbrev cX5_seekingBits : ByteArray := prog_7_method_7_code
def yX5_seekingBits : MethodName := ⟨RX5, "seekingBits", "()I"⟩
abbrev cX5_anySeeks : ByteArray := prog_7_method_8_code
def yX5_anySeeks : MethodName := ⟨RX5, "anySeeks", "()Z"⟩
abbrev cX5_rideable : ByteArray := prog_7_method_9_code
def yX5_rideable : MethodName := ⟨RX5, "rideable", "()I"⟩
abbrev cX5_canSend : ByteArray := prog_7_method_10_code
def yX5_canSend : MethodName := ⟨RX5, "canSend", "(II)Z"⟩
abbrev cX5_placeBehind : ByteArray := prog_7_method_11_code
def yX5_placeBehind : MethodName := ⟨RX5, "placeBehind", "(I)I"⟩
abbrev cX5_nextBits : ByteArray := prog_7_method_12_code
def yX5_nextBits : MethodName := ⟨RX5, "nextBits", "()I"⟩
abbrev cX5_advance : ByteArray := prog_7_method_13_code
def yX5_advance : MethodName := ⟨RX5, "advance", "()V"⟩
abbrev cX5_learnTicket : ByteArray := prog_7_method_14_code
def yX5_learnTicket : MethodName := ⟨RX5, "learnTicket", "()V"⟩
abbrev cX5_moveHim : ByteArray := prog_7_method_15_code
def yX5_moveHim : MethodName := ⟨RX5, "moveHim", "()V"⟩
abbrev cX5_learnPlaces : ByteArray := prog_7_method_16_code
def yX5_learnPlaces : MethodName := ⟨RX5, "learnPlaces", "()V"⟩
abbrev cX5_isWithSeeker : ByteArray := prog_7_method_17_code
def yX5_isWithSeeker : MethodName := ⟨RX5, "isWithSeeker", "()Z"⟩
def RX6 : String := "NoonTrains$Text"
def TX6 : u_T := fun k => match k with
  | 0 => ("NoonTrains$Text", "bytes", "[C", true)
  | _ => ("NoonTrains$Text", "length", "I", false)
def tyX6 : Nat → FieldType := fun k => match k with
  | 0 => .array .char
  | _ => .int
theorem nmX6 : ∀ a, a < 2 → ∀ b, b < 2 → a ≠ b → (TX6 a).2.1 ≠ (TX6 b).2.1 := by decide +kernel
theorem tyX6_ok : ∀ k, k < 2 → parseFieldDescriptor (TX6 k).2.2.1 = some (tyX6 k) := by decide +kernel
abbrev cX6_init : ByteArray := prog_8_method_1_code
def yX6_init : MethodName := ⟨RX6, "<init>", "()V"⟩
abbrev cX6_append : ByteArray := prog_8_method_2_code
def yX6_append : MethodName := ⟨RX6, "append", "(I)V"⟩
abbrev cX6_byteAt : ByteArray := prog_8_method_3_code
def yX6_byteAt : MethodName := ⟨RX6, "byteAt", "(I)I"⟩
def RX7 : String := "NoonTrains"
def TX7 : u_T := fun k => match k with
  | 0 => ("NoonTrains", "text", "LNoonTrains$Text;", true)
  | 1 => ("NoonTrains", "told", "LNoonTrains$Land;", true)
  | 2 => ("NoonTrains", "reader", "LNoonTrains$Reader;", true)
  | 3 => ("NoonTrains", "now", "LNoonTrains$Scene;", true)
  | 4 => ("NoonTrains", "imageZero", "LNoonTrains$Scene;", true)
  | 5 => ("NoonTrains", "imageOne", "LNoonTrains$Scene;", true)
  | 6 => ("NoonTrains", "foresight", "LNoonTrains$Foresight;", true)
  | 7 => ("NoonTrains", "pursuit", "LNoonTrains$Pursuit;", true)
  | 8 => ("NoonTrains", "rides", "LNoonTrains$Rides;", true)
  | _ => ("NoonTrains", "keptBits", "I", false)
def tyX7 : Nat → FieldType := fun k => match k with
  | 0 => .object "NoonTrains$Text"
  | 1 => .object "NoonTrains$Land"
  | 2 => .object "NoonTrains$Reader"
  | 3 => .object "NoonTrains$Scene"
  | 4 => .object "NoonTrains$Scene"
  | 5 => .object "NoonTrains$Scene"
  | 6 => .object "NoonTrains$Foresight"
  | 7 => .object "NoonTrains$Pursuit"
  | 8 => .object "NoonTrains$Rides"
  | _ => .int
theorem nmX7 : ∀ a, a < 10 → ∀ b, b < 10 → a ≠ b → (TX7 a).2.1 ≠ (TX7 b).2.1 := by decide +kernel
theorem tyX7_ok : ∀ k, k < 10 → parseFieldDescriptor (TX7 k).2.2.1 = some (tyX7 k) := by decide +kernel
abbrev cX7_init : ByteArray := prog_1_method_1_code
def yX7_init : MethodName := ⟨RX7, "<init>", "()V"⟩
abbrev cX7_write : ByteArray := prog_1_method_2_code
def yX7_write : MethodName := ⟨RX7, "write", "(JI)I"⟩
abbrev cX7_erase : ByteArray := prog_1_method_3_code
def yX7_erase : MethodName := ⟨RX7, "erase", "()I"⟩
abbrev cX7_fault : ByteArray := prog_1_method_4_code
def yX7_fault : MethodName := ⟨RX7, "fault", "()I"⟩
abbrev cX7_land : ByteArray := prog_1_method_5_code
def yX7_land : MethodName := ⟨RX7, "land", "()I"⟩
abbrev cX7_train : ByteArray := prog_1_method_6_code
def yX7_train : MethodName := ⟨RX7, "train", "(II)I"⟩
abbrev cX7_runs : ByteArray := prog_1_method_7_code
def yX7_runs : MethodName := ⟨RX7, "runs", "(II)I"⟩
abbrev cX7_as : ByteArray := prog_1_method_8_code
def yX7_as : MethodName := ⟨RX7, "as", "(II)I"⟩
abbrev cX7_isSuch : ByteArray := prog_1_method_9_code
def yX7_isSuch : MethodName := ⟨RX7, "isSuch", "(II)Z"⟩
abbrev cX7_ride : ByteArray := prog_1_method_10_code
def yX7_ride : MethodName := ⟨RX7, "ride", "(I)I"⟩
abbrev cX7_send : ByteArray := prog_1_method_11_code
def yX7_send : MethodName := ⟨RX7, "send", "(II)I"⟩
abbrev cX7_noon : ByteArray := prog_1_method_12_code
def yX7_noon : MethodName := ⟨RX7, "noon", "()I"⟩
abbrev cX7_he : ByteArray := prog_1_method_13_code
def yX7_he : MethodName := ⟨RX7, "he", "(I)I"⟩
abbrev cX7_seeker : ByteArray := prog_1_method_14_code
def yX7_seeker : MethodName := ⟨RX7, "seeker", "(I)I"⟩
abbrev cX7_may : ByteArray := prog_1_method_15_code
def yX7_may : MethodName := ⟨RX7, "may", "()I"⟩
abbrev cX7_way : ByteArray := prog_1_method_16_code
def yX7_way : MethodName := ⟨RX7, "way", "()I"⟩
abbrev cX7_next : ByteArray := prog_1_method_17_code
def yX7_next : MethodName := ⟨RX7, "next", "()I"⟩
abbrev cX7_letter : ByteArray := prog_1_method_18_code
def yX7_letter : MethodName := ⟨RX7, "letter", "()I"⟩
abbrev cX7_shut : ByteArray := prog_1_method_19_code
def yX7_shut : MethodName := ⟨RX7, "shut", "(I)I"⟩
abbrev cX7_hides : ByteArray := prog_1_method_20_code
def yX7_hides : MethodName := ⟨RX7, "hides", "(I)I"⟩
abbrev cX7_chase : ByteArray := prog_1_method_21_code
def yX7_chase : MethodName := ⟨RX7, "chase", "()I"⟩
abbrev cX7_closed : ByteArray := prog_1_method_22_code
def yX7_closed : MethodName := ⟨RX7, "closed", "(I)I"⟩
abbrev cX7_daysOrNone : ByteArray := prog_1_method_23_code
def yX7_daysOrNone : MethodName := ⟨RX7, "daysOrNone", "(I)I"⟩
abbrev cX7_log : ByteArray := prog_1_method_24_code
def yX7_log : MethodName := ⟨RX7, "log", "(I)I"⟩
abbrev cX7_burn : ByteArray := prog_1_method_25_code
def yX7_burn : MethodName := ⟨RX7, "burn", "()I"⟩
abbrev cX7_judge : ByteArray := prog_1_method_26_code
def yX7_judge : MethodName := ⟨RX7, "judge", "()I"⟩
abbrev cX7_late : ByteArray := prog_1_method_27_code
def yX7_late : MethodName := ⟨RX7, "late", "(III)J"⟩
abbrev cX7_keep : ByteArray := prog_1_method_28_code
def yX7_keep : MethodName := ⟨RX7, "keep", "(I)I"⟩
abbrev cX7_back : ByteArray := prog_1_method_29_code
def yX7_back : MethodName := ⟨RX7, "back", "(I)I"⟩
abbrev cX7_count : ByteArray := prog_1_method_30_code
def yX7_count : MethodName := ⟨RX7, "count", "(I)I"⟩
abbrev cX7_image : ByteArray := prog_1_method_31_code
def yX7_image : MethodName := ⟨RX7, "image", "(I)LNoonTrains$Scene;"⟩
abbrev cX7_isSeeker : ByteArray := prog_1_method_32_code
def yX7_isSeeker : MethodName := ⟨RX7, "isSeeker", "(I)Z"⟩
abbrev cX7_within : ByteArray := prog_1_method_33_code
def yX7_within : MethodName := ⟨RX7, "within", "(III)Z"⟩
abbrev cX7_hasBit : ByteArray := prog_1_method_34_code
def yX7_hasBit : MethodName := ⟨RX7, "hasBit", "(II)Z"⟩
abbrev cX7_commonDivisor : ByteArray := prog_1_method_35_code
def yX7_commonDivisor : MethodName := ⟨RX7, "commonDivisor", "(JJ)J"⟩
def RX8 : String := "NoonTrainsModel"
def TX8 : u_T := fun k => match k with
  | 0 => ("NoonTrainsModel", "row", "[I", true)
  | 1 => ("NoonTrainsModel", "isKept", "[Z", true)
  | 2 => ("NoonTrainsModel", "text", "[I", true)
  | 3 => ("NoonTrainsModel", "length", "I", false)
  | 4 => ("NoonTrainsModel", "read", "[I", true)
  | 5 => ("NoonTrainsModel", "readMany", "I", false)
  | 6 => ("NoonTrainsModel", "stations", "I", false)
  | 7 => ("NoonTrainsModel", "trains", "[I", true)
  | 8 => ("NoonTrainsModel", "trainMany", "I", false)
  | 9 => ("NoonTrainsModel", "start", "I", false)
  | 10 => ("NoonTrainsModel", "tickets", "[I", true)
  | 11 => ("NoonTrainsModel", "show", "I", false)
  | 12 => ("NoonTrainsModel", "seekers", "[I", true)
  | 13 => ("NoonTrainsModel", "at", "I", false)
  | 14 => ("NoonTrainsModel", "place", "I", false)
  | 15 => ("NoonTrainsModel", "end", "I", false)
  | 16 => ("NoonTrainsModel", "readStations", "I", false)
  | 17 => ("NoonTrainsModel", "readTrains", "I", false)
  | 18 => ("NoonTrainsModel", "nextMay", "I", false)
  | 19 => ("NoonTrainsModel", "nextWay", "I", false)
  | 20 => ("NoonTrainsModel", "least", "[I", true)
  | 21 => ("NoonTrainsModel", "logs", "[I", true)
  | 22 => ("NoonTrainsModel", "logMany", "I", false)
  | 23 => ("NoonTrainsModel", "purse", "[I", true)
  | 24 => ("NoonTrainsModel", "comes", "[J", true)
  | _ => ("NoonTrainsModel", "then", "[J", true)
def tyX8 : Nat → FieldType := fun k => match k with
  | 0 => .array .int
  | 1 => .array .boolean
  | 2 => .array .int
  | 3 => .int
  | 4 => .array .int
  | 5 => .int
  | 6 => .int
  | 7 => .array .int
  | 8 => .int
  | 9 => .int
  | 10 => .array .int
  | 11 => .int
  | 12 => .array .int
  | 13 => .int
  | 14 => .int
  | 15 => .int
  | 16 => .int
  | 17 => .int
  | 18 => .int
  | 19 => .int
  | 20 => .array .int
  | 21 => .array .int
  | 22 => .int
  | 23 => .array .int
  | 24 => .array .long
  | _ => .array .long
theorem nmX8 : ∀ a, a < 26 → ∀ b, b < 26 → a ≠ b → (TX8 a).2.1 ≠ (TX8 b).2.1 := by decide +kernel
theorem tyX8_ok : ∀ k, k < 26 → parseFieldDescriptor (TX8 k).2.2.1 = some (tyX8 k) := by decide +kernel
abbrev cX8_init : ByteArray := prog_10_method_1_code
def yX8_init : MethodName := ⟨RX8, "<init>", "()V"⟩
abbrev cX8_in : ByteArray := prog_10_method_2_code
def yX8_in : MethodName := ⟨RX8, "in", "(JJJ)Z"⟩
abbrev cX8_has : ByteArray := prog_10_method_3_code
def yX8_has : MethodName := ⟨RX8, "has", "(II)Z"⟩
abbrev cX8_begin : ByteArray := prog_10_method_4_code
def yX8_begin : MethodName := ⟨RX8, "begin", "()V"⟩
abbrev cX8_write : ByteArray := prog_10_method_5_code
def yX8_write : MethodName := ⟨RX8, "write", "(JI)I"⟩
abbrev cX8_erase : ByteArray := prog_10_method_6_code
def yX8_erase : MethodName := ⟨RX8, "erase", "()I"⟩
abbrev cX8_sort : ByteArray := prog_10_method_7_code
def yX8_sort : MethodName := ⟨RX8, "sort", "(I)I"⟩
abbrev cX8_token : ByteArray := prog_10_method_8_code
def yX8_token : MethodName := ⟨RX8, "token", "()V"⟩
abbrev cX8_isWord : ByteArray := prog_10_method_9_code
def yX8_isWord : MethodName := ⟨RX8, "isWord", "(JI)Z"⟩
abbrev cX8_wordOf : ByteArray := prog_10_method_10_code
def yX8_wordOf : MethodName := ⟨RX8, "wordOf", "()I"⟩
abbrev cX8_reads : ByteArray := prog_10_method_11_code
def yX8_reads : MethodName := ⟨RX8, "reads", "(IIII)Z"⟩
abbrev cX8_readsTrain : ByteArray := prog_10_method_12_code
def yX8_readsTrain : MethodName := ⟨RX8, "readsTrain", "()Z"⟩
abbrev cX8_readsRest : ByteArray := prog_10_method_13_code
def yX8_readsRest : MethodName := ⟨RX8, "readsRest", "(I)Z"⟩
abbrev cX8_readsLine : ByteArray := prog_10_method_14_code
def yX8_readsLine : MethodName := ⟨RX8, "readsLine", "()Z"⟩
abbrev cX8_fault : ByteArray := prog_10_method_15_code
def yX8_fault : MethodName := ⟨RX8, "fault", "()I"⟩
abbrev cX8_tell : ByteArray := prog_10_method_16_code
def yX8_tell : MethodName := ⟨RX8, "tell", "(I)V"⟩
abbrev cX8_land : ByteArray := prog_10_method_17_code
def yX8_land : MethodName := ⟨RX8, "land", "()I"⟩
abbrev cX8_isTrain : ByteArray := prog_10_method_18_code
def yX8_isTrain : MethodName := ⟨RX8, "isTrain", "(I)Z"⟩
abbrev cX8_isSeeker : ByteArray := prog_10_method_19_code
def yX8_isSeeker : MethodName := ⟨RX8, "isSeeker", "(I)Z"⟩
abbrev cX8_train : ByteArray := prog_10_method_20_code
def yX8_train : MethodName := ⟨RX8, "train", "(II)I"⟩
abbrev cX8_leaves : ByteArray := prog_10_method_21_code
def yX8_leaves : MethodName := ⟨RX8, "leaves", "(III)Z"⟩
abbrev cX8_runs : ByteArray := prog_10_method_22_code
def yX8_runs : MethodName := ⟨RX8, "runs", "(II)I"⟩
abbrev cX8_as : ByteArray := prog_10_method_23_code
def yX8_as : MethodName := ⟨RX8, "as", "(II)I"⟩
abbrev cX8_ridable : ByteArray := prog_10_method_24_code
def yX8_ridable : MethodName := ⟨RX8, "ridable", "(I)I"⟩
abbrev cX8_hisTrains : ByteArray := prog_10_method_25_code
def yX8_hisTrains : MethodName := ⟨RX8, "hisTrains", "()I"⟩
abbrev cX8_ride : ByteArray := prog_10_method_26_code
def yX8_ride : MethodName := ⟨RX8, "ride", "(I)I"⟩
abbrev cX8_send : ByteArray := prog_10_method_27_code
def yX8_send : MethodName := ⟨RX8, "send", "(II)I"⟩
abbrev cX8_layBy : ByteArray := prog_10_method_28_code
def yX8_layBy : MethodName := ⟨RX8, "layBy", "(I)V"⟩
abbrev cX8_layByNone : ByteArray := prog_10_method_29_code
def yX8_layByNone : MethodName := ⟨RX8, "layByNone", "()V"⟩
abbrev cX8_nextOf : ByteArray := prog_10_method_30_code
def yX8_nextOf : MethodName := ⟨RX8, "nextOf", "()I"⟩
abbrev cX8_noon : ByteArray := prog_10_method_31_code
def yX8_noon : MethodName := ⟨RX8, "noon", "()I"⟩
abbrev cX8_he : ByteArray := prog_10_method_32_code
def yX8_he : MethodName := ⟨RX8, "he", "(I)I"⟩
abbrev cX8_seeker : ByteArray := prog_10_method_33_code
def yX8_seeker : MethodName := ⟨RX8, "seeker", "(I)I"⟩
abbrev cX8_may : ByteArray := prog_10_method_34_code
def yX8_may : MethodName := ⟨RX8, "may", "()I"⟩
abbrev cX8_way : ByteArray := prog_10_method_35_code
def yX8_way : MethodName := ⟨RX8, "way", "()I"⟩
abbrev cX8_next : ByteArray := prog_10_method_36_code
def yX8_next : MethodName := ⟨RX8, "next", "()I"⟩
abbrev cX8_letter : ByteArray := prog_10_method_37_code
def yX8_letter : MethodName := ⟨RX8, "letter", "()I"⟩
abbrev cX8_bits : ByteArray := prog_10_method_38_code
def yX8_bits : MethodName := ⟨RX8, "bits", "(I)I"⟩
abbrev cX8_nightsFrom : ByteArray := prog_10_method_39_code
def yX8_nightsFrom : MethodName := ⟨RX8, "nightsFrom", "(III)I"⟩
abbrev cX8_reach : ByteArray := prog_10_method_40_code
def yX8_reach : MethodName := ⟨RX8, "reach", "(III)I"⟩
abbrev cX8_shut : ByteArray := prog_10_method_41_code
def yX8_shut : MethodName := ⟨RX8, "shut", "(I)I"⟩
abbrev cX8_hides : ByteArray := prog_10_method_42_code
def yX8_hides : MethodName := ⟨RX8, "hides", "(I)I"⟩
abbrev cX8_placeOf : ByteArray := prog_10_method_43_code
def yX8_placeOf : MethodName := ⟨RX8, "placeOf", "(IIII)I"⟩
abbrev cX8_worst : ByteArray := prog_10_method_44_code
def yX8_worst : MethodName := ⟨RX8, "worst", "(IIII)I"⟩
abbrev cX8_bestFrom : ByteArray := prog_10_method_45_code
def yX8_bestFrom : MethodName := ⟨RX8, "bestFrom", "(IIIII)I"⟩
abbrev cX8_chaseBy : ByteArray := prog_10_method_46_code
def yX8_chaseBy : MethodName := ⟨RX8, "chaseBy", "(I)I"⟩
abbrev cX8_isNoChase : ByteArray := prog_10_method_47_code
def yX8_isNoChase : MethodName := ⟨RX8, "isNoChase", "()Z"⟩
abbrev cX8_chase : ByteArray := prog_10_method_48_code
def yX8_chase : MethodName := ⟨RX8, "chase", "()I"⟩
abbrev cX8_closed : ByteArray := prog_10_method_49_code
def yX8_closed : MethodName := ⟨RX8, "closed", "(I)I"⟩
abbrev cX8_log : ByteArray := prog_10_method_50_code
def yX8_log : MethodName := ⟨RX8, "log", "(I)I"⟩
abbrev cX8_burn : ByteArray := prog_10_method_51_code
def yX8_burn : MethodName := ⟨RX8, "burn", "()I"⟩
abbrev cX8_judge : ByteArray := prog_10_method_52_code
def yX8_judge : MethodName := ⟨RX8, "judge", "()I"⟩
abbrev cX8_addThen : ByteArray := prog_10_method_53_code
def yX8_addThen : MethodName := ⟨RX8, "addThen", "(IJ)V"⟩
abbrev cX8_rideLate : ByteArray := prog_10_method_54_code
def yX8_rideLate : MethodName := ⟨RX8, "rideLate", "(II)V"⟩
abbrev cX8_divisor : ByteArray := prog_10_method_55_code
def yX8_divisor : MethodName := ⟨RX8, "divisor", "(JJ)J"⟩
abbrev cX8_late : ByteArray := prog_10_method_56_code
def yX8_late : MethodName := ⟨RX8, "late", "(III)J"⟩
abbrev cX8_copy : ByteArray := prog_10_method_57_code
def yX8_copy : MethodName := ⟨RX8, "copy", "(II)V"⟩
abbrev cX8_keep : ByteArray := prog_10_method_58_code
def yX8_keep : MethodName := ⟨RX8, "keep", "(I)I"⟩
abbrev cX8_back : ByteArray := prog_10_method_59_code
def yX8_back : MethodName := ⟨RX8, "back", "(I)I"⟩
abbrev cX8_count : ByteArray := prog_10_method_60_code
def yX8_count : MethodName := ⟨RX8, "count", "(I)I"⟩
def RJx145de : String := "java/io/Serializable"
def RJx9f9b0 : String := "java/lang/CharSequence"
def RJxb160c : String := "java/lang/Comparable"
def RJ6 : String := "java/lang/Integer"
abbrev cJ6_bitCount_0f7a4 : ByteArray := prog_11_method_49_code
def yJ6_bitCount_0f7a4 : MethodName := ⟨RJ6, "bitCount", "(I)I"⟩
def RJ9 : String := "java/lang/Math"
abbrev cJ9_max_7cf53 : ByteArray := prog_12_method_65_code
def yJ9_max_7cf53 : MethodName := ⟨RJ9, "max", "(II)I"⟩
abbrev cJ9_min_7cf53 : ByteArray := prog_12_method_69_code
def yJ9_min_7cf53 : MethodName := ⟨RJ9, "min", "(II)I"⟩
def RJ0 : String := "java/lang/String"
abbrev cJ0_length_8abf5 : ByteArray := prog_13_method_54_code
def yJ0_length_8abf5 : MethodName := ⟨RJ0, "length", "()I"⟩
abbrev cJ0_charAt_5068e : ByteArray := prog_13_method_56_code
def yJ0_charAt_5068e : MethodName := ⟨RJ0, "charAt", "(I)C"⟩
abbrev cJ0_coder_7d493 : ByteArray := prog_13_method_152_code
def yJ0_coder_7d493 : MethodName := ⟨RJ0, "coder", "()B"⟩
abbrev cJ0_isLatin1_aae02 : ByteArray := prog_13_method_154_code
def yJ0_isLatin1_aae02 : MethodName := ⟨RJ0, "isLatin1", "()Z"⟩
abbrev cJ0_checkIndex_df160 : ByteArray := prog_13_method_155_code
def yJ0_checkIndex_df160 : MethodName := ⟨RJ0, "checkIndex", "(II)V"⟩
def RJ1 : String := "java/lang/StringLatin1"
abbrev cJ1_charAt_3b067 : ByteArray := prog_14_method_2_code
def yJ1_charAt_3b067 : MethodName := ⟨RJ1, "charAt", "([BI)C"⟩
def RJ2 : String := "java/lang/StringUTF16"
abbrev cJ2_getChar_3b067 : ByteArray := prog_15_method_5_code
def yJ2_getChar_3b067 : MethodName := ⟨RJ2, "getChar", "([BI)C"⟩
abbrev cJ2_length_9d52b : ByteArray := prog_15_method_6_code
def yJ2_length_9d52b : MethodName := ⟨RJ2, "length", "([B)I"⟩
abbrev cJ2_charAt_3b067 : ByteArray := prog_15_method_83_code
def yJ2_charAt_3b067 : MethodName := ⟨RJ2, "charAt", "([BI)C"⟩
abbrev cJ2_checkIndex_2214a : ByteArray := prog_15_method_91_code
def yJ2_checkIndex_2214a : MethodName := ⟨RJ2, "checkIndex", "(I[B)V"⟩
def RJ10 : String := "java/lang/System"
def RJxfd54e : String := "java/lang/constant/Constable"
def RJx3cf43 : String := "java/lang/constant/ConstantDesc"
def RJ7 : String := "java/util/Arrays"
abbrev cJ7_fill_d0a16 : ByteArray := prog_17_method_101_code
def yJ7_fill_d0a16 : MethodName := ⟨RJ7, "fill", "([JJ)V"⟩
abbrev cJ7_fill_53178 : ByteArray := prog_17_method_103_code
def yJ7_fill_53178 : MethodName := ⟨RJ7, "fill", "([II)V"⟩
def RJ3 : String := "jdk/internal/util/Preconditions"
abbrev cJ3_checkIndex_8e157 : ByteArray := prog_18_method_11_code
def yJ3_checkIndex_8e157 : MethodName := ⟨RJ3, "checkIndex", "(IILjava/util/function/BiFunction;)I"⟩
def RL : String := "NoonTrainsLaw"
abbrev cL_law : ByteArray := code
def yL_law : MethodName := ⟨RL, "law", "([I)Z"⟩
abbrev vwCl : List vw_C := [(RX0, TX0, 6), (RX1, TX1, 7), (RX2, TX2, 10), (RX3, TX3, 7), (RX4, TX4, 6), (RX5, TX5, 12), (RX6, TX6, 2), (RX7, TX7, 10), (RX8, TX8, 26)]
end
section
/-! The world: fifty cells at addresses gA g; numbers in w.1 (cell, slot or place), longs in w.2 -/
abbrev Wd : Type := (Nat → Nat → Int32) × (Nat → Nat → Int64)
/-- class ids and slots; array classes (int, char, long, boolean); addresses of the cells; of the string constants; of their bytes -/
abbrev GG : Type := va_G × (ClassId × ClassId × ClassId × ClassId) × (Nat → Nat) × (Nat → Nat) × (Nat → Nat)
def gD (g : GG) : va_G := g.1
def gA (g : GG) : Nat → Nat := g.2.2.1
def gK (g : GG) : Nat → Nat := g.2.2.2.1
def gV (g : GG) : Nat → Nat := g.2.2.2.2
def tyl (g : GG) : List (ClassId × FieldType) := [(g.2.1.1, .int), (g.2.1.2.1, .char), (g.2.1.2.2.1, .long), (g.2.1.2.2.2, .boolean)]
def cellE (g : GG) (w : Wd) : Nat → va_E
  | 0 => .inr (7, [.ref (gA g 1), .ref (gA g 3), .ref (gA g 7), .ref (gA g 13), .ref (gA g 17), .ref (gA g 21), .ref (gA g 25), .ref (gA g 26), .ref (gA g 32), .int (w.1 0 9)])
  | 1 => .inr (6, [.ref (gA g 2), .int (w.1 1 1)])
  | 2 => .inl (g.2.1.2.1, 200, .inl (w.1 2))
  | 3 => .inr (1, [.int (w.1 3 0), .int (w.1 3 1), .int (w.1 3 2), .int (w.1 3 3), .ref (gA g 4), .ref (gA g 5), .ref (gA g 6)])
  | 4 => .inl (g.2.1.1, 72, .inl (w.1 4))
  | 5 => .inl (g.2.1.1, 3, .inl (w.1 5))
  | 6 => .inl (g.2.1.1, 2, .inl (w.1 6))
  | 7 => .inr (3, [.ref (gA g 1), .ref (gA g 8), .int (w.1 7 2), .ref (gA g 12), .int (w.1 7 4), .int (w.1 7 5), .int (w.1 7 6)])
  | 8 => .inr (1, [.int (w.1 8 0), .int (w.1 8 1), .int (w.1 8 2), .int (w.1 8 3), .ref (gA g 9), .ref (gA g 10), .ref (gA g 11)])
  | 9 => .inl (g.2.1.1, 72, .inl (w.1 9))
  | 10 => .inl (g.2.1.1, 3, .inl (w.1 10))
  | 11 => .inl (g.2.1.1, 2, .inl (w.1 11))
  | 12 => .inl (g.2.1.1, 6, .inl (w.1 12))
  | 13 => .inr (5, [.ref (gA g 3), .int (w.1 13 1), .int (w.1 13 2), .int (w.1 13 3), .int (w.1 13 4), .int (w.1 13 5), .ref (gA g 14), .ref (gA g 15), .ref (gA g 16), .int (w.1 13 9), .int (w.1 13 10), .int (w.1 13 11)])
  | 14 => .inl (g.2.1.1, 3, .inl (w.1 14))
  | 15 => .inl (g.2.1.1, 2, .inl (w.1 15))
  | 16 => .inl (g.2.1.1, 2, .inl (w.1 16))
  | 17 => .inr (5, [.ref (gA g 3), .int (w.1 17 1), .int (w.1 17 2), .int (w.1 17 3), .int (w.1 17 4), .int (w.1 17 5), .ref (gA g 18), .ref (gA g 19), .ref (gA g 20), .int (w.1 17 9), .int (w.1 17 10), .int (w.1 17 11)])
  | 18 => .inl (g.2.1.1, 3, .inl (w.1 18))
  | 19 => .inl (g.2.1.1, 2, .inl (w.1 19))
  | 20 => .inl (g.2.1.1, 2, .inl (w.1 20))
  | 21 => .inr (5, [.ref (gA g 3), .int (w.1 21 1), .int (w.1 21 2), .int (w.1 21 3), .int (w.1 21 4), .int (w.1 21 5), .ref (gA g 22), .ref (gA g 23), .ref (gA g 24), .int (w.1 21 9), .int (w.1 21 10), .int (w.1 21 11)])
  | 22 => .inl (g.2.1.1, 3, .inl (w.1 22))
  | 23 => .inl (g.2.1.1, 2, .inl (w.1 23))
  | 24 => .inl (g.2.1.1, 2, .inl (w.1 24))
  | 25 => .inr (0, [.ref (gA g 3), .ref (gA g 13), .int (w.1 25 2), .int (w.1 25 3), .int (w.1 25 4), .int (w.1 25 5)])
  | 26 => .inr (2, [.ref (gA g 3), .ref (gA g 13), .ref (gA g 27), .ref (gA g 28), .ref (gA g 29), .ref (gA g 30), .ref (gA g 31), .int (w.1 26 7), .int (w.1 26 8), .int (w.1 26 9)])
  | 27 => .inl (g.2.1.1, 448, .inl (w.1 27))
  | 28 => .inl (g.2.1.1, 448, .inl (w.1 28))
  | 29 => .inl (g.2.1.1, 448, .inl (w.1 29))
  | 30 => .inl (g.2.1.1, 12, .inl (w.1 30))
  | 31 => .inl (g.2.1.1, 12, .inl (w.1 31))
  | 32 => .inr (4, [.ref (gA g 3), .ref (gA g 33), .int (w.1 32 2), .ref (gA g 34), .ref (gA g 35), .ref (gA g 36)])
  | 33 => .inl (g.2.1.1, 12, .inl (w.1 33))
  | 34 => .inl (g.2.1.1, 3, .inl (w.1 34))
  | 35 => .inl (g.2.1.2.2.1, 41, .inr (.inl (w.2 35)))
  | 36 => .inl (g.2.1.2.2.1, 41, .inr (.inl (w.2 36)))
  | 37 => .inr (8, [.ref (gA g 38), .ref (gA g 39), .ref (gA g 40), .int (w.1 37 3), .ref (gA g 41), .int (w.1 37 5), .int (w.1 37 6), .ref (gA g 42), .int (w.1 37 8), .int (w.1 37 9), .ref (gA g 43), .int (w.1 37 11), .ref (gA g 44), .int (w.1 37 13), .int (w.1 37 14), .int (w.1 37 15), .int (w.1 37 16), .int (w.1 37 17), .int (w.1 37 18), .int (w.1 37 19), .ref (gA g 45), .ref (gA g 46), .int (w.1 37 22), .ref (gA g 47), .ref (gA g 48), .ref (gA g 49)])
  | 38 => .inl (g.2.1.1, 45, .inl (w.1 38))
  | 39 => .inl (g.2.1.2.2.2, 2, .inl (w.1 39))
  | 40 => .inl (g.2.1.1, 200, .inl (w.1 40))
  | 41 => .inl (g.2.1.1, 70, .inl (w.1 41))
  | 42 => .inl (g.2.1.1, 72, .inl (w.1 42))
  | 43 => .inl (g.2.1.1, 3, .inl (w.1 43))
  | 44 => .inl (g.2.1.1, 2, .inl (w.1 44))
  | 45 => .inl (g.2.1.1, 6656, .inl (w.1 45))
  | 46 => .inl (g.2.1.1, 12, .inl (w.1 46))
  | 47 => .inl (g.2.1.1, 3, .inl (w.1 47))
  | 48 => .inl (g.2.1.2.2.1, 41, .inr (.inl (w.2 48)))
  | 49 => .inl (g.2.1.2.2.1, 41, .inr (.inl (w.2 49)))
  | _ => .inr (0, [])
/-- a number, a long set -/
def sI (w : Wd) (c k : Nat) (v : Int32) : Wd := (fun a => if a = c then upd (w.1 a) k v else w.1 a, w.2)
def sJ (w : Wd) (c k : Nat) (v : Int64) : Wd := (w.1, fun a => if a = c then vp_updL (w.2 a) k v else w.2 a)
def cI (w : Wd) (src sp dst dp n : Nat) : Wd := (fun a => if a = dst then va_cpy (w.1 src) (w.1 dst) sp dp n else w.1 a, w.2)
def cJ (w : Wd) (src sp dst dp n : Nat) : Wd := (w.1, fun a => if a = dst then va_cpy (w.2 src) (w.2 dst) sp dp n else w.2 a)
theorem sI_1 (w : Wd) (c k : Nat) (v : Int32) (a b : Nat) : (sI w c k v).1 a b = if a = c ∧ b = k then v else w.1 a b := by
  unfold sI
  by_cases h : a = c
  · by_cases h2 : b = k <;> simp [h, h2, upd]
  · simp [h]
theorem sI_2 (w : Wd) (c k : Nat) (v : Int32) : (sI w c k v).2 = w.2 := rfl
theorem sJ_1 (w : Wd) (c k : Nat) (v : Int64) : (sJ w c k v).1 = w.1 := rfl
theorem sJ_2 (w : Wd) (c k : Nat) (v : Int64) (a b : Nat) : (sJ w c k v).2 a b = if a = c ∧ b = k then v else w.2 a b := by
  unfold sJ
  by_cases h : a = c
  · by_cases h2 : b = k <;> simp [h, h2, vp_updL]
  · simp [h]
theorem cI_1 (w : Wd) (src sp dst dp n a b : Nat) : (cI w src sp dst dp n).1 a b = if a = dst ∧ dp ≤ b ∧ b < dp + n then w.1 src (sp + (b - dp)) else w.1 a b := by
  unfold cI
  by_cases h : a = dst
  · by_cases h2 : dp ≤ b ∧ b < dp + n <;> simp [h, h2, va_cpy]
  · simp [h]
theorem cI_2 (w : Wd) (src sp dst dp n : Nat) : (cI w src sp dst dp n).2 = w.2 := rfl
theorem cJ_1 (w : Wd) (src sp dst dp n : Nat) : (cJ w src sp dst dp n).1 = w.1 := rfl
theorem cJ_2 (w : Wd) (src sp dst dp n a b : Nat) : (cJ w src sp dst dp n).2 a b = if a = dst ∧ dp ≤ b ∧ b < dp + n then w.2 src (sp + (b - dp)) else w.2 a b := by
  unfold cJ
  by_cases h : a = dst
  · by_cases h2 : dp ≤ b ∧ b < dp + n <;> simp [h, h2, va_cpy]
  · simp [h]
theorem cellE_congr {g : GG} {w w' : Wd} {c : Nat} (h1 : w'.1 c = w.1 c) (h2 : w'.2 c = w.2 c) : cellE g w' c = cellE g w c := by
  unfold cellE
  split <;> simp_all
theorem cellE_sI {g : GG} {w : Wd} {c k a : Nat} {v : Int32} (h : a ≠ c) : cellE g (sI w c k v) a = cellE g w a := cellE_congr (if_neg h) rfl
theorem cellE_sJ {g : GG} {w : Wd} {c k a : Nat} {v : Int64} (h : a ≠ c) : cellE g (sJ w c k v) a = cellE g w a := cellE_congr rfl (if_neg h)
theorem cellE_cI {g : GG} {w : Wd} {src sp dst dp n a : Nat} (h : a ≠ dst) : cellE g (cI w src sp dst dp n) a = cellE g w a := cellE_congr (if_neg h) rfl
theorem cellE_cJ {g : GG} {w : Wd} {src sp dst dp n a : Nat} (h : a ≠ dst) : cellE g (cJ w src sp dst dp n) a = cellE g w a := cellE_congr rfl (if_neg h)
/-- the class's side (true) or the reference's, and the other side's world -/
abbrev Sd : Type := Bool × Wd
def EE (g : GG) (σ : Sd) (w : Wd) : va_W := (List.range 50).map (fun c => (gA g c, if decide (c < 37) = σ.1 then cellE g w c else cellE g σ.2 c))
def AD (g : GG) : Nat → Prop := fun q => ∃ c, c < 50 ∧ q = gA g c
def OKg (g : GG) : Prop := ∀ i j, i < 50 → j < 50 → gA g i = gA g j → i = j
theorem EE_at {g : GG} {σ : Sd} {w : Wd} {c : Nat} (hc : c < 50) : (EE g σ w)[c]? = some (gA g c, if decide (c < 37) = σ.1 then cellE g w c else cellE g σ.2 c) := by
  unfold EE
  rw [List.getElem?_map, List.getElem?_range hc]
  rfl
theorem EE_get {g : GG} {σ : Sd} {w : Wd} {c : Nat} (hc : c < 50) (hs : decide (c < 37) = σ.1) : (EE g σ w)[c]? = some (gA g c, cellE g w c) := by
  rw [EE_at hc, if_pos hs]
theorem EE_len {g : GG} {σ : Sd} {w : Wd} : (EE g σ w).length = 50 := by simp [EE]
theorem EE_set {g : GG} {σ : Sd} {w w' : Wd} {c : Nat} (hc : c < 50) (hs : decide (c < 37) = σ.1) (h : ∀ a, a ≠ c → cellE g w' a = cellE g w a) : (EE g σ w).set c (gA g c, cellE g w' c) = EE g σ w' := by
  apply List.ext_getElem?
  intro k
  by_cases hk : k = c
  · subst hk
    rw [List.getElem?_set_self (by rw [EE_len]; exact hc), EE_get hc hs]
  · rw [List.getElem?_set_ne (Ne.symm hk)]
    by_cases h50 : k < 50
    · rw [EE_at h50, EE_at h50, h k hk]
    · rw [List.getElem?_eq_none (by rw [EE_len]; omega), List.getElem?_eq_none (by rw [EE_len]; omega)]
theorem EE_D {g : GG} (hg : OKg g) {σ : Sd} {w : Wd} : va_D (AD g) (EE g σ w) := by
  have key : ∀ (k : Nat) (q : Nat × va_E), (EE g σ w)[k]? = some q → k < 50 ∧ q.1 = gA g k := by
    intro k q hq
    have hk : k < 50 := by
      have := (List.getElem?_eq_some_iff.mp hq).1
      rwa [EE_len] at this
    rw [EE_at hk] at hq
    cases hq
    exact ⟨hk, rfl⟩
  refine ⟨fun i j p q hi hj hpq => ?_, fun k q hk => ?_⟩
  · obtain ⟨a1, a2⟩ := key i p hi
    obtain ⟨b1, b2⟩ := key j q hj
    exact hg i j a1 b1 (by rw [← a2, ← b2]; exact hpq)
  · obtain ⟨a1, a2⟩ := key k q hk
    exact ⟨k, a1, a2⟩
/-- string constants of the reader, in their order -/
def sLen : List Nat := [4, 5, 5, 7, 4, 6]
def sByt : List (List Int32) := [[108, 97, 110, 100], [116, 114, 97, 105, 110], [115, 116, 97, 114, 116], [116, 105, 99, 107, 101, 116, 115], [115, 104, 111, 119], [115, 101, 101, 107, 101, 114]]
def sIdx : List Nat := [86, 92, 94, 96, 98, 100]
def sTxt : List String := ["land", "train", "start", "tickets", "show", "seeker"]
def SK (g : GG) (U : State) (H : Heap) : Prop := vk_S 6 sLen sByt (gK g) (gV g) (AD g) U H ∧ (∀ i, i < 6 → vk_R RX3 (sIdx.getD i 0) (sTxt.getD i "") (gK g i) U) ∧ va_Z "java/lang/String" "COMPACT_STRINGS" "Z" (.int 1) (AD g) U H ∧ va_Zq "jdk/internal/util/Preconditions" "SIOOBE_FORMATTER" "Ljava/util/function/BiFunction;" (AD g) U H
theorem SK.warm {g : GG} {s U : State} {H : Heap} (hW : s.WarmedH U.vm) (h : SK g s H) : SK g U H := ⟨h.1.moved hW.alike, fun i hi => (h.2.1 i hi).warm hW, h.2.2.1.moved hW.alike, h.2.2.2.moved hW.alike⟩
theorem SK.same {g : GG} {u U : State} {H : Heap} (hv : U.vm = u.vm) (h : SK g u H) : SK g U H := ⟨h.1.moved (by rw [hv]; exact Vm.Alike.refl _), fun i hi => (h.2.1 i hi).same hv, h.2.2.1.moved (by rw [hv]; exact Vm.Alike.refl _), h.2.2.2.moved (by rw [hv]; exact Vm.Alike.refl _)⟩
theorem SK.kept {g : GG} {U : State} {H H1 : Heap} (h : SK g U H) (hq : ∀ a : Nat, a < H.size → ¬ AD g a → H1[a]? = H[a]?) : SK g U H1 := ⟨h.1.kept hq, h.2.1, h.2.2.1.kept hq, h.2.2.2.kept hq⟩
/-- the words of nest mates -/
def nstF : List (String × Nat × String × String × String) := [(RX5, 44, RX1, "tickets", "[I"), (RX4, 37, RX1, "tickets", "[I"), (RX5, 51, RX1, "seekers", "[I")]
def nstM : List (String × Nat × MethodName) := [(RX7, 11, yX6_init), (RX7, 18, yX1_init), (RX3, 11, yX1_init), (RX0, 42, yX7_hasBit), (RX1, 46, yX7_within), (RX1, 50, yX7_isSeeker), (RX1, 65, yX7_hasBit), (RX2, 96, yX7_within), (RX3, 118, yX7_isSeeker), (RX3, 83, yX7_within), (RX4, 33, yX7_within), (RX5, 80, yX7_within), (RX5, 95, yX7_isSeeker), (RX6, 19, yX7_within)]
def Nst (U : State) : Prop := (∀ q ∈ nstF, va_Nw (.fieldLinkNest q.1 q.2.1 q.2.2.1 q.2.2.2.1 q.2.2.2.2 RX7) U) ∧ ∀ q ∈ nstM, va_Nw (.methodLinkNest q.1 q.2.1 q.2.2 RX7) U
theorem Nst.warm {s U : State} (hW : s.WarmedH U.vm) (h : Nst s) : Nst U := ⟨fun q hq => (h.1 q hq).warmF hW, fun q hq => (h.2 q hq).warmM hW⟩
theorem Nst.same {u U : State} (hv : u.vm = U.vm) (h : Nst u) : Nst U := ⟨fun q hq => (h.1 q hq).same rfl hv, fun q hq => (h.2 q hq).same rfl hv⟩
/-- the good words of the tables -/
def TB : List Cond := lw_tbl.filter goodWord
theorem tb_of {w : Cond} (i : Nat) (h : lw_tbl[i]? = some w) (hg : goodWord w = true) : w ∈ TB := List.mem_filter.mpr ⟨List.mem_of_getElem? h, hg⟩
theorem tb_good {ws : List Cond} (h : ∀ w ∈ ws, w ∈ TB) : GoodIn TB ws := fun w hw => ⟨h w hw, good_of_word (List.mem_filter.mp (h w hw)).2⟩
theorem tb_code {y : MethodName} {cc : ByteArray} {n : Nat} {r : Option FieldType} (h : Cond.code y cc n r ∈ TB) : GoodIn TB (.code y cc n r :: TB) := tb_good (fun w hw => (List.mem_cons.mp hw).elim (fun e => e ▸ h) id)
/-- what a state holds -/
def HD (g : GG) (σ : Sd) (w : Wd) (U : State) : Prop := va_P (gD g) vwCl (EE g σ w) U.heap ∧ va_K (gD g) vwCl (tyl g) U ∧ Nst U ∧ SK g U U.heap
def QQ (g : GG) (σ : Sd) (r : Option Value) (w' : Wd) : Array Value → State → Outcome → State → Prop := fun _ st o t => o = .returned r ∧ va_P (gD g) vwCl (EE g σ w') t.heap ∧ va_F (AD g) st t
/-- a contract: with these arguments, in this world, it answers r and leaves the world w' -/
def CT (l : Launch) (g : GG) (σ : Sd) (y : MethodName) (cc : ByteArray) (nL : Nat) (ret : Option FieldType) (fr lo : Nat) (av : List Value) (w : Wd) (r : Option Value) (w' : Wd) : Prop :=
  Met l y (.code y cc nL ret :: TB) { frames := fr, cells := 0, slots := 0, locals := lo } (va_Pc av (fun U => HD g σ w U)) (QQ g σ r w') 0 0 (AD g)
theorem HD_blind {g : GG} {σ : Sd} {w : Wd} {av : List Value} : FrameBlind (va_Pc av (fun U => HD g σ w U)) := by
  intro a U f mk h
  obtain ⟨h0, hP, hK, hN, hS⟩ := h
  exact ⟨h0, hP, va_K.moved (u := U) (U := U.calling f mk a) (Vm.Alike.refl U.vm) hK, hN.same rfl, SK.same (u := U) (U := U.calling f mk a) rfl hS⟩
abbrev Ctx : Type := Program × Launch × Env × Room × State × MethodId × Array Value × List Frame × Method × Code × GG × Sd
/-- at pc, with locals lv and stack st, in world w, the method goes on to what 'res' says (if it says something) -/
def N (K : Ctx) {ρ : Type} (rt : ρ → Option Value × Wd) (res : Option ρ) (w : Wd) (pc : Nat) (lv : List (Nat × Value)) (st : List Value) : Prop :=
  match K with
  | (p, l, e, R, s, m, args, below, meth, c, g, σ) => ∀ q, res = some q → ∀ (H : Heap) (locs : List Loc) (ls : Array Slot), va_P (gD g) vwCl (EE g σ w) H → va_S (AD g) s.heap H locs → lv_has ls c.maxLocals lv →
    W p l e R s m args below meth c H locs 0 0 (MQ below (QQ g σ (rt q).1 (rt q).2) args s 0 0 (AD g)) (F0 m pc ls st)
/-- what is fixed in a method's body -/
def Fx (K : Ctx) (cc : ByteArray) (nL : Nat) (own : String) (ret : Option FieldType) (fr lo : Nat) (b : Bool) : Prop :=
  match K with
  | (p, _, _, R, s, m, args, _, meth, c, g, σ) => p.tables.exec = Jvm.exec ∧ c.code = cc ∧ c.maxLocals = nL ∧ s.vm.findClass own = some m.cls ∧ (∀ w ∈ TB, w.before args s = true) ∧ va_K (gD g) vwCl (tyl g) s ∧ Nst s ∧ SK g s s.heap ∧ OKg g ∧ meth.locks = false ∧ meth.sig.returnType = ret ∧ R = { frames := fr, cells := 0, slots := 0, locals := lo } ∧ σ.1 = b
/-- a method's body gives its contract -/
theorem ct_of {l : Launch} {g : GG} {σ : Sd} {y : MethodName} {cc : ByteArray} {nL : Nat} {ret : Option FieldType} {fr lo : Nat} {av : List Value} {w : Wd} {ρ : Type} {rt : ρ → Option Value × Wd} {res : Option ρ} {q : ρ} {own : String} {b : Bool} (hg : OKg g) (hb : σ.1 = b) (hy : plainName y.cls = true) (ho : y.cls = own) (hn : (lg_sl av).length ≤ nL) (hq : res = some q)
    (body : ∀ K : Ctx, K.2.2.2.2.2.2.2.2.2.2.1 = g → K.2.2.2.2.2.2.2.2.2.2.2 = σ → K.2.1 = l → Fx K cc nL own ret fr lo b → N K rt res w 0 (lv_args 0 av) []) : CT l g σ y cc nL ret fr lo av w (rt q).1 (rt q).2 := by
  refine Met.ofW (cc := cc) (maxL := nL) (ret := ret) hy rfl ?_
  intro p e s m args below meth c s₁ B hml hv
  obtain ⟨rfl, hP, hK, hN, hS⟩ := hv
  have hts := atoms_spec (ws := Cond.code y cc nL ret :: TB) B.pre
  have hown : s.vm.findClass own = some m.cls := ho ▸ findClass_of_methodNamed B.named
  have hl := lv_entry av (n := nL) hn
  rw [lg_entry_eq]
  exact body (p, l, e, _, s, m, _, below, meth, c, g, σ) rfl rfl rfl ⟨B.exec, B.bytes, hml, hown, fun w hw => hts w (List.mem_cons_of_mem _ hw), hK, hN, hS, hg, B.notSynchronized, B.returns, rfl, hb⟩ q hq s.heap [] _ hP va_S.rf (by rw [hml]; exact hl)
end
section
theorem n_iadd {K : Ctx} {cc : ByteArray} {nL : Nat} {own : String} {ret : Option FieldType} {fr lo : Nat} {b : Bool} {ρ : Type} {rt : ρ → Option Value × Wd} {res : Option ρ} {w : Wd} {pc : Nat} {lv : List (Nat × Value)} {st : List Value} (F : Fx K cc nL own ret fr lo b) {x y : Int32} (hd : decode cc pc = .ok (.iadd, 1)) (k : N K rt res w (pc + 1) lv (.int (x + y) :: st)) : N K rt res w pc lv (.int y :: .int x :: st) := by
  obtain ⟨p, l, e, R, s, m, args, below, meth, c, g, σ⟩ := K
  obtain ⟨hx, hb, hml, hown, hts, hK, hN, hSK, hg, hlk, hrt, hR, hσ⟩ := F
  exact fun q hq H locs ls hP hS hl => lv_iadd hx hb hd (k q hq H locs ls hP hS hl)
theorem n_isub {K : Ctx} {cc : ByteArray} {nL : Nat} {own : String} {ret : Option FieldType} {fr lo : Nat} {b : Bool} {ρ : Type} {rt : ρ → Option Value × Wd} {res : Option ρ} {w : Wd} {pc : Nat} {lv : List (Nat × Value)} {st : List Value} (F : Fx K cc nL own ret fr lo b) {x y : Int32} (hd : decode cc pc = .ok (.isub, 1)) (k : N K rt res w (pc + 1) lv (.int (x - y) :: st)) : N K rt res w pc lv (.int y :: .int x :: st) := by
  obtain ⟨p, l, e, R, s, m, args, below, meth, c, g, σ⟩ := K
  obtain ⟨hx, hb, hml, hown, hts, hK, hN, hSK, hg, hlk, hrt, hR, hσ⟩ := F
  exact fun q hq H locs ls hP hS hl => lv_isub hx hb hd (k q hq H locs ls hP hS hl)
theorem n_imul {K : Ctx} {cc : ByteArray} {nL : Nat} {own : String} {ret : Option FieldType} {fr lo : Nat} {b : Bool} {ρ : Type} {rt : ρ → Option Value × Wd} {res : Option ρ} {w : Wd} {pc : Nat} {lv : List (Nat × Value)} {st : List Value} (F : Fx K cc nL own ret fr lo b) {x y : Int32} (hd : decode cc pc = .ok (.imul, 1)) (k : N K rt res w (pc + 1) lv (.int (x * y) :: st)) : N K rt res w pc lv (.int y :: .int x :: st) := by
  obtain ⟨p, l, e, R, s, m, args, below, meth, c, g, σ⟩ := K
  obtain ⟨hx, hb, hml, hown, hts, hK, hN, hSK, hg, hlk, hrt, hR, hσ⟩ := F
  exact fun q hq H locs ls hP hS hl => lv_imul hx hb hd (k q hq H locs ls hP hS hl)
theorem n_iand {K : Ctx} {cc : ByteArray} {nL : Nat} {own : String} {ret : Option FieldType} {fr lo : Nat} {b : Bool} {ρ : Type} {rt : ρ → Option Value × Wd} {res : Option ρ} {w : Wd} {pc : Nat} {lv : List (Nat × Value)} {st : List Value} (F : Fx K cc nL own ret fr lo b) {x y : Int32} (hd : decode cc pc = .ok (.iand, 1)) (k : N K rt res w (pc + 1) lv (.int (x &&& y) :: st)) : N K rt res w pc lv (.int y :: .int x :: st) := by
  obtain ⟨p, l, e, R, s, m, args, below, meth, c, g, σ⟩ := K
  obtain ⟨hx, hb, hml, hown, hts, hK, hN, hSK, hg, hlk, hrt, hR, hσ⟩ := F
  exact fun q hq H locs ls hP hS hl => lv_iand hx hb hd (k q hq H locs ls hP hS hl)
theorem n_ior {K : Ctx} {cc : ByteArray} {nL : Nat} {own : String} {ret : Option FieldType} {fr lo : Nat} {b : Bool} {ρ : Type} {rt : ρ → Option Value × Wd} {res : Option ρ} {w : Wd} {pc : Nat} {lv : List (Nat × Value)} {st : List Value} (F : Fx K cc nL own ret fr lo b) {x y : Int32} (hd : decode cc pc = .ok (.ior, 1)) (k : N K rt res w (pc + 1) lv (.int (x ||| y) :: st)) : N K rt res w pc lv (.int y :: .int x :: st) := by
  obtain ⟨p, l, e, R, s, m, args, below, meth, c, g, σ⟩ := K
  obtain ⟨hx, hb, hml, hown, hts, hK, hN, hSK, hg, hlk, hrt, hR, hσ⟩ := F
  exact fun q hq H locs ls hP hS hl => lv_ior hx hb hd (k q hq H locs ls hP hS hl)
theorem n_ixor {K : Ctx} {cc : ByteArray} {nL : Nat} {own : String} {ret : Option FieldType} {fr lo : Nat} {b : Bool} {ρ : Type} {rt : ρ → Option Value × Wd} {res : Option ρ} {w : Wd} {pc : Nat} {lv : List (Nat × Value)} {st : List Value} (F : Fx K cc nL own ret fr lo b) {x y : Int32} (hd : decode cc pc = .ok (.ixor, 1)) (k : N K rt res w (pc + 1) lv (.int (x ^^^ y) :: st)) : N K rt res w pc lv (.int y :: .int x :: st) := by
  obtain ⟨p, l, e, R, s, m, args, below, meth, c, g, σ⟩ := K
  obtain ⟨hx, hb, hml, hown, hts, hK, hN, hSK, hg, hlk, hrt, hR, hσ⟩ := F
  exact fun q hq H locs ls hP hS hl => lv_ixor hx hb hd (k q hq H locs ls hP hS hl)
theorem n_ishl {K : Ctx} {cc : ByteArray} {nL : Nat} {own : String} {ret : Option FieldType} {fr lo : Nat} {b : Bool} {ρ : Type} {rt : ρ → Option Value × Wd} {res : Option ρ} {w : Wd} {pc : Nat} {lv : List (Nat × Value)} {st : List Value} (F : Fx K cc nL own ret fr lo b) {x y : Int32} (hd : decode cc pc = .ok (.ishl, 1)) (k : N K rt res w (pc + 1) lv (.int (x <<< (y &&& 31)) :: st)) : N K rt res w pc lv (.int y :: .int x :: st) := by
  obtain ⟨p, l, e, R, s, m, args, below, meth, c, g, σ⟩ := K
  obtain ⟨hx, hb, hml, hown, hts, hK, hN, hSK, hg, hlk, hrt, hR, hσ⟩ := F
  exact fun q hq H locs ls hP hS hl => lv_ishl hx hb hd (k q hq H locs ls hP hS hl)
theorem n_ishr {K : Ctx} {cc : ByteArray} {nL : Nat} {own : String} {ret : Option FieldType} {fr lo : Nat} {b : Bool} {ρ : Type} {rt : ρ → Option Value × Wd} {res : Option ρ} {w : Wd} {pc : Nat} {lv : List (Nat × Value)} {st : List Value} (F : Fx K cc nL own ret fr lo b) {x y : Int32} (hd : decode cc pc = .ok (.ishr, 1)) (k : N K rt res w (pc + 1) lv (.int (x >>> (y &&& 31)) :: st)) : N K rt res w pc lv (.int y :: .int x :: st) := by
  obtain ⟨p, l, e, R, s, m, args, below, meth, c, g, σ⟩ := K
  obtain ⟨hx, hb, hml, hown, hts, hK, hN, hSK, hg, hlk, hrt, hR, hσ⟩ := F
  exact fun q hq H locs ls hP hS hl => lv_ishr hx hb hd (k q hq H locs ls hP hS hl)
theorem n_idiv {K : Ctx} {cc : ByteArray} {nL : Nat} {own : String} {ret : Option FieldType} {fr lo : Nat} {b : Bool} {ρ : Type} {rt : ρ → Option Value × Wd} {res : Option ρ} {w : Wd} {pc : Nat} {lv : List (Nat × Value)} {st : List Value} (F : Fx K cc nL own ret fr lo b) {x y : Int32} (hd : decode cc pc = .ok (.idiv, 1)) (hne : ¬ y = 0) (k : N K rt res w (pc + 1) lv (.int (x / y) :: st)) : N K rt res w pc lv (.int y :: .int x :: st) := by
  obtain ⟨p, l, e, R, s, m, args, below, meth, c, g, σ⟩ := K
  obtain ⟨hx, hb, hml, hown, hts, hK, hN, hSK, hg, hlk, hrt, hR, hσ⟩ := F
  exact fun q hq H locs ls hP hS hl => lv_idiv hx hb hd hne (k q hq H locs ls hP hS hl)
theorem n_irem {K : Ctx} {cc : ByteArray} {nL : Nat} {own : String} {ret : Option FieldType} {fr lo : Nat} {b : Bool} {ρ : Type} {rt : ρ → Option Value × Wd} {res : Option ρ} {w : Wd} {pc : Nat} {lv : List (Nat × Value)} {st : List Value} (F : Fx K cc nL own ret fr lo b) {x y : Int32} (hd : decode cc pc = .ok (.irem, 1)) (hne : ¬ y = 0) (k : N K rt res w (pc + 1) lv (.int (x - x / y * y) :: st)) : N K rt res w pc lv (.int y :: .int x :: st) := by
  obtain ⟨p, l, e, R, s, m, args, below, meth, c, g, σ⟩ := K
  obtain ⟨hx, hb, hml, hown, hts, hK, hN, hSK, hg, hlk, hrt, hR, hσ⟩ := F
  exact fun q hq H locs ls hP hS hl => lv_irem hx hb hd hne (k q hq H locs ls hP hS hl)
theorem n_ladd {K : Ctx} {cc : ByteArray} {nL : Nat} {own : String} {ret : Option FieldType} {fr lo : Nat} {b : Bool} {ρ : Type} {rt : ρ → Option Value × Wd} {res : Option ρ} {w : Wd} {pc : Nat} {lv : List (Nat × Value)} {st : List Value} (F : Fx K cc nL own ret fr lo b) {x y : Int64} (hd : decode cc pc = .ok (.ladd, 1)) (k : N K rt res w (pc + 1) lv (.long (x + y) :: st)) : N K rt res w pc lv (.long y :: .long x :: st) := by
  obtain ⟨p, l, e, R, s, m, args, below, meth, c, g, σ⟩ := K
  obtain ⟨hx, hb, hml, hown, hts, hK, hN, hSK, hg, hlk, hrt, hR, hσ⟩ := F
  exact fun q hq H locs ls hP hS hl => lv_ladd hx hb hd (k q hq H locs ls hP hS hl)
theorem n_lsub {K : Ctx} {cc : ByteArray} {nL : Nat} {own : String} {ret : Option FieldType} {fr lo : Nat} {b : Bool} {ρ : Type} {rt : ρ → Option Value × Wd} {res : Option ρ} {w : Wd} {pc : Nat} {lv : List (Nat × Value)} {st : List Value} (F : Fx K cc nL own ret fr lo b) {x y : Int64} (hd : decode cc pc = .ok (.lsub, 1)) (k : N K rt res w (pc + 1) lv (.long (x - y) :: st)) : N K rt res w pc lv (.long y :: .long x :: st) := by
  obtain ⟨p, l, e, R, s, m, args, below, meth, c, g, σ⟩ := K
  obtain ⟨hx, hb, hml, hown, hts, hK, hN, hSK, hg, hlk, hrt, hR, hσ⟩ := F
  exact fun q hq H locs ls hP hS hl => lv_lsub hx hb hd (k q hq H locs ls hP hS hl)
theorem n_lmul {K : Ctx} {cc : ByteArray} {nL : Nat} {own : String} {ret : Option FieldType} {fr lo : Nat} {b : Bool} {ρ : Type} {rt : ρ → Option Value × Wd} {res : Option ρ} {w : Wd} {pc : Nat} {lv : List (Nat × Value)} {st : List Value} (F : Fx K cc nL own ret fr lo b) {x y : Int64} (hd : decode cc pc = .ok (.lmul, 1)) (k : N K rt res w (pc + 1) lv (.long (x * y) :: st)) : N K rt res w pc lv (.long y :: .long x :: st) := by
  obtain ⟨p, l, e, R, s, m, args, below, meth, c, g, σ⟩ := K
  obtain ⟨hx, hb, hml, hown, hts, hK, hN, hSK, hg, hlk, hrt, hR, hσ⟩ := F
  exact fun q hq H locs ls hP hS hl => lv_lmul hx hb hd (k q hq H locs ls hP hS hl)
theorem n_land {K : Ctx} {cc : ByteArray} {nL : Nat} {own : String} {ret : Option FieldType} {fr lo : Nat} {b : Bool} {ρ : Type} {rt : ρ → Option Value × Wd} {res : Option ρ} {w : Wd} {pc : Nat} {lv : List (Nat × Value)} {st : List Value} (F : Fx K cc nL own ret fr lo b) {x y : Int64} (hd : decode cc pc = .ok (.land, 1)) (k : N K rt res w (pc + 1) lv (.long (x &&& y) :: st)) : N K rt res w pc lv (.long y :: .long x :: st) := by
  obtain ⟨p, l, e, R, s, m, args, below, meth, c, g, σ⟩ := K
  obtain ⟨hx, hb, hml, hown, hts, hK, hN, hSK, hg, hlk, hrt, hR, hσ⟩ := F
  exact fun q hq H locs ls hP hS hl => lv_land hx hb hd (k q hq H locs ls hP hS hl)
theorem n_lor {K : Ctx} {cc : ByteArray} {nL : Nat} {own : String} {ret : Option FieldType} {fr lo : Nat} {b : Bool} {ρ : Type} {rt : ρ → Option Value × Wd} {res : Option ρ} {w : Wd} {pc : Nat} {lv : List (Nat × Value)} {st : List Value} (F : Fx K cc nL own ret fr lo b) {x y : Int64} (hd : decode cc pc = .ok (.lor, 1)) (k : N K rt res w (pc + 1) lv (.long (x ||| y) :: st)) : N K rt res w pc lv (.long y :: .long x :: st) := by
  obtain ⟨p, l, e, R, s, m, args, below, meth, c, g, σ⟩ := K
  obtain ⟨hx, hb, hml, hown, hts, hK, hN, hSK, hg, hlk, hrt, hR, hσ⟩ := F
  exact fun q hq H locs ls hP hS hl => lv_lor hx hb hd (k q hq H locs ls hP hS hl)
theorem n_ldiv {K : Ctx} {cc : ByteArray} {nL : Nat} {own : String} {ret : Option FieldType} {fr lo : Nat} {b : Bool} {ρ : Type} {rt : ρ → Option Value × Wd} {res : Option ρ} {w : Wd} {pc : Nat} {lv : List (Nat × Value)} {st : List Value} (F : Fx K cc nL own ret fr lo b) {x y : Int64} (hd : decode cc pc = .ok (.ldiv, 1)) (hne : ¬ y = 0) (k : N K rt res w (pc + 1) lv (.long (x / y) :: st)) : N K rt res w pc lv (.long y :: .long x :: st) := by
  obtain ⟨p, l, e, R, s, m, args, below, meth, c, g, σ⟩ := K
  obtain ⟨hx, hb, hml, hown, hts, hK, hN, hSK, hg, hlk, hrt, hR, hσ⟩ := F
  exact fun q hq H locs ls hP hS hl => lv_ldiv hx hb hd hne (k q hq H locs ls hP hS hl)
theorem n_lrem {K : Ctx} {cc : ByteArray} {nL : Nat} {own : String} {ret : Option FieldType} {fr lo : Nat} {b : Bool} {ρ : Type} {rt : ρ → Option Value × Wd} {res : Option ρ} {w : Wd} {pc : Nat} {lv : List (Nat × Value)} {st : List Value} (F : Fx K cc nL own ret fr lo b) {x y : Int64} (hd : decode cc pc = .ok (.lrem, 1)) (hne : ¬ y = 0) (k : N K rt res w (pc + 1) lv (.long (x - x / y * y) :: st)) : N K rt res w pc lv (.long y :: .long x :: st) := by
  obtain ⟨p, l, e, R, s, m, args, below, meth, c, g, σ⟩ := K
  obtain ⟨hx, hb, hml, hown, hts, hK, hN, hSK, hg, hlk, hrt, hR, hσ⟩ := F
  exact fun q hq H locs ls hP hS hl => lv_lrem hx hb hd hne (k q hq H locs ls hP hS hl)
theorem n_lcmp {K : Ctx} {cc : ByteArray} {nL : Nat} {own : String} {ret : Option FieldType} {fr lo : Nat} {b : Bool} {ρ : Type} {rt : ρ → Option Value × Wd} {res : Option ρ} {w : Wd} {pc : Nat} {lv : List (Nat × Value)} {st : List Value} (F : Fx K cc nL own ret fr lo b) {x y : Int64} (hd : decode cc pc = .ok (.lcmp, 1)) (k : N K rt res w (pc + 1) lv (.int (lg_cmp x y) :: st)) : N K rt res w pc lv (.long y :: .long x :: st) := by
  obtain ⟨p, l, e, R, s, m, args, below, meth, c, g, σ⟩ := K
  obtain ⟨hx, hb, hml, hown, hts, hK, hN, hSK, hg, hlk, hrt, hR, hσ⟩ := F
  exact fun q hq H locs ls hP hS hl => W.lcmp hx hb hd (k q hq H locs ls hP hS hl)
theorem n_lshl {K : Ctx} {cc : ByteArray} {nL : Nat} {own : String} {ret : Option FieldType} {fr lo : Nat} {b : Bool} {ρ : Type} {rt : ρ → Option Value × Wd} {res : Option ρ} {w : Wd} {pc : Nat} {lv : List (Nat × Value)} {st : List Value} (F : Fx K cc nL own ret fr lo b) {x : Int64} {y : Int32} (hd : decode cc pc = .ok (.lshl, 1)) (k : N K rt res w (pc + 1) lv (.long (x <<< (y.toInt64 &&& 63)) :: st)) : N K rt res w pc lv (.int y :: .long x :: st) := by
  obtain ⟨p, l, e, R, s, m, args, below, meth, c, g, σ⟩ := K
  obtain ⟨hx, hb, hml, hown, hts, hK, hN, hSK, hg, hlk, hrt, hR, hσ⟩ := F
  exact fun q hq H locs ls hP hS hl => lv_lshl hx hb hd rfl (k q hq H locs ls hP hS hl)
theorem n_lshr {K : Ctx} {cc : ByteArray} {nL : Nat} {own : String} {ret : Option FieldType} {fr lo : Nat} {b : Bool} {ρ : Type} {rt : ρ → Option Value × Wd} {res : Option ρ} {w : Wd} {pc : Nat} {lv : List (Nat × Value)} {st : List Value} (F : Fx K cc nL own ret fr lo b) {x : Int64} {y : Int32} (hd : decode cc pc = .ok (.lshr, 1)) (k : N K rt res w (pc + 1) lv (.long (x >>> (y.toInt64 &&& 63)) :: st)) : N K rt res w pc lv (.int y :: .long x :: st) := by
  obtain ⟨p, l, e, R, s, m, args, below, meth, c, g, σ⟩ := K
  obtain ⟨hx, hb, hml, hown, hts, hK, hN, hSK, hg, hlk, hrt, hR, hσ⟩ := F
  exact fun q hq H locs ls hP hS hl => lv_lshr hx hb hd rfl (k q hq H locs ls hP hS hl)
theorem n_iushr {K : Ctx} {cc : ByteArray} {nL : Nat} {own : String} {ret : Option FieldType} {fr lo : Nat} {b : Bool} {ρ : Type} {rt : ρ → Option Value × Wd} {res : Option ρ} {w : Wd} {pc : Nat} {lv : List (Nat × Value)} {st : List Value} (F : Fx K cc nL own ret fr lo b) {x y : Int32} (hd : decode cc pc = .ok (.iushr, 1)) (k : N K rt res w (pc + 1) lv (.int ((x.toUInt32 >>> (y.toUInt32 &&& Int32.toUInt32 31)).toInt32) :: st)) : N K rt res w pc lv (.int y :: .int x :: st) := by
  obtain ⟨p, l, e, R, s, m, args, below, meth, c, g, σ⟩ := K
  obtain ⟨hx, hb, hml, hown, hts, hK, hN, hSK, hg, hlk, hrt, hR, hσ⟩ := F
  exact fun q hq H locs ls hP hS hl => lv_iushr hx hb hd rfl (k q hq H locs ls hP hS hl)
theorem n_i2l {K : Ctx} {cc : ByteArray} {nL : Nat} {own : String} {ret : Option FieldType} {fr lo : Nat} {b : Bool} {ρ : Type} {rt : ρ → Option Value × Wd} {res : Option ρ} {w : Wd} {pc : Nat} {lv : List (Nat × Value)} {st : List Value} (F : Fx K cc nL own ret fr lo b) {x : Int32} (hd : decode cc pc = .ok (.i2l, 1)) (k : N K rt res w (pc + 1) lv (.long (x.toInt64) :: st)) : N K rt res w pc lv (.int x :: st) := by
  obtain ⟨p, l, e, R, s, m, args, below, meth, c, g, σ⟩ := K
  obtain ⟨hx, hb, hml, hown, hts, hK, hN, hSK, hg, hlk, hrt, hR, hσ⟩ := F
  exact fun q hq H locs ls hP hS hl => lv_i2l hx hb hd rfl (k q hq H locs ls hP hS hl)
theorem n_l2i {K : Ctx} {cc : ByteArray} {nL : Nat} {own : String} {ret : Option FieldType} {fr lo : Nat} {b : Bool} {ρ : Type} {rt : ρ → Option Value × Wd} {res : Option ρ} {w : Wd} {pc : Nat} {lv : List (Nat × Value)} {st : List Value} (F : Fx K cc nL own ret fr lo b) {x : Int64} (hd : decode cc pc = .ok (.l2i, 1)) (k : N K rt res w (pc + 1) lv (.int (x.toInt32) :: st)) : N K rt res w pc lv (.long x :: st) := by
  obtain ⟨p, l, e, R, s, m, args, below, meth, c, g, σ⟩ := K
  obtain ⟨hx, hb, hml, hown, hts, hK, hN, hSK, hg, hlk, hrt, hR, hσ⟩ := F
  exact fun q hq H locs ls hP hS hl => lv_l2i hx hb hd rfl (k q hq H locs ls hP hS hl)
theorem n_i2c {K : Ctx} {cc : ByteArray} {nL : Nat} {own : String} {ret : Option FieldType} {fr lo : Nat} {b : Bool} {ρ : Type} {rt : ρ → Option Value × Wd} {res : Option ρ} {w : Wd} {pc : Nat} {lv : List (Nat × Value)} {st : List Value} (F : Fx K cc nL own ret fr lo b) {x : Int32} (hd : decode cc pc = .ok (.i2c, 1)) (k : N K rt res w (pc + 1) lv (.int ((x.toUInt32 % 65536).toInt32) :: st)) : N K rt res w pc lv (.int x :: st) := by
  obtain ⟨p, l, e, R, s, m, args, below, meth, c, g, σ⟩ := K
  obtain ⟨hx, hb, hml, hown, hts, hK, hN, hSK, hg, hlk, hrt, hR, hσ⟩ := F
  exact fun q hq H locs ls hP hS hl => lv_i2c hx hb hd rfl (k q hq H locs ls hP hS hl)
theorem n_dup {K : Ctx} {cc : ByteArray} {nL : Nat} {own : String} {ret : Option FieldType} {fr lo : Nat} {b : Bool} {ρ : Type} {rt : ρ → Option Value × Wd} {res : Option ρ} {w : Wd} {pc : Nat} {lv : List (Nat × Value)} {st : List Value} (F : Fx K cc nL own ret fr lo b) {va : Value} (hd : decode cc pc = .ok (.dup, 1)) (hva : va.category = 1) (k : N K rt res w (pc + 1) lv (va :: va :: st)) : N K rt res w pc lv (va :: st) := by
  obtain ⟨p, l, e, R, s, m, args, below, meth, c, g, σ⟩ := K
  obtain ⟨hx, hb, hml, hown, hts, hK, hN, hSK, hg, hlk, hrt, hR, hσ⟩ := F
  exact fun q hq H locs ls hP hS hl => lv_dup hx hb hd hva (k q hq H locs ls hP hS hl)
theorem n_dup2 {K : Ctx} {cc : ByteArray} {nL : Nat} {own : String} {ret : Option FieldType} {fr lo : Nat} {b : Bool} {ρ : Type} {rt : ρ → Option Value × Wd} {res : Option ρ} {w : Wd} {pc : Nat} {lv : List (Nat × Value)} {st : List Value} (F : Fx K cc nL own ret fr lo b) {va vb : Value} (hd : decode cc pc = .ok (.dup2, 1)) (hva : va.category = 1) (hvb : vb.category = 1) (k : N K rt res w (pc + 1) lv (va :: vb :: va :: vb :: st)) : N K rt res w pc lv (va :: vb :: st) := by
  obtain ⟨p, l, e, R, s, m, args, below, meth, c, g, σ⟩ := K
  obtain ⟨hx, hb, hml, hown, hts, hK, hN, hSK, hg, hlk, hrt, hR, hσ⟩ := F
  exact fun q hq H locs ls hP hS hl => lv_dup2_11 hx hb hd hva hvb (k q hq H locs ls hP hS hl)
theorem n_pop {K : Ctx} {cc : ByteArray} {nL : Nat} {own : String} {ret : Option FieldType} {fr lo : Nat} {b : Bool} {ρ : Type} {rt : ρ → Option Value × Wd} {res : Option ρ} {w : Wd} {pc : Nat} {lv : List (Nat × Value)} {st : List Value} (F : Fx K cc nL own ret fr lo b) {va : Value} (hd : decode cc pc = .ok (.pop, 1)) (hva : va.category = 1) (k : N K rt res w (pc + 1) lv (st)) : N K rt res w pc lv (va :: st) := by
  obtain ⟨p, l, e, R, s, m, args, below, meth, c, g, σ⟩ := K
  obtain ⟨hx, hb, hml, hown, hts, hK, hN, hSK, hg, hlk, hrt, hR, hσ⟩ := F
  exact fun q hq H locs ls hP hS hl => lv_pop hx hb hd hva (k q hq H locs ls hP hS hl)
theorem n_iconst {K : Ctx} {cc : ByteArray} {nL : Nat} {own : String} {ret : Option FieldType} {fr lo : Nat} {b : Bool} {ρ : Type} {rt : ρ → Option Value × Wd} {res : Option ρ} {w : Wd} {pc : Nat} {lv : List (Nat × Value)} {st : List Value} (F : Fx K cc nL own ret fr lo b) {n : Int} (v : Int32) (hd : decode cc pc = .ok (.iconst n, 1)) (hv : Int32.ofInt n = v) (k : N K rt res w (pc + 1) lv (.int v :: st)) : N K rt res w pc lv (st) := by
  obtain ⟨p, l, e, R, s, m, args, below, meth, c, g, σ⟩ := K
  obtain ⟨hx, hb, hml, hown, hts, hK, hN, hSK, hg, hlk, hrt, hR, hσ⟩ := F
  exact fun q hq H locs ls hP hS hl => lv_iconst hx hb hd hv (k q hq H locs ls hP hS hl)
theorem n_bipush {K : Ctx} {cc : ByteArray} {nL : Nat} {own : String} {ret : Option FieldType} {fr lo : Nat} {b : Bool} {ρ : Type} {rt : ρ → Option Value × Wd} {res : Option ρ} {w : Wd} {pc : Nat} {lv : List (Nat × Value)} {st : List Value} (F : Fx K cc nL own ret fr lo b) {n : Int} (v : Int32) (hd : decode cc pc = .ok (.bipush n, 2)) (hv : (Int8.ofInt n).toInt32 = v) (k : N K rt res w (pc + 2) lv (.int v :: st)) : N K rt res w pc lv (st) := by
  obtain ⟨p, l, e, R, s, m, args, below, meth, c, g, σ⟩ := K
  obtain ⟨hx, hb, hml, hown, hts, hK, hN, hSK, hg, hlk, hrt, hR, hσ⟩ := F
  exact fun q hq H locs ls hP hS hl => lv_bipush hx hb hd hv (k q hq H locs ls hP hS hl)
theorem n_sipush {K : Ctx} {cc : ByteArray} {nL : Nat} {own : String} {ret : Option FieldType} {fr lo : Nat} {b : Bool} {ρ : Type} {rt : ρ → Option Value × Wd} {res : Option ρ} {w : Wd} {pc : Nat} {lv : List (Nat × Value)} {st : List Value} (F : Fx K cc nL own ret fr lo b) {n : Int} (v : Int32) (hd : decode cc pc = .ok (.sipush n, 3)) (hv : (Int16.ofInt n).toInt32 = v) (k : N K rt res w (pc + 3) lv (.int v :: st)) : N K rt res w pc lv (st) := by
  obtain ⟨p, l, e, R, s, m, args, below, meth, c, g, σ⟩ := K
  obtain ⟨hx, hb, hml, hown, hts, hK, hN, hSK, hg, hlk, hrt, hR, hσ⟩ := F
  exact fun q hq H locs ls hP hS hl => lv_sipush hx hb hd hv (k q hq H locs ls hP hS hl)
theorem n_lconst {K : Ctx} {cc : ByteArray} {nL : Nat} {own : String} {ret : Option FieldType} {fr lo : Nat} {b : Bool} {ρ : Type} {rt : ρ → Option Value × Wd} {res : Option ρ} {w : Wd} {pc : Nat} {lv : List (Nat × Value)} {st : List Value} (F : Fx K cc nL own ret fr lo b) {n : Fin 2} (v : Int64) (hd : decode cc pc = .ok (.lconst n, 1)) (hv : Int64.ofNat (n : Nat) = v) (k : N K rt res w (pc + 1) lv (.long v :: st)) : N K rt res w pc lv (st) := by
  obtain ⟨p, l, e, R, s, m, args, below, meth, c, g, σ⟩ := K
  obtain ⟨hx, hb, hml, hown, hts, hK, hN, hSK, hg, hlk, hrt, hR, hσ⟩ := F
  exact fun q hq H locs ls hP hS hl => lv_lconst hx hb hd hv (k q hq H locs ls hP hS hl)
theorem n_iload_n {K : Ctx} {cc : ByteArray} {nL : Nat} {own : String} {ret : Option FieldType} {fr lo : Nat} {b : Bool} {ρ : Type} {rt : ρ → Option Value × Wd} {res : Option ρ} {w : Wd} {pc : Nat} {lv : List (Nat × Value)} {st : List Value} (F : Fx K cc nL own ret fr lo b) {k0 : Fin 4} {i : Nat} {x : Int32} (hd : decode cc pc = .ok (.iload_n k0, 1)) (hi : (k0 : Nat) = i) (j : Nat) (hj : lv[j]? = some (i, .int x)) (k : N K rt res w (pc + 1) lv (.int x :: st)) : N K rt res w pc lv (st) := by
  obtain ⟨p, l, e, R, s, m, args, below, meth, c, g, σ⟩ := K
  obtain ⟨hx, hb, hml, hown, hts, hK, hN, hSK, hg, hlk, hrt, hR, hσ⟩ := F
  exact fun q hq H locs ls hP hS hl => lv_iload_n hx hb hd hi (lv_at hl j hj) (k q hq H locs ls hP hS hl)
theorem n_iload {K : Ctx} {cc : ByteArray} {nL : Nat} {own : String} {ret : Option FieldType} {fr lo : Nat} {b : Bool} {ρ : Type} {rt : ρ → Option Value × Wd} {res : Option ρ} {w : Wd} {pc : Nat} {lv : List (Nat × Value)} {st : List Value} (F : Fx K cc nL own ret fr lo b) {i : Nat} {x : Int32} (hd : decode cc pc = .ok (.iload i, 2)) (j : Nat) (hj : lv[j]? = some (i, .int x)) (k : N K rt res w (pc + 2) lv (.int x :: st)) : N K rt res w pc lv (st) := by
  obtain ⟨p, l, e, R, s, m, args, below, meth, c, g, σ⟩ := K
  obtain ⟨hx, hb, hml, hown, hts, hK, hN, hSK, hg, hlk, hrt, hR, hσ⟩ := F
  exact fun q hq H locs ls hP hS hl => lv_iload hx hb hd (lv_at hl j hj) (k q hq H locs ls hP hS hl)
theorem n_istore_n {K : Ctx} {cc : ByteArray} {nL : Nat} {own : String} {ret : Option FieldType} {fr lo : Nat} {b : Bool} {ρ : Type} {rt : ρ → Option Value × Wd} {res : Option ρ} {w : Wd} {pc : Nat} {lv : List (Nat × Value)} {st : List Value} (F : Fx K cc nL own ret fr lo b) {k0 : Fin 4} {i : Nat} {x : Int32} {lv' : List (Nat × Value)} (hd : decode cc pc = .ok (.istore_n k0, 1)) (hi : (k0 : Nat) = i) (hn : i < nL) (hl' : (i, Value.int x) :: lv.filter (fun q => !(q.1 == i) && !(q.1 + 1 == i && q.2.category == 2)) = lv') (k : N K rt res w (pc + 1) lv' st) : N K rt res w pc lv (.int x :: st) := by
  obtain ⟨p, l, e, R, s, m, args, below, meth, c, g, σ⟩ := K
  obtain ⟨hx, hb, hml, hown, hts, hK, hN, hSK, hg, hlk, hrt, hR, hσ⟩ := F
  exact fun q hq H locs ls hP hS hl => lv_istore_n hx hb hd hi hl (by rw [hml]; exact hn) hl' (fun ls' hl2 => k q hq H locs ls' hP hS hl2)
theorem n_istore {K : Ctx} {cc : ByteArray} {nL : Nat} {own : String} {ret : Option FieldType} {fr lo : Nat} {b : Bool} {ρ : Type} {rt : ρ → Option Value × Wd} {res : Option ρ} {w : Wd} {pc : Nat} {lv : List (Nat × Value)} {st : List Value} (F : Fx K cc nL own ret fr lo b) {i : Nat} {x : Int32} {lv' : List (Nat × Value)} (hd : decode cc pc = .ok (.istore i, 2)) (hn : i < nL) (hl' : (i, Value.int x) :: lv.filter (fun q => !(q.1 == i) && !(q.1 + 1 == i && q.2.category == 2)) = lv') (k : N K rt res w (pc + 2) lv' st) : N K rt res w pc lv (.int x :: st) := by
  obtain ⟨p, l, e, R, s, m, args, below, meth, c, g, σ⟩ := K
  obtain ⟨hx, hb, hml, hown, hts, hK, hN, hSK, hg, hlk, hrt, hR, hσ⟩ := F
  exact fun q hq H locs ls hP hS hl => lv_istore hx hb hd hl (by rw [hml]; exact hn) hl' (fun ls' hl2 => k q hq H locs ls' hP hS hl2)
theorem n_lload_n {K : Ctx} {cc : ByteArray} {nL : Nat} {own : String} {ret : Option FieldType} {fr lo : Nat} {b : Bool} {ρ : Type} {rt : ρ → Option Value × Wd} {res : Option ρ} {w : Wd} {pc : Nat} {lv : List (Nat × Value)} {st : List Value} (F : Fx K cc nL own ret fr lo b) {k0 : Fin 4} {i : Nat} {x : Int64} (hd : decode cc pc = .ok (.lload_n k0, 1)) (hi : (k0 : Nat) = i) (j : Nat) (hj : lv[j]? = some (i, .long x)) (k : N K rt res w (pc + 1) lv (.long x :: st)) : N K rt res w pc lv (st) := by
  obtain ⟨p, l, e, R, s, m, args, below, meth, c, g, σ⟩ := K
  obtain ⟨hx, hb, hml, hown, hts, hK, hN, hSK, hg, hlk, hrt, hR, hσ⟩ := F
  exact fun q hq H locs ls hP hS hl => lv_lload_n hx hb hd hi (lv_at hl j hj) (k q hq H locs ls hP hS hl)
theorem n_lload {K : Ctx} {cc : ByteArray} {nL : Nat} {own : String} {ret : Option FieldType} {fr lo : Nat} {b : Bool} {ρ : Type} {rt : ρ → Option Value × Wd} {res : Option ρ} {w : Wd} {pc : Nat} {lv : List (Nat × Value)} {st : List Value} (F : Fx K cc nL own ret fr lo b) {i : Nat} {x : Int64} (hd : decode cc pc = .ok (.lload i, 2)) (j : Nat) (hj : lv[j]? = some (i, .long x)) (k : N K rt res w (pc + 2) lv (.long x :: st)) : N K rt res w pc lv (st) := by
  obtain ⟨p, l, e, R, s, m, args, below, meth, c, g, σ⟩ := K
  obtain ⟨hx, hb, hml, hown, hts, hK, hN, hSK, hg, hlk, hrt, hR, hσ⟩ := F
  exact fun q hq H locs ls hP hS hl => lv_lload hx hb hd (lv_at hl j hj) (k q hq H locs ls hP hS hl)
theorem n_lstore_n {K : Ctx} {cc : ByteArray} {nL : Nat} {own : String} {ret : Option FieldType} {fr lo : Nat} {b : Bool} {ρ : Type} {rt : ρ → Option Value × Wd} {res : Option ρ} {w : Wd} {pc : Nat} {lv : List (Nat × Value)} {st : List Value} (F : Fx K cc nL own ret fr lo b) {k0 : Fin 4} {i : Nat} {x : Int64} {lv' : List (Nat × Value)} (hd : decode cc pc = .ok (.lstore_n k0, 1)) (hi : (k0 : Nat) = i) (hn : i + 1 < nL) (hl' : (i, Value.long x) :: lv.filter (fun q => !(q.1 == i) && (!(q.1 == i + 1) && !(q.1 + 1 == i && q.2.category == 2))) = lv') (k : N K rt res w (pc + 1) lv' st) : N K rt res w pc lv (.long x :: st) := by
  obtain ⟨p, l, e, R, s, m, args, below, meth, c, g, σ⟩ := K
  obtain ⟨hx, hb, hml, hown, hts, hK, hN, hSK, hg, hlk, hrt, hR, hσ⟩ := F
  exact fun q hq H locs ls hP hS hl => lv_lstore_n hx hb hd hi hl (by rw [hml]; exact hn) hl' (fun ls' hl2 => k q hq H locs ls' hP hS hl2)
theorem n_lstore {K : Ctx} {cc : ByteArray} {nL : Nat} {own : String} {ret : Option FieldType} {fr lo : Nat} {b : Bool} {ρ : Type} {rt : ρ → Option Value × Wd} {res : Option ρ} {w : Wd} {pc : Nat} {lv : List (Nat × Value)} {st : List Value} (F : Fx K cc nL own ret fr lo b) {i : Nat} {x : Int64} {lv' : List (Nat × Value)} (hd : decode cc pc = .ok (.lstore i, 2)) (hn : i + 1 < nL) (hl' : (i, Value.long x) :: lv.filter (fun q => !(q.1 == i) && (!(q.1 == i + 1) && !(q.1 + 1 == i && q.2.category == 2))) = lv') (k : N K rt res w (pc + 2) lv' st) : N K rt res w pc lv (.long x :: st) := by
  obtain ⟨p, l, e, R, s, m, args, below, meth, c, g, σ⟩ := K
  obtain ⟨hx, hb, hml, hown, hts, hK, hN, hSK, hg, hlk, hrt, hR, hσ⟩ := F
  exact fun q hq H locs ls hP hS hl => lv_lstore hx hb hd hl (by rw [hml]; exact hn) hl' (fun ls' hl2 => k q hq H locs ls' hP hS hl2)
theorem n_aload_n {K : Ctx} {cc : ByteArray} {nL : Nat} {own : String} {ret : Option FieldType} {fr lo : Nat} {b : Bool} {ρ : Type} {rt : ρ → Option Value × Wd} {res : Option ρ} {w : Wd} {pc : Nat} {lv : List (Nat × Value)} {st : List Value} (F : Fx K cc nL own ret fr lo b) {k0 : Fin 4} {i : Nat} {x : Nat} (hd : decode cc pc = .ok (.aload_n k0, 1)) (hi : (k0 : Nat) = i) (j : Nat) (hj : lv[j]? = some (i, .ref x)) (k : N K rt res w (pc + 1) lv (.ref x :: st)) : N K rt res w pc lv (st) := by
  obtain ⟨p, l, e, R, s, m, args, below, meth, c, g, σ⟩ := K
  obtain ⟨hx, hb, hml, hown, hts, hK, hN, hSK, hg, hlk, hrt, hR, hσ⟩ := F
  exact fun q hq H locs ls hP hS hl => lv_aload_n hx hb hd hi (lv_at hl j hj) (k q hq H locs ls hP hS hl)
theorem n_aload {K : Ctx} {cc : ByteArray} {nL : Nat} {own : String} {ret : Option FieldType} {fr lo : Nat} {b : Bool} {ρ : Type} {rt : ρ → Option Value × Wd} {res : Option ρ} {w : Wd} {pc : Nat} {lv : List (Nat × Value)} {st : List Value} (F : Fx K cc nL own ret fr lo b) {i : Nat} {x : Nat} (hd : decode cc pc = .ok (.aload i, 2)) (j : Nat) (hj : lv[j]? = some (i, .ref x)) (k : N K rt res w (pc + 2) lv (.ref x :: st)) : N K rt res w pc lv (st) := by
  obtain ⟨p, l, e, R, s, m, args, below, meth, c, g, σ⟩ := K
  obtain ⟨hx, hb, hml, hown, hts, hK, hN, hSK, hg, hlk, hrt, hR, hσ⟩ := F
  exact fun q hq H locs ls hP hS hl => lv_aload hx hb hd (lv_at hl j hj) (k q hq H locs ls hP hS hl)
theorem n_astore_n {K : Ctx} {cc : ByteArray} {nL : Nat} {own : String} {ret : Option FieldType} {fr lo : Nat} {b : Bool} {ρ : Type} {rt : ρ → Option Value × Wd} {res : Option ρ} {w : Wd} {pc : Nat} {lv : List (Nat × Value)} {st : List Value} (F : Fx K cc nL own ret fr lo b) {k0 : Fin 4} {i : Nat} {x : Nat} {lv' : List (Nat × Value)} (hd : decode cc pc = .ok (.astore_n k0, 1)) (hi : (k0 : Nat) = i) (hn : i < nL) (hl' : (i, Value.ref x) :: lv.filter (fun q => !(q.1 == i) && !(q.1 + 1 == i && q.2.category == 2)) = lv') (k : N K rt res w (pc + 1) lv' st) : N K rt res w pc lv (.ref x :: st) := by
  obtain ⟨p, l, e, R, s, m, args, below, meth, c, g, σ⟩ := K
  obtain ⟨hx, hb, hml, hown, hts, hK, hN, hSK, hg, hlk, hrt, hR, hσ⟩ := F
  exact fun q hq H locs ls hP hS hl => lv_astore_n hx hb hd hi hl (by rw [hml]; exact hn) hl' (fun ls' hl2 => k q hq H locs ls' hP hS hl2)
theorem n_astore {K : Ctx} {cc : ByteArray} {nL : Nat} {own : String} {ret : Option FieldType} {fr lo : Nat} {b : Bool} {ρ : Type} {rt : ρ → Option Value × Wd} {res : Option ρ} {w : Wd} {pc : Nat} {lv : List (Nat × Value)} {st : List Value} (F : Fx K cc nL own ret fr lo b) {i : Nat} {x : Nat} {lv' : List (Nat × Value)} (hd : decode cc pc = .ok (.astore i, 2)) (hn : i < nL) (hl' : (i, Value.ref x) :: lv.filter (fun q => !(q.1 == i) && !(q.1 + 1 == i && q.2.category == 2)) = lv') (k : N K rt res w (pc + 2) lv' st) : N K rt res w pc lv (.ref x :: st) := by
  obtain ⟨p, l, e, R, s, m, args, below, meth, c, g, σ⟩ := K
  obtain ⟨hx, hb, hml, hown, hts, hK, hN, hSK, hg, hlk, hrt, hR, hσ⟩ := F
  exact fun q hq H locs ls hP hS hl => lv_astore hx hb hd hl (by rw [hml]; exact hn) hl' (fun ls' hl2 => k q hq H locs ls' hP hS hl2)
theorem n_iinc {K : Ctx} {cc : ByteArray} {nL : Nat} {own : String} {ret : Option FieldType} {fr lo : Nat} {b : Bool} {ρ : Type} {rt : ρ → Option Value × Wd} {res : Option ρ} {w : Wd} {pc : Nat} {lv : List (Nat × Value)} {st : List Value} (F : Fx K cc nL own ret fr lo b) {i : Nat} {n : Int} {x : Int32} (v : Int32) {lv' : List (Nat × Value)} (hd : decode cc pc = .ok (.iinc i n, 3)) (j : Nat) (hj : lv[j]? = some (i, .int x)) (hv : x + Int32.ofInt n = v) (hn : i < nL) (hl' : (i, Value.int v) :: lv.filter (fun q => !(q.1 == i) && !(q.1 + 1 == i && q.2.category == 2)) = lv') (k : N K rt res w (pc + 3) lv' st) : N K rt res w pc lv st := by
  obtain ⟨p, l, e, R, s, m, args, below, meth, c, g, σ⟩ := K
  obtain ⟨hx, hb, hml, hown, hts, hK, hN, hSK, hg, hlk, hrt, hR, hσ⟩ := F
  exact fun q hq H locs ls hP hS hl => lv_iinc hx hb hd hl hj hv (by rw [hml]; exact hn) hl' (fun ls' hl2 => k q hq H locs ls' hP hS hl2)
theorem n_goto {K : Ctx} {cc : ByteArray} {nL : Nat} {own : String} {ret : Option FieldType} {fr lo : Nat} {b : Bool} {ρ : Type} {rt : ρ → Option Value × Wd} {res : Option ρ} {w : Wd} {pc : Nat} {lv : List (Nat × Value)} {st : List Value} (F : Fx K cc nL own ret fr lo b) {off : Int} (tgt : Nat) (hd : decode cc pc = .ok (.goto off, 3)) (ht : (pc : Int) + off = (tgt : Int)) (k : N K rt res w tgt lv st) : N K rt res w pc lv st := by
  obtain ⟨p, l, e, R, s, m, args, below, meth, c, g, σ⟩ := K
  obtain ⟨hx, hb, hml, hown, hts, hK, hN, hSK, hg, hlk, hrt, hR, hσ⟩ := F
  exact fun q hq H locs ls hP hS hl => lv_goto hx hb hd ht (k q hq H locs ls hP hS hl)
theorem n_if_eq {K : Ctx} {cc : ByteArray} {nL : Nat} {own : String} {ret : Option FieldType} {fr lo : Nat} {b : Bool} {ρ : Type} {rt : ρ → Option Value × Wd} {res : Option ρ} {w : Wd} {pc : Nat} {lv : List (Nat × Value)} {st : List Value} (F : Fx K cc nL own ret fr lo b) {x : Int32} {off : Int} (tgt : Nat) (hd : decode cc pc = .ok (.ifCond .eq off, 3)) (ht : (pc : Int) + off = (tgt : Int)) (kt : x = 0 → N K rt res w tgt lv st) (kf : ¬ x = 0 → N K rt res w (pc + 3) lv st) : N K rt res w pc lv (.int x :: st) := by
  obtain ⟨p, l, e, R, s, m, args, below, meth, c, g, σ⟩ := K
  obtain ⟨hx, hb, hml, hown, hts, hK, hN, hSK, hg, hlk, hrt, hR, hσ⟩ := F
  exact fun q hq H locs ls hP hS hl => lv_if_eq hx hb hd ht (fun h => kt h q hq H locs ls hP hS hl) (fun h => kf h q hq H locs ls hP hS hl)
theorem n_if_ne {K : Ctx} {cc : ByteArray} {nL : Nat} {own : String} {ret : Option FieldType} {fr lo : Nat} {b : Bool} {ρ : Type} {rt : ρ → Option Value × Wd} {res : Option ρ} {w : Wd} {pc : Nat} {lv : List (Nat × Value)} {st : List Value} (F : Fx K cc nL own ret fr lo b) {x : Int32} {off : Int} (tgt : Nat) (hd : decode cc pc = .ok (.ifCond .ne off, 3)) (ht : (pc : Int) + off = (tgt : Int)) (kt : ¬ x = 0 → N K rt res w tgt lv st) (kf : x = 0 → N K rt res w (pc + 3) lv st) : N K rt res w pc lv (.int x :: st) := by
  obtain ⟨p, l, e, R, s, m, args, below, meth, c, g, σ⟩ := K
  obtain ⟨hx, hb, hml, hown, hts, hK, hN, hSK, hg, hlk, hrt, hR, hσ⟩ := F
  exact fun q hq H locs ls hP hS hl => lv_if_ne hx hb hd ht (fun h => kt h q hq H locs ls hP hS hl) (fun h => kf h q hq H locs ls hP hS hl)
theorem n_if_lt {K : Ctx} {cc : ByteArray} {nL : Nat} {own : String} {ret : Option FieldType} {fr lo : Nat} {b : Bool} {ρ : Type} {rt : ρ → Option Value × Wd} {res : Option ρ} {w : Wd} {pc : Nat} {lv : List (Nat × Value)} {st : List Value} (F : Fx K cc nL own ret fr lo b) {x : Int32} {off : Int} (tgt : Nat) (hd : decode cc pc = .ok (.ifCond .lt off, 3)) (ht : (pc : Int) + off = (tgt : Int)) (kt : x < 0 → N K rt res w tgt lv st) (kf : ¬ x < 0 → N K rt res w (pc + 3) lv st) : N K rt res w pc lv (.int x :: st) := by
  obtain ⟨p, l, e, R, s, m, args, below, meth, c, g, σ⟩ := K
  obtain ⟨hx, hb, hml, hown, hts, hK, hN, hSK, hg, hlk, hrt, hR, hσ⟩ := F
  exact fun q hq H locs ls hP hS hl => lv_if_lt hx hb hd ht (fun h => kt h q hq H locs ls hP hS hl) (fun h => kf h q hq H locs ls hP hS hl)
theorem n_if_ge {K : Ctx} {cc : ByteArray} {nL : Nat} {own : String} {ret : Option FieldType} {fr lo : Nat} {b : Bool} {ρ : Type} {rt : ρ → Option Value × Wd} {res : Option ρ} {w : Wd} {pc : Nat} {lv : List (Nat × Value)} {st : List Value} (F : Fx K cc nL own ret fr lo b) {x : Int32} {off : Int} (tgt : Nat) (hd : decode cc pc = .ok (.ifCond .ge off, 3)) (ht : (pc : Int) + off = (tgt : Int)) (kt : 0 ≤ x → N K rt res w tgt lv st) (kf : ¬ 0 ≤ x → N K rt res w (pc + 3) lv st) : N K rt res w pc lv (.int x :: st) := by
  obtain ⟨p, l, e, R, s, m, args, below, meth, c, g, σ⟩ := K
  obtain ⟨hx, hb, hml, hown, hts, hK, hN, hSK, hg, hlk, hrt, hR, hσ⟩ := F
  exact fun q hq H locs ls hP hS hl => lv_if_ge hx hb hd ht (fun h => kt h q hq H locs ls hP hS hl) (fun h => kf h q hq H locs ls hP hS hl)
theorem n_if_gt {K : Ctx} {cc : ByteArray} {nL : Nat} {own : String} {ret : Option FieldType} {fr lo : Nat} {b : Bool} {ρ : Type} {rt : ρ → Option Value × Wd} {res : Option ρ} {w : Wd} {pc : Nat} {lv : List (Nat × Value)} {st : List Value} (F : Fx K cc nL own ret fr lo b) {x : Int32} {off : Int} (tgt : Nat) (hd : decode cc pc = .ok (.ifCond .gt off, 3)) (ht : (pc : Int) + off = (tgt : Int)) (kt : 0 < x → N K rt res w tgt lv st) (kf : ¬ 0 < x → N K rt res w (pc + 3) lv st) : N K rt res w pc lv (.int x :: st) := by
  obtain ⟨p, l, e, R, s, m, args, below, meth, c, g, σ⟩ := K
  obtain ⟨hx, hb, hml, hown, hts, hK, hN, hSK, hg, hlk, hrt, hR, hσ⟩ := F
  exact fun q hq H locs ls hP hS hl => lv_if_gt hx hb hd ht (fun h => kt h q hq H locs ls hP hS hl) (fun h => kf h q hq H locs ls hP hS hl)
theorem n_if_le {K : Ctx} {cc : ByteArray} {nL : Nat} {own : String} {ret : Option FieldType} {fr lo : Nat} {b : Bool} {ρ : Type} {rt : ρ → Option Value × Wd} {res : Option ρ} {w : Wd} {pc : Nat} {lv : List (Nat × Value)} {st : List Value} (F : Fx K cc nL own ret fr lo b) {x : Int32} {off : Int} (tgt : Nat) (hd : decode cc pc = .ok (.ifCond .le off, 3)) (ht : (pc : Int) + off = (tgt : Int)) (kt : x ≤ 0 → N K rt res w tgt lv st) (kf : ¬ x ≤ 0 → N K rt res w (pc + 3) lv st) : N K rt res w pc lv (.int x :: st) := by
  obtain ⟨p, l, e, R, s, m, args, below, meth, c, g, σ⟩ := K
  obtain ⟨hx, hb, hml, hown, hts, hK, hN, hSK, hg, hlk, hrt, hR, hσ⟩ := F
  exact fun q hq H locs ls hP hS hl => lv_if_le hx hb hd ht (fun h => kt h q hq H locs ls hP hS hl) (fun h => kf h q hq H locs ls hP hS hl)
theorem n_icmp_eq {K : Ctx} {cc : ByteArray} {nL : Nat} {own : String} {ret : Option FieldType} {fr lo : Nat} {b : Bool} {ρ : Type} {rt : ρ → Option Value × Wd} {res : Option ρ} {w : Wd} {pc : Nat} {lv : List (Nat × Value)} {st : List Value} (F : Fx K cc nL own ret fr lo b) {x y : Int32} {off : Int} (tgt : Nat) (hd : decode cc pc = .ok (.if_icmp .eq off, 3)) (ht : (pc : Int) + off = (tgt : Int)) (kt : x = y → N K rt res w tgt lv st) (kf : ¬ x = y → N K rt res w (pc + 3) lv st) : N K rt res w pc lv (.int y :: .int x :: st) := by
  obtain ⟨p, l, e, R, s, m, args, below, meth, c, g, σ⟩ := K
  obtain ⟨hx, hb, hml, hown, hts, hK, hN, hSK, hg, hlk, hrt, hR, hσ⟩ := F
  exact fun q hq H locs ls hP hS hl => lv_icmp_eq hx hb hd ht (fun h => kt h q hq H locs ls hP hS hl) (fun h => kf h q hq H locs ls hP hS hl)
theorem n_icmp_ne {K : Ctx} {cc : ByteArray} {nL : Nat} {own : String} {ret : Option FieldType} {fr lo : Nat} {b : Bool} {ρ : Type} {rt : ρ → Option Value × Wd} {res : Option ρ} {w : Wd} {pc : Nat} {lv : List (Nat × Value)} {st : List Value} (F : Fx K cc nL own ret fr lo b) {x y : Int32} {off : Int} (tgt : Nat) (hd : decode cc pc = .ok (.if_icmp .ne off, 3)) (ht : (pc : Int) + off = (tgt : Int)) (kt : ¬ x = y → N K rt res w tgt lv st) (kf : x = y → N K rt res w (pc + 3) lv st) : N K rt res w pc lv (.int y :: .int x :: st) := by
  obtain ⟨p, l, e, R, s, m, args, below, meth, c, g, σ⟩ := K
  obtain ⟨hx, hb, hml, hown, hts, hK, hN, hSK, hg, hlk, hrt, hR, hσ⟩ := F
  exact fun q hq H locs ls hP hS hl => lv_icmp_ne hx hb hd ht (fun h => kt h q hq H locs ls hP hS hl) (fun h => kf h q hq H locs ls hP hS hl)
theorem n_icmp_lt {K : Ctx} {cc : ByteArray} {nL : Nat} {own : String} {ret : Option FieldType} {fr lo : Nat} {b : Bool} {ρ : Type} {rt : ρ → Option Value × Wd} {res : Option ρ} {w : Wd} {pc : Nat} {lv : List (Nat × Value)} {st : List Value} (F : Fx K cc nL own ret fr lo b) {x y : Int32} {off : Int} (tgt : Nat) (hd : decode cc pc = .ok (.if_icmp .lt off, 3)) (ht : (pc : Int) + off = (tgt : Int)) (kt : x < y → N K rt res w tgt lv st) (kf : ¬ x < y → N K rt res w (pc + 3) lv st) : N K rt res w pc lv (.int y :: .int x :: st) := by
  obtain ⟨p, l, e, R, s, m, args, below, meth, c, g, σ⟩ := K
  obtain ⟨hx, hb, hml, hown, hts, hK, hN, hSK, hg, hlk, hrt, hR, hσ⟩ := F
  exact fun q hq H locs ls hP hS hl => lv_icmp_lt hx hb hd ht (fun h => kt h q hq H locs ls hP hS hl) (fun h => kf h q hq H locs ls hP hS hl)
theorem n_icmp_ge {K : Ctx} {cc : ByteArray} {nL : Nat} {own : String} {ret : Option FieldType} {fr lo : Nat} {b : Bool} {ρ : Type} {rt : ρ → Option Value × Wd} {res : Option ρ} {w : Wd} {pc : Nat} {lv : List (Nat × Value)} {st : List Value} (F : Fx K cc nL own ret fr lo b) {x y : Int32} {off : Int} (tgt : Nat) (hd : decode cc pc = .ok (.if_icmp .ge off, 3)) (ht : (pc : Int) + off = (tgt : Int)) (kt : y ≤ x → N K rt res w tgt lv st) (kf : ¬ y ≤ x → N K rt res w (pc + 3) lv st) : N K rt res w pc lv (.int y :: .int x :: st) := by
  obtain ⟨p, l, e, R, s, m, args, below, meth, c, g, σ⟩ := K
  obtain ⟨hx, hb, hml, hown, hts, hK, hN, hSK, hg, hlk, hrt, hR, hσ⟩ := F
  exact fun q hq H locs ls hP hS hl => lv_icmp_ge hx hb hd ht (fun h => kt h q hq H locs ls hP hS hl) (fun h => kf h q hq H locs ls hP hS hl)
theorem n_icmp_gt {K : Ctx} {cc : ByteArray} {nL : Nat} {own : String} {ret : Option FieldType} {fr lo : Nat} {b : Bool} {ρ : Type} {rt : ρ → Option Value × Wd} {res : Option ρ} {w : Wd} {pc : Nat} {lv : List (Nat × Value)} {st : List Value} (F : Fx K cc nL own ret fr lo b) {x y : Int32} {off : Int} (tgt : Nat) (hd : decode cc pc = .ok (.if_icmp .gt off, 3)) (ht : (pc : Int) + off = (tgt : Int)) (kt : y < x → N K rt res w tgt lv st) (kf : ¬ y < x → N K rt res w (pc + 3) lv st) : N K rt res w pc lv (.int y :: .int x :: st) := by
  obtain ⟨p, l, e, R, s, m, args, below, meth, c, g, σ⟩ := K
  obtain ⟨hx, hb, hml, hown, hts, hK, hN, hSK, hg, hlk, hrt, hR, hσ⟩ := F
  exact fun q hq H locs ls hP hS hl => lv_icmp_gt hx hb hd ht (fun h => kt h q hq H locs ls hP hS hl) (fun h => kf h q hq H locs ls hP hS hl)
theorem n_icmp_le {K : Ctx} {cc : ByteArray} {nL : Nat} {own : String} {ret : Option FieldType} {fr lo : Nat} {b : Bool} {ρ : Type} {rt : ρ → Option Value × Wd} {res : Option ρ} {w : Wd} {pc : Nat} {lv : List (Nat × Value)} {st : List Value} (F : Fx K cc nL own ret fr lo b) {x y : Int32} {off : Int} (tgt : Nat) (hd : decode cc pc = .ok (.if_icmp .le off, 3)) (ht : (pc : Int) + off = (tgt : Int)) (kt : x ≤ y → N K rt res w tgt lv st) (kf : ¬ x ≤ y → N K rt res w (pc + 3) lv st) : N K rt res w pc lv (.int y :: .int x :: st) := by
  obtain ⟨p, l, e, R, s, m, args, below, meth, c, g, σ⟩ := K
  obtain ⟨hx, hb, hml, hown, hts, hK, hN, hSK, hg, hlk, hrt, hR, hσ⟩ := F
  exact fun q hq H locs ls hP hS hl => lv_icmp_le hx hb hd ht (fun h => kt h q hq H locs ls hP hS hl) (fun h => kf h q hq H locs ls hP hS hl)
theorem n_tabIn {K : Ctx} {cc : ByteArray} {nL : Nat} {own : String} {ret : Option FieldType} {fr lo : Nat} {b : Bool} {ρ : Type} {rt : ρ → Option Value × Wd} {res : Option ρ} {w : Wd} {pc : Nat} {lv : List (Nat × Value)} {st : List Value} (F : Fx K cc nL own ret fr lo b) {dflt lo0 hi0 : Int} {offs : Array Int} {len : Nat} {x : Int32} {off : Int} (v : Int32) (tgt : Nat) (hd : decode cc pc = .ok (.tableswitch dflt lo0 hi0 offs, len)) (hv : x = v) (h1 : ¬ v.toInt < lo0) (h2 : ¬ hi0 < v.toInt) (ho : offs[(v.toInt - lo0).toNat]? = some off) (ht : (pc : Int) + off = (tgt : Int)) (k : N K rt res w tgt lv st) : N K rt res w pc lv (.int x :: st) := by
  obtain ⟨p, l, e, R, s, m, args, below, meth, c, g, σ⟩ := K
  obtain ⟨hx, hb, hml, hown, hts, hK, hN, hSK, hg, hlk, hrt, hR, hσ⟩ := F
  subst hv
  exact fun q hq H locs ls hP hS hl => lv_tableIn hx hb hd h1 h2 ho ht (k q hq H locs ls hP hS hl)
theorem n_tabOut {K : Ctx} {cc : ByteArray} {nL : Nat} {own : String} {ret : Option FieldType} {fr lo : Nat} {b : Bool} {ρ : Type} {rt : ρ → Option Value × Wd} {res : Option ρ} {w : Wd} {pc : Nat} {lv : List (Nat × Value)} {st : List Value} (F : Fx K cc nL own ret fr lo b) {dflt lo0 hi0 : Int} {offs : Array Int} {len : Nat} {x : Int32} (tgt : Nat) (hd : decode cc pc = .ok (.tableswitch dflt lo0 hi0 offs, len)) (h : x.toInt < lo0 ∨ hi0 < x.toInt) (ht : (pc : Int) + dflt = (tgt : Int)) (k : N K rt res w tgt lv st) : N K rt res w pc lv (.int x :: st) := by
  obtain ⟨p, l, e, R, s, m, args, below, meth, c, g, σ⟩ := K
  obtain ⟨hx, hb, hml, hown, hts, hK, hN, hSK, hg, hlk, hrt, hR, hσ⟩ := F
  exact fun q hq H locs ls hP hS hl => lv_tableOut hx hb hd h ht (k q hq H locs ls hP hS hl)
theorem n_look {K : Ctx} {cc : ByteArray} {nL : Nat} {own : String} {ret : Option FieldType} {fr lo : Nat} {b : Bool} {ρ : Type} {rt : ρ → Option Value × Wd} {res : Option ρ} {w : Wd} {pc : Nat} {lv : List (Nat × Value)} {st : List Value} (F : Fx K cc nL own ret fr lo b) {dflt : Int} {ps : Array (Int × Int)} {len : Nat} {x : Int32} {off : Int} (tgt : Nat) (hd : decode cc pc = .ok (.lookupswitch dflt ps, len)) (hp : (ps.toList.zip (ps.toList.drop 1)).all (fun (a, next) => a.1 < next.1) = true) (ho : Op.lookupswitch.offset ps.toList dflt x.toInt = off) (ht : (pc : Int) + off = (tgt : Int)) (k : N K rt res w tgt lv st) : N K rt res w pc lv (.int x :: st) := by
  obtain ⟨p, l, e, R, s, m, args, below, meth, c, g, σ⟩ := K
  obtain ⟨hx, hb, hml, hown, hts, hK, hN, hSK, hg, hlk, hrt, hR, hσ⟩ := F
  exact fun q hq H locs ls hP hS hl => lv_lookup hx hb hd hp ho ht (k q hq H locs ls hP hS hl)
theorem n_ldc {K : Ctx} {cc : ByteArray} {nL : Nat} {own : String} {ret : Option FieldType} {fr lo : Nat} {b : Bool} {ρ : Type} {rt : ρ → Option Value × Wd} {res : Option ρ} {w : Wd} {pc : Nat} {lv : List (Nat × Value)} {st : List Value} (F : Fx K cc nL own ret fr lo b) {index : Nat} (v : Int32) (hd : decode cc pc = .ok (.ldc index, 2)) (hc : Cond.constant own index v ∈ TB) (k : N K rt res w (pc + 2) lv (.int v :: st)) : N K rt res w pc lv st := by
  obtain ⟨p, l, e, R, s, m, args, below, meth, c, g, σ⟩ := K
  obtain ⟨hx, hb, hml, hown, hts, hK, hN, hSK, hg, hlk, hrt, hR, hσ⟩ := F
  exact fun q hq H locs ls hP hS hl => lv_ldc hx hb hown (hts _ hc) hd (k q hq H locs ls hP hS hl)
theorem n_ldc2 {K : Ctx} {cc : ByteArray} {nL : Nat} {own : String} {ret : Option FieldType} {fr lo : Nat} {b : Bool} {ρ : Type} {rt : ρ → Option Value × Wd} {res : Option ρ} {w : Wd} {pc : Nat} {lv : List (Nat × Value)} {st : List Value} (F : Fx K cc nL own ret fr lo b) {index : Nat} (v : Int64) (hd : decode cc pc = .ok (.ldc2_w index, 3)) (hc : Cond.constantLong own index v ∈ TB) (k : N K rt res w (pc + 3) lv (.long v :: st)) : N K rt res w pc lv st := by
  obtain ⟨p, l, e, R, s, m, args, below, meth, c, g, σ⟩ := K
  obtain ⟨hx, hb, hml, hown, hts, hK, hN, hSK, hg, hlk, hrt, hR, hσ⟩ := F
  exact fun q hq H locs ls hP hS hl => lv_ldc2 hx hb hown (hts _ hc) hd (k q hq H locs ls hP hS hl)
abbrev cg (K : Ctx) : GG := K.2.2.2.2.2.2.2.2.2.2.1
theorem n_none {K : Ctx} {ρ : Type} {rt : ρ → Option Value × Wd} {w : Wd} {pc : Nat} {lv : List (Nat × Value)} {st : List Value} : N K rt none w pc lv st := by
  obtain ⟨p, l, e, R, s, m, args, below, meth, c, g, σ⟩ := K
  exact fun q hq => by cases hq
theorem n_chk {K : Ctx} {ρ : Type} {rt : ρ → Option Value × Wd} {res : Option ρ} {w : Wd} {pc : Nat} {lv : List (Nat × Value)} {st : List Value} {P : Prop} [Decidable P] (k : P → N K rt res w pc lv st) : N K rt (if P then res else none) w pc lv st := by
  by_cases h : P
  · rw [if_pos h]; exact k h
  · rw [if_neg h]; exact n_none
theorem n_sub {K : Ctx} {ρ : Type} {rt : ρ → Option Value × Wd} {res : Option ρ} {w : Wd} {pc : Nat} {lv lv' : List (Nat × Value)} {st : List Value} (ks : List Nat) (hl' : lv_pick lv ks = lv') (k : N K rt res w pc lv' st) : N K rt res w pc lv st := by
  obtain ⟨p, l, e, R, s, m, args, below, meth, c, g, σ⟩ := K
  exact fun q hq H locs ls hP hS hl => k q hq H locs ls hP hS (lv_sub hl ks hl')
theorem n_zret {K : Ctx} {cc : ByteArray} {nL : Nat} {own : String} {ret : Option FieldType} {fr lo : Nat} {b : Bool} {ρ : Type} {rt : ρ → Option Value × Wd} {w : Wd} {pc : Nat} {lv : List (Nat × Value)} (F : Fx K cc nL own ret fr lo b) {q : ρ} {v : Int32} (ty : FieldType) (hret : ret = some ty) (hn : narrow ty (.int v) = .int v) (hq : rt q = (some (.int v), w)) (hd : decode cc pc = .ok (.ireturn, 1)) : N K rt (some q) w pc lv [.int v] := by
  obtain ⟨p, l, e, R, s, m, args, below, meth, c, g, σ⟩ := K
  obtain ⟨hx, hb, hml, hown, hts, hK, hN, hSK, hg, hlk, hrt, hR, hσ⟩ := F
  subst hret
  intro q' hq' H locs ls hP hS hl
  cases hq'
  rw [hq]
  exact W.zret hx hb hrt hn (fun t ht hW => ⟨rfl, by rw [ht]; exact hP, hS.F ht⟩) hS.2.2 hd hlk
theorem n_iret {K : Ctx} {cc : ByteArray} {nL : Nat} {own : String} {ret : Option FieldType} {fr lo : Nat} {b : Bool} {ρ : Type} {rt : ρ → Option Value × Wd} {w : Wd} {pc : Nat} {lv : List (Nat × Value)} (F : Fx K cc nL own ret fr lo b) {q : ρ} {v : Int32} (hret : ret = some .int) (hq : rt q = (some (.int v), w)) (hd : decode cc pc = .ok (.ireturn, 1)) : N K rt (some q) w pc lv [.int v] := n_zret F .int hret rfl hq hd
theorem n_lret {K : Ctx} {cc : ByteArray} {nL : Nat} {own : String} {ret : Option FieldType} {fr lo : Nat} {b : Bool} {ρ : Type} {rt : ρ → Option Value × Wd} {w : Wd} {pc : Nat} {lv : List (Nat × Value)} (F : Fx K cc nL own ret fr lo b) {q : ρ} {v : Int64} (hret : ret = some .long) (hq : rt q = (some (.long v), w)) (hd : decode cc pc = .ok (.lreturn, 1)) : N K rt (some q) w pc lv [.long v] := by
  obtain ⟨p, l, e, R, s, m, args, below, meth, c, g, σ⟩ := K
  obtain ⟨hx, hb, hml, hown, hts, hK, hN, hSK, hg, hlk, hrt, hR, hσ⟩ := F
  subst hret
  intro q' hq' H locs ls hP hS hl
  cases hq'
  rw [hq]
  exact W.lret hx hb hrt (fun t ht hW => ⟨rfl, by rw [ht]; exact hP, hS.F ht⟩) hS.2.2 hd hlk
theorem n_vret {K : Ctx} {cc : ByteArray} {nL : Nat} {own : String} {ret : Option FieldType} {fr lo : Nat} {b : Bool} {ρ : Type} {rt : ρ → Option Value × Wd} {w : Wd} {pc : Nat} {lv : List (Nat × Value)} (F : Fx K cc nL own ret fr lo b) {q : ρ} (hret : ret = none) (hq : rt q = (none, w)) (hd : decode cc pc = .ok (.return_, 1)) : N K rt (some q) w pc lv [] := by
  obtain ⟨p, l, e, R, s, m, args, below, meth, c, g, σ⟩ := K
  obtain ⟨hx, hb, hml, hown, hts, hK, hN, hSK, hg, hlk, hrt, hR, hσ⟩ := F
  subst hret
  intro q' hq' H locs ls hP hS hl
  cases hq'
  rw [hq]
  exact W.vret hx hb hrt (fun t ht hW => ⟨rfl, by rw [ht]; exact hP, hS.F ht⟩) hS.2.2 hd hlk
theorem n_aret {K : Ctx} {cc : ByteArray} {nL : Nat} {own : String} {ret : Option FieldType} {fr lo : Nat} {b : Bool} {ρ : Type} {rt : ρ → Option Value × Wd} {w : Wd} {pc : Nat} {lv : List (Nat × Value)} (F : Fx K cc nL own ret fr lo b) {q : ρ} {a : Nat} {cn : String} (hret : ret = some (.object cn)) (hq : rt q = (some (.ref a), w)) (hd : decode cc pc = .ok (.areturn, 1)) : N K rt (some q) w pc lv [.ref a] := by
  obtain ⟨p, l, e, R, s, m, args, below, meth, c, g, σ⟩ := K
  obtain ⟨hx, hb, hml, hown, hts, hK, hN, hSK, hg, hlk, hrt, hR, hσ⟩ := F
  subst hret
  intro q' hq' H locs ls hP hS hl
  cases hq'
  rw [hq]
  exact W.aret hx hb hrt (Or.inl ⟨_, rfl⟩) (Or.inr ⟨_, rfl⟩) (fun t ht hW => ⟨rfl, by rw [ht]; exact hP, hS.F ht⟩) hS.2.2 hd hlk
def ArrI (b : Bool) (a n : Nat) : Prop := a < 50 ∧ decide (a < 37) = b ∧ ∀ (g : GG) (w : Wd), cellE g w a = .inl (g.2.1.1, n, .inl (w.1 a))
theorem n_iald {K : Ctx} {cc : ByteArray} {nL : Nat} {own : String} {ret : Option FieldType} {fr lo : Nat} {b : Bool} {ρ : Type} {rt : ρ → Option Value × Wd} {res : Option ρ} {w : Wd} {pc : Nat} {lv : List (Nat × Value)} {st : List Value} (F : Fx K cc nL own ret fr lo b) {a n : Nat} (A : ArrI b a n) {i : Int32} (hin : vp_in i n) {j : Nat} (hj : i.toNatClampNeg = j) (hd : decode cc pc = .ok (.iaload, 1)) (k : N K rt res w (pc + 1) lv (.int (w.1 a j) :: st)) : N K rt res w pc lv (.int i :: .ref (gA (cg K) a) :: st) := by
  obtain ⟨p, l, e, R, s, m, args, below, meth, c, g, σ⟩ := K
  obtain ⟨hx, hb, hml, hown, hts, hK, hN, hSK, hg, hlk, hrt, hR, hσ⟩ := F
  subst hj
  subst hσ
  exact fun q hq H locs ls hP hS hl => va_iald hx hb hK hP a 0 (by rw [EE_get A.1 A.2.1, A.2.2 g w]) rfl hin hd (k q hq H locs ls hP hS hl)
theorem n_iast {K : Ctx} {cc : ByteArray} {nL : Nat} {own : String} {ret : Option FieldType} {fr lo : Nat} {b : Bool} {ρ : Type} {rt : ρ → Option Value × Wd} {res : Option ρ} {w : Wd} {pc : Nat} {lv : List (Nat × Value)} {st : List Value} (F : Fx K cc nL own ret fr lo b) {a n : Nat} (A : ArrI b a n) {i x : Int32} (hin : vp_in i n) {j : Nat} (hj : i.toNatClampNeg = j) (hd : decode cc pc = .ok (.iastore, 1)) (k : N K rt res (sI w a j x) (pc + 1) lv st) : N K rt res w pc lv (.int x :: .int i :: .ref (gA (cg K) a) :: st) := by
  obtain ⟨p, l, e, R, s, m, args, below, meth, c, g, σ⟩ := K
  obtain ⟨hx, hb, hml, hown, hts, hK, hN, hSK, hg, hlk, hrt, hR, hσ⟩ := F
  subst hj
  subst hσ
  have e1 : cellE g (sI w a i.toNatClampNeg x) a = .inl (g.2.1.1, n, .inl (upd (w.1 a) i.toNatClampNeg x)) := by
    rw [A.2.2 g _]
    simp [sI]
  exact fun q hq H locs ls hP hS hl => va_iast hx hb hK hP (EE_D hg) hS a 0 (by rw [EE_get A.1 A.2.1, A.2.2 g w]) rfl hin hd (fun H1 locs1 hP1 _ hS1 => k q hq H1 locs1 ls (by rw [← e1, EE_set A.1 A.2.1 (fun q h => cellE_sI h)] at hP1; exact hP1) hS1 hl)
def ArrC (b : Bool) (a n : Nat) : Prop := a < 50 ∧ decide (a < 37) = b ∧ ∀ (g : GG) (w : Wd), cellE g w a = .inl (g.2.1.2.1, n, .inl (w.1 a))
theorem n_cald {K : Ctx} {cc : ByteArray} {nL : Nat} {own : String} {ret : Option FieldType} {fr lo : Nat} {b : Bool} {ρ : Type} {rt : ρ → Option Value × Wd} {res : Option ρ} {w : Wd} {pc : Nat} {lv : List (Nat × Value)} {st : List Value} (F : Fx K cc nL own ret fr lo b) {a n : Nat} (A : ArrC b a n) {i : Int32} (hin : vp_in i n) {j : Nat} (hj : i.toNatClampNeg = j) (hd : decode cc pc = .ok (.caload, 1)) (k : N K rt res w (pc + 1) lv (.int (w.1 a j) :: st)) : N K rt res w pc lv (.int i :: .ref (gA (cg K) a) :: st) := by
  obtain ⟨p, l, e, R, s, m, args, below, meth, c, g, σ⟩ := K
  obtain ⟨hx, hb, hml, hown, hts, hK, hN, hSK, hg, hlk, hrt, hR, hσ⟩ := F
  subst hj
  subst hσ
  exact fun q hq H locs ls hP hS hl => va_cald hx hb hK hP a 1 (by rw [EE_get A.1 A.2.1, A.2.2 g w]) rfl hin hd (k q hq H locs ls hP hS hl)
theorem n_cast {K : Ctx} {cc : ByteArray} {nL : Nat} {own : String} {ret : Option FieldType} {fr lo : Nat} {b : Bool} {ρ : Type} {rt : ρ → Option Value × Wd} {res : Option ρ} {w : Wd} {pc : Nat} {lv : List (Nat × Value)} {st : List Value} (F : Fx K cc nL own ret fr lo b) {a n : Nat} (A : ArrC b a n) {i x : Int32} (hin : vp_in i n) {j : Nat} (hj : i.toNatClampNeg = j) (hd : decode cc pc = .ok (.castore, 1)) (k : N K rt res (sI w a j (vp_nar .char x)) (pc + 1) lv st) : N K rt res w pc lv (.int x :: .int i :: .ref (gA (cg K) a) :: st) := by
  obtain ⟨p, l, e, R, s, m, args, below, meth, c, g, σ⟩ := K
  obtain ⟨hx, hb, hml, hown, hts, hK, hN, hSK, hg, hlk, hrt, hR, hσ⟩ := F
  subst hj
  subst hσ
  have e1 : cellE g (sI w a i.toNatClampNeg (vp_nar .char x)) a = .inl (g.2.1.2.1, n, .inl (upd (w.1 a) i.toNatClampNeg (vp_nar .char x))) := by
    rw [A.2.2 g _]
    simp [sI]
  exact fun q hq H locs ls hP hS hl => va_cast hx hb hK hP (EE_D hg) hS a 1 (by rw [EE_get A.1 A.2.1, A.2.2 g w]) rfl hin hd (fun H1 locs1 hP1 _ hS1 => k q hq H1 locs1 ls (by rw [← e1, EE_set A.1 A.2.1 (fun q h => cellE_sI h)] at hP1; exact hP1) hS1 hl)
def ArrZ (b : Bool) (a n : Nat) : Prop := a < 50 ∧ decide (a < 37) = b ∧ ∀ (g : GG) (w : Wd), cellE g w a = .inl (g.2.1.2.2.2, n, .inl (w.1 a))
theorem n_zald {K : Ctx} {cc : ByteArray} {nL : Nat} {own : String} {ret : Option FieldType} {fr lo : Nat} {b : Bool} {ρ : Type} {rt : ρ → Option Value × Wd} {res : Option ρ} {w : Wd} {pc : Nat} {lv : List (Nat × Value)} {st : List Value} (F : Fx K cc nL own ret fr lo b) {a n : Nat} (A : ArrZ b a n) {i : Int32} (hin : vp_in i n) {j : Nat} (hj : i.toNatClampNeg = j) (hd : decode cc pc = .ok (.baload, 1)) (k : N K rt res w (pc + 1) lv (.int (w.1 a j) :: st)) : N K rt res w pc lv (.int i :: .ref (gA (cg K) a) :: st) := by
  obtain ⟨p, l, e, R, s, m, args, below, meth, c, g, σ⟩ := K
  obtain ⟨hx, hb, hml, hown, hts, hK, hN, hSK, hg, hlk, hrt, hR, hσ⟩ := F
  subst hj
  subst hσ
  exact fun q hq H locs ls hP hS hl => va_zald hx hb hK hP a 3 (by rw [EE_get A.1 A.2.1, A.2.2 g w]) rfl hin hd (k q hq H locs ls hP hS hl)
theorem n_zast {K : Ctx} {cc : ByteArray} {nL : Nat} {own : String} {ret : Option FieldType} {fr lo : Nat} {b : Bool} {ρ : Type} {rt : ρ → Option Value × Wd} {res : Option ρ} {w : Wd} {pc : Nat} {lv : List (Nat × Value)} {st : List Value} (F : Fx K cc nL own ret fr lo b) {a n : Nat} (A : ArrZ b a n) {i x : Int32} (hin : vp_in i n) {j : Nat} (hj : i.toNatClampNeg = j) (hd : decode cc pc = .ok (.bastore, 1)) (k : N K rt res (sI w a j (vp_nar .boolean x)) (pc + 1) lv st) : N K rt res w pc lv (.int x :: .int i :: .ref (gA (cg K) a) :: st) := by
  obtain ⟨p, l, e, R, s, m, args, below, meth, c, g, σ⟩ := K
  obtain ⟨hx, hb, hml, hown, hts, hK, hN, hSK, hg, hlk, hrt, hR, hσ⟩ := F
  subst hj
  subst hσ
  have e1 : cellE g (sI w a i.toNatClampNeg (vp_nar .boolean x)) a = .inl (g.2.1.2.2.2, n, .inl (upd (w.1 a) i.toNatClampNeg (vp_nar .boolean x))) := by
    rw [A.2.2 g _]
    simp [sI]
  exact fun q hq H locs ls hP hS hl => va_zast hx hb hK hP (EE_D hg) hS a 3 (by rw [EE_get A.1 A.2.1, A.2.2 g w]) rfl hin hd (fun H1 locs1 hP1 _ hS1 => k q hq H1 locs1 ls (by rw [← e1, EE_set A.1 A.2.1 (fun q h => cellE_sI h)] at hP1; exact hP1) hS1 hl)
def ArrJ (b : Bool) (a n : Nat) : Prop := a < 50 ∧ decide (a < 37) = b ∧ ∀ (g : GG) (w : Wd), cellE g w a = .inl (g.2.1.2.2.1, n, .inr (.inl (w.2 a)))
theorem n_lald {K : Ctx} {cc : ByteArray} {nL : Nat} {own : String} {ret : Option FieldType} {fr lo : Nat} {b : Bool} {ρ : Type} {rt : ρ → Option Value × Wd} {res : Option ρ} {w : Wd} {pc : Nat} {lv : List (Nat × Value)} {st : List Value} (F : Fx K cc nL own ret fr lo b) {a n : Nat} (A : ArrJ b a n) {i : Int32} (hin : vp_in i n) {j : Nat} (hj : i.toNatClampNeg = j) (hd : decode cc pc = .ok (.laload, 1)) (k : N K rt res w (pc + 1) lv (.long (w.2 a j) :: st)) : N K rt res w pc lv (.int i :: .ref (gA (cg K) a) :: st) := by
  obtain ⟨p, l, e, R, s, m, args, below, meth, c, g, σ⟩ := K
  obtain ⟨hx, hb, hml, hown, hts, hK, hN, hSK, hg, hlk, hrt, hR, hσ⟩ := F
  subst hj
  subst hσ
  exact fun q hq H locs ls hP hS hl => va_lald hx hb hK hP a 2 (by rw [EE_get A.1 A.2.1, A.2.2 g w]) rfl hin hd (k q hq H locs ls hP hS hl)
theorem n_last {K : Ctx} {cc : ByteArray} {nL : Nat} {own : String} {ret : Option FieldType} {fr lo : Nat} {b : Bool} {ρ : Type} {rt : ρ → Option Value × Wd} {res : Option ρ} {w : Wd} {pc : Nat} {lv : List (Nat × Value)} {st : List Value} (F : Fx K cc nL own ret fr lo b) {a n : Nat} (A : ArrJ b a n) {i : Int32} {x : Int64} (hin : vp_in i n) {j : Nat} (hj : i.toNatClampNeg = j) (hd : decode cc pc = .ok (.lastore, 1)) (k : N K rt res (sJ w a j x) (pc + 1) lv st) : N K rt res w pc lv (.long x :: .int i :: .ref (gA (cg K) a) :: st) := by
  obtain ⟨p, l, e, R, s, m, args, below, meth, c, g, σ⟩ := K
  obtain ⟨hx, hb, hml, hown, hts, hK, hN, hSK, hg, hlk, hrt, hR, hσ⟩ := F
  subst hj
  subst hσ
  have e1 : cellE g (sJ w a i.toNatClampNeg x) a = .inl (g.2.1.2.2.1, n, .inr (.inl (vp_updL (w.2 a) i.toNatClampNeg x))) := by
    rw [A.2.2 g _]
    simp [sJ]
  exact fun q hq H locs ls hP hS hl => va_last hx hb hK hP (EE_D hg) hS a 2 (by rw [EE_get A.1 A.2.1, A.2.2 g w]) rfl hin hd (fun H1 locs1 hP1 _ hS1 => k q hq H1 locs1 ls (by rw [← e1, EE_set A.1 A.2.1 (fun q h => cellE_sJ h)] at hP1; exact hP1) hS1 hl)
theorem n_alenI {K : Ctx} {cc : ByteArray} {nL : Nat} {own : String} {ret : Option FieldType} {fr lo : Nat} {b : Bool} {ρ : Type} {rt : ρ → Option Value × Wd} {res : Option ρ} {w : Wd} {pc : Nat} {lv : List (Nat × Value)} {st : List Value} (F : Fx K cc nL own ret fr lo b) {a n : Nat} (A : ArrI b a n) {v : Int32} (hv : Int32.ofNat n = v) (hd : decode cc pc = .ok (.arraylength, 1)) (k : N K rt res w (pc + 1) lv (.int v :: st)) : N K rt res w pc lv (.ref (gA (cg K) a) :: st) := by
  obtain ⟨p, l, e, R, s, m, args, below, meth, c, g, σ⟩ := K
  obtain ⟨hx, hb, hml, hown, hts, hK, hN, hSK, hg, hlk, hrt, hR, hσ⟩ := F
  subst hσ
  exact fun q hq H locs ls hP hS hl => va_alen (x := (n, .inl (w.1 a))) hx hb hK hP a 0 (by rw [EE_get A.1 A.2.1, A.2.2 g w]) rfl hv hd (k q hq H locs ls hP hS hl)
theorem n_alenJ {K : Ctx} {cc : ByteArray} {nL : Nat} {own : String} {ret : Option FieldType} {fr lo : Nat} {b : Bool} {ρ : Type} {rt : ρ → Option Value × Wd} {res : Option ρ} {w : Wd} {pc : Nat} {lv : List (Nat × Value)} {st : List Value} (F : Fx K cc nL own ret fr lo b) {a n : Nat} (A : ArrJ b a n) {v : Int32} (hv : Int32.ofNat n = v) (hd : decode cc pc = .ok (.arraylength, 1)) (k : N K rt res w (pc + 1) lv (.int v :: st)) : N K rt res w pc lv (.ref (gA (cg K) a) :: st) := by
  obtain ⟨p, l, e, R, s, m, args, below, meth, c, g, σ⟩ := K
  obtain ⟨hx, hb, hml, hown, hts, hK, hN, hSK, hg, hlk, hrt, hR, hσ⟩ := F
  subst hσ
  exact fun q hq H locs ls hP hS hl => va_alen (x := (n, .inr (.inl (w.2 a)))) hx hb hK hP a 2 (by rw [EE_get A.1 A.2.1, A.2.2 g w]) rfl hv hd (k q hq H locs ls hP hS hl)
theorem n_copyI {K : Ctx} {cc : ByteArray} {nL : Nat} {own : String} {ret : Option FieldType} {fr lo : Nat} {b : Bool} {ρ : Type} {rt : ρ → Option Value × Wd} {res : Option ρ} {w : Wd} {pc : Nat} {lv : List (Nat × Value)} {st : List Value} (F : Fx K cc nL own ret fr lo b) {a0 a1 n0 n1 : Nat} {idx : Nat} (A0 : ArrI b a0 n0) (A1 : ArrI b a1 n1) {sp dp n : Int32} (js jd jn : Nat) (hjs : sp.toNatClampNeg = js) (hjd : dp.toNatClampNeg = jd) (hjn : n.toNatClampNeg = jn) (h1 : ¬ sp < 0) (h2 : ¬ dp < 0) (h3 : ¬ n < 0) (h4 : js + jn ≤ n0) (h5 : jd + jn ≤ n1) (hw : Cond.methodLink own idx arraycopyName ∈ TB ∧ Cond.native arraycopyName ∈ TB ∧ Cond.static arraycopyName ∈ TB ∧ Cond.initialized "java/lang/System" ∈ TB) (hfr : 1 ≤ fr) (hlo : (st.map fun v => v.category).sum + (nativeFrameWords "java/lang/System" "arraycopy" 5 + 11) ≤ lo) (hd : decode cc pc = .ok (.invokestatic idx, 3)) (k : N K rt res (cI w a0 js a1 jd jn) (pc + 3) lv st) : N K rt res w pc lv (.int n :: .int dp :: .ref (gA (cg K) a1) :: .int sp :: .ref (gA (cg K) a0) :: st) := by
  obtain ⟨p, l, e, R, s, m, args, below, meth, c, g, σ⟩ := K
  obtain ⟨hx, hb, hml, hown, hts, hK, hN, hSK, hg, hlk, hrt, hR, hσ⟩ := F
  subst hjs; subst hjd; subst hjn
  subst hσ
  subst hR
  have e1 : cellE g (cI w a0 sp.toNatClampNeg a1 dp.toNatClampNeg n.toNatClampNeg) a1 = .inl (g.2.1.1, n1, .inl (va_cpy (w.1 a0) (w.1 a1) sp.toNatClampNeg dp.toNatClampNeg n.toNatClampNeg)) := by
    rw [A1.2.2 g _]
    simp [cI]
  exact fun q hq H locs ls hP hS hl => va_copyi hx hb (by rw [hl.1]) hown (hts _ hw.1) (hts _ hw.2.1) (hts _ hw.2.2.1) (hts _ hw.2.2.2) hK hP (EE_D hg) hS a0 a1 0 0 (by rw [EE_get A0.1 A0.2.1, A0.2.2 g w]) (by rw [EE_get A1.1 A1.2.1, A1.2.2 g w]) rfl rfl rfl h1 h2 h3 h4 h5 (fun _ _ => rfl) hfr hlo hd (fun H1 locs1 hP1 _ hS1 => k q hq H1 locs1 ls (by rw [← e1, EE_set A1.1 A1.2.1 (fun q h => cellE_cI h)] at hP1; exact hP1) hS1 hl)
theorem n_copyJ {K : Ctx} {cc : ByteArray} {nL : Nat} {own : String} {ret : Option FieldType} {fr lo : Nat} {b : Bool} {ρ : Type} {rt : ρ → Option Value × Wd} {res : Option ρ} {w : Wd} {pc : Nat} {lv : List (Nat × Value)} {st : List Value} (F : Fx K cc nL own ret fr lo b) {a0 a1 n0 n1 : Nat} {idx : Nat} (A0 : ArrJ b a0 n0) (A1 : ArrJ b a1 n1) {sp dp n : Int32} (js jd jn : Nat) (hjs : sp.toNatClampNeg = js) (hjd : dp.toNatClampNeg = jd) (hjn : n.toNatClampNeg = jn) (h1 : ¬ sp < 0) (h2 : ¬ dp < 0) (h3 : ¬ n < 0) (h4 : js + jn ≤ n0) (h5 : jd + jn ≤ n1) (hw : Cond.methodLink own idx arraycopyName ∈ TB ∧ Cond.native arraycopyName ∈ TB ∧ Cond.static arraycopyName ∈ TB ∧ Cond.initialized "java/lang/System" ∈ TB) (hfr : 1 ≤ fr) (hlo : (st.map fun v => v.category).sum + (nativeFrameWords "java/lang/System" "arraycopy" 5 + 11) ≤ lo) (hd : decode cc pc = .ok (.invokestatic idx, 3)) (k : N K rt res (cJ w a0 js a1 jd jn) (pc + 3) lv st) : N K rt res w pc lv (.int n :: .int dp :: .ref (gA (cg K) a1) :: .int sp :: .ref (gA (cg K) a0) :: st) := by
  obtain ⟨p, l, e, R, s, m, args, below, meth, c, g, σ⟩ := K
  obtain ⟨hx, hb, hml, hown, hts, hK, hN, hSK, hg, hlk, hrt, hR, hσ⟩ := F
  subst hjs; subst hjd; subst hjn
  subst hσ
  subst hR
  have e1 : cellE g (cJ w a0 sp.toNatClampNeg a1 dp.toNatClampNeg n.toNatClampNeg) a1 = .inl (g.2.1.2.2.1, n1, .inr (.inl (va_cpy (w.2 a0) (w.2 a1) sp.toNatClampNeg dp.toNatClampNeg n.toNatClampNeg))) := by
    rw [A1.2.2 g _]
    simp [cJ]
  exact fun q hq H locs ls hP hS hl => va_copyl hx hb (by rw [hl.1]) hown (hts _ hw.1) (hts _ hw.2.1) (hts _ hw.2.2.1) (hts _ hw.2.2.2) hK hP (EE_D hg) hS a0 a1 2 2 (by rw [EE_get A0.1 A0.2.1, A0.2.2 g w]) (by rw [EE_get A1.1 A1.2.1, A1.2.2 g w]) rfl rfl rfl h1 h2 h3 h4 h5 (fun _ _ => rfl) hfr hlo hd (fun H1 locs1 hP1 _ hS1 => k q hq H1 locs1 ls (by rw [← e1, EE_set A1.1 A1.2.1 (fun q h => cellE_cJ h)] at hP1; exact hP1) hS1 hl)
/-- a class of the world, its words among the tables' -/
def ClsOK (ci : Nat) (C : String) (T : u_T) (n : Nat) (ty : Nat → FieldType) : Prop := vwCl[ci]? = some (C, T, n) ∧ (∀ w ∈ u_ws C T n, w ∈ TB) ∧ (∀ k, k < n → parseFieldDescriptor (T k).2.2.1 = some (ty k)) ∧ ∀ a, a < n → ∀ b, b < n → a ≠ b → (T a).2.1 ≠ (T b).2.1
def FldG (b : Bool) (a ci k : Nat) (v : GG → Wd → Value) : Prop := a < 50 ∧ decide (a < 37) = b ∧ ∀ (g : GG) (w : Wd), ∃ fs, cellE g w a = .inr (ci, fs) ∧ fs[k]? = some (v g w)
def FldP (b : Bool) (a ci k : Nat) : Prop := a < 50 ∧ decide (a < 37) = b ∧ ∀ (g : GG) (w : Wd) (v : Int32), ∃ fs, cellE g w a = .inr (ci, fs) ∧ k < fs.length ∧ cellE g (sI w a k v) a = .inr (ci, fs.set k (.int v))
theorem n_get {K : Ctx} {cc : ByteArray} {nL : Nat} {own : String} {ret : Option FieldType} {fr lo : Nat} {b : Bool} {ρ : Type} {rt : ρ → Option Value × Wd} {res : Option ρ} {w : Wd} {pc : Nat} {lv : List (Nat × Value)} {st : List Value} (F : Fx K cc nL own ret fr lo b) {a ci k idx n : Nat} {C : String} {T : u_T} {ty : Nat → FieldType} {v : GG → Wd → Value} (O : ClsOK ci C T n ty) (L : Cond.fieldLink own idx (T k).1 (T k).2.1 (T k).2.2.1 ∈ TB) (hk : k < n) (G : FldG b a ci k v) (hd : decode cc pc = .ok (.getfield idx, 3)) (kk : N K rt res w (pc + 3) lv (v (cg K) w :: st)) : N K rt res w pc lv (.ref (gA (cg K) a) :: st) := by
  obtain ⟨p, l, e, R, s, m, args, below, meth, c, g, σ⟩ := K
  obtain ⟨hx, hb, hml, hown, hts, hK, hN, hSK, hg, hlk, hrt, hR, hσ⟩ := F
  subst hσ
  obtain ⟨fs, e1, e2⟩ := G.2.2 g w
  exact fun q hq H locs ls hP hS hl => va_get (D := gD g) (ci := ci) (C := C) (T := T) (N := n) hx hb hts O.2.1 hown hK hP a (by rw [EE_get G.1 G.2.1, e1]) O.1 k hk (hts _ L) (fun _ h9 => h9) e2 hd (kk q hq H locs ls hP hS hl)
theorem n_getN {K : Ctx} {cc : ByteArray} {nL : Nat} {own : String} {ret : Option FieldType} {fr lo : Nat} {b : Bool} {ρ : Type} {rt : ρ → Option Value × Wd} {res : Option ρ} {w : Wd} {pc : Nat} {lv : List (Nat × Value)} {st : List Value} (F : Fx K cc nL own ret fr lo b) {a ci k idx n : Nat} {C : String} {T : u_T} {ty : Nat → FieldType} {v : GG → Wd → Value} (O : ClsOK ci C T n ty) (L : (own, idx, (T k).1, (T k).2.1, (T k).2.2.1) ∈ nstF) (hk : k < n) (G : FldG b a ci k v) (hd : decode cc pc = .ok (.getfield idx, 3)) (kk : N K rt res w (pc + 3) lv (v (cg K) w :: st)) : N K rt res w pc lv (.ref (gA (cg K) a) :: st) := by
  obtain ⟨p, l, e, R, s, m, args, below, meth, c, g, σ⟩ := K
  obtain ⟨hx, hb, hml, hown, hts, hK, hN, hSK, hg, hlk, hrt, hR, hσ⟩ := F
  subst hσ
  obtain ⟨fs, e1, e2⟩ := G.2.2 g w
  exact fun q hq H locs ls hP hS hl => va_getN (D := gD g) (ci := ci) (C := C) (T := T) (N := n) hx hb hts O.2.1 hown hK hP a (by rw [EE_get G.1 G.2.1, e1]) O.1 k hk ((hN.1 _ L).use rfl) (fun _ h9 => h9) e2 hd (kk q hq H locs ls hP hS hl)
theorem n_put {K : Ctx} {cc : ByteArray} {nL : Nat} {own : String} {ret : Option FieldType} {fr lo : Nat} {b : Bool} {ρ : Type} {rt : ρ → Option Value × Wd} {res : Option ρ} {w : Wd} {pc : Nat} {lv : List (Nat × Value)} {st : List Value} (F : Fx K cc nL own ret fr lo b) {a ci k idx n : Nat} {C : String} {T : u_T} {ty : Nat → FieldType} {x : Int32} (O : ClsOK ci C T n ty) (L : Cond.fieldLink own idx (T k).1 (T k).2.1 (T k).2.2.1 ∈ TB) (hk : k < n) (hf : (T k).2.2.2 = false) (G : FldP b a ci k) (hn : narrow (ty k) (.int x) = .int x) (hfit : fits (ty k) (.int x) = true) (hd : decode cc pc = .ok (.putfield idx, 3)) (kk : N K rt res (sI w a k x) (pc + 3) lv st) : N K rt res w pc lv (.int x :: .ref (gA (cg K) a) :: st) := by
  obtain ⟨p, l, e, R, s, m, args, below, meth, c, g, σ⟩ := K
  obtain ⟨hx, hb, hml, hown, hts, hK, hN, hSK, hg, hlk, hrt, hR, hσ⟩ := F
  subst hσ
  obtain ⟨fs, e1, e2, e3⟩ := G.2.2 g w x
  exact fun q hq H locs ls hP hS hl => va_put (D := gD g) (ci := ci) (C := C) (T := T) (N := n) hx hb hts O.2.1 ty O.2.2.1 O.2.2.2 hown hK hP (EE_D hg) hS a (by rw [EE_get G.1 G.2.1, e1]) O.1 k hk (hts _ L) (fun _ h9 => h9) hf (O.2.2.1 k hk) hn hfit e2 hd (fun H1 locs1 hP1 _ hS1 => kk q hq H1 locs1 ls (by rw [← e3, EE_set G.1 G.2.1 (fun q h => cellE_sI h)] at hP1; exact hP1) hS1 hl)
/-- the words of a call -/
def CwB (y : MethodName) (cc : ByteArray) (nL : Nat) (ret : Option FieldType) (n : Nat) : Prop := Cond.code y cc nL ret ∈ TB ∧ Cond.initialized y.cls ∈ TB ∧ (y.cls ≠ "java/lang/invoke/MethodHandle" ∧ y.cls ≠ "java/lang/invoke/VarHandle" ∧ (parseMethodDescriptor y.desc).map (fun d => d.parameters.length) = some n)
theorem n_run {K : Ctx} {cc : ByteArray} {nL : Nat} {own : String} {ret : Option FieldType} {fr lo : Nat} {b : Bool} {ρ : Type} {rt : ρ → Option Value × Wd} {res : Option ρ} {w : Wd} {pc : Nat} {lv : List (Nat × Value)} {st : List Value} (F : Fx K cc nL own ret fr lo b) {y : MethodName} {c2 : ByteArray} {nL2 : Nat} {ret2 : Option FieldType} {fr2 lo2 : Nat} {av : List Value} {r : Option Value} {w' : Wd} {stk : List Value} (M : CT K.2.1 (cg K) K.2.2.2.2.2.2.2.2.2.2.2 y c2 nL2 ret2 fr2 lo2 av w r w')
    (hrun : ∀ (H : Heap) (locs : List Loc) (ls : Array Slot), va_P (gD (cg K)) vwCl (EE (cg K) K.2.2.2.2.2.2.2.2.2.2.2 w) H → va_S (AD (cg K)) K.2.2.2.2.1.heap H locs → lv_has ls K.2.2.2.2.2.2.2.2.2.1.maxLocals lv → va_Run K.1 K.2.1 K.2.2.1 K.2.2.2.1 K.2.2.2.2.1 K.2.2.2.2.2.1 K.2.2.2.2.2.2.1 K.2.2.2.2.2.2.2.1 K.2.2.2.2.2.2.2.2.1 K.2.2.2.2.2.2.2.2.2.1 H locs 0 0 0 0 (F0 K.2.2.2.2.2.1 pc ls stk) st (QQ (cg K) K.2.2.2.2.2.2.2.2.2.2.2 r w' av.toArray) (AD (cg K)))
    (k : N K rt res w' (pc + 3) lv (r.toList ++ st)) : N K rt res w pc lv stk := by
  obtain ⟨p, l, e, R, s, m, args, below, meth, c, g, σ⟩ := K
  obtain ⟨hx, hb, hml, hown, hts, hK, hN, hSK, hg, hlk, hrt, hR, hσ⟩ := F
  intro q hq H locs ls hP hS hl T hT X
  obtain ⟨v, st₀, t, T', L, h0, X', hL, e1, e2, ⟨hv, hP1, hz, hk⟩, hst⟩ := hrun H locs ls hP hS hl T hT X
  cases hv
  rw [h0] at hz hk
  dsimp only at e1 hz hk hP1
  obtain ⟨t2, a1, b1⟩ := k q hq T'.heap (locs ++ L) ls (by rw [e1]; exact hP1)
    ⟨Nat.le_trans hS.1 (by rw [e1]; exact hz), fun q h1 h2 => by rw [e1, hk q (Nat.lt_of_lt_of_le h1 hS.1) h2]; exact hS.2.1 q h1 h2, fun q hq => by
      rcases List.mem_append.mp hq with h | h
      · exact hS.2.2 q h
      · exact hL q h⟩ hl T' rfl X'
  exact ⟨t2, hst t2 a1, b1⟩
theorem hd_at {K : Ctx} {cc : ByteArray} {nL : Nat} {own : String} {ret : Option FieldType} {fr lo : Nat} {b : Bool} {w : Wd} (F : Fx K cc nL own ret fr lo b) {H : Heap} {locs : List Loc} (hP : va_P (gD (cg K)) vwCl (EE (cg K) K.2.2.2.2.2.2.2.2.2.2.2 w) H) (hS : va_S (AD (cg K)) K.2.2.2.2.1.heap H locs) (U : State) (hU : U.heap = H) (hW : K.2.2.2.2.1.WarmedH U.vm) : HD (cg K) K.2.2.2.2.2.2.2.2.2.2.2 w U := by
  obtain ⟨p, l, e, R, s, m, args, below, meth, c, g, σ⟩ := K
  obtain ⟨hx, hb, hml, hown, hts, hK, hN, hSK, hg, hlk, hrt, hR, hσ⟩ := F
  exact ⟨by rw [hU]; exact hP, va_K.moved hW.alike hK, hN.warm hW, by rw [hU]; exact (hSK.warm hW).kept hS.2.1⟩
theorem n_callV {K : Ctx} {cc : ByteArray} {nL : Nat} {own : String} {ret : Option FieldType} {fr lo : Nat} {b : Bool} {ρ : Type} {rt : ρ → Option Value × Wd} {res : Option ρ} {w : Wd} {pc : Nat} {lv : List (Nat × Value)} {st : List Value} (F : Fx K cc nL own ret fr lo b) {y : MethodName} {c2 : ByteArray} {nL2 : Nat} {ret2 : Option FieldType} {fr2 lo2 idx n : Nat} {As : List Value} {r : Option Value} {w' : Wd} {stk : List Value} {a ci : Nat} (hB : CwB y c2 nL2 ret2 n) (hL : Cond.methodLink own idx y ∈ TB ∧ Cond.instanceMethod y ∈ TB ∧ Cond.selects y.cls y y ∈ TB) (G : a < 50 ∧ decide (a < 37) = b ∧ ∀ (g : GG) (w : Wd), ∃ fs, cellE g w a = .inr (ci, fs)) (hC : ∃ T N, vwCl[ci]? = some (y.cls, T, N))
    (M : CT K.2.1 (cg K) K.2.2.2.2.2.2.2.2.2.2.2 y c2 nL2 ret2 fr2 lo2 (.ref (gA (cg K) a) :: As) w r w') (hn : As.length = n) (hstk : stk = As.reverse ++ .ref (gA (cg K) a) :: st) (hst : (st.map fun v => v.category).sum ≤ 8) (hroom : fr2 + 1 ≤ fr ∧ 8 + (nL2 + 11) + lo2 ≤ lo) (hd : decode cc pc = .ok (.invokevirtual idx, 3)) (k : N K rt res w' (pc + 3) lv (r.toList ++ st)) : N K rt res w pc lv stk := by
  refine n_run F M (fun H locs ls hP hS hl => ?_) k
  have hU := fun U hU hW => hd_at F hP hS U hU hW
  obtain ⟨p, l, e, R, s, m, args, below, meth, c, g, σ⟩ := K
  obtain ⟨hx, hb, hml, hown, hts, hK, hN, hSK, hg, hlk, hrt, hR, hσ⟩ := F
  subst hσ
  subst hR
  obtain ⟨fs, e1⟩ := G.2.2 g w
  obtain ⟨T, N, hC⟩ := hC
  refine va_runV (C := y.cls) (Ts := TB) ⟨hx, hb, rfl, hown, hts⟩ M ⟨callB_of n hts (tb_code hB.1) rfl rfl rfl (hts _ hB.2.1) (hts _ hL.1) hB.2.2 hroom, hts _ hL.2.1, hts _ hL.2.2⟩ ⟨HD_blind, va_recv hK hP (ci := ci) (q0 := a) hC (by rw [EE_get G.1 G.2.1, e1]), fun U h1 h2 => ⟨rfl, hU U h1 h2⟩⟩ rfl hn hl.1 hstk (lv_room hst) hd ⟨Nat.le_refl _, Nat.le_refl _⟩
theorem n_callS {K : Ctx} {cc : ByteArray} {nL : Nat} {own : String} {ret : Option FieldType} {fr lo : Nat} {b : Bool} {ρ : Type} {rt : ρ → Option Value × Wd} {res : Option ρ} {w : Wd} {pc : Nat} {lv : List (Nat × Value)} {st : List Value} (F : Fx K cc nL own ret fr lo b) {y : MethodName} {c2 : ByteArray} {nL2 : Nat} {ret2 : Option FieldType} {fr2 lo2 idx n : Nat} {As : List Value} {r : Option Value} {w' : Wd} {stk : List Value} (hB : CwB y c2 nL2 ret2 n) (hL : Cond.methodLink own idx y ∈ TB ∧ Cond.static y ∈ TB)
    (M : CT K.2.1 (cg K) K.2.2.2.2.2.2.2.2.2.2.2 y c2 nL2 ret2 fr2 lo2 As w r w') (hn : As.length = n) (hstk : stk = As.reverse ++ st) (hst : (st.map fun v => v.category).sum ≤ 8) (hroom : fr2 + 1 ≤ fr ∧ 8 + (nL2 + 11) + lo2 ≤ lo) (hd : decode cc pc = .ok (.invokestatic idx, 3)) (k : N K rt res w' (pc + 3) lv (r.toList ++ st)) : N K rt res w pc lv stk := by
  refine n_run F M (fun H locs ls hP hS hl => ?_) k
  have hU := fun U hU hW => hd_at F hP hS U hU hW
  obtain ⟨p, l, e, R, s, m, args, below, meth, c, g, σ⟩ := K
  obtain ⟨hx, hb, hml, hown, hts, hK, hN, hSK, hg, hlk, hrt, hR, hσ⟩ := F
  subst hR
  exact va_runS (Ts := TB) ⟨hx, hb, rfl, hown, hts⟩ M ⟨callB_of n hts (tb_code hB.1) rfl rfl rfl (hts _ hB.2.1) (hts _ hL.1) hB.2.2 hroom, hts _ hL.2⟩ ⟨HD_blind, fun U h1 h2 => ⟨rfl, hU U h1 h2⟩⟩ rfl hn hl.1 hstk (lv_room hst) hd ⟨Nat.le_refl _, Nat.le_refl _⟩
theorem n_callSN {K : Ctx} {cc : ByteArray} {nL : Nat} {own : String} {ret : Option FieldType} {fr lo : Nat} {b : Bool} {ρ : Type} {rt : ρ → Option Value × Wd} {res : Option ρ} {w : Wd} {pc : Nat} {lv : List (Nat × Value)} {st : List Value} (F : Fx K cc nL own ret fr lo b) {y : MethodName} {c2 : ByteArray} {nL2 : Nat} {ret2 : Option FieldType} {fr2 lo2 idx n : Nat} {As : List Value} {r : Option Value} {w' : Wd} {stk : List Value} (hB : CwB y c2 nL2 ret2 n) (hL : (own, idx, y) ∈ nstM ∧ Cond.static y ∈ TB)
    (M : CT K.2.1 (cg K) K.2.2.2.2.2.2.2.2.2.2.2 y c2 nL2 ret2 fr2 lo2 As w r w') (hn : As.length = n) (hstk : stk = As.reverse ++ st) (hst : (st.map fun v => v.category).sum ≤ 8) (hroom : fr2 + 1 ≤ fr ∧ 8 + (nL2 + 11) + lo2 ≤ lo) (hd : decode cc pc = .ok (.invokestatic idx, 3)) (k : N K rt res w' (pc + 3) lv (r.toList ++ st)) : N K rt res w pc lv stk := by
  refine n_run F M (fun H locs ls hP hS hl => ?_) k
  have hU := fun U hU hW => hd_at F hP hS U hU hW
  obtain ⟨p, l, e, R, s, m, args, below, meth, c, g, σ⟩ := K
  obtain ⟨hx, hb, hml, hown, hts, hK, hN, hSK, hg, hlk, hrt, hR, hσ⟩ := F
  subst hR
  exact va_runSN (Ts := TB) ⟨hx, hb, rfl, hown, hts⟩ M ⟨va_cnB n hts (tb_code hB.1) rfl rfl rfl (hN.2 _ hL.1) (hts _ hB.2.1) hB.2.2 hroom, hts _ hL.2, trivial⟩ ⟨HD_blind, fun U h1 h2 => ⟨rfl, hU U h1 h2⟩⟩ rfl hn hl.1 hstk (lv_room hst) hd ⟨Nat.le_refl _, Nat.le_refl _⟩
/-- a call of a part function: what it says goes on -/
theorem n_bind {K : Ctx} {ρ τ : Type} {rt : ρ → Option Value × Wd} {w : Wd} {pc : Nat} {lv : List (Nat × Value)} {st : List Value} {f : Option τ} {h : τ → Option ρ} (k : ∀ q, f = some q → N K rt (h q) w pc lv st) : N K rt (f.bind h) w pc lv st := by
  cases f with
  | none => exact n_none
  | some q => exact k q rfl
theorem n_mmax {K : Ctx} {cc : ByteArray} {nL : Nat} {own : String} {ret : Option FieldType} {fr lo : Nat} {b : Bool} {ρ : Type} {rt : ρ → Option Value × Wd} {res : Option ρ} {w : Wd} {pc : Nat} {lv : List (Nat × Value)} {st : List Value} (F : Fx K cc nL own ret fr lo b) {idx : Nat} {x y : Int32} (hw : Cond.methodLink own idx Lib.Math.max.name ∈ TB ∧ Cond.static Lib.Math.max.name ∈ TB ∧ Cond.initialized "java/lang/Math" ∈ TB ∧ Cond.code Lib.Math.max.name Lib.Math.max.code 2 (some .int) ∈ TB) (hfr : 1 ≤ fr) (hlo : (st.map fun v => v.category).sum + 13 ≤ lo) (hd : decode cc pc = .ok (.invokestatic idx, 3)) (k : N K rt res w (pc + 3) lv (.int (if x < y then y else x) :: st)) : N K rt res w pc lv (.int y :: .int x :: st) := by
  obtain ⟨p, l, e, R, s, m, args, below, meth, c, g, σ⟩ := K
  obtain ⟨hx, hb, hml, hown, hts, hK, hN, hSK, hg, hlk, hrt, hR, hσ⟩ := F
  subst hR
  exact fun q hq H locs ls hP hS hl => va_mmax hx hb (by rw [hl.1]) hown (hts _ hw.1) (hts _ hw.2.1) (hts _ hw.2.2.1) (hts _ hw.2.2.2) hfr hlo (Nat.le_refl _) (Nat.le_refl _) hd (k q hq H locs ls hP hS hl)
theorem n_mmin {K : Ctx} {cc : ByteArray} {nL : Nat} {own : String} {ret : Option FieldType} {fr lo : Nat} {b : Bool} {ρ : Type} {rt : ρ → Option Value × Wd} {res : Option ρ} {w : Wd} {pc : Nat} {lv : List (Nat × Value)} {st : List Value} (F : Fx K cc nL own ret fr lo b) {idx : Nat} {x y : Int32} (hw : Cond.methodLink own idx Lib.Math.min.name ∈ TB ∧ Cond.static Lib.Math.min.name ∈ TB ∧ Cond.initialized "java/lang/Math" ∈ TB ∧ Cond.code Lib.Math.min.name Lib.Math.min.code 2 (some .int) ∈ TB) (hfr : 1 ≤ fr) (hlo : (st.map fun v => v.category).sum + 13 ≤ lo) (hd : decode cc pc = .ok (.invokestatic idx, 3)) (k : N K rt res w (pc + 3) lv (.int (if y < x then y else x) :: st)) : N K rt res w pc lv (.int y :: .int x :: st) := by
  obtain ⟨p, l, e, R, s, m, args, below, meth, c, g, σ⟩ := K
  obtain ⟨hx, hb, hml, hown, hts, hK, hN, hSK, hg, hlk, hrt, hR, hσ⟩ := F
  subst hR
  exact fun q hq H locs ls hP hS hl => va_mmin hx hb (by rw [hl.1]) hown (hts _ hw.1) (hts _ hw.2.1) (hts _ hw.2.2.1) (hts _ hw.2.2.2) hfr hlo (Nat.le_refl _) (Nat.le_refl _) hd (k q hq H locs ls hP hS hl)
end
section
def FU : Nat := 2000
def ib (i : Int32) (n : Nat) : Bool := decide (¬ (i < 0 ∨ n ≤ i.toNatClampNeg))
theorem ib_in {i : Int32} {n : Nat} (h : ib i n = true) : vp_in i n := of_decide_eq_true (p := ¬ (i < 0 ∨ n ≤ i.toNatClampNeg)) h
theorem ib_c {i : Int32} {n : Nat} (h : ib i n = true) : vp_in i n := ib_in h
theorem bz_n {v : Int32} (h : v &&& (1 : Int32) = v) : narrow .boolean (.int v) = .int v := by
  show Value.int (v &&& 1) = .int v
  rw [h]
theorem bz_01 {v : Int32} (h : v &&& (1 : Int32) = v) : v = 0 ∨ v = 1 := by
  obtain ⟨j, hj, e⟩ := pk_andE v (m := 1) 1 (by decide)
  rw [h] at e
  match j, hj, e with
  | 0, _, e => exact Or.inl e
  | 1, _, e => exact Or.inr e
theorem bz_f {v : Int32} (h : v &&& (1 : Int32) = v) : fits .boolean (.int v) = true := by
  rcases bz_01 h with e | e <;> rw [e] <;> decide
def rtI : Int32 × Wd → Option Value × Wd := fun q => (some (.int q.1), q.2)
def rtJ : Int64 × Wd → Option Value × Wd := fun q => (some (.long q.1), q.2)
def rtV : Wd → Option Value × Wd := fun q => (none, q)
def rtP (w : Wd) : Int32 → Option Value × Wd := fun r => (some (.int r), w)
def rtQ (w : Wd) : Int64 → Option Value × Wd := fun r => (some (.long r), w)
theorem fx_ok {K : Ctx} {cc : ByteArray} {nL : Nat} {own : String} {ret : Option FieldType} {fr lo : Nat} {b : Bool} (F : Fx K cc nL own ret fr lo b) : OKg (cg K) := by
  obtain ⟨p, l, e, R, s, m, args, below, meth, c, g, σ⟩ := K
  exact F.2.2.2.2.2.2.2.2.1
theorem fx_sd {K : Ctx} {cc : ByteArray} {nL : Nat} {own : String} {ret : Option FieldType} {fr lo : Nat} {b : Bool} (F : Fx K cc nL own ret fr lo b) : K.2.2.2.2.2.2.2.2.2.2.2.1 = b := by
  obtain ⟨p, l, e, R, s, m, args, below, meth, c, g, σ⟩ := K
  exact F.2.2.2.2.2.2.2.2.2.2.2.2
theorem n_callVi {K : Ctx} {cc : ByteArray} {nL : Nat} {own : String} {ret : Option FieldType} {fr lo : Nat} {b : Bool} {ρ : Type} {rt : ρ → Option Value × Wd} {res : Option ρ} {w : Wd} {pc : Nat} {lv : List (Nat × Value)} {st : List Value} (F : Fx K cc nL own ret fr lo b) {y : MethodName} {c2 : ByteArray} {nL2 : Nat} {ret2 : Option FieldType} {fr2 lo2 idx n : Nat} {As : List Value} {w' : Wd} {stk : List Value} {v : Int32} {a ci : Nat} (hB : CwB y c2 nL2 ret2 n) (hL : Cond.methodLink own idx y ∈ TB ∧ Cond.instanceMethod y ∈ TB ∧ Cond.selects y.cls y y ∈ TB) (G : a < 50 ∧ decide (a < 37) = b ∧ ∀ (g : GG) (w : Wd), ∃ fs, cellE g w a = .inr (ci, fs)) (hC : ∃ T N, vwCl[ci]? = some (y.cls, T, N))
    (M : CT K.2.1 (cg K) K.2.2.2.2.2.2.2.2.2.2.2 y c2 nL2 ret2 fr2 lo2 (.ref (gA (cg K) a) :: As) w (some (.int v)) w') (hn : As.length = n) (hstk : stk = As.reverse ++ .ref (gA (cg K) a) :: st) (hst : (st.map fun v => v.category).sum ≤ 8) (hroom : fr2 + 1 ≤ fr ∧ 8 + (nL2 + 11) + lo2 ≤ lo) (hd : decode cc pc = .ok (.invokevirtual idx, 3)) (k : N K rt res w' (pc + 3) lv (.int v :: st)) : N K rt res w pc lv stk := n_callV F hB hL G hC M hn hstk hst hroom hd k
theorem n_callVl {K : Ctx} {cc : ByteArray} {nL : Nat} {own : String} {ret : Option FieldType} {fr lo : Nat} {b : Bool} {ρ : Type} {rt : ρ → Option Value × Wd} {res : Option ρ} {w : Wd} {pc : Nat} {lv : List (Nat × Value)} {st : List Value} (F : Fx K cc nL own ret fr lo b) {y : MethodName} {c2 : ByteArray} {nL2 : Nat} {ret2 : Option FieldType} {fr2 lo2 idx n : Nat} {As : List Value} {w' : Wd} {stk : List Value} {v : Int64} {a ci : Nat} (hB : CwB y c2 nL2 ret2 n) (hL : Cond.methodLink own idx y ∈ TB ∧ Cond.instanceMethod y ∈ TB ∧ Cond.selects y.cls y y ∈ TB) (G : a < 50 ∧ decide (a < 37) = b ∧ ∀ (g : GG) (w : Wd), ∃ fs, cellE g w a = .inr (ci, fs)) (hC : ∃ T N, vwCl[ci]? = some (y.cls, T, N))
    (M : CT K.2.1 (cg K) K.2.2.2.2.2.2.2.2.2.2.2 y c2 nL2 ret2 fr2 lo2 (.ref (gA (cg K) a) :: As) w (some (.long v)) w') (hn : As.length = n) (hstk : stk = As.reverse ++ .ref (gA (cg K) a) :: st) (hst : (st.map fun v => v.category).sum ≤ 8) (hroom : fr2 + 1 ≤ fr ∧ 8 + (nL2 + 11) + lo2 ≤ lo) (hd : decode cc pc = .ok (.invokevirtual idx, 3)) (k : N K rt res w' (pc + 3) lv (.long v :: st)) : N K rt res w pc lv stk := n_callV F hB hL G hC M hn hstk hst hroom hd k
theorem n_callVv {K : Ctx} {cc : ByteArray} {nL : Nat} {own : String} {ret : Option FieldType} {fr lo : Nat} {b : Bool} {ρ : Type} {rt : ρ → Option Value × Wd} {res : Option ρ} {w : Wd} {pc : Nat} {lv : List (Nat × Value)} {st : List Value} (F : Fx K cc nL own ret fr lo b) {y : MethodName} {c2 : ByteArray} {nL2 : Nat} {ret2 : Option FieldType} {fr2 lo2 idx n : Nat} {As : List Value} {w' : Wd} {stk : List Value}  {a ci : Nat} (hB : CwB y c2 nL2 ret2 n) (hL : Cond.methodLink own idx y ∈ TB ∧ Cond.instanceMethod y ∈ TB ∧ Cond.selects y.cls y y ∈ TB) (G : a < 50 ∧ decide (a < 37) = b ∧ ∀ (g : GG) (w : Wd), ∃ fs, cellE g w a = .inr (ci, fs)) (hC : ∃ T N, vwCl[ci]? = some (y.cls, T, N))
    (M : CT K.2.1 (cg K) K.2.2.2.2.2.2.2.2.2.2.2 y c2 nL2 ret2 fr2 lo2 (.ref (gA (cg K) a) :: As) w none w') (hn : As.length = n) (hstk : stk = As.reverse ++ .ref (gA (cg K) a) :: st) (hst : (st.map fun v => v.category).sum ≤ 8) (hroom : fr2 + 1 ≤ fr ∧ 8 + (nL2 + 11) + lo2 ≤ lo) (hd : decode cc pc = .ok (.invokevirtual idx, 3)) (k : N K rt res w' (pc + 3) lv st) : N K rt res w pc lv stk := n_callV F hB hL G hC M hn hstk hst hroom hd k
theorem n_callVa {K : Ctx} {cc : ByteArray} {nL : Nat} {own : String} {ret : Option FieldType} {fr lo : Nat} {b : Bool} {ρ : Type} {rt : ρ → Option Value × Wd} {res : Option ρ} {w : Wd} {pc : Nat} {lv : List (Nat × Value)} {st : List Value} (F : Fx K cc nL own ret fr lo b) {y : MethodName} {c2 : ByteArray} {nL2 : Nat} {ret2 : Option FieldType} {fr2 lo2 idx n : Nat} {As : List Value} {w' : Wd} {stk : List Value} {v : Nat} {a ci : Nat} (hB : CwB y c2 nL2 ret2 n) (hL : Cond.methodLink own idx y ∈ TB ∧ Cond.instanceMethod y ∈ TB ∧ Cond.selects y.cls y y ∈ TB) (G : a < 50 ∧ decide (a < 37) = b ∧ ∀ (g : GG) (w : Wd), ∃ fs, cellE g w a = .inr (ci, fs)) (hC : ∃ T N, vwCl[ci]? = some (y.cls, T, N))
    (M : CT K.2.1 (cg K) K.2.2.2.2.2.2.2.2.2.2.2 y c2 nL2 ret2 fr2 lo2 (.ref (gA (cg K) a) :: As) w (some (.ref v)) w') (hn : As.length = n) (hstk : stk = As.reverse ++ .ref (gA (cg K) a) :: st) (hst : (st.map fun v => v.category).sum ≤ 8) (hroom : fr2 + 1 ≤ fr ∧ 8 + (nL2 + 11) + lo2 ≤ lo) (hd : decode cc pc = .ok (.invokevirtual idx, 3)) (k : N K rt res w' (pc + 3) lv (.ref v :: st)) : N K rt res w pc lv stk := n_callV F hB hL G hC M hn hstk hst hroom hd k
theorem n_callSi {K : Ctx} {cc : ByteArray} {nL : Nat} {own : String} {ret : Option FieldType} {fr lo : Nat} {b : Bool} {ρ : Type} {rt : ρ → Option Value × Wd} {res : Option ρ} {w : Wd} {pc : Nat} {lv : List (Nat × Value)} {st : List Value} (F : Fx K cc nL own ret fr lo b) {y : MethodName} {c2 : ByteArray} {nL2 : Nat} {ret2 : Option FieldType} {fr2 lo2 idx n : Nat} {As : List Value} {w' : Wd} {stk : List Value} {v : Int32} (hB : CwB y c2 nL2 ret2 n) (hL : Cond.methodLink own idx y ∈ TB ∧ Cond.static y ∈ TB)
    (M : CT K.2.1 (cg K) K.2.2.2.2.2.2.2.2.2.2.2 y c2 nL2 ret2 fr2 lo2 As w (some (.int v)) w') (hn : As.length = n) (hstk : stk = As.reverse ++ st) (hst : (st.map fun v => v.category).sum ≤ 8) (hroom : fr2 + 1 ≤ fr ∧ 8 + (nL2 + 11) + lo2 ≤ lo) (hd : decode cc pc = .ok (.invokestatic idx, 3)) (k : N K rt res w' (pc + 3) lv (.int v :: st)) : N K rt res w pc lv stk := n_callS F hB hL M hn hstk hst hroom hd k
theorem n_callSl {K : Ctx} {cc : ByteArray} {nL : Nat} {own : String} {ret : Option FieldType} {fr lo : Nat} {b : Bool} {ρ : Type} {rt : ρ → Option Value × Wd} {res : Option ρ} {w : Wd} {pc : Nat} {lv : List (Nat × Value)} {st : List Value} (F : Fx K cc nL own ret fr lo b) {y : MethodName} {c2 : ByteArray} {nL2 : Nat} {ret2 : Option FieldType} {fr2 lo2 idx n : Nat} {As : List Value} {w' : Wd} {stk : List Value} {v : Int64} (hB : CwB y c2 nL2 ret2 n) (hL : Cond.methodLink own idx y ∈ TB ∧ Cond.static y ∈ TB)
    (M : CT K.2.1 (cg K) K.2.2.2.2.2.2.2.2.2.2.2 y c2 nL2 ret2 fr2 lo2 As w (some (.long v)) w') (hn : As.length = n) (hstk : stk = As.reverse ++ st) (hst : (st.map fun v => v.category).sum ≤ 8) (hroom : fr2 + 1 ≤ fr ∧ 8 + (nL2 + 11) + lo2 ≤ lo) (hd : decode cc pc = .ok (.invokestatic idx, 3)) (k : N K rt res w' (pc + 3) lv (.long v :: st)) : N K rt res w pc lv stk := n_callS F hB hL M hn hstk hst hroom hd k
theorem n_callSv {K : Ctx} {cc : ByteArray} {nL : Nat} {own : String} {ret : Option FieldType} {fr lo : Nat} {b : Bool} {ρ : Type} {rt : ρ → Option Value × Wd} {res : Option ρ} {w : Wd} {pc : Nat} {lv : List (Nat × Value)} {st : List Value} (F : Fx K cc nL own ret fr lo b) {y : MethodName} {c2 : ByteArray} {nL2 : Nat} {ret2 : Option FieldType} {fr2 lo2 idx n : Nat} {As : List Value} {w' : Wd} {stk : List Value}  (hB : CwB y c2 nL2 ret2 n) (hL : Cond.methodLink own idx y ∈ TB ∧ Cond.static y ∈ TB)
    (M : CT K.2.1 (cg K) K.2.2.2.2.2.2.2.2.2.2.2 y c2 nL2 ret2 fr2 lo2 As w none w') (hn : As.length = n) (hstk : stk = As.reverse ++ st) (hst : (st.map fun v => v.category).sum ≤ 8) (hroom : fr2 + 1 ≤ fr ∧ 8 + (nL2 + 11) + lo2 ≤ lo) (hd : decode cc pc = .ok (.invokestatic idx, 3)) (k : N K rt res w' (pc + 3) lv st) : N K rt res w pc lv stk := n_callS F hB hL M hn hstk hst hroom hd k
theorem n_callSa {K : Ctx} {cc : ByteArray} {nL : Nat} {own : String} {ret : Option FieldType} {fr lo : Nat} {b : Bool} {ρ : Type} {rt : ρ → Option Value × Wd} {res : Option ρ} {w : Wd} {pc : Nat} {lv : List (Nat × Value)} {st : List Value} (F : Fx K cc nL own ret fr lo b) {y : MethodName} {c2 : ByteArray} {nL2 : Nat} {ret2 : Option FieldType} {fr2 lo2 idx n : Nat} {As : List Value} {w' : Wd} {stk : List Value} {v : Nat} (hB : CwB y c2 nL2 ret2 n) (hL : Cond.methodLink own idx y ∈ TB ∧ Cond.static y ∈ TB)
    (M : CT K.2.1 (cg K) K.2.2.2.2.2.2.2.2.2.2.2 y c2 nL2 ret2 fr2 lo2 As w (some (.ref v)) w') (hn : As.length = n) (hstk : stk = As.reverse ++ st) (hst : (st.map fun v => v.category).sum ≤ 8) (hroom : fr2 + 1 ≤ fr ∧ 8 + (nL2 + 11) + lo2 ≤ lo) (hd : decode cc pc = .ok (.invokestatic idx, 3)) (k : N K rt res w' (pc + 3) lv (.ref v :: st)) : N K rt res w pc lv stk := n_callS F hB hL M hn hstk hst hroom hd k
theorem n_callSNi {K : Ctx} {cc : ByteArray} {nL : Nat} {own : String} {ret : Option FieldType} {fr lo : Nat} {b : Bool} {ρ : Type} {rt : ρ → Option Value × Wd} {res : Option ρ} {w : Wd} {pc : Nat} {lv : List (Nat × Value)} {st : List Value} (F : Fx K cc nL own ret fr lo b) {y : MethodName} {c2 : ByteArray} {nL2 : Nat} {ret2 : Option FieldType} {fr2 lo2 idx n : Nat} {As : List Value} {w' : Wd} {stk : List Value} {v : Int32} (hB : CwB y c2 nL2 ret2 n) (hL : (own, idx, y) ∈ nstM ∧ Cond.static y ∈ TB)
    (M : CT K.2.1 (cg K) K.2.2.2.2.2.2.2.2.2.2.2 y c2 nL2 ret2 fr2 lo2 As w (some (.int v)) w') (hn : As.length = n) (hstk : stk = As.reverse ++ st) (hst : (st.map fun v => v.category).sum ≤ 8) (hroom : fr2 + 1 ≤ fr ∧ 8 + (nL2 + 11) + lo2 ≤ lo) (hd : decode cc pc = .ok (.invokestatic idx, 3)) (k : N K rt res w' (pc + 3) lv (.int v :: st)) : N K rt res w pc lv stk := n_callSN F hB hL M hn hstk hst hroom hd k
theorem n_callSNl {K : Ctx} {cc : ByteArray} {nL : Nat} {own : String} {ret : Option FieldType} {fr lo : Nat} {b : Bool} {ρ : Type} {rt : ρ → Option Value × Wd} {res : Option ρ} {w : Wd} {pc : Nat} {lv : List (Nat × Value)} {st : List Value} (F : Fx K cc nL own ret fr lo b) {y : MethodName} {c2 : ByteArray} {nL2 : Nat} {ret2 : Option FieldType} {fr2 lo2 idx n : Nat} {As : List Value} {w' : Wd} {stk : List Value} {v : Int64} (hB : CwB y c2 nL2 ret2 n) (hL : (own, idx, y) ∈ nstM ∧ Cond.static y ∈ TB)
    (M : CT K.2.1 (cg K) K.2.2.2.2.2.2.2.2.2.2.2 y c2 nL2 ret2 fr2 lo2 As w (some (.long v)) w') (hn : As.length = n) (hstk : stk = As.reverse ++ st) (hst : (st.map fun v => v.category).sum ≤ 8) (hroom : fr2 + 1 ≤ fr ∧ 8 + (nL2 + 11) + lo2 ≤ lo) (hd : decode cc pc = .ok (.invokestatic idx, 3)) (k : N K rt res w' (pc + 3) lv (.long v :: st)) : N K rt res w pc lv stk := n_callSN F hB hL M hn hstk hst hroom hd k
theorem n_callSNv {K : Ctx} {cc : ByteArray} {nL : Nat} {own : String} {ret : Option FieldType} {fr lo : Nat} {b : Bool} {ρ : Type} {rt : ρ → Option Value × Wd} {res : Option ρ} {w : Wd} {pc : Nat} {lv : List (Nat × Value)} {st : List Value} (F : Fx K cc nL own ret fr lo b) {y : MethodName} {c2 : ByteArray} {nL2 : Nat} {ret2 : Option FieldType} {fr2 lo2 idx n : Nat} {As : List Value} {w' : Wd} {stk : List Value}  (hB : CwB y c2 nL2 ret2 n) (hL : (own, idx, y) ∈ nstM ∧ Cond.static y ∈ TB)
    (M : CT K.2.1 (cg K) K.2.2.2.2.2.2.2.2.2.2.2 y c2 nL2 ret2 fr2 lo2 As w none w') (hn : As.length = n) (hstk : stk = As.reverse ++ st) (hst : (st.map fun v => v.category).sum ≤ 8) (hroom : fr2 + 1 ≤ fr ∧ 8 + (nL2 + 11) + lo2 ≤ lo) (hd : decode cc pc = .ok (.invokestatic idx, 3)) (k : N K rt res w' (pc + 3) lv st) : N K rt res w pc lv stk := n_callSN F hB hL M hn hstk hst hroom hd k
theorem n_callSNa {K : Ctx} {cc : ByteArray} {nL : Nat} {own : String} {ret : Option FieldType} {fr lo : Nat} {b : Bool} {ρ : Type} {rt : ρ → Option Value × Wd} {res : Option ρ} {w : Wd} {pc : Nat} {lv : List (Nat × Value)} {st : List Value} (F : Fx K cc nL own ret fr lo b) {y : MethodName} {c2 : ByteArray} {nL2 : Nat} {ret2 : Option FieldType} {fr2 lo2 idx n : Nat} {As : List Value} {w' : Wd} {stk : List Value} {v : Nat} (hB : CwB y c2 nL2 ret2 n) (hL : (own, idx, y) ∈ nstM ∧ Cond.static y ∈ TB)
    (M : CT K.2.1 (cg K) K.2.2.2.2.2.2.2.2.2.2.2 y c2 nL2 ret2 fr2 lo2 As w (some (.ref v)) w') (hn : As.length = n) (hstk : stk = As.reverse ++ st) (hst : (st.map fun v => v.category).sum ≤ 8) (hroom : fr2 + 1 ≤ fr ∧ 8 + (nL2 + 11) + lo2 ≤ lo) (hd : decode cc pc = .ok (.invokestatic idx, 3)) (k : N K rt res w' (pc + 3) lv (.ref v :: st)) : N K rt res w pc lv stk := n_callSN F hB hL M hn hstk hst hroom hd k
theorem n_ldcw {K : Ctx} {cc : ByteArray} {nL : Nat} {own : String} {ret : Option FieldType} {fr lo : Nat} {b : Bool} {ρ : Type} {rt : ρ → Option Value × Wd} {res : Option ρ} {w : Wd} {pc : Nat} {lv : List (Nat × Value)} {st : List Value} (F : Fx K cc nL own ret fr lo b) {index : Nat} (v : Int32) (hd : decode cc pc = .ok (.ldc_w index, 3)) (hc : Cond.constant own index v ∈ TB) (k : N K rt res w (pc + 3) lv (.int v :: st)) : N K rt res w pc lv st := by
  obtain ⟨p, l, e, R, s, m, args, below, meth, c, g, σ⟩ := K
  obtain ⟨hx, hb, hml, hown, hts, hK, hN, hSK, hg, hlk, hrt, hR, hσ⟩ := F
  exact fun q hq H locs ls hP hS hl => lv_ldcw hx hb hown (hts _ hc) hd (k q hq H locs ls hP hS hl)
theorem lf_RX0_15 : Cond.fieldLink RX0 15 (TX0 1).1 (TX0 1).2.1 (TX0 1).2.2.1 ∈ TB := tb_of 254 (by decide +kernel) rfl
theorem ck_0 : ClsOK 0 RX0 TX0 6 tyX0 := ⟨rfl, fun w hw => (by decide +kernel : ∀ w ∈ u_ws RX0 TX0 6, w ∈ TB) w hw, tyX0_ok, nmX0⟩
theorem fg_25_1 : FldG true 25 0 1 (fun g w => .ref (gA g 13)) := ⟨by decide, rfl, fun _ _ => ⟨_, rfl, rfl⟩⟩
theorem lf_RX5_9 : Cond.fieldLink RX5 9 (TX5 6).1 (TX5 6).2.1 (TX5 6).2.2.1 ∈ TB := tb_of 208 (by decide +kernel) rfl
theorem ck_5 : ClsOK 5 RX5 TX5 12 tyX5 := ⟨rfl, fun w hw => (by decide +kernel : ∀ w ∈ u_ws RX5 TX5 12, w ∈ TB) w hw, tyX5_ok, nmX5⟩
theorem fg_13_6 : FldG true 13 5 6 (fun g w => .ref (gA g 14)) := ⟨by decide, rfl, fun _ _ => ⟨_, rfl, rfl⟩⟩
theorem ar_14 : ArrI true 14 3 := ⟨by decide, rfl, fun _ _ => rfl⟩
theorem cb_X5_kindsLeft : CwB yX5_kindsLeft cX5_kindsLeft 3 (some .int) 0 := ⟨tb_of 599 (by decide +kernel) rfl, tb_of 57 (by decide +kernel) rfl, by decide +kernel⟩
theorem lm_RX5_88 : Cond.methodLink RX5 88 yX5_kindsLeft ∈ TB ∧ Cond.instanceMethod yX5_kindsLeft ∈ TB ∧ Cond.selects yX5_kindsLeft.cls yX5_kindsLeft yX5_kindsLeft ∈ TB := ⟨tb_of 596 (by decide +kernel) rfl, tb_of 597 (by decide +kernel) rfl, tb_of 598 (by decide +kernel) rfl⟩
theorem ob_13 : 13 < 50 ∧ decide (13 < 37) = true ∧ ∀ (g : GG) (w : Wd), ∃ fs, cellE g w 13 = .inr (5, fs) := ⟨by decide, rfl, fun _ _ => ⟨_, rfl⟩⟩
theorem lf_RX5_21 : Cond.fieldLink RX5 21 (TX5 0).1 (TX5 0).2.1 (TX5 0).2.2.1 ∈ TB := tb_of 194 (by decide +kernel) rfl
theorem fg_13_0 : FldG true 13 5 0 (fun g w => .ref (gA g 3)) := ⟨by decide, rfl, fun _ _ => ⟨_, rfl, rfl⟩⟩
theorem lf_RX5_62 : Cond.fieldLink RX5 62 (TX5 9).1 (TX5 9).2.1 (TX5 9).2.2.1 ∈ TB := tb_of 215 (by decide +kernel) rfl
theorem fg_13_9 : FldG true 13 5 9 (fun g w => .int (w.1 13 9)) := ⟨by decide, rfl, fun _ _ => ⟨_, rfl, rfl⟩⟩
theorem lf_RX5_28 : Cond.fieldLink RX5 28 (TX5 1).1 (TX5 1).2.1 (TX5 1).2.2.1 ∈ TB := tb_of 195 (by decide +kernel) rfl
theorem fg_13_1 : FldG true 13 5 1 (fun g w => .int (w.1 13 1)) := ⟨by decide, rfl, fun _ _ => ⟨_, rfl, rfl⟩⟩
theorem lf_RX1_15 : Cond.fieldLink RX1 15 (TX1 1).1 (TX1 1).2.1 (TX1 1).2.2.1 ∈ TB := tb_of 102 (by decide +kernel) rfl
theorem ck_1 : ClsOK 1 RX1 TX1 7 tyX1 := ⟨rfl, fun w hw => (by decide +kernel : ∀ w ∈ u_ws RX1 TX1 7, w ∈ TB) w hw, tyX1_ok, nmX1⟩
theorem fg_3_1 : FldG true 3 1 1 (fun g w => .int (w.1 3 1)) := ⟨by decide, rfl, fun _ _ => ⟨_, rfl, rfl⟩⟩
theorem lf_RX1_24 : Cond.fieldLink RX1 24 (TX1 4).1 (TX1 4).2.1 (TX1 4).2.2.1 ∈ TB := tb_of 116 (by decide +kernel) rfl
theorem fg_3_4 : FldG true 3 1 4 (fun g w => .ref (gA g 4)) := ⟨by decide, rfl, fun _ _ => ⟨_, rfl, rfl⟩⟩
theorem ar_4 : ArrI true 4 72 := ⟨by decide, rfl, fun _ _ => rfl⟩
theorem cb_X1_part : CwB yX1_part cX1_part 4 (some .int) 2 := ⟨tb_of 553 (by decide +kernel) rfl, tb_of 55 (by decide +kernel) rfl, by decide +kernel⟩
theorem lm_RX1_54 : Cond.methodLink RX1 54 yX1_part ∈ TB ∧ Cond.instanceMethod yX1_part ∈ TB ∧ Cond.selects yX1_part.cls yX1_part yX1_part ∈ TB := ⟨tb_of 567 (by decide +kernel) rfl, tb_of 551 (by decide +kernel) rfl, tb_of 552 (by decide +kernel) rfl⟩
theorem ob_3 : 3 < 50 ∧ decide (3 < 37) = true ∧ ∀ (g : GG) (w : Wd), ∃ fs, cellE g w 3 = .inr (1, fs) := ⟨by decide, rfl, fun _ _ => ⟨_, rfl⟩⟩
theorem cb_X7_hasBit : CwB yX7_hasBit cX7_hasBit 2 (some .boolean) 2 := ⟨tb_of 574 (by decide +kernel) rfl, tb_of 53 (by decide +kernel) rfl, by decide +kernel⟩
theorem lm_RX1_65 : (RX1, 65, yX7_hasBit) ∈ nstM ∧ Cond.static yX7_hasBit ∈ TB := ⟨by decide +kernel, tb_of 573 (by decide +kernel) rfl⟩
theorem cb_X1_runsOn : CwB yX1_runsOn cX1_runsOn 4 (some .boolean) 2 := ⟨tb_of 571 (by decide +kernel) rfl, tb_of 55 (by decide +kernel) rfl, by decide +kernel⟩
theorem lm_RX1_58 : Cond.methodLink RX1 58 yX1_runsOn ∈ TB ∧ Cond.instanceMethod yX1_runsOn ∈ TB ∧ Cond.selects yX1_runsOn.cls yX1_runsOn yX1_runsOn ∈ TB := ⟨tb_of 568 (by decide +kernel) rfl, tb_of 569 (by decide +kernel) rfl, tb_of 570 (by decide +kernel) rfl⟩
theorem cb_X1_reached : CwB yX1_reached cX1_reached 7 (some .int) 4 := ⟨tb_of 632 (by decide +kernel) rfl, tb_of 55 (by decide +kernel) rfl, by decide +kernel⟩
theorem lm_RX5_106 : Cond.methodLink RX5 106 yX1_reached ∈ TB ∧ Cond.instanceMethod yX1_reached ∈ TB ∧ Cond.selects yX1_reached.cls yX1_reached yX1_reached ∈ TB := ⟨tb_of 629 (by decide +kernel) rfl, tb_of 630 (by decide +kernel) rfl, tb_of 631 (by decide +kernel) rfl⟩
theorem cb_X1_stuck : CwB yX1_stuck cX1_stuck 6 (some .int) 3 := ⟨tb_of 636 (by decide +kernel) rfl, tb_of 55 (by decide +kernel) rfl, by decide +kernel⟩
theorem lm_RX5_110 : Cond.methodLink RX5 110 yX1_stuck ∈ TB ∧ Cond.instanceMethod yX1_stuck ∈ TB ∧ Cond.selects yX1_stuck.cls yX1_stuck yX1_stuck ∈ TB := ⟨tb_of 633 (by decide +kernel) rfl, tb_of 634 (by decide +kernel) rfl, tb_of 635 (by decide +kernel) rfl⟩
theorem lf_RX5_65 : Cond.fieldLink RX5 65 (TX5 10).1 (TX5 10).2.1 (TX5 10).2.2.1 ∈ TB := tb_of 218 (by decide +kernel) rfl
theorem fg_13_10 : FldG true 13 5 10 (fun g w => .int (w.1 13 10)) := ⟨by decide, rfl, fun _ _ => ⟨_, rfl, rfl⟩⟩
theorem cb_X5_nextBits : CwB yX5_nextBits cX5_nextBits 2 (some .int) 0 := ⟨tb_of 628 (by decide +kernel) rfl, tb_of 57 (by decide +kernel) rfl, by decide +kernel⟩
theorem lm_RX0_19 : Cond.methodLink RX0 19 yX5_nextBits ∈ TB ∧ Cond.instanceMethod yX5_nextBits ∈ TB ∧ Cond.selects yX5_nextBits.cls yX5_nextBits yX5_nextBits ∈ TB := ⟨tb_of 683 (by decide +kernel) rfl, tb_of 626 (by decide +kernel) rfl, tb_of 627 (by decide +kernel) rfl⟩
theorem lf_RX0_25 : Cond.fieldLink RX0 25 (TX5 7).1 (TX5 7).2.1 (TX5 7).2.2.1 ∈ TB := tb_of 210 (by decide +kernel) rfl
theorem fg_13_7 : FldG true 13 5 7 (fun g w => .ref (gA g 15)) := ⟨by decide, rfl, fun _ _ => ⟨_, rfl, rfl⟩⟩
theorem ar_15 : ArrI true 15 2 := ⟨by decide, rfl, fun _ _ => rfl⟩
theorem lf_RX0_9 : Cond.fieldLink RX0 9 (TX0 0).1 (TX0 0).2.1 (TX0 0).2.2.1 ∈ TB := tb_of 253 (by decide +kernel) rfl
theorem fg_25_0 : FldG true 25 0 0 (fun g w => .ref (gA g 3)) := ⟨by decide, rfl, fun _ _ => ⟨_, rfl, rfl⟩⟩
theorem lf_RX0_52 : Cond.fieldLink RX0 52 (TX5 1).1 (TX5 1).2.1 (TX5 1).2.2.1 ∈ TB := tb_of 196 (by decide +kernel) rfl
theorem lm_RX0_55 : Cond.methodLink RX0 55 yX1_reached ∈ TB ∧ Cond.instanceMethod yX1_reached ∈ TB ∧ Cond.selects yX1_reached.cls yX1_reached yX1_reached ∈ TB := ⟨tb_of 688 (by decide +kernel) rfl, tb_of 630 (by decide +kernel) rfl, tb_of 631 (by decide +kernel) rfl⟩
theorem cb_X0_choices : CwB yX0_choices cX0_choices 3 (some .int) 1 := ⟨tb_of 687 (by decide +kernel) rfl, tb_of 60 (by decide +kernel) rfl, by decide +kernel⟩
theorem lm_RX0_29 : Cond.methodLink RX0 29 yX0_choices ∈ TB ∧ Cond.instanceMethod yX0_choices ∈ TB ∧ Cond.selects yX0_choices.cls yX0_choices yX0_choices ∈ TB := ⟨tb_of 684 (by decide +kernel) rfl, tb_of 686 (by decide +kernel) rfl, tb_of 16 (by decide +kernel) rfl⟩
theorem ob_25 : 25 < 50 ∧ decide (25 < 37) = true ∧ ∀ (g : GG) (w : Wd), ∃ fs, cellE g w 25 = .inr (0, fs) := ⟨by decide, rfl, fun _ _ => ⟨_, rfl⟩⟩
theorem lf_RX0_33 : Cond.fieldLink RX0 33 (TX0 2).1 (TX0 2).2.1 (TX0 2).2.2.1 ∈ TB := tb_of 255 (by decide +kernel) rfl
theorem fp_25_2 : FldP true 25 0 2 := ⟨by decide, rfl, fun _ _ _ => ⟨_, rfl, Nat.le_of_ble_eq_true rfl, rfl⟩⟩
theorem kc_RJ6_265 : Cond.constant RJ6 265 (1431655765 : Int32) ∈ TB := tb_of 692 (by decide +kernel) rfl
theorem kc_RJ6_266 : Cond.constant RJ6 266 (858993459 : Int32) ∈ TB := tb_of 693 (by decide +kernel) rfl
theorem kc_RJ6_267 : Cond.constant RJ6 267 (252645135 : Int32) ∈ TB := tb_of 694 (by decide +kernel) rfl
theorem cb_J6_bitCount_0f7a4 : CwB yJ6_bitCount_0f7a4 cJ6_bitCount_0f7a4 1 (some .int) 1 := ⟨tb_of 691 (by decide +kernel) rfl, tb_of 68 (by decide +kernel) rfl, by decide +kernel⟩
theorem lm_RX0_37 : Cond.methodLink RX0 37 yJ6_bitCount_0f7a4 ∈ TB ∧ Cond.static yJ6_bitCount_0f7a4 ∈ TB := ⟨tb_of 689 (by decide +kernel) rfl, tb_of 690 (by decide +kernel) rfl⟩
theorem lm_RX0_42 : (RX0, 42, yX7_hasBit) ∈ nstM ∧ Cond.static yX7_hasBit ∈ TB := ⟨by decide +kernel, tb_of 573 (by decide +kernel) rfl⟩
theorem fg_25_2 : FldG true 25 0 2 (fun g w => .int (w.1 25 2)) := ⟨by decide, rfl, fun _ _ => ⟨_, rfl, rfl⟩⟩
theorem lf_RX0_46 : Cond.fieldLink RX0 46 (TX0 3).1 (TX0 3).2.1 (TX0 3).2.2.1 ∈ TB := tb_of 257 (by decide +kernel) rfl
theorem fp_25_3 : FldP true 25 0 3 := ⟨by decide, rfl, fun _ _ _ => ⟨_, rfl, Nat.le_of_ble_eq_true rfl, rfl⟩⟩
theorem lf_RX0_49 : Cond.fieldLink RX0 49 (TX0 4).1 (TX0 4).2.1 (TX0 4).2.2.1 ∈ TB := tb_of 259 (by decide +kernel) rfl
theorem fp_25_4 : FldP true 25 0 4 := ⟨by decide, rfl, fun _ _ _ => ⟨_, rfl, Nat.le_of_ble_eq_true rfl, rfl⟩⟩
theorem lf_RX5_40 : Cond.fieldLink RX5 40 (TX5 3).1 (TX5 3).2.1 (TX5 3).2.2.1 ∈ TB := tb_of 202 (by decide +kernel) rfl
theorem fg_13_3 : FldG true 13 5 3 (fun g w => .int (w.1 13 3)) := ⟨by decide, rfl, fun _ _ => ⟨_, rfl, rfl⟩⟩
theorem lf_RX5_59 : Cond.fieldLink RX5 59 (TX5 4).1 (TX5 4).2.1 (TX5 4).2.2.1 ∈ TB := tb_of 204 (by decide +kernel) rfl
theorem fg_13_4 : FldG true 13 5 4 (fun g w => .int (w.1 13 4)) := ⟨by decide, rfl, fun _ _ => ⟨_, rfl, rfl⟩⟩
theorem lf_RX5_37 : Cond.fieldLink RX5 37 (TX5 2).1 (TX5 2).2.1 (TX5 2).2.2.1 ∈ TB := tb_of 199 (by decide +kernel) rfl
theorem fg_13_2 : FldG true 13 5 2 (fun g w => .int (w.1 13 2)) := ⟨by decide, rfl, fun _ _ => ⟨_, rfl, rfl⟩⟩
theorem cb_X1_leaves : CwB yX1_leaves cX1_leaves 4 (some .boolean) 3 := ⟨tb_of 566 (by decide +kernel) rfl, tb_of 55 (by decide +kernel) rfl, by decide +kernel⟩
theorem lm_RX1_62 : Cond.methodLink RX1 62 yX1_leaves ∈ TB ∧ Cond.instanceMethod yX1_leaves ∈ TB ∧ Cond.selects yX1_leaves.cls yX1_leaves yX1_leaves ∈ TB := ⟨tb_of 563 (by decide +kernel) rfl, tb_of 564 (by decide +kernel) rfl, tb_of 565 (by decide +kernel) rfl⟩
theorem cb_X1_rideable : CwB yX1_rideable cX1_rideable 6 (some .int) 3 := ⟨tb_of 562 (by decide +kernel) rfl, tb_of 55 (by decide +kernel) rfl, by decide +kernel⟩
theorem lm_RX5_91 : Cond.methodLink RX5 91 yX1_rideable ∈ TB ∧ Cond.instanceMethod yX1_rideable ∈ TB ∧ Cond.selects yX1_rideable.cls yX1_rideable yX1_rideable ∈ TB := ⟨tb_of 600 (by decide +kernel) rfl, tb_of 560 (by decide +kernel) rfl, tb_of 561 (by decide +kernel) rfl⟩
theorem cb_X5_rideable : CwB yX5_rideable cX5_rideable 1 (some .int) 0 := ⟨tb_of 595 (by decide +kernel) rfl, tb_of 57 (by decide +kernel) rfl, by decide +kernel⟩
theorem lm_RX0_61 : Cond.methodLink RX0 61 yX5_rideable ∈ TB ∧ Cond.instanceMethod yX5_rideable ∈ TB ∧ Cond.selects yX5_rideable.cls yX5_rideable yX5_rideable ∈ TB := ⟨tb_of 704 (by decide +kernel) rfl, tb_of 593 (by decide +kernel) rfl, tb_of 594 (by decide +kernel) rfl⟩
theorem lf_RX0_64 : Cond.fieldLink RX0 64 (TX0 5).1 (TX0 5).2.1 (TX0 5).2.2.1 ∈ TB := tb_of 261 (by decide +kernel) rfl
theorem fp_25_5 : FldP true 25 0 5 := ⟨by decide, rfl, fun _ _ _ => ⟨_, rfl, Nat.le_of_ble_eq_true rfl, rfl⟩⟩
theorem lf_RX0_67 : Cond.fieldLink RX0 67 (TX1 1).1 (TX1 1).2.1 (TX1 1).2.2.1 ∈ TB := tb_of 104 (by decide +kernel) rfl
theorem lm_RX0_70 : Cond.methodLink RX0 70 yX1_part ∈ TB ∧ Cond.instanceMethod yX1_part ∈ TB ∧ Cond.selects yX1_part.cls yX1_part yX1_part ∈ TB := ⟨tb_of 705 (by decide +kernel) rfl, tb_of 551 (by decide +kernel) rfl, tb_of 552 (by decide +kernel) rfl⟩
theorem lf_RX0_77 : Cond.fieldLink RX0 77 (TX5 9).1 (TX5 9).2.1 (TX5 9).2.2.1 ∈ TB := tb_of 216 (by decide +kernel) rfl
theorem cb_X0_leftBy : CwB yX0_leftBy cX0_leftBy 2 (some .int) 1 := ⟨tb_of 709 (by decide +kernel) rfl, tb_of 60 (by decide +kernel) rfl, by decide +kernel⟩
theorem lm_RX0_74 : Cond.methodLink RX0 74 yX0_leftBy ∈ TB ∧ Cond.instanceMethod yX0_leftBy ∈ TB ∧ Cond.selects yX0_leftBy.cls yX0_leftBy yX0_leftBy ∈ TB := ⟨tb_of 706 (by decide +kernel) rfl, tb_of 708 (by decide +kernel) rfl, tb_of 17 (by decide +kernel) rfl⟩
theorem lf_RX1_9 : Cond.fieldLink RX1 9 (TX1 0).1 (TX1 0).2.1 (TX1 0).2.2.1 ∈ TB := tb_of 100 (by decide +kernel) rfl
theorem fg_8_0 : FldG true 8 1 0 (fun g w => .int (w.1 8 0)) := ⟨by decide, rfl, fun _ _ => ⟨_, rfl, rfl⟩⟩
theorem fp_3_0 : FldP true 3 1 0 := ⟨by decide, rfl, fun _ _ _ => ⟨_, rfl, Nat.le_of_ble_eq_true rfl, rfl⟩⟩
theorem fg_8_1 : FldG true 8 1 1 (fun g w => .int (w.1 8 1)) := ⟨by decide, rfl, fun _ _ => ⟨_, rfl, rfl⟩⟩
theorem fp_3_1 : FldP true 3 1 1 := ⟨by decide, rfl, fun _ _ _ => ⟨_, rfl, Nat.le_of_ble_eq_true rfl, rfl⟩⟩
theorem lf_RX1_18 : Cond.fieldLink RX1 18 (TX1 2).1 (TX1 2).2.1 (TX1 2).2.2.1 ∈ TB := tb_of 107 (by decide +kernel) rfl
theorem fg_8_2 : FldG true 8 1 2 (fun g w => .int (w.1 8 2)) := ⟨by decide, rfl, fun _ _ => ⟨_, rfl, rfl⟩⟩
theorem fp_3_2 : FldP true 3 1 2 := ⟨by decide, rfl, fun _ _ _ => ⟨_, rfl, Nat.le_of_ble_eq_true rfl, rfl⟩⟩
theorem lf_RX1_21 : Cond.fieldLink RX1 21 (TX1 3).1 (TX1 3).2.1 (TX1 3).2.2.1 ∈ TB := tb_of 112 (by decide +kernel) rfl
theorem fg_8_3 : FldG true 8 1 3 (fun g w => .int (w.1 8 3)) := ⟨by decide, rfl, fun _ _ => ⟨_, rfl, rfl⟩⟩
theorem fp_3_3 : FldP true 3 1 3 := ⟨by decide, rfl, fun _ _ _ => ⟨_, rfl, Nat.le_of_ble_eq_true rfl, rfl⟩⟩
theorem fg_8_4 : FldG true 8 1 4 (fun g w => .ref (gA g 9)) := ⟨by decide, rfl, fun _ _ => ⟨_, rfl, rfl⟩⟩
theorem la_RX1_34 : Cond.methodLink RX1 34 arraycopyName ∈ TB ∧ Cond.native arraycopyName ∈ TB ∧ Cond.static arraycopyName ∈ TB ∧ Cond.initialized "java/lang/System" ∈ TB := ⟨tb_of 402 (by decide +kernel) rfl, tb_of 182 (by decide +kernel) rfl, tb_of 181 (by decide +kernel) rfl, tb_of 58 (by decide +kernel) rfl⟩
theorem ar_9 : ArrI true 9 72 := ⟨by decide, rfl, fun _ _ => rfl⟩
theorem lf_RX1_28 : Cond.fieldLink RX1 28 (TX1 5).1 (TX1 5).2.1 (TX1 5).2.2.1 ∈ TB := tb_of 117 (by decide +kernel) rfl
theorem fg_8_5 : FldG true 8 1 5 (fun g w => .ref (gA g 10)) := ⟨by decide, rfl, fun _ _ => ⟨_, rfl, rfl⟩⟩
theorem fg_3_5 : FldG true 3 1 5 (fun g w => .ref (gA g 5)) := ⟨by decide, rfl, fun _ _ => ⟨_, rfl, rfl⟩⟩
theorem ar_10 : ArrI true 10 3 := ⟨by decide, rfl, fun _ _ => rfl⟩
theorem ar_5 : ArrI true 5 3 := ⟨by decide, rfl, fun _ _ => rfl⟩
theorem lf_RX1_31 : Cond.fieldLink RX1 31 (TX1 6).1 (TX1 6).2.1 (TX1 6).2.2.1 ∈ TB := tb_of 120 (by decide +kernel) rfl
theorem fg_8_6 : FldG true 8 1 6 (fun g w => .ref (gA g 11)) := ⟨by decide, rfl, fun _ _ => ⟨_, rfl, rfl⟩⟩
theorem fg_3_6 : FldG true 3 1 6 (fun g w => .ref (gA g 6)) := ⟨by decide, rfl, fun _ _ => ⟨_, rfl, rfl⟩⟩
theorem ar_11 : ArrI true 11 2 := ⟨by decide, rfl, fun _ _ => rfl⟩
theorem ar_6 : ArrI true 6 2 := ⟨by decide, rfl, fun _ _ => rfl⟩
theorem fg_3_0 : FldG true 3 1 0 (fun g w => .int (w.1 3 0)) := ⟨by decide, rfl, fun _ _ => ⟨_, rfl, rfl⟩⟩
theorem fp_8_0 : FldP true 8 1 0 := ⟨by decide, rfl, fun _ _ _ => ⟨_, rfl, Nat.le_of_ble_eq_true rfl, rfl⟩⟩
theorem fp_8_1 : FldP true 8 1 1 := ⟨by decide, rfl, fun _ _ _ => ⟨_, rfl, Nat.le_of_ble_eq_true rfl, rfl⟩⟩
theorem fg_3_2 : FldG true 3 1 2 (fun g w => .int (w.1 3 2)) := ⟨by decide, rfl, fun _ _ => ⟨_, rfl, rfl⟩⟩
theorem fp_8_2 : FldP true 8 1 2 := ⟨by decide, rfl, fun _ _ _ => ⟨_, rfl, Nat.le_of_ble_eq_true rfl, rfl⟩⟩
theorem fg_3_3 : FldG true 3 1 3 (fun g w => .int (w.1 3 3)) := ⟨by decide, rfl, fun _ _ => ⟨_, rfl, rfl⟩⟩
theorem fp_8_3 : FldP true 8 1 3 := ⟨by decide, rfl, fun _ _ _ => ⟨_, rfl, Nat.le_of_ble_eq_true rfl, rfl⟩⟩
theorem cb_J7_fill_53178 : CwB yJ7_fill_53178 cJ7_fill_53178 4 none 2 := ⟨tb_of 189 (by decide +kernel) rfl, tb_of 59 (by decide +kernel) rfl, by decide +kernel⟩
theorem lm_RX1_40 : Cond.methodLink RX1 40 yJ7_fill_53178 ∈ TB ∧ Cond.static yJ7_fill_53178 ∈ TB := ⟨tb_of 516 (by decide +kernel) rfl, tb_of 188 (by decide +kernel) rfl⟩
theorem cb_X7_within : CwB yX7_within cX7_within 3 (some .boolean) 3 := ⟨tb_of 379 (by decide +kernel) rfl, tb_of 53 (by decide +kernel) rfl, by decide +kernel⟩
theorem lm_RX1_46 : (RX1, 46, yX7_within) ∈ nstM ∧ Cond.static yX7_within ∈ TB := ⟨by decide +kernel, tb_of 378 (by decide +kernel) rfl⟩
theorem lm_RX7_74 : Cond.methodLink RX7 74 yX7_within ∈ TB ∧ Cond.static yX7_within ∈ TB := ⟨tb_of 377 (by decide +kernel) rfl, tb_of 378 (by decide +kernel) rfl⟩
theorem cb_X7_isSeeker : CwB yX7_isSeeker cX7_isSeeker 1 (some .boolean) 1 := ⟨tb_of 507 (by decide +kernel) rfl, tb_of 53 (by decide +kernel) rfl, by decide +kernel⟩
theorem lm_RX1_50 : (RX1, 50, yX7_isSeeker) ∈ nstM ∧ Cond.static yX7_isSeeker ∈ TB := ⟨by decide +kernel, tb_of 506 (by decide +kernel) rfl⟩
theorem lf_RX2_31 : Cond.fieldLink RX2 31 (TX2 8).1 (TX2 8).2.1 (TX2 8).2.2.1 ∈ TB := tb_of 290 (by decide +kernel) rfl
theorem ck_2 : ClsOK 2 RX2 TX2 10 tyX2 := ⟨rfl, fun w hw => (by decide +kernel : ∀ w ∈ u_ws RX2 TX2 10, w ∈ TB) w hw, tyX2_ok, nmX2⟩
theorem fp_26_8 : FldP true 26 2 8 := ⟨by decide, rfl, fun _ _ _ => ⟨_, rfl, Nat.le_of_ble_eq_true rfl, rfl⟩⟩
theorem lf_RX2_34 : Cond.fieldLink RX2 34 (TX2 9).1 (TX2 9).2.1 (TX2 9).2.2.1 ∈ TB := tb_of 292 (by decide +kernel) rfl
theorem fp_26_9 : FldP true 26 2 9 := ⟨by decide, rfl, fun _ _ _ => ⟨_, rfl, Nat.le_of_ble_eq_true rfl, rfl⟩⟩
theorem lf_RX2_37 : Cond.fieldLink RX2 37 (TX2 0).1 (TX2 0).2.1 (TX2 0).2.2.1 ∈ TB := tb_of 282 (by decide +kernel) rfl
theorem fg_26_0 : FldG true 26 2 0 (fun g w => .ref (gA g 3)) := ⟨by decide, rfl, fun _ _ => ⟨_, rfl, rfl⟩⟩
theorem lf_RX2_45 : Cond.fieldLink RX2 45 (TX1 1).1 (TX1 1).2.1 (TX1 1).2.2.1 ∈ TB := tb_of 103 (by decide +kernel) rfl
theorem fg_26_9 : FldG true 26 2 9 (fun g w => .int (w.1 26 9)) := ⟨by decide, rfl, fun _ _ => ⟨_, rfl, rfl⟩⟩
theorem lf_RX2_11 : Cond.fieldLink RX2 11 (TX2 2).1 (TX2 2).2.1 (TX2 2).2.2.1 ∈ TB := tb_of 284 (by decide +kernel) rfl
theorem fg_26_2 : FldG true 26 2 2 (fun g w => .ref (gA g 27)) := ⟨by decide, rfl, fun _ _ => ⟨_, rfl, rfl⟩⟩
theorem ar_27 : ArrI true 27 448 := ⟨by decide, rfl, fun _ _ => rfl⟩
theorem lm_RX2_54 : Cond.methodLink RX2 54 yJ7_fill_53178 ∈ TB ∧ Cond.static yJ7_fill_53178 ∈ TB := ⟨tb_of 726 (by decide +kernel) rfl, tb_of 188 (by decide +kernel) rfl⟩
theorem cb_X2_markCaught : CwB yX2_markCaught cX2_markCaught 4 none 0 := ⟨tb_of 730 (by decide +kernel) rfl, tb_of 61 (by decide +kernel) rfl, by decide +kernel⟩
theorem lm_RX2_60 : Cond.methodLink RX2 60 yX2_markCaught ∈ TB ∧ Cond.instanceMethod yX2_markCaught ∈ TB ∧ Cond.selects yX2_markCaught.cls yX2_markCaught yX2_markCaught ∈ TB := ⟨tb_of 727 (by decide +kernel) rfl, tb_of 729 (by decide +kernel) rfl, tb_of 18 (by decide +kernel) rfl⟩
theorem ob_26 : 26 < 50 ∧ decide (26 < 37) = true ∧ ∀ (g : GG) (w : Wd), ∃ fs, cellE g w 26 = .inr (2, fs) := ⟨by decide, rfl, fun _ _ => ⟨_, rfl⟩⟩
theorem lx_RX2_63 : Cond.methodLink RX2 63 Lib.Math.min.name ∈ TB ∧ Cond.static Lib.Math.min.name ∈ TB ∧ Cond.initialized "java/lang/Math" ∈ TB ∧ Cond.code Lib.Math.min.name Lib.Math.min.code 2 (some .int) ∈ TB := ⟨tb_of 731 (by decide +kernel) rfl, tb_of 732 (by decide +kernel) rfl, tb_of 69 (by decide +kernel) rfl, tb_of 733 (by decide +kernel) rfl⟩
theorem lf_RX2_41 : Cond.fieldLink RX2 41 (TX2 1).1 (TX2 1).2.1 (TX2 1).2.2.1 ∈ TB := tb_of 283 (by decide +kernel) rfl
theorem fg_26_1 : FldG true 26 2 1 (fun g w => .ref (gA g 13)) := ⟨by decide, rfl, fun _ _ => ⟨_, rfl, rfl⟩⟩
theorem lf_RX2_68 : Cond.fieldLink RX2 68 (TX5 1).1 (TX5 1).2.1 (TX5 1).2.2.1 ∈ TB := tb_of 197 (by decide +kernel) rfl
theorem lf_RX2_27 : Cond.fieldLink RX2 27 (TX2 7).1 (TX2 7).2.1 (TX2 7).2.2.1 ∈ TB := tb_of 289 (by decide +kernel) rfl
theorem fp_26_7 : FldP true 26 2 7 := ⟨by decide, rfl, fun _ _ _ => ⟨_, rfl, Nat.le_of_ble_eq_true rfl, rfl⟩⟩
theorem lm_RX2_100 : Cond.methodLink RX2 100 yX1_part ∈ TB ∧ Cond.instanceMethod yX1_part ∈ TB ∧ Cond.selects yX1_part.cls yX1_part yX1_part ∈ TB := ⟨tb_of 738 (by decide +kernel) rfl, tb_of 551 (by decide +kernel) rfl, tb_of 552 (by decide +kernel) rfl⟩
theorem lm_RX2_96 : (RX2, 96, yX7_within) ∈ nstM ∧ Cond.static yX7_within ∈ TB := ⟨by decide +kernel, tb_of 378 (by decide +kernel) rfl⟩
theorem cb_X2_isStation : CwB yX2_isStation cX2_isStation 1 (some .boolean) 1 := ⟨tb_of 742 (by decide +kernel) rfl, tb_of 61 (by decide +kernel) rfl, by decide +kernel⟩
theorem lm_RX2_107 : Cond.methodLink RX2 107 yX2_isStation ∈ TB ∧ Cond.static yX2_isStation ∈ TB := ⟨tb_of 740 (by decide +kernel) rfl, tb_of 741 (by decide +kernel) rfl⟩
theorem fg_26_7 : FldG true 26 2 7 (fun g w => .int (w.1 26 7)) := ⟨by decide, rfl, fun _ _ => ⟨_, rfl, rfl⟩⟩
theorem lf_RX2_21 : Cond.fieldLink RX2 21 (TX2 5).1 (TX2 5).2.1 (TX2 5).2.2.1 ∈ TB := tb_of 287 (by decide +kernel) rfl
theorem fg_26_5 : FldG true 26 2 5 (fun g w => .ref (gA g 30)) := ⟨by decide, rfl, fun _ _ => ⟨_, rfl, rfl⟩⟩
theorem ar_30 : ArrI true 30 12 := ⟨by decide, rfl, fun _ _ => rfl⟩
theorem lf_RX2_24 : Cond.fieldLink RX2 24 (TX2 6).1 (TX2 6).2.1 (TX2 6).2.2.1 ∈ TB := tb_of 288 (by decide +kernel) rfl
theorem fg_26_6 : FldG true 26 2 6 (fun g w => .ref (gA g 31)) := ⟨by decide, rfl, fun _ _ => ⟨_, rfl, rfl⟩⟩
theorem ar_31 : ArrI true 31 12 := ⟨by decide, rfl, fun _ _ => rfl⟩
theorem lm_RX2_103 : Cond.methodLink RX2 103 yX1_runsOn ∈ TB ∧ Cond.instanceMethod yX1_runsOn ∈ TB ∧ Cond.selects yX1_runsOn.cls yX1_runsOn yX1_runsOn ∈ TB := ⟨tb_of 739 (by decide +kernel) rfl, tb_of 569 (by decide +kernel) rfl, tb_of 570 (by decide +kernel) rfl⟩
theorem cb_X2_gather : CwB yX2_gather cX2_gather 7 none 2 := ⟨tb_of 737 (by decide +kernel) rfl, tb_of 61 (by decide +kernel) rfl, by decide +kernel⟩
theorem lm_RX2_73 : Cond.methodLink RX2 73 yX2_gather ∈ TB ∧ Cond.instanceMethod yX2_gather ∈ TB ∧ Cond.selects yX2_gather.cls yX2_gather yX2_gather ∈ TB := ⟨tb_of 734 (by decide +kernel) rfl, tb_of 736 (by decide +kernel) rfl, tb_of 19 (by decide +kernel) rfl⟩
theorem lf_RX2_15 : Cond.fieldLink RX2 15 (TX2 3).1 (TX2 3).2.1 (TX2 3).2.2.1 ∈ TB := tb_of 285 (by decide +kernel) rfl
theorem fg_26_3 : FldG true 26 2 3 (fun g w => .ref (gA g 28)) := ⟨by decide, rfl, fun _ _ => ⟨_, rfl, rfl⟩⟩
theorem la_RX2_111 : Cond.methodLink RX2 111 arraycopyName ∈ TB ∧ Cond.native arraycopyName ∈ TB ∧ Cond.static arraycopyName ∈ TB ∧ Cond.initialized "java/lang/System" ∈ TB := ⟨tb_of 748 (by decide +kernel) rfl, tb_of 182 (by decide +kernel) rfl, tb_of 181 (by decide +kernel) rfl, tb_of 58 (by decide +kernel) rfl⟩
theorem ar_28 : ArrI true 28 448 := ⟨by decide, rfl, fun _ _ => rfl⟩
theorem lx_RX2_117 : Cond.methodLink RX2 117 Lib.Math.max.name ∈ TB ∧ Cond.static Lib.Math.max.name ∈ TB ∧ Cond.initialized "java/lang/Math" ∈ TB ∧ Cond.code Lib.Math.max.name Lib.Math.max.code 2 (some .int) ∈ TB := ⟨tb_of 749 (by decide +kernel) rfl, tb_of 750 (by decide +kernel) rfl, tb_of 69 (by decide +kernel) rfl, tb_of 751 (by decide +kernel) rfl⟩
theorem cb_X2_foldHim : CwB yX2_foldHim cX2_foldHim 5 none 0 := ⟨tb_of 747 (by decide +kernel) rfl, tb_of 61 (by decide +kernel) rfl, by decide +kernel⟩
theorem lm_RX2_77 : Cond.methodLink RX2 77 yX2_foldHim ∈ TB ∧ Cond.instanceMethod yX2_foldHim ∈ TB ∧ Cond.selects yX2_foldHim.cls yX2_foldHim yX2_foldHim ∈ TB := ⟨tb_of 744 (by decide +kernel) rfl, tb_of 746 (by decide +kernel) rfl, tb_of 20 (by decide +kernel) rfl⟩
theorem lf_RX2_18 : Cond.fieldLink RX2 18 (TX2 4).1 (TX2 4).2.1 (TX2 4).2.2.1 ∈ TB := tb_of 286 (by decide +kernel) rfl
theorem fg_26_4 : FldG true 26 2 4 (fun g w => .ref (gA g 29)) := ⟨by decide, rfl, fun _ _ => ⟨_, rfl, rfl⟩⟩
theorem ar_29 : ArrI true 29 448 := ⟨by decide, rfl, fun _ _ => rfl⟩
theorem cb_X2_foldZero : CwB yX2_foldZero cX2_foldZero 6 none 0 := ⟨tb_of 755 (by decide +kernel) rfl, tb_of 61 (by decide +kernel) rfl, by decide +kernel⟩
theorem lm_RX2_80 : Cond.methodLink RX2 80 yX2_foldZero ∈ TB ∧ Cond.instanceMethod yX2_foldZero ∈ TB ∧ Cond.selects yX2_foldZero.cls yX2_foldZero yX2_foldZero ∈ TB := ⟨tb_of 752 (by decide +kernel) rfl, tb_of 754 (by decide +kernel) rfl, tb_of 21 (by decide +kernel) rfl⟩
theorem cb_X2_foldOne : CwB yX2_foldOne cX2_foldOne 3 none 0 := ⟨tb_of 759 (by decide +kernel) rfl, tb_of 61 (by decide +kernel) rfl, by decide +kernel⟩
theorem lm_RX2_83 : Cond.methodLink RX2 83 yX2_foldOne ∈ TB ∧ Cond.instanceMethod yX2_foldOne ∈ TB ∧ Cond.selects yX2_foldOne.cls yX2_foldOne yX2_foldOne ∈ TB := ⟨tb_of 756 (by decide +kernel) rfl, tb_of 758 (by decide +kernel) rfl, tb_of 22 (by decide +kernel) rfl⟩
theorem lf_RX2_86 : Cond.fieldLink RX2 86 (TX5 2).1 (TX5 2).2.1 (TX5 2).2.2.1 ∈ TB := tb_of 200 (by decide +kernel) rfl
theorem lf_RX2_89 : Cond.fieldLink RX2 89 (TX5 7).1 (TX5 7).2.1 (TX5 7).2.2.1 ∈ TB := tb_of 211 (by decide +kernel) rfl
theorem cb_X2_placeOf : CwB yX2_placeOf cX2_placeOf 1 (some .int) 1 := ⟨tb_of 762 (by decide +kernel) rfl, tb_of 61 (by decide +kernel) rfl, by decide +kernel⟩
theorem lm_RX2_92 : Cond.methodLink RX2 92 yX2_placeOf ∈ TB ∧ Cond.static yX2_placeOf ∈ TB := ⟨tb_of 760 (by decide +kernel) rfl, tb_of 761 (by decide +kernel) rfl⟩
theorem cb_X2_fewestDays : CwB yX2_fewestDays cX2_fewestDays 4 (some .int) 2 := ⟨tb_of 725 (by decide +kernel) rfl, tb_of 61 (by decide +kernel) rfl, by decide +kernel⟩
theorem lm_RX2_50 : Cond.methodLink RX2 50 yX2_fewestDays ∈ TB ∧ Cond.instanceMethod yX2_fewestDays ∈ TB ∧ Cond.selects yX2_fewestDays.cls yX2_fewestDays yX2_fewestDays ∈ TB := ⟨tb_of 774 (by decide +kernel) rfl, tb_of 723 (by decide +kernel) rfl, tb_of 724 (by decide +kernel) rfl⟩
theorem lf_RX3_32 : Cond.fieldLink RX3 32 (TX3 6).1 (TX3 6).2.1 (TX3 6).2.2.1 ∈ TB := tb_of 154 (by decide +kernel) rfl
theorem ck_3 : ClsOK 3 RX3 TX3 7 tyX3 := ⟨rfl, fun w hw => (by decide +kernel : ∀ w ∈ u_ws RX3 TX3 7, w ∈ TB) w hw, tyX3_ok, nmX3⟩
theorem fg_7_6 : FldG true 7 3 6 (fun g w => .int (w.1 7 6)) := ⟨by decide, rfl, fun _ _ => ⟨_, rfl, rfl⟩⟩
theorem lf_RX3_35 : Cond.fieldLink RX3 35 (TX3 0).1 (TX3 0).2.1 (TX3 0).2.2.1 ∈ TB := tb_of 146 (by decide +kernel) rfl
theorem fg_7_0 : FldG true 7 3 0 (fun g w => .ref (gA g 1)) := ⟨by decide, rfl, fun _ _ => ⟨_, rfl, rfl⟩⟩
theorem lf_RX3_77 : Cond.fieldLink RX3 77 (TX6 1).1 (TX6 1).2.1 (TX6 1).2.2.1 ∈ TB := tb_of 87 (by decide +kernel) rfl
theorem ck_6 : ClsOK 6 RX6 TX6 2 tyX6 := ⟨rfl, fun w hw => (by decide +kernel : ∀ w ∈ u_ws RX6 TX6 2, w ∈ TB) w hw, tyX6_ok, nmX6⟩
theorem fg_1_1 : FldG true 1 6 1 (fun g w => .int (w.1 1 1)) := ⟨by decide, rfl, fun _ _ => ⟨_, rfl, rfl⟩⟩
theorem lf_RX6_15 : Cond.fieldLink RX6 15 (TX6 1).1 (TX6 1).2.1 (TX6 1).2.2.1 ∈ TB := tb_of 85 (by decide +kernel) rfl
theorem lf_RX6_9 : Cond.fieldLink RX6 9 (TX6 0).1 (TX6 0).2.1 (TX6 0).2.2.1 ∈ TB := tb_of 84 (by decide +kernel) rfl
theorem fg_1_0 : FldG true 1 6 0 (fun g w => .ref (gA g 2)) := ⟨by decide, rfl, fun _ _ => ⟨_, rfl, rfl⟩⟩
theorem ar_2 : ArrC true 2 200 := ⟨by decide, rfl, fun _ _ => rfl⟩
theorem cb_X6_byteAt : CwB yX6_byteAt cX6_byteAt 2 (some .int) 1 := ⟨tb_of 414 (by decide +kernel) rfl, tb_of 54 (by decide +kernel) rfl, by decide +kernel⟩
theorem lm_RX3_50 : Cond.methodLink RX3 50 yX6_byteAt ∈ TB ∧ Cond.instanceMethod yX6_byteAt ∈ TB ∧ Cond.selects yX6_byteAt.cls yX6_byteAt yX6_byteAt ∈ TB := ⟨tb_of 411 (by decide +kernel) rfl, tb_of 412 (by decide +kernel) rfl, tb_of 413 (by decide +kernel) rfl⟩
theorem ob_1 : 1 < 50 ∧ decide (1 < 37) = true ∧ ∀ (g : GG) (w : Wd), ∃ fs, cellE g w 1 = .inr (6, fs) := ⟨by decide, rfl, fun _ _ => ⟨_, rfl⟩⟩
theorem lf_RX3_29 : Cond.fieldLink RX3 29 (TX3 5).1 (TX3 5).2.1 (TX3 5).2.2.1 ∈ TB := tb_of 153 (by decide +kernel) rfl
theorem fp_7_5 : FldP true 7 3 5 := ⟨by decide, rfl, fun _ _ _ => ⟨_, rfl, Nat.le_of_ble_eq_true rfl, rfl⟩⟩
theorem lm_RX3_83 : (RX3, 83, yX7_within) ∈ nstM ∧ Cond.static yX7_within ∈ TB := ⟨by decide +kernel, tb_of 378 (by decide +kernel) rfl⟩
theorem cb_X3_sortAt : CwB yX3_sortAt cX3_sortAt 3 (some .int) 1 := ⟨tb_of 418 (by decide +kernel) rfl, tb_of 56 (by decide +kernel) rfl, by decide +kernel⟩
theorem lm_RX3_80 : Cond.methodLink RX3 80 yX3_sortAt ∈ TB ∧ Cond.instanceMethod yX3_sortAt ∈ TB ∧ Cond.selects yX3_sortAt.cls yX3_sortAt yX3_sortAt ∈ TB := ⟨tb_of 415 (by decide +kernel) rfl, tb_of 417 (by decide +kernel) rfl, tb_of 4 (by decide +kernel) rfl⟩
theorem ob_7 : 7 < 50 ∧ decide (7 < 37) = true ∧ ∀ (g : GG) (w : Wd), ∃ fs, cellE g w 7 = .inr (3, fs) := ⟨by decide, rfl, fun _ _ => ⟨_, rfl⟩⟩
theorem lf_RX3_26 : Cond.fieldLink RX3 26 (TX3 4).1 (TX3 4).2.1 (TX3 4).2.2.1 ∈ TB := tb_of 152 (by decide +kernel) rfl
theorem fp_7_4 : FldP true 7 3 4 := ⟨by decide, rfl, fun _ _ _ => ⟨_, rfl, Nat.le_of_ble_eq_true rfl, rfl⟩⟩
theorem fg_7_4 : FldG true 7 3 4 (fun g w => .int (w.1 7 4)) := ⟨by decide, rfl, fun _ _ => ⟨_, rfl, rfl⟩⟩
theorem fp_7_6 : FldP true 7 3 6 := ⟨by decide, rfl, fun _ _ _ => ⟨_, rfl, Nat.le_of_ble_eq_true rfl, rfl⟩⟩
theorem fg_7_5 : FldG true 7 3 5 (fun g w => .int (w.1 7 5)) := ⟨by decide, rfl, fun _ _ => ⟨_, rfl, rfl⟩⟩
theorem lf_RX3_12 : Cond.fieldLink RX3 12 (TX3 1).1 (TX3 1).2.1 (TX3 1).2.2.1 ∈ TB := tb_of 147 (by decide +kernel) rfl
theorem fg_7_1 : FldG true 7 3 1 (fun g w => .ref (gA g 8)) := ⟨by decide, rfl, fun _ _ => ⟨_, rfl, rfl⟩⟩
theorem cb_X1_hasStation : CwB yX1_hasStation cX1_hasStation 2 (some .boolean) 1 := ⟨tb_of 504 (by decide +kernel) rfl, tb_of 55 (by decide +kernel) rfl, by decide +kernel⟩
theorem lm_RX3_114 : Cond.methodLink RX3 114 yX1_hasStation ∈ TB ∧ Cond.instanceMethod yX1_hasStation ∈ TB ∧ Cond.selects yX1_hasStation.cls yX1_hasStation yX1_hasStation ∈ TB := ⟨tb_of 501 (by decide +kernel) rfl, tb_of 502 (by decide +kernel) rfl, tb_of 503 (by decide +kernel) rfl⟩
theorem ob_8 : 8 < 50 ∧ decide (8 < 37) = true ∧ ∀ (g : GG) (w : Wd), ∃ fs, cellE g w 8 = .inr (1, fs) := ⟨by decide, rfl, fun _ _ => ⟨_, rfl⟩⟩
theorem lf_RX3_22 : Cond.fieldLink RX3 22 (TX3 3).1 (TX3 3).2.1 (TX3 3).2.2.1 ∈ TB := tb_of 151 (by decide +kernel) rfl
theorem fg_7_3 : FldG true 7 3 3 (fun g w => .ref (gA g 12)) := ⟨by decide, rfl, fun _ _ => ⟨_, rfl, rfl⟩⟩
theorem ar_12 : ArrI true 12 6 := ⟨by decide, rfl, fun _ _ => rfl⟩
theorem cb_X3_fitsTrain : CwB yX3_fitsTrain cX3_fitsTrain 3 (some .boolean) 2 := ⟨tb_of 500 (by decide +kernel) rfl, tb_of 56 (by decide +kernel) rfl, by decide +kernel⟩
theorem lm_RX3_110 : Cond.methodLink RX3 110 yX3_fitsTrain ∈ TB ∧ Cond.instanceMethod yX3_fitsTrain ∈ TB ∧ Cond.selects yX3_fitsTrain.cls yX3_fitsTrain yX3_fitsTrain ∈ TB := ⟨tb_of 497 (by decide +kernel) rfl, tb_of 499 (by decide +kernel) rfl, tb_of 9 (by decide +kernel) rfl⟩
theorem lm_RX3_118 : (RX3, 118, yX7_isSeeker) ∈ nstM ∧ Cond.static yX7_isSeeker ∈ TB := ⟨by decide +kernel, tb_of 506 (by decide +kernel) rfl⟩
theorem cb_X1_clear : CwB yX1_clear cX1_clear 2 none 1 := ⟨tb_of 515 (by decide +kernel) rfl, tb_of 55 (by decide +kernel) rfl, by decide +kernel⟩
theorem lm_RX3_121 : Cond.methodLink RX3 121 yX1_clear ∈ TB ∧ Cond.instanceMethod yX1_clear ∈ TB ∧ Cond.selects yX1_clear.cls yX1_clear yX1_clear ∈ TB := ⟨tb_of 512 (by decide +kernel) rfl, tb_of 513 (by decide +kernel) rfl, tb_of 514 (by decide +kernel) rfl⟩
theorem lf_RX3_138 : Cond.fieldLink RX3 138 (TX1 1).1 (TX1 1).2.1 (TX1 1).2.2.1 ∈ TB := tb_of 105 (by decide +kernel) rfl
theorem cb_X1_setPart : CwB yX1_setPart cX1_setPart 4 none 3 := ⟨tb_of 524 (by decide +kernel) rfl, tb_of 55 (by decide +kernel) rfl, by decide +kernel⟩
theorem lm_RX3_141 : Cond.methodLink RX3 141 yX1_setPart ∈ TB ∧ Cond.instanceMethod yX1_setPart ∈ TB ∧ Cond.selects yX1_setPart.cls yX1_setPart yX1_setPart ∈ TB := ⟨tb_of 521 (by decide +kernel) rfl, tb_of 522 (by decide +kernel) rfl, tb_of 523 (by decide +kernel) rfl⟩
theorem cb_X3_drawTrain : CwB yX3_drawTrain cX3_drawTrain 2 none 0 := ⟨tb_of 520 (by decide +kernel) rfl, tb_of 56 (by decide +kernel) rfl, by decide +kernel⟩
theorem lm_RX3_124 : Cond.methodLink RX3 124 yX3_drawTrain ∈ TB ∧ Cond.instanceMethod yX3_drawTrain ∈ TB ∧ Cond.selects yX3_drawTrain.cls yX3_drawTrain yX3_drawTrain ∈ TB := ⟨tb_of 517 (by decide +kernel) rfl, tb_of 519 (by decide +kernel) rfl, tb_of 11 (by decide +kernel) rfl⟩
theorem lf_RX3_127 : Cond.fieldLink RX3 127 (TX1 2).1 (TX1 2).2.1 (TX1 2).2.2.1 ∈ TB := tb_of 110 (by decide +kernel) rfl
theorem cb_X1_setTickets : CwB yX1_setTickets cX1_setTickets 3 none 2 := ⟨tb_of 529 (by decide +kernel) rfl, tb_of 55 (by decide +kernel) rfl, by decide +kernel⟩
theorem lm_RX3_129 : Cond.methodLink RX3 129 yX1_setTickets ∈ TB ∧ Cond.instanceMethod yX1_setTickets ∈ TB ∧ Cond.selects yX1_setTickets.cls yX1_setTickets yX1_setTickets ∈ TB := ⟨tb_of 526 (by decide +kernel) rfl, tb_of 527 (by decide +kernel) rfl, tb_of 528 (by decide +kernel) rfl⟩
theorem lf_RX3_133 : Cond.fieldLink RX3 133 (TX1 3).1 (TX1 3).2.1 (TX1 3).2.2.1 ∈ TB := tb_of 113 (by decide +kernel) rfl
theorem cb_X1_setSeeker : CwB yX1_setSeeker cX1_setSeeker 3 none 2 := ⟨tb_of 533 (by decide +kernel) rfl, tb_of 55 (by decide +kernel) rfl, by decide +kernel⟩
theorem lm_RX3_135 : Cond.methodLink RX3 135 yX1_setSeeker ∈ TB ∧ Cond.instanceMethod yX1_setSeeker ∈ TB ∧ Cond.selects yX1_setSeeker.cls yX1_setSeeker yX1_setSeeker ∈ TB := ⟨tb_of 530 (by decide +kernel) rfl, tb_of 531 (by decide +kernel) rfl, tb_of 532 (by decide +kernel) rfl⟩
theorem lf_RX4_15 : Cond.fieldLink RX4 15 (TX4 2).1 (TX4 2).2.1 (TX4 2).2.2.1 ∈ TB := tb_of 323 (by decide +kernel) rfl
theorem ck_4 : ClsOK 4 RX4 TX4 6 tyX4 := ⟨rfl, fun w hw => (by decide +kernel : ∀ w ∈ u_ws RX4 TX4 6, w ∈ TB) w hw, tyX4_ok, nmX4⟩
theorem fg_32_2 : FldG true 32 4 2 (fun g w => .int (w.1 32 2)) := ⟨by decide, rfl, fun _ _ => ⟨_, rfl, rfl⟩⟩
theorem lm_RX4_33 : (RX4, 33, yX7_within) ∈ nstM ∧ Cond.static yX7_within ∈ TB := ⟨by decide +kernel, tb_of 378 (by decide +kernel) rfl⟩
theorem lf_RX4_9 : Cond.fieldLink RX4 9 (TX4 1).1 (TX4 1).2.1 (TX4 1).2.2.1 ∈ TB := tb_of 322 (by decide +kernel) rfl
theorem fg_32_1 : FldG true 32 4 1 (fun g w => .ref (gA g 33)) := ⟨by decide, rfl, fun _ _ => ⟨_, rfl, rfl⟩⟩
theorem ar_33 : ArrI true 33 12 := ⟨by decide, rfl, fun _ _ => rfl⟩
theorem fp_32_2 : FldP true 32 4 2 := ⟨by decide, rfl, fun _ _ _ => ⟨_, rfl, Nat.le_of_ble_eq_true rfl, rfl⟩⟩
theorem lf_RX4_29 : Cond.fieldLink RX4 29 (TX4 0).1 (TX4 0).2.1 (TX4 0).2.2.1 ∈ TB := tb_of 321 (by decide +kernel) rfl
theorem fg_32_0 : FldG true 32 4 0 (fun g w => .ref (gA g 3)) := ⟨by decide, rfl, fun _ _ => ⟨_, rfl, rfl⟩⟩
theorem lf_RX4_37 : (RX4, 37, (TX1 5).1, (TX1 5).2.1, (TX1 5).2.2.1) ∈ nstF := by decide +kernel
theorem lf_RX4_19 : Cond.fieldLink RX4 19 (TX4 3).1 (TX4 3).2.1 (TX4 3).2.2.1 ∈ TB := tb_of 325 (by decide +kernel) rfl
theorem fg_32_3 : FldG true 32 4 3 (fun g w => .ref (gA g 34)) := ⟨by decide, rfl, fun _ _ => ⟨_, rfl, rfl⟩⟩
theorem la_RX4_42 : Cond.methodLink RX4 42 arraycopyName ∈ TB ∧ Cond.native arraycopyName ∈ TB ∧ Cond.static arraycopyName ∈ TB ∧ Cond.initialized "java/lang/System" ∈ TB := ⟨tb_of 796 (by decide +kernel) rfl, tb_of 182 (by decide +kernel) rfl, tb_of 181 (by decide +kernel) rfl, tb_of 58 (by decide +kernel) rfl⟩
theorem ar_34 : ArrI true 34 3 := ⟨by decide, rfl, fun _ _ => rfl⟩
theorem lf_RX4_48 : Cond.fieldLink RX4 48 (TX1 2).1 (TX1 2).2.1 (TX1 2).2.2.1 ∈ TB := tb_of 109 (by decide +kernel) rfl
theorem lm_RX4_51 : Cond.methodLink RX4 51 yX1_leaves ∈ TB ∧ Cond.instanceMethod yX1_leaves ∈ TB ∧ Cond.selects yX1_leaves.cls yX1_leaves yX1_leaves ∈ TB := ⟨tb_of 797 (by decide +kernel) rfl, tb_of 564 (by decide +kernel) rfl, tb_of 565 (by decide +kernel) rfl⟩
theorem lm_RX4_54 : Cond.methodLink RX4 54 yX1_part ∈ TB ∧ Cond.instanceMethod yX1_part ∈ TB ∧ Cond.selects yX1_part.cls yX1_part yX1_part ∈ TB := ⟨tb_of 798 (by decide +kernel) rfl, tb_of 551 (by decide +kernel) rfl, tb_of 552 (by decide +kernel) rfl⟩
theorem cb_X4_spend : CwB yX4_spend cX4_spend 2 (some .boolean) 1 := ⟨tb_of 802 (by decide +kernel) rfl, tb_of 62 (by decide +kernel) rfl, by decide +kernel⟩
theorem lm_RX4_58 : Cond.methodLink RX4 58 yX4_spend ∈ TB ∧ Cond.instanceMethod yX4_spend ∈ TB ∧ Cond.selects yX4_spend.cls yX4_spend yX4_spend ∈ TB := ⟨tb_of 799 (by decide +kernel) rfl, tb_of 801 (by decide +kernel) rfl, tb_of 23 (by decide +kernel) rfl⟩
theorem ob_32 : 32 < 50 ∧ decide (32 < 37) = true ∧ ∀ (g : GG) (w : Wd), ∃ fs, cellE g w 32 = .inr (4, fs) := ⟨by decide, rfl, fun _ _ => ⟨_, rfl⟩⟩
theorem lf_RX4_22 : Cond.fieldLink RX4 22 (TX4 4).1 (TX4 4).2.1 (TX4 4).2.2.1 ∈ TB := tb_of 326 (by decide +kernel) rfl
theorem fg_32_4 : FldG true 32 4 4 (fun g w => .ref (gA g 35)) := ⟨by decide, rfl, fun _ _ => ⟨_, rfl, rfl⟩⟩
theorem ar_35 : ArrJ true 35 41 := ⟨by decide, rfl, fun _ _ => rfl⟩
theorem cb_J7_fill_d0a16 : CwB yJ7_fill_d0a16 cJ7_fill_d0a16 5 none 2 := ⟨tb_of 814 (by decide +kernel) rfl, tb_of 59 (by decide +kernel) rfl, by decide +kernel⟩
theorem lm_RX4_62 : Cond.methodLink RX4 62 yJ7_fill_d0a16 ∈ TB ∧ Cond.static yJ7_fill_d0a16 ∈ TB := ⟨tb_of 812 (by decide +kernel) rfl, tb_of 813 (by decide +kernel) rfl⟩
theorem lf_RX4_26 : Cond.fieldLink RX4 26 (TX4 5).1 (TX4 5).2.1 (TX4 5).2.2.1 ∈ TB := tb_of 327 (by decide +kernel) rfl
theorem fg_32_5 : FldG true 32 4 5 (fun g w => .ref (gA g 36)) := ⟨by decide, rfl, fun _ _ => ⟨_, rfl, rfl⟩⟩
theorem ar_36 : ArrJ true 36 41 := ⟨by decide, rfl, fun _ _ => rfl⟩
theorem lm_RX4_74 : Cond.methodLink RX4 74 yX1_runsOn ∈ TB ∧ Cond.instanceMethod yX1_runsOn ∈ TB ∧ Cond.selects yX1_runsOn.cls yX1_runsOn yX1_runsOn ∈ TB := ⟨tb_of 819 (by decide +kernel) rfl, tb_of 569 (by decide +kernel) rfl, tb_of 570 (by decide +kernel) rfl⟩
theorem cb_X4_arrive : CwB yX4_arrive cX4_arrive 4 none 2 := ⟨tb_of 823 (by decide +kernel) rfl, tb_of 62 (by decide +kernel) rfl, by decide +kernel⟩
theorem lm_RX4_78 : Cond.methodLink RX4 78 yX4_arrive ∈ TB ∧ Cond.instanceMethod yX4_arrive ∈ TB ∧ Cond.selects yX4_arrive.cls yX4_arrive yX4_arrive ∈ TB := ⟨tb_of 820 (by decide +kernel) rfl, tb_of 822 (by decide +kernel) rfl, tb_of 25 (by decide +kernel) rfl⟩
theorem cb_X4_rideOn : CwB yX4_rideOn cX4_rideOn 5 none 2 := ⟨tb_of 818 (by decide +kernel) rfl, tb_of 62 (by decide +kernel) rfl, by decide +kernel⟩
theorem lm_RX4_68 : Cond.methodLink RX4 68 yX4_rideOn ∈ TB ∧ Cond.instanceMethod yX4_rideOn ∈ TB ∧ Cond.selects yX4_rideOn.cls yX4_rideOn yX4_rideOn ∈ TB := ⟨tb_of 815 (by decide +kernel) rfl, tb_of 817 (by decide +kernel) rfl, tb_of 24 (by decide +kernel) rfl⟩
theorem kc_RX4_72 : Cond.constantLong RX4 72 (10 : Int64) ∈ TB := tb_of 828 (by decide +kernel) rfl
theorem fp_13_1 : FldP true 13 5 1 := ⟨by decide, rfl, fun _ _ _ => ⟨_, rfl, Nat.le_of_ble_eq_true rfl, rfl⟩⟩
theorem lf_RX5_32 : Cond.fieldLink RX5 32 (TX1 2).1 (TX1 2).2.1 (TX1 2).2.2.1 ∈ TB := tb_of 108 (by decide +kernel) rfl
theorem fp_13_2 : FldP true 13 5 2 := ⟨by decide, rfl, fun _ _ _ => ⟨_, rfl, Nat.le_of_ble_eq_true rfl, rfl⟩⟩
theorem fp_13_3 : FldP true 13 5 3 := ⟨by decide, rfl, fun _ _ _ => ⟨_, rfl, Nat.le_of_ble_eq_true rfl, rfl⟩⟩
theorem lf_RX5_44 : (RX5, 44, (TX1 5).1, (TX1 5).2.1, (TX1 5).2.2.1) ∈ nstF := by decide +kernel
theorem la_RX5_45 : Cond.methodLink RX5 45 arraycopyName ∈ TB ∧ Cond.native arraycopyName ∈ TB ∧ Cond.static arraycopyName ∈ TB ∧ Cond.initialized "java/lang/System" ∈ TB := ⟨tb_of 180 (by decide +kernel) rfl, tb_of 182 (by decide +kernel) rfl, tb_of 181 (by decide +kernel) rfl, tb_of 58 (by decide +kernel) rfl⟩
theorem lf_RX5_51 : (RX5, 51, (TX1 6).1, (TX1 6).2.1, (TX1 6).2.2.1) ∈ nstF := by decide +kernel
theorem lf_RX5_15 : Cond.fieldLink RX5 15 (TX5 7).1 (TX5 7).2.1 (TX5 7).2.2.1 ∈ TB := tb_of 209 (by decide +kernel) rfl
theorem lf_RX5_71 : Cond.fieldLink RX5 71 (TX5 5).1 (TX5 5).2.1 (TX5 5).2.2.1 ∈ TB := tb_of 206 (by decide +kernel) rfl
theorem fp_13_5 : FldP true 13 5 5 := ⟨by decide, rfl, fun _ _ _ => ⟨_, rfl, Nat.le_of_ble_eq_true rfl, rfl⟩⟩
theorem lf_RX5_18 : Cond.fieldLink RX5 18 (TX5 8).1 (TX5 8).2.1 (TX5 8).2.2.1 ∈ TB := tb_of 213 (by decide +kernel) rfl
theorem fg_13_8 : FldG true 13 5 8 (fun g w => .ref (gA g 16)) := ⟨by decide, rfl, fun _ _ => ⟨_, rfl, rfl⟩⟩
theorem ar_16 : ArrI true 16 2 := ⟨by decide, rfl, fun _ _ => rfl⟩
theorem lm_RX5_74 : Cond.methodLink RX5 74 yJ7_fill_53178 ∈ TB ∧ Cond.static yJ7_fill_53178 ∈ TB := ⟨tb_of 187 (by decide +kernel) rfl, tb_of 188 (by decide +kernel) rfl⟩
theorem cb_X5_forgetToday : CwB yX5_forgetToday cX5_forgetToday 1 none 0 := ⟨tb_of 186 (by decide +kernel) rfl, tb_of 57 (by decide +kernel) rfl, by decide +kernel⟩
theorem lm_RX5_52 : Cond.methodLink RX5 52 yX5_forgetToday ∈ TB ∧ Cond.instanceMethod yX5_forgetToday ∈ TB ∧ Cond.selects yX5_forgetToday.cls yX5_forgetToday yX5_forgetToday ∈ TB := ⟨tb_of 183 (by decide +kernel) rfl, tb_of 185 (by decide +kernel) rfl, tb_of 0 (by decide +kernel) rfl⟩
theorem cb_X5_isWithSeeker : CwB yX5_isWithSeeker cX5_isWithSeeker 3 (some .boolean) 0 := ⟨tb_of 193 (by decide +kernel) rfl, tb_of 57 (by decide +kernel) rfl, by decide +kernel⟩
theorem lm_RX5_55 : Cond.methodLink RX5 55 yX5_isWithSeeker ∈ TB ∧ Cond.instanceMethod yX5_isWithSeeker ∈ TB ∧ Cond.selects yX5_isWithSeeker.cls yX5_isWithSeeker yX5_isWithSeeker ∈ TB := ⟨tb_of 190 (by decide +kernel) rfl, tb_of 192 (by decide +kernel) rfl, tb_of 1 (by decide +kernel) rfl⟩
theorem fp_13_4 : FldP true 13 5 4 := ⟨by decide, rfl, fun _ _ _ => ⟨_, rfl, Nat.le_of_ble_eq_true rfl, rfl⟩⟩
theorem fp_13_9 : FldP true 13 5 9 := ⟨by decide, rfl, fun _ _ _ => ⟨_, rfl, Nat.le_of_ble_eq_true rfl, rfl⟩⟩
theorem fp_13_10 : FldP true 13 5 10 := ⟨by decide, rfl, fun _ _ _ => ⟨_, rfl, Nat.le_of_ble_eq_true rfl, rfl⟩⟩
theorem lf_RX5_68 : Cond.fieldLink RX5 68 (TX5 11).1 (TX5 11).2.1 (TX5 11).2.2.1 ∈ TB := tb_of 220 (by decide +kernel) rfl
theorem fp_13_11 : FldP true 13 5 11 := ⟨by decide, rfl, fun _ _ _ => ⟨_, rfl, Nat.le_of_ble_eq_true rfl, rfl⟩⟩
theorem fp_17_1 : FldP true 17 5 1 := ⟨by decide, rfl, fun _ _ _ => ⟨_, rfl, Nat.le_of_ble_eq_true rfl, rfl⟩⟩
theorem fp_17_2 : FldP true 17 5 2 := ⟨by decide, rfl, fun _ _ _ => ⟨_, rfl, Nat.le_of_ble_eq_true rfl, rfl⟩⟩
theorem fp_17_3 : FldP true 17 5 3 := ⟨by decide, rfl, fun _ _ _ => ⟨_, rfl, Nat.le_of_ble_eq_true rfl, rfl⟩⟩
theorem fp_17_4 : FldP true 17 5 4 := ⟨by decide, rfl, fun _ _ _ => ⟨_, rfl, Nat.le_of_ble_eq_true rfl, rfl⟩⟩
theorem fg_13_5 : FldG true 13 5 5 (fun g w => .int (w.1 13 5)) := ⟨by decide, rfl, fun _ _ => ⟨_, rfl, rfl⟩⟩
theorem fp_17_5 : FldP true 17 5 5 := ⟨by decide, rfl, fun _ _ _ => ⟨_, rfl, Nat.le_of_ble_eq_true rfl, rfl⟩⟩
theorem fg_17_6 : FldG true 17 5 6 (fun g w => .ref (gA g 18)) := ⟨by decide, rfl, fun _ _ => ⟨_, rfl, rfl⟩⟩
theorem ar_18 : ArrI true 18 3 := ⟨by decide, rfl, fun _ _ => rfl⟩
theorem fg_17_7 : FldG true 17 5 7 (fun g w => .ref (gA g 19)) := ⟨by decide, rfl, fun _ _ => ⟨_, rfl, rfl⟩⟩
theorem ar_19 : ArrI true 19 2 := ⟨by decide, rfl, fun _ _ => rfl⟩
theorem fg_17_8 : FldG true 17 5 8 (fun g w => .ref (gA g 20)) := ⟨by decide, rfl, fun _ _ => ⟨_, rfl, rfl⟩⟩
theorem ar_20 : ArrI true 20 2 := ⟨by decide, rfl, fun _ _ => rfl⟩
theorem fp_17_9 : FldP true 17 5 9 := ⟨by decide, rfl, fun _ _ _ => ⟨_, rfl, Nat.le_of_ble_eq_true rfl, rfl⟩⟩
theorem fp_17_10 : FldP true 17 5 10 := ⟨by decide, rfl, fun _ _ _ => ⟨_, rfl, Nat.le_of_ble_eq_true rfl, rfl⟩⟩
theorem fg_13_11 : FldG true 13 5 11 (fun g w => .int (w.1 13 11)) := ⟨by decide, rfl, fun _ _ => ⟨_, rfl, rfl⟩⟩
theorem fp_17_11 : FldP true 17 5 11 := ⟨by decide, rfl, fun _ _ _ => ⟨_, rfl, Nat.le_of_ble_eq_true rfl, rfl⟩⟩
theorem fp_21_1 : FldP true 21 5 1 := ⟨by decide, rfl, fun _ _ _ => ⟨_, rfl, Nat.le_of_ble_eq_true rfl, rfl⟩⟩
theorem fp_21_2 : FldP true 21 5 2 := ⟨by decide, rfl, fun _ _ _ => ⟨_, rfl, Nat.le_of_ble_eq_true rfl, rfl⟩⟩
theorem fp_21_3 : FldP true 21 5 3 := ⟨by decide, rfl, fun _ _ _ => ⟨_, rfl, Nat.le_of_ble_eq_true rfl, rfl⟩⟩
theorem fp_21_4 : FldP true 21 5 4 := ⟨by decide, rfl, fun _ _ _ => ⟨_, rfl, Nat.le_of_ble_eq_true rfl, rfl⟩⟩
theorem fp_21_5 : FldP true 21 5 5 := ⟨by decide, rfl, fun _ _ _ => ⟨_, rfl, Nat.le_of_ble_eq_true rfl, rfl⟩⟩
theorem fg_21_6 : FldG true 21 5 6 (fun g w => .ref (gA g 22)) := ⟨by decide, rfl, fun _ _ => ⟨_, rfl, rfl⟩⟩
theorem ar_22 : ArrI true 22 3 := ⟨by decide, rfl, fun _ _ => rfl⟩
theorem fg_21_7 : FldG true 21 5 7 (fun g w => .ref (gA g 23)) := ⟨by decide, rfl, fun _ _ => ⟨_, rfl, rfl⟩⟩
theorem ar_23 : ArrI true 23 2 := ⟨by decide, rfl, fun _ _ => rfl⟩
theorem fg_21_8 : FldG true 21 5 8 (fun g w => .ref (gA g 24)) := ⟨by decide, rfl, fun _ _ => ⟨_, rfl, rfl⟩⟩
theorem ar_24 : ArrI true 24 2 := ⟨by decide, rfl, fun _ _ => rfl⟩
theorem fp_21_9 : FldP true 21 5 9 := ⟨by decide, rfl, fun _ _ _ => ⟨_, rfl, Nat.le_of_ble_eq_true rfl, rfl⟩⟩
theorem fp_21_10 : FldP true 21 5 10 := ⟨by decide, rfl, fun _ _ _ => ⟨_, rfl, Nat.le_of_ble_eq_true rfl, rfl⟩⟩
theorem fp_21_11 : FldP true 21 5 11 := ⟨by decide, rfl, fun _ _ _ => ⟨_, rfl, Nat.le_of_ble_eq_true rfl, rfl⟩⟩
theorem fg_17_1 : FldG true 17 5 1 (fun g w => .int (w.1 17 1)) := ⟨by decide, rfl, fun _ _ => ⟨_, rfl, rfl⟩⟩
theorem fg_17_2 : FldG true 17 5 2 (fun g w => .int (w.1 17 2)) := ⟨by decide, rfl, fun _ _ => ⟨_, rfl, rfl⟩⟩
theorem fg_17_3 : FldG true 17 5 3 (fun g w => .int (w.1 17 3)) := ⟨by decide, rfl, fun _ _ => ⟨_, rfl, rfl⟩⟩
theorem fg_17_4 : FldG true 17 5 4 (fun g w => .int (w.1 17 4)) := ⟨by decide, rfl, fun _ _ => ⟨_, rfl, rfl⟩⟩
theorem fg_17_5 : FldG true 17 5 5 (fun g w => .int (w.1 17 5)) := ⟨by decide, rfl, fun _ _ => ⟨_, rfl, rfl⟩⟩
theorem fg_17_9 : FldG true 17 5 9 (fun g w => .int (w.1 17 9)) := ⟨by decide, rfl, fun _ _ => ⟨_, rfl, rfl⟩⟩
theorem fg_17_10 : FldG true 17 5 10 (fun g w => .int (w.1 17 10)) := ⟨by decide, rfl, fun _ _ => ⟨_, rfl, rfl⟩⟩
theorem fg_17_11 : FldG true 17 5 11 (fun g w => .int (w.1 17 11)) := ⟨by decide, rfl, fun _ _ => ⟨_, rfl, rfl⟩⟩
theorem fg_21_1 : FldG true 21 5 1 (fun g w => .int (w.1 21 1)) := ⟨by decide, rfl, fun _ _ => ⟨_, rfl, rfl⟩⟩
theorem fg_21_2 : FldG true 21 5 2 (fun g w => .int (w.1 21 2)) := ⟨by decide, rfl, fun _ _ => ⟨_, rfl, rfl⟩⟩
theorem fg_21_3 : FldG true 21 5 3 (fun g w => .int (w.1 21 3)) := ⟨by decide, rfl, fun _ _ => ⟨_, rfl, rfl⟩⟩
theorem fg_21_4 : FldG true 21 5 4 (fun g w => .int (w.1 21 4)) := ⟨by decide, rfl, fun _ _ => ⟨_, rfl, rfl⟩⟩
theorem fg_21_5 : FldG true 21 5 5 (fun g w => .int (w.1 21 5)) := ⟨by decide, rfl, fun _ _ => ⟨_, rfl, rfl⟩⟩
theorem fg_21_9 : FldG true 21 5 9 (fun g w => .int (w.1 21 9)) := ⟨by decide, rfl, fun _ _ => ⟨_, rfl, rfl⟩⟩
theorem fg_21_10 : FldG true 21 5 10 (fun g w => .int (w.1 21 10)) := ⟨by decide, rfl, fun _ _ => ⟨_, rfl, rfl⟩⟩
theorem fg_21_11 : FldG true 21 5 11 (fun g w => .int (w.1 21 11)) := ⟨by decide, rfl, fun _ _ => ⟨_, rfl, rfl⟩⟩
theorem lm_RX5_80 : (RX5, 80, yX7_within) ∈ nstM ∧ Cond.static yX7_within ∈ TB := ⟨by decide +kernel, tb_of 378 (by decide +kernel) rfl⟩
theorem cb_X5_seekingBits : CwB yX5_seekingBits cX5_seekingBits 3 (some .int) 0 := ⟨tb_of 721 (by decide +kernel) rfl, tb_of 57 (by decide +kernel) rfl, by decide +kernel⟩
theorem lm_RX5_84 : Cond.methodLink RX5 84 yX5_seekingBits ∈ TB ∧ Cond.instanceMethod yX5_seekingBits ∈ TB ∧ Cond.selects yX5_seekingBits.cls yX5_seekingBits yX5_seekingBits ∈ TB := ⟨tb_of 718 (by decide +kernel) rfl, tb_of 719 (by decide +kernel) rfl, tb_of 720 (by decide +kernel) rfl⟩
theorem lm_RX5_95 : (RX5, 95, yX7_isSeeker) ∈ nstM ∧ Cond.static yX7_isSeeker ∈ TB := ⟨by decide +kernel, tb_of 506 (by decide +kernel) rfl⟩
theorem lm_RX5_99 : Cond.methodLink RX5 99 yX1_leaves ∈ TB ∧ Cond.instanceMethod yX1_leaves ∈ TB ∧ Cond.selects yX1_leaves.cls yX1_leaves yX1_leaves ∈ TB := ⟨tb_of 611 (by decide +kernel) rfl, tb_of 564 (by decide +kernel) rfl, tb_of 565 (by decide +kernel) rfl⟩
theorem lm_RX5_102 : Cond.methodLink RX5 102 yX1_part ∈ TB ∧ Cond.instanceMethod yX1_part ∈ TB ∧ Cond.selects yX1_part.cls yX1_part yX1_part ∈ TB := ⟨tb_of 612 (by decide +kernel) rfl, tb_of 551 (by decide +kernel) rfl, tb_of 552 (by decide +kernel) rfl⟩
theorem lm_RX5_113 : Cond.methodLink RX5 113 yX5_nextBits ∈ TB ∧ Cond.instanceMethod yX5_nextBits ∈ TB ∧ Cond.selects yX5_nextBits.cls yX5_nextBits yX5_nextBits ∈ TB := ⟨tb_of 625 (by decide +kernel) rfl, tb_of 626 (by decide +kernel) rfl, tb_of 627 (by decide +kernel) rfl⟩
theorem cb_X5_learnTicket : CwB yX5_learnTicket cX5_learnTicket 2 none 0 := ⟨tb_of 640 (by decide +kernel) rfl, tb_of 57 (by decide +kernel) rfl, by decide +kernel⟩
theorem lm_RX5_116 : Cond.methodLink RX5 116 yX5_learnTicket ∈ TB ∧ Cond.instanceMethod yX5_learnTicket ∈ TB ∧ Cond.selects yX5_learnTicket.cls yX5_learnTicket yX5_learnTicket ∈ TB := ⟨tb_of 637 (by decide +kernel) rfl, tb_of 639 (by decide +kernel) rfl, tb_of 13 (by decide +kernel) rfl⟩
theorem cb_X5_moveHim : CwB yX5_moveHim cX5_moveHim 2 none 0 := ⟨tb_of 644 (by decide +kernel) rfl, tb_of 57 (by decide +kernel) rfl, by decide +kernel⟩
theorem lm_RX5_119 : Cond.methodLink RX5 119 yX5_moveHim ∈ TB ∧ Cond.instanceMethod yX5_moveHim ∈ TB ∧ Cond.selects yX5_moveHim.cls yX5_moveHim yX5_moveHim ∈ TB := ⟨tb_of 641 (by decide +kernel) rfl, tb_of 643 (by decide +kernel) rfl, tb_of 14 (by decide +kernel) rfl⟩
theorem cb_X5_placeBehind : CwB yX5_placeBehind cX5_placeBehind 2 (some .int) 1 := ⟨tb_of 616 (by decide +kernel) rfl, tb_of 57 (by decide +kernel) rfl, by decide +kernel⟩
theorem lm_RX5_122 : Cond.methodLink RX5 122 yX5_placeBehind ∈ TB ∧ Cond.instanceMethod yX5_placeBehind ∈ TB ∧ Cond.selects yX5_placeBehind.cls yX5_placeBehind yX5_placeBehind ∈ TB := ⟨tb_of 645 (by decide +kernel) rfl, tb_of 614 (by decide +kernel) rfl, tb_of 615 (by decide +kernel) rfl⟩
theorem lf_RX5_129 : Cond.fieldLink RX5 129 (TX1 3).1 (TX1 3).2.1 (TX1 3).2.2.1 ∈ TB := tb_of 114 (by decide +kernel) rfl
theorem cb_X5_learnPlaces : CwB yX5_learnPlaces cX5_learnPlaces 3 none 0 := ⟨tb_of 649 (by decide +kernel) rfl, tb_of 57 (by decide +kernel) rfl, by decide +kernel⟩
theorem lm_RX5_126 : Cond.methodLink RX5 126 yX5_learnPlaces ∈ TB ∧ Cond.instanceMethod yX5_learnPlaces ∈ TB ∧ Cond.selects yX5_learnPlaces.cls yX5_learnPlaces yX5_learnPlaces ∈ TB := ⟨tb_of 646 (by decide +kernel) rfl, tb_of 648 (by decide +kernel) rfl, tb_of 15 (by decide +kernel) rfl⟩
theorem lm_RX6_19 : (RX6, 19, yX7_within) ∈ nstM ∧ Cond.static yX7_within ∈ TB := ⟨by decide +kernel, tb_of 378 (by decide +kernel) rfl⟩
theorem fp_1_1 : FldP true 1 6 1 := ⟨by decide, rfl, fun _ _ _ => ⟨_, rfl, Nat.le_of_ble_eq_true rfl, rfl⟩⟩
theorem lf_RX7_12 : Cond.fieldLink RX7 12 (TX7 0).1 (TX7 0).2.1 (TX7 0).2.2.1 ∈ TB := tb_of 342 (by decide +kernel) rfl
theorem ck_7 : ClsOK 7 RX7 TX7 10 tyX7 := ⟨rfl, fun w hw => (by decide +kernel : ∀ w ∈ u_ws RX7 TX7 10, w ∈ TB) w hw, tyX7_ok, nmX7⟩
theorem fg_0_0 : FldG true 0 7 0 (fun g w => .ref (gA g 1)) := ⟨by decide, rfl, fun _ _ => ⟨_, rfl, rfl⟩⟩
theorem lf_RX7_78 : Cond.fieldLink RX7 78 (TX6 1).1 (TX6 1).2.1 (TX6 1).2.2.1 ∈ TB := tb_of 86 (by decide +kernel) rfl
theorem kc_RX7_81 : Cond.constantLong RX7 81 (255 : Int64) ∈ TB := tb_of 380 (by decide +kernel) rfl
theorem cb_X6_append : CwB yX6_append cX6_append 2 none 1 := ⟨tb_of 384 (by decide +kernel) rfl, tb_of 54 (by decide +kernel) rfl, by decide +kernel⟩
theorem lm_RX7_83 : Cond.methodLink RX7 83 yX6_append ∈ TB ∧ Cond.instanceMethod yX6_append ∈ TB ∧ Cond.selects yX6_append.cls yX6_append yX6_append ∈ TB := ⟨tb_of 381 (by decide +kernel) rfl, tb_of 382 (by decide +kernel) rfl, tb_of 383 (by decide +kernel) rfl⟩
theorem lf_RX7_19 : Cond.fieldLink RX7 19 (TX7 1).1 (TX7 1).2.1 (TX7 1).2.2.1 ∈ TB := tb_of 343 (by decide +kernel) rfl
theorem fg_0_1 : FldG true 0 7 1 (fun g w => .ref (gA g 3)) := ⟨by decide, rfl, fun _ _ => ⟨_, rfl, rfl⟩⟩
theorem cb_X1_hasTrain : CwB yX1_hasTrain cX1_hasTrain 2 (some .boolean) 1 := ⟨tb_of 549 (by decide +kernel) rfl, tb_of 55 (by decide +kernel) rfl, by decide +kernel⟩
theorem lm_RX7_104 : Cond.methodLink RX7 104 yX1_hasTrain ∈ TB ∧ Cond.instanceMethod yX1_hasTrain ∈ TB ∧ Cond.selects yX1_hasTrain.cls yX1_hasTrain yX1_hasTrain ∈ TB := ⟨tb_of 546 (by decide +kernel) rfl, tb_of 547 (by decide +kernel) rfl, tb_of 548 (by decide +kernel) rfl⟩
theorem lm_RX7_108 : Cond.methodLink RX7 108 yX1_part ∈ TB ∧ Cond.instanceMethod yX1_part ∈ TB ∧ Cond.selects yX1_part.cls yX1_part yX1_part ∈ TB := ⟨tb_of 550 (by decide +kernel) rfl, tb_of 551 (by decide +kernel) rfl, tb_of 552 (by decide +kernel) rfl⟩
theorem lm_RX7_112 : Cond.methodLink RX7 112 yX1_hasStation ∈ TB ∧ Cond.instanceMethod yX1_hasStation ∈ TB ∧ Cond.selects yX1_hasStation.cls yX1_hasStation yX1_hasStation ∈ TB := ⟨tb_of 558 (by decide +kernel) rfl, tb_of 502 (by decide +kernel) rfl, tb_of 503 (by decide +kernel) rfl⟩
theorem lm_RX7_115 : Cond.methodLink RX7 115 yX1_rideable ∈ TB ∧ Cond.instanceMethod yX1_rideable ∈ TB ∧ Cond.selects yX1_rideable.cls yX1_rideable yX1_rideable ∈ TB := ⟨tb_of 559 (by decide +kernel) rfl, tb_of 560 (by decide +kernel) rfl, tb_of 561 (by decide +kernel) rfl⟩
theorem lf_RX7_37 : Cond.fieldLink RX7 37 (TX7 3).1 (TX7 3).2.1 (TX7 3).2.2.1 ∈ TB := tb_of 345 (by decide +kernel) rfl
theorem fg_0_3 : FldG true 0 7 3 (fun g w => .ref (gA g 13)) := ⟨by decide, rfl, fun _ _ => ⟨_, rfl, rfl⟩⟩
theorem cb_X5_ticketsOf : CwB yX5_ticketsOf cX5_ticketsOf 2 (some .int) 1 := ⟨tb_of 586 (by decide +kernel) rfl, tb_of 57 (by decide +kernel) rfl, by decide +kernel⟩
theorem lm_RX7_123 : Cond.methodLink RX7 123 yX5_ticketsOf ∈ TB ∧ Cond.instanceMethod yX5_ticketsOf ∈ TB ∧ Cond.selects yX5_ticketsOf.cls yX5_ticketsOf yX5_ticketsOf ∈ TB := ⟨tb_of 583 (by decide +kernel) rfl, tb_of 584 (by decide +kernel) rfl, tb_of 585 (by decide +kernel) rfl⟩
theorem cb_X7_isSuch : CwB yX7_isSuch cX7_isSuch 3 (some .boolean) 2 := ⟨tb_of 582 (by decide +kernel) rfl, tb_of 53 (by decide +kernel) rfl, by decide +kernel⟩
theorem lm_RX7_119 : Cond.methodLink RX7 119 yX7_isSuch ∈ TB ∧ Cond.instanceMethod yX7_isSuch ∈ TB ∧ Cond.selects yX7_isSuch.cls yX7_isSuch yX7_isSuch ∈ TB := ⟨tb_of 579 (by decide +kernel) rfl, tb_of 581 (by decide +kernel) rfl, tb_of 12 (by decide +kernel) rfl⟩
theorem ob_0 : 0 < 50 ∧ decide (0 < 37) = true ∧ ∀ (g : GG) (w : Wd), ∃ fs, cellE g w 0 = .inr (7, fs) := ⟨by decide, rfl, fun _ _ => ⟨_, rfl⟩⟩
theorem lm_RX7_127 : Cond.methodLink RX7 127 yX5_rideable ∈ TB ∧ Cond.instanceMethod yX5_rideable ∈ TB ∧ Cond.selects yX5_rideable.cls yX5_rideable yX5_rideable ∈ TB := ⟨tb_of 592 (by decide +kernel) rfl, tb_of 593 (by decide +kernel) rfl, tb_of 594 (by decide +kernel) rfl⟩
theorem lf_RX7_130 : Cond.fieldLink RX7 130 (TX5 5).1 (TX5 5).2.1 (TX5 5).2.2.1 ∈ TB := tb_of 207 (by decide +kernel) rfl
theorem lm_RX7_133 : Cond.methodLink RX7 133 yX7_isSeeker ∈ TB ∧ Cond.static yX7_isSeeker ∈ TB := ⟨tb_of 605 (by decide +kernel) rfl, tb_of 506 (by decide +kernel) rfl⟩
theorem lf_RX7_136 : Cond.fieldLink RX7 136 (TX5 4).1 (TX5 4).2.1 (TX5 4).2.2.1 ∈ TB := tb_of 205 (by decide +kernel) rfl
theorem cb_X5_canSend : CwB yX5_canSend cX5_canSend 3 (some .boolean) 2 := ⟨tb_of 609 (by decide +kernel) rfl, tb_of 57 (by decide +kernel) rfl, by decide +kernel⟩
theorem lm_RX7_140 : Cond.methodLink RX7 140 yX5_canSend ∈ TB ∧ Cond.instanceMethod yX5_canSend ∈ TB ∧ Cond.selects yX5_canSend.cls yX5_canSend yX5_canSend ∈ TB := ⟨tb_of 606 (by decide +kernel) rfl, tb_of 607 (by decide +kernel) rfl, tb_of 608 (by decide +kernel) rfl⟩
theorem lf_RX7_143 : Cond.fieldLink RX7 143 (TX5 8).1 (TX5 8).2.1 (TX5 8).2.2.1 ∈ TB := tb_of 214 (by decide +kernel) rfl
theorem lm_RX7_147 : Cond.methodLink RX7 147 yX5_placeBehind ∈ TB ∧ Cond.instanceMethod yX5_placeBehind ∈ TB ∧ Cond.selects yX5_placeBehind.cls yX5_placeBehind yX5_placeBehind ∈ TB := ⟨tb_of 613 (by decide +kernel) rfl, tb_of 614 (by decide +kernel) rfl, tb_of 615 (by decide +kernel) rfl⟩
theorem cb_X5_advance : CwB yX5_advance cX5_advance 2 none 0 := ⟨tb_of 624 (by decide +kernel) rfl, tb_of 57 (by decide +kernel) rfl, by decide +kernel⟩
theorem lm_RX7_150 : Cond.methodLink RX7 150 yX5_advance ∈ TB ∧ Cond.instanceMethod yX5_advance ∈ TB ∧ Cond.selects yX5_advance.cls yX5_advance yX5_advance ∈ TB := ⟨tb_of 621 (by decide +kernel) rfl, tb_of 622 (by decide +kernel) rfl, tb_of 623 (by decide +kernel) rfl⟩
theorem lf_RX7_153 : Cond.fieldLink RX7 153 (TX5 2).1 (TX5 2).2.1 (TX5 2).2.2.1 ∈ TB := tb_of 201 (by decide +kernel) rfl
theorem lf_RX7_156 : Cond.fieldLink RX7 156 (TX5 3).1 (TX5 3).2.1 (TX5 3).2.2.1 ∈ TB := tb_of 203 (by decide +kernel) rfl
theorem lf_RX7_159 : Cond.fieldLink RX7 159 (TX5 7).1 (TX5 7).2.1 (TX5 7).2.2.1 ∈ TB := tb_of 212 (by decide +kernel) rfl
theorem lf_RX7_162 : Cond.fieldLink RX7 162 (TX5 9).1 (TX5 9).2.1 (TX5 9).2.2.1 ∈ TB := tb_of 217 (by decide +kernel) rfl
theorem lf_RX7_165 : Cond.fieldLink RX7 165 (TX5 10).1 (TX5 10).2.1 (TX5 10).2.2.1 ∈ TB := tb_of 219 (by decide +kernel) rfl
theorem lm_RX7_168 : Cond.methodLink RX7 168 yX5_nextBits ∈ TB ∧ Cond.instanceMethod yX5_nextBits ∈ TB ∧ Cond.selects yX5_nextBits.cls yX5_nextBits yX5_nextBits ∈ TB := ⟨tb_of 670 (by decide +kernel) rfl, tb_of 626 (by decide +kernel) rfl, tb_of 627 (by decide +kernel) rfl⟩
theorem lf_RX7_171 : Cond.fieldLink RX7 171 (TX5 11).1 (TX5 11).2.1 (TX5 11).2.2.1 ∈ TB := tb_of 221 (by decide +kernel) rfl
theorem lf_RX7_52 : Cond.fieldLink RX7 52 (TX7 6).1 (TX7 6).2.1 (TX7 6).2.2.1 ∈ TB := tb_of 348 (by decide +kernel) rfl
theorem fg_0_6 : FldG true 0 7 6 (fun g w => .ref (gA g 25)) := ⟨by decide, rfl, fun _ _ => ⟨_, rfl, rfl⟩⟩
theorem cb_X0_stand : CwB yX0_stand cX0_stand 7 none 0 := ⟨tb_of 682 (by decide +kernel) rfl, tb_of 60 (by decide +kernel) rfl, by decide +kernel⟩
theorem lm_RX7_174 : Cond.methodLink RX7 174 yX0_stand ∈ TB ∧ Cond.instanceMethod yX0_stand ∈ TB ∧ Cond.selects yX0_stand.cls yX0_stand yX0_stand ∈ TB := ⟨tb_of 679 (by decide +kernel) rfl, tb_of 680 (by decide +kernel) rfl, tb_of 681 (by decide +kernel) rfl⟩
theorem lf_RX7_183 : Cond.fieldLink RX7 183 (TX0 4).1 (TX0 4).2.1 (TX0 4).2.2.1 ∈ TB := tb_of 260 (by decide +kernel) rfl
theorem fg_25_4 : FldG true 25 0 4 (fun g w => .int (w.1 25 4)) := ⟨by decide, rfl, fun _ _ => ⟨_, rfl, rfl⟩⟩
theorem lf_RX7_180 : Cond.fieldLink RX7 180 (TX0 3).1 (TX0 3).2.1 (TX0 3).2.2.1 ∈ TB := tb_of 258 (by decide +kernel) rfl
theorem fg_25_3 : FldG true 25 0 3 (fun g w => .int (w.1 25 3)) := ⟨by decide, rfl, fun _ _ => ⟨_, rfl, rfl⟩⟩
theorem lf_RX7_177 : Cond.fieldLink RX7 177 (TX0 2).1 (TX0 2).2.1 (TX0 2).2.2.1 ∈ TB := tb_of 256 (by decide +kernel) rfl
theorem cb_X0_hide : CwB yX0_hide cX0_hide 4 none 0 := ⟨tb_of 703 (by decide +kernel) rfl, tb_of 60 (by decide +kernel) rfl, by decide +kernel⟩
theorem lm_RX7_186 : Cond.methodLink RX7 186 yX0_hide ∈ TB ∧ Cond.instanceMethod yX0_hide ∈ TB ∧ Cond.selects yX0_hide.cls yX0_hide yX0_hide ∈ TB := ⟨tb_of 700 (by decide +kernel) rfl, tb_of 701 (by decide +kernel) rfl, tb_of 702 (by decide +kernel) rfl⟩
theorem lf_RX7_189 : Cond.fieldLink RX7 189 (TX0 5).1 (TX0 5).2.1 (TX0 5).2.2.1 ∈ TB := tb_of 262 (by decide +kernel) rfl
theorem fg_25_5 : FldG true 25 0 5 (fun g w => .int (w.1 25 5)) := ⟨by decide, rfl, fun _ _ => ⟨_, rfl, rfl⟩⟩
theorem cb_X5_anySeeks : CwB yX5_anySeeks cX5_anySeeks 1 (some .boolean) 0 := ⟨tb_of 717 (by decide +kernel) rfl, tb_of 57 (by decide +kernel) rfl, by decide +kernel⟩
theorem lm_RX7_192 : Cond.methodLink RX7 192 yX5_anySeeks ∈ TB ∧ Cond.instanceMethod yX5_anySeeks ∈ TB ∧ Cond.selects yX5_anySeeks.cls yX5_anySeeks yX5_anySeeks ∈ TB := ⟨tb_of 714 (by decide +kernel) rfl, tb_of 715 (by decide +kernel) rfl, tb_of 716 (by decide +kernel) rfl⟩
theorem lf_RX7_59 : Cond.fieldLink RX7 59 (TX7 7).1 (TX7 7).2.1 (TX7 7).2.2.1 ∈ TB := tb_of 349 (by decide +kernel) rfl
theorem fg_0_7 : FldG true 0 7 7 (fun g w => .ref (gA g 26)) := ⟨by decide, rfl, fun _ _ => ⟨_, rfl, rfl⟩⟩
theorem lm_RX7_196 : Cond.methodLink RX7 196 yX2_fewestDays ∈ TB ∧ Cond.instanceMethod yX2_fewestDays ∈ TB ∧ Cond.selects yX2_fewestDays.cls yX2_fewestDays yX2_fewestDays ∈ TB := ⟨tb_of 722 (by decide +kernel) rfl, tb_of 723 (by decide +kernel) rfl, tb_of 724 (by decide +kernel) rfl⟩
theorem cb_X7_daysOrNone : CwB yX7_daysOrNone cX7_daysOrNone 1 (some .int) 1 := ⟨tb_of 765 (by decide +kernel) rfl, tb_of 53 (by decide +kernel) rfl, by decide +kernel⟩
theorem lm_RX7_199 : Cond.methodLink RX7 199 yX7_daysOrNone ∈ TB ∧ Cond.static yX7_daysOrNone ∈ TB := ⟨tb_of 763 (by decide +kernel) rfl, tb_of 764 (by decide +kernel) rfl⟩
theorem lf_RX7_202 : Cond.fieldLink RX7 202 (TX1 1).1 (TX1 1).2.1 (TX1 1).2.2.1 ∈ TB := tb_of 106 (by decide +kernel) rfl
theorem cb_X2_close : CwB yX2_close cX2_close 3 none 0 := ⟨tb_of 773 (by decide +kernel) rfl, tb_of 61 (by decide +kernel) rfl, by decide +kernel⟩
theorem lm_RX7_205 : Cond.methodLink RX7 205 yX2_close ∈ TB ∧ Cond.instanceMethod yX2_close ∈ TB ∧ Cond.selects yX2_close.cls yX2_close yX2_close ∈ TB := ⟨tb_of 770 (by decide +kernel) rfl, tb_of 771 (by decide +kernel) rfl, tb_of 772 (by decide +kernel) rfl⟩
theorem lf_RX7_211 : Cond.fieldLink RX7 211 (TX2 9).1 (TX2 9).2.1 (TX2 9).2.2.1 ∈ TB := tb_of 293 (by decide +kernel) rfl
theorem lf_RX7_208 : Cond.fieldLink RX7 208 (TX2 8).1 (TX2 8).2.1 (TX2 8).2.2.1 ∈ TB := tb_of 291 (by decide +kernel) rfl
theorem fg_26_8 : FldG true 26 2 8 (fun g w => .int (w.1 26 8)) := ⟨by decide, rfl, fun _ _ => ⟨_, rfl, rfl⟩⟩
theorem lf_RX7_66 : Cond.fieldLink RX7 66 (TX7 8).1 (TX7 8).2.1 (TX7 8).2.2.1 ∈ TB := tb_of 350 (by decide +kernel) rfl
theorem fg_0_8 : FldG true 0 7 8 (fun g w => .ref (gA g 32)) := ⟨by decide, rfl, fun _ _ => ⟨_, rfl, rfl⟩⟩
theorem cb_X4_append : CwB yX4_append cX4_append 2 (some .boolean) 1 := ⟨tb_of 782 (by decide +kernel) rfl, tb_of 62 (by decide +kernel) rfl, by decide +kernel⟩
theorem lm_RX7_214 : Cond.methodLink RX7 214 yX4_append ∈ TB ∧ Cond.instanceMethod yX4_append ∈ TB ∧ Cond.selects yX4_append.cls yX4_append yX4_append ∈ TB := ⟨tb_of 779 (by decide +kernel) rfl, tb_of 780 (by decide +kernel) rfl, tb_of 781 (by decide +kernel) rfl⟩
theorem lf_RX7_100 : Cond.fieldLink RX7 100 (TX4 2).1 (TX4 2).2.1 (TX4 2).2.2.1 ∈ TB := tb_of 324 (by decide +kernel) rfl
theorem cb_X4_firstImpossible : CwB yX4_firstImpossible cX4_firstImpossible 5 (some .int) 0 := ⟨tb_of 795 (by decide +kernel) rfl, tb_of 62 (by decide +kernel) rfl, by decide +kernel⟩
theorem lm_RX7_216 : Cond.methodLink RX7 216 yX4_firstImpossible ∈ TB ∧ Cond.instanceMethod yX4_firstImpossible ∈ TB ∧ Cond.selects yX4_firstImpossible.cls yX4_firstImpossible yX4_firstImpossible ∈ TB := ⟨tb_of 792 (by decide +kernel) rfl, tb_of 793 (by decide +kernel) rfl, tb_of 794 (by decide +kernel) rfl⟩
theorem kc_RX7_219 : Cond.constantLong RX7 219 (-3 : Int64) ∈ TB := tb_of 807 (by decide +kernel) rfl
theorem cb_X4_waysInTime : CwB yX4_waysInTime cX4_waysInTime 7 (some .long) 2 := ⟨tb_of 811 (by decide +kernel) rfl, tb_of 62 (by decide +kernel) rfl, by decide +kernel⟩
theorem lm_RX7_221 : Cond.methodLink RX7 221 yX4_waysInTime ∈ TB ∧ Cond.instanceMethod yX4_waysInTime ∈ TB ∧ Cond.selects yX4_waysInTime.cls yX4_waysInTime yX4_waysInTime ∈ TB := ⟨tb_of 808 (by decide +kernel) rfl, tb_of 809 (by decide +kernel) rfl, tb_of 810 (by decide +kernel) rfl⟩
theorem cb_X4_waysInAll : CwB yX4_waysInAll cX4_waysInAll 4 (some .long) 0 := ⟨tb_of 827 (by decide +kernel) rfl, tb_of 62 (by decide +kernel) rfl, by decide +kernel⟩
theorem lm_RX7_225 : Cond.methodLink RX7 225 yX4_waysInAll ∈ TB ∧ Cond.instanceMethod yX4_waysInAll ∈ TB ∧ Cond.selects yX4_waysInAll.cls yX4_waysInAll yX4_waysInAll ∈ TB := ⟨tb_of 824 (by decide +kernel) rfl, tb_of 825 (by decide +kernel) rfl, tb_of 826 (by decide +kernel) rfl⟩
theorem cb_X7_commonDivisor : CwB yX7_commonDivisor cX7_commonDivisor 11 (some .long) 2 := ⟨tb_of 831 (by decide +kernel) rfl, tb_of 53 (by decide +kernel) rfl, by decide +kernel⟩
theorem lm_RX7_229 : Cond.methodLink RX7 229 yX7_commonDivisor ∈ TB ∧ Cond.static yX7_commonDivisor ∈ TB := ⟨tb_of 829 (by decide +kernel) rfl, tb_of 830 (by decide +kernel) rfl⟩
theorem cb_X7_image : CwB yX7_image cX7_image 2 (some (.object "NoonTrains$Scene")) 1 := ⟨tb_of 839 (by decide +kernel) rfl, tb_of 53 (by decide +kernel) rfl, by decide +kernel⟩
theorem lm_RX7_233 : Cond.methodLink RX7 233 yX7_image ∈ TB ∧ Cond.instanceMethod yX7_image ∈ TB ∧ Cond.selects yX7_image.cls yX7_image yX7_image ∈ TB := ⟨tb_of 836 (by decide +kernel) rfl, tb_of 838 (by decide +kernel) rfl, tb_of 26 (by decide +kernel) rfl⟩
theorem cb_X5_copy : CwB yX5_copy cX5_copy 2 none 1 := ⟨tb_of 843 (by decide +kernel) rfl, tb_of 57 (by decide +kernel) rfl, by decide +kernel⟩
theorem lm_RX7_237 : Cond.methodLink RX7 237 yX5_copy ∈ TB ∧ Cond.instanceMethod yX5_copy ∈ TB ∧ Cond.selects yX5_copy.cls yX5_copy yX5_copy ∈ TB := ⟨tb_of 840 (by decide +kernel) rfl, tb_of 841 (by decide +kernel) rfl, tb_of 842 (by decide +kernel) rfl⟩
theorem ob_17 : 17 < 50 ∧ decide (17 < 37) = true ∧ ∀ (g : GG) (w : Wd), ∃ fs, cellE g w 17 = .inr (5, fs) := ⟨by decide, rfl, fun _ _ => ⟨_, rfl⟩⟩
theorem lf_RX7_70 : Cond.fieldLink RX7 70 (TX7 9).1 (TX7 9).2.1 (TX7 9).2.2.1 ∈ TB := tb_of 351 (by decide +kernel) rfl
theorem fg_0_9 : FldG true 0 7 9 (fun g w => .int (w.1 0 9)) := ⟨by decide, rfl, fun _ _ => ⟨_, rfl, rfl⟩⟩
theorem fp_0_9 : FldP true 0 7 9 := ⟨by decide, rfl, fun _ _ _ => ⟨_, rfl, Nat.le_of_ble_eq_true rfl, rfl⟩⟩
theorem lf_RX7_240 : Cond.fieldLink RX7 240 (TX5 1).1 (TX5 1).2.1 (TX5 1).2.2.1 ∈ TB := tb_of 198 (by decide +kernel) rfl
theorem ob_21 : 21 < 50 ∧ decide (21 < 37) = true ∧ ∀ (g : GG) (w : Wd), ∃ fs, cellE g w 21 = .inr (5, fs) := ⟨by decide, rfl, fun _ _ => ⟨_, rfl⟩⟩
theorem lf_RX7_243 : Cond.fieldLink RX7 243 (TX1 0).1 (TX1 0).2.1 (TX1 0).2.2.1 ∈ TB := tb_of 101 (by decide +kernel) rfl
theorem lf_RX7_246 : Cond.fieldLink RX7 246 (TX1 2).1 (TX1 2).2.1 (TX1 2).2.2.1 ∈ TB := tb_of 111 (by decide +kernel) rfl
theorem lf_RX7_249 : Cond.fieldLink RX7 249 (TX1 3).1 (TX1 3).2.1 (TX1 3).2.2.1 ∈ TB := tb_of 115 (by decide +kernel) rfl
theorem lm_RX7_252 : Cond.methodLink RX7 252 yX5_seekingBits ∈ TB ∧ Cond.instanceMethod yX5_seekingBits ∈ TB ∧ Cond.selects yX5_seekingBits.cls yX5_seekingBits yX5_seekingBits ∈ TB := ⟨tb_of 852 (by decide +kernel) rfl, tb_of 719 (by decide +kernel) rfl, tb_of 720 (by decide +kernel) rfl⟩
theorem lf_RX8_7 : Cond.fieldLink RX8 7 (TX8 0).1 (TX8 0).2.1 (TX8 0).2.2.1 ∈ TB := tb_of 863 (by decide +kernel) rfl
theorem ck_8 : ClsOK 8 RX8 TX8 26 tyX8 := ⟨rfl, fun w hw => (by decide +kernel : ∀ w ∈ u_ws RX8 TX8 26, w ∈ TB) w hw, tyX8_ok, nmX8⟩
theorem fg_37_0 : FldG false 37 8 0 (fun g w => .ref (gA g 38)) := ⟨by decide, rfl, fun _ _ => ⟨_, rfl, rfl⟩⟩
theorem ar_38 : ArrI false 38 45 := ⟨by decide, rfl, fun _ _ => rfl⟩
theorem lf_RX8_58 : Cond.fieldLink RX8 58 (TX8 9).1 (TX8 9).2.1 (TX8 9).2.2.1 ∈ TB := tb_of 872 (by decide +kernel) rfl
theorem fg_37_9 : FldG false 37 8 9 (fun g w => .int (w.1 37 9)) := ⟨by decide, rfl, fun _ _ => ⟨_, rfl, rfl⟩⟩
theorem lf_RX8_36 : Cond.fieldLink RX8 36 (TX8 12).1 (TX8 12).2.1 (TX8 12).2.2.1 ∈ TB := tb_of 875 (by decide +kernel) rfl
theorem fg_37_12 : FldG false 37 8 12 (fun g w => .ref (gA g 44)) := ⟨by decide, rfl, fun _ _ => ⟨_, rfl, rfl⟩⟩
theorem ar_44 : ArrI false 44 2 := ⟨by decide, rfl, fun _ _ => rfl⟩
theorem lf_RX8_30 : Cond.fieldLink RX8 30 (TX8 10).1 (TX8 10).2.1 (TX8 10).2.2.1 ∈ TB := tb_of 873 (by decide +kernel) rfl
theorem fg_37_10 : FldG false 37 8 10 (fun g w => .ref (gA g 43)) := ⟨by decide, rfl, fun _ _ => ⟨_, rfl, rfl⟩⟩
theorem ar_43 : ArrI false 43 3 := ⟨by decide, rfl, fun _ _ => rfl⟩
theorem kc_RX8_61 : Cond.constantLong RX8 61 (8 : Int64) ∈ TB := tb_of 947 (by decide +kernel) rfl
theorem cb_X8_in : CwB yX8_in cX8_in 6 (some .boolean) 3 := ⟨tb_of 950 (by decide +kernel) rfl, tb_of 63 (by decide +kernel) rfl, by decide +kernel⟩
theorem lm_RX8_63 : Cond.methodLink RX8 63 yX8_in ∈ TB ∧ Cond.static yX8_in ∈ TB := ⟨tb_of 948 (by decide +kernel) rfl, tb_of 949 (by decide +kernel) rfl⟩
theorem lf_RX8_67 : Cond.fieldLink RX8 67 (TX8 3).1 (TX8 3).2.1 (TX8 3).2.2.1 ∈ TB := tb_of 866 (by decide +kernel) rfl
theorem fg_37_3 : FldG false 37 8 3 (fun g w => .int (w.1 37 3)) := ⟨by decide, rfl, fun _ _ => ⟨_, rfl, rfl⟩⟩
theorem lf_RX8_17 : Cond.fieldLink RX8 17 (TX8 2).1 (TX8 2).2.1 (TX8 2).2.2.1 ∈ TB := tb_of 865 (by decide +kernel) rfl
theorem fg_37_2 : FldG false 37 8 2 (fun g w => .ref (gA g 40)) := ⟨by decide, rfl, fun _ _ => ⟨_, rfl, rfl⟩⟩
theorem kc_RX8_70 : Cond.constantLong RX8 70 (255 : Int64) ∈ TB := tb_of 951 (by decide +kernel) rfl
theorem ar_40 : ArrI false 40 200 := ⟨by decide, rfl, fun _ _ => rfl⟩
theorem fp_37_3 : FldP false 37 8 3 := ⟨by decide, rfl, fun _ _ _ => ⟨_, rfl, Nat.le_of_ble_eq_true rfl, rfl⟩⟩
theorem lf_RX8_72 : Cond.fieldLink RX8 72 (TX8 13).1 (TX8 13).2.1 (TX8 13).2.2.1 ∈ TB := tb_of 876 (by decide +kernel) rfl
theorem fg_37_13 : FldG false 37 8 13 (fun g w => .int (w.1 37 13)) := ⟨by decide, rfl, fun _ _ => ⟨_, rfl, rfl⟩⟩
theorem fp_37_13 : FldP false 37 8 13 := ⟨by decide, rfl, fun _ _ _ => ⟨_, rfl, Nat.le_of_ble_eq_true rfl, rfl⟩⟩
theorem lf_RX8_75 : Cond.fieldLink RX8 75 (TX8 14).1 (TX8 14).2.1 (TX8 14).2.2.1 ∈ TB := tb_of 877 (by decide +kernel) rfl
theorem fp_37_14 : FldP false 37 8 14 := ⟨by decide, rfl, fun _ _ _ => ⟨_, rfl, Nat.le_of_ble_eq_true rfl, rfl⟩⟩
theorem fg_37_14 : FldG false 37 8 14 (fun g w => .int (w.1 37 14)) := ⟨by decide, rfl, fun _ _ => ⟨_, rfl, rfl⟩⟩
theorem cb_X8_sort : CwB yX8_sort cX8_sort 1 (some .int) 1 := ⟨tb_of 966 (by decide +kernel) rfl, tb_of 63 (by decide +kernel) rfl, by decide +kernel⟩
theorem lm_RX8_78 : Cond.methodLink RX8 78 yX8_sort ∈ TB ∧ Cond.static yX8_sort ∈ TB := ⟨tb_of 964 (by decide +kernel) rfl, tb_of 965 (by decide +kernel) rfl⟩
theorem lf_RX8_82 : Cond.fieldLink RX8 82 (TX8 15).1 (TX8 15).2.1 (TX8 15).2.2.1 ∈ TB := tb_of 878 (by decide +kernel) rfl
theorem fp_37_15 : FldP false 37 8 15 := ⟨by decide, rfl, fun _ _ _ => ⟨_, rfl, Nat.le_of_ble_eq_true rfl, rfl⟩⟩
theorem fg_37_15 : FldG false 37 8 15 (fun g w => .int (w.1 37 15)) := ⟨by decide, rfl, fun _ _ => ⟨_, rfl, rfl⟩⟩
theorem kc_RX8_85 : Cond.constantLong RX8 85 (31 : Int64) ∈ TB := tb_of 980 (by decide +kernel) rfl
theorem kc_RX8_87 : Cond.constantLong RX8 87 (145452 : Int64) ∈ TB := tb_of 975 (by decide +kernel) rfl
theorem cb_X8_isWord : CwB yX8_isWord cX8_isWord 6 (some .boolean) 2 := ⟨tb_of 979 (by decide +kernel) rfl, tb_of 63 (by decide +kernel) rfl, by decide +kernel⟩
theorem lm_RX8_89 : Cond.methodLink RX8 89 yX8_isWord ∈ TB ∧ Cond.instanceMethod yX8_isWord ∈ TB ∧ Cond.selects yX8_isWord.cls yX8_isWord yX8_isWord ∈ TB := ⟨tb_of 976 (by decide +kernel) rfl, tb_of 978 (by decide +kernel) rfl, tb_of 31 (by decide +kernel) rfl⟩
theorem ob_37 : 37 < 50 ∧ decide (37 < 37) = false ∧ ∀ (g : GG) (w : Wd), ∃ fs, cellE g w 37 = .inr (8, fs) := ⟨by decide, rfl, fun _ _ => ⟨_, rfl⟩⟩
theorem kc_RX8_93 : Cond.constantLong RX8 93 (14976596 : Int64) ∈ TB := tb_of 981 (by decide +kernel) rfl
theorem kc_RX8_95 : Cond.constantLong RX8 95 (21563027 : Int64) ∈ TB := tb_of 982 (by decide +kernel) rfl
theorem kc_RX8_97 : Cond.constantLong RX8 97 (21077790004 : Int64) ∈ TB := tb_of 983 (by decide +kernel) rfl
theorem kc_RX8_99 : Cond.constantLong RX8 99 (769299 : Int64) ∈ TB := tb_of 984 (by decide +kernel) rfl
theorem kc_RX8_101 : Cond.constantLong RX8 101 (609588403 : Int64) ∈ TB := tb_of 985 (by decide +kernel) rfl
theorem lf_RX8_20 : Cond.fieldLink RX8 20 (TX8 4).1 (TX8 4).2.1 (TX8 4).2.2.1 ∈ TB := tb_of 867 (by decide +kernel) rfl
theorem fg_37_4 : FldG false 37 8 4 (fun g w => .ref (gA g 41)) := ⟨by decide, rfl, fun _ _ => ⟨_, rfl, rfl⟩⟩
theorem lf_RX8_103 : Cond.fieldLink RX8 103 (TX8 5).1 (TX8 5).2.1 (TX8 5).2.2.1 ∈ TB := tb_of 868 (by decide +kernel) rfl
theorem fg_37_5 : FldG false 37 8 5 (fun g w => .int (w.1 37 5)) := ⟨by decide, rfl, fun _ _ => ⟨_, rfl, rfl⟩⟩
theorem ar_41 : ArrI false 41 70 := ⟨by decide, rfl, fun _ _ => rfl⟩
theorem cb_X8_token : CwB yX8_token cX8_token 1 none 0 := ⟨tb_of 963 (by decide +kernel) rfl, tb_of 63 (by decide +kernel) rfl, by decide +kernel⟩
theorem lm_RX8_106 : Cond.methodLink RX8 106 yX8_token ∈ TB ∧ Cond.instanceMethod yX8_token ∈ TB ∧ Cond.selects yX8_token.cls yX8_token yX8_token ∈ TB := ⟨tb_of 960 (by decide +kernel) rfl, tb_of 962 (by decide +kernel) rfl, tb_of 28 (by decide +kernel) rfl⟩
theorem lf_RX8_109 : Cond.fieldLink RX8 109 (TX8 16).1 (TX8 16).2.1 (TX8 16).2.2.1 ∈ TB := tb_of 879 (by decide +kernel) rfl
theorem fg_37_16 : FldG false 37 8 16 (fun g w => .int (w.1 37 16)) := ⟨by decide, rfl, fun _ _ => ⟨_, rfl, rfl⟩⟩
theorem cb_X8_reads : CwB yX8_reads cX8_reads 7 (some .boolean) 4 := ⟨tb_of 993 (by decide +kernel) rfl, tb_of 63 (by decide +kernel) rfl, by decide +kernel⟩
theorem lm_RX8_112 : Cond.methodLink RX8 112 yX8_reads ∈ TB ∧ Cond.instanceMethod yX8_reads ∈ TB ∧ Cond.selects yX8_reads.cls yX8_reads yX8_reads ∈ TB := ⟨tb_of 990 (by decide +kernel) rfl, tb_of 992 (by decide +kernel) rfl, tb_of 33 (by decide +kernel) rfl⟩
theorem cb_X8_readsTrain : CwB yX8_readsTrain cX8_readsTrain 3 (some .boolean) 0 := ⟨tb_of 997 (by decide +kernel) rfl, tb_of 63 (by decide +kernel) rfl, by decide +kernel⟩
theorem lm_RX8_116 : Cond.methodLink RX8 116 yX8_readsTrain ∈ TB ∧ Cond.instanceMethod yX8_readsTrain ∈ TB ∧ Cond.selects yX8_readsTrain.cls yX8_readsTrain yX8_readsTrain ∈ TB := ⟨tb_of 994 (by decide +kernel) rfl, tb_of 996 (by decide +kernel) rfl, tb_of 34 (by decide +kernel) rfl⟩
theorem cb_X8_wordOf : CwB yX8_wordOf cX8_wordOf 1 (some .int) 0 := ⟨tb_of 974 (by decide +kernel) rfl, tb_of 63 (by decide +kernel) rfl, by decide +kernel⟩
theorem lm_RX8_120 : Cond.methodLink RX8 120 yX8_wordOf ∈ TB ∧ Cond.instanceMethod yX8_wordOf ∈ TB ∧ Cond.selects yX8_wordOf.cls yX8_wordOf yX8_wordOf ∈ TB := ⟨tb_of 971 (by decide +kernel) rfl, tb_of 973 (by decide +kernel) rfl, tb_of 30 (by decide +kernel) rfl⟩
theorem cb_X8_readsRest : CwB yX8_readsRest cX8_readsRest 2 (some .boolean) 1 := ⟨tb_of 989 (by decide +kernel) rfl, tb_of 63 (by decide +kernel) rfl, by decide +kernel⟩
theorem lm_RX8_127 : Cond.methodLink RX8 127 yX8_readsRest ∈ TB ∧ Cond.instanceMethod yX8_readsRest ∈ TB ∧ Cond.selects yX8_readsRest.cls yX8_readsRest yX8_readsRest ∈ TB := ⟨tb_of 986 (by decide +kernel) rfl, tb_of 988 (by decide +kernel) rfl, tb_of 32 (by decide +kernel) rfl⟩
theorem lf_RX8_124 : Cond.fieldLink RX8 124 (TX8 17).1 (TX8 17).2.1 (TX8 17).2.2.1 ∈ TB := tb_of 880 (by decide +kernel) rfl
theorem fg_37_17 : FldG false 37 8 17 (fun g w => .int (w.1 37 17)) := ⟨by decide, rfl, fun _ _ => ⟨_, rfl, rfl⟩⟩
theorem fp_37_17 : FldP false 37 8 17 := ⟨by decide, rfl, fun _ _ _ => ⟨_, rfl, Nat.le_of_ble_eq_true rfl, rfl⟩⟩
theorem fp_37_5 : FldP false 37 8 5 := ⟨by decide, rfl, fun _ _ _ => ⟨_, rfl, Nat.le_of_ble_eq_true rfl, rfl⟩⟩
theorem fp_37_16 : FldP false 37 8 16 := ⟨by decide, rfl, fun _ _ _ => ⟨_, rfl, Nat.le_of_ble_eq_true rfl, rfl⟩⟩
theorem lf_RX8_23 : Cond.fieldLink RX8 23 (TX8 6).1 (TX8 6).2.1 (TX8 6).2.2.1 ∈ TB := tb_of 869 (by decide +kernel) rfl
theorem fg_37_6 : FldG false 37 8 6 (fun g w => .int (w.1 37 6)) := ⟨by decide, rfl, fun _ _ => ⟨_, rfl, rfl⟩⟩
theorem lf_RX8_131 : Cond.fieldLink RX8 131 (TX8 8).1 (TX8 8).2.1 (TX8 8).2.2.1 ∈ TB := tb_of 871 (by decide +kernel) rfl
theorem fg_37_8 : FldG false 37 8 8 (fun g w => .int (w.1 37 8)) := ⟨by decide, rfl, fun _ _ => ⟨_, rfl, rfl⟩⟩
theorem cb_X8_readsLine : CwB yX8_readsLine cX8_readsLine 2 (some .boolean) 0 := ⟨tb_of 970 (by decide +kernel) rfl, tb_of 63 (by decide +kernel) rfl, by decide +kernel⟩
theorem lm_RX8_134 : Cond.methodLink RX8 134 yX8_readsLine ∈ TB ∧ Cond.instanceMethod yX8_readsLine ∈ TB ∧ Cond.selects yX8_readsLine.cls yX8_readsLine yX8_readsLine ∈ TB := ⟨tb_of 967 (by decide +kernel) rfl, tb_of 969 (by decide +kernel) rfl, tb_of 29 (by decide +kernel) rfl⟩
theorem fp_37_6 : FldP false 37 8 6 := ⟨by decide, rfl, fun _ _ _ => ⟨_, rfl, Nat.le_of_ble_eq_true rfl, rfl⟩⟩
theorem fp_37_8 : FldP false 37 8 8 := ⟨by decide, rfl, fun _ _ _ => ⟨_, rfl, Nat.le_of_ble_eq_true rfl, rfl⟩⟩
theorem fp_37_9 : FldP false 37 8 9 := ⟨by decide, rfl, fun _ _ _ => ⟨_, rfl, Nat.le_of_ble_eq_true rfl, rfl⟩⟩
theorem lf_RX8_27 : Cond.fieldLink RX8 27 (TX8 7).1 (TX8 7).2.1 (TX8 7).2.2.1 ∈ TB := tb_of 870 (by decide +kernel) rfl
theorem fg_37_7 : FldG false 37 8 7 (fun g w => .ref (gA g 42)) := ⟨by decide, rfl, fun _ _ => ⟨_, rfl, rfl⟩⟩
theorem ar_42 : ArrI false 42 72 := ⟨by decide, rfl, fun _ _ => rfl⟩
theorem lf_RX8_33 : Cond.fieldLink RX8 33 (TX8 11).1 (TX8 11).2.1 (TX8 11).2.2.1 ∈ TB := tb_of 874 (by decide +kernel) rfl
theorem fp_37_11 : FldP false 37 8 11 := ⟨by decide, rfl, fun _ _ _ => ⟨_, rfl, Nat.le_of_ble_eq_true rfl, rfl⟩⟩
theorem cb_X8_fault : CwB yX8_fault cX8_fault 2 (some .int) 0 := ⟨tb_of 959 (by decide +kernel) rfl, tb_of 63 (by decide +kernel) rfl, by decide +kernel⟩
theorem lm_RX8_137 : Cond.methodLink RX8 137 yX8_fault ∈ TB ∧ Cond.instanceMethod yX8_fault ∈ TB ∧ Cond.selects yX8_fault.cls yX8_fault yX8_fault ∈ TB := ⟨tb_of 1002 (by decide +kernel) rfl, tb_of 957 (by decide +kernel) rfl, tb_of 958 (by decide +kernel) rfl⟩
theorem cb_X8_tell : CwB yX8_tell cX8_tell 4 none 1 := ⟨tb_of 1006 (by decide +kernel) rfl, tb_of 63 (by decide +kernel) rfl, by decide +kernel⟩
theorem lm_RX8_140 : Cond.methodLink RX8 140 yX8_tell ∈ TB ∧ Cond.instanceMethod yX8_tell ∈ TB ∧ Cond.selects yX8_tell.cls yX8_tell yX8_tell ∈ TB := ⟨tb_of 1003 (by decide +kernel) rfl, tb_of 1005 (by decide +kernel) rfl, tb_of 35 (by decide +kernel) rfl⟩
theorem cb_X8_begin : CwB yX8_begin cX8_begin 2 none 0 := ⟨tb_of 862 (by decide +kernel) rfl, tb_of 63 (by decide +kernel) rfl, by decide +kernel⟩
theorem lm_RX8_55 : Cond.methodLink RX8 55 yX8_begin ∈ TB ∧ Cond.instanceMethod yX8_begin ∈ TB ∧ Cond.selects yX8_begin.cls yX8_begin yX8_begin ∈ TB := ⟨tb_of 859 (by decide +kernel) rfl, tb_of 861 (by decide +kernel) rfl, tb_of 27 (by decide +kernel) rfl⟩
theorem lf_RX8_144 : Cond.fieldLink RX8 144 (TX8 22).1 (TX8 22).2.1 (TX8 22).2.2.1 ∈ TB := tb_of 885 (by decide +kernel) rfl
theorem fp_37_22 : FldP false 37 8 22 := ⟨by decide, rfl, fun _ _ _ => ⟨_, rfl, Nat.le_of_ble_eq_true rfl, rfl⟩⟩
theorem lf_RX8_13 : Cond.fieldLink RX8 13 (TX8 1).1 (TX8 1).2.1 (TX8 1).2.2.1 ∈ TB := tb_of 864 (by decide +kernel) rfl
theorem fg_37_1 : FldG false 37 8 1 (fun g w => .ref (gA g 39)) := ⟨by decide, rfl, fun _ _ => ⟨_, rfl, rfl⟩⟩
theorem ar_39 : ArrZ false 39 2 := ⟨by decide, rfl, fun _ _ => rfl⟩
theorem cb_X8_isTrain : CwB yX8_isTrain cX8_isTrain 2 (some .boolean) 1 := ⟨tb_of 1014 (by decide +kernel) rfl, tb_of 63 (by decide +kernel) rfl, by decide +kernel⟩
theorem lm_RX8_147 : Cond.methodLink RX8 147 yX8_isTrain ∈ TB ∧ Cond.instanceMethod yX8_isTrain ∈ TB ∧ Cond.selects yX8_isTrain.cls yX8_isTrain yX8_isTrain ∈ TB := ⟨tb_of 1011 (by decide +kernel) rfl, tb_of 1013 (by decide +kernel) rfl, tb_of 36 (by decide +kernel) rfl⟩
theorem kc_RX8_150 : Cond.constantLong RX8 150 (5 : Int64) ∈ TB := tb_of 1015 (by decide +kernel) rfl
theorem cb_X8_leaves : CwB yX8_leaves cX8_leaves 4 (some .boolean) 3 := ⟨tb_of 1023 (by decide +kernel) rfl, tb_of 63 (by decide +kernel) rfl, by decide +kernel⟩
theorem lm_RX8_152 : Cond.methodLink RX8 152 yX8_leaves ∈ TB ∧ Cond.instanceMethod yX8_leaves ∈ TB ∧ Cond.selects yX8_leaves.cls yX8_leaves yX8_leaves ∈ TB := ⟨tb_of 1020 (by decide +kernel) rfl, tb_of 1022 (by decide +kernel) rfl, tb_of 37 (by decide +kernel) rfl⟩
theorem kc_RX8_156 : Cond.constantLong RX8 156 (3 : Int64) ∈ TB := tb_of 1028 (by decide +kernel) rfl
theorem cb_X8_ridable : CwB yX8_ridable cX8_ridable 4 (some .int) 1 := ⟨tb_of 1040 (by decide +kernel) rfl, tb_of 63 (by decide +kernel) rfl, by decide +kernel⟩
theorem lm_RX8_158 : Cond.methodLink RX8 158 yX8_ridable ∈ TB ∧ Cond.instanceMethod yX8_ridable ∈ TB ∧ Cond.selects yX8_ridable.cls yX8_ridable yX8_ridable ∈ TB := ⟨tb_of 1037 (by decide +kernel) rfl, tb_of 1039 (by decide +kernel) rfl, tb_of 39 (by decide +kernel) rfl⟩
theorem cb_X8_hisTrains : CwB yX8_hisTrains cX8_hisTrains 1 (some .int) 0 := ⟨tb_of 1036 (by decide +kernel) rfl, tb_of 63 (by decide +kernel) rfl, by decide +kernel⟩
theorem lm_RX8_161 : Cond.methodLink RX8 161 yX8_hisTrains ∈ TB ∧ Cond.instanceMethod yX8_hisTrains ∈ TB ∧ Cond.selects yX8_hisTrains.cls yX8_hisTrains yX8_hisTrains ∈ TB := ⟨tb_of 1033 (by decide +kernel) rfl, tb_of 1035 (by decide +kernel) rfl, tb_of 38 (by decide +kernel) rfl⟩
theorem cb_X8_has : CwB yX8_has cX8_has 2 (some .boolean) 2 := ⟨tb_of 1043 (by decide +kernel) rfl, tb_of 63 (by decide +kernel) rfl, by decide +kernel⟩
theorem lm_RX8_164 : Cond.methodLink RX8 164 yX8_has ∈ TB ∧ Cond.static yX8_has ∈ TB := ⟨tb_of 1041 (by decide +kernel) rfl, tb_of 1042 (by decide +kernel) rfl⟩
theorem cb_X8_isSeeker : CwB yX8_isSeeker cX8_isSeeker 1 (some .boolean) 1 := ⟨tb_of 1050 (by decide +kernel) rfl, tb_of 63 (by decide +kernel) rfl, by decide +kernel⟩
theorem lm_RX8_168 : Cond.methodLink RX8 168 yX8_isSeeker ∈ TB ∧ Cond.static yX8_isSeeker ∈ TB := ⟨tb_of 1048 (by decide +kernel) rfl, tb_of 1049 (by decide +kernel) rfl⟩
theorem lf_RX8_171 : Cond.fieldLink RX8 171 (TX8 18).1 (TX8 18).2.1 (TX8 18).2.2.1 ∈ TB := tb_of 881 (by decide +kernel) rfl
theorem fp_37_18 : FldP false 37 8 18 := ⟨by decide, rfl, fun _ _ _ => ⟨_, rfl, Nat.le_of_ble_eq_true rfl, rfl⟩⟩
theorem lf_RX8_174 : Cond.fieldLink RX8 174 (TX8 19).1 (TX8 19).2.1 (TX8 19).2.2.1 ∈ TB := tb_of 882 (by decide +kernel) rfl
theorem fp_37_19 : FldP false 37 8 19 := ⟨by decide, rfl, fun _ _ _ => ⟨_, rfl, Nat.le_of_ble_eq_true rfl, rfl⟩⟩
theorem fg_37_18 : FldG false 37 8 18 (fun g w => .int (w.1 37 18)) := ⟨by decide, rfl, fun _ _ => ⟨_, rfl, rfl⟩⟩
theorem fg_37_19 : FldG false 37 8 19 (fun g w => .int (w.1 37 19)) := ⟨by decide, rfl, fun _ _ => ⟨_, rfl, rfl⟩⟩
theorem cb_X8_layByNone : CwB yX8_layByNone cX8_layByNone 2 none 0 := ⟨tb_of 1062 (by decide +kernel) rfl, tb_of 63 (by decide +kernel) rfl, by decide +kernel⟩
theorem lm_RX8_177 : Cond.methodLink RX8 177 yX8_layByNone ∈ TB ∧ Cond.instanceMethod yX8_layByNone ∈ TB ∧ Cond.selects yX8_layByNone.cls yX8_layByNone yX8_layByNone ∈ TB := ⟨tb_of 1059 (by decide +kernel) rfl, tb_of 1061 (by decide +kernel) rfl, tb_of 41 (by decide +kernel) rfl⟩
theorem cb_X8_layBy : CwB yX8_layBy cX8_layBy 6 none 1 := ⟨tb_of 1066 (by decide +kernel) rfl, tb_of 63 (by decide +kernel) rfl, by decide +kernel⟩
theorem lm_RX8_180 : Cond.methodLink RX8 180 yX8_layBy ∈ TB ∧ Cond.instanceMethod yX8_layBy ∈ TB ∧ Cond.selects yX8_layBy.cls yX8_layBy yX8_layBy ∈ TB := ⟨tb_of 1063 (by decide +kernel) rfl, tb_of 1065 (by decide +kernel) rfl, tb_of 42 (by decide +kernel) rfl⟩
theorem cb_X8_nextOf : CwB yX8_nextOf cX8_nextOf 3 (some .int) 0 := ⟨tb_of 1058 (by decide +kernel) rfl, tb_of 63 (by decide +kernel) rfl, by decide +kernel⟩
theorem lm_RX8_183 : Cond.methodLink RX8 183 yX8_nextOf ∈ TB ∧ Cond.instanceMethod yX8_nextOf ∈ TB ∧ Cond.selects yX8_nextOf.cls yX8_nextOf yX8_nextOf ∈ TB := ⟨tb_of 1055 (by decide +kernel) rfl, tb_of 1057 (by decide +kernel) rfl, tb_of 40 (by decide +kernel) rfl⟩
theorem fg_37_11 : FldG false 37 8 11 (fun g w => .int (w.1 37 11)) := ⟨by decide, rfl, fun _ _ => ⟨_, rfl, rfl⟩⟩
theorem cb_X8_nightsFrom : CwB yX8_nightsFrom cX8_nightsFrom 6 (some .int) 3 := ⟨tb_of 1102 (by decide +kernel) rfl, tb_of 63 (by decide +kernel) rfl, by decide +kernel⟩
theorem lm_RX8_186 : Cond.methodLink RX8 186 yX8_nightsFrom ∈ TB ∧ Cond.instanceMethod yX8_nightsFrom ∈ TB ∧ Cond.selects yX8_nightsFrom.cls yX8_nightsFrom yX8_nightsFrom ∈ TB := ⟨tb_of 1099 (by decide +kernel) rfl, tb_of 1101 (by decide +kernel) rfl, tb_of 44 (by decide +kernel) rfl⟩
theorem cb_X8_reach : CwB yX8_reach cX8_reach 4 (some .int) 3 := ⟨tb_of 1098 (by decide +kernel) rfl, tb_of 63 (by decide +kernel) rfl, by decide +kernel⟩
theorem lm_RX8_190 : Cond.methodLink RX8 190 yX8_reach ∈ TB ∧ Cond.instanceMethod yX8_reach ∈ TB ∧ Cond.selects yX8_reach.cls yX8_reach yX8_reach ∈ TB := ⟨tb_of 1095 (by decide +kernel) rfl, tb_of 1097 (by decide +kernel) rfl, tb_of 43 (by decide +kernel) rfl⟩
theorem cb_X8_bits : CwB yX8_bits cX8_bits 3 (some .int) 1 := ⟨tb_of 1105 (by decide +kernel) rfl, tb_of 63 (by decide +kernel) rfl, by decide +kernel⟩
theorem lm_RX8_193 : Cond.methodLink RX8 193 yX8_bits ∈ TB ∧ Cond.static yX8_bits ∈ TB := ⟨tb_of 1103 (by decide +kernel) rfl, tb_of 1104 (by decide +kernel) rfl⟩
theorem lf_RX8_39 : Cond.fieldLink RX8 39 (TX8 20).1 (TX8 20).2.1 (TX8 20).2.2.1 ∈ TB := tb_of 883 (by decide +kernel) rfl
theorem fg_37_20 : FldG false 37 8 20 (fun g w => .ref (gA g 45)) := ⟨by decide, rfl, fun _ _ => ⟨_, rfl, rfl⟩⟩
theorem cb_X8_placeOf : CwB yX8_placeOf cX8_placeOf 4 (some .int) 4 := ⟨tb_of 1132 (by decide +kernel) rfl, tb_of 63 (by decide +kernel) rfl, by decide +kernel⟩
theorem lm_RX8_196 : Cond.methodLink RX8 196 yX8_placeOf ∈ TB ∧ Cond.static yX8_placeOf ∈ TB := ⟨tb_of 1130 (by decide +kernel) rfl, tb_of 1131 (by decide +kernel) rfl⟩
theorem ar_45 : ArrI false 45 6656 := ⟨by decide, rfl, fun _ _ => rfl⟩
theorem cb_X8_worst : CwB yX8_worst cX8_worst 8 (some .int) 4 := ⟨tb_of 1129 (by decide +kernel) rfl, tb_of 63 (by decide +kernel) rfl, by decide +kernel⟩
theorem lm_RX8_200 : Cond.methodLink RX8 200 yX8_worst ∈ TB ∧ Cond.instanceMethod yX8_worst ∈ TB ∧ Cond.selects yX8_worst.cls yX8_worst yX8_worst ∈ TB := ⟨tb_of 1126 (by decide +kernel) rfl, tb_of 1128 (by decide +kernel) rfl, tb_of 48 (by decide +kernel) rfl⟩
theorem cb_X8_bestFrom : CwB yX8_bestFrom cX8_bestFrom 13 (some .int) 5 := ⟨tb_of 1125 (by decide +kernel) rfl, tb_of 63 (by decide +kernel) rfl, by decide +kernel⟩
theorem lm_RX8_203 : Cond.methodLink RX8 203 yX8_bestFrom ∈ TB ∧ Cond.instanceMethod yX8_bestFrom ∈ TB ∧ Cond.selects yX8_bestFrom.cls yX8_bestFrom yX8_bestFrom ∈ TB := ⟨tb_of 1122 (by decide +kernel) rfl, tb_of 1124 (by decide +kernel) rfl, tb_of 47 (by decide +kernel) rfl⟩
theorem cb_X8_isNoChase : CwB yX8_isNoChase cX8_isNoChase 1 (some .boolean) 0 := ⟨tb_of 1117 (by decide +kernel) rfl, tb_of 63 (by decide +kernel) rfl, by decide +kernel⟩
theorem lm_RX8_207 : Cond.methodLink RX8 207 yX8_isNoChase ∈ TB ∧ Cond.instanceMethod yX8_isNoChase ∈ TB ∧ Cond.selects yX8_isNoChase.cls yX8_isNoChase yX8_isNoChase ∈ TB := ⟨tb_of 1114 (by decide +kernel) rfl, tb_of 1116 (by decide +kernel) rfl, tb_of 45 (by decide +kernel) rfl⟩
theorem cb_X8_chaseBy : CwB yX8_chaseBy cX8_chaseBy 5 (some .int) 1 := ⟨tb_of 1121 (by decide +kernel) rfl, tb_of 63 (by decide +kernel) rfl, by decide +kernel⟩
theorem lm_RX8_210 : Cond.methodLink RX8 210 yX8_chaseBy ∈ TB ∧ Cond.instanceMethod yX8_chaseBy ∈ TB ∧ Cond.selects yX8_chaseBy.cls yX8_chaseBy yX8_chaseBy ∈ TB := ⟨tb_of 1118 (by decide +kernel) rfl, tb_of 1120 (by decide +kernel) rfl, tb_of 46 (by decide +kernel) rfl⟩
theorem fg_37_22 : FldG false 37 8 22 (fun g w => .int (w.1 37 22)) := ⟨by decide, rfl, fun _ _ => ⟨_, rfl, rfl⟩⟩
theorem lf_RX8_42 : Cond.fieldLink RX8 42 (TX8 21).1 (TX8 21).2.1 (TX8 21).2.2.1 ∈ TB := tb_of 884 (by decide +kernel) rfl
theorem fg_37_21 : FldG false 37 8 21 (fun g w => .ref (gA g 46)) := ⟨by decide, rfl, fun _ _ => ⟨_, rfl, rfl⟩⟩
theorem ar_46 : ArrI false 46 12 := ⟨by decide, rfl, fun _ _ => rfl⟩
theorem lf_RX8_45 : Cond.fieldLink RX8 45 (TX8 23).1 (TX8 23).2.1 (TX8 23).2.2.1 ∈ TB := tb_of 886 (by decide +kernel) rfl
theorem fg_37_23 : FldG false 37 8 23 (fun g w => .ref (gA g 47)) := ⟨by decide, rfl, fun _ _ => ⟨_, rfl, rfl⟩⟩
theorem ar_47 : ArrI false 47 3 := ⟨by decide, rfl, fun _ _ => rfl⟩
theorem lf_RX8_52 : Cond.fieldLink RX8 52 (TX8 25).1 (TX8 25).2.1 (TX8 25).2.2.1 ∈ TB := tb_of 888 (by decide +kernel) rfl
theorem fg_37_25 : FldG false 37 8 25 (fun g w => .ref (gA g 49)) := ⟨by decide, rfl, fun _ _ => ⟨_, rfl, rfl⟩⟩
theorem ar_49 : ArrJ false 49 41 := ⟨by decide, rfl, fun _ _ => rfl⟩
theorem lf_RX8_48 : Cond.fieldLink RX8 48 (TX8 24).1 (TX8 24).2.1 (TX8 24).2.2.1 ∈ TB := tb_of 887 (by decide +kernel) rfl
theorem fg_37_24 : FldG false 37 8 24 (fun g w => .ref (gA g 48)) := ⟨by decide, rfl, fun _ _ => ⟨_, rfl, rfl⟩⟩
theorem ar_48 : ArrJ false 48 41 := ⟨by decide, rfl, fun _ _ => rfl⟩
theorem cb_X8_addThen : CwB yX8_addThen cX8_addThen 4 none 2 := ⟨tb_of 1163 (by decide +kernel) rfl, tb_of 63 (by decide +kernel) rfl, by decide +kernel⟩
theorem lm_RX8_213 : Cond.methodLink RX8 213 yX8_addThen ∈ TB ∧ Cond.instanceMethod yX8_addThen ∈ TB ∧ Cond.selects yX8_addThen.cls yX8_addThen yX8_addThen ∈ TB := ⟨tb_of 1160 (by decide +kernel) rfl, tb_of 1162 (by decide +kernel) rfl, tb_of 50 (by decide +kernel) rfl⟩
theorem kc_RX8_217 : Cond.constantLong RX8 217 (10 : Int64) ∈ TB := tb_of 1153 (by decide +kernel) rfl
theorem kc_RX8_221 : Cond.constantLong RX8 221 (-3 : Int64) ∈ TB := tb_of 1155 (by decide +kernel) rfl
theorem kc_RX8_219 : Cond.constantLong RX8 219 (40 : Int64) ∈ TB := tb_of 1154 (by decide +kernel) rfl
theorem cb_X8_rideLate : CwB yX8_rideLate cX8_rideLate 6 none 2 := ⟨tb_of 1159 (by decide +kernel) rfl, tb_of 63 (by decide +kernel) rfl, by decide +kernel⟩
theorem lm_RX8_223 : Cond.methodLink RX8 223 yX8_rideLate ∈ TB ∧ Cond.instanceMethod yX8_rideLate ∈ TB ∧ Cond.selects yX8_rideLate.cls yX8_rideLate yX8_rideLate ∈ TB := ⟨tb_of 1156 (by decide +kernel) rfl, tb_of 1158 (by decide +kernel) rfl, tb_of 49 (by decide +kernel) rfl⟩
theorem cb_X8_divisor : CwB yX8_divisor cX8_divisor 10 (some .long) 2 := ⟨tb_of 1166 (by decide +kernel) rfl, tb_of 63 (by decide +kernel) rfl, by decide +kernel⟩
theorem lm_RX8_227 : Cond.methodLink RX8 227 yX8_divisor ∈ TB ∧ Cond.static yX8_divisor ∈ TB := ⟨tb_of 1164 (by decide +kernel) rfl, tb_of 1165 (by decide +kernel) rfl⟩
theorem cb_X8_copy : CwB yX8_copy cX8_copy 4 none 2 := ⟨tb_of 1174 (by decide +kernel) rfl, tb_of 63 (by decide +kernel) rfl, by decide +kernel⟩
theorem lm_RX8_231 : Cond.methodLink RX8 231 yX8_copy ∈ TB ∧ Cond.instanceMethod yX8_copy ∈ TB ∧ Cond.selects yX8_copy.cls yX8_copy yX8_copy ∈ TB := ⟨tb_of 1171 (by decide +kernel) rfl, tb_of 1173 (by decide +kernel) rfl, tb_of 51 (by decide +kernel) rfl⟩
end
section
theorem dX5_kindsLeft_0 : decode cX5_kindsLeft 0 = .ok (.iconst 0, 1) := by decide +kernel
theorem dX5_kindsLeft_1 : decode cX5_kindsLeft 1 = .ok (.istore_n 1, 1) := by decide +kernel
theorem dX5_kindsLeft_2 : decode cX5_kindsLeft 2 = .ok (.iconst 0, 1) := by decide +kernel
theorem dX5_kindsLeft_3 : decode cX5_kindsLeft 3 = .ok (.istore_n 2, 1) := by decide +kernel
theorem dX5_kindsLeft_4 : decode cX5_kindsLeft 4 = .ok (.iload_n 2, 1) := by decide +kernel
theorem dX5_kindsLeft_5 : decode cX5_kindsLeft 5 = .ok (.iconst 3, 1) := by decide +kernel
theorem dX5_kindsLeft_6 : decode cX5_kindsLeft 6 = .ok (.if_icmp .ge 24, 3) := by decide +kernel
theorem dX5_kindsLeft_9 : decode cX5_kindsLeft 9 = .ok (.aload_n 0, 1) := by decide +kernel
theorem dX5_kindsLeft_10 : decode cX5_kindsLeft 10 = .ok (.getfield 9, 3) := by decide +kernel
theorem dX5_kindsLeft_13 : decode cX5_kindsLeft 13 = .ok (.iload_n 2, 1) := by decide +kernel
theorem dX5_kindsLeft_14 : decode cX5_kindsLeft 14 = .ok (.iaload, 1) := by decide +kernel
theorem dX5_kindsLeft_15 : decode cX5_kindsLeft 15 = .ok (.ifCond .le 9, 3) := by decide +kernel
theorem dX5_kindsLeft_18 : decode cX5_kindsLeft 18 = .ok (.iload_n 1, 1) := by decide +kernel
theorem dX5_kindsLeft_19 : decode cX5_kindsLeft 19 = .ok (.iconst 1, 1) := by decide +kernel
theorem dX5_kindsLeft_20 : decode cX5_kindsLeft 20 = .ok (.iload_n 2, 1) := by decide +kernel
theorem dX5_kindsLeft_21 : decode cX5_kindsLeft 21 = .ok (.ishl, 1) := by decide +kernel
theorem dX5_kindsLeft_22 : decode cX5_kindsLeft 22 = .ok (.ior, 1) := by decide +kernel
theorem dX5_kindsLeft_23 : decode cX5_kindsLeft 23 = .ok (.istore_n 1, 1) := by decide +kernel
theorem dX5_kindsLeft_24 : decode cX5_kindsLeft 24 = .ok (.iinc 2 1, 3) := by decide +kernel
theorem dX5_kindsLeft_27 : decode cX5_kindsLeft 27 = .ok (.goto (-23), 3) := by decide +kernel
theorem dX5_kindsLeft_30 : decode cX5_kindsLeft 30 = .ok (.iload_n 1, 1) := by decide +kernel
theorem dX5_kindsLeft_31 : decode cX5_kindsLeft 31 = .ok (.ireturn, 1) := by decide +kernel
def Sc_kindsLeft_L4 (w : Wd) (k30 : Int32 → Option Int32) : Nat → Int32 → Int32 → Option Int32
  | 0, _, _ => none
  | n + 1, v1, v2 => (if (3 : Int32) ≤ v2 then (k30 v1) else (if ib v2 3 = true then (Sc_kindsLeft_L4 w k30 n (if (w.1 14 (Int32.toNatClampNeg v2)) ≤ (0 : Int32) then v1 else (v1 ||| ((1 : Int32) <<< (v2 &&& (31 : Int32))))) (v2 + (1 : Int32))) else none))
set_option maxRecDepth 100000 in
set_option maxHeartbeats 4000000 in
theorem Sc_kindsLeft_L4_ok {K : Ctx} (F : Fx K cX5_kindsLeft 3 RX5 (some .int) 0 0 true) (w : Wd) {k30 : Int32 → Option Int32} (h30 : ∀ (v1 : Int32), N K (rtP w) (k30 v1) w 30 [(1, .int v1)] []) : ∀ (n : Nat) (v1 : Int32) (v2 : Int32), N K (rtP w) (Sc_kindsLeft_L4 w k30 n v1 v2) w 4 [(0, .ref (gA (cg K) 13)), (1, .int v1), (2, .int v2)] [] := by
  intro n
  induction n with
  | zero => intro _ _; exact n_none
  | succ n ih =>
    intro v1 v2
    rw [Sc_kindsLeft_L4]
    refine n_iload_n F dX5_kindsLeft_4 rfl 2 rfl ?_
    refine n_iconst F (3 : Int32) dX5_kindsLeft_5 (by decide) ?_
    refine n_icmp_ge F 30 dX5_kindsLeft_6 (by decide) (fun h1 => ?_) (fun h1 => ?_)
    · rw [if_pos h1]
      exact n_sub [1] rfl (h30 _)
    rw [if_neg h1]
    refine n_aload_n F dX5_kindsLeft_9 rfl 0 rfl ?_
    refine n_get F ck_5 lf_RX5_9 (by decide) fg_13_6 dX5_kindsLeft_10 ?_
    refine n_iload_n F dX5_kindsLeft_13 rfl 2 rfl ?_
    refine n_chk (fun h2 => ?_)
    refine n_iald F ar_14 (ib_in h2) rfl dX5_kindsLeft_14 ?_
    refine n_if_le F 24 dX5_kindsLeft_15 (by decide) (fun h3 => ?_) (fun h3 => ?_)
    · rw [if_pos h3]
      refine n_iinc F (v2 + (1 : Int32)) (lv' := [(2, .int (v2 + (1 : Int32))), (0, .ref (gA (cg K) 13)), (1, .int v1)]) dX5_kindsLeft_24 2 rfl rfl (by decide) rfl ?_
      refine n_goto F 4 dX5_kindsLeft_27 (by decide) ?_
      exact n_sub [1, 2, 0] rfl (ih _ _)
    rw [if_neg h3]
    refine n_iload_n F dX5_kindsLeft_18 rfl 1 rfl ?_
    refine n_iconst F (1 : Int32) dX5_kindsLeft_19 (by decide) ?_
    refine n_iload_n F dX5_kindsLeft_20 rfl 2 rfl ?_
    refine n_ishl F dX5_kindsLeft_21 ?_
    refine n_ior F dX5_kindsLeft_22 ?_
    refine n_istore_n F (lv' := [(1, .int (v1 ||| ((1 : Int32) <<< (v2 &&& (31 : Int32))))), (0, .ref (gA (cg K) 13)), (2, .int v2)]) dX5_kindsLeft_23 rfl (by decide) rfl ?_
    refine n_iinc F (v2 + (1 : Int32)) (lv' := [(2, .int (v2 + (1 : Int32))), (1, .int (v1 ||| ((1 : Int32) <<< (v2 &&& (31 : Int32))))), (0, .ref (gA (cg K) 13))]) dX5_kindsLeft_24 2 rfl rfl (by decide) rfl ?_
    refine n_goto F 4 dX5_kindsLeft_27 (by decide) ?_
    exact n_sub [2, 1, 0] rfl (ih _ _)
def Sc_kindsLeft_B30 (w : Wd) (v1 : Int32) : Option Int32 := some v1
set_option maxRecDepth 100000 in
set_option maxHeartbeats 4000000 in
theorem Sc_kindsLeft_B30_ok {K : Ctx} (F : Fx K cX5_kindsLeft 3 RX5 (some .int) 0 0 true) (w : Wd) (v1 : Int32) : N K (rtP w) (Sc_kindsLeft_B30 w v1) w 30 [(1, .int v1)] [] := by
  rw [Sc_kindsLeft_B30]
  refine n_iload_n F dX5_kindsLeft_30 rfl 0 rfl ?_
  exact n_iret F rfl rfl dX5_kindsLeft_31
def Sc_kindsLeft (w : Wd) : Option Int32 := (Sc_kindsLeft_L4 w (Sc_kindsLeft_B30 w) FU (0 : Int32) (0 : Int32))
set_option maxRecDepth 100000 in
set_option maxHeartbeats 4000000 in
theorem ct_Sc_kindsLeft {l : Launch} {g : GG} {σ : Sd} (hg : OKg g) (hb : σ.1 = true) (w : Wd) {q : Int32} (hq : Sc_kindsLeft w = some q) : CT l g σ yX5_kindsLeft cX5_kindsLeft 3 (some .int) 0 0 [.ref (gA g 13)] w (some (.int q)) w := by
  refine ct_of (rt := (rtP w)) (res := Sc_kindsLeft w) (q := q) (own := RX5) (b := true) hg hb (by decide) rfl (Nat.le_of_ble_eq_true rfl) hq (fun K e1 e2 e3 F => ?_)
  subst e1 e2 e3
  rw [Sc_kindsLeft]
  show N K _ _ w 0 [(0, .ref (gA (cg K) 13))] []
  refine n_iconst F (0 : Int32) dX5_kindsLeft_0 (by decide) ?_
  refine n_istore_n F (lv' := [(1, .int (0 : Int32)), (0, .ref (gA (cg K) 13))]) dX5_kindsLeft_1 rfl (by decide) rfl ?_
  refine n_iconst F (0 : Int32) dX5_kindsLeft_2 (by decide) ?_
  refine n_istore_n F (lv' := [(2, .int (0 : Int32)), (1, .int (0 : Int32)), (0, .ref (gA (cg K) 13))]) dX5_kindsLeft_3 rfl (by decide) rfl ?_
  exact n_sub [2, 1, 0] rfl (Sc_kindsLeft_L4_ok F w (Sc_kindsLeft_B30_ok F w) FU _ _)
theorem dX1_part_0 : decode cX1_part 0 = .ok (.iload_n 1, 1) := by decide +kernel
theorem dX1_part_1 : decode cX1_part 1 = .ok (.ifCond .lt 21, 3) := by decide +kernel
theorem dX1_part_4 : decode cX1_part 4 = .ok (.iload_n 1, 1) := by decide +kernel
theorem dX1_part_5 : decode cX1_part 5 = .ok (.aload_n 0, 1) := by decide +kernel
theorem dX1_part_6 : decode cX1_part 6 = .ok (.getfield 15, 3) := by decide +kernel
theorem dX1_part_9 : decode cX1_part 9 = .ok (.if_icmp .ge 13, 3) := by decide +kernel
theorem dX1_part_12 : decode cX1_part 12 = .ok (.iload_n 1, 1) := by decide +kernel
theorem dX1_part_13 : decode cX1_part 13 = .ok (.bipush 12, 2) := by decide +kernel
theorem dX1_part_15 : decode cX1_part 15 = .ok (.if_icmp .ge 7, 3) := by decide +kernel
theorem dX1_part_18 : decode cX1_part 18 = .ok (.iconst 1, 1) := by decide +kernel
theorem dX1_part_19 : decode cX1_part 19 = .ok (.goto 4, 3) := by decide +kernel
theorem dX1_part_22 : decode cX1_part 22 = .ok (.iconst 0, 1) := by decide +kernel
theorem dX1_part_23 : decode cX1_part 23 = .ok (.istore_n 3, 1) := by decide +kernel
theorem dX1_part_24 : decode cX1_part 24 = .ok (.iload_n 3, 1) := by decide +kernel
theorem dX1_part_25 : decode cX1_part 25 = .ok (.ifCond .eq 27, 3) := by decide +kernel
theorem dX1_part_28 : decode cX1_part 28 = .ok (.iload_n 2, 1) := by decide +kernel
theorem dX1_part_29 : decode cX1_part 29 = .ok (.ifCond .lt 23, 3) := by decide +kernel
theorem dX1_part_32 : decode cX1_part 32 = .ok (.iload_n 2, 1) := by decide +kernel
theorem dX1_part_33 : decode cX1_part 33 = .ok (.bipush 6, 2) := by decide +kernel
theorem dX1_part_35 : decode cX1_part 35 = .ok (.if_icmp .ge 17, 3) := by decide +kernel
theorem dX1_part_38 : decode cX1_part 38 = .ok (.aload_n 0, 1) := by decide +kernel
theorem dX1_part_39 : decode cX1_part 39 = .ok (.getfield 24, 3) := by decide +kernel
theorem dX1_part_42 : decode cX1_part 42 = .ok (.iload_n 1, 1) := by decide +kernel
theorem dX1_part_43 : decode cX1_part 43 = .ok (.bipush 6, 2) := by decide +kernel
theorem dX1_part_45 : decode cX1_part 45 = .ok (.imul, 1) := by decide +kernel
theorem dX1_part_46 : decode cX1_part 46 = .ok (.iload_n 2, 1) := by decide +kernel
theorem dX1_part_47 : decode cX1_part 47 = .ok (.iadd, 1) := by decide +kernel
theorem dX1_part_48 : decode cX1_part 48 = .ok (.iaload, 1) := by decide +kernel
theorem dX1_part_49 : decode cX1_part 49 = .ok (.goto 4, 3) := by decide +kernel
theorem dX1_part_52 : decode cX1_part 52 = .ok (.iconst (-1), 1) := by decide +kernel
theorem dX1_part_53 : decode cX1_part 53 = .ok (.ireturn, 1) := by decide +kernel
def La_part_B23 (w : Wd) (v1 : Int32) (v2 : Int32) (s0 : Int32) : Option Int32 := (if s0 = (0 : Int32) then some (-1 : Int32) else (if v2 < (0 : Int32) then some (-1 : Int32) else (if (6 : Int32) ≤ v2 then some (-1 : Int32) else (if ib ((v1 * (6 : Int32)) + v2) 72 = true then some (w.1 4 (Int32.toNatClampNeg ((v1 * (6 : Int32)) + v2))) else none))))
set_option maxRecDepth 100000 in
set_option maxHeartbeats 4000000 in
theorem La_part_B23_ok {K : Ctx} (F : Fx K cX1_part 4 RX1 (some .int) 0 0 true) (w : Wd) (v1 : Int32) (v2 : Int32) (s0 : Int32) : N K (rtP w) (La_part_B23 w v1 v2 s0) w 23 [(0, .ref (gA (cg K) 3)), (1, .int v1), (2, .int v2)] [.int s0] := by
  rw [La_part_B23]
  refine n_istore_n F (lv' := [(3, .int s0), (0, .ref (gA (cg K) 3)), (1, .int v1), (2, .int v2)]) dX1_part_23 rfl (by decide) rfl ?_
  refine n_iload_n F dX1_part_24 rfl 0 rfl ?_
  refine n_if_eq F 52 dX1_part_25 (by decide) (fun h2 => ?_) (fun h2 => ?_)
  · rw [if_pos h2]
    refine n_iconst F (-1 : Int32) dX1_part_52 (by decide) ?_
    exact n_iret F rfl rfl dX1_part_53
  rw [if_neg h2]
  refine n_iload_n F dX1_part_28 rfl 3 rfl ?_
  refine n_if_lt F 52 dX1_part_29 (by decide) (fun h3 => ?_) (fun h3 => ?_)
  · rw [if_pos h3]
    refine n_iconst F (-1 : Int32) dX1_part_52 (by decide) ?_
    exact n_iret F rfl rfl dX1_part_53
  rw [if_neg h3]
  refine n_iload_n F dX1_part_32 rfl 3 rfl ?_
  refine n_bipush F (6 : Int32) dX1_part_33 (by decide) ?_
  refine n_icmp_ge F 52 dX1_part_35 (by decide) (fun h4 => ?_) (fun h4 => ?_)
  · rw [if_pos h4]
    refine n_iconst F (-1 : Int32) dX1_part_52 (by decide) ?_
    exact n_iret F rfl rfl dX1_part_53
  rw [if_neg h4]
  refine n_aload_n F dX1_part_38 rfl 1 rfl ?_
  refine n_get F ck_1 lf_RX1_24 (by decide) fg_3_4 dX1_part_39 ?_
  refine n_iload_n F dX1_part_42 rfl 2 rfl ?_
  refine n_bipush F (6 : Int32) dX1_part_43 (by decide) ?_
  refine n_imul F dX1_part_45 ?_
  refine n_iload_n F dX1_part_46 rfl 3 rfl ?_
  refine n_iadd F dX1_part_47 ?_
  refine n_chk (fun h5 => ?_)
  refine n_iald F ar_4 (ib_in h5) rfl dX1_part_48 ?_
  refine n_goto F 53 dX1_part_49 (by decide) ?_
  exact n_iret F rfl rfl dX1_part_53
def La_part (w : Wd) (a1 : Int32) (a2 : Int32) : Option Int32 := (La_part_B23 w a1 a2 (if a1 < (0 : Int32) then (0 : Int32) else (if (w.1 3 1) ≤ a1 then (0 : Int32) else (if (12 : Int32) ≤ a1 then (0 : Int32) else (1 : Int32)))))
set_option maxRecDepth 100000 in
set_option maxHeartbeats 4000000 in
theorem ct_La_part {l : Launch} {g : GG} {σ : Sd} (hg : OKg g) (hb : σ.1 = true) (w : Wd) (a1 : Int32) (a2 : Int32) {q : Int32} (hq : La_part w a1 a2 = some q) : CT l g σ yX1_part cX1_part 4 (some .int) 0 0 [.ref (gA g 3), .int a1, .int a2] w (some (.int q)) w := by
  refine ct_of (rt := (rtP w)) (res := La_part w a1 a2) (q := q) (own := RX1) (b := true) hg hb (by decide) rfl (Nat.le_of_ble_eq_true rfl) hq (fun K e1 e2 e3 F => ?_)
  subst e1 e2 e3
  rw [La_part]
  show N K _ _ w 0 [(0, .ref (gA (cg K) 3)), (1, .int a1), (2, .int a2)] []
  refine n_iload_n F dX1_part_0 rfl 1 rfl ?_
  refine n_if_lt F 22 dX1_part_1 (by decide) (fun h1 => ?_) (fun h1 => ?_)
  · rw [if_pos h1]
    refine n_iconst F (0 : Int32) dX1_part_22 (by decide) ?_
    exact n_sub [0, 1, 2] rfl (La_part_B23_ok F w _ _ _)
  rw [if_neg h1]
  refine n_iload_n F dX1_part_4 rfl 1 rfl ?_
  refine n_aload_n F dX1_part_5 rfl 0 rfl ?_
  refine n_get F ck_1 lf_RX1_15 (by decide) fg_3_1 dX1_part_6 ?_
  refine n_icmp_ge F 22 dX1_part_9 (by decide) (fun h6 => ?_) (fun h6 => ?_)
  · rw [if_pos h6]
    refine n_iconst F (0 : Int32) dX1_part_22 (by decide) ?_
    exact n_sub [0, 1, 2] rfl (La_part_B23_ok F w _ _ _)
  rw [if_neg h6]
  refine n_iload_n F dX1_part_12 rfl 1 rfl ?_
  refine n_bipush F (12 : Int32) dX1_part_13 (by decide) ?_
  refine n_icmp_ge F 22 dX1_part_15 (by decide) (fun h7 => ?_) (fun h7 => ?_)
  · rw [if_pos h7]
    refine n_iconst F (0 : Int32) dX1_part_22 (by decide) ?_
    exact n_sub [0, 1, 2] rfl (La_part_B23_ok F w _ _ _)
  rw [if_neg h7]
  refine n_iconst F (1 : Int32) dX1_part_18 (by decide) ?_
  refine n_goto F 23 dX1_part_19 (by decide) ?_
  exact n_sub [0, 1, 2] rfl (La_part_B23_ok F w _ _ _)
theorem dX7_hasBit_0 : decode cX7_hasBit 0 = .ok (.iload_n 0, 1) := by decide +kernel
theorem dX7_hasBit_1 : decode cX7_hasBit 1 = .ok (.iload_n 1, 1) := by decide +kernel
theorem dX7_hasBit_2 : decode cX7_hasBit 2 = .ok (.ishr, 1) := by decide +kernel
theorem dX7_hasBit_3 : decode cX7_hasBit 3 = .ok (.iconst 1, 1) := by decide +kernel
theorem dX7_hasBit_4 : decode cX7_hasBit 4 = .ok (.iand, 1) := by decide +kernel
theorem dX7_hasBit_5 : decode cX7_hasBit 5 = .ok (.ifCond .eq 7, 3) := by decide +kernel
theorem dX7_hasBit_8 : decode cX7_hasBit 8 = .ok (.iconst 1, 1) := by decide +kernel
theorem dX7_hasBit_9 : decode cX7_hasBit 9 = .ok (.goto 4, 3) := by decide +kernel
theorem dX7_hasBit_12 : decode cX7_hasBit 12 = .ok (.iconst 0, 1) := by decide +kernel
theorem dX7_hasBit_13 : decode cX7_hasBit 13 = .ok (.ireturn, 1) := by decide +kernel
def Nt_hasBit (w : Wd) (a1 : Int32) (a2 : Int32) : Int32 := (if ((a1 >>> (a2 &&& (31 : Int32))) &&& (1 : Int32)) = (0 : Int32) then (0 : Int32) else (1 : Int32))
set_option maxRecDepth 100000 in
set_option maxHeartbeats 4000000 in
theorem ct_Nt_hasBit {l : Launch} {g : GG} {σ : Sd} (hg : OKg g) (hb : σ.1 = true) (w : Wd) (a1 : Int32) (a2 : Int32) : CT l g σ yX7_hasBit cX7_hasBit 2 (some .boolean) 0 0 [.int a1, .int a2] w (some (.int (Nt_hasBit w a1 a2))) w := by
  refine ct_of (rt := (rtP w)) (res := some (Nt_hasBit w a1 a2)) (q := (Nt_hasBit w a1 a2)) (own := RX7) (b := true) hg hb (by decide) rfl (Nat.le_of_ble_eq_true rfl) rfl (fun K e1 e2 e3 F => ?_)
  subst e1 e2 e3
  rw [Nt_hasBit]
  show N K _ _ w 0 [(0, .int a1), (1, .int a2)] []
  refine n_iload_n F dX7_hasBit_0 rfl 0 rfl ?_
  refine n_iload_n F dX7_hasBit_1 rfl 1 rfl ?_
  refine n_ishr F dX7_hasBit_2 ?_
  refine n_iconst F (1 : Int32) dX7_hasBit_3 (by decide) ?_
  refine n_iand F dX7_hasBit_4 ?_
  refine n_if_eq F 12 dX7_hasBit_5 (by decide) (fun h1 => ?_) (fun h1 => ?_)
  · rw [if_pos h1]
    refine n_iconst F (0 : Int32) dX7_hasBit_12 (by decide) ?_
    exact n_zret F .boolean rfl rfl rfl dX7_hasBit_13
  rw [if_neg h1]
  refine n_iconst F (1 : Int32) dX7_hasBit_8 (by decide) ?_
  refine n_goto F 13 dX7_hasBit_9 (by decide) ?_
  exact n_zret F .boolean rfl rfl rfl dX7_hasBit_13
theorem bz_Nt_hasBit (w : Wd) (a1 : Int32) (a2 : Int32) : (Nt_hasBit w a1 a2) &&& (1 : Int32) = (Nt_hasBit w a1 a2) := by
  unfold Nt_hasBit
  first | exact bz_auto | (repeat' split) <;> first | rfl | assumption
theorem dX1_runsOn_0 : decode cX1_runsOn 0 = .ok (.aload_n 0, 1) := by decide +kernel
theorem dX1_runsOn_1 : decode cX1_runsOn 1 = .ok (.iload_n 1, 1) := by decide +kernel
theorem dX1_runsOn_2 : decode cX1_runsOn 2 = .ok (.iconst 2, 1) := by decide +kernel
theorem dX1_runsOn_3 : decode cX1_runsOn 3 = .ok (.invokevirtual 54, 3) := by decide +kernel
theorem dX1_runsOn_6 : decode cX1_runsOn 6 = .ok (.istore_n 3, 1) := by decide +kernel
theorem dX1_runsOn_7 : decode cX1_runsOn 7 = .ok (.iload_n 3, 1) := by decide +kernel
theorem dX1_runsOn_8 : decode cX1_runsOn 8 = .ok (.ifCond .le 19, 3) := by decide +kernel
theorem dX1_runsOn_11 : decode cX1_runsOn 11 = .ok (.iload_n 2, 1) := by decide +kernel
theorem dX1_runsOn_12 : decode cX1_runsOn 12 = .ok (.iload_n 3, 1) := by decide +kernel
theorem dX1_runsOn_13 : decode cX1_runsOn 13 = .ok (.irem, 1) := by decide +kernel
theorem dX1_runsOn_14 : decode cX1_runsOn 14 = .ok (.aload_n 0, 1) := by decide +kernel
theorem dX1_runsOn_15 : decode cX1_runsOn 15 = .ok (.iload_n 1, 1) := by decide +kernel
theorem dX1_runsOn_16 : decode cX1_runsOn 16 = .ok (.iconst 3, 1) := by decide +kernel
theorem dX1_runsOn_17 : decode cX1_runsOn 17 = .ok (.invokevirtual 54, 3) := by decide +kernel
theorem dX1_runsOn_20 : decode cX1_runsOn 20 = .ok (.if_icmp .ne 7, 3) := by decide +kernel
theorem dX1_runsOn_23 : decode cX1_runsOn 23 = .ok (.iconst 1, 1) := by decide +kernel
theorem dX1_runsOn_24 : decode cX1_runsOn 24 = .ok (.goto 4, 3) := by decide +kernel
theorem dX1_runsOn_27 : decode cX1_runsOn 27 = .ok (.iconst 0, 1) := by decide +kernel
theorem dX1_runsOn_28 : decode cX1_runsOn 28 = .ok (.ireturn, 1) := by decide +kernel
def La_runsOn (w : Wd) (a1 : Int32) (a2 : Int32) : Option Int32 := (Option.bind (La_part w a1 (2 : Int32)) (fun q1 => (if q1 ≤ (0 : Int32) then some (0 : Int32) else (if ¬ q1 = (0 : Int32) then (Option.bind (La_part w a1 (3 : Int32)) (fun q4 => (if (a2 - a2 / q1 * q1) = q4 then some (1 : Int32) else some (0 : Int32)))) else none))))
set_option maxRecDepth 100000 in
set_option maxHeartbeats 4000000 in
theorem ct_La_runsOn {l : Launch} {g : GG} {σ : Sd} (hg : OKg g) (hb : σ.1 = true) (w : Wd) (a1 : Int32) (a2 : Int32) {q : Int32} (hq : La_runsOn w a1 a2 = some q) : CT l g σ yX1_runsOn cX1_runsOn 4 (some .boolean) 1 23 [.ref (gA g 3), .int a1, .int a2] w (some (.int q)) w := by
  refine ct_of (rt := (rtP w)) (res := La_runsOn w a1 a2) (q := q) (own := RX1) (b := true) hg hb (by decide) rfl (Nat.le_of_ble_eq_true rfl) hq (fun K e1 e2 e3 F => ?_)
  subst e1 e2 e3
  rw [La_runsOn]
  show N K _ _ w 0 [(0, .ref (gA (cg K) 3)), (1, .int a1), (2, .int a2)] []
  refine n_aload_n F dX1_runsOn_0 rfl 0 rfl ?_
  refine n_iload_n F dX1_runsOn_1 rfl 1 rfl ?_
  refine n_iconst F (2 : Int32) dX1_runsOn_2 (by decide) ?_
  refine n_bind (fun q1 hq1 => ?_)
  refine n_callVi F cb_X1_part lm_RX1_54 ob_3 ⟨_, _, rfl⟩ (ct_La_part (fx_ok F) (fx_sd F) w a1 (2 : Int32) hq1) rfl rfl (Nat.le_of_ble_eq_true rfl) ⟨Nat.le_of_ble_eq_true rfl, Nat.le_of_ble_eq_true rfl⟩ dX1_runsOn_3 ?_
  refine n_istore_n F (lv' := [(3, .int q1), (0, .ref (gA (cg K) 3)), (1, .int a1), (2, .int a2)]) dX1_runsOn_6 rfl (by decide) rfl ?_
  refine n_iload_n F dX1_runsOn_7 rfl 0 rfl ?_
  refine n_if_le F 27 dX1_runsOn_8 (by decide) (fun h2 => ?_) (fun h2 => ?_)
  · rw [if_pos h2]
    refine n_iconst F (0 : Int32) dX1_runsOn_27 (by decide) ?_
    exact n_zret F .boolean rfl rfl rfl dX1_runsOn_28
  rw [if_neg h2]
  refine n_iload_n F dX1_runsOn_11 rfl 3 rfl ?_
  refine n_iload_n F dX1_runsOn_12 rfl 0 rfl ?_
  refine n_chk (fun h3 => ?_)
  refine n_irem F dX1_runsOn_13 h3 ?_
  refine n_aload_n F dX1_runsOn_14 rfl 1 rfl ?_
  refine n_iload_n F dX1_runsOn_15 rfl 2 rfl ?_
  refine n_iconst F (3 : Int32) dX1_runsOn_16 (by decide) ?_
  refine n_bind (fun q4 hq4 => ?_)
  refine n_callVi F cb_X1_part lm_RX1_54 ob_3 ⟨_, _, rfl⟩ (ct_La_part (fx_ok F) (fx_sd F) w a1 (3 : Int32) hq4) rfl rfl (Nat.le_of_ble_eq_true rfl) ⟨Nat.le_of_ble_eq_true rfl, Nat.le_of_ble_eq_true rfl⟩ dX1_runsOn_17 ?_
  refine n_icmp_ne F 27 dX1_runsOn_20 (by decide) (fun h5 => ?_) (fun h5 => ?_)
  · rw [if_neg h5]
    refine n_iconst F (0 : Int32) dX1_runsOn_27 (by decide) ?_
    exact n_zret F .boolean rfl rfl rfl dX1_runsOn_28
  rw [if_pos h5]
  refine n_iconst F (1 : Int32) dX1_runsOn_23 (by decide) ?_
  refine n_goto F 28 dX1_runsOn_24 (by decide) ?_
  exact n_zret F .boolean rfl rfl rfl dX1_runsOn_28
theorem dX1_reached_0 : decode cX1_reached 0 = .ok (.iconst 0, 1) := by decide +kernel
theorem dX1_reached_1 : decode cX1_reached 1 = .ok (.istore 5, 2) := by decide +kernel
theorem dX1_reached_3 : decode cX1_reached 3 = .ok (.iconst 0, 1) := by decide +kernel
theorem dX1_reached_4 : decode cX1_reached 4 = .ok (.istore 6, 2) := by decide +kernel
theorem dX1_reached_6 : decode cX1_reached 6 = .ok (.iload 6, 2) := by decide +kernel
theorem dX1_reached_8 : decode cX1_reached 8 = .ok (.aload_n 0, 1) := by decide +kernel
theorem dX1_reached_9 : decode cX1_reached 9 = .ok (.getfield 15, 3) := by decide +kernel
theorem dX1_reached_12 : decode cX1_reached 12 = .ok (.if_icmp .ge 73, 3) := by decide +kernel
theorem dX1_reached_15 : decode cX1_reached 15 = .ok (.aload_n 0, 1) := by decide +kernel
theorem dX1_reached_16 : decode cX1_reached 16 = .ok (.iload 6, 2) := by decide +kernel
theorem dX1_reached_18 : decode cX1_reached 18 = .ok (.iconst 4, 1) := by decide +kernel
theorem dX1_reached_19 : decode cX1_reached 19 = .ok (.invokevirtual 54, 3) := by decide +kernel
theorem dX1_reached_22 : decode cX1_reached 22 = .ok (.iload 4, 2) := by decide +kernel
theorem dX1_reached_24 : decode cX1_reached 24 = .ok (.if_icmp .ne 55, 3) := by decide +kernel
theorem dX1_reached_27 : decode cX1_reached 27 = .ok (.iload_n 3, 1) := by decide +kernel
theorem dX1_reached_28 : decode cX1_reached 28 = .ok (.aload_n 0, 1) := by decide +kernel
theorem dX1_reached_29 : decode cX1_reached 29 = .ok (.iload 6, 2) := by decide +kernel
theorem dX1_reached_31 : decode cX1_reached 31 = .ok (.iconst 5, 1) := by decide +kernel
theorem dX1_reached_32 : decode cX1_reached 32 = .ok (.invokevirtual 54, 3) := by decide +kernel
theorem dX1_reached_35 : decode cX1_reached 35 = .ok (.invokestatic 65, 3) := by decide +kernel
theorem dX1_reached_38 : decode cX1_reached 38 = .ok (.ifCond .eq 41, 3) := by decide +kernel
theorem dX1_reached_41 : decode cX1_reached 41 = .ok (.iload_n 1, 1) := by decide +kernel
theorem dX1_reached_42 : decode cX1_reached 42 = .ok (.aload_n 0, 1) := by decide +kernel
theorem dX1_reached_43 : decode cX1_reached 43 = .ok (.iload 6, 2) := by decide +kernel
theorem dX1_reached_45 : decode cX1_reached 45 = .ok (.iconst 0, 1) := by decide +kernel
theorem dX1_reached_46 : decode cX1_reached 46 = .ok (.invokevirtual 54, 3) := by decide +kernel
theorem dX1_reached_49 : decode cX1_reached 49 = .ok (.invokestatic 65, 3) := by decide +kernel
theorem dX1_reached_52 : decode cX1_reached 52 = .ok (.ifCond .eq 27, 3) := by decide +kernel
theorem dX1_reached_55 : decode cX1_reached 55 = .ok (.aload_n 0, 1) := by decide +kernel
theorem dX1_reached_56 : decode cX1_reached 56 = .ok (.iload 6, 2) := by decide +kernel
theorem dX1_reached_58 : decode cX1_reached 58 = .ok (.iload_n 2, 1) := by decide +kernel
theorem dX1_reached_59 : decode cX1_reached 59 = .ok (.invokevirtual 58, 3) := by decide +kernel
theorem dX1_reached_62 : decode cX1_reached 62 = .ok (.ifCond .eq 17, 3) := by decide +kernel
theorem dX1_reached_65 : decode cX1_reached 65 = .ok (.iload 5, 2) := by decide +kernel
theorem dX1_reached_67 : decode cX1_reached 67 = .ok (.iconst 1, 1) := by decide +kernel
theorem dX1_reached_68 : decode cX1_reached 68 = .ok (.aload_n 0, 1) := by decide +kernel
theorem dX1_reached_69 : decode cX1_reached 69 = .ok (.iload 6, 2) := by decide +kernel
theorem dX1_reached_71 : decode cX1_reached 71 = .ok (.iconst 1, 1) := by decide +kernel
theorem dX1_reached_72 : decode cX1_reached 72 = .ok (.invokevirtual 54, 3) := by decide +kernel
theorem dX1_reached_75 : decode cX1_reached 75 = .ok (.ishl, 1) := by decide +kernel
theorem dX1_reached_76 : decode cX1_reached 76 = .ok (.ior, 1) := by decide +kernel
theorem dX1_reached_77 : decode cX1_reached 77 = .ok (.istore 5, 2) := by decide +kernel
theorem dX1_reached_79 : decode cX1_reached 79 = .ok (.iinc 6 1, 3) := by decide +kernel
theorem dX1_reached_82 : decode cX1_reached 82 = .ok (.goto (-76), 3) := by decide +kernel
theorem dX1_reached_85 : decode cX1_reached 85 = .ok (.iload 5, 2) := by decide +kernel
theorem dX1_reached_87 : decode cX1_reached 87 = .ok (.ireturn, 1) := by decide +kernel
def La_reached_L6 (w : Wd) (k85 : Int32 → Option Int32) : Nat → Int32 → Int32 → Int32 → Int32 → Int32 → Int32 → Option Int32
  | 0, _, _, _, _, _, _ => none
  | n + 1, v1, v2, v3, v4, v5, v6 => (if (w.1 3 1) ≤ v6 then (k85 v5) else (Option.bind (La_part w v6 (4 : Int32)) (fun q2 => (if q2 = v4 then (Option.bind (La_part w v6 (5 : Int32)) (fun q4 => (if (Nt_hasBit w v3 q4) = (0 : Int32) then (La_reached_L6 w k85 n v1 v2 v3 v4 v5 (v6 + (1 : Int32))) else (Option.bind (La_part w v6 (0 : Int32)) (fun q6 => (if (Nt_hasBit w v1 q6) = (0 : Int32) then (La_reached_L6 w k85 n v1 v2 v3 v4 v5 (v6 + (1 : Int32))) else (Option.bind (La_runsOn w v6 v2) (fun q8 => (if q8 = (0 : Int32) then (La_reached_L6 w k85 n v1 v2 v3 v4 v5 (v6 + (1 : Int32))) else (Option.bind (La_part w v6 (1 : Int32)) (fun q10 => (La_reached_L6 w k85 n v1 v2 v3 v4 (v5 ||| ((1 : Int32) <<< (q10 &&& (31 : Int32)))) (v6 + (1 : Int32)))))))))))))) else (La_reached_L6 w k85 n v1 v2 v3 v4 v5 (v6 + (1 : Int32)))))))
set_option maxRecDepth 100000 in
set_option maxHeartbeats 4000000 in
theorem La_reached_L6_ok {K : Ctx} (F : Fx K cX1_reached 7 RX1 (some .int) 2 46 true) (w : Wd) {k85 : Int32 → Option Int32} (h85 : ∀ (v5 : Int32), N K (rtP w) (k85 v5) w 85 [(5, .int v5)] []) : ∀ (n : Nat) (v1 : Int32) (v2 : Int32) (v3 : Int32) (v4 : Int32) (v5 : Int32) (v6 : Int32), N K (rtP w) (La_reached_L6 w k85 n v1 v2 v3 v4 v5 v6) w 6 [(0, .ref (gA (cg K) 3)), (1, .int v1), (2, .int v2), (3, .int v3), (4, .int v4), (5, .int v5), (6, .int v6)] [] := by
  intro n
  induction n with
  | zero => intro _ _ _ _ _ _; exact n_none
  | succ n ih =>
    intro v1 v2 v3 v4 v5 v6
    rw [La_reached_L6]
    refine n_iload F dX1_reached_6 6 rfl ?_
    refine n_aload_n F dX1_reached_8 rfl 0 rfl ?_
    refine n_get F ck_1 lf_RX1_15 (by decide) fg_3_1 dX1_reached_9 ?_
    refine n_icmp_ge F 85 dX1_reached_12 (by decide) (fun h1 => ?_) (fun h1 => ?_)
    · rw [if_pos h1]
      exact n_sub [5] rfl (h85 _)
    rw [if_neg h1]
    refine n_aload_n F dX1_reached_15 rfl 0 rfl ?_
    refine n_iload F dX1_reached_16 6 rfl ?_
    refine n_iconst F (4 : Int32) dX1_reached_18 (by decide) ?_
    refine n_bind (fun q2 hq2 => ?_)
    refine n_callVi F cb_X1_part lm_RX1_54 ob_3 ⟨_, _, rfl⟩ (ct_La_part (fx_ok F) (fx_sd F) w v6 (4 : Int32) hq2) rfl rfl (Nat.le_of_ble_eq_true rfl) ⟨Nat.le_of_ble_eq_true rfl, Nat.le_of_ble_eq_true rfl⟩ dX1_reached_19 ?_
    refine n_iload F dX1_reached_22 4 rfl ?_
    refine n_icmp_ne F 79 dX1_reached_24 (by decide) (fun h3 => ?_) (fun h3 => ?_)
    · rw [if_neg h3]
      refine n_iinc F (v6 + (1 : Int32)) (lv' := [(6, .int (v6 + (1 : Int32))), (0, .ref (gA (cg K) 3)), (1, .int v1), (2, .int v2), (3, .int v3), (4, .int v4), (5, .int v5)]) dX1_reached_79 6 rfl rfl (by decide) rfl ?_
      refine n_goto F 6 dX1_reached_82 (by decide) ?_
      exact n_sub [1, 2, 3, 4, 5, 6, 0] rfl (ih _ _ _ _ _ _)
    rw [if_pos h3]
    refine n_iload_n F dX1_reached_27 rfl 3 rfl ?_
    refine n_aload_n F dX1_reached_28 rfl 0 rfl ?_
    refine n_iload F dX1_reached_29 6 rfl ?_
    refine n_iconst F (5 : Int32) dX1_reached_31 (by decide) ?_
    refine n_bind (fun q4 hq4 => ?_)
    refine n_callVi F cb_X1_part lm_RX1_54 ob_3 ⟨_, _, rfl⟩ (ct_La_part (fx_ok F) (fx_sd F) w v6 (5 : Int32) hq4) rfl rfl (Nat.le_of_ble_eq_true rfl) ⟨Nat.le_of_ble_eq_true rfl, Nat.le_of_ble_eq_true rfl⟩ dX1_reached_32 ?_
    refine n_callSNi F cb_X7_hasBit lm_RX1_65 (ct_Nt_hasBit (fx_ok F) (fx_sd F) w v3 q4) rfl rfl (Nat.le_of_ble_eq_true rfl) ⟨Nat.le_of_ble_eq_true rfl, Nat.le_of_ble_eq_true rfl⟩ dX1_reached_35 ?_
    refine n_if_eq F 79 dX1_reached_38 (by decide) (fun h5 => ?_) (fun h5 => ?_)
    · rw [if_pos h5]
      refine n_iinc F (v6 + (1 : Int32)) (lv' := [(6, .int (v6 + (1 : Int32))), (0, .ref (gA (cg K) 3)), (1, .int v1), (2, .int v2), (3, .int v3), (4, .int v4), (5, .int v5)]) dX1_reached_79 6 rfl rfl (by decide) rfl ?_
      refine n_goto F 6 dX1_reached_82 (by decide) ?_
      exact n_sub [1, 2, 3, 4, 5, 6, 0] rfl (ih _ _ _ _ _ _)
    rw [if_neg h5]
    refine n_iload_n F dX1_reached_41 rfl 1 rfl ?_
    refine n_aload_n F dX1_reached_42 rfl 0 rfl ?_
    refine n_iload F dX1_reached_43 6 rfl ?_
    refine n_iconst F (0 : Int32) dX1_reached_45 (by decide) ?_
    refine n_bind (fun q6 hq6 => ?_)
    refine n_callVi F cb_X1_part lm_RX1_54 ob_3 ⟨_, _, rfl⟩ (ct_La_part (fx_ok F) (fx_sd F) w v6 (0 : Int32) hq6) rfl rfl (Nat.le_of_ble_eq_true rfl) ⟨Nat.le_of_ble_eq_true rfl, Nat.le_of_ble_eq_true rfl⟩ dX1_reached_46 ?_
    refine n_callSNi F cb_X7_hasBit lm_RX1_65 (ct_Nt_hasBit (fx_ok F) (fx_sd F) w v1 q6) rfl rfl (Nat.le_of_ble_eq_true rfl) ⟨Nat.le_of_ble_eq_true rfl, Nat.le_of_ble_eq_true rfl⟩ dX1_reached_49 ?_
    refine n_if_eq F 79 dX1_reached_52 (by decide) (fun h7 => ?_) (fun h7 => ?_)
    · rw [if_pos h7]
      refine n_iinc F (v6 + (1 : Int32)) (lv' := [(6, .int (v6 + (1 : Int32))), (0, .ref (gA (cg K) 3)), (1, .int v1), (2, .int v2), (3, .int v3), (4, .int v4), (5, .int v5)]) dX1_reached_79 6 rfl rfl (by decide) rfl ?_
      refine n_goto F 6 dX1_reached_82 (by decide) ?_
      exact n_sub [1, 2, 3, 4, 5, 6, 0] rfl (ih _ _ _ _ _ _)
    rw [if_neg h7]
    refine n_aload_n F dX1_reached_55 rfl 0 rfl ?_
    refine n_iload F dX1_reached_56 6 rfl ?_
    refine n_iload_n F dX1_reached_58 rfl 2 rfl ?_
    refine n_bind (fun q8 hq8 => ?_)
    refine n_callVi F cb_X1_runsOn lm_RX1_58 ob_3 ⟨_, _, rfl⟩ (ct_La_runsOn (fx_ok F) (fx_sd F) w v6 v2 hq8) rfl rfl (Nat.le_of_ble_eq_true rfl) ⟨Nat.le_of_ble_eq_true rfl, Nat.le_of_ble_eq_true rfl⟩ dX1_reached_59 ?_
    refine n_if_eq F 79 dX1_reached_62 (by decide) (fun h9 => ?_) (fun h9 => ?_)
    · rw [if_pos h9]
      refine n_iinc F (v6 + (1 : Int32)) (lv' := [(6, .int (v6 + (1 : Int32))), (0, .ref (gA (cg K) 3)), (1, .int v1), (2, .int v2), (3, .int v3), (4, .int v4), (5, .int v5)]) dX1_reached_79 6 rfl rfl (by decide) rfl ?_
      refine n_goto F 6 dX1_reached_82 (by decide) ?_
      exact n_sub [1, 2, 3, 4, 5, 6, 0] rfl (ih _ _ _ _ _ _)
    rw [if_neg h9]
    refine n_iload F dX1_reached_65 5 rfl ?_
    refine n_iconst F (1 : Int32) dX1_reached_67 (by decide) ?_
    refine n_aload_n F dX1_reached_68 rfl 0 rfl ?_
    refine n_iload F dX1_reached_69 6 rfl ?_
    refine n_iconst F (1 : Int32) dX1_reached_71 (by decide) ?_
    refine n_bind (fun q10 hq10 => ?_)
    refine n_callVi F cb_X1_part lm_RX1_54 ob_3 ⟨_, _, rfl⟩ (ct_La_part (fx_ok F) (fx_sd F) w v6 (1 : Int32) hq10) rfl rfl (Nat.le_of_ble_eq_true rfl) ⟨Nat.le_of_ble_eq_true rfl, Nat.le_of_ble_eq_true rfl⟩ dX1_reached_72 ?_
    refine n_ishl F dX1_reached_75 ?_
    refine n_ior F dX1_reached_76 ?_
    refine n_istore F (lv' := [(5, .int (v5 ||| ((1 : Int32) <<< (q10 &&& (31 : Int32))))), (0, .ref (gA (cg K) 3)), (1, .int v1), (2, .int v2), (3, .int v3), (4, .int v4), (6, .int v6)]) dX1_reached_77 (by decide) rfl ?_
    refine n_iinc F (v6 + (1 : Int32)) (lv' := [(6, .int (v6 + (1 : Int32))), (5, .int (v5 ||| ((1 : Int32) <<< (q10 &&& (31 : Int32))))), (0, .ref (gA (cg K) 3)), (1, .int v1), (2, .int v2), (3, .int v3), (4, .int v4)]) dX1_reached_79 6 rfl rfl (by decide) rfl ?_
    refine n_goto F 6 dX1_reached_82 (by decide) ?_
    exact n_sub [2, 3, 4, 5, 6, 1, 0] rfl (ih _ _ _ _ _ _)
def La_reached_B85 (w : Wd) (v5 : Int32) : Option Int32 := some v5
set_option maxRecDepth 100000 in
set_option maxHeartbeats 4000000 in
theorem La_reached_B85_ok {K : Ctx} (F : Fx K cX1_reached 7 RX1 (some .int) 2 46 true) (w : Wd) (v5 : Int32) : N K (rtP w) (La_reached_B85 w v5) w 85 [(5, .int v5)] [] := by
  rw [La_reached_B85]
  refine n_iload F dX1_reached_85 0 rfl ?_
  exact n_iret F rfl rfl dX1_reached_87
def La_reached (w : Wd) (a1 : Int32) (a2 : Int32) (a3 : Int32) (a4 : Int32) : Option Int32 := (La_reached_L6 w (La_reached_B85 w) FU a1 a2 a3 a4 (0 : Int32) (0 : Int32))
set_option maxRecDepth 100000 in
set_option maxHeartbeats 4000000 in
theorem ct_La_reached {l : Launch} {g : GG} {σ : Sd} (hg : OKg g) (hb : σ.1 = true) (w : Wd) (a1 : Int32) (a2 : Int32) (a3 : Int32) (a4 : Int32) {q : Int32} (hq : La_reached w a1 a2 a3 a4 = some q) : CT l g σ yX1_reached cX1_reached 7 (some .int) 2 46 [.ref (gA g 3), .int a1, .int a2, .int a3, .int a4] w (some (.int q)) w := by
  refine ct_of (rt := (rtP w)) (res := La_reached w a1 a2 a3 a4) (q := q) (own := RX1) (b := true) hg hb (by decide) rfl (Nat.le_of_ble_eq_true rfl) hq (fun K e1 e2 e3 F => ?_)
  subst e1 e2 e3
  rw [La_reached]
  show N K _ _ w 0 [(0, .ref (gA (cg K) 3)), (1, .int a1), (2, .int a2), (3, .int a3), (4, .int a4)] []
  refine n_iconst F (0 : Int32) dX1_reached_0 (by decide) ?_
  refine n_istore F (lv' := [(5, .int (0 : Int32)), (0, .ref (gA (cg K) 3)), (1, .int a1), (2, .int a2), (3, .int a3), (4, .int a4)]) dX1_reached_1 (by decide) rfl ?_
  refine n_iconst F (0 : Int32) dX1_reached_3 (by decide) ?_
  refine n_istore F (lv' := [(6, .int (0 : Int32)), (5, .int (0 : Int32)), (0, .ref (gA (cg K) 3)), (1, .int a1), (2, .int a2), (3, .int a3), (4, .int a4)]) dX1_reached_4 (by decide) rfl ?_
  exact n_sub [2, 3, 4, 5, 6, 1, 0] rfl (La_reached_L6_ok F w (La_reached_B85_ok F w) FU _ _ _ _ _ _)
theorem dX1_stuck_0 : decode cX1_stuck 0 = .ok (.iload_n 1, 1) := by decide +kernel
theorem dX1_stuck_1 : decode cX1_stuck 1 = .ok (.istore 4, 2) := by decide +kernel
theorem dX1_stuck_3 : decode cX1_stuck 3 = .ok (.iconst 0, 1) := by decide +kernel
theorem dX1_stuck_4 : decode cX1_stuck 4 = .ok (.istore 5, 2) := by decide +kernel
theorem dX1_stuck_6 : decode cX1_stuck 6 = .ok (.iload 5, 2) := by decide +kernel
theorem dX1_stuck_8 : decode cX1_stuck 8 = .ok (.aload_n 0, 1) := by decide +kernel
theorem dX1_stuck_9 : decode cX1_stuck 9 = .ok (.getfield 15, 3) := by decide +kernel
theorem dX1_stuck_12 : decode cX1_stuck 12 = .ok (.if_icmp .ge 49, 3) := by decide +kernel
theorem dX1_stuck_15 : decode cX1_stuck 15 = .ok (.aload_n 0, 1) := by decide +kernel
theorem dX1_stuck_16 : decode cX1_stuck 16 = .ok (.iload 5, 2) := by decide +kernel
theorem dX1_stuck_18 : decode cX1_stuck 18 = .ok (.iload_n 2, 1) := by decide +kernel
theorem dX1_stuck_19 : decode cX1_stuck 19 = .ok (.invokevirtual 58, 3) := by decide +kernel
theorem dX1_stuck_22 : decode cX1_stuck 22 = .ok (.ifCond .eq 33, 3) := by decide +kernel
theorem dX1_stuck_25 : decode cX1_stuck 25 = .ok (.iload_n 3, 1) := by decide +kernel
theorem dX1_stuck_26 : decode cX1_stuck 26 = .ok (.aload_n 0, 1) := by decide +kernel
theorem dX1_stuck_27 : decode cX1_stuck 27 = .ok (.iload 5, 2) := by decide +kernel
theorem dX1_stuck_29 : decode cX1_stuck 29 = .ok (.iconst 5, 1) := by decide +kernel
theorem dX1_stuck_30 : decode cX1_stuck 30 = .ok (.invokevirtual 54, 3) := by decide +kernel
theorem dX1_stuck_33 : decode cX1_stuck 33 = .ok (.invokestatic 65, 3) := by decide +kernel
theorem dX1_stuck_36 : decode cX1_stuck 36 = .ok (.ifCond .eq 19, 3) := by decide +kernel
theorem dX1_stuck_39 : decode cX1_stuck 39 = .ok (.iload 4, 2) := by decide +kernel
theorem dX1_stuck_41 : decode cX1_stuck 41 = .ok (.iconst 1, 1) := by decide +kernel
theorem dX1_stuck_42 : decode cX1_stuck 42 = .ok (.aload_n 0, 1) := by decide +kernel
theorem dX1_stuck_43 : decode cX1_stuck 43 = .ok (.iload 5, 2) := by decide +kernel
theorem dX1_stuck_45 : decode cX1_stuck 45 = .ok (.iconst 0, 1) := by decide +kernel
theorem dX1_stuck_46 : decode cX1_stuck 46 = .ok (.invokevirtual 54, 3) := by decide +kernel
theorem dX1_stuck_49 : decode cX1_stuck 49 = .ok (.ishl, 1) := by decide +kernel
theorem dX1_stuck_50 : decode cX1_stuck 50 = .ok (.iconst (-1), 1) := by decide +kernel
theorem dX1_stuck_51 : decode cX1_stuck 51 = .ok (.ixor, 1) := by decide +kernel
theorem dX1_stuck_52 : decode cX1_stuck 52 = .ok (.iand, 1) := by decide +kernel
theorem dX1_stuck_53 : decode cX1_stuck 53 = .ok (.istore 4, 2) := by decide +kernel
theorem dX1_stuck_55 : decode cX1_stuck 55 = .ok (.iinc 5 1, 3) := by decide +kernel
theorem dX1_stuck_58 : decode cX1_stuck 58 = .ok (.goto (-52), 3) := by decide +kernel
theorem dX1_stuck_61 : decode cX1_stuck 61 = .ok (.iload 4, 2) := by decide +kernel
theorem dX1_stuck_63 : decode cX1_stuck 63 = .ok (.ireturn, 1) := by decide +kernel
def La_stuck_L6 (w : Wd) (k61 : Int32 → Option Int32) : Nat → Int32 → Int32 → Int32 → Int32 → Option Int32
  | 0, _, _, _, _ => none
  | n + 1, v2, v3, v4, v5 => (if (w.1 3 1) ≤ v5 then (k61 v4) else (Option.bind (La_runsOn w v5 v2) (fun q2 => (if q2 = (0 : Int32) then (La_stuck_L6 w k61 n v2 v3 v4 (v5 + (1 : Int32))) else (Option.bind (La_part w v5 (5 : Int32)) (fun q4 => (if (Nt_hasBit w v3 q4) = (0 : Int32) then (La_stuck_L6 w k61 n v2 v3 v4 (v5 + (1 : Int32))) else (Option.bind (La_part w v5 (0 : Int32)) (fun q6 => (La_stuck_L6 w k61 n v2 v3 (v4 &&& (((1 : Int32) <<< (q6 &&& (31 : Int32))) ^^^ (-1 : Int32))) (v5 + (1 : Int32))))))))))))
set_option maxRecDepth 100000 in
set_option maxHeartbeats 4000000 in
theorem La_stuck_L6_ok {K : Ctx} (F : Fx K cX1_stuck 6 RX1 (some .int) 2 46 true) (w : Wd) {k61 : Int32 → Option Int32} (h61 : ∀ (v4 : Int32), N K (rtP w) (k61 v4) w 61 [(4, .int v4)] []) : ∀ (n : Nat) (v2 : Int32) (v3 : Int32) (v4 : Int32) (v5 : Int32), N K (rtP w) (La_stuck_L6 w k61 n v2 v3 v4 v5) w 6 [(0, .ref (gA (cg K) 3)), (2, .int v2), (3, .int v3), (4, .int v4), (5, .int v5)] [] := by
  intro n
  induction n with
  | zero => intro _ _ _ _; exact n_none
  | succ n ih =>
    intro v2 v3 v4 v5
    rw [La_stuck_L6]
    refine n_iload F dX1_stuck_6 4 rfl ?_
    refine n_aload_n F dX1_stuck_8 rfl 0 rfl ?_
    refine n_get F ck_1 lf_RX1_15 (by decide) fg_3_1 dX1_stuck_9 ?_
    refine n_icmp_ge F 61 dX1_stuck_12 (by decide) (fun h1 => ?_) (fun h1 => ?_)
    · rw [if_pos h1]
      exact n_sub [3] rfl (h61 _)
    rw [if_neg h1]
    refine n_aload_n F dX1_stuck_15 rfl 0 rfl ?_
    refine n_iload F dX1_stuck_16 4 rfl ?_
    refine n_iload_n F dX1_stuck_18 rfl 1 rfl ?_
    refine n_bind (fun q2 hq2 => ?_)
    refine n_callVi F cb_X1_runsOn lm_RX1_58 ob_3 ⟨_, _, rfl⟩ (ct_La_runsOn (fx_ok F) (fx_sd F) w v5 v2 hq2) rfl rfl (Nat.le_of_ble_eq_true rfl) ⟨Nat.le_of_ble_eq_true rfl, Nat.le_of_ble_eq_true rfl⟩ dX1_stuck_19 ?_
    refine n_if_eq F 55 dX1_stuck_22 (by decide) (fun h3 => ?_) (fun h3 => ?_)
    · rw [if_pos h3]
      refine n_iinc F (v5 + (1 : Int32)) (lv' := [(5, .int (v5 + (1 : Int32))), (0, .ref (gA (cg K) 3)), (2, .int v2), (3, .int v3), (4, .int v4)]) dX1_stuck_55 4 rfl rfl (by decide) rfl ?_
      refine n_goto F 6 dX1_stuck_58 (by decide) ?_
      exact n_sub [1, 2, 3, 4, 0] rfl (ih _ _ _ _)
    rw [if_neg h3]
    refine n_iload_n F dX1_stuck_25 rfl 2 rfl ?_
    refine n_aload_n F dX1_stuck_26 rfl 0 rfl ?_
    refine n_iload F dX1_stuck_27 4 rfl ?_
    refine n_iconst F (5 : Int32) dX1_stuck_29 (by decide) ?_
    refine n_bind (fun q4 hq4 => ?_)
    refine n_callVi F cb_X1_part lm_RX1_54 ob_3 ⟨_, _, rfl⟩ (ct_La_part (fx_ok F) (fx_sd F) w v5 (5 : Int32) hq4) rfl rfl (Nat.le_of_ble_eq_true rfl) ⟨Nat.le_of_ble_eq_true rfl, Nat.le_of_ble_eq_true rfl⟩ dX1_stuck_30 ?_
    refine n_callSNi F cb_X7_hasBit lm_RX1_65 (ct_Nt_hasBit (fx_ok F) (fx_sd F) w v3 q4) rfl rfl (Nat.le_of_ble_eq_true rfl) ⟨Nat.le_of_ble_eq_true rfl, Nat.le_of_ble_eq_true rfl⟩ dX1_stuck_33 ?_
    refine n_if_eq F 55 dX1_stuck_36 (by decide) (fun h5 => ?_) (fun h5 => ?_)
    · rw [if_pos h5]
      refine n_iinc F (v5 + (1 : Int32)) (lv' := [(5, .int (v5 + (1 : Int32))), (0, .ref (gA (cg K) 3)), (2, .int v2), (3, .int v3), (4, .int v4)]) dX1_stuck_55 4 rfl rfl (by decide) rfl ?_
      refine n_goto F 6 dX1_stuck_58 (by decide) ?_
      exact n_sub [1, 2, 3, 4, 0] rfl (ih _ _ _ _)
    rw [if_neg h5]
    refine n_iload F dX1_stuck_39 3 rfl ?_
    refine n_iconst F (1 : Int32) dX1_stuck_41 (by decide) ?_
    refine n_aload_n F dX1_stuck_42 rfl 0 rfl ?_
    refine n_iload F dX1_stuck_43 4 rfl ?_
    refine n_iconst F (0 : Int32) dX1_stuck_45 (by decide) ?_
    refine n_bind (fun q6 hq6 => ?_)
    refine n_callVi F cb_X1_part lm_RX1_54 ob_3 ⟨_, _, rfl⟩ (ct_La_part (fx_ok F) (fx_sd F) w v5 (0 : Int32) hq6) rfl rfl (Nat.le_of_ble_eq_true rfl) ⟨Nat.le_of_ble_eq_true rfl, Nat.le_of_ble_eq_true rfl⟩ dX1_stuck_46 ?_
    refine n_ishl F dX1_stuck_49 ?_
    refine n_iconst F (-1 : Int32) dX1_stuck_50 (by decide) ?_
    refine n_ixor F dX1_stuck_51 ?_
    refine n_iand F dX1_stuck_52 ?_
    refine n_istore F (lv' := [(4, .int (v4 &&& (((1 : Int32) <<< (q6 &&& (31 : Int32))) ^^^ (-1 : Int32)))), (0, .ref (gA (cg K) 3)), (2, .int v2), (3, .int v3), (5, .int v5)]) dX1_stuck_53 (by decide) rfl ?_
    refine n_iinc F (v5 + (1 : Int32)) (lv' := [(5, .int (v5 + (1 : Int32))), (4, .int (v4 &&& (((1 : Int32) <<< (q6 &&& (31 : Int32))) ^^^ (-1 : Int32)))), (0, .ref (gA (cg K) 3)), (2, .int v2), (3, .int v3)]) dX1_stuck_55 4 rfl rfl (by decide) rfl ?_
    refine n_goto F 6 dX1_stuck_58 (by decide) ?_
    exact n_sub [2, 3, 4, 1, 0] rfl (ih _ _ _ _)
def La_stuck_B61 (w : Wd) (v4 : Int32) : Option Int32 := some v4
set_option maxRecDepth 100000 in
set_option maxHeartbeats 4000000 in
theorem La_stuck_B61_ok {K : Ctx} (F : Fx K cX1_stuck 6 RX1 (some .int) 2 46 true) (w : Wd) (v4 : Int32) : N K (rtP w) (La_stuck_B61 w v4) w 61 [(4, .int v4)] [] := by
  rw [La_stuck_B61]
  refine n_iload F dX1_stuck_61 0 rfl ?_
  exact n_iret F rfl rfl dX1_stuck_63
def La_stuck (w : Wd) (a1 : Int32) (a2 : Int32) (a3 : Int32) : Option Int32 := (La_stuck_L6 w (La_stuck_B61 w) FU a2 a3 a1 (0 : Int32))
set_option maxRecDepth 100000 in
set_option maxHeartbeats 4000000 in
theorem ct_La_stuck {l : Launch} {g : GG} {σ : Sd} (hg : OKg g) (hb : σ.1 = true) (w : Wd) (a1 : Int32) (a2 : Int32) (a3 : Int32) {q : Int32} (hq : La_stuck w a1 a2 a3 = some q) : CT l g σ yX1_stuck cX1_stuck 6 (some .int) 2 46 [.ref (gA g 3), .int a1, .int a2, .int a3] w (some (.int q)) w := by
  refine ct_of (rt := (rtP w)) (res := La_stuck w a1 a2 a3) (q := q) (own := RX1) (b := true) hg hb (by decide) rfl (Nat.le_of_ble_eq_true rfl) hq (fun K e1 e2 e3 F => ?_)
  subst e1 e2 e3
  rw [La_stuck]
  show N K _ _ w 0 [(0, .ref (gA (cg K) 3)), (1, .int a1), (2, .int a2), (3, .int a3)] []
  refine n_iload_n F dX1_stuck_0 rfl 1 rfl ?_
  refine n_istore F (lv' := [(4, .int a1), (0, .ref (gA (cg K) 3)), (1, .int a1), (2, .int a2), (3, .int a3)]) dX1_stuck_1 (by decide) rfl ?_
  refine n_iconst F (0 : Int32) dX1_stuck_3 (by decide) ?_
  refine n_istore F (lv' := [(5, .int (0 : Int32)), (4, .int a1), (0, .ref (gA (cg K) 3)), (1, .int a1), (2, .int a2), (3, .int a3)]) dX1_stuck_4 (by decide) rfl ?_
  exact n_sub [2, 4, 5, 1, 0] rfl (La_stuck_L6_ok F w (La_stuck_B61_ok F w) FU _ _ _ _)
theorem dX5_nextBits_0 : decode cX5_nextBits 0 = .ok (.aload_n 0, 1) := by decide +kernel
theorem dX5_nextBits_1 : decode cX5_nextBits 1 = .ok (.invokevirtual 88, 3) := by decide +kernel
theorem dX5_nextBits_4 : decode cX5_nextBits 4 = .ok (.istore_n 1, 1) := by decide +kernel
theorem dX5_nextBits_5 : decode cX5_nextBits 5 = .ok (.aload_n 0, 1) := by decide +kernel
theorem dX5_nextBits_6 : decode cX5_nextBits 6 = .ok (.getfield 21, 3) := by decide +kernel
theorem dX5_nextBits_9 : decode cX5_nextBits 9 = .ok (.aload_n 0, 1) := by decide +kernel
theorem dX5_nextBits_10 : decode cX5_nextBits 10 = .ok (.getfield 62, 3) := by decide +kernel
theorem dX5_nextBits_13 : decode cX5_nextBits 13 = .ok (.aload_n 0, 1) := by decide +kernel
theorem dX5_nextBits_14 : decode cX5_nextBits 14 = .ok (.getfield 28, 3) := by decide +kernel
theorem dX5_nextBits_17 : decode cX5_nextBits 17 = .ok (.iload_n 1, 1) := by decide +kernel
theorem dX5_nextBits_18 : decode cX5_nextBits 18 = .ok (.iconst 1, 1) := by decide +kernel
theorem dX5_nextBits_19 : decode cX5_nextBits 19 = .ok (.invokevirtual 106, 3) := by decide +kernel
theorem dX5_nextBits_22 : decode cX5_nextBits 22 = .ok (.aload_n 0, 1) := by decide +kernel
theorem dX5_nextBits_23 : decode cX5_nextBits 23 = .ok (.getfield 21, 3) := by decide +kernel
theorem dX5_nextBits_26 : decode cX5_nextBits 26 = .ok (.aload_n 0, 1) := by decide +kernel
theorem dX5_nextBits_27 : decode cX5_nextBits 27 = .ok (.getfield 62, 3) := by decide +kernel
theorem dX5_nextBits_30 : decode cX5_nextBits 30 = .ok (.aload_n 0, 1) := by decide +kernel
theorem dX5_nextBits_31 : decode cX5_nextBits 31 = .ok (.getfield 28, 3) := by decide +kernel
theorem dX5_nextBits_34 : decode cX5_nextBits 34 = .ok (.iload_n 1, 1) := by decide +kernel
theorem dX5_nextBits_35 : decode cX5_nextBits 35 = .ok (.invokevirtual 110, 3) := by decide +kernel
theorem dX5_nextBits_38 : decode cX5_nextBits 38 = .ok (.ior, 1) := by decide +kernel
theorem dX5_nextBits_39 : decode cX5_nextBits 39 = .ok (.aload_n 0, 1) := by decide +kernel
theorem dX5_nextBits_40 : decode cX5_nextBits 40 = .ok (.getfield 65, 3) := by decide +kernel
theorem dX5_nextBits_43 : decode cX5_nextBits 43 = .ok (.ior, 1) := by decide +kernel
theorem dX5_nextBits_44 : decode cX5_nextBits 44 = .ok (.ireturn, 1) := by decide +kernel
def Sc_nextBits (w : Wd) : Option Int32 := (Option.bind (Sc_kindsLeft w) (fun q1 => (Option.bind (La_reached w (w.1 13 9) (w.1 13 1) q1 (1 : Int32)) (fun q2 => (Option.bind (La_stuck w (w.1 13 9) (w.1 13 1) q1) (fun q3 => some ((q2 ||| q3) ||| (w.1 13 10))))))))
set_option maxRecDepth 100000 in
set_option maxHeartbeats 4000000 in
theorem ct_Sc_nextBits {l : Launch} {g : GG} {σ : Sd} (hg : OKg g) (hb : σ.1 = true) (w : Wd) {q : Int32} (hq : Sc_nextBits w = some q) : CT l g σ yX5_nextBits cX5_nextBits 2 (some .int) 3 72 [.ref (gA g 13)] w (some (.int q)) w := by
  refine ct_of (rt := (rtP w)) (res := Sc_nextBits w) (q := q) (own := RX5) (b := true) hg hb (by decide) rfl (Nat.le_of_ble_eq_true rfl) hq (fun K e1 e2 e3 F => ?_)
  subst e1 e2 e3
  rw [Sc_nextBits]
  show N K _ _ w 0 [(0, .ref (gA (cg K) 13))] []
  refine n_aload_n F dX5_nextBits_0 rfl 0 rfl ?_
  refine n_bind (fun q1 hq1 => ?_)
  refine n_callVi F cb_X5_kindsLeft lm_RX5_88 ob_13 ⟨_, _, rfl⟩ (ct_Sc_kindsLeft (fx_ok F) (fx_sd F) w hq1) rfl rfl (Nat.le_of_ble_eq_true rfl) ⟨Nat.le_of_ble_eq_true rfl, Nat.le_of_ble_eq_true rfl⟩ dX5_nextBits_1 ?_
  refine n_istore_n F (lv' := [(1, .int q1), (0, .ref (gA (cg K) 13))]) dX5_nextBits_4 rfl (by decide) rfl ?_
  refine n_aload_n F dX5_nextBits_5 rfl 1 rfl ?_
  refine n_get F ck_5 lf_RX5_21 (by decide) fg_13_0 dX5_nextBits_6 ?_
  refine n_aload_n F dX5_nextBits_9 rfl 1 rfl ?_
  refine n_get F ck_5 lf_RX5_62 (by decide) fg_13_9 dX5_nextBits_10 ?_
  refine n_aload_n F dX5_nextBits_13 rfl 1 rfl ?_
  refine n_get F ck_5 lf_RX5_28 (by decide) fg_13_1 dX5_nextBits_14 ?_
  refine n_iload_n F dX5_nextBits_17 rfl 0 rfl ?_
  refine n_iconst F (1 : Int32) dX5_nextBits_18 (by decide) ?_
  refine n_bind (fun q2 hq2 => ?_)
  refine n_callVi F cb_X1_reached lm_RX5_106 ob_3 ⟨_, _, rfl⟩ (ct_La_reached (fx_ok F) (fx_sd F) w (w.1 13 9) (w.1 13 1) q1 (1 : Int32) hq2) rfl rfl (Nat.le_of_ble_eq_true rfl) ⟨Nat.le_of_ble_eq_true rfl, Nat.le_of_ble_eq_true rfl⟩ dX5_nextBits_19 ?_
  refine n_aload_n F dX5_nextBits_22 rfl 1 rfl ?_
  refine n_get F ck_5 lf_RX5_21 (by decide) fg_13_0 dX5_nextBits_23 ?_
  refine n_aload_n F dX5_nextBits_26 rfl 1 rfl ?_
  refine n_get F ck_5 lf_RX5_62 (by decide) fg_13_9 dX5_nextBits_27 ?_
  refine n_aload_n F dX5_nextBits_30 rfl 1 rfl ?_
  refine n_get F ck_5 lf_RX5_28 (by decide) fg_13_1 dX5_nextBits_31 ?_
  refine n_iload_n F dX5_nextBits_34 rfl 0 rfl ?_
  refine n_bind (fun q3 hq3 => ?_)
  refine n_callVi F cb_X1_stuck lm_RX5_110 ob_3 ⟨_, _, rfl⟩ (ct_La_stuck (fx_ok F) (fx_sd F) w (w.1 13 9) (w.1 13 1) q1 hq3) rfl rfl (Nat.le_of_ble_eq_true rfl) ⟨Nat.le_of_ble_eq_true rfl, Nat.le_of_ble_eq_true rfl⟩ dX5_nextBits_35 ?_
  refine n_ior F dX5_nextBits_38 ?_
  refine n_aload_n F dX5_nextBits_39 rfl 1 rfl ?_
  refine n_get F ck_5 lf_RX5_65 (by decide) fg_13_10 dX5_nextBits_40 ?_
  refine n_ior F dX5_nextBits_43 ?_
  exact n_iret F rfl rfl dX5_nextBits_44
theorem dX0_choices_0 : decode cX0_choices 0 = .ok (.iload_n 1, 1) := by decide +kernel
theorem dX0_choices_1 : decode cX0_choices 1 = .ok (.iconst (-1), 1) := by decide +kernel
theorem dX0_choices_2 : decode cX0_choices 2 = .ok (.if_icmp .ne 7, 3) := by decide +kernel
theorem dX0_choices_5 : decode cX0_choices 5 = .ok (.sipush 128, 3) := by decide +kernel
theorem dX0_choices_8 : decode cX0_choices 8 = .ok (.ireturn, 1) := by decide +kernel
theorem dX0_choices_9 : decode cX0_choices 9 = .ok (.iconst 1, 1) := by decide +kernel
theorem dX0_choices_10 : decode cX0_choices 10 = .ok (.iload_n 1, 1) := by decide +kernel
theorem dX0_choices_11 : decode cX0_choices 11 = .ok (.ishl, 1) := by decide +kernel
theorem dX0_choices_12 : decode cX0_choices 12 = .ok (.istore_n 2, 1) := by decide +kernel
theorem dX0_choices_13 : decode cX0_choices 13 = .ok (.iload_n 2, 1) := by decide +kernel
theorem dX0_choices_14 : decode cX0_choices 14 = .ok (.aload_n 0, 1) := by decide +kernel
theorem dX0_choices_15 : decode cX0_choices 15 = .ok (.getfield 9, 3) := by decide +kernel
theorem dX0_choices_18 : decode cX0_choices 18 = .ok (.iload_n 2, 1) := by decide +kernel
theorem dX0_choices_19 : decode cX0_choices 19 = .ok (.aload_n 0, 1) := by decide +kernel
theorem dX0_choices_20 : decode cX0_choices 20 = .ok (.getfield 15, 3) := by decide +kernel
theorem dX0_choices_23 : decode cX0_choices 23 = .ok (.getfield 52, 3) := by decide +kernel
theorem dX0_choices_26 : decode cX0_choices 26 = .ok (.bipush 7, 2) := by decide +kernel
theorem dX0_choices_28 : decode cX0_choices 28 = .ok (.iconst 1, 1) := by decide +kernel
theorem dX0_choices_29 : decode cX0_choices 29 = .ok (.invokevirtual 55, 3) := by decide +kernel
theorem dX0_choices_32 : decode cX0_choices 32 = .ok (.ior, 1) := by decide +kernel
theorem dX0_choices_33 : decode cX0_choices 33 = .ok (.ireturn, 1) := by decide +kernel
def Fs_choices (w : Wd) (a1 : Int32) : Option Int32 := (if a1 = (-1 : Int32) then some (128 : Int32) else (Option.bind (La_reached w ((1 : Int32) <<< (a1 &&& (31 : Int32))) (w.1 13 1) (7 : Int32) (1 : Int32)) (fun q2 => some (((1 : Int32) <<< (a1 &&& (31 : Int32))) ||| q2))))
set_option maxRecDepth 100000 in
set_option maxHeartbeats 4000000 in
theorem ct_Fs_choices {l : Launch} {g : GG} {σ : Sd} (hg : OKg g) (hb : σ.1 = true) (w : Wd) (a1 : Int32) {q : Int32} (hq : Fs_choices w a1 = some q) : CT l g σ yX0_choices cX0_choices 3 (some .int) 3 72 [.ref (gA g 25), .int a1] w (some (.int q)) w := by
  refine ct_of (rt := (rtP w)) (res := Fs_choices w a1) (q := q) (own := RX0) (b := true) hg hb (by decide) rfl (Nat.le_of_ble_eq_true rfl) hq (fun K e1 e2 e3 F => ?_)
  subst e1 e2 e3
  rw [Fs_choices]
  show N K _ _ w 0 [(0, .ref (gA (cg K) 25)), (1, .int a1)] []
  refine n_iload_n F dX0_choices_0 rfl 1 rfl ?_
  refine n_iconst F (-1 : Int32) dX0_choices_1 (by decide) ?_
  refine n_icmp_ne F 9 dX0_choices_2 (by decide) (fun h1 => ?_) (fun h1 => ?_)
  · rw [if_neg h1]
    refine n_iconst F (1 : Int32) dX0_choices_9 (by decide) ?_
    refine n_iload_n F dX0_choices_10 rfl 1 rfl ?_
    refine n_ishl F dX0_choices_11 ?_
    refine n_istore_n F (lv' := [(2, .int ((1 : Int32) <<< (a1 &&& (31 : Int32)))), (0, .ref (gA (cg K) 25)), (1, .int a1)]) dX0_choices_12 rfl (by decide) rfl ?_
    refine n_iload_n F dX0_choices_13 rfl 0 rfl ?_
    refine n_aload_n F dX0_choices_14 rfl 1 rfl ?_
    refine n_get F ck_0 lf_RX0_9 (by decide) fg_25_0 dX0_choices_15 ?_
    refine n_iload_n F dX0_choices_18 rfl 0 rfl ?_
    refine n_aload_n F dX0_choices_19 rfl 1 rfl ?_
    refine n_get F ck_0 lf_RX0_15 (by decide) fg_25_1 dX0_choices_20 ?_
    refine n_get F ck_5 lf_RX0_52 (by decide) fg_13_1 dX0_choices_23 ?_
    refine n_bipush F (7 : Int32) dX0_choices_26 (by decide) ?_
    refine n_iconst F (1 : Int32) dX0_choices_28 (by decide) ?_
    refine n_bind (fun q2 hq2 => ?_)
    refine n_callVi F cb_X1_reached lm_RX0_55 ob_3 ⟨_, _, rfl⟩ (ct_La_reached (fx_ok F) (fx_sd F) w ((1 : Int32) <<< (a1 &&& (31 : Int32))) (w.1 13 1) (7 : Int32) (1 : Int32) hq2) rfl rfl (Nat.le_of_ble_eq_true rfl) ⟨Nat.le_of_ble_eq_true rfl, Nat.le_of_ble_eq_true rfl⟩ dX0_choices_29 ?_
    refine n_ior F dX0_choices_32 ?_
    exact n_iret F rfl rfl dX0_choices_33
  rw [if_pos h1]
  refine n_sipush F (128 : Int32) dX0_choices_5 (by decide) ?_
  exact n_iret F rfl rfl dX0_choices_8
theorem dJ6_bitCount_0f7a4_0 : decode cJ6_bitCount_0f7a4 0 = .ok (.iload_n 0, 1) := by decide +kernel
theorem dJ6_bitCount_0f7a4_1 : decode cJ6_bitCount_0f7a4 1 = .ok (.iload_n 0, 1) := by decide +kernel
theorem dJ6_bitCount_0f7a4_2 : decode cJ6_bitCount_0f7a4 2 = .ok (.iconst 1, 1) := by decide +kernel
theorem dJ6_bitCount_0f7a4_3 : decode cJ6_bitCount_0f7a4 3 = .ok (.iushr, 1) := by decide +kernel
theorem dJ6_bitCount_0f7a4_4 : decode cJ6_bitCount_0f7a4 4 = .ok (.ldc_w 265, 3) := by decide +kernel
theorem dJ6_bitCount_0f7a4_7 : decode cJ6_bitCount_0f7a4 7 = .ok (.iand, 1) := by decide +kernel
theorem dJ6_bitCount_0f7a4_8 : decode cJ6_bitCount_0f7a4 8 = .ok (.isub, 1) := by decide +kernel
theorem dJ6_bitCount_0f7a4_9 : decode cJ6_bitCount_0f7a4 9 = .ok (.istore_n 0, 1) := by decide +kernel
theorem dJ6_bitCount_0f7a4_10 : decode cJ6_bitCount_0f7a4 10 = .ok (.iload_n 0, 1) := by decide +kernel
theorem dJ6_bitCount_0f7a4_11 : decode cJ6_bitCount_0f7a4 11 = .ok (.ldc_w 266, 3) := by decide +kernel
theorem dJ6_bitCount_0f7a4_14 : decode cJ6_bitCount_0f7a4 14 = .ok (.iand, 1) := by decide +kernel
theorem dJ6_bitCount_0f7a4_15 : decode cJ6_bitCount_0f7a4 15 = .ok (.iload_n 0, 1) := by decide +kernel
theorem dJ6_bitCount_0f7a4_16 : decode cJ6_bitCount_0f7a4 16 = .ok (.iconst 2, 1) := by decide +kernel
theorem dJ6_bitCount_0f7a4_17 : decode cJ6_bitCount_0f7a4 17 = .ok (.iushr, 1) := by decide +kernel
theorem dJ6_bitCount_0f7a4_18 : decode cJ6_bitCount_0f7a4 18 = .ok (.ldc_w 266, 3) := by decide +kernel
theorem dJ6_bitCount_0f7a4_21 : decode cJ6_bitCount_0f7a4 21 = .ok (.iand, 1) := by decide +kernel
theorem dJ6_bitCount_0f7a4_22 : decode cJ6_bitCount_0f7a4 22 = .ok (.iadd, 1) := by decide +kernel
theorem dJ6_bitCount_0f7a4_23 : decode cJ6_bitCount_0f7a4 23 = .ok (.istore_n 0, 1) := by decide +kernel
theorem dJ6_bitCount_0f7a4_24 : decode cJ6_bitCount_0f7a4 24 = .ok (.iload_n 0, 1) := by decide +kernel
theorem dJ6_bitCount_0f7a4_25 : decode cJ6_bitCount_0f7a4 25 = .ok (.iload_n 0, 1) := by decide +kernel
theorem dJ6_bitCount_0f7a4_26 : decode cJ6_bitCount_0f7a4 26 = .ok (.iconst 4, 1) := by decide +kernel
theorem dJ6_bitCount_0f7a4_27 : decode cJ6_bitCount_0f7a4 27 = .ok (.iushr, 1) := by decide +kernel
theorem dJ6_bitCount_0f7a4_28 : decode cJ6_bitCount_0f7a4 28 = .ok (.iadd, 1) := by decide +kernel
theorem dJ6_bitCount_0f7a4_29 : decode cJ6_bitCount_0f7a4 29 = .ok (.ldc_w 267, 3) := by decide +kernel
theorem dJ6_bitCount_0f7a4_32 : decode cJ6_bitCount_0f7a4 32 = .ok (.iand, 1) := by decide +kernel
theorem dJ6_bitCount_0f7a4_33 : decode cJ6_bitCount_0f7a4 33 = .ok (.istore_n 0, 1) := by decide +kernel
theorem dJ6_bitCount_0f7a4_34 : decode cJ6_bitCount_0f7a4 34 = .ok (.iload_n 0, 1) := by decide +kernel
theorem dJ6_bitCount_0f7a4_35 : decode cJ6_bitCount_0f7a4 35 = .ok (.iload_n 0, 1) := by decide +kernel
theorem dJ6_bitCount_0f7a4_36 : decode cJ6_bitCount_0f7a4 36 = .ok (.bipush 8, 2) := by decide +kernel
theorem dJ6_bitCount_0f7a4_38 : decode cJ6_bitCount_0f7a4 38 = .ok (.iushr, 1) := by decide +kernel
theorem dJ6_bitCount_0f7a4_39 : decode cJ6_bitCount_0f7a4 39 = .ok (.iadd, 1) := by decide +kernel
theorem dJ6_bitCount_0f7a4_40 : decode cJ6_bitCount_0f7a4 40 = .ok (.istore_n 0, 1) := by decide +kernel
theorem dJ6_bitCount_0f7a4_41 : decode cJ6_bitCount_0f7a4 41 = .ok (.iload_n 0, 1) := by decide +kernel
theorem dJ6_bitCount_0f7a4_42 : decode cJ6_bitCount_0f7a4 42 = .ok (.iload_n 0, 1) := by decide +kernel
theorem dJ6_bitCount_0f7a4_43 : decode cJ6_bitCount_0f7a4 43 = .ok (.bipush 16, 2) := by decide +kernel
theorem dJ6_bitCount_0f7a4_45 : decode cJ6_bitCount_0f7a4 45 = .ok (.iushr, 1) := by decide +kernel
theorem dJ6_bitCount_0f7a4_46 : decode cJ6_bitCount_0f7a4 46 = .ok (.iadd, 1) := by decide +kernel
theorem dJ6_bitCount_0f7a4_47 : decode cJ6_bitCount_0f7a4 47 = .ok (.istore_n 0, 1) := by decide +kernel
theorem dJ6_bitCount_0f7a4_48 : decode cJ6_bitCount_0f7a4 48 = .ok (.iload_n 0, 1) := by decide +kernel
theorem dJ6_bitCount_0f7a4_49 : decode cJ6_bitCount_0f7a4 49 = .ok (.bipush 63, 2) := by decide +kernel
theorem dJ6_bitCount_0f7a4_51 : decode cJ6_bitCount_0f7a4 51 = .ok (.iand, 1) := by decide +kernel
theorem dJ6_bitCount_0f7a4_52 : decode cJ6_bitCount_0f7a4 52 = .ok (.ireturn, 1) := by decide +kernel
def Jd_bitCount (w : Wd) (a1 : Int32) : Int32 := ((((((((a1 - ((UInt32.toInt32 (Int32.toUInt32 a1 >>> (Int32.toUInt32 (1 : Int32) &&& Int32.toUInt32 (31 : Int32)))) &&& (1431655765 : Int32))) &&& (858993459 : Int32)) + ((UInt32.toInt32 (Int32.toUInt32 (a1 - ((UInt32.toInt32 (Int32.toUInt32 a1 >>> (Int32.toUInt32 (1 : Int32) &&& Int32.toUInt32 (31 : Int32)))) &&& (1431655765 : Int32))) >>> (Int32.toUInt32 (2 : Int32) &&& Int32.toUInt32 (31 : Int32)))) &&& (858993459 : Int32))) + (UInt32.toInt32 (Int32.toUInt32 (((a1 - ((UInt32.toInt32 (Int32.toUInt32 a1 >>> (Int32.toUInt32 (1 : Int32) &&& Int32.toUInt32 (31 : Int32)))) &&& (1431655765 : Int32))) &&& (858993459 : Int32)) + ((UInt32.toInt32 (Int32.toUInt32 (a1 - ((UInt32.toInt32 (Int32.toUInt32 a1 >>> (Int32.toUInt32 (1 : Int32) &&& Int32.toUInt32 (31 : Int32)))) &&& (1431655765 : Int32))) >>> (Int32.toUInt32 (2 : Int32) &&& Int32.toUInt32 (31 : Int32)))) &&& (858993459 : Int32))) >>> (Int32.toUInt32 (4 : Int32) &&& Int32.toUInt32 (31 : Int32))))) &&& (252645135 : Int32)) + (UInt32.toInt32 (Int32.toUInt32 (((((a1 - ((UInt32.toInt32 (Int32.toUInt32 a1 >>> (Int32.toUInt32 (1 : Int32) &&& Int32.toUInt32 (31 : Int32)))) &&& (1431655765 : Int32))) &&& (858993459 : Int32)) + ((UInt32.toInt32 (Int32.toUInt32 (a1 - ((UInt32.toInt32 (Int32.toUInt32 a1 >>> (Int32.toUInt32 (1 : Int32) &&& Int32.toUInt32 (31 : Int32)))) &&& (1431655765 : Int32))) >>> (Int32.toUInt32 (2 : Int32) &&& Int32.toUInt32 (31 : Int32)))) &&& (858993459 : Int32))) + (UInt32.toInt32 (Int32.toUInt32 (((a1 - ((UInt32.toInt32 (Int32.toUInt32 a1 >>> (Int32.toUInt32 (1 : Int32) &&& Int32.toUInt32 (31 : Int32)))) &&& (1431655765 : Int32))) &&& (858993459 : Int32)) + ((UInt32.toInt32 (Int32.toUInt32 (a1 - ((UInt32.toInt32 (Int32.toUInt32 a1 >>> (Int32.toUInt32 (1 : Int32) &&& Int32.toUInt32 (31 : Int32)))) &&& (1431655765 : Int32))) >>> (Int32.toUInt32 (2 : Int32) &&& Int32.toUInt32 (31 : Int32)))) &&& (858993459 : Int32))) >>> (Int32.toUInt32 (4 : Int32) &&& Int32.toUInt32 (31 : Int32))))) &&& (252645135 : Int32)) >>> (Int32.toUInt32 (8 : Int32) &&& Int32.toUInt32 (31 : Int32))))) + (UInt32.toInt32 (Int32.toUInt32 ((((((a1 - ((UInt32.toInt32 (Int32.toUInt32 a1 >>> (Int32.toUInt32 (1 : Int32) &&& Int32.toUInt32 (31 : Int32)))) &&& (1431655765 : Int32))) &&& (858993459 : Int32)) + ((UInt32.toInt32 (Int32.toUInt32 (a1 - ((UInt32.toInt32 (Int32.toUInt32 a1 >>> (Int32.toUInt32 (1 : Int32) &&& Int32.toUInt32 (31 : Int32)))) &&& (1431655765 : Int32))) >>> (Int32.toUInt32 (2 : Int32) &&& Int32.toUInt32 (31 : Int32)))) &&& (858993459 : Int32))) + (UInt32.toInt32 (Int32.toUInt32 (((a1 - ((UInt32.toInt32 (Int32.toUInt32 a1 >>> (Int32.toUInt32 (1 : Int32) &&& Int32.toUInt32 (31 : Int32)))) &&& (1431655765 : Int32))) &&& (858993459 : Int32)) + ((UInt32.toInt32 (Int32.toUInt32 (a1 - ((UInt32.toInt32 (Int32.toUInt32 a1 >>> (Int32.toUInt32 (1 : Int32) &&& Int32.toUInt32 (31 : Int32)))) &&& (1431655765 : Int32))) >>> (Int32.toUInt32 (2 : Int32) &&& Int32.toUInt32 (31 : Int32)))) &&& (858993459 : Int32))) >>> (Int32.toUInt32 (4 : Int32) &&& Int32.toUInt32 (31 : Int32))))) &&& (252645135 : Int32)) + (UInt32.toInt32 (Int32.toUInt32 (((((a1 - ((UInt32.toInt32 (Int32.toUInt32 a1 >>> (Int32.toUInt32 (1 : Int32) &&& Int32.toUInt32 (31 : Int32)))) &&& (1431655765 : Int32))) &&& (858993459 : Int32)) + ((UInt32.toInt32 (Int32.toUInt32 (a1 - ((UInt32.toInt32 (Int32.toUInt32 a1 >>> (Int32.toUInt32 (1 : Int32) &&& Int32.toUInt32 (31 : Int32)))) &&& (1431655765 : Int32))) >>> (Int32.toUInt32 (2 : Int32) &&& Int32.toUInt32 (31 : Int32)))) &&& (858993459 : Int32))) + (UInt32.toInt32 (Int32.toUInt32 (((a1 - ((UInt32.toInt32 (Int32.toUInt32 a1 >>> (Int32.toUInt32 (1 : Int32) &&& Int32.toUInt32 (31 : Int32)))) &&& (1431655765 : Int32))) &&& (858993459 : Int32)) + ((UInt32.toInt32 (Int32.toUInt32 (a1 - ((UInt32.toInt32 (Int32.toUInt32 a1 >>> (Int32.toUInt32 (1 : Int32) &&& Int32.toUInt32 (31 : Int32)))) &&& (1431655765 : Int32))) >>> (Int32.toUInt32 (2 : Int32) &&& Int32.toUInt32 (31 : Int32)))) &&& (858993459 : Int32))) >>> (Int32.toUInt32 (4 : Int32) &&& Int32.toUInt32 (31 : Int32))))) &&& (252645135 : Int32)) >>> (Int32.toUInt32 (8 : Int32) &&& Int32.toUInt32 (31 : Int32))))) >>> (Int32.toUInt32 (16 : Int32) &&& Int32.toUInt32 (31 : Int32))))) &&& (63 : Int32))
set_option maxRecDepth 100000 in
set_option maxHeartbeats 4000000 in
theorem ct_Jd_bitCount {l : Launch} {g : GG} {σ : Sd} (hg : OKg g) (hb : σ.1 = true) (w : Wd) (a1 : Int32) : CT l g σ yJ6_bitCount_0f7a4 cJ6_bitCount_0f7a4 1 (some .int) 0 0 [.int a1] w (some (.int (Jd_bitCount w a1))) w := by
  refine ct_of (rt := (rtP w)) (res := some (Jd_bitCount w a1)) (q := (Jd_bitCount w a1)) (own := RJ6) (b := true) hg hb (by decide) rfl (Nat.le_of_ble_eq_true rfl) rfl (fun K e1 e2 e3 F => ?_)
  subst e1 e2 e3
  rw [Jd_bitCount]
  show N K _ _ w 0 [(0, .int a1)] []
  refine n_iload_n F dJ6_bitCount_0f7a4_0 rfl 0 rfl ?_
  refine n_iload_n F dJ6_bitCount_0f7a4_1 rfl 0 rfl ?_
  refine n_iconst F (1 : Int32) dJ6_bitCount_0f7a4_2 (by decide) ?_
  refine n_iushr F dJ6_bitCount_0f7a4_3 ?_
  refine n_ldcw F (1431655765 : Int32) dJ6_bitCount_0f7a4_4 kc_RJ6_265 ?_
  refine n_iand F dJ6_bitCount_0f7a4_7 ?_
  refine n_isub F dJ6_bitCount_0f7a4_8 ?_
  refine n_istore_n F (lv' := [(0, .int (a1 - ((UInt32.toInt32 (Int32.toUInt32 a1 >>> (Int32.toUInt32 (1 : Int32) &&& Int32.toUInt32 (31 : Int32)))) &&& (1431655765 : Int32))))]) dJ6_bitCount_0f7a4_9 rfl (by decide) rfl ?_
  refine n_iload_n F dJ6_bitCount_0f7a4_10 rfl 0 rfl ?_
  refine n_ldcw F (858993459 : Int32) dJ6_bitCount_0f7a4_11 kc_RJ6_266 ?_
  refine n_iand F dJ6_bitCount_0f7a4_14 ?_
  refine n_iload_n F dJ6_bitCount_0f7a4_15 rfl 0 rfl ?_
  refine n_iconst F (2 : Int32) dJ6_bitCount_0f7a4_16 (by decide) ?_
  refine n_iushr F dJ6_bitCount_0f7a4_17 ?_
  refine n_ldcw F (858993459 : Int32) dJ6_bitCount_0f7a4_18 kc_RJ6_266 ?_
  refine n_iand F dJ6_bitCount_0f7a4_21 ?_
  refine n_iadd F dJ6_bitCount_0f7a4_22 ?_
  refine n_istore_n F (lv' := [(0, .int (((a1 - ((UInt32.toInt32 (Int32.toUInt32 a1 >>> (Int32.toUInt32 (1 : Int32) &&& Int32.toUInt32 (31 : Int32)))) &&& (1431655765 : Int32))) &&& (858993459 : Int32)) + ((UInt32.toInt32 (Int32.toUInt32 (a1 - ((UInt32.toInt32 (Int32.toUInt32 a1 >>> (Int32.toUInt32 (1 : Int32) &&& Int32.toUInt32 (31 : Int32)))) &&& (1431655765 : Int32))) >>> (Int32.toUInt32 (2 : Int32) &&& Int32.toUInt32 (31 : Int32)))) &&& (858993459 : Int32))))]) dJ6_bitCount_0f7a4_23 rfl (by decide) rfl ?_
  refine n_iload_n F dJ6_bitCount_0f7a4_24 rfl 0 rfl ?_
  refine n_iload_n F dJ6_bitCount_0f7a4_25 rfl 0 rfl ?_
  refine n_iconst F (4 : Int32) dJ6_bitCount_0f7a4_26 (by decide) ?_
  refine n_iushr F dJ6_bitCount_0f7a4_27 ?_
  refine n_iadd F dJ6_bitCount_0f7a4_28 ?_
  refine n_ldcw F (252645135 : Int32) dJ6_bitCount_0f7a4_29 kc_RJ6_267 ?_
  refine n_iand F dJ6_bitCount_0f7a4_32 ?_
  refine n_istore_n F (lv' := [(0, .int (((((a1 - ((UInt32.toInt32 (Int32.toUInt32 a1 >>> (Int32.toUInt32 (1 : Int32) &&& Int32.toUInt32 (31 : Int32)))) &&& (1431655765 : Int32))) &&& (858993459 : Int32)) + ((UInt32.toInt32 (Int32.toUInt32 (a1 - ((UInt32.toInt32 (Int32.toUInt32 a1 >>> (Int32.toUInt32 (1 : Int32) &&& Int32.toUInt32 (31 : Int32)))) &&& (1431655765 : Int32))) >>> (Int32.toUInt32 (2 : Int32) &&& Int32.toUInt32 (31 : Int32)))) &&& (858993459 : Int32))) + (UInt32.toInt32 (Int32.toUInt32 (((a1 - ((UInt32.toInt32 (Int32.toUInt32 a1 >>> (Int32.toUInt32 (1 : Int32) &&& Int32.toUInt32 (31 : Int32)))) &&& (1431655765 : Int32))) &&& (858993459 : Int32)) + ((UInt32.toInt32 (Int32.toUInt32 (a1 - ((UInt32.toInt32 (Int32.toUInt32 a1 >>> (Int32.toUInt32 (1 : Int32) &&& Int32.toUInt32 (31 : Int32)))) &&& (1431655765 : Int32))) >>> (Int32.toUInt32 (2 : Int32) &&& Int32.toUInt32 (31 : Int32)))) &&& (858993459 : Int32))) >>> (Int32.toUInt32 (4 : Int32) &&& Int32.toUInt32 (31 : Int32))))) &&& (252645135 : Int32)))]) dJ6_bitCount_0f7a4_33 rfl (by decide) rfl ?_
  refine n_iload_n F dJ6_bitCount_0f7a4_34 rfl 0 rfl ?_
  refine n_iload_n F dJ6_bitCount_0f7a4_35 rfl 0 rfl ?_
  refine n_bipush F (8 : Int32) dJ6_bitCount_0f7a4_36 (by decide) ?_
  refine n_iushr F dJ6_bitCount_0f7a4_38 ?_
  refine n_iadd F dJ6_bitCount_0f7a4_39 ?_
  refine n_istore_n F (lv' := [(0, .int ((((((a1 - ((UInt32.toInt32 (Int32.toUInt32 a1 >>> (Int32.toUInt32 (1 : Int32) &&& Int32.toUInt32 (31 : Int32)))) &&& (1431655765 : Int32))) &&& (858993459 : Int32)) + ((UInt32.toInt32 (Int32.toUInt32 (a1 - ((UInt32.toInt32 (Int32.toUInt32 a1 >>> (Int32.toUInt32 (1 : Int32) &&& Int32.toUInt32 (31 : Int32)))) &&& (1431655765 : Int32))) >>> (Int32.toUInt32 (2 : Int32) &&& Int32.toUInt32 (31 : Int32)))) &&& (858993459 : Int32))) + (UInt32.toInt32 (Int32.toUInt32 (((a1 - ((UInt32.toInt32 (Int32.toUInt32 a1 >>> (Int32.toUInt32 (1 : Int32) &&& Int32.toUInt32 (31 : Int32)))) &&& (1431655765 : Int32))) &&& (858993459 : Int32)) + ((UInt32.toInt32 (Int32.toUInt32 (a1 - ((UInt32.toInt32 (Int32.toUInt32 a1 >>> (Int32.toUInt32 (1 : Int32) &&& Int32.toUInt32 (31 : Int32)))) &&& (1431655765 : Int32))) >>> (Int32.toUInt32 (2 : Int32) &&& Int32.toUInt32 (31 : Int32)))) &&& (858993459 : Int32))) >>> (Int32.toUInt32 (4 : Int32) &&& Int32.toUInt32 (31 : Int32))))) &&& (252645135 : Int32)) + (UInt32.toInt32 (Int32.toUInt32 (((((a1 - ((UInt32.toInt32 (Int32.toUInt32 a1 >>> (Int32.toUInt32 (1 : Int32) &&& Int32.toUInt32 (31 : Int32)))) &&& (1431655765 : Int32))) &&& (858993459 : Int32)) + ((UInt32.toInt32 (Int32.toUInt32 (a1 - ((UInt32.toInt32 (Int32.toUInt32 a1 >>> (Int32.toUInt32 (1 : Int32) &&& Int32.toUInt32 (31 : Int32)))) &&& (1431655765 : Int32))) >>> (Int32.toUInt32 (2 : Int32) &&& Int32.toUInt32 (31 : Int32)))) &&& (858993459 : Int32))) + (UInt32.toInt32 (Int32.toUInt32 (((a1 - ((UInt32.toInt32 (Int32.toUInt32 a1 >>> (Int32.toUInt32 (1 : Int32) &&& Int32.toUInt32 (31 : Int32)))) &&& (1431655765 : Int32))) &&& (858993459 : Int32)) + ((UInt32.toInt32 (Int32.toUInt32 (a1 - ((UInt32.toInt32 (Int32.toUInt32 a1 >>> (Int32.toUInt32 (1 : Int32) &&& Int32.toUInt32 (31 : Int32)))) &&& (1431655765 : Int32))) >>> (Int32.toUInt32 (2 : Int32) &&& Int32.toUInt32 (31 : Int32)))) &&& (858993459 : Int32))) >>> (Int32.toUInt32 (4 : Int32) &&& Int32.toUInt32 (31 : Int32))))) &&& (252645135 : Int32)) >>> (Int32.toUInt32 (8 : Int32) &&& Int32.toUInt32 (31 : Int32))))))]) dJ6_bitCount_0f7a4_40 rfl (by decide) rfl ?_
  refine n_iload_n F dJ6_bitCount_0f7a4_41 rfl 0 rfl ?_
  refine n_iload_n F dJ6_bitCount_0f7a4_42 rfl 0 rfl ?_
  refine n_bipush F (16 : Int32) dJ6_bitCount_0f7a4_43 (by decide) ?_
  refine n_iushr F dJ6_bitCount_0f7a4_45 ?_
  refine n_iadd F dJ6_bitCount_0f7a4_46 ?_
  refine n_istore_n F (lv' := [(0, .int (((((((a1 - ((UInt32.toInt32 (Int32.toUInt32 a1 >>> (Int32.toUInt32 (1 : Int32) &&& Int32.toUInt32 (31 : Int32)))) &&& (1431655765 : Int32))) &&& (858993459 : Int32)) + ((UInt32.toInt32 (Int32.toUInt32 (a1 - ((UInt32.toInt32 (Int32.toUInt32 a1 >>> (Int32.toUInt32 (1 : Int32) &&& Int32.toUInt32 (31 : Int32)))) &&& (1431655765 : Int32))) >>> (Int32.toUInt32 (2 : Int32) &&& Int32.toUInt32 (31 : Int32)))) &&& (858993459 : Int32))) + (UInt32.toInt32 (Int32.toUInt32 (((a1 - ((UInt32.toInt32 (Int32.toUInt32 a1 >>> (Int32.toUInt32 (1 : Int32) &&& Int32.toUInt32 (31 : Int32)))) &&& (1431655765 : Int32))) &&& (858993459 : Int32)) + ((UInt32.toInt32 (Int32.toUInt32 (a1 - ((UInt32.toInt32 (Int32.toUInt32 a1 >>> (Int32.toUInt32 (1 : Int32) &&& Int32.toUInt32 (31 : Int32)))) &&& (1431655765 : Int32))) >>> (Int32.toUInt32 (2 : Int32) &&& Int32.toUInt32 (31 : Int32)))) &&& (858993459 : Int32))) >>> (Int32.toUInt32 (4 : Int32) &&& Int32.toUInt32 (31 : Int32))))) &&& (252645135 : Int32)) + (UInt32.toInt32 (Int32.toUInt32 (((((a1 - ((UInt32.toInt32 (Int32.toUInt32 a1 >>> (Int32.toUInt32 (1 : Int32) &&& Int32.toUInt32 (31 : Int32)))) &&& (1431655765 : Int32))) &&& (858993459 : Int32)) + ((UInt32.toInt32 (Int32.toUInt32 (a1 - ((UInt32.toInt32 (Int32.toUInt32 a1 >>> (Int32.toUInt32 (1 : Int32) &&& Int32.toUInt32 (31 : Int32)))) &&& (1431655765 : Int32))) >>> (Int32.toUInt32 (2 : Int32) &&& Int32.toUInt32 (31 : Int32)))) &&& (858993459 : Int32))) + (UInt32.toInt32 (Int32.toUInt32 (((a1 - ((UInt32.toInt32 (Int32.toUInt32 a1 >>> (Int32.toUInt32 (1 : Int32) &&& Int32.toUInt32 (31 : Int32)))) &&& (1431655765 : Int32))) &&& (858993459 : Int32)) + ((UInt32.toInt32 (Int32.toUInt32 (a1 - ((UInt32.toInt32 (Int32.toUInt32 a1 >>> (Int32.toUInt32 (1 : Int32) &&& Int32.toUInt32 (31 : Int32)))) &&& (1431655765 : Int32))) >>> (Int32.toUInt32 (2 : Int32) &&& Int32.toUInt32 (31 : Int32)))) &&& (858993459 : Int32))) >>> (Int32.toUInt32 (4 : Int32) &&& Int32.toUInt32 (31 : Int32))))) &&& (252645135 : Int32)) >>> (Int32.toUInt32 (8 : Int32) &&& Int32.toUInt32 (31 : Int32))))) + (UInt32.toInt32 (Int32.toUInt32 ((((((a1 - ((UInt32.toInt32 (Int32.toUInt32 a1 >>> (Int32.toUInt32 (1 : Int32) &&& Int32.toUInt32 (31 : Int32)))) &&& (1431655765 : Int32))) &&& (858993459 : Int32)) + ((UInt32.toInt32 (Int32.toUInt32 (a1 - ((UInt32.toInt32 (Int32.toUInt32 a1 >>> (Int32.toUInt32 (1 : Int32) &&& Int32.toUInt32 (31 : Int32)))) &&& (1431655765 : Int32))) >>> (Int32.toUInt32 (2 : Int32) &&& Int32.toUInt32 (31 : Int32)))) &&& (858993459 : Int32))) + (UInt32.toInt32 (Int32.toUInt32 (((a1 - ((UInt32.toInt32 (Int32.toUInt32 a1 >>> (Int32.toUInt32 (1 : Int32) &&& Int32.toUInt32 (31 : Int32)))) &&& (1431655765 : Int32))) &&& (858993459 : Int32)) + ((UInt32.toInt32 (Int32.toUInt32 (a1 - ((UInt32.toInt32 (Int32.toUInt32 a1 >>> (Int32.toUInt32 (1 : Int32) &&& Int32.toUInt32 (31 : Int32)))) &&& (1431655765 : Int32))) >>> (Int32.toUInt32 (2 : Int32) &&& Int32.toUInt32 (31 : Int32)))) &&& (858993459 : Int32))) >>> (Int32.toUInt32 (4 : Int32) &&& Int32.toUInt32 (31 : Int32))))) &&& (252645135 : Int32)) + (UInt32.toInt32 (Int32.toUInt32 (((((a1 - ((UInt32.toInt32 (Int32.toUInt32 a1 >>> (Int32.toUInt32 (1 : Int32) &&& Int32.toUInt32 (31 : Int32)))) &&& (1431655765 : Int32))) &&& (858993459 : Int32)) + ((UInt32.toInt32 (Int32.toUInt32 (a1 - ((UInt32.toInt32 (Int32.toUInt32 a1 >>> (Int32.toUInt32 (1 : Int32) &&& Int32.toUInt32 (31 : Int32)))) &&& (1431655765 : Int32))) >>> (Int32.toUInt32 (2 : Int32) &&& Int32.toUInt32 (31 : Int32)))) &&& (858993459 : Int32))) + (UInt32.toInt32 (Int32.toUInt32 (((a1 - ((UInt32.toInt32 (Int32.toUInt32 a1 >>> (Int32.toUInt32 (1 : Int32) &&& Int32.toUInt32 (31 : Int32)))) &&& (1431655765 : Int32))) &&& (858993459 : Int32)) + ((UInt32.toInt32 (Int32.toUInt32 (a1 - ((UInt32.toInt32 (Int32.toUInt32 a1 >>> (Int32.toUInt32 (1 : Int32) &&& Int32.toUInt32 (31 : Int32)))) &&& (1431655765 : Int32))) >>> (Int32.toUInt32 (2 : Int32) &&& Int32.toUInt32 (31 : Int32)))) &&& (858993459 : Int32))) >>> (Int32.toUInt32 (4 : Int32) &&& Int32.toUInt32 (31 : Int32))))) &&& (252645135 : Int32)) >>> (Int32.toUInt32 (8 : Int32) &&& Int32.toUInt32 (31 : Int32))))) >>> (Int32.toUInt32 (16 : Int32) &&& Int32.toUInt32 (31 : Int32))))))]) dJ6_bitCount_0f7a4_47 rfl (by decide) rfl ?_
  refine n_iload_n F dJ6_bitCount_0f7a4_48 rfl 0 rfl ?_
  refine n_bipush F (63 : Int32) dJ6_bitCount_0f7a4_49 (by decide) ?_
  refine n_iand F dJ6_bitCount_0f7a4_51 ?_
  exact n_iret F rfl rfl dJ6_bitCount_0f7a4_52
theorem dX0_stand_0 : decode cX0_stand 0 = .ok (.aload_n 0, 1) := by decide +kernel
theorem dX0_stand_1 : decode cX0_stand 1 = .ok (.getfield 15, 3) := by decide +kernel
theorem dX0_stand_4 : decode cX0_stand 4 = .ok (.invokevirtual 19, 3) := by decide +kernel
theorem dX0_stand_7 : decode cX0_stand 7 = .ok (.istore_n 1, 1) := by decide +kernel
theorem dX0_stand_8 : decode cX0_stand 8 = .ok (.aload_n 0, 1) := by decide +kernel
theorem dX0_stand_9 : decode cX0_stand 9 = .ok (.aload_n 0, 1) := by decide +kernel
theorem dX0_stand_10 : decode cX0_stand 10 = .ok (.getfield 15, 3) := by decide +kernel
theorem dX0_stand_13 : decode cX0_stand 13 = .ok (.getfield 25, 3) := by decide +kernel
theorem dX0_stand_16 : decode cX0_stand 16 = .ok (.iconst 0, 1) := by decide +kernel
theorem dX0_stand_17 : decode cX0_stand 17 = .ok (.iaload, 1) := by decide +kernel
theorem dX0_stand_18 : decode cX0_stand 18 = .ok (.invokevirtual 29, 3) := by decide +kernel
theorem dX0_stand_21 : decode cX0_stand 21 = .ok (.istore_n 2, 1) := by decide +kernel
theorem dX0_stand_22 : decode cX0_stand 22 = .ok (.aload_n 0, 1) := by decide +kernel
theorem dX0_stand_23 : decode cX0_stand 23 = .ok (.aload_n 0, 1) := by decide +kernel
theorem dX0_stand_24 : decode cX0_stand 24 = .ok (.getfield 15, 3) := by decide +kernel
theorem dX0_stand_27 : decode cX0_stand 27 = .ok (.getfield 25, 3) := by decide +kernel
theorem dX0_stand_30 : decode cX0_stand 30 = .ok (.iconst 1, 1) := by decide +kernel
theorem dX0_stand_31 : decode cX0_stand 31 = .ok (.iaload, 1) := by decide +kernel
theorem dX0_stand_32 : decode cX0_stand 32 = .ok (.invokevirtual 29, 3) := by decide +kernel
theorem dX0_stand_35 : decode cX0_stand 35 = .ok (.istore_n 3, 1) := by decide +kernel
theorem dX0_stand_36 : decode cX0_stand 36 = .ok (.aload_n 0, 1) := by decide +kernel
theorem dX0_stand_37 : decode cX0_stand 37 = .ok (.iconst (-1), 1) := by decide +kernel
theorem dX0_stand_38 : decode cX0_stand 38 = .ok (.putfield 33, 3) := by decide +kernel
theorem dX0_stand_41 : decode cX0_stand 41 = .ok (.iconst 0, 1) := by decide +kernel
theorem dX0_stand_42 : decode cX0_stand 42 = .ok (.istore 4, 2) := by decide +kernel
theorem dX0_stand_44 : decode cX0_stand 44 = .ok (.iload 4, 2) := by decide +kernel
theorem dX0_stand_46 : decode cX0_stand 46 = .ok (.bipush 8, 2) := by decide +kernel
theorem dX0_stand_48 : decode cX0_stand 48 = .ok (.if_icmp .ge 86, 3) := by decide +kernel
theorem dX0_stand_51 : decode cX0_stand 51 = .ok (.iconst 0, 1) := by decide +kernel
theorem dX0_stand_52 : decode cX0_stand 52 = .ok (.istore 5, 2) := by decide +kernel
theorem dX0_stand_54 : decode cX0_stand 54 = .ok (.iload 5, 2) := by decide +kernel
theorem dX0_stand_56 : decode cX0_stand 56 = .ok (.bipush 8, 2) := by decide +kernel
theorem dX0_stand_58 : decode cX0_stand 58 = .ok (.if_icmp .ge 70, 3) := by decide +kernel
theorem dX0_stand_61 : decode cX0_stand 61 = .ok (.iload_n 1, 1) := by decide +kernel
theorem dX0_stand_62 : decode cX0_stand 62 = .ok (.iconst 1, 1) := by decide +kernel
theorem dX0_stand_63 : decode cX0_stand 63 = .ok (.iload 4, 2) := by decide +kernel
theorem dX0_stand_65 : decode cX0_stand 65 = .ok (.ishl, 1) := by decide +kernel
theorem dX0_stand_66 : decode cX0_stand 66 = .ok (.iconst 1, 1) := by decide +kernel
theorem dX0_stand_67 : decode cX0_stand 67 = .ok (.iload 5, 2) := by decide +kernel
theorem dX0_stand_69 : decode cX0_stand 69 = .ok (.ishl, 1) := by decide +kernel
theorem dX0_stand_70 : decode cX0_stand 70 = .ok (.ior, 1) := by decide +kernel
theorem dX0_stand_71 : decode cX0_stand 71 = .ok (.iand, 1) := by decide +kernel
theorem dX0_stand_72 : decode cX0_stand 72 = .ok (.invokestatic 37, 3) := by decide +kernel
theorem dX0_stand_75 : decode cX0_stand 75 = .ok (.istore 6, 2) := by decide +kernel
theorem dX0_stand_77 : decode cX0_stand 77 = .ok (.iload_n 2, 1) := by decide +kernel
theorem dX0_stand_78 : decode cX0_stand 78 = .ok (.iload 4, 2) := by decide +kernel
theorem dX0_stand_80 : decode cX0_stand 80 = .ok (.invokestatic 42, 3) := by decide +kernel
theorem dX0_stand_83 : decode cX0_stand 83 = .ok (.ifCond .eq 39, 3) := by decide +kernel
theorem dX0_stand_86 : decode cX0_stand 86 = .ok (.iload_n 3, 1) := by decide +kernel
theorem dX0_stand_87 : decode cX0_stand 87 = .ok (.iload 5, 2) := by decide +kernel
theorem dX0_stand_89 : decode cX0_stand 89 = .ok (.invokestatic 42, 3) := by decide +kernel
theorem dX0_stand_92 : decode cX0_stand 92 = .ok (.ifCond .eq 30, 3) := by decide +kernel
theorem dX0_stand_95 : decode cX0_stand 95 = .ok (.iload 6, 2) := by decide +kernel
theorem dX0_stand_97 : decode cX0_stand 97 = .ok (.aload_n 0, 1) := by decide +kernel
theorem dX0_stand_98 : decode cX0_stand 98 = .ok (.getfield 33, 3) := by decide +kernel
theorem dX0_stand_101 : decode cX0_stand 101 = .ok (.if_icmp .le 21, 3) := by decide +kernel
theorem dX0_stand_104 : decode cX0_stand 104 = .ok (.aload_n 0, 1) := by decide +kernel
theorem dX0_stand_105 : decode cX0_stand 105 = .ok (.iload 6, 2) := by decide +kernel
theorem dX0_stand_107 : decode cX0_stand 107 = .ok (.putfield 33, 3) := by decide +kernel
theorem dX0_stand_110 : decode cX0_stand 110 = .ok (.aload_n 0, 1) := by decide +kernel
theorem dX0_stand_111 : decode cX0_stand 111 = .ok (.iload 4, 2) := by decide +kernel
theorem dX0_stand_113 : decode cX0_stand 113 = .ok (.putfield 46, 3) := by decide +kernel
theorem dX0_stand_116 : decode cX0_stand 116 = .ok (.aload_n 0, 1) := by decide +kernel
theorem dX0_stand_117 : decode cX0_stand 117 = .ok (.iload 5, 2) := by decide +kernel
theorem dX0_stand_119 : decode cX0_stand 119 = .ok (.putfield 49, 3) := by decide +kernel
theorem dX0_stand_122 : decode cX0_stand 122 = .ok (.iinc 5 1, 3) := by decide +kernel
theorem dX0_stand_125 : decode cX0_stand 125 = .ok (.goto (-71), 3) := by decide +kernel
theorem dX0_stand_128 : decode cX0_stand 128 = .ok (.iinc 4 1, 3) := by decide +kernel
theorem dX0_stand_131 : decode cX0_stand 131 = .ok (.goto (-87), 3) := by decide +kernel
theorem dX0_stand_134 : decode cX0_stand 134 = .ok (.return_, 1) := by decide +kernel
def Fs_stand_L54 (k128 : Wd → Int32 → Int32 → Int32 → Int32 → Option Wd) : Nat → Wd → Int32 → Int32 → Int32 → Int32 → Int32 → Option Wd
  | 0, _, _, _, _, _, _ => none
  | n + 1, w, v1, v2, v3, v4, v5 => (if (8 : Int32) ≤ v5 then (k128 w v1 v2 v3 v4) else (Fs_stand_L54 k128 n (if (Nt_hasBit w v2 v4) = (0 : Int32) then w else (if (Nt_hasBit w v3 v5) = (0 : Int32) then w else (if (Jd_bitCount w (v1 &&& (((1 : Int32) <<< (v4 &&& (31 : Int32))) ||| ((1 : Int32) <<< (v5 &&& (31 : Int32)))))) ≤ (w.1 25 2) then w else (sI (sI (sI w 25 2 (Jd_bitCount w (v1 &&& (((1 : Int32) <<< (v4 &&& (31 : Int32))) ||| ((1 : Int32) <<< (v5 &&& (31 : Int32))))))) 25 3 v4) 25 4 v5)))) v1 v2 v3 v4 (v5 + (1 : Int32))))
set_option maxRecDepth 100000 in
set_option maxHeartbeats 4000000 in
theorem Fs_stand_L54_ok {K : Ctx} (F : Fx K cX0_stand 7 RX0 none 4 94 true) {k128 : Wd → Int32 → Int32 → Int32 → Int32 → Option Wd} (h128 : ∀ (w : Wd) (v1 : Int32) (v2 : Int32) (v3 : Int32) (v4 : Int32), N K rtV (k128 w v1 v2 v3 v4) w 128 [(0, .ref (gA (cg K) 25)), (1, .int v1), (2, .int v2), (3, .int v3), (4, .int v4)] []) : ∀ (n : Nat) (w : Wd) (v1 : Int32) (v2 : Int32) (v3 : Int32) (v4 : Int32) (v5 : Int32), N K rtV (Fs_stand_L54 k128 n w v1 v2 v3 v4 v5) w 54 [(0, .ref (gA (cg K) 25)), (1, .int v1), (2, .int v2), (3, .int v3), (4, .int v4), (5, .int v5)] [] := by
  intro n
  induction n with
  | zero => intro _ _ _ _ _ _; exact n_none
  | succ n ih =>
    intro w v1 v2 v3 v4 v5
    rw [Fs_stand_L54]
    refine n_iload F dX0_stand_54 5 rfl ?_
    refine n_bipush F (8 : Int32) dX0_stand_56 (by decide) ?_
    refine n_icmp_ge F 128 dX0_stand_58 (by decide) (fun h5 => ?_) (fun h5 => ?_)
    · rw [if_pos h5]
      exact n_sub [0, 1, 2, 3, 4] rfl (h128 _ _ _ _ _)
    rw [if_neg h5]
    refine n_iload_n F dX0_stand_61 rfl 1 rfl ?_
    refine n_iconst F (1 : Int32) dX0_stand_62 (by decide) ?_
    refine n_iload F dX0_stand_63 4 rfl ?_
    refine n_ishl F dX0_stand_65 ?_
    refine n_iconst F (1 : Int32) dX0_stand_66 (by decide) ?_
    refine n_iload F dX0_stand_67 5 rfl ?_
    refine n_ishl F dX0_stand_69 ?_
    refine n_ior F dX0_stand_70 ?_
    refine n_iand F dX0_stand_71 ?_
    refine n_callSi F cb_J6_bitCount_0f7a4 lm_RX0_37 (ct_Jd_bitCount (fx_ok F) (fx_sd F) w (v1 &&& (((1 : Int32) <<< (v4 &&& (31 : Int32))) ||| ((1 : Int32) <<< (v5 &&& (31 : Int32)))))) rfl rfl (Nat.le_of_ble_eq_true rfl) ⟨Nat.le_of_ble_eq_true rfl, Nat.le_of_ble_eq_true rfl⟩ dX0_stand_72 ?_
    refine n_istore F (lv' := [(6, .int (Jd_bitCount w (v1 &&& (((1 : Int32) <<< (v4 &&& (31 : Int32))) ||| ((1 : Int32) <<< (v5 &&& (31 : Int32))))))), (0, .ref (gA (cg K) 25)), (1, .int v1), (2, .int v2), (3, .int v3), (4, .int v4), (5, .int v5)]) dX0_stand_75 (by decide) rfl ?_
    refine n_iload_n F dX0_stand_77 rfl 3 rfl ?_
    refine n_iload F dX0_stand_78 5 rfl ?_
    refine n_callSNi F cb_X7_hasBit lm_RX0_42 (ct_Nt_hasBit (fx_ok F) (fx_sd F) w v2 v4) rfl rfl (Nat.le_of_ble_eq_true rfl) ⟨Nat.le_of_ble_eq_true rfl, Nat.le_of_ble_eq_true rfl⟩ dX0_stand_80 ?_
    refine n_if_eq F 122 dX0_stand_83 (by decide) (fun h6 => ?_) (fun h6 => ?_)
    · rw [if_pos h6]
      refine n_iinc F (v5 + (1 : Int32)) (lv' := [(5, .int (v5 + (1 : Int32))), (6, .int (Jd_bitCount w (v1 &&& (((1 : Int32) <<< (v4 &&& (31 : Int32))) ||| ((1 : Int32) <<< (v5 &&& (31 : Int32))))))), (0, .ref (gA (cg K) 25)), (1, .int v1), (2, .int v2), (3, .int v3), (4, .int v4)]) dX0_stand_122 6 rfl rfl (by decide) rfl ?_
      refine n_goto F 54 dX0_stand_125 (by decide) ?_
      exact n_sub [2, 3, 4, 5, 6, 0] rfl (ih _ _ _ _ _ _)
    rw [if_neg h6]
    refine n_iload_n F dX0_stand_86 rfl 4 rfl ?_
    refine n_iload F dX0_stand_87 6 rfl ?_
    refine n_callSNi F cb_X7_hasBit lm_RX0_42 (ct_Nt_hasBit (fx_ok F) (fx_sd F) w v3 v5) rfl rfl (Nat.le_of_ble_eq_true rfl) ⟨Nat.le_of_ble_eq_true rfl, Nat.le_of_ble_eq_true rfl⟩ dX0_stand_89 ?_
    refine n_if_eq F 122 dX0_stand_92 (by decide) (fun h7 => ?_) (fun h7 => ?_)
    · rw [if_pos h7]
      refine n_iinc F (v5 + (1 : Int32)) (lv' := [(5, .int (v5 + (1 : Int32))), (6, .int (Jd_bitCount w (v1 &&& (((1 : Int32) <<< (v4 &&& (31 : Int32))) ||| ((1 : Int32) <<< (v5 &&& (31 : Int32))))))), (0, .ref (gA (cg K) 25)), (1, .int v1), (2, .int v2), (3, .int v3), (4, .int v4)]) dX0_stand_122 6 rfl rfl (by decide) rfl ?_
      refine n_goto F 54 dX0_stand_125 (by decide) ?_
      exact n_sub [2, 3, 4, 5, 6, 0] rfl (ih _ _ _ _ _ _)
    rw [if_neg h7]
    refine n_iload F dX0_stand_95 0 rfl ?_
    refine n_aload_n F dX0_stand_97 rfl 1 rfl ?_
    refine n_get F ck_0 lf_RX0_33 (by decide) fg_25_2 dX0_stand_98 ?_
    refine n_icmp_le F 122 dX0_stand_101 (by decide) (fun h8 => ?_) (fun h8 => ?_)
    · rw [if_pos h8]
      refine n_iinc F (v5 + (1 : Int32)) (lv' := [(5, .int (v5 + (1 : Int32))), (6, .int (Jd_bitCount w (v1 &&& (((1 : Int32) <<< (v4 &&& (31 : Int32))) ||| ((1 : Int32) <<< (v5 &&& (31 : Int32))))))), (0, .ref (gA (cg K) 25)), (1, .int v1), (2, .int v2), (3, .int v3), (4, .int v4)]) dX0_stand_122 6 rfl rfl (by decide) rfl ?_
      refine n_goto F 54 dX0_stand_125 (by decide) ?_
      exact n_sub [2, 3, 4, 5, 6, 0] rfl (ih _ _ _ _ _ _)
    rw [if_neg h8]
    refine n_aload_n F dX0_stand_104 rfl 1 rfl ?_
    refine n_iload F dX0_stand_105 0 rfl ?_
    refine n_put F ck_0 lf_RX0_33 (by decide) rfl fp_25_2 rfl rfl dX0_stand_107 ?_
    refine n_aload_n F dX0_stand_110 rfl 1 rfl ?_
    refine n_iload F dX0_stand_111 5 rfl ?_
    refine n_put F ck_0 lf_RX0_46 (by decide) rfl fp_25_3 rfl rfl dX0_stand_113 ?_
    refine n_aload_n F dX0_stand_116 rfl 1 rfl ?_
    refine n_iload F dX0_stand_117 6 rfl ?_
    refine n_put F ck_0 lf_RX0_49 (by decide) rfl fp_25_4 rfl rfl dX0_stand_119 ?_
    refine n_iinc F (v5 + (1 : Int32)) (lv' := [(5, .int (v5 + (1 : Int32))), (6, .int (Jd_bitCount w (v1 &&& (((1 : Int32) <<< (v4 &&& (31 : Int32))) ||| ((1 : Int32) <<< (v5 &&& (31 : Int32))))))), (0, .ref (gA (cg K) 25)), (1, .int v1), (2, .int v2), (3, .int v3), (4, .int v4)]) dX0_stand_122 6 rfl rfl (by decide) rfl ?_
    refine n_goto F 54 dX0_stand_125 (by decide) ?_
    exact n_sub [2, 3, 4, 5, 6, 0] rfl (ih _ _ _ _ _ _)
def Fs_stand_B128 (k44 : Wd → Int32 → Int32 → Int32 → Int32 → Option Wd) (w : Wd) (v1 : Int32) (v2 : Int32) (v3 : Int32) (v4 : Int32) : Option Wd := (k44 w v1 v2 v3 (v4 + (1 : Int32)))
set_option maxRecDepth 100000 in
set_option maxHeartbeats 4000000 in
theorem Fs_stand_B128_ok {K : Ctx} (F : Fx K cX0_stand 7 RX0 none 4 94 true) {k44 : Wd → Int32 → Int32 → Int32 → Int32 → Option Wd} (h44 : ∀ (w : Wd) (v1 : Int32) (v2 : Int32) (v3 : Int32) (v4 : Int32), N K rtV (k44 w v1 v2 v3 v4) w 44 [(0, .ref (gA (cg K) 25)), (1, .int v1), (2, .int v2), (3, .int v3), (4, .int v4)] []) (w : Wd) (v1 : Int32) (v2 : Int32) (v3 : Int32) (v4 : Int32) : N K rtV (Fs_stand_B128 k44 w v1 v2 v3 v4) w 128 [(0, .ref (gA (cg K) 25)), (1, .int v1), (2, .int v2), (3, .int v3), (4, .int v4)] [] := by
  rw [Fs_stand_B128]
  refine n_iinc F (v4 + (1 : Int32)) (lv' := [(4, .int (v4 + (1 : Int32))), (0, .ref (gA (cg K) 25)), (1, .int v1), (2, .int v2), (3, .int v3)]) dX0_stand_128 4 rfl rfl (by decide) rfl ?_
  refine n_goto F 44 dX0_stand_131 (by decide) ?_
  exact n_sub [1, 2, 3, 4, 0] rfl (h44 _ _ _ _ _)
def Fs_stand_L44 (k134 : Wd → Option Wd) : Nat → Wd → Int32 → Int32 → Int32 → Int32 → Option Wd
  | 0, _, _, _, _, _ => none
  | n + 1, w, v1, v2, v3, v4 => (if (8 : Int32) ≤ v4 then (k134 w) else (Fs_stand_L54 (Fs_stand_B128 (Fs_stand_L44 k134 n)) FU w v1 v2 v3 v4 (0 : Int32)))
set_option maxRecDepth 100000 in
set_option maxHeartbeats 4000000 in
theorem Fs_stand_L44_ok {K : Ctx} (F : Fx K cX0_stand 7 RX0 none 4 94 true) {k134 : Wd → Option Wd} (h134 : ∀ (w : Wd), N K rtV (k134 w) w 134 [] []) : ∀ (n : Nat) (w : Wd) (v1 : Int32) (v2 : Int32) (v3 : Int32) (v4 : Int32), N K rtV (Fs_stand_L44 k134 n w v1 v2 v3 v4) w 44 [(0, .ref (gA (cg K) 25)), (1, .int v1), (2, .int v2), (3, .int v3), (4, .int v4)] [] := by
  intro n
  induction n with
  | zero => intro _ _ _ _ _; exact n_none
  | succ n ih =>
    intro w v1 v2 v3 v4
    rw [Fs_stand_L44]
    refine n_iload F dX0_stand_44 4 rfl ?_
    refine n_bipush F (8 : Int32) dX0_stand_46 (by decide) ?_
    refine n_icmp_ge F 134 dX0_stand_48 (by decide) (fun h4 => ?_) (fun h4 => ?_)
    · rw [if_pos h4]
      exact n_sub [] rfl (h134 _)
    rw [if_neg h4]
    refine n_iconst F (0 : Int32) dX0_stand_51 (by decide) ?_
    refine n_istore F (lv' := [(5, .int (0 : Int32)), (0, .ref (gA (cg K) 25)), (1, .int v1), (2, .int v2), (3, .int v3), (4, .int v4)]) dX0_stand_52 (by decide) rfl ?_
    exact n_sub [1, 2, 3, 4, 5, 0] rfl (Fs_stand_L54_ok F (Fs_stand_B128_ok F ih) FU _ _ _ _ _ _)
def Fs_stand_B134 (w : Wd) : Option Wd := some w
set_option maxRecDepth 100000 in
set_option maxHeartbeats 4000000 in
theorem Fs_stand_B134_ok {K : Ctx} (F : Fx K cX0_stand 7 RX0 none 4 94 true) (w : Wd) : N K rtV (Fs_stand_B134 w) w 134 [] [] := by
  rw [Fs_stand_B134]
  exact n_vret F rfl rfl dX0_stand_134
def Fs_stand (w : Wd) : Option Wd := (Option.bind (Sc_nextBits w) (fun q1 => (Option.bind (Fs_choices w (w.1 15 0)) (fun q2 => (Option.bind (Fs_choices w (w.1 15 1)) (fun q3 => (Fs_stand_L44 Fs_stand_B134 FU (sI w 25 2 (-1 : Int32)) q1 q2 q3 (0 : Int32))))))))
set_option maxRecDepth 100000 in
set_option maxHeartbeats 4000000 in
theorem ct_Fs_stand {l : Launch} {g : GG} {σ : Sd} (hg : OKg g) (hb : σ.1 = true) (w : Wd) {q : Wd} (hq : Fs_stand w = some q) : CT l g σ yX0_stand cX0_stand 7 none 4 94 [.ref (gA g 25)] w none q := by
  refine ct_of (rt := rtV) (res := Fs_stand w) (q := q) (own := RX0) (b := true) hg hb (by decide) rfl (Nat.le_of_ble_eq_true rfl) hq (fun K e1 e2 e3 F => ?_)
  subst e1 e2 e3
  rw [Fs_stand]
  show N K _ _ w 0 [(0, .ref (gA (cg K) 25))] []
  refine n_aload_n F dX0_stand_0 rfl 0 rfl ?_
  refine n_get F ck_0 lf_RX0_15 (by decide) fg_25_1 dX0_stand_1 ?_
  refine n_bind (fun q1 hq1 => ?_)
  refine n_callVi F cb_X5_nextBits lm_RX0_19 ob_13 ⟨_, _, rfl⟩ (ct_Sc_nextBits (fx_ok F) (fx_sd F) w hq1) rfl rfl (Nat.le_of_ble_eq_true rfl) ⟨Nat.le_of_ble_eq_true rfl, Nat.le_of_ble_eq_true rfl⟩ dX0_stand_4 ?_
  refine n_istore_n F (lv' := [(1, .int q1), (0, .ref (gA (cg K) 25))]) dX0_stand_7 rfl (by decide) rfl ?_
  refine n_aload_n F dX0_stand_8 rfl 1 rfl ?_
  refine n_aload_n F dX0_stand_9 rfl 1 rfl ?_
  refine n_get F ck_0 lf_RX0_15 (by decide) fg_25_1 dX0_stand_10 ?_
  refine n_get F ck_5 lf_RX0_25 (by decide) fg_13_7 dX0_stand_13 ?_
  refine n_iconst F (0 : Int32) dX0_stand_16 (by decide) ?_
  refine n_iald F ar_15 (ib_c (n := 2) (by decide)) (j := 0) (by decide) dX0_stand_17 ?_
  refine n_bind (fun q2 hq2 => ?_)
  refine n_callVi F cb_X0_choices lm_RX0_29 ob_25 ⟨_, _, rfl⟩ (ct_Fs_choices (fx_ok F) (fx_sd F) w (w.1 15 0) hq2) rfl rfl (Nat.le_of_ble_eq_true rfl) ⟨Nat.le_of_ble_eq_true rfl, Nat.le_of_ble_eq_true rfl⟩ dX0_stand_18 ?_
  refine n_istore_n F (lv' := [(2, .int q2), (1, .int q1), (0, .ref (gA (cg K) 25))]) dX0_stand_21 rfl (by decide) rfl ?_
  refine n_aload_n F dX0_stand_22 rfl 2 rfl ?_
  refine n_aload_n F dX0_stand_23 rfl 2 rfl ?_
  refine n_get F ck_0 lf_RX0_15 (by decide) fg_25_1 dX0_stand_24 ?_
  refine n_get F ck_5 lf_RX0_25 (by decide) fg_13_7 dX0_stand_27 ?_
  refine n_iconst F (1 : Int32) dX0_stand_30 (by decide) ?_
  refine n_iald F ar_15 (ib_c (n := 2) (by decide)) (j := 1) (by decide) dX0_stand_31 ?_
  refine n_bind (fun q3 hq3 => ?_)
  refine n_callVi F cb_X0_choices lm_RX0_29 ob_25 ⟨_, _, rfl⟩ (ct_Fs_choices (fx_ok F) (fx_sd F) w (w.1 15 1) hq3) rfl rfl (Nat.le_of_ble_eq_true rfl) ⟨Nat.le_of_ble_eq_true rfl, Nat.le_of_ble_eq_true rfl⟩ dX0_stand_32 ?_
  refine n_istore_n F (lv' := [(3, .int q3), (2, .int q2), (1, .int q1), (0, .ref (gA (cg K) 25))]) dX0_stand_35 rfl (by decide) rfl ?_
  refine n_aload_n F dX0_stand_36 rfl 3 rfl ?_
  refine n_iconst F (-1 : Int32) dX0_stand_37 (by decide) ?_
  refine n_put F ck_0 lf_RX0_33 (by decide) rfl fp_25_2 rfl rfl dX0_stand_38 ?_
  refine n_iconst F (0 : Int32) dX0_stand_41 (by decide) ?_
  refine n_istore F (lv' := [(4, .int (0 : Int32)), (3, .int q3), (2, .int q2), (1, .int q1), (0, .ref (gA (cg K) 25))]) dX0_stand_42 (by decide) rfl ?_
  exact n_sub [4, 3, 2, 1, 0] rfl (Fs_stand_L44_ok F (Fs_stand_B134_ok F) FU _ _ _ _ _)
theorem dX1_leaves_0 : decode cX1_leaves 0 = .ok (.aload_n 0, 1) := by decide +kernel
theorem dX1_leaves_1 : decode cX1_leaves 1 = .ok (.iload_n 1, 1) := by decide +kernel
theorem dX1_leaves_2 : decode cX1_leaves 2 = .ok (.iconst 0, 1) := by decide +kernel
theorem dX1_leaves_3 : decode cX1_leaves 3 = .ok (.invokevirtual 54, 3) := by decide +kernel
theorem dX1_leaves_6 : decode cX1_leaves 6 = .ok (.iload_n 2, 1) := by decide +kernel
theorem dX1_leaves_7 : decode cX1_leaves 7 = .ok (.if_icmp .ne 16, 3) := by decide +kernel
theorem dX1_leaves_10 : decode cX1_leaves 10 = .ok (.aload_n 0, 1) := by decide +kernel
theorem dX1_leaves_11 : decode cX1_leaves 11 = .ok (.iload_n 1, 1) := by decide +kernel
theorem dX1_leaves_12 : decode cX1_leaves 12 = .ok (.iload_n 3, 1) := by decide +kernel
theorem dX1_leaves_13 : decode cX1_leaves 13 = .ok (.invokevirtual 58, 3) := by decide +kernel
theorem dX1_leaves_16 : decode cX1_leaves 16 = .ok (.ifCond .eq 7, 3) := by decide +kernel
theorem dX1_leaves_19 : decode cX1_leaves 19 = .ok (.iconst 1, 1) := by decide +kernel
theorem dX1_leaves_20 : decode cX1_leaves 20 = .ok (.goto 4, 3) := by decide +kernel
theorem dX1_leaves_23 : decode cX1_leaves 23 = .ok (.iconst 0, 1) := by decide +kernel
theorem dX1_leaves_24 : decode cX1_leaves 24 = .ok (.ireturn, 1) := by decide +kernel
def La_leaves (w : Wd) (a1 : Int32) (a2 : Int32) (a3 : Int32) : Option Int32 := (Option.bind (La_part w a1 (0 : Int32)) (fun q1 => (if q1 = a2 then (Option.bind (La_runsOn w a1 a3) (fun q3 => (if q3 = (0 : Int32) then some (0 : Int32) else some (1 : Int32)))) else some (0 : Int32))))
set_option maxRecDepth 100000 in
set_option maxHeartbeats 4000000 in
theorem ct_La_leaves {l : Launch} {g : GG} {σ : Sd} (hg : OKg g) (hb : σ.1 = true) (w : Wd) (a1 : Int32) (a2 : Int32) (a3 : Int32) {q : Int32} (hq : La_leaves w a1 a2 a3 = some q) : CT l g σ yX1_leaves cX1_leaves 4 (some .boolean) 2 46 [.ref (gA g 3), .int a1, .int a2, .int a3] w (some (.int q)) w := by
  refine ct_of (rt := (rtP w)) (res := La_leaves w a1 a2 a3) (q := q) (own := RX1) (b := true) hg hb (by decide) rfl (Nat.le_of_ble_eq_true rfl) hq (fun K e1 e2 e3 F => ?_)
  subst e1 e2 e3
  rw [La_leaves]
  show N K _ _ w 0 [(0, .ref (gA (cg K) 3)), (1, .int a1), (2, .int a2), (3, .int a3)] []
  refine n_aload_n F dX1_leaves_0 rfl 0 rfl ?_
  refine n_iload_n F dX1_leaves_1 rfl 1 rfl ?_
  refine n_iconst F (0 : Int32) dX1_leaves_2 (by decide) ?_
  refine n_bind (fun q1 hq1 => ?_)
  refine n_callVi F cb_X1_part lm_RX1_54 ob_3 ⟨_, _, rfl⟩ (ct_La_part (fx_ok F) (fx_sd F) w a1 (0 : Int32) hq1) rfl rfl (Nat.le_of_ble_eq_true rfl) ⟨Nat.le_of_ble_eq_true rfl, Nat.le_of_ble_eq_true rfl⟩ dX1_leaves_3 ?_
  refine n_iload_n F dX1_leaves_6 rfl 2 rfl ?_
  refine n_icmp_ne F 23 dX1_leaves_7 (by decide) (fun h2 => ?_) (fun h2 => ?_)
  · rw [if_neg h2]
    refine n_iconst F (0 : Int32) dX1_leaves_23 (by decide) ?_
    exact n_zret F .boolean rfl rfl rfl dX1_leaves_24
  rw [if_pos h2]
  refine n_aload_n F dX1_leaves_10 rfl 0 rfl ?_
  refine n_iload_n F dX1_leaves_11 rfl 1 rfl ?_
  refine n_iload_n F dX1_leaves_12 rfl 3 rfl ?_
  refine n_bind (fun q3 hq3 => ?_)
  refine n_callVi F cb_X1_runsOn lm_RX1_58 ob_3 ⟨_, _, rfl⟩ (ct_La_runsOn (fx_ok F) (fx_sd F) w a1 a3 hq3) rfl rfl (Nat.le_of_ble_eq_true rfl) ⟨Nat.le_of_ble_eq_true rfl, Nat.le_of_ble_eq_true rfl⟩ dX1_leaves_13 ?_
  refine n_if_eq F 23 dX1_leaves_16 (by decide) (fun h4 => ?_) (fun h4 => ?_)
  · rw [if_pos h4]
    refine n_iconst F (0 : Int32) dX1_leaves_23 (by decide) ?_
    exact n_zret F .boolean rfl rfl rfl dX1_leaves_24
  rw [if_neg h4]
  refine n_iconst F (1 : Int32) dX1_leaves_19 (by decide) ?_
  refine n_goto F 24 dX1_leaves_20 (by decide) ?_
  exact n_zret F .boolean rfl rfl rfl dX1_leaves_24
theorem dX1_rideable_0 : decode cX1_rideable 0 = .ok (.iconst 0, 1) := by decide +kernel
theorem dX1_rideable_1 : decode cX1_rideable 1 = .ok (.istore 4, 2) := by decide +kernel
theorem dX1_rideable_3 : decode cX1_rideable 3 = .ok (.iconst 0, 1) := by decide +kernel
theorem dX1_rideable_4 : decode cX1_rideable 4 = .ok (.istore 5, 2) := by decide +kernel
theorem dX1_rideable_6 : decode cX1_rideable 6 = .ok (.iload 5, 2) := by decide +kernel
theorem dX1_rideable_8 : decode cX1_rideable 8 = .ok (.aload_n 0, 1) := by decide +kernel
theorem dX1_rideable_9 : decode cX1_rideable 9 = .ok (.getfield 15, 3) := by decide +kernel
theorem dX1_rideable_12 : decode cX1_rideable 12 = .ok (.if_icmp .ge 43, 3) := by decide +kernel
theorem dX1_rideable_15 : decode cX1_rideable 15 = .ok (.aload_n 0, 1) := by decide +kernel
theorem dX1_rideable_16 : decode cX1_rideable 16 = .ok (.iload 5, 2) := by decide +kernel
theorem dX1_rideable_18 : decode cX1_rideable 18 = .ok (.iload_n 1, 1) := by decide +kernel
theorem dX1_rideable_19 : decode cX1_rideable 19 = .ok (.iload_n 2, 1) := by decide +kernel
theorem dX1_rideable_20 : decode cX1_rideable 20 = .ok (.invokevirtual 62, 3) := by decide +kernel
theorem dX1_rideable_23 : decode cX1_rideable 23 = .ok (.ifCond .eq 26, 3) := by decide +kernel
theorem dX1_rideable_26 : decode cX1_rideable 26 = .ok (.iload_n 3, 1) := by decide +kernel
theorem dX1_rideable_27 : decode cX1_rideable 27 = .ok (.aload_n 0, 1) := by decide +kernel
theorem dX1_rideable_28 : decode cX1_rideable 28 = .ok (.iload 5, 2) := by decide +kernel
theorem dX1_rideable_30 : decode cX1_rideable 30 = .ok (.iconst 5, 1) := by decide +kernel
theorem dX1_rideable_31 : decode cX1_rideable 31 = .ok (.invokevirtual 54, 3) := by decide +kernel
theorem dX1_rideable_34 : decode cX1_rideable 34 = .ok (.invokestatic 65, 3) := by decide +kernel
theorem dX1_rideable_37 : decode cX1_rideable 37 = .ok (.ifCond .eq 12, 3) := by decide +kernel
theorem dX1_rideable_40 : decode cX1_rideable 40 = .ok (.iload 4, 2) := by decide +kernel
theorem dX1_rideable_42 : decode cX1_rideable 42 = .ok (.iconst 1, 1) := by decide +kernel
theorem dX1_rideable_43 : decode cX1_rideable 43 = .ok (.iload 5, 2) := by decide +kernel
theorem dX1_rideable_45 : decode cX1_rideable 45 = .ok (.ishl, 1) := by decide +kernel
theorem dX1_rideable_46 : decode cX1_rideable 46 = .ok (.ior, 1) := by decide +kernel
theorem dX1_rideable_47 : decode cX1_rideable 47 = .ok (.istore 4, 2) := by decide +kernel
theorem dX1_rideable_49 : decode cX1_rideable 49 = .ok (.iinc 5 1, 3) := by decide +kernel
theorem dX1_rideable_52 : decode cX1_rideable 52 = .ok (.goto (-46), 3) := by decide +kernel
theorem dX1_rideable_55 : decode cX1_rideable 55 = .ok (.iload 4, 2) := by decide +kernel
theorem dX1_rideable_57 : decode cX1_rideable 57 = .ok (.ireturn, 1) := by decide +kernel
def La_rideable_L6 (w : Wd) (k55 : Int32 → Option Int32) : Nat → Int32 → Int32 → Int32 → Int32 → Int32 → Option Int32
  | 0, _, _, _, _, _ => none
  | n + 1, v1, v2, v3, v4, v5 => (if (w.1 3 1) ≤ v5 then (k55 v4) else (Option.bind (La_leaves w v5 v1 v2) (fun q2 => (if q2 = (0 : Int32) then (La_rideable_L6 w k55 n v1 v2 v3 v4 (v5 + (1 : Int32))) else (Option.bind (La_part w v5 (5 : Int32)) (fun q4 => (La_rideable_L6 w k55 n v1 v2 v3 (if (Nt_hasBit w v3 q4) = (0 : Int32) then v4 else (v4 ||| ((1 : Int32) <<< (v5 &&& (31 : Int32))))) (v5 + (1 : Int32)))))))))
set_option maxRecDepth 100000 in
set_option maxHeartbeats 4000000 in
theorem La_rideable_L6_ok {K : Ctx} (F : Fx K cX1_rideable 6 RX1 (some .int) 3 69 true) (w : Wd) {k55 : Int32 → Option Int32} (h55 : ∀ (v4 : Int32), N K (rtP w) (k55 v4) w 55 [(4, .int v4)] []) : ∀ (n : Nat) (v1 : Int32) (v2 : Int32) (v3 : Int32) (v4 : Int32) (v5 : Int32), N K (rtP w) (La_rideable_L6 w k55 n v1 v2 v3 v4 v5) w 6 [(0, .ref (gA (cg K) 3)), (1, .int v1), (2, .int v2), (3, .int v3), (4, .int v4), (5, .int v5)] [] := by
  intro n
  induction n with
  | zero => intro _ _ _ _ _; exact n_none
  | succ n ih =>
    intro v1 v2 v3 v4 v5
    rw [La_rideable_L6]
    refine n_iload F dX1_rideable_6 5 rfl ?_
    refine n_aload_n F dX1_rideable_8 rfl 0 rfl ?_
    refine n_get F ck_1 lf_RX1_15 (by decide) fg_3_1 dX1_rideable_9 ?_
    refine n_icmp_ge F 55 dX1_rideable_12 (by decide) (fun h1 => ?_) (fun h1 => ?_)
    · rw [if_pos h1]
      exact n_sub [4] rfl (h55 _)
    rw [if_neg h1]
    refine n_aload_n F dX1_rideable_15 rfl 0 rfl ?_
    refine n_iload F dX1_rideable_16 5 rfl ?_
    refine n_iload_n F dX1_rideable_18 rfl 1 rfl ?_
    refine n_iload_n F dX1_rideable_19 rfl 2 rfl ?_
    refine n_bind (fun q2 hq2 => ?_)
    refine n_callVi F cb_X1_leaves lm_RX1_62 ob_3 ⟨_, _, rfl⟩ (ct_La_leaves (fx_ok F) (fx_sd F) w v5 v1 v2 hq2) rfl rfl (Nat.le_of_ble_eq_true rfl) ⟨Nat.le_of_ble_eq_true rfl, Nat.le_of_ble_eq_true rfl⟩ dX1_rideable_20 ?_
    refine n_if_eq F 49 dX1_rideable_23 (by decide) (fun h3 => ?_) (fun h3 => ?_)
    · rw [if_pos h3]
      refine n_iinc F (v5 + (1 : Int32)) (lv' := [(5, .int (v5 + (1 : Int32))), (0, .ref (gA (cg K) 3)), (1, .int v1), (2, .int v2), (3, .int v3), (4, .int v4)]) dX1_rideable_49 5 rfl rfl (by decide) rfl ?_
      refine n_goto F 6 dX1_rideable_52 (by decide) ?_
      exact n_sub [1, 2, 3, 4, 5, 0] rfl (ih _ _ _ _ _)
    rw [if_neg h3]
    refine n_iload_n F dX1_rideable_26 rfl 3 rfl ?_
    refine n_aload_n F dX1_rideable_27 rfl 0 rfl ?_
    refine n_iload F dX1_rideable_28 5 rfl ?_
    refine n_iconst F (5 : Int32) dX1_rideable_30 (by decide) ?_
    refine n_bind (fun q4 hq4 => ?_)
    refine n_callVi F cb_X1_part lm_RX1_54 ob_3 ⟨_, _, rfl⟩ (ct_La_part (fx_ok F) (fx_sd F) w v5 (5 : Int32) hq4) rfl rfl (Nat.le_of_ble_eq_true rfl) ⟨Nat.le_of_ble_eq_true rfl, Nat.le_of_ble_eq_true rfl⟩ dX1_rideable_31 ?_
    refine n_callSNi F cb_X7_hasBit lm_RX1_65 (ct_Nt_hasBit (fx_ok F) (fx_sd F) w v3 q4) rfl rfl (Nat.le_of_ble_eq_true rfl) ⟨Nat.le_of_ble_eq_true rfl, Nat.le_of_ble_eq_true rfl⟩ dX1_rideable_34 ?_
    refine n_if_eq F 49 dX1_rideable_37 (by decide) (fun h5 => ?_) (fun h5 => ?_)
    · rw [if_pos h5]
      refine n_iinc F (v5 + (1 : Int32)) (lv' := [(5, .int (v5 + (1 : Int32))), (0, .ref (gA (cg K) 3)), (1, .int v1), (2, .int v2), (3, .int v3), (4, .int v4)]) dX1_rideable_49 5 rfl rfl (by decide) rfl ?_
      refine n_goto F 6 dX1_rideable_52 (by decide) ?_
      exact n_sub [1, 2, 3, 4, 5, 0] rfl (ih _ _ _ _ _)
    rw [if_neg h5]
    refine n_iload F dX1_rideable_40 4 rfl ?_
    refine n_iconst F (1 : Int32) dX1_rideable_42 (by decide) ?_
    refine n_iload F dX1_rideable_43 5 rfl ?_
    refine n_ishl F dX1_rideable_45 ?_
    refine n_ior F dX1_rideable_46 ?_
    refine n_istore F (lv' := [(4, .int (v4 ||| ((1 : Int32) <<< (v5 &&& (31 : Int32))))), (0, .ref (gA (cg K) 3)), (1, .int v1), (2, .int v2), (3, .int v3), (5, .int v5)]) dX1_rideable_47 (by decide) rfl ?_
    refine n_iinc F (v5 + (1 : Int32)) (lv' := [(5, .int (v5 + (1 : Int32))), (4, .int (v4 ||| ((1 : Int32) <<< (v5 &&& (31 : Int32))))), (0, .ref (gA (cg K) 3)), (1, .int v1), (2, .int v2), (3, .int v3)]) dX1_rideable_49 5 rfl rfl (by decide) rfl ?_
    refine n_goto F 6 dX1_rideable_52 (by decide) ?_
    exact n_sub [2, 3, 4, 5, 1, 0] rfl (ih _ _ _ _ _)
def La_rideable_B55 (w : Wd) (v4 : Int32) : Option Int32 := some v4
set_option maxRecDepth 100000 in
set_option maxHeartbeats 4000000 in
theorem La_rideable_B55_ok {K : Ctx} (F : Fx K cX1_rideable 6 RX1 (some .int) 3 69 true) (w : Wd) (v4 : Int32) : N K (rtP w) (La_rideable_B55 w v4) w 55 [(4, .int v4)] [] := by
  rw [La_rideable_B55]
  refine n_iload F dX1_rideable_55 0 rfl ?_
  exact n_iret F rfl rfl dX1_rideable_57
def La_rideable (w : Wd) (a1 : Int32) (a2 : Int32) (a3 : Int32) : Option Int32 := (La_rideable_L6 w (La_rideable_B55 w) FU a1 a2 a3 (0 : Int32) (0 : Int32))
set_option maxRecDepth 100000 in
set_option maxHeartbeats 4000000 in
theorem ct_La_rideable {l : Launch} {g : GG} {σ : Sd} (hg : OKg g) (hb : σ.1 = true) (w : Wd) (a1 : Int32) (a2 : Int32) (a3 : Int32) {q : Int32} (hq : La_rideable w a1 a2 a3 = some q) : CT l g σ yX1_rideable cX1_rideable 6 (some .int) 3 69 [.ref (gA g 3), .int a1, .int a2, .int a3] w (some (.int q)) w := by
  refine ct_of (rt := (rtP w)) (res := La_rideable w a1 a2 a3) (q := q) (own := RX1) (b := true) hg hb (by decide) rfl (Nat.le_of_ble_eq_true rfl) hq (fun K e1 e2 e3 F => ?_)
  subst e1 e2 e3
  rw [La_rideable]
  show N K _ _ w 0 [(0, .ref (gA (cg K) 3)), (1, .int a1), (2, .int a2), (3, .int a3)] []
  refine n_iconst F (0 : Int32) dX1_rideable_0 (by decide) ?_
  refine n_istore F (lv' := [(4, .int (0 : Int32)), (0, .ref (gA (cg K) 3)), (1, .int a1), (2, .int a2), (3, .int a3)]) dX1_rideable_1 (by decide) rfl ?_
  refine n_iconst F (0 : Int32) dX1_rideable_3 (by decide) ?_
  refine n_istore F (lv' := [(5, .int (0 : Int32)), (4, .int (0 : Int32)), (0, .ref (gA (cg K) 3)), (1, .int a1), (2, .int a2), (3, .int a3)]) dX1_rideable_4 (by decide) rfl ?_
  exact n_sub [2, 3, 4, 5, 1, 0] rfl (La_rideable_L6_ok F w (La_rideable_B55_ok F w) FU _ _ _ _ _)
theorem dX5_rideable_0 : decode cX5_rideable 0 = .ok (.aload_n 0, 1) := by decide +kernel
theorem dX5_rideable_1 : decode cX5_rideable 1 = .ok (.getfield 40, 3) := by decide +kernel
theorem dX5_rideable_4 : decode cX5_rideable 4 = .ok (.ifCond .ne 10, 3) := by decide +kernel
theorem dX5_rideable_7 : decode cX5_rideable 7 = .ok (.aload_n 0, 1) := by decide +kernel
theorem dX5_rideable_8 : decode cX5_rideable 8 = .ok (.getfield 59, 3) := by decide +kernel
theorem dX5_rideable_11 : decode cX5_rideable 11 = .ok (.ifCond .eq 7, 3) := by decide +kernel
theorem dX5_rideable_14 : decode cX5_rideable 14 = .ok (.iconst 0, 1) := by decide +kernel
theorem dX5_rideable_15 : decode cX5_rideable 15 = .ok (.goto 22, 3) := by decide +kernel
theorem dX5_rideable_18 : decode cX5_rideable 18 = .ok (.aload_n 0, 1) := by decide +kernel
theorem dX5_rideable_19 : decode cX5_rideable 19 = .ok (.getfield 21, 3) := by decide +kernel
theorem dX5_rideable_22 : decode cX5_rideable 22 = .ok (.aload_n 0, 1) := by decide +kernel
theorem dX5_rideable_23 : decode cX5_rideable 23 = .ok (.getfield 37, 3) := by decide +kernel
theorem dX5_rideable_26 : decode cX5_rideable 26 = .ok (.aload_n 0, 1) := by decide +kernel
theorem dX5_rideable_27 : decode cX5_rideable 27 = .ok (.getfield 28, 3) := by decide +kernel
theorem dX5_rideable_30 : decode cX5_rideable 30 = .ok (.aload_n 0, 1) := by decide +kernel
theorem dX5_rideable_31 : decode cX5_rideable 31 = .ok (.invokevirtual 88, 3) := by decide +kernel
theorem dX5_rideable_34 : decode cX5_rideable 34 = .ok (.invokevirtual 91, 3) := by decide +kernel
theorem dX5_rideable_37 : decode cX5_rideable 37 = .ok (.ireturn, 1) := by decide +kernel
def Sc_rideable (w : Wd) : Option Int32 := (if (w.1 13 3) = (0 : Int32) then (if (w.1 13 4) = (0 : Int32) then (Option.bind (Sc_kindsLeft w) (fun q3 => (Option.bind (La_rideable w (w.1 13 2) (w.1 13 1) q3) (fun q4 => some q4)))) else some (0 : Int32)) else some (0 : Int32))
set_option maxRecDepth 100000 in
set_option maxHeartbeats 4000000 in
theorem ct_Sc_rideable {l : Launch} {g : GG} {σ : Sd} (hg : OKg g) (hb : σ.1 = true) (w : Wd) {q : Int32} (hq : Sc_rideable w = some q) : CT l g σ yX5_rideable cX5_rideable 1 (some .int) 4 94 [.ref (gA g 13)] w (some (.int q)) w := by
  refine ct_of (rt := (rtP w)) (res := Sc_rideable w) (q := q) (own := RX5) (b := true) hg hb (by decide) rfl (Nat.le_of_ble_eq_true rfl) hq (fun K e1 e2 e3 F => ?_)
  subst e1 e2 e3
  rw [Sc_rideable]
  show N K _ _ w 0 [(0, .ref (gA (cg K) 13))] []
  refine n_aload_n F dX5_rideable_0 rfl 0 rfl ?_
  refine n_get F ck_5 lf_RX5_40 (by decide) fg_13_3 dX5_rideable_1 ?_
  refine n_if_ne F 14 dX5_rideable_4 (by decide) (fun h1 => ?_) (fun h1 => ?_)
  · rw [if_neg h1]
    refine n_iconst F (0 : Int32) dX5_rideable_14 (by decide) ?_
    refine n_goto F 37 dX5_rideable_15 (by decide) ?_
    exact n_iret F rfl rfl dX5_rideable_37
  rw [if_pos h1]
  refine n_aload_n F dX5_rideable_7 rfl 0 rfl ?_
  refine n_get F ck_5 lf_RX5_59 (by decide) fg_13_4 dX5_rideable_8 ?_
  refine n_if_eq F 18 dX5_rideable_11 (by decide) (fun h2 => ?_) (fun h2 => ?_)
  · rw [if_pos h2]
    refine n_aload_n F dX5_rideable_18 rfl 0 rfl ?_
    refine n_get F ck_5 lf_RX5_21 (by decide) fg_13_0 dX5_rideable_19 ?_
    refine n_aload_n F dX5_rideable_22 rfl 0 rfl ?_
    refine n_get F ck_5 lf_RX5_37 (by decide) fg_13_2 dX5_rideable_23 ?_
    refine n_aload_n F dX5_rideable_26 rfl 0 rfl ?_
    refine n_get F ck_5 lf_RX5_28 (by decide) fg_13_1 dX5_rideable_27 ?_
    refine n_aload_n F dX5_rideable_30 rfl 0 rfl ?_
    refine n_bind (fun q3 hq3 => ?_)
    refine n_callVi F cb_X5_kindsLeft lm_RX5_88 ob_13 ⟨_, _, rfl⟩ (ct_Sc_kindsLeft (fx_ok F) (fx_sd F) w hq3) rfl rfl (Nat.le_of_ble_eq_true rfl) ⟨Nat.le_of_ble_eq_true rfl, Nat.le_of_ble_eq_true rfl⟩ dX5_rideable_31 ?_
    refine n_bind (fun q4 hq4 => ?_)
    refine n_callVi F cb_X1_rideable lm_RX5_91 ob_3 ⟨_, _, rfl⟩ (ct_La_rideable (fx_ok F) (fx_sd F) w (w.1 13 2) (w.1 13 1) q3 hq4) rfl rfl (Nat.le_of_ble_eq_true rfl) ⟨Nat.le_of_ble_eq_true rfl, Nat.le_of_ble_eq_true rfl⟩ dX5_rideable_34 ?_
    exact n_iret F rfl rfl dX5_rideable_37
  rw [if_neg h2]
  refine n_iconst F (0 : Int32) dX5_rideable_14 (by decide) ?_
  refine n_goto F 37 dX5_rideable_15 (by decide) ?_
  exact n_iret F rfl rfl dX5_rideable_37
theorem dX0_leftBy_0 : decode cX0_leftBy 0 = .ok (.aload_n 0, 1) := by decide +kernel
theorem dX0_leftBy_1 : decode cX0_leftBy 1 = .ok (.getfield 9, 3) := by decide +kernel
theorem dX0_leftBy_4 : decode cX0_leftBy 4 = .ok (.aload_n 0, 1) := by decide +kernel
theorem dX0_leftBy_5 : decode cX0_leftBy 5 = .ok (.getfield 15, 3) := by decide +kernel
theorem dX0_leftBy_8 : decode cX0_leftBy 8 = .ok (.getfield 77, 3) := by decide +kernel
theorem dX0_leftBy_11 : decode cX0_leftBy 11 = .ok (.aload_n 0, 1) := by decide +kernel
theorem dX0_leftBy_12 : decode cX0_leftBy 12 = .ok (.getfield 15, 3) := by decide +kernel
theorem dX0_leftBy_15 : decode cX0_leftBy 15 = .ok (.getfield 52, 3) := by decide +kernel
theorem dX0_leftBy_18 : decode cX0_leftBy 18 = .ok (.iload_n 1, 1) := by decide +kernel
theorem dX0_leftBy_19 : decode cX0_leftBy 19 = .ok (.iconst 1, 1) := by decide +kernel
theorem dX0_leftBy_20 : decode cX0_leftBy 20 = .ok (.invokevirtual 55, 3) := by decide +kernel
theorem dX0_leftBy_23 : decode cX0_leftBy 23 = .ok (.invokestatic 37, 3) := by decide +kernel
theorem dX0_leftBy_26 : decode cX0_leftBy 26 = .ok (.aload_n 0, 1) := by decide +kernel
theorem dX0_leftBy_27 : decode cX0_leftBy 27 = .ok (.getfield 9, 3) := by decide +kernel
theorem dX0_leftBy_30 : decode cX0_leftBy 30 = .ok (.aload_n 0, 1) := by decide +kernel
theorem dX0_leftBy_31 : decode cX0_leftBy 31 = .ok (.getfield 15, 3) := by decide +kernel
theorem dX0_leftBy_34 : decode cX0_leftBy 34 = .ok (.getfield 77, 3) := by decide +kernel
theorem dX0_leftBy_37 : decode cX0_leftBy 37 = .ok (.aload_n 0, 1) := by decide +kernel
theorem dX0_leftBy_38 : decode cX0_leftBy 38 = .ok (.getfield 15, 3) := by decide +kernel
theorem dX0_leftBy_41 : decode cX0_leftBy 41 = .ok (.getfield 52, 3) := by decide +kernel
theorem dX0_leftBy_44 : decode cX0_leftBy 44 = .ok (.iload_n 1, 1) := by decide +kernel
theorem dX0_leftBy_45 : decode cX0_leftBy 45 = .ok (.iconst 2, 1) := by decide +kernel
theorem dX0_leftBy_46 : decode cX0_leftBy 46 = .ok (.invokevirtual 55, 3) := by decide +kernel
theorem dX0_leftBy_49 : decode cX0_leftBy 49 = .ok (.invokestatic 37, 3) := by decide +kernel
theorem dX0_leftBy_52 : decode cX0_leftBy 52 = .ok (.iadd, 1) := by decide +kernel
theorem dX0_leftBy_53 : decode cX0_leftBy 53 = .ok (.ireturn, 1) := by decide +kernel
def Fs_leftBy (w : Wd) (a1 : Int32) : Option Int32 := (Option.bind (La_reached w (w.1 13 9) (w.1 13 1) a1 (1 : Int32)) (fun q1 => (Option.bind (La_reached w (w.1 13 9) (w.1 13 1) a1 (2 : Int32)) (fun q2 => some ((Jd_bitCount w q1) + (Jd_bitCount w q2))))))
set_option maxRecDepth 100000 in
set_option maxHeartbeats 4000000 in
theorem ct_Fs_leftBy {l : Launch} {g : GG} {σ : Sd} (hg : OKg g) (hb : σ.1 = true) (w : Wd) (a1 : Int32) {q : Int32} (hq : Fs_leftBy w a1 = some q) : CT l g σ yX0_leftBy cX0_leftBy 2 (some .int) 3 72 [.ref (gA g 25), .int a1] w (some (.int q)) w := by
  refine ct_of (rt := (rtP w)) (res := Fs_leftBy w a1) (q := q) (own := RX0) (b := true) hg hb (by decide) rfl (Nat.le_of_ble_eq_true rfl) hq (fun K e1 e2 e3 F => ?_)
  subst e1 e2 e3
  rw [Fs_leftBy]
  show N K _ _ w 0 [(0, .ref (gA (cg K) 25)), (1, .int a1)] []
  refine n_aload_n F dX0_leftBy_0 rfl 0 rfl ?_
  refine n_get F ck_0 lf_RX0_9 (by decide) fg_25_0 dX0_leftBy_1 ?_
  refine n_aload_n F dX0_leftBy_4 rfl 0 rfl ?_
  refine n_get F ck_0 lf_RX0_15 (by decide) fg_25_1 dX0_leftBy_5 ?_
  refine n_get F ck_5 lf_RX0_77 (by decide) fg_13_9 dX0_leftBy_8 ?_
  refine n_aload_n F dX0_leftBy_11 rfl 0 rfl ?_
  refine n_get F ck_0 lf_RX0_15 (by decide) fg_25_1 dX0_leftBy_12 ?_
  refine n_get F ck_5 lf_RX0_52 (by decide) fg_13_1 dX0_leftBy_15 ?_
  refine n_iload_n F dX0_leftBy_18 rfl 1 rfl ?_
  refine n_iconst F (1 : Int32) dX0_leftBy_19 (by decide) ?_
  refine n_bind (fun q1 hq1 => ?_)
  refine n_callVi F cb_X1_reached lm_RX0_55 ob_3 ⟨_, _, rfl⟩ (ct_La_reached (fx_ok F) (fx_sd F) w (w.1 13 9) (w.1 13 1) a1 (1 : Int32) hq1) rfl rfl (Nat.le_of_ble_eq_true rfl) ⟨Nat.le_of_ble_eq_true rfl, Nat.le_of_ble_eq_true rfl⟩ dX0_leftBy_20 ?_
  refine n_callSi F cb_J6_bitCount_0f7a4 lm_RX0_37 (ct_Jd_bitCount (fx_ok F) (fx_sd F) w q1) rfl rfl (Nat.le_of_ble_eq_true rfl) ⟨Nat.le_of_ble_eq_true rfl, Nat.le_of_ble_eq_true rfl⟩ dX0_leftBy_23 ?_
  refine n_aload_n F dX0_leftBy_26 rfl 0 rfl ?_
  refine n_get F ck_0 lf_RX0_9 (by decide) fg_25_0 dX0_leftBy_27 ?_
  refine n_aload_n F dX0_leftBy_30 rfl 0 rfl ?_
  refine n_get F ck_0 lf_RX0_15 (by decide) fg_25_1 dX0_leftBy_31 ?_
  refine n_get F ck_5 lf_RX0_77 (by decide) fg_13_9 dX0_leftBy_34 ?_
  refine n_aload_n F dX0_leftBy_37 rfl 0 rfl ?_
  refine n_get F ck_0 lf_RX0_15 (by decide) fg_25_1 dX0_leftBy_38 ?_
  refine n_get F ck_5 lf_RX0_52 (by decide) fg_13_1 dX0_leftBy_41 ?_
  refine n_iload_n F dX0_leftBy_44 rfl 1 rfl ?_
  refine n_iconst F (2 : Int32) dX0_leftBy_45 (by decide) ?_
  refine n_bind (fun q2 hq2 => ?_)
  refine n_callVi F cb_X1_reached lm_RX0_55 ob_3 ⟨_, _, rfl⟩ (ct_La_reached (fx_ok F) (fx_sd F) w (w.1 13 9) (w.1 13 1) a1 (2 : Int32) hq2) rfl rfl (Nat.le_of_ble_eq_true rfl) ⟨Nat.le_of_ble_eq_true rfl, Nat.le_of_ble_eq_true rfl⟩ dX0_leftBy_46 ?_
  refine n_callSi F cb_J6_bitCount_0f7a4 lm_RX0_37 (ct_Jd_bitCount (fx_ok F) (fx_sd F) w q2) rfl rfl (Nat.le_of_ble_eq_true rfl) ⟨Nat.le_of_ble_eq_true rfl, Nat.le_of_ble_eq_true rfl⟩ dX0_leftBy_49 ?_
  refine n_iadd F dX0_leftBy_52 ?_
  exact n_iret F rfl rfl dX0_leftBy_53
theorem dX0_hide_0 : decode cX0_hide 0 = .ok (.aload_n 0, 1) := by decide +kernel
theorem dX0_hide_1 : decode cX0_hide 1 = .ok (.getfield 15, 3) := by decide +kernel
theorem dX0_hide_4 : decode cX0_hide 4 = .ok (.invokevirtual 61, 3) := by decide +kernel
theorem dX0_hide_7 : decode cX0_hide 7 = .ok (.istore_n 1, 1) := by decide +kernel
theorem dX0_hide_8 : decode cX0_hide 8 = .ok (.aload_n 0, 1) := by decide +kernel
theorem dX0_hide_9 : decode cX0_hide 9 = .ok (.iconst (-1), 1) := by decide +kernel
theorem dX0_hide_10 : decode cX0_hide 10 = .ok (.putfield 33, 3) := by decide +kernel
theorem dX0_hide_13 : decode cX0_hide 13 = .ok (.aload_n 0, 1) := by decide +kernel
theorem dX0_hide_14 : decode cX0_hide 14 = .ok (.iconst (-1), 1) := by decide +kernel
theorem dX0_hide_15 : decode cX0_hide 15 = .ok (.putfield 64, 3) := by decide +kernel
theorem dX0_hide_18 : decode cX0_hide 18 = .ok (.iconst 0, 1) := by decide +kernel
theorem dX0_hide_19 : decode cX0_hide 19 = .ok (.istore_n 2, 1) := by decide +kernel
theorem dX0_hide_20 : decode cX0_hide 20 = .ok (.iload_n 2, 1) := by decide +kernel
theorem dX0_hide_21 : decode cX0_hide 21 = .ok (.aload_n 0, 1) := by decide +kernel
theorem dX0_hide_22 : decode cX0_hide 22 = .ok (.getfield 9, 3) := by decide +kernel
theorem dX0_hide_25 : decode cX0_hide 25 = .ok (.getfield 67, 3) := by decide +kernel
theorem dX0_hide_28 : decode cX0_hide 28 = .ok (.if_icmp .ge 51, 3) := by decide +kernel
theorem dX0_hide_31 : decode cX0_hide 31 = .ok (.aload_n 0, 1) := by decide +kernel
theorem dX0_hide_32 : decode cX0_hide 32 = .ok (.iconst 1, 1) := by decide +kernel
theorem dX0_hide_33 : decode cX0_hide 33 = .ok (.aload_n 0, 1) := by decide +kernel
theorem dX0_hide_34 : decode cX0_hide 34 = .ok (.getfield 9, 3) := by decide +kernel
theorem dX0_hide_37 : decode cX0_hide 37 = .ok (.iload_n 2, 1) := by decide +kernel
theorem dX0_hide_38 : decode cX0_hide 38 = .ok (.iconst 5, 1) := by decide +kernel
theorem dX0_hide_39 : decode cX0_hide 39 = .ok (.invokevirtual 70, 3) := by decide +kernel
theorem dX0_hide_42 : decode cX0_hide 42 = .ok (.ishl, 1) := by decide +kernel
theorem dX0_hide_43 : decode cX0_hide 43 = .ok (.invokevirtual 74, 3) := by decide +kernel
theorem dX0_hide_46 : decode cX0_hide 46 = .ok (.istore_n 3, 1) := by decide +kernel
theorem dX0_hide_47 : decode cX0_hide 47 = .ok (.iload_n 1, 1) := by decide +kernel
theorem dX0_hide_48 : decode cX0_hide 48 = .ok (.iload_n 2, 1) := by decide +kernel
theorem dX0_hide_49 : decode cX0_hide 49 = .ok (.invokestatic 42, 3) := by decide +kernel
theorem dX0_hide_52 : decode cX0_hide 52 = .ok (.ifCond .eq 21, 3) := by decide +kernel
theorem dX0_hide_55 : decode cX0_hide 55 = .ok (.iload_n 3, 1) := by decide +kernel
theorem dX0_hide_56 : decode cX0_hide 56 = .ok (.aload_n 0, 1) := by decide +kernel
theorem dX0_hide_57 : decode cX0_hide 57 = .ok (.getfield 33, 3) := by decide +kernel
theorem dX0_hide_60 : decode cX0_hide 60 = .ok (.if_icmp .le 13, 3) := by decide +kernel
theorem dX0_hide_63 : decode cX0_hide 63 = .ok (.aload_n 0, 1) := by decide +kernel
theorem dX0_hide_64 : decode cX0_hide 64 = .ok (.iload_n 3, 1) := by decide +kernel
theorem dX0_hide_65 : decode cX0_hide 65 = .ok (.putfield 33, 3) := by decide +kernel
theorem dX0_hide_68 : decode cX0_hide 68 = .ok (.aload_n 0, 1) := by decide +kernel
theorem dX0_hide_69 : decode cX0_hide 69 = .ok (.iload_n 2, 1) := by decide +kernel
theorem dX0_hide_70 : decode cX0_hide 70 = .ok (.putfield 64, 3) := by decide +kernel
theorem dX0_hide_73 : decode cX0_hide 73 = .ok (.iinc 2 1, 3) := by decide +kernel
theorem dX0_hide_76 : decode cX0_hide 76 = .ok (.goto (-56), 3) := by decide +kernel
theorem dX0_hide_79 : decode cX0_hide 79 = .ok (.return_, 1) := by decide +kernel
def Fs_hide_L20 (k79 : Wd → Option Wd) : Nat → Wd → Int32 → Int32 → Option Wd
  | 0, _, _, _ => none
  | n + 1, w, v1, v2 => (if (w.1 3 1) ≤ v2 then (k79 w) else (Option.bind (La_part w v2 (5 : Int32)) (fun q3 => (Option.bind (Fs_leftBy w ((1 : Int32) <<< (q3 &&& (31 : Int32)))) (fun q4 => (Fs_hide_L20 k79 n (if (Nt_hasBit w v1 v2) = (0 : Int32) then w else (if q4 ≤ (w.1 25 2) then w else (sI (sI w 25 2 q4) 25 5 v2))) v1 (v2 + (1 : Int32))))))))
set_option maxRecDepth 100000 in
set_option maxHeartbeats 4000000 in
theorem Fs_hide_L20_ok {K : Ctx} (F : Fx K cX0_hide 4 RX0 none 5 114 true) {k79 : Wd → Option Wd} (h79 : ∀ (w : Wd), N K rtV (k79 w) w 79 [] []) : ∀ (n : Nat) (w : Wd) (v1 : Int32) (v2 : Int32), N K rtV (Fs_hide_L20 k79 n w v1 v2) w 20 [(0, .ref (gA (cg K) 25)), (1, .int v1), (2, .int v2)] [] := by
  intro n
  induction n with
  | zero => intro _ _ _; exact n_none
  | succ n ih =>
    intro w v1 v2
    rw [Fs_hide_L20]
    refine n_iload_n F dX0_hide_20 rfl 2 rfl ?_
    refine n_aload_n F dX0_hide_21 rfl 0 rfl ?_
    refine n_get F ck_0 lf_RX0_9 (by decide) fg_25_0 dX0_hide_22 ?_
    refine n_get F ck_1 lf_RX0_67 (by decide) fg_3_1 dX0_hide_25 ?_
    refine n_icmp_ge F 79 dX0_hide_28 (by decide) (fun h2 => ?_) (fun h2 => ?_)
    · rw [if_pos h2]
      exact n_sub [] rfl (h79 _)
    rw [if_neg h2]
    refine n_aload_n F dX0_hide_31 rfl 0 rfl ?_
    refine n_iconst F (1 : Int32) dX0_hide_32 (by decide) ?_
    refine n_aload_n F dX0_hide_33 rfl 0 rfl ?_
    refine n_get F ck_0 lf_RX0_9 (by decide) fg_25_0 dX0_hide_34 ?_
    refine n_iload_n F dX0_hide_37 rfl 2 rfl ?_
    refine n_iconst F (5 : Int32) dX0_hide_38 (by decide) ?_
    refine n_bind (fun q3 hq3 => ?_)
    refine n_callVi F cb_X1_part lm_RX0_70 ob_3 ⟨_, _, rfl⟩ (ct_La_part (fx_ok F) (fx_sd F) w v2 (5 : Int32) hq3) rfl rfl (Nat.le_of_ble_eq_true rfl) ⟨Nat.le_of_ble_eq_true rfl, Nat.le_of_ble_eq_true rfl⟩ dX0_hide_39 ?_
    refine n_ishl F dX0_hide_42 ?_
    refine n_bind (fun q4 hq4 => ?_)
    refine n_callVi F cb_X0_leftBy lm_RX0_74 ob_25 ⟨_, _, rfl⟩ (ct_Fs_leftBy (fx_ok F) (fx_sd F) w ((1 : Int32) <<< (q3 &&& (31 : Int32))) hq4) rfl rfl (Nat.le_of_ble_eq_true rfl) ⟨Nat.le_of_ble_eq_true rfl, Nat.le_of_ble_eq_true rfl⟩ dX0_hide_43 ?_
    refine n_istore_n F (lv' := [(3, .int q4), (0, .ref (gA (cg K) 25)), (1, .int v1), (2, .int v2)]) dX0_hide_46 rfl (by decide) rfl ?_
    refine n_iload_n F dX0_hide_47 rfl 2 rfl ?_
    refine n_iload_n F dX0_hide_48 rfl 3 rfl ?_
    refine n_callSNi F cb_X7_hasBit lm_RX0_42 (ct_Nt_hasBit (fx_ok F) (fx_sd F) w v1 v2) rfl rfl (Nat.le_of_ble_eq_true rfl) ⟨Nat.le_of_ble_eq_true rfl, Nat.le_of_ble_eq_true rfl⟩ dX0_hide_49 ?_
    refine n_if_eq F 73 dX0_hide_52 (by decide) (fun h5 => ?_) (fun h5 => ?_)
    · rw [if_pos h5]
      refine n_iinc F (v2 + (1 : Int32)) (lv' := [(2, .int (v2 + (1 : Int32))), (3, .int q4), (0, .ref (gA (cg K) 25)), (1, .int v1)]) dX0_hide_73 3 rfl rfl (by decide) rfl ?_
      refine n_goto F 20 dX0_hide_76 (by decide) ?_
      exact n_sub [2, 3, 0] rfl (ih _ _ _)
    rw [if_neg h5]
    refine n_iload_n F dX0_hide_55 rfl 0 rfl ?_
    refine n_aload_n F dX0_hide_56 rfl 1 rfl ?_
    refine n_get F ck_0 lf_RX0_33 (by decide) fg_25_2 dX0_hide_57 ?_
    refine n_icmp_le F 73 dX0_hide_60 (by decide) (fun h6 => ?_) (fun h6 => ?_)
    · rw [if_pos h6]
      refine n_iinc F (v2 + (1 : Int32)) (lv' := [(2, .int (v2 + (1 : Int32))), (3, .int q4), (0, .ref (gA (cg K) 25)), (1, .int v1)]) dX0_hide_73 3 rfl rfl (by decide) rfl ?_
      refine n_goto F 20 dX0_hide_76 (by decide) ?_
      exact n_sub [2, 3, 0] rfl (ih _ _ _)
    rw [if_neg h6]
    refine n_aload_n F dX0_hide_63 rfl 1 rfl ?_
    refine n_iload_n F dX0_hide_64 rfl 0 rfl ?_
    refine n_put F ck_0 lf_RX0_33 (by decide) rfl fp_25_2 rfl rfl dX0_hide_65 ?_
    refine n_aload_n F dX0_hide_68 rfl 1 rfl ?_
    refine n_iload_n F dX0_hide_69 rfl 3 rfl ?_
    refine n_put F ck_0 lf_RX0_64 (by decide) rfl fp_25_5 rfl rfl dX0_hide_70 ?_
    refine n_iinc F (v2 + (1 : Int32)) (lv' := [(2, .int (v2 + (1 : Int32))), (3, .int q4), (0, .ref (gA (cg K) 25)), (1, .int v1)]) dX0_hide_73 3 rfl rfl (by decide) rfl ?_
    refine n_goto F 20 dX0_hide_76 (by decide) ?_
    exact n_sub [2, 3, 0] rfl (ih _ _ _)
def Fs_hide_B79 (w : Wd) : Option Wd := some w
set_option maxRecDepth 100000 in
set_option maxHeartbeats 4000000 in
theorem Fs_hide_B79_ok {K : Ctx} (F : Fx K cX0_hide 4 RX0 none 5 114 true) (w : Wd) : N K rtV (Fs_hide_B79 w) w 79 [] [] := by
  rw [Fs_hide_B79]
  exact n_vret F rfl rfl dX0_hide_79
def Fs_hide (w : Wd) : Option Wd := (Option.bind (Sc_rideable w) (fun q1 => (Fs_hide_L20 Fs_hide_B79 FU (sI (sI w 25 2 (-1 : Int32)) 25 5 (-1 : Int32)) q1 (0 : Int32))))
set_option maxRecDepth 100000 in
set_option maxHeartbeats 4000000 in
theorem ct_Fs_hide {l : Launch} {g : GG} {σ : Sd} (hg : OKg g) (hb : σ.1 = true) (w : Wd) {q : Wd} (hq : Fs_hide w = some q) : CT l g σ yX0_hide cX0_hide 4 none 5 114 [.ref (gA g 25)] w none q := by
  refine ct_of (rt := rtV) (res := Fs_hide w) (q := q) (own := RX0) (b := true) hg hb (by decide) rfl (Nat.le_of_ble_eq_true rfl) hq (fun K e1 e2 e3 F => ?_)
  subst e1 e2 e3
  rw [Fs_hide]
  show N K _ _ w 0 [(0, .ref (gA (cg K) 25))] []
  refine n_aload_n F dX0_hide_0 rfl 0 rfl ?_
  refine n_get F ck_0 lf_RX0_15 (by decide) fg_25_1 dX0_hide_1 ?_
  refine n_bind (fun q1 hq1 => ?_)
  refine n_callVi F cb_X5_rideable lm_RX0_61 ob_13 ⟨_, _, rfl⟩ (ct_Sc_rideable (fx_ok F) (fx_sd F) w hq1) rfl rfl (Nat.le_of_ble_eq_true rfl) ⟨Nat.le_of_ble_eq_true rfl, Nat.le_of_ble_eq_true rfl⟩ dX0_hide_4 ?_
  refine n_istore_n F (lv' := [(1, .int q1), (0, .ref (gA (cg K) 25))]) dX0_hide_7 rfl (by decide) rfl ?_
  refine n_aload_n F dX0_hide_8 rfl 1 rfl ?_
  refine n_iconst F (-1 : Int32) dX0_hide_9 (by decide) ?_
  refine n_put F ck_0 lf_RX0_33 (by decide) rfl fp_25_2 rfl rfl dX0_hide_10 ?_
  refine n_aload_n F dX0_hide_13 rfl 1 rfl ?_
  refine n_iconst F (-1 : Int32) dX0_hide_14 (by decide) ?_
  refine n_put F ck_0 lf_RX0_64 (by decide) rfl fp_25_5 rfl rfl dX0_hide_15 ?_
  refine n_iconst F (0 : Int32) dX0_hide_18 (by decide) ?_
  refine n_istore_n F (lv' := [(2, .int (0 : Int32)), (1, .int q1), (0, .ref (gA (cg K) 25))]) dX0_hide_19 rfl (by decide) rfl ?_
  exact n_sub [2, 1, 0] rfl (Fs_hide_L20_ok F (Fs_hide_B79_ok F) FU _ _ _)
end
