section
-- ===== PART A: goes FIRST, ahead of the names: the tables' words, and 'selects' of the private methods out of them =====
/-- a private method of a class that the tables say can be made, by its rows of tables_1 -/
def lw_okq (q : MethodName × Nat) : Prop := (q.1.cls ≠ "java/lang/invoke/MethodHandle" ∧ q.1.cls ≠ "java/lang/invoke/VarHandle") ∧ Cond.instantiable q.1.cls q.2 ∈ tables_1 ∧ Cond.privateMethod q.1 ∈ tables_1 ∧ Cond.instanceMethod q.1 ∈ tables_1
theorem lw_p0 : lw_okq (⟨"NoonTrains$Scene", "forgetToday", "()V"⟩, 12) := ⟨⟨by decide +kernel, by decide +kernel⟩, List.mem_of_getElem? (i := 119) (by decide +kernel), List.mem_of_getElem? (i := 132) (by decide +kernel), List.mem_of_getElem? (i := 133) (by decide +kernel)⟩
theorem lw_p1 : lw_okq (⟨"NoonTrains$Scene", "isWithSeeker", "()Z"⟩, 12) := ⟨⟨by decide +kernel, by decide +kernel⟩, List.mem_of_getElem? (i := 119) (by decide +kernel), List.mem_of_getElem? (i := 139) (by decide +kernel), List.mem_of_getElem? (i := 140) (by decide +kernel)⟩
theorem lw_p2 : lw_okq (⟨"NoonTrains$Reader", "readLine", "()Z"⟩, 7) := ⟨⟨by decide +kernel, by decide +kernel⟩, List.mem_of_getElem? (i := 87) (by decide +kernel), List.mem_of_getElem? (i := 352) (by decide +kernel), List.mem_of_getElem? (i := 353) (by decide +kernel)⟩
theorem lw_p3 : lw_okq (⟨"NoonTrains$Reader", "step", "()V"⟩, 7) := ⟨⟨by decide +kernel, by decide +kernel⟩, List.mem_of_getElem? (i := 87) (by decide +kernel), List.mem_of_getElem? (i := 356) (by decide +kernel), List.mem_of_getElem? (i := 357) (by decide +kernel)⟩
theorem lw_p4 : lw_okq (⟨"NoonTrains$Reader", "sortAt", "(I)I"⟩, 7) := ⟨⟨by decide +kernel, by decide +kernel⟩, List.mem_of_getElem? (i := 87) (by decide +kernel), List.mem_of_getElem? (i := 364) (by decide +kernel), List.mem_of_getElem? (i := 365) (by decide +kernel)⟩
theorem lw_p5 : lw_okq (⟨"NoonTrains$Reader", "lineOfWord", "()I"⟩, 7) := ⟨⟨by decide +kernel, by decide +kernel⟩, List.mem_of_getElem? (i := 87) (by decide +kernel), List.mem_of_getElem? (i := 369) (by decide +kernel), List.mem_of_getElem? (i := 370) (by decide +kernel)⟩
theorem lw_p6 : lw_okq (⟨"NoonTrains$Reader", "spells", "(Ljava/lang/String;)Z"⟩, 7) := ⟨⟨by decide +kernel, by decide +kernel⟩, List.mem_of_getElem? (i := 87) (by decide +kernel), List.mem_of_getElem? (i := 374) (by decide +kernel), List.mem_of_getElem? (i := 375) (by decide +kernel)⟩
theorem lw_p7 : lw_okq (⟨"NoonTrains$Reader", "tokenValue", "()I"⟩, 7) := ⟨⟨by decide +kernel, by decide +kernel⟩, List.mem_of_getElem? (i := 87) (by decide +kernel), List.mem_of_getElem? (i := 438) (by decide +kernel), List.mem_of_getElem? (i := 439) (by decide +kernel)⟩
theorem lw_p8 : lw_okq (⟨"NoonTrains$Reader", "fits", "(III)Z"⟩, 7) := ⟨⟨by decide +kernel, by decide +kernel⟩, List.mem_of_getElem? (i := 87) (by decide +kernel), List.mem_of_getElem? (i := 442) (by decide +kernel), List.mem_of_getElem? (i := 443) (by decide +kernel)⟩
theorem lw_p9 : lw_okq (⟨"NoonTrains$Reader", "fitsTrain", "(II)Z"⟩, 7) := ⟨⟨by decide +kernel, by decide +kernel⟩, List.mem_of_getElem? (i := 87) (by decide +kernel), List.mem_of_getElem? (i := 446) (by decide +kernel), List.mem_of_getElem? (i := 447) (by decide +kernel)⟩
theorem lw_p10 : lw_okq (⟨"NoonTrains$Reader", "draw", "(I)V"⟩, 7) := ⟨⟨by decide +kernel, by decide +kernel⟩, List.mem_of_getElem? (i := 87) (by decide +kernel), List.mem_of_getElem? (i := 457) (by decide +kernel), List.mem_of_getElem? (i := 458) (by decide +kernel)⟩
theorem lw_p11 : lw_okq (⟨"NoonTrains$Reader", "drawTrain", "()V"⟩, 7) := ⟨⟨by decide +kernel, by decide +kernel⟩, List.mem_of_getElem? (i := 87) (by decide +kernel), List.mem_of_getElem? (i := 466) (by decide +kernel), List.mem_of_getElem? (i := 467) (by decide +kernel)⟩
theorem lw_p12 : lw_okq (⟨"NoonTrains", "isSuch", "(II)Z"⟩, 10) := ⟨⟨by decide +kernel, by decide +kernel⟩, List.mem_of_getElem? (i := 19) (by decide +kernel), List.mem_of_getElem? (i := 528) (by decide +kernel), List.mem_of_getElem? (i := 529) (by decide +kernel)⟩
theorem lw_p13 : lw_okq (⟨"NoonTrains$Scene", "learnTicket", "()V"⟩, 12) := ⟨⟨by decide +kernel, by decide +kernel⟩, List.mem_of_getElem? (i := 119) (by decide +kernel), List.mem_of_getElem? (i := 586) (by decide +kernel), List.mem_of_getElem? (i := 587) (by decide +kernel)⟩
theorem lw_p14 : lw_okq (⟨"NoonTrains$Scene", "moveHim", "()V"⟩, 12) := ⟨⟨by decide +kernel, by decide +kernel⟩, List.mem_of_getElem? (i := 119) (by decide +kernel), List.mem_of_getElem? (i := 590) (by decide +kernel), List.mem_of_getElem? (i := 591) (by decide +kernel)⟩
theorem lw_p15 : lw_okq (⟨"NoonTrains$Scene", "learnPlaces", "()V"⟩, 12) := ⟨⟨by decide +kernel, by decide +kernel⟩, List.mem_of_getElem? (i := 119) (by decide +kernel), List.mem_of_getElem? (i := 595) (by decide +kernel), List.mem_of_getElem? (i := 596) (by decide +kernel)⟩
def lw_privs_1 : List (MethodName × Nat) := [(⟨"NoonTrains$Scene", "forgetToday", "()V"⟩, 12), (⟨"NoonTrains$Scene", "isWithSeeker", "()Z"⟩, 12), (⟨"NoonTrains$Reader", "readLine", "()Z"⟩, 7), (⟨"NoonTrains$Reader", "step", "()V"⟩, 7), (⟨"NoonTrains$Reader", "sortAt", "(I)I"⟩, 7), (⟨"NoonTrains$Reader", "lineOfWord", "()I"⟩, 7), (⟨"NoonTrains$Reader", "spells", "(Ljava/lang/String;)Z"⟩, 7), (⟨"NoonTrains$Reader", "tokenValue", "()I"⟩, 7), (⟨"NoonTrains$Reader", "fits", "(III)Z"⟩, 7), (⟨"NoonTrains$Reader", "fitsTrain", "(II)Z"⟩, 7), (⟨"NoonTrains$Reader", "draw", "(I)V"⟩, 7), (⟨"NoonTrains$Reader", "drawTrain", "()V"⟩, 7), (⟨"NoonTrains", "isSuch", "(II)Z"⟩, 10), (⟨"NoonTrains$Scene", "learnTicket", "()V"⟩, 12), (⟨"NoonTrains$Scene", "moveHim", "()V"⟩, 12), (⟨"NoonTrains$Scene", "learnPlaces", "()V"⟩, 12)]
theorem lw_r1 : ∀ q ∈ lw_privs_1, lw_okq q := List.forall_mem_cons.mpr ⟨lw_p0, List.forall_mem_cons.mpr ⟨lw_p1, List.forall_mem_cons.mpr ⟨lw_p2, List.forall_mem_cons.mpr ⟨lw_p3, List.forall_mem_cons.mpr ⟨lw_p4, List.forall_mem_cons.mpr ⟨lw_p5, List.forall_mem_cons.mpr ⟨lw_p6, List.forall_mem_cons.mpr ⟨lw_p7, List.forall_mem_cons.mpr ⟨lw_p8, List.forall_mem_cons.mpr ⟨lw_p9, List.forall_mem_cons.mpr ⟨lw_p10, List.forall_mem_cons.mpr ⟨lw_p11, List.forall_mem_cons.mpr ⟨lw_p12, List.forall_mem_cons.mpr ⟨lw_p13, List.forall_mem_cons.mpr ⟨lw_p14, List.forall_mem_cons.mpr ⟨lw_p15, fun _ h => absurd h List.not_mem_nil⟩⟩⟩⟩⟩⟩⟩⟩⟩⟩⟩⟩⟩⟩⟩⟩
theorem lw_p16 : lw_okq (⟨"NoonTrains$Foresight", "choices", "(I)I"⟩, 6) := ⟨⟨by decide +kernel, by decide +kernel⟩, List.mem_of_getElem? (i := 196) (by decide +kernel), List.mem_of_getElem? (i := 633) (by decide +kernel), List.mem_of_getElem? (i := 634) (by decide +kernel)⟩
theorem lw_p17 : lw_okq (⟨"NoonTrains$Foresight", "leftBy", "(I)I"⟩, 6) := ⟨⟨by decide +kernel, by decide +kernel⟩, List.mem_of_getElem? (i := 196) (by decide +kernel), List.mem_of_getElem? (i := 655) (by decide +kernel), List.mem_of_getElem? (i := 656) (by decide +kernel)⟩
theorem lw_p18 : lw_okq (⟨"NoonTrains$Pursuit", "markCaught", "()V"⟩, 10) := ⟨⟨by decide +kernel, by decide +kernel⟩, List.mem_of_getElem? (i := 225) (by decide +kernel), List.mem_of_getElem? (i := 676) (by decide +kernel), List.mem_of_getElem? (i := 677) (by decide +kernel)⟩
theorem lw_p19 : lw_okq (⟨"NoonTrains$Pursuit", "gather", "(II)V"⟩, 10) := ⟨⟨by decide +kernel, by decide +kernel⟩, List.mem_of_getElem? (i := 225) (by decide +kernel), List.mem_of_getElem? (i := 683) (by decide +kernel), List.mem_of_getElem? (i := 684) (by decide +kernel)⟩
theorem lw_p20 : lw_okq (⟨"NoonTrains$Pursuit", "foldHim", "()V"⟩, 10) := ⟨⟨by decide +kernel, by decide +kernel⟩, List.mem_of_getElem? (i := 225) (by decide +kernel), List.mem_of_getElem? (i := 693) (by decide +kernel), List.mem_of_getElem? (i := 694) (by decide +kernel)⟩
theorem lw_p21 : lw_okq (⟨"NoonTrains$Pursuit", "foldZero", "()V"⟩, 10) := ⟨⟨by decide +kernel, by decide +kernel⟩, List.mem_of_getElem? (i := 225) (by decide +kernel), List.mem_of_getElem? (i := 701) (by decide +kernel), List.mem_of_getElem? (i := 702) (by decide +kernel)⟩
theorem lw_p22 : lw_okq (⟨"NoonTrains$Pursuit", "foldOne", "()V"⟩, 10) := ⟨⟨by decide +kernel, by decide +kernel⟩, List.mem_of_getElem? (i := 225) (by decide +kernel), List.mem_of_getElem? (i := 705) (by decide +kernel), List.mem_of_getElem? (i := 706) (by decide +kernel)⟩
theorem lw_p23 : lw_okq (⟨"NoonTrains$Rides", "spend", "(I)Z"⟩, 6) := ⟨⟨by decide +kernel, by decide +kernel⟩, List.mem_of_getElem? (i := 264) (by decide +kernel), List.mem_of_getElem? (i := 748) (by decide +kernel), List.mem_of_getElem? (i := 749) (by decide +kernel)⟩
theorem lw_p24 : lw_okq (⟨"NoonTrains$Rides", "rideOn", "(II)V"⟩, 6) := ⟨⟨by decide +kernel, by decide +kernel⟩, List.mem_of_getElem? (i := 264) (by decide +kernel), List.mem_of_getElem? (i := 764) (by decide +kernel), List.mem_of_getElem? (i := 765) (by decide +kernel)⟩
theorem lw_p25 : lw_okq (⟨"NoonTrains$Rides", "arrive", "(IJ)V"⟩, 6) := ⟨⟨by decide +kernel, by decide +kernel⟩, List.mem_of_getElem? (i := 264) (by decide +kernel), List.mem_of_getElem? (i := 769) (by decide +kernel), List.mem_of_getElem? (i := 770) (by decide +kernel)⟩
theorem lw_p26 : lw_okq (⟨"NoonTrains", "image", "(I)LNoonTrains$Scene;"⟩, 10) := ⟨⟨by decide +kernel, by decide +kernel⟩, List.mem_of_getElem? (i := 19) (by decide +kernel), List.mem_of_getElem? (i := 785) (by decide +kernel), List.mem_of_getElem? (i := 786) (by decide +kernel)⟩
theorem lw_p27 : lw_okq (⟨"NoonTrainsModel", "begin", "()V"⟩, 26) := ⟨⟨by decide +kernel, by decide +kernel⟩, List.mem_of_getElem? (i := 802) (by decide +kernel), List.mem_of_getElem? (i := 808) (by decide +kernel), List.mem_of_getElem? (i := 809) (by decide +kernel)⟩
theorem lw_p28 : lw_okq (⟨"NoonTrainsModel", "token", "()V"⟩, 26) := ⟨⟨by decide +kernel, by decide +kernel⟩, List.mem_of_getElem? (i := 802) (by decide +kernel), List.mem_of_getElem? (i := 909) (by decide +kernel), List.mem_of_getElem? (i := 910) (by decide +kernel)⟩
theorem lw_p29 : lw_okq (⟨"NoonTrainsModel", "readsLine", "()Z"⟩, 26) := ⟨⟨by decide +kernel, by decide +kernel⟩, List.mem_of_getElem? (i := 802) (by decide +kernel), List.mem_of_getElem? (i := 916) (by decide +kernel), List.mem_of_getElem? (i := 917) (by decide +kernel)⟩
theorem lw_p30 : lw_okq (⟨"NoonTrainsModel", "wordOf", "()I"⟩, 26) := ⟨⟨by decide +kernel, by decide +kernel⟩, List.mem_of_getElem? (i := 802) (by decide +kernel), List.mem_of_getElem? (i := 920) (by decide +kernel), List.mem_of_getElem? (i := 921) (by decide +kernel)⟩
theorem lw_p31 : lw_okq (⟨"NoonTrainsModel", "isWord", "(JI)Z"⟩, 26) := ⟨⟨by decide +kernel, by decide +kernel⟩, List.mem_of_getElem? (i := 802) (by decide +kernel), List.mem_of_getElem? (i := 925) (by decide +kernel), List.mem_of_getElem? (i := 926) (by decide +kernel)⟩
def lw_privs_2 : List (MethodName × Nat) := [(⟨"NoonTrains$Foresight", "choices", "(I)I"⟩, 6), (⟨"NoonTrains$Foresight", "leftBy", "(I)I"⟩, 6), (⟨"NoonTrains$Pursuit", "markCaught", "()V"⟩, 10), (⟨"NoonTrains$Pursuit", "gather", "(II)V"⟩, 10), (⟨"NoonTrains$Pursuit", "foldHim", "()V"⟩, 10), (⟨"NoonTrains$Pursuit", "foldZero", "()V"⟩, 10), (⟨"NoonTrains$Pursuit", "foldOne", "()V"⟩, 10), (⟨"NoonTrains$Rides", "spend", "(I)Z"⟩, 6), (⟨"NoonTrains$Rides", "rideOn", "(II)V"⟩, 6), (⟨"NoonTrains$Rides", "arrive", "(IJ)V"⟩, 6), (⟨"NoonTrains", "image", "(I)LNoonTrains$Scene;"⟩, 10), (⟨"NoonTrainsModel", "begin", "()V"⟩, 26), (⟨"NoonTrainsModel", "token", "()V"⟩, 26), (⟨"NoonTrainsModel", "readsLine", "()Z"⟩, 26), (⟨"NoonTrainsModel", "wordOf", "()I"⟩, 26), (⟨"NoonTrainsModel", "isWord", "(JI)Z"⟩, 26)]
theorem lw_r2 : ∀ q ∈ lw_privs_2, lw_okq q := List.forall_mem_cons.mpr ⟨lw_p16, List.forall_mem_cons.mpr ⟨lw_p17, List.forall_mem_cons.mpr ⟨lw_p18, List.forall_mem_cons.mpr ⟨lw_p19, List.forall_mem_cons.mpr ⟨lw_p20, List.forall_mem_cons.mpr ⟨lw_p21, List.forall_mem_cons.mpr ⟨lw_p22, List.forall_mem_cons.mpr ⟨lw_p23, List.forall_mem_cons.mpr ⟨lw_p24, List.forall_mem_cons.mpr ⟨lw_p25, List.forall_mem_cons.mpr ⟨lw_p26, List.forall_mem_cons.mpr ⟨lw_p27, List.forall_mem_cons.mpr ⟨lw_p28, List.forall_mem_cons.mpr ⟨lw_p29, List.forall_mem_cons.mpr ⟨lw_p30, List.forall_mem_cons.mpr ⟨lw_p31, fun _ h => absurd h List.not_mem_nil⟩⟩⟩⟩⟩⟩⟩⟩⟩⟩⟩⟩⟩⟩⟩⟩
theorem lw_p32 : lw_okq (⟨"NoonTrainsModel", "readsRest", "(I)Z"⟩, 26) := ⟨⟨by decide +kernel, by decide +kernel⟩, List.mem_of_getElem? (i := 802) (by decide +kernel), List.mem_of_getElem? (i := 935) (by decide +kernel), List.mem_of_getElem? (i := 936) (by decide +kernel)⟩
theorem lw_p33 : lw_okq (⟨"NoonTrainsModel", "reads", "(IIII)Z"⟩, 26) := ⟨⟨by decide +kernel, by decide +kernel⟩, List.mem_of_getElem? (i := 802) (by decide +kernel), List.mem_of_getElem? (i := 939) (by decide +kernel), List.mem_of_getElem? (i := 940) (by decide +kernel)⟩
theorem lw_p34 : lw_okq (⟨"NoonTrainsModel", "readsTrain", "()Z"⟩, 26) := ⟨⟨by decide +kernel, by decide +kernel⟩, List.mem_of_getElem? (i := 802) (by decide +kernel), List.mem_of_getElem? (i := 943) (by decide +kernel), List.mem_of_getElem? (i := 944) (by decide +kernel)⟩
theorem lw_p35 : lw_okq (⟨"NoonTrainsModel", "tell", "(I)V"⟩, 26) := ⟨⟨by decide +kernel, by decide +kernel⟩, List.mem_of_getElem? (i := 802) (by decide +kernel), List.mem_of_getElem? (i := 952) (by decide +kernel), List.mem_of_getElem? (i := 953) (by decide +kernel)⟩
theorem lw_p36 : lw_okq (⟨"NoonTrainsModel", "isTrain", "(I)Z"⟩, 26) := ⟨⟨by decide +kernel, by decide +kernel⟩, List.mem_of_getElem? (i := 802) (by decide +kernel), List.mem_of_getElem? (i := 960) (by decide +kernel), List.mem_of_getElem? (i := 961) (by decide +kernel)⟩
theorem lw_p37 : lw_okq (⟨"NoonTrainsModel", "leaves", "(III)Z"⟩, 26) := ⟨⟨by decide +kernel, by decide +kernel⟩, List.mem_of_getElem? (i := 802) (by decide +kernel), List.mem_of_getElem? (i := 969) (by decide +kernel), List.mem_of_getElem? (i := 970) (by decide +kernel)⟩
theorem lw_p38 : lw_okq (⟨"NoonTrainsModel", "hisTrains", "()I"⟩, 26) := ⟨⟨by decide +kernel, by decide +kernel⟩, List.mem_of_getElem? (i := 802) (by decide +kernel), List.mem_of_getElem? (i := 982) (by decide +kernel), List.mem_of_getElem? (i := 983) (by decide +kernel)⟩
theorem lw_p39 : lw_okq (⟨"NoonTrainsModel", "ridable", "(I)I"⟩, 26) := ⟨⟨by decide +kernel, by decide +kernel⟩, List.mem_of_getElem? (i := 802) (by decide +kernel), List.mem_of_getElem? (i := 986) (by decide +kernel), List.mem_of_getElem? (i := 987) (by decide +kernel)⟩
theorem lw_p40 : lw_okq (⟨"NoonTrainsModel", "nextOf", "()I"⟩, 26) := ⟨⟨by decide +kernel, by decide +kernel⟩, List.mem_of_getElem? (i := 802) (by decide +kernel), List.mem_of_getElem? (i := 1004) (by decide +kernel), List.mem_of_getElem? (i := 1005) (by decide +kernel)⟩
theorem lw_p41 : lw_okq (⟨"NoonTrainsModel", "layByNone", "()V"⟩, 26) := ⟨⟨by decide +kernel, by decide +kernel⟩, List.mem_of_getElem? (i := 802) (by decide +kernel), List.mem_of_getElem? (i := 1008) (by decide +kernel), List.mem_of_getElem? (i := 1009) (by decide +kernel)⟩
theorem lw_p42 : lw_okq (⟨"NoonTrainsModel", "layBy", "(I)V"⟩, 26) := ⟨⟨by decide +kernel, by decide +kernel⟩, List.mem_of_getElem? (i := 802) (by decide +kernel), List.mem_of_getElem? (i := 1012) (by decide +kernel), List.mem_of_getElem? (i := 1013) (by decide +kernel)⟩
theorem lw_p43 : lw_okq (⟨"NoonTrainsModel", "reach", "(III)I"⟩, 26) := ⟨⟨by decide +kernel, by decide +kernel⟩, List.mem_of_getElem? (i := 802) (by decide +kernel), List.mem_of_getElem? (i := 1044) (by decide +kernel), List.mem_of_getElem? (i := 1045) (by decide +kernel)⟩
theorem lw_p44 : lw_okq (⟨"NoonTrainsModel", "nightsFrom", "(III)I"⟩, 26) := ⟨⟨by decide +kernel, by decide +kernel⟩, List.mem_of_getElem? (i := 802) (by decide +kernel), List.mem_of_getElem? (i := 1048) (by decide +kernel), List.mem_of_getElem? (i := 1049) (by decide +kernel)⟩
theorem lw_p45 : lw_okq (⟨"NoonTrainsModel", "isNoChase", "()Z"⟩, 26) := ⟨⟨by decide +kernel, by decide +kernel⟩, List.mem_of_getElem? (i := 802) (by decide +kernel), List.mem_of_getElem? (i := 1063) (by decide +kernel), List.mem_of_getElem? (i := 1064) (by decide +kernel)⟩
theorem lw_p46 : lw_okq (⟨"NoonTrainsModel", "chaseBy", "(I)I"⟩, 26) := ⟨⟨by decide +kernel, by decide +kernel⟩, List.mem_of_getElem? (i := 802) (by decide +kernel), List.mem_of_getElem? (i := 1067) (by decide +kernel), List.mem_of_getElem? (i := 1068) (by decide +kernel)⟩
theorem lw_p47 : lw_okq (⟨"NoonTrainsModel", "bestFrom", "(IIIII)I"⟩, 26) := ⟨⟨by decide +kernel, by decide +kernel⟩, List.mem_of_getElem? (i := 802) (by decide +kernel), List.mem_of_getElem? (i := 1071) (by decide +kernel), List.mem_of_getElem? (i := 1072) (by decide +kernel)⟩
def lw_privs_3 : List (MethodName × Nat) := [(⟨"NoonTrainsModel", "readsRest", "(I)Z"⟩, 26), (⟨"NoonTrainsModel", "reads", "(IIII)Z"⟩, 26), (⟨"NoonTrainsModel", "readsTrain", "()Z"⟩, 26), (⟨"NoonTrainsModel", "tell", "(I)V"⟩, 26), (⟨"NoonTrainsModel", "isTrain", "(I)Z"⟩, 26), (⟨"NoonTrainsModel", "leaves", "(III)Z"⟩, 26), (⟨"NoonTrainsModel", "hisTrains", "()I"⟩, 26), (⟨"NoonTrainsModel", "ridable", "(I)I"⟩, 26), (⟨"NoonTrainsModel", "nextOf", "()I"⟩, 26), (⟨"NoonTrainsModel", "layByNone", "()V"⟩, 26), (⟨"NoonTrainsModel", "layBy", "(I)V"⟩, 26), (⟨"NoonTrainsModel", "reach", "(III)I"⟩, 26), (⟨"NoonTrainsModel", "nightsFrom", "(III)I"⟩, 26), (⟨"NoonTrainsModel", "isNoChase", "()Z"⟩, 26), (⟨"NoonTrainsModel", "chaseBy", "(I)I"⟩, 26), (⟨"NoonTrainsModel", "bestFrom", "(IIIII)I"⟩, 26)]
theorem lw_r3 : ∀ q ∈ lw_privs_3, lw_okq q := List.forall_mem_cons.mpr ⟨lw_p32, List.forall_mem_cons.mpr ⟨lw_p33, List.forall_mem_cons.mpr ⟨lw_p34, List.forall_mem_cons.mpr ⟨lw_p35, List.forall_mem_cons.mpr ⟨lw_p36, List.forall_mem_cons.mpr ⟨lw_p37, List.forall_mem_cons.mpr ⟨lw_p38, List.forall_mem_cons.mpr ⟨lw_p39, List.forall_mem_cons.mpr ⟨lw_p40, List.forall_mem_cons.mpr ⟨lw_p41, List.forall_mem_cons.mpr ⟨lw_p42, List.forall_mem_cons.mpr ⟨lw_p43, List.forall_mem_cons.mpr ⟨lw_p44, List.forall_mem_cons.mpr ⟨lw_p45, List.forall_mem_cons.mpr ⟨lw_p46, List.forall_mem_cons.mpr ⟨lw_p47, fun _ h => absurd h List.not_mem_nil⟩⟩⟩⟩⟩⟩⟩⟩⟩⟩⟩⟩⟩⟩⟩⟩
theorem lw_p48 : lw_okq (⟨"NoonTrainsModel", "worst", "(IIII)I"⟩, 26) := ⟨⟨by decide +kernel, by decide +kernel⟩, List.mem_of_getElem? (i := 802) (by decide +kernel), List.mem_of_getElem? (i := 1075) (by decide +kernel), List.mem_of_getElem? (i := 1076) (by decide +kernel)⟩
theorem lw_p49 : lw_okq (⟨"NoonTrainsModel", "rideLate", "(II)V"⟩, 26) := ⟨⟨by decide +kernel, by decide +kernel⟩, List.mem_of_getElem? (i := 802) (by decide +kernel), List.mem_of_getElem? (i := 1105) (by decide +kernel), List.mem_of_getElem? (i := 1106) (by decide +kernel)⟩
theorem lw_p50 : lw_okq (⟨"NoonTrainsModel", "addThen", "(IJ)V"⟩, 26) := ⟨⟨by decide +kernel, by decide +kernel⟩, List.mem_of_getElem? (i := 802) (by decide +kernel), List.mem_of_getElem? (i := 1109) (by decide +kernel), List.mem_of_getElem? (i := 1110) (by decide +kernel)⟩
theorem lw_p51 : lw_okq (⟨"NoonTrainsModel", "copy", "(II)V"⟩, 26) := ⟨⟨by decide +kernel, by decide +kernel⟩, List.mem_of_getElem? (i := 802) (by decide +kernel), List.mem_of_getElem? (i := 1120) (by decide +kernel), List.mem_of_getElem? (i := 1121) (by decide +kernel)⟩
def lw_privs_4 : List (MethodName × Nat) := [(⟨"NoonTrainsModel", "worst", "(IIII)I"⟩, 26), (⟨"NoonTrainsModel", "rideLate", "(II)V"⟩, 26), (⟨"NoonTrainsModel", "addThen", "(IJ)V"⟩, 26), (⟨"NoonTrainsModel", "copy", "(II)V"⟩, 26)]
theorem lw_r4 : ∀ q ∈ lw_privs_4, lw_okq q := List.forall_mem_cons.mpr ⟨lw_p48, List.forall_mem_cons.mpr ⟨lw_p49, List.forall_mem_cons.mpr ⟨lw_p50, List.forall_mem_cons.mpr ⟨lw_p51, fun _ h => absurd h List.not_mem_nil⟩⟩⟩⟩
def lw_privs : List (MethodName × Nat) := lw_privs_1 ++ (lw_privs_2 ++ (lw_privs_3 ++ (lw_privs_4)))
def lw_tbl : List Cond := k2_sels lw_privs ++ tables_1
theorem lw_privs_ok : ∀ q ∈ lw_privs, lw_okq q := by
  show ∀ q ∈ lw_privs_1 ++ (lw_privs_2 ++ (lw_privs_3 ++ (lw_privs_4))), lw_okq q
  exact List.forall_mem_append.mpr ⟨lw_r1, List.forall_mem_append.mpr ⟨lw_r2, List.forall_mem_append.mpr ⟨lw_r3, lw_r4⟩⟩⟩
end
section
def RX0 : String := "NoonTrains$Foresight"
def TX0 : u_T := fun k => match k with
  | 0 => ("NoonTrains$Foresight", "land", "LNoonTrains$Land;", true)
  | 1 => ("NoonTrains$Foresight", "scene", "LNoonTrains$Scene;", true)
  | 2 => ("NoonTrains$Foresight", "most", "I", false)
  | 3 => ("NoonTrains$Foresight", "placeZero", "I", false)
  | 4 => ("NoonTrains$Foresight", "placeOne", "I", false)
  | _ => ("NoonTrains$Foresight", "hidingTrain", "I", false)
def tyX0 : Nat → FieldType := fun k => match k with
  | 0 => .object "NoonTrains$Land"
  | 1 => .object "NoonTrains$Scene"
  | 2 => .int
  | 3 => .int
  | 4 => .int
  | _ => .int
theorem nmX0 : ∀ a, a < 6 → ∀ b, b < 6 → a ≠ b → (TX0 a).2.1 ≠ (TX0 b).2.1 := by decide +kernel
theorem tyX0_ok : ∀ k, k < 6 → parseFieldDescriptor (TX0 k).2.2.1 = some (tyX0 k) := by decide +kernel
abbrev cX0_init : ByteArray := prog_2_method_1_code
def yX0_init : MethodName := ⟨RX0, "<init>", "(LNoonTrains$Land;LNoonTrains$Scene;)V"⟩
abbrev cX0_stand : ByteArray := prog_2_method_2_code
def yX0_stand : MethodName := ⟨RX0, "stand", "()V"⟩
abbrev cX0_choices : ByteArray := prog_2_method_3_code
def yX0_choices : MethodName := ⟨RX0, "choices", "(I)I"⟩
abbrev cX0_hide : ByteArray := prog_2_method_4_code
def yX0_hide : MethodName := ⟨RX0, "hide", "()V"⟩
abbrev cX0_leftBy : ByteArray := prog_2_method_5_code
def yX0_leftBy : MethodName := ⟨RX0, "leftBy", "(I)I"⟩
def RX1 : String := "NoonTrains$Land"
def TX1 : u_T := fun k => match k with
  | 0 => ("NoonTrains$Land", "stations", "I", false)
  | 1 => ("NoonTrains$Land", "trains", "I", false)
  | 2 => ("NoonTrains$Land", "start", "I", false)
  | 3 => ("NoonTrains$Land", "show", "I", false)
  | 4 => ("NoonTrains$Land", "rows", "[I", true)
  | 5 => ("NoonTrains$Land", "tickets", "[I", true)
  | _ => ("NoonTrains$Land", "seekers", "[I", true)
def tyX1 : Nat → FieldType := fun k => match k with
  | 0 => .int
  | 1 => .int
  | 2 => .int
  | 3 => .int
  | 4 => .array .int
  | 5 => .array .int
  | _ => .array .int
theorem nmX1 : ∀ a, a < 7 → ∀ b, b < 7 → a ≠ b → (TX1 a).2.1 ≠ (TX1 b).2.1 := by decide +kernel
theorem tyX1_ok : ∀ k, k < 7 → parseFieldDescriptor (TX1 k).2.2.1 = some (tyX1 k) := by decide +kernel
abbrev cX1_init : ByteArray := prog_3_method_1_code
def yX1_init : MethodName := ⟨RX1, "<init>", "()V"⟩
abbrev cX1_copy : ByteArray := prog_3_method_2_code
def yX1_copy : MethodName := ⟨RX1, "copy", "(LNoonTrains$Land;)V"⟩
abbrev cX1_clear : ByteArray := prog_3_method_3_code
def yX1_clear : MethodName := ⟨RX1, "clear", "(I)V"⟩
abbrev cX1_setPart : ByteArray := prog_3_method_4_code
def yX1_setPart : MethodName := ⟨RX1, "setPart", "(III)V"⟩
abbrev cX1_setTickets : ByteArray := prog_3_method_5_code
def yX1_setTickets : MethodName := ⟨RX1, "setTickets", "(II)V"⟩
abbrev cX1_setSeeker : ByteArray := prog_3_method_6_code
def yX1_setSeeker : MethodName := ⟨RX1, "setSeeker", "(II)V"⟩
abbrev cX1_hasStation : ByteArray := prog_3_method_7_code
def yX1_hasStation : MethodName := ⟨RX1, "hasStation", "(I)Z"⟩
abbrev cX1_hasTrain : ByteArray := prog_3_method_8_code
def yX1_hasTrain : MethodName := ⟨RX1, "hasTrain", "(I)Z"⟩
abbrev cX1_isFull : ByteArray := prog_3_method_9_code
def yX1_isFull : MethodName := ⟨RX1, "isFull", "()Z"⟩
abbrev cX1_part : ByteArray := prog_3_method_10_code
def yX1_part : MethodName := ⟨RX1, "part", "(II)I"⟩
abbrev cX1_runsOn : ByteArray := prog_3_method_11_code
def yX1_runsOn : MethodName := ⟨RX1, "runsOn", "(II)Z"⟩
abbrev cX1_leaves : ByteArray := prog_3_method_12_code
def yX1_leaves : MethodName := ⟨RX1, "leaves", "(III)Z"⟩
abbrev cX1_rideable : ByteArray := prog_3_method_13_code
def yX1_rideable : MethodName := ⟨RX1, "rideable", "(III)I"⟩
abbrev cX1_reached : ByteArray := prog_3_method_14_code
def yX1_reached : MethodName := ⟨RX1, "reached", "(IIII)I"⟩
abbrev cX1_stuck : ByteArray := prog_3_method_15_code
def yX1_stuck : MethodName := ⟨RX1, "stuck", "(III)I"⟩
def RX2 : String := "NoonTrains$Pursuit"
def TX2 : u_T := fun k => match k with
  | 0 => ("NoonTrains$Pursuit", "land", "LNoonTrains$Land;", true)
  | 1 => ("NoonTrains$Pursuit", "scene", "LNoonTrains$Scene;", true)
  | 2 => ("NoonTrains$Pursuit", "days", "[I", true)
  | 3 => ("NoonTrains$Pursuit", "behindHim", "[I", true)
  | 4 => ("NoonTrains$Pursuit", "behindZero", "[I", true)
  | 5 => ("NoonTrains$Pursuit", "froms", "[I", true)
  | 6 => ("NoonTrains$Pursuit", "tos", "[I", true)
  | 7 => ("NoonTrains$Pursuit", "running", "I", false)
  | 8 => ("NoonTrains$Pursuit", "closedTrain", "I", false)
  | _ => ("NoonTrains$Pursuit", "closedDays", "I", false)
def tyX2 : Nat → FieldType := fun k => match k with
  | 0 => .object "NoonTrains$Land"
  | 1 => .object "NoonTrains$Scene"
  | 2 => .array .int
  | 3 => .array .int
  | 4 => .array .int
  | 5 => .array .int
  | 6 => .array .int
  | 7 => .int
  | 8 => .int
  | _ => .int
theorem nmX2 : ∀ a, a < 10 → ∀ b, b < 10 → a ≠ b → (TX2 a).2.1 ≠ (TX2 b).2.1 := by decide +kernel
theorem tyX2_ok : ∀ k, k < 10 → parseFieldDescriptor (TX2 k).2.2.1 = some (tyX2 k) := by decide +kernel
abbrev cX2_init : ByteArray := prog_4_method_1_code
def yX2_init : MethodName := ⟨RX2, "<init>", "(LNoonTrains$Land;LNoonTrains$Scene;)V"⟩
abbrev cX2_close : ByteArray := prog_4_method_2_code
def yX2_close : MethodName := ⟨RX2, "close", "()V"⟩
abbrev cX2_fewestDays : ByteArray := prog_4_method_3_code
def yX2_fewestDays : MethodName := ⟨RX2, "fewestDays", "(II)I"⟩
abbrev cX2_placeOf : ByteArray := prog_4_method_4_code
def yX2_placeOf : MethodName := ⟨RX2, "placeOf", "(I)I"⟩
abbrev cX2_markCaught : ByteArray := prog_4_method_5_code
def yX2_markCaught : MethodName := ⟨RX2, "markCaught", "()V"⟩
abbrev cX2_gather : ByteArray := prog_4_method_6_code
def yX2_gather : MethodName := ⟨RX2, "gather", "(II)V"⟩
abbrev cX2_isStation : ByteArray := prog_4_method_7_code
def yX2_isStation : MethodName := ⟨RX2, "isStation", "(I)Z"⟩
abbrev cX2_foldHim : ByteArray := prog_4_method_8_code
def yX2_foldHim : MethodName := ⟨RX2, "foldHim", "()V"⟩
abbrev cX2_foldZero : ByteArray := prog_4_method_9_code
def yX2_foldZero : MethodName := ⟨RX2, "foldZero", "()V"⟩
abbrev cX2_foldOne : ByteArray := prog_4_method_10_code
def yX2_foldOne : MethodName := ⟨RX2, "foldOne", "()V"⟩
def RX3 : String := "NoonTrains$Reader"
def TX3 : u_T := fun k => match k with
  | 0 => ("NoonTrains$Reader", "text", "LNoonTrains$Text;", true)
  | 1 => ("NoonTrains$Reader", "draft", "LNoonTrains$Land;", true)
  | 2 => ("NoonTrains$Reader", "lines", "I", false)
  | 3 => ("NoonTrains$Reader", "fields", "[I", true)
  | 4 => ("NoonTrains$Reader", "tokenSort", "I", false)
  | 5 => ("NoonTrains$Reader", "tokenAt", "I", false)
  | _ => ("NoonTrains$Reader", "tokenPast", "I", false)
def tyX3 : Nat → FieldType := fun k => match k with
  | 0 => .object "NoonTrains$Text"
  | 1 => .object "NoonTrains$Land"
  | 2 => .int
  | 3 => .array .int
  | 4 => .int
  | 5 => .int
  | _ => .int
theorem nmX3 : ∀ a, a < 7 → ∀ b, b < 7 → a ≠ b → (TX3 a).2.1 ≠ (TX3 b).2.1 := by decide +kernel
theorem tyX3_ok : ∀ k, k < 7 → parseFieldDescriptor (TX3 k).2.2.1 = some (tyX3 k) := by decide +kernel
abbrev cX3_init : ByteArray := prog_5_method_1_code
def yX3_init : MethodName := ⟨RX3, "<init>", "(LNoonTrains$Text;)V"⟩
abbrev cX3_firstFault : ByteArray := prog_5_method_2_code
def yX3_firstFault : MethodName := ⟨RX3, "firstFault", "(LNoonTrains$Land;)I"⟩
abbrev cX3_readLine : ByteArray := prog_5_method_3_code
def yX3_readLine : MethodName := ⟨RX3, "readLine", "()Z"⟩
abbrev cX3_step : ByteArray := prog_5_method_4_code
def yX3_step : MethodName := ⟨RX3, "step", "()V"⟩
abbrev cX3_sortAt : ByteArray := prog_5_method_5_code
def yX3_sortAt : MethodName := ⟨RX3, "sortAt", "(I)I"⟩
abbrev cX3_lineOfWord : ByteArray := prog_5_method_6_code
def yX3_lineOfWord : MethodName := ⟨RX3, "lineOfWord", "()I"⟩
abbrev cX3_spells : ByteArray := prog_5_method_7_code
def yX3_spells : MethodName := ⟨RX3, "spells", "(Ljava/lang/String;)Z"⟩
abbrev cX3_tokenValue : ByteArray := prog_5_method_8_code
def yX3_tokenValue : MethodName := ⟨RX3, "tokenValue", "()I"⟩
abbrev cX3_fieldsOf : ByteArray := prog_5_method_9_code
def yX3_fieldsOf : MethodName := ⟨RX3, "fieldsOf", "(I)I"⟩
abbrev cX3_fits : ByteArray := prog_5_method_10_code
def yX3_fits : MethodName := ⟨RX3, "fits", "(III)Z"⟩
abbrev cX3_fitsTrain : ByteArray := prog_5_method_11_code
def yX3_fitsTrain : MethodName := ⟨RX3, "fitsTrain", "(II)Z"⟩
abbrev cX3_draw : ByteArray := prog_5_method_12_code
def yX3_draw : MethodName := ⟨RX3, "draw", "(I)V"⟩
abbrev cX3_drawTrain : ByteArray := prog_5_method_13_code
def yX3_drawTrain : MethodName := ⟨RX3, "drawTrain", "()V"⟩
def RX4 : String := "NoonTrains$Rides"
def TX4 : u_T := fun k => match k with
  | 0 => ("NoonTrains$Rides", "land", "LNoonTrains$Land;", true)
  | 1 => ("NoonTrains$Rides", "trains", "[I", true)
  | 2 => ("NoonTrains$Rides", "length", "I", false)
  | 3 => ("NoonTrains$Rides", "purse", "[I", true)
  | 4 => ("NoonTrains$Rides", "ways", "[J", true)
  | _ => ("NoonTrains$Rides", "waysBehind", "[J", true)
def tyX4 : Nat → FieldType := fun k => match k with
  | 0 => .object "NoonTrains$Land"
  | 1 => .array .int
  | 2 => .int
  | 3 => .array .int
  | 4 => .array .long
  | _ => .array .long
theorem nmX4 : ∀ a, a < 6 → ∀ b, b < 6 → a ≠ b → (TX4 a).2.1 ≠ (TX4 b).2.1 := by decide +kernel
theorem tyX4_ok : ∀ k, k < 6 → parseFieldDescriptor (TX4 k).2.2.1 = some (tyX4 k) := by decide +kernel
abbrev cX4_init : ByteArray := prog_6_method_1_code
def yX4_init : MethodName := ⟨RX4, "<init>", "(LNoonTrains$Land;)V"⟩
abbrev cX4_append : ByteArray := prog_6_method_2_code
def yX4_append : MethodName := ⟨RX4, "append", "(I)Z"⟩
abbrev cX4_firstImpossible : ByteArray := prog_6_method_3_code
def yX4_firstImpossible : MethodName := ⟨RX4, "firstImpossible", "()I"⟩
abbrev cX4_spend : ByteArray := prog_6_method_4_code
def yX4_spend : MethodName := ⟨RX4, "spend", "(I)Z"⟩
abbrev cX4_waysInTime : ByteArray := prog_6_method_5_code
def yX4_waysInTime : MethodName := ⟨RX4, "waysInTime", "(II)J"⟩
abbrev cX4_waysInAll : ByteArray := prog_6_method_6_code
def yX4_waysInAll : MethodName := ⟨RX4, "waysInAll", "()J"⟩
abbrev cX4_rideOn : ByteArray := prog_6_method_7_code
def yX4_rideOn : MethodName := ⟨RX4, "rideOn", "(II)V"⟩
abbrev cX4_arrive : ByteArray := prog_6_method_8_code
def yX4_arrive : MethodName := ⟨RX4, "arrive", "(IJ)V"⟩
def RX5 : String := "NoonTrains$Scene"
def TX5 : u_T := fun k => match k with
  | 0 => ("NoonTrains$Scene", "land", "LNoonTrains$Land;", true)
  | 1 => ("NoonTrains$Scene", "day", "I", false)
  | 2 => ("NoonTrains$Scene", "station", "I", false)
  | 3 => ("NoonTrains$Scene", "onWay", "Z", false)
  | 4 => ("NoonTrains$Scene", "caught", "Z", false)
  | 5 => ("NoonTrains$Scene", "ridden", "I", false)
  | 6 => ("NoonTrains$Scene", "tickets", "[I", true)
  | 7 => ("NoonTrains$Scene", "seekers", "[I", true)
  | 8 => ("NoonTrains$Scene", "sent", "[I", true)
  | 9 => ("NoonTrains$Scene", "mayBits", "I", false)
  | 10 => ("NoonTrains$Scene", "wayBits", "I", false)
  | _ => ("NoonTrains$Scene", "letterBits", "I", false)
def tyX5 : Nat → FieldType := fun k => match k with
  | 0 => .object "NoonTrains$Land"
  | 1 => .int
  | 2 => .int
  | 3 => .boolean
  | 4 => .boolean
  | 5 => .int
  | 6 => .array .int
  | 7 => .array .int
  | 8 => .array .int
  | 9 => .int
  | 10 => .int
  | _ => .int
theorem nmX5 : ∀ a, a < 12 → ∀ b, b < 12 → a ≠ b → (TX5 a).2.1 ≠ (TX5 b).2.1 := by decide +kernel
theorem tyX5_ok : ∀ k, k < 12 → parseFieldDescriptor (TX5 k).2.2.1 = some (tyX5 k) := by decide +kernel
abbrev cX5_init : ByteArray := prog_7_method_1_code
def yX5_init : MethodName := ⟨RX5, "<init>", "(LNoonTrains$Land;)V"⟩
abbrev cX5_begin : ByteArray := prog_7_method_2_code
def yX5_begin : MethodName := ⟨RX5, "begin", "()V"⟩
abbrev cX5_copy : ByteArray := prog_7_method_3_code
def yX5_copy : MethodName := ⟨RX5, "copy", "(LNoonTrains$Scene;)V"⟩
abbrev cX5_forgetToday : ByteArray := prog_7_method_4_code
def yX5_forgetToday : MethodName := ⟨RX5, "forgetToday", "()V"⟩
abbrev cX5_ticketsOf : ByteArray := prog_7_method_5_code
def yX5_ticketsOf : MethodName := ⟨RX5, "ticketsOf", "(I)I"⟩
abbrev cX5_kindsLeft : ByteArray := prog_7_method_6_code
def yX5_kindsLeft : MethodName := ⟨RX5, "kindsLeft", "()I"⟩
abbrev cX5_seekingBits : ByteArray := prog_7_method_7_code
def yX5_seekingBits : MethodName := ⟨RX5, "seekingBits", "()I"⟩
abbrev cX5_anySeeks : ByteArray := prog_7_method_8_code
def yX5_anySeeks : MethodName := ⟨RX5, "anySeeks", "()Z"⟩
abbrev cX5_rideable : ByteArray := prog_7_method_9_code
def yX5_rideable : MethodName := ⟨RX5, "rideable", "()I"⟩
abbrev cX5_canSend : ByteArray := prog_7_method_10_code
def yX5_canSend : MethodName := ⟨RX5, "canSend", "(II)Z"⟩
abbrev cX5_placeBehind : ByteArray := prog_7_method_11_code
def yX5_placeBehind : MethodName := ⟨RX5, "placeBehind", "(I)I"⟩
abbrev cX5_nextBits : ByteArray := prog_7_method_12_code
def yX5_nextBits : MethodName := ⟨RX5, "nextBits", "()I"⟩
abbrev cX5_advance : ByteArray := prog_7_method_13_code
def yX5_advance : MethodName := ⟨RX5, "advance", "()V"⟩
abbrev cX5_learnTicket : ByteArray := prog_7_method_14_code
def yX5_learnTicket : MethodName := ⟨RX5, "learnTicket", "()V"⟩
abbrev cX5_moveHim : ByteArray := prog_7_method_15_code
def yX5_moveHim : MethodName := ⟨RX5, "moveHim", "()V"⟩
abbrev cX5_learnPlaces : ByteArray := prog_7_method_16_code
def yX5_learnPlaces : MethodName := ⟨RX5, "learnPlaces", "()V"⟩
abbrev cX5_isWithSeeker : ByteArray := prog_7_method_17_code
def yX5_isWithSeeker : MethodName := ⟨RX5, "isWithSeeker", "()Z"⟩
def RX6 : String := "NoonTrains$Text"
def TX6 : u_T := fun k => match k with
  | 0 => ("NoonTrains$Text", "bytes", "[C", true)
  | _ => ("NoonTrains$Text", "length", "I", false)
def tyX6 : Nat → FieldType := fun k => match k with
  | 0 => .array .char
  | _ => .int
theorem nmX6 : ∀ a, a < 2 → ∀ b, b < 2 → a ≠ b → (TX6 a).2.1 ≠ (TX6 b).2.1 := by decide +kernel
theorem tyX6_ok : ∀ k, k < 2 → parseFieldDescriptor (TX6 k).2.2.1 = some (tyX6 k) := by decide +kernel
abbrev cX6_init : ByteArray := prog_8_method_1_code
def yX6_init : MethodName := ⟨RX6, "<init>", "()V"⟩
abbrev cX6_append : ByteArray := prog_8_method_2_code
def yX6_append : MethodName := ⟨RX6, "append", "(I)V"⟩
abbrev cX6_byteAt : ByteArray := prog_8_method_3_code
def yX6_byteAt : MethodName := ⟨RX6, "byteAt", "(I)I"⟩
def RX7 : String := "NoonTrains"
def TX7 : u_T := fun k => match k with
  | 0 => ("NoonTrains", "text", "LNoonTrains$Text;", true)
  | 1 => ("NoonTrains", "told", "LNoonTrains$Land;", true)
  | 2 => ("NoonTrains", "reader", "LNoonTrains$Reader;", true)
  | 3 => ("NoonTrains", "now", "LNoonTrains$Scene;", true)
  | 4 => ("NoonTrains", "imageZero", "LNoonTrains$Scene;", true)
  | 5 => ("NoonTrains", "imageOne", "LNoonTrains$Scene;", true)
  | 6 => ("NoonTrains", "foresight", "LNoonTrains$Foresight;", true)
  | 7 => ("NoonTrains", "pursuit", "LNoonTrains$Pursuit;", true)
  | 8 => ("NoonTrains", "rides", "LNoonTrains$Rides;", true)
  | _ => ("NoonTrains", "keptBits", "I", false)
def tyX7 : Nat → FieldType := fun k => match k with
  | 0 => .object "NoonTrains$Text"
  | 1 => .object "NoonTrains$Land"
  | 2 => .object "NoonTrains$Reader"
  | 3 => .object "NoonTrains$Scene"
  | 4 => .object "NoonTrains$Scene"
  | 5 => .object "NoonTrains$Scene"
  | 6 => .object "NoonTrains$Foresight"
  | 7 => .object "NoonTrains$Pursuit"
  | 8 => .object "NoonTrains$Rides"
  | _ => .int
theorem nmX7 : ∀ a, a < 10 → ∀ b, b < 10 → a ≠ b → (TX7 a).2.1 ≠ (TX7 b).2.1 := by decide +kernel
theorem tyX7_ok : ∀ k, k < 10 → parseFieldDescriptor (TX7 k).2.2.1 = some (tyX7 k) := by decide +kernel
abbrev cX7_init : ByteArray := prog_1_method_1_code
def yX7_init : MethodName := ⟨RX7, "<init>", "()V"⟩
abbrev cX7_write : ByteArray := prog_1_method_2_code
def yX7_write : MethodName := ⟨RX7, "write", "(JI)I"⟩
abbrev cX7_erase : ByteArray := prog_1_method_3_code
def yX7_erase : MethodName := ⟨RX7, "erase", "()I"⟩
abbrev cX7_fault : ByteArray := prog_1_method_4_code
def yX7_fault : MethodName := ⟨RX7, "fault", "()I"⟩
abbrev cX7_land : ByteArray := prog_1_method_5_code
def yX7_land : MethodName := ⟨RX7, "land", "()I"⟩
abbrev cX7_train : ByteArray := prog_1_method_6_code
def yX7_train : MethodName := ⟨RX7, "train", "(II)I"⟩
abbrev cX7_runs : ByteArray := prog_1_method_7_code
def yX7_runs : MethodName := ⟨RX7, "runs", "(II)I"⟩
abbrev cX7_as : ByteArray := prog_1_method_8_code
def yX7_as : MethodName := ⟨RX7, "as", "(II)I"⟩
abbrev cX7_isSuch : ByteArray := prog_1_method_9_code
def yX7_isSuch : MethodName := ⟨RX7, "isSuch", "(II)Z"⟩
abbrev cX7_ride : ByteArray := prog_1_method_10_code
def yX7_ride : MethodName := ⟨RX7, "ride", "(I)I"⟩
abbrev cX7_send : ByteArray := prog_1_method_11_code
def yX7_send : MethodName := ⟨RX7, "send", "(II)I"⟩
abbrev cX7_noon : ByteArray := prog_1_method_12_code
def yX7_noon : MethodName := ⟨RX7, "noon", "()I"⟩
abbrev cX7_he : ByteArray := prog_1_method_13_code
def yX7_he : MethodName := ⟨RX7, "he", "(I)I"⟩
abbrev cX7_seeker : ByteArray := prog_1_method_14_code
def yX7_seeker : MethodName := ⟨RX7, "seeker", "(I)I"⟩
abbrev cX7_may : ByteArray := prog_1_method_15_code
def yX7_may : MethodName := ⟨RX7, "may", "()I"⟩
abbrev cX7_way : ByteArray := prog_1_method_16_code
def yX7_way : MethodName := ⟨RX7, "way", "()I"⟩
abbrev cX7_next : ByteArray := prog_1_method_17_code
def yX7_next : MethodName := ⟨RX7, "next", "()I"⟩
abbrev cX7_letter : ByteArray := prog_1_method_18_code
def yX7_letter : MethodName := ⟨RX7, "letter", "()I"⟩
abbrev cX7_shut : ByteArray := prog_1_method_19_code
def yX7_shut : MethodName := ⟨RX7, "shut", "(I)I"⟩
abbrev cX7_hides : ByteArray := prog_1_method_20_code
def yX7_hides : MethodName := ⟨RX7, "hides", "(I)I"⟩
abbrev cX7_chase : ByteArray := prog_1_method_21_code
def yX7_chase : MethodName := ⟨RX7, "chase", "()I"⟩
abbrev cX7_closed : ByteArray := prog_1_method_22_code
def yX7_closed : MethodName := ⟨RX7, "closed", "(I)I"⟩
abbrev cX7_daysOrNone : ByteArray := prog_1_method_23_code
def yX7_daysOrNone : MethodName := ⟨RX7, "daysOrNone", "(I)I"⟩
abbrev cX7_log : ByteArray := prog_1_method_24_code
def yX7_log : MethodName := ⟨RX7, "log", "(I)I"⟩
abbrev cX7_burn : ByteArray := prog_1_method_25_code
def yX7_burn : MethodName := ⟨RX7, "burn", "()I"⟩
abbrev cX7_judge : ByteArray := prog_1_method_26_code
def yX7_judge : MethodName := ⟨RX7, "judge", "()I"⟩
abbrev cX7_late : ByteArray := prog_1_method_27_code
def yX7_late : MethodName := ⟨RX7, "late", "(III)J"⟩
abbrev cX7_keep : ByteArray := prog_1_method_28_code
def yX7_keep : MethodName := ⟨RX7, "keep", "(I)I"⟩
abbrev cX7_back : ByteArray := prog_1_method_29_code
def yX7_back : MethodName := ⟨RX7, "back", "(I)I"⟩
abbrev cX7_count : ByteArray := prog_1_method_30_code
def yX7_count : MethodName := ⟨RX7, "count", "(I)I"⟩
abbrev cX7_image : ByteArray := prog_1_method_31_code
def yX7_image : MethodName := ⟨RX7, "image", "(I)LNoonTrains$Scene;"⟩
abbrev cX7_isSeeker : ByteArray := prog_1_method_32_code
def yX7_isSeeker : MethodName := ⟨RX7, "isSeeker", "(I)Z"⟩
abbrev cX7_within : ByteArray := prog_1_method_33_code
def yX7_within : MethodName := ⟨RX7, "within", "(III)Z"⟩
abbrev cX7_hasBit : ByteArray := prog_1_method_34_code
def yX7_hasBit : MethodName := ⟨RX7, "hasBit", "(II)Z"⟩
abbrev cX7_commonDivisor : ByteArray := prog_1_method_35_code
def yX7_commonDivisor : MethodName := ⟨RX7, "commonDivisor", "(JJ)J"⟩
def RX8 : String := "NoonTrainsModel"
def TX8 : u_T := fun k => match k with
  | 0 => ("NoonTrainsModel", "row", "[I", true)
  | 1 => ("NoonTrainsModel", "isKept", "[Z", true)
  | 2 => ("NoonTrainsModel", "text", "[I", true)
  | 3 => ("NoonTrainsModel", "length", "I", false)
  | 4 => ("NoonTrainsModel", "read", "[I", true)
  | 5 => ("NoonTrainsModel", "readMany", "I", false)
  | 6 => ("NoonTrainsModel", "stations", "I", false)
  | 7 => ("NoonTrainsModel", "trains", "[I", true)
  | 8 => ("NoonTrainsModel", "trainMany", "I", false)
  | 9 => ("NoonTrainsModel", "start", "I", false)
  | 10 => ("NoonTrainsModel", "tickets", "[I", true)
  | 11 => ("NoonTrainsModel", "show", "I", false)
  | 12 => ("NoonTrainsModel", "seekers", "[I", true)
  | 13 => ("NoonTrainsModel", "at", "I", false)
  | 14 => ("NoonTrainsModel", "place", "I", false)
  | 15 => ("NoonTrainsModel", "end", "I", false)
  | 16 => ("NoonTrainsModel", "readStations", "I", false)
  | 17 => ("NoonTrainsModel", "readTrains", "I", false)
  | 18 => ("NoonTrainsModel", "nextMay", "I", false)
  | 19 => ("NoonTrainsModel", "nextWay", "I", false)
  | 20 => ("NoonTrainsModel", "least", "[I", true)
  | 21 => ("NoonTrainsModel", "logs", "[I", true)
  | 22 => ("NoonTrainsModel", "logMany", "I", false)
  | 23 => ("NoonTrainsModel", "purse", "[I", true)
  | 24 => ("NoonTrainsModel", "comes", "[J", true)
  | _ => ("NoonTrainsModel", "then", "[J", true)
def tyX8 : Nat → FieldType := fun k => match k with
  | 0 => .array .int
  | 1 => .array .boolean
  | 2 => .array .int
  | 3 => .int
  | 4 => .array .int
  | 5 => .int
  | 6 => .int
  | 7 => .array .int
  | 8 => .int
  | 9 => .int
  | 10 => .array .int
  | 11 => .int
  | 12 => .array .int
  | 13 => .int
  | 14 => .int
  | 15 => .int
  | 16 => .int
  | 17 => .int
  | 18 => .int
  | 19 => .int
  | 20 => .array .int
  | 21 => .array .int
  | 22 => .int
  | 23 => .array .int
  | 24 => .array .long
  | _ => .array .long
theorem nmX8 : ∀ a, a < 26 → ∀ b, b < 26 → a ≠ b → (TX8 a).2.1 ≠ (TX8 b).2.1 := by decide +kernel
theorem tyX8_ok : ∀ k, k < 26 → parseFieldDescriptor (TX8 k).2.2.1 = some (tyX8 k) := by decide +kernel
abbrev cX8_init : ByteArray := prog_10_method_1_code
def yX8_init : MethodName := ⟨RX8, "<init>", "()V"⟩
abbrev cX8_in : ByteArray := prog_10_method_2_code
def yX8_in : MethodName := ⟨RX8, "in", "(JJJ)Z"⟩
abbrev cX8_has : ByteArray := prog_10_method_3_code
def yX8_has : MethodName := ⟨RX8, "has", "(II)Z"⟩
abbrev cX8_begin : ByteArray := prog_10_method_4_code
def yX8_begin : MethodName := ⟨RX8, "begin", "()V"⟩
abbrev cX8_write : ByteArray := prog_10_method_5_code
def yX8_write : MethodName := ⟨RX8, "write", "(JI)I"⟩
abbrev cX8_erase : ByteArray := prog_10_method_6_code
def yX8_erase : MethodName := ⟨RX8, "erase", "()I"⟩
abbrev cX8_sort : ByteArray := prog_10_method_7_code
def yX8_sort : MethodName := ⟨RX8, "sort", "(I)I"⟩
abbrev cX8_token : ByteArray := prog_10_method_8_code
def yX8_token : MethodName := ⟨RX8, "token", "()V"⟩
abbrev cX8_isWord : ByteArray := prog_10_method_9_code
def yX8_isWord : MethodName := ⟨RX8, "isWord", "(JI)Z"⟩
abbrev cX8_wordOf : ByteArray := prog_10_method_10_code
def yX8_wordOf : MethodName := ⟨RX8, "wordOf", "()I"⟩
abbrev cX8_reads : ByteArray := prog_10_method_11_code
def yX8_reads : MethodName := ⟨RX8, "reads", "(IIII)Z"⟩
abbrev cX8_readsTrain : ByteArray := prog_10_method_12_code
def yX8_readsTrain : MethodName := ⟨RX8, "readsTrain", "()Z"⟩
abbrev cX8_readsRest : ByteArray := prog_10_method_13_code
def yX8_readsRest : MethodName := ⟨RX8, "readsRest", "(I)Z"⟩
abbrev cX8_readsLine : ByteArray := prog_10_method_14_code
def yX8_readsLine : MethodName := ⟨RX8, "readsLine", "()Z"⟩
abbrev cX8_fault : ByteArray := prog_10_method_15_code
def yX8_fault : MethodName := ⟨RX8, "fault", "()I"⟩
abbrev cX8_tell : ByteArray := prog_10_method_16_code
def yX8_tell : MethodName := ⟨RX8, "tell", "(I)V"⟩
abbrev cX8_land : ByteArray := prog_10_method_17_code
def yX8_land : MethodName := ⟨RX8, "land", "()I"⟩
abbrev cX8_isTrain : ByteArray := prog_10_method_18_code
def yX8_isTrain : MethodName := ⟨RX8, "isTrain", "(I)Z"⟩
abbrev cX8_isSeeker : ByteArray := prog_10_method_19_code
def yX8_isSeeker : MethodName := ⟨RX8, "isSeeker", "(I)Z"⟩
abbrev cX8_train : ByteArray := prog_10_method_20_code
def yX8_train : MethodName := ⟨RX8, "train", "(II)I"⟩
abbrev cX8_leaves : ByteArray := prog_10_method_21_code
def yX8_leaves : MethodName := ⟨RX8, "leaves", "(III)Z"⟩
abbrev cX8_runs : ByteArray := prog_10_method_22_code
def yX8_runs : MethodName := ⟨RX8, "runs", "(II)I"⟩
abbrev cX8_as : ByteArray := prog_10_method_23_code
def yX8_as : MethodName := ⟨RX8, "as", "(II)I"⟩
abbrev cX8_ridable : ByteArray := prog_10_method_24_code
def yX8_ridable : MethodName := ⟨RX8, "ridable", "(I)I"⟩
abbrev cX8_hisTrains : ByteArray := prog_10_method_25_code
def yX8_hisTrains : MethodName := ⟨RX8, "hisTrains", "()I"⟩
abbrev cX8_ride : ByteArray := prog_10_method_26_code
def yX8_ride : MethodName := ⟨RX8, "ride", "(I)I"⟩
abbrev cX8_send : ByteArray := prog_10_method_27_code
def yX8_send : MethodName := ⟨RX8, "send", "(II)I"⟩
abbrev cX8_layBy : ByteArray := prog_10_method_28_code
def yX8_layBy : MethodName := ⟨RX8, "layBy", "(I)V"⟩
abbrev cX8_layByNone : ByteArray := prog_10_method_29_code
def yX8_layByNone : MethodName := ⟨RX8, "layByNone", "()V"⟩
abbrev cX8_nextOf : ByteArray := prog_10_method_30_code
def yX8_nextOf : MethodName := ⟨RX8, "nextOf", "()I"⟩
abbrev cX8_noon : ByteArray := prog_10_method_31_code
def yX8_noon : MethodName := ⟨RX8, "noon", "()I"⟩
abbrev cX8_he : ByteArray := prog_10_method_32_code
def yX8_he : MethodName := ⟨RX8, "he", "(I)I"⟩
abbrev cX8_seeker : ByteArray := prog_10_method_33_code
def yX8_seeker : MethodName := ⟨RX8, "seeker", "(I)I"⟩
abbrev cX8_may : ByteArray := prog_10_method_34_code
def yX8_may : MethodName := ⟨RX8, "may", "()I"⟩
abbrev cX8_way : ByteArray := prog_10_method_35_code
def yX8_way : MethodName := ⟨RX8, "way", "()I"⟩
abbrev cX8_next : ByteArray := prog_10_method_36_code
def yX8_next : MethodName := ⟨RX8, "next", "()I"⟩
abbrev cX8_letter : ByteArray := prog_10_method_37_code
def yX8_letter : MethodName := ⟨RX8, "letter", "()I"⟩
abbrev cX8_bits : ByteArray := prog_10_method_38_code
def yX8_bits : MethodName := ⟨RX8, "bits", "(I)I"⟩
abbrev cX8_nightsFrom : ByteArray := prog_10_method_39_code
def yX8_nightsFrom : MethodName := ⟨RX8, "nightsFrom", "(III)I"⟩
abbrev cX8_reach : ByteArray := prog_10_method_40_code
def yX8_reach : MethodName := ⟨RX8, "reach", "(III)I"⟩
abbrev cX8_shut : ByteArray := prog_10_method_41_code
def yX8_shut : MethodName := ⟨RX8, "shut", "(I)I"⟩
abbrev cX8_hides : ByteArray := prog_10_method_42_code
def yX8_hides : MethodName := ⟨RX8, "hides", "(I)I"⟩
abbrev cX8_placeOf : ByteArray := prog_10_method_43_code
def yX8_placeOf : MethodName := ⟨RX8, "placeOf", "(IIII)I"⟩
abbrev cX8_worst : ByteArray := prog_10_method_44_code
def yX8_worst : MethodName := ⟨RX8, "worst", "(IIII)I"⟩
abbrev cX8_bestFrom : ByteArray := prog_10_method_45_code
def yX8_bestFrom : MethodName := ⟨RX8, "bestFrom", "(IIIII)I"⟩
abbrev cX8_chaseBy : ByteArray := prog_10_method_46_code
def yX8_chaseBy : MethodName := ⟨RX8, "chaseBy", "(I)I"⟩
abbrev cX8_isNoChase : ByteArray := prog_10_method_47_code
def yX8_isNoChase : MethodName := ⟨RX8, "isNoChase", "()Z"⟩
abbrev cX8_chase : ByteArray := prog_10_method_48_code
def yX8_chase : MethodName := ⟨RX8, "chase", "()I"⟩
abbrev cX8_closed : ByteArray := prog_10_method_49_code
def yX8_closed : MethodName := ⟨RX8, "closed", "(I)I"⟩
abbrev cX8_log : ByteArray := prog_10_method_50_code
def yX8_log : MethodName := ⟨RX8, "log", "(I)I"⟩
abbrev cX8_burn : ByteArray := prog_10_method_51_code
def yX8_burn : MethodName := ⟨RX8, "burn", "()I"⟩
abbrev cX8_judge : ByteArray := prog_10_method_52_code
def yX8_judge : MethodName := ⟨RX8, "judge", "()I"⟩
abbrev cX8_addThen : ByteArray := prog_10_method_53_code
def yX8_addThen : MethodName := ⟨RX8, "addThen", "(IJ)V"⟩
abbrev cX8_rideLate : ByteArray := prog_10_method_54_code
def yX8_rideLate : MethodName := ⟨RX8, "rideLate", "(II)V"⟩
abbrev cX8_divisor : ByteArray := prog_10_method_55_code
def yX8_divisor : MethodName := ⟨RX8, "divisor", "(JJ)J"⟩
abbrev cX8_late : ByteArray := prog_10_method_56_code
def yX8_late : MethodName := ⟨RX8, "late", "(III)J"⟩
abbrev cX8_copy : ByteArray := prog_10_method_57_code
def yX8_copy : MethodName := ⟨RX8, "copy", "(II)V"⟩
abbrev cX8_keep : ByteArray := prog_10_method_58_code
def yX8_keep : MethodName := ⟨RX8, "keep", "(I)I"⟩
abbrev cX8_back : ByteArray := prog_10_method_59_code
def yX8_back : MethodName := ⟨RX8, "back", "(I)I"⟩
abbrev cX8_count : ByteArray := prog_10_method_60_code
def yX8_count : MethodName := ⟨RX8, "count", "(I)I"⟩
def RJx145de : String := "java/io/Serializable"
def RJx9f9b0 : String := "java/lang/CharSequence"
def RJxb160c : String := "java/lang/Comparable"
def RJ6 : String := "java/lang/Integer"
abbrev cJ6_bitCount_0f7a4 : ByteArray := prog_11_method_49_code
def yJ6_bitCount_0f7a4 : MethodName := ⟨RJ6, "bitCount", "(I)I"⟩
def RJ9 : String := "java/lang/Math"
abbrev cJ9_max_7cf53 : ByteArray := prog_12_method_65_code
def yJ9_max_7cf53 : MethodName := ⟨RJ9, "max", "(II)I"⟩
abbrev cJ9_min_7cf53 : ByteArray := prog_12_method_69_code
def yJ9_min_7cf53 : MethodName := ⟨RJ9, "min", "(II)I"⟩
def RJ0 : String := "java/lang/String"
abbrev cJ0_length_8abf5 : ByteArray := prog_13_method_54_code
def yJ0_length_8abf5 : MethodName := ⟨RJ0, "length", "()I"⟩
abbrev cJ0_charAt_5068e : ByteArray := prog_13_method_56_code
def yJ0_charAt_5068e : MethodName := ⟨RJ0, "charAt", "(I)C"⟩
abbrev cJ0_coder_7d493 : ByteArray := prog_13_method_152_code
def yJ0_coder_7d493 : MethodName := ⟨RJ0, "coder", "()B"⟩
abbrev cJ0_isLatin1_aae02 : ByteArray := prog_13_method_154_code
def yJ0_isLatin1_aae02 : MethodName := ⟨RJ0, "isLatin1", "()Z"⟩
abbrev cJ0_checkIndex_df160 : ByteArray := prog_13_method_155_code
def yJ0_checkIndex_df160 : MethodName := ⟨RJ0, "checkIndex", "(II)V"⟩
def RJ1 : String := "java/lang/StringLatin1"
abbrev cJ1_charAt_3b067 : ByteArray := prog_14_method_2_code
def yJ1_charAt_3b067 : MethodName := ⟨RJ1, "charAt", "([BI)C"⟩
def RJ2 : String := "java/lang/StringUTF16"
abbrev cJ2_getChar_3b067 : ByteArray := prog_15_method_5_code
def yJ2_getChar_3b067 : MethodName := ⟨RJ2, "getChar", "([BI)C"⟩
abbrev cJ2_length_9d52b : ByteArray := prog_15_method_6_code
def yJ2_length_9d52b : MethodName := ⟨RJ2, "length", "([B)I"⟩
abbrev cJ2_charAt_3b067 : ByteArray := prog_15_method_83_code
def yJ2_charAt_3b067 : MethodName := ⟨RJ2, "charAt", "([BI)C"⟩
abbrev cJ2_checkIndex_2214a : ByteArray := prog_15_method_91_code
def yJ2_checkIndex_2214a : MethodName := ⟨RJ2, "checkIndex", "(I[B)V"⟩
def RJ10 : String := "java/lang/System"
def RJxfd54e : String := "java/lang/constant/Constable"
def RJx3cf43 : String := "java/lang/constant/ConstantDesc"
def RJ7 : String := "java/util/Arrays"
abbrev cJ7_fill_d0a16 : ByteArray := prog_17_method_101_code
def yJ7_fill_d0a16 : MethodName := ⟨RJ7, "fill", "([JJ)V"⟩
abbrev cJ7_fill_53178 : ByteArray := prog_17_method_103_code
def yJ7_fill_53178 : MethodName := ⟨RJ7, "fill", "([II)V"⟩
def RJ3 : String := "jdk/internal/util/Preconditions"
abbrev cJ3_checkIndex_8e157 : ByteArray := prog_18_method_11_code
def yJ3_checkIndex_8e157 : MethodName := ⟨RJ3, "checkIndex", "(IILjava/util/function/BiFunction;)I"⟩
def RL : String := "NoonTrainsLaw"
abbrev cL_law : ByteArray := code
def yL_law : MethodName := ⟨RL, "law", "([I)Z"⟩
abbrev vwCl : List vw_C := [(RX0, TX0, 6), (RX1, TX1, 7), (RX2, TX2, 10), (RX3, TX3, 7), (RX4, TX4, 6), (RX5, TX5, 12), (RX6, TX6, 2), (RX7, TX7, 10), (RX8, TX8, 26)]
end
section
/-! The world: fifty cells at addresses gA g; numbers in w.1 (cell, slot or place), longs in w.2 -/
abbrev Wd : Type := (Nat → Nat → Int32) × (Nat → Nat → Int64)
/-- class ids and slots; array classes (int, char, long, boolean); addresses of the cells; of the string constants; of their bytes -/
abbrev GG : Type := va_G × (ClassId × ClassId × ClassId × ClassId) × (Nat → Nat) × (Nat → Nat) × (Nat → Nat)
def gD (g : GG) : va_G := g.1
def gA (g : GG) : Nat → Nat := g.2.2.1
def gK (g : GG) : Nat → Nat := g.2.2.2.1
def gV (g : GG) : Nat → Nat := g.2.2.2.2
def tyl (g : GG) : List (ClassId × FieldType) := [(g.2.1.1, .int), (g.2.1.2.1, .char), (g.2.1.2.2.1, .long), (g.2.1.2.2.2, .boolean)]
def cellE (g : GG) (w : Wd) : Nat → va_E
  | 0 => .inr (7, [.ref (gA g 1), .ref (gA g 3), .ref (gA g 7), .ref (gA g 13), .ref (gA g 17), .ref (gA g 21), .ref (gA g 25), .ref (gA g 26), .ref (gA g 32), .int (w.1 0 9)])
  | 1 => .inr (6, [.ref (gA g 2), .int (w.1 1 1)])
  | 2 => .inl (g.2.1.2.1, 200, .inl (w.1 2))
  | 3 => .inr (1, [.int (w.1 3 0), .int (w.1 3 1), .int (w.1 3 2), .int (w.1 3 3), .ref (gA g 4), .ref (gA g 5), .ref (gA g 6)])
  | 4 => .inl (g.2.1.1, 72, .inl (w.1 4))
  | 5 => .inl (g.2.1.1, 3, .inl (w.1 5))
  | 6 => .inl (g.2.1.1, 2, .inl (w.1 6))
  | 7 => .inr (3, [.ref (gA g 1), .ref (gA g 8), .int (w.1 7 2), .ref (gA g 12), .int (w.1 7 4), .int (w.1 7 5), .int (w.1 7 6)])
  | 8 => .inr (1, [.int (w.1 8 0), .int (w.1 8 1), .int (w.1 8 2), .int (w.1 8 3), .ref (gA g 9), .ref (gA g 10), .ref (gA g 11)])
  | 9 => .inl (g.2.1.1, 72, .inl (w.1 9))
  | 10 => .inl (g.2.1.1, 3, .inl (w.1 10))
  | 11 => .inl (g.2.1.1, 2, .inl (w.1 11))
  | 12 => .inl (g.2.1.1, 6, .inl (w.1 12))
  | 13 => .inr (5, [.ref (gA g 3), .int (w.1 13 1), .int (w.1 13 2), .int (w.1 13 3), .int (w.1 13 4), .int (w.1 13 5), .ref (gA g 14), .ref (gA g 15), .ref (gA g 16), .int (w.1 13 9), .int (w.1 13 10), .int (w.1 13 11)])
  | 14 => .inl (g.2.1.1, 3, .inl (w.1 14))
  | 15 => .inl (g.2.1.1, 2, .inl (w.1 15))
  | 16 => .inl (g.2.1.1, 2, .inl (w.1 16))
  | 17 => .inr (5, [.ref (gA g 3), .int (w.1 17 1), .int (w.1 17 2), .int (w.1 17 3), .int (w.1 17 4), .int (w.1 17 5), .ref (gA g 18), .ref (gA g 19), .ref (gA g 20), .int (w.1 17 9), .int (w.1 17 10), .int (w.1 17 11)])
  | 18 => .inl (g.2.1.1, 3, .inl (w.1 18))
  | 19 => .inl (g.2.1.1, 2, .inl (w.1 19))
  | 20 => .inl (g.2.1.1, 2, .inl (w.1 20))
  | 21 => .inr (5, [.ref (gA g 3), .int (w.1 21 1), .int (w.1 21 2), .int (w.1 21 3), .int (w.1 21 4), .int (w.1 21 5), .ref (gA g 22), .ref (gA g 23), .ref (gA g 24), .int (w.1 21 9), .int (w.1 21 10), .int (w.1 21 11)])
  | 22 => .inl (g.2.1.1, 3, .inl (w.1 22))
  | 23 => .inl (g.2.1.1, 2, .inl (w.1 23))
  | 24 => .inl (g.2.1.1, 2, .inl (w.1 24))
  | 25 => .inr (0, [.ref (gA g 3), .ref (gA g 13), .int (w.1 25 2), .int (w.1 25 3), .int (w.1 25 4), .int (w.1 25 5)])
  | 26 => .inr (2, [.ref (gA g 3), .ref (gA g 13), .ref (gA g 27), .ref (gA g 28), .ref (gA g 29), .ref (gA g 30), .ref (gA g 31), .int (w.1 26 7), .int (w.1 26 8), .int (w.1 26 9)])
  | 27 => .inl (g.2.1.1, 448, .inl (w.1 27))
  | 28 => .inl (g.2.1.1, 448, .inl (w.1 28))
  | 29 => .inl (g.2.1.1, 448, .inl (w.1 29))
  | 30 => .inl (g.2.1.1, 12, .inl (w.1 30))
  | 31 => .inl (g.2.1.1, 12, .inl (w.1 31))
  | 32 => .inr (4, [.ref (gA g 3), .ref (gA g 33), .int (w.1 32 2), .ref (gA g 34), .ref (gA g 35), .ref (gA g 36)])
  | 33 => .inl (g.2.1.1, 12, .inl (w.1 33))
  | 34 => .inl (g.2.1.1, 3, .inl (w.1 34))
  | 35 => .inl (g.2.1.2.2.1, 41, .inr (.inl (w.2 35)))
  | 36 => .inl (g.2.1.2.2.1, 41, .inr (.inl (w.2 36)))
  | 37 => .inr (8, [.ref (gA g 38), .ref (gA g 39), .ref (gA g 40), .int (w.1 37 3), .ref (gA g 41), .int (w.1 37 5), .int (w.1 37 6), .ref (gA g 42), .int (w.1 37 8), .int (w.1 37 9), .ref (gA g 43), .int (w.1 37 11), .ref (gA g 44), .int (w.1 37 13), .int (w.1 37 14), .int (w.1 37 15), .int (w.1 37 16), .int (w.1 37 17), .int (w.1 37 18), .int (w.1 37 19), .ref (gA g 45), .ref (gA g 46), .int (w.1 37 22), .ref (gA g 47), .ref (gA g 48), .ref (gA g 49)])
  | 38 => .inl (g.2.1.1, 45, .inl (w.1 38))
  | 39 => .inl (g.2.1.2.2.2, 2, .inl (w.1 39))
  | 40 => .inl (g.2.1.1, 200, .inl (w.1 40))
  | 41 => .inl (g.2.1.1, 70, .inl (w.1 41))
  | 42 => .inl (g.2.1.1, 72, .inl (w.1 42))
  | 43 => .inl (g.2.1.1, 3, .inl (w.1 43))
  | 44 => .inl (g.2.1.1, 2, .inl (w.1 44))
  | 45 => .inl (g.2.1.1, 6656, .inl (w.1 45))
  | 46 => .inl (g.2.1.1, 12, .inl (w.1 46))
  | 47 => .inl (g.2.1.1, 3, .inl (w.1 47))
  | 48 => .inl (g.2.1.2.2.1, 41, .inr (.inl (w.2 48)))
  | 49 => .inl (g.2.1.2.2.1, 41, .inr (.inl (w.2 49)))
  | _ => .inr (0, [])
/-- a number, a long set -/
def sI (w : Wd) (c k : Nat) (v : Int32) : Wd := (fun a => if a = c then upd (w.1 a) k v else w.1 a, w.2)
def sJ (w : Wd) (c k : Nat) (v : Int64) : Wd := (w.1, fun a => if a = c then vp_updL (w.2 a) k v else w.2 a)
def cI (w : Wd) (src sp dst dp n : Nat) : Wd := (fun a => if a = dst then va_cpy (w.1 src) (w.1 dst) sp dp n else w.1 a, w.2)
def cJ (w : Wd) (src sp dst dp n : Nat) : Wd := (w.1, fun a => if a = dst then va_cpy (w.2 src) (w.2 dst) sp dp n else w.2 a)
theorem sI_1 (w : Wd) (c k : Nat) (v : Int32) (a b : Nat) : (sI w c k v).1 a b = if a = c ∧ b = k then v else w.1 a b := by
  unfold sI
  by_cases h : a = c
  · by_cases h2 : b = k <;> simp [h, h2, upd]
  · simp [h]
theorem sI_2 (w : Wd) (c k : Nat) (v : Int32) : (sI w c k v).2 = w.2 := rfl
theorem sJ_1 (w : Wd) (c k : Nat) (v : Int64) : (sJ w c k v).1 = w.1 := rfl
theorem sJ_2 (w : Wd) (c k : Nat) (v : Int64) (a b : Nat) : (sJ w c k v).2 a b = if a = c ∧ b = k then v else w.2 a b := by
  unfold sJ
  by_cases h : a = c
  · by_cases h2 : b = k <;> simp [h, h2, vp_updL]
  · simp [h]
theorem cI_1 (w : Wd) (src sp dst dp n a b : Nat) : (cI w src sp dst dp n).1 a b = if a = dst ∧ dp ≤ b ∧ b < dp + n then w.1 src (sp + (b - dp)) else w.1 a b := by
  unfold cI
  by_cases h : a = dst
  · by_cases h2 : dp ≤ b ∧ b < dp + n <;> simp [h, h2, va_cpy]
  · simp [h]
theorem cI_2 (w : Wd) (src sp dst dp n : Nat) : (cI w src sp dst dp n).2 = w.2 := rfl
theorem cJ_1 (w : Wd) (src sp dst dp n : Nat) : (cJ w src sp dst dp n).1 = w.1 := rfl
theorem cJ_2 (w : Wd) (src sp dst dp n a b : Nat) : (cJ w src sp dst dp n).2 a b = if a = dst ∧ dp ≤ b ∧ b < dp + n then w.2 src (sp + (b - dp)) else w.2 a b := by
  unfold cJ
  by_cases h : a = dst
  · by_cases h2 : dp ≤ b ∧ b < dp + n <;> simp [h, h2, va_cpy]
  · simp [h]
theorem cellE_congr {g : GG} {w w' : Wd} {c : Nat} (h1 : w'.1 c = w.1 c) (h2 : w'.2 c = w.2 c) : cellE g w' c = cellE g w c := by
  unfold cellE
  split <;> simp_all
theorem cellE_sI {g : GG} {w : Wd} {c k a : Nat} {v : Int32} (h : a ≠ c) : cellE g (sI w c k v) a = cellE g w a := cellE_congr (if_neg h) rfl
theorem cellE_sJ {g : GG} {w : Wd} {c k a : Nat} {v : Int64} (h : a ≠ c) : cellE g (sJ w c k v) a = cellE g w a := cellE_congr rfl (if_neg h)
theorem cellE_cI {g : GG} {w : Wd} {src sp dst dp n a : Nat} (h : a ≠ dst) : cellE g (cI w src sp dst dp n) a = cellE g w a := cellE_congr (if_neg h) rfl
theorem cellE_cJ {g : GG} {w : Wd} {src sp dst dp n a : Nat} (h : a ≠ dst) : cellE g (cJ w src sp dst dp n) a = cellE g w a := cellE_congr rfl (if_neg h)
/-- the class's side (true) or the reference's, and the other side's world -/
abbrev Sd : Type := Bool × Wd
def EE (g : GG) (σ : Sd) (w : Wd) : va_W := (List.range 50).map (fun c => (gA g c, if decide (c < 37) = σ.1 then cellE g w c else cellE g σ.2 c))
def AD (g : GG) : Nat → Prop := fun q => ∃ c, c < 50 ∧ q = gA g c
def OKg (g : GG) : Prop := ∀ i j, i < 50 → j < 50 → gA g i = gA g j → i = j
theorem EE_at {g : GG} {σ : Sd} {w : Wd} {c : Nat} (hc : c < 50) : (EE g σ w)[c]? = some (gA g c, if decide (c < 37) = σ.1 then cellE g w c else cellE g σ.2 c) := by
  unfold EE
  rw [List.getElem?_map, List.getElem?_range hc]
  rfl
theorem EE_get {g : GG} {σ : Sd} {w : Wd} {c : Nat} (hc : c < 50) (hs : decide (c < 37) = σ.1) : (EE g σ w)[c]? = some (gA g c, cellE g w c) := by
  rw [EE_at hc, if_pos hs]
theorem EE_len {g : GG} {σ : Sd} {w : Wd} : (EE g σ w).length = 50 := by simp [EE]
theorem EE_set {g : GG} {σ : Sd} {w w' : Wd} {c : Nat} (hc : c < 50) (hs : decide (c < 37) = σ.1) (h : ∀ a, a ≠ c → cellE g w' a = cellE g w a) : (EE g σ w).set c (gA g c, cellE g w' c) = EE g σ w' := by
  apply List.ext_getElem?
  intro k
  by_cases hk : k = c
  · subst hk
    rw [List.getElem?_set_self (by rw [EE_len]; exact hc), EE_get hc hs]
  · rw [List.getElem?_set_ne (Ne.symm hk)]
    by_cases h50 : k < 50
    · rw [EE_at h50, EE_at h50, h k hk]
    · rw [List.getElem?_eq_none (by rw [EE_len]; omega), List.getElem?_eq_none (by rw [EE_len]; omega)]
theorem EE_D {g : GG} (hg : OKg g) {σ : Sd} {w : Wd} : va_D (AD g) (EE g σ w) := by
  have key : ∀ (k : Nat) (q : Nat × va_E), (EE g σ w)[k]? = some q → k < 50 ∧ q.1 = gA g k := by
    intro k q hq
    have hk : k < 50 := by
      have := (List.getElem?_eq_some_iff.mp hq).1
      rwa [EE_len] at this
    rw [EE_at hk] at hq
    cases hq
    exact ⟨hk, rfl⟩
  refine ⟨fun i j p q hi hj hpq => ?_, fun k q hk => ?_⟩
  · obtain ⟨a1, a2⟩ := key i p hi
    obtain ⟨b1, b2⟩ := key j q hj
    exact hg i j a1 b1 (by rw [← a2, ← b2]; exact hpq)
  · obtain ⟨a1, a2⟩ := key k q hk
    exact ⟨k, a1, a2⟩
/-- string constants of the reader, in their order -/
def sLen : List Nat := [4, 5, 5, 7, 4, 6]
def sByt : List (List Int32) := [[108, 97, 110, 100], [116, 114, 97, 105, 110], [115, 116, 97, 114, 116], [116, 105, 99, 107, 101, 116, 115], [115, 104, 111, 119], [115, 101, 101, 107, 101, 114]]
def sIdx : List Nat := [86, 92, 94, 96, 98, 100]
def sTxt : List String := ["land", "train", "start", "tickets", "show", "seeker"]
def SK (g : GG) (U : State) (H : Heap) : Prop := vk_S 6 sLen sByt (gK g) (gV g) (AD g) U H ∧ (∀ i, i < 6 → vk_R RX3 (sIdx.getD i 0) (sTxt.getD i "") (gK g i) U) ∧ va_Z "java/lang/String" "COMPACT_STRINGS" "Z" (.int 1) (AD g) U H ∧ va_Zq "jdk/internal/util/Preconditions" "SIOOBE_FORMATTER" "Ljava/util/function/BiFunction;" (AD g) U H
theorem SK.warm {g : GG} {s U : State} {H : Heap} (hW : s.WarmedH U.vm) (h : SK g s H) : SK g U H := ⟨h.1.moved hW.alike, fun i hi => (h.2.1 i hi).warm hW, h.2.2.1.moved hW.alike, h.2.2.2.moved hW.alike⟩
theorem SK.same {g : GG} {u U : State} {H : Heap} (hv : U.vm = u.vm) (h : SK g u H) : SK g U H := ⟨h.1.moved (by rw [hv]; exact Vm.Alike.refl _), fun i hi => (h.2.1 i hi).same hv, h.2.2.1.moved (by rw [hv]; exact Vm.Alike.refl _), h.2.2.2.moved (by rw [hv]; exact Vm.Alike.refl _)⟩
theorem SK.kept {g : GG} {U : State} {H H1 : Heap} (h : SK g U H) (hq : ∀ a : Nat, a < H.size → ¬ AD g a → H1[a]? = H[a]?) : SK g U H1 := ⟨h.1.kept hq, h.2.1, h.2.2.1.kept hq, h.2.2.2.kept hq⟩
/-- the words of nest mates -/
def nstF : List (String × Nat × String × String × String) := [(RX5, 44, RX1, "tickets", "[I"), (RX4, 37, RX1, "tickets", "[I"), (RX5, 51, RX1, "seekers", "[I")]
def nstM : List (String × Nat × MethodName) := [(RX7, 11, yX6_init), (RX7, 18, yX1_init), (RX3, 11, yX1_init), (RX0, 42, yX7_hasBit), (RX1, 46, yX7_within), (RX1, 50, yX7_isSeeker), (RX1, 65, yX7_hasBit), (RX2, 96, yX7_within), (RX3, 118, yX7_isSeeker), (RX3, 83, yX7_within), (RX4, 33, yX7_within), (RX5, 80, yX7_within), (RX5, 95, yX7_isSeeker), (RX6, 19, yX7_within)]
def Nst (U : State) : Prop := (∀ q ∈ nstF, va_Nw (.fieldLinkNest q.1 q.2.1 q.2.2.1 q.2.2.2.1 q.2.2.2.2 RX7) U) ∧ ∀ q ∈ nstM, va_Nw (.methodLinkNest q.1 q.2.1 q.2.2 RX7) U
theorem Nst.warm {s U : State} (hW : s.WarmedH U.vm) (h : Nst s) : Nst U := ⟨fun q hq => (h.1 q hq).warmF hW, fun q hq => (h.2 q hq).warmM hW⟩
theorem Nst.same {u U : State} (hv : u.vm = U.vm) (h : Nst u) : Nst U := ⟨fun q hq => (h.1 q hq).same rfl hv, fun q hq => (h.2 q hq).same rfl hv⟩
/-- the good words of the tables -/
def TB : List Cond := lw_tbl.filter goodWord
theorem tb_of {w : Cond} (i : Nat) (h : lw_tbl[i]? = some w) (hg : goodWord w = true) : w ∈ TB := List.mem_filter.mpr ⟨List.mem_of_getElem? h, hg⟩
theorem tb_good {ws : List Cond} (h : ∀ w ∈ ws, w ∈ TB) : GoodIn TB ws := fun w hw => ⟨h w hw, good_of_word (List.mem_filter.mp (h w hw)).2⟩
theorem tb_code {y : MethodName} {cc : ByteArray} {n : Nat} {r : Option FieldType} (h : Cond.code y cc n r ∈ TB) : GoodIn TB (.code y cc n r :: TB) := tb_good (fun w hw => (List.mem_cons.mp hw).elim (fun e => e ▸ h) id)
/-- what a state holds -/
def HD (g : GG) (σ : Sd) (w : Wd) (U : State) : Prop := va_P (gD g) vwCl (EE g σ w) U.heap ∧ va_K (gD g) vwCl (tyl g) U ∧ Nst U ∧ SK g U U.heap
def QQ (g : GG) (σ : Sd) (r : Option Value) (w' : Wd) : Array Value → State → Outcome → State → Prop := fun _ st o t => o = .returned r ∧ va_P (gD g) vwCl (EE g σ w') t.heap ∧ va_F (AD g) st t
/-- a contract: with these arguments, in this world, it answers r and leaves the world w' -/
def CT (l : Launch) (g : GG) (σ : Sd) (y : MethodName) (cc : ByteArray) (nL : Nat) (ret : Option FieldType) (fr lo : Nat) (av : List Value) (w : Wd) (r : Option Value) (w' : Wd) : Prop :=
  Met l y (.code y cc nL ret :: TB) { frames := fr, cells := 0, slots := 0, locals := lo } (va_Pc av (fun U => HD g σ w U)) (QQ g σ r w') 0 0 (AD g)
theorem HD_blind {g : GG} {σ : Sd} {w : Wd} {av : List Value} : FrameBlind (va_Pc av (fun U => HD g σ w U)) := by
  intro a U f mk h
  obtain ⟨h0, hP, hK, hN, hS⟩ := h
  exact ⟨h0, hP, va_K.moved (u := U) (U := U.calling f mk a) (Vm.Alike.refl U.vm) hK, hN.same rfl, SK.same (u := U) (U := U.calling f mk a) rfl hS⟩
abbrev Ctx : Type := Program × Launch × Env × Room × State × MethodId × Array Value × List Frame × Method × Code × GG × Sd
/-- at pc, with locals lv and stack st, in world w, the method goes on to what 'res' says (if it says something) -/
def N (K : Ctx) {ρ : Type} (rt : ρ → Option Value × Wd) (res : Option ρ) (w : Wd) (pc : Nat) (lv : List (Nat × Value)) (st : List Value) : Prop :=
  match K with
  | (p, l, e, R, s, m, args, below, meth, c, g, σ) => ∀ q, res = some q → ∀ (H : Heap) (locs : List Loc) (ls : Array Slot), va_P (gD g) vwCl (EE g σ w) H → va_S (AD g) s.heap H locs → lv_has ls c.maxLocals lv →
    W p l e R s m args below meth c H locs 0 0 (MQ below (QQ g σ (rt q).1 (rt q).2) args s 0 0 (AD g)) (F0 m pc ls st)
/-- what is fixed in a method's body -/
def Fx (K : Ctx) (cc : ByteArray) (nL : Nat) (own : String) (ret : Option FieldType) (fr lo : Nat) (b : Bool) : Prop :=
  match K with
  | (p, _, _, R, s, m, args, _, meth, c, g, σ) => p.tables.exec = Jvm.exec ∧ c.code = cc ∧ c.maxLocals = nL ∧ s.vm.findClass own = some m.cls ∧ (∀ w ∈ TB, w.before args s = true) ∧ va_K (gD g) vwCl (tyl g) s ∧ Nst s ∧ SK g s s.heap ∧ OKg g ∧ meth.locks = false ∧ meth.sig.returnType = ret ∧ R = { frames := fr, cells := 0, slots := 0, locals := lo } ∧ σ.1 = b
/-- a method's body gives its contract -/
theorem ct_of {l : Launch} {g : GG} {σ : Sd} {y : MethodName} {cc : ByteArray} {nL : Nat} {ret : Option FieldType} {fr lo : Nat} {av : List Value} {w : Wd} {ρ : Type} {rt : ρ → Option Value × Wd} {res : Option ρ} {q : ρ} {own : String} {b : Bool} (hg : OKg g) (hb : σ.1 = b) (hy : plainName y.cls = true) (ho : y.cls = own) (hn : (lg_sl av).length ≤ nL) (hq : res = some q)
    (body : ∀ K : Ctx, K.2.2.2.2.2.2.2.2.2.2.1 = g → K.2.2.2.2.2.2.2.2.2.2.2 = σ → K.2.1 = l → Fx K cc nL own ret fr lo b → N K rt res w 0 (lv_args 0 av) []) : CT l g σ y cc nL ret fr lo av w (rt q).1 (rt q).2 := by
  refine Met.ofW (cc := cc) (maxL := nL) (ret := ret) hy rfl ?_
  intro p e s m args below meth c s₁ B hml hv
  obtain ⟨rfl, hP, hK, hN, hS⟩ := hv
  have hts := atoms_spec (ws := Cond.code y cc nL ret :: TB) B.pre
  have hown : s.vm.findClass own = some m.cls := ho ▸ findClass_of_methodNamed B.named
  have hl := lv_entry av (n := nL) hn
  rw [lg_entry_eq]
  exact body (p, l, e, _, s, m, _, below, meth, c, g, σ) rfl rfl rfl ⟨B.exec, B.bytes, hml, hown, fun w hw => hts w (List.mem_cons_of_mem _ hw), hK, hN, hS, hg, B.notSynchronized, B.returns, rfl, hb⟩ q hq s.heap [] _ hP va_S.rf (by rw [hml]; exact hl)
end
section
theorem n_iadd {K : Ctx} {cc : ByteArray} {nL : Nat} {own : String} {ret : Option FieldType} {fr lo : Nat} {b : Bool} {ρ : Type} {rt : ρ → Option Value × Wd} {res : Option ρ} {w : Wd} {pc : Nat} {lv : List (Nat × Value)} {st : List Value} (F : Fx K cc nL own ret fr lo b) {x y : Int32} (hd : decode cc pc = .ok (.iadd, 1)) (k : N K rt res w (pc + 1) lv (.int (x + y) :: st)) : N K rt res w pc lv (.int y :: .int x :: st) := by
  obtain ⟨p, l, e, R, s, m, args, below, meth, c, g, σ⟩ := K
  obtain ⟨hx, hb, hml, hown, hts, hK, hN, hSK, hg, hlk, hrt, hR, hσ⟩ := F
  exact fun q hq H locs ls hP hS hl => lv_iadd hx hb hd (k q hq H locs ls hP hS hl)
theorem n_isub {K : Ctx} {cc : ByteArray} {nL : Nat} {own : String} {ret : Option FieldType} {fr lo : Nat} {b : Bool} {ρ : Type} {rt : ρ → Option Value × Wd} {res : Option ρ} {w : Wd} {pc : Nat} {lv : List (Nat × Value)} {st : List Value} (F : Fx K cc nL own ret fr lo b) {x y : Int32} (hd : decode cc pc = .ok (.isub, 1)) (k : N K rt res w (pc + 1) lv (.int (x - y) :: st)) : N K rt res w pc lv (.int y :: .int x :: st) := by
  obtain ⟨p, l, e, R, s, m, args, below, meth, c, g, σ⟩ := K
  obtain ⟨hx, hb, hml, hown, hts, hK, hN, hSK, hg, hlk, hrt, hR, hσ⟩ := F
  exact fun q hq H locs ls hP hS hl => lv_isub hx hb hd (k q hq H locs ls hP hS hl)
theorem n_imul {K : Ctx} {cc : ByteArray} {nL : Nat} {own : String} {ret : Option FieldType} {fr lo : Nat} {b : Bool} {ρ : Type} {rt : ρ → Option Value × Wd} {res : Option ρ} {w : Wd} {pc : Nat} {lv : List (Nat × Value)} {st : List Value} (F : Fx K cc nL own ret fr lo b) {x y : Int32} (hd : decode cc pc = .ok (.imul, 1)) (k : N K rt res w (pc + 1) lv (.int (x * y) :: st)) : N K rt res w pc lv (.int y :: .int x :: st) := by
  obtain ⟨p, l, e, R, s, m, args, below, meth, c, g, σ⟩ := K
  obtain ⟨hx, hb, hml, hown, hts, hK, hN, hSK, hg, hlk, hrt, hR, hσ⟩ := F
  exact fun q hq H locs ls hP hS hl => lv_imul hx hb hd (k q hq H locs ls hP hS hl)
theorem n_iand {K : Ctx} {cc : ByteArray} {nL : Nat} {own : String} {ret : Option FieldType} {fr lo : Nat} {b : Bool} {ρ : Type} {rt : ρ → Option Value × Wd} {res : Option ρ} {w : Wd} {pc : Nat} {lv : List (Nat × Value)} {st : List Value} (F : Fx K cc nL own ret fr lo b) {x y : Int32} (hd : decode cc pc = .ok (.iand, 1)) (k : N K rt res w (pc + 1) lv (.int (x &&& y) :: st)) : N K rt res w pc lv (.int y :: .int x :: st) := by
  obtain ⟨p, l, e, R, s, m, args, below, meth, c, g, σ⟩ := K
  obtain ⟨hx, hb, hml, hown, hts, hK, hN, hSK, hg, hlk, hrt, hR, hσ⟩ := F
  exact fun q hq H locs ls hP hS hl => lv_iand hx hb hd (k q hq H locs ls hP hS hl)
theorem n_ior {K : Ctx} {cc : ByteArray} {nL : Nat} {own : String} {ret : Option FieldType} {fr lo : Nat} {b : Bool} {ρ : Type} {rt : ρ → Option Value × Wd} {res : Option ρ} {w : Wd} {pc : Nat} {lv : List (Nat × Value)} {st : List Value} (F : Fx K cc nL own ret fr lo b) {x y : Int32} (hd : decode cc pc = .ok (.ior, 1)) (k : N K rt res w (pc + 1) lv (.int (x ||| y) :: st)) : N K rt res w pc lv (.int y :: .int x :: st) := by
  obtain ⟨p, l, e, R, s, m, args, below, meth, c, g, σ⟩ := K
  obtain ⟨hx, hb, hml, hown, hts, hK, hN, hSK, hg, hlk, hrt, hR, hσ⟩ := F
  exact fun q hq H locs ls hP hS hl => lv_ior hx hb hd (k q hq H locs ls hP hS hl)
theorem n_ixor {K : Ctx} {cc : ByteArray} {nL : Nat} {own : String} {ret : Option FieldType} {fr lo : Nat} {b : Bool} {ρ : Type} {rt : ρ → Option Value × Wd} {res : Option ρ} {w : Wd} {pc : Nat} {lv : List (Nat × Value)} {st : List Value} (F : Fx K cc nL own ret fr lo b) {x y : Int32} (hd : decode cc pc = .ok (.ixor, 1)) (k : N K rt res w (pc + 1) lv (.int (x ^^^ y) :: st)) : N K rt res w pc lv (.int y :: .int x :: st) := by
  obtain ⟨p, l, e, R, s, m, args, below, meth, c, g, σ⟩ := K
  obtain ⟨hx, hb, hml, hown, hts, hK, hN, hSK, hg, hlk, hrt, hR, hσ⟩ := F
  exact fun q hq H locs ls hP hS hl => lv_ixor hx hb hd (k q hq H locs ls hP hS hl)
theorem n_ishl {K : Ctx} {cc : ByteArray} {nL : Nat} {own : String} {ret : Option FieldType} {fr lo : Nat} {b : Bool} {ρ : Type} {rt : ρ → Option Value × Wd} {res : Option ρ} {w : Wd} {pc : Nat} {lv : List (Nat × Value)} {st : List Value} (F : Fx K cc nL own ret fr lo b) {x y : Int32} (hd : decode cc pc = .ok (.ishl, 1)) (k : N K rt res w (pc + 1) lv (.int (x <<< (y &&& 31)) :: st)) : N K rt res w pc lv (.int y :: .int x :: st) := by
  obtain ⟨p, l, e, R, s, m, args, below, meth, c, g, σ⟩ := K
  obtain ⟨hx, hb, hml, hown, hts, hK, hN, hSK, hg, hlk, hrt, hR, hσ⟩ := F
  exact fun q hq H locs ls hP hS hl => lv_ishl hx hb hd (k q hq H locs ls hP hS hl)
theorem n_ishr {K : Ctx} {cc : ByteArray} {nL : Nat} {own : String} {ret : Option FieldType} {fr lo : Nat} {b : Bool} {ρ : Type} {rt : ρ → Option Value × Wd} {res : Option ρ} {w : Wd} {pc : Nat} {lv : List (Nat × Value)} {st : List Value} (F : Fx K cc nL own ret fr lo b) {x y : Int32} (hd : decode cc pc = .ok (.ishr, 1)) (k : N K rt res w (pc + 1) lv (.int (x >>> (y &&& 31)) :: st)) : N K rt res w pc lv (.int y :: .int x :: st) := by
  obtain ⟨p, l, e, R, s, m, args, below, meth, c, g, σ⟩ := K
  obtain ⟨hx, hb, hml, hown, hts, hK, hN, hSK, hg, hlk, hrt, hR, hσ⟩ := F
  exact fun q hq H locs ls hP hS hl => lv_ishr hx hb hd (k q hq H locs ls hP hS hl)
theorem n_idiv {K : Ctx} {cc : ByteArray} {nL : Nat} {own : String} {ret : Option FieldType} {fr lo : Nat} {b : Bool} {ρ : Type} {rt : ρ → Option Value × Wd} {res : Option ρ} {w : Wd} {pc : Nat} {lv : List (Nat × Value)} {st : List Value} (F : Fx K cc nL own ret fr lo b) {x y : Int32} (hd : decode cc pc = .ok (.idiv, 1)) (hne : ¬ y = 0) (k : N K rt res w (pc + 1) lv (.int (x / y) :: st)) : N K rt res w pc lv (.int y :: .int x :: st) := by
  obtain ⟨p, l, e, R, s, m, args, below, meth, c, g, σ⟩ := K
  obtain ⟨hx, hb, hml, hown, hts, hK, hN, hSK, hg, hlk, hrt, hR, hσ⟩ := F
  exact fun q hq H locs ls hP hS hl => lv_idiv hx hb hd hne (k q hq H locs ls hP hS hl)
theorem n_irem {K : Ctx} {cc : ByteArray} {nL : Nat} {own : String} {ret : Option FieldType} {fr lo : Nat} {b : Bool} {ρ : Type} {rt : ρ → Option Value × Wd} {res : Option ρ} {w : Wd} {pc : Nat} {lv : List (Nat × Value)} {st : List Value} (F : Fx K cc nL own ret fr lo b) {x y : Int32} (hd : decode cc pc = .ok (.irem, 1)) (hne : ¬ y = 0) (k : N K rt res w (pc + 1) lv (.int (x - x / y * y) :: st)) : N K rt res w pc lv (.int y :: .int x :: st) := by
  obtain ⟨p, l, e, R, s, m, args, below, meth, c, g, σ⟩ := K
  obtain ⟨hx, hb, hml, hown, hts, hK, hN, hSK, hg, hlk, hrt, hR, hσ⟩ := F
  exact fun q hq H locs ls hP hS hl => lv_irem hx hb hd hne (k q hq H locs ls hP hS hl)
theorem n_ladd {K : Ctx} {cc : ByteArray} {nL : Nat} {own : String} {ret : Option FieldType} {fr lo : Nat} {b : Bool} {ρ : Type} {rt : ρ → Option Value × Wd} {res : Option ρ} {w : Wd} {pc : Nat} {lv : List (Nat × Value)} {st : List Value} (F : Fx K cc nL own ret fr lo b) {x y : Int64} (hd : decode cc pc = .ok (.ladd, 1)) (k : N K rt res w (pc + 1) lv (.long (x + y) :: st)) : N K rt res w pc lv (.long y :: .long x :: st) := by
  obtain ⟨p, l, e, R, s, m, args, below, meth, c, g, σ⟩ := K
  obtain ⟨hx, hb, hml, hown, hts, hK, hN, hSK, hg, hlk, hrt, hR, hσ⟩ := F
  exact fun q hq H locs ls hP hS hl => lv_ladd hx hb hd (k q hq H locs ls hP hS hl)
theorem n_lsub {K : Ctx} {cc : ByteArray} {nL : Nat} {own : String} {ret : Option FieldType} {fr lo : Nat} {b : Bool} {ρ : Type} {rt : ρ → Option Value × Wd} {res : Option ρ} {w : Wd} {pc : Nat} {lv : List (Nat × Value)} {st : List Value} (F : Fx K cc nL own ret fr lo b) {x y : Int64} (hd : decode cc pc = .ok (.lsub, 1)) (k : N K rt res w (pc + 1) lv (.long (x - y) :: st)) : N K rt res w pc lv (.long y :: .long x :: st) := by
  obtain ⟨p, l, e, R, s, m, args, below, meth, c, g, σ⟩ := K
  obtain ⟨hx, hb, hml, hown, hts, hK, hN, hSK, hg, hlk, hrt, hR, hσ⟩ := F
  exact fun q hq H locs ls hP hS hl => lv_lsub hx hb hd (k q hq H locs ls hP hS hl)
theorem n_lmul {K : Ctx} {cc : ByteArray} {nL : Nat} {own : String} {ret : Option FieldType} {fr lo : Nat} {b : Bool} {ρ : Type} {rt : ρ → Option Value × Wd} {res : Option ρ} {w : Wd} {pc : Nat} {lv : List (Nat × Value)} {st : List Value} (F : Fx K cc nL own ret fr lo b) {x y : Int64} (hd : decode cc pc = .ok (.lmul, 1)) (k : N K rt res w (pc + 1) lv (.long (x * y) :: st)) : N K rt res w pc lv (.long y :: .long x :: st) := by
  obtain ⟨p, l, e, R, s, m, args, below, meth, c, g, σ⟩ := K
  obtain ⟨hx, hb, hml, hown, hts, hK, hN, hSK, hg, hlk, hrt, hR, hσ⟩ := F
  exact fun q hq H locs ls hP hS hl => lv_lmul hx hb hd (k q hq H locs ls hP hS hl)
theorem n_land {K : Ctx} {cc : ByteArray} {nL : Nat} {own : String} {ret : Option FieldType} {fr lo : Nat} {b : Bool} {ρ : Type} {rt : ρ → Option Value × Wd} {res : Option ρ} {w : Wd} {pc : Nat} {lv : List (Nat × Value)} {st : List Value} (F : Fx K cc nL own ret fr lo b) {x y : Int64} (hd : decode cc pc = .ok (.land, 1)) (k : N K rt res w (pc + 1) lv (.long (x &&& y) :: st)) : N K rt res w pc lv (.long y :: .long x :: st) := by
  obtain ⟨p, l, e, R, s, m, args, below, meth, c, g, σ⟩ := K
  obtain ⟨hx, hb, hml, hown, hts, hK, hN, hSK, hg, hlk, hrt, hR, hσ⟩ := F
  exact fun q hq H locs ls hP hS hl => lv_land hx hb hd (k q hq H locs ls hP hS hl)
theorem n_lor {K : Ctx} {cc : ByteArray} {nL : Nat} {own : String} {ret : Option FieldType} {fr lo : Nat} {b : Bool} {ρ : Type} {rt : ρ → Option Value × Wd} {res : Option ρ} {w : Wd} {pc : Nat} {lv : List (Nat × Value)} {st : List Value} (F : Fx K cc nL own ret fr lo b) {x y : Int64} (hd : decode cc pc = .ok (.lor, 1)) (k : N K rt res w (pc + 1) lv (.long (x ||| y) :: st)) : N K rt res w pc lv (.long y :: .long x :: st) := by
  obtain ⟨p, l, e, R, s, m, args, below, meth, c, g, σ⟩ := K
  obtain ⟨hx, hb, hml, hown, hts, hK, hN, hSK, hg, hlk, hrt, hR, hσ⟩ := F
  exact fun q hq H locs ls hP hS hl => lv_lor hx hb hd (k q hq H locs ls hP hS hl)
theorem n_ldiv {K : Ctx} {cc : ByteArray} {nL : Nat} {own : String} {ret : Option FieldType} {fr lo : Nat} {b : Bool} {ρ : Type} {rt : ρ → Option Value × Wd} {res : Option ρ} {w : Wd} {pc : Nat} {lv : List (Nat × Value)} {st : List Value} (F : Fx K cc nL own ret fr lo b) {x y : Int64} (hd : decode cc pc = .ok (.ldiv, 1)) (hne : ¬ y = 0) (k : N K rt res w (pc + 1) lv (.long (x / y) :: st)) : N K rt res w pc lv (.long y :: .long x :: st) := by
  obtain ⟨p, l, e, R, s, m, args, below, meth, c, g, σ⟩ := K
  obtain ⟨hx, hb, hml, hown, hts, hK, hN, hSK, hg, hlk, hrt, hR, hσ⟩ := F
  exact fun q hq H locs ls hP hS hl => lv_ldiv hx hb hd hne (k q hq H locs ls hP hS hl)
theorem n_lrem {K : Ctx} {cc : ByteArray} {nL : Nat} {own : String} {ret : Option FieldType} {fr lo : Nat} {b : Bool} {ρ : Type} {rt : ρ → Option Value × Wd} {res : Option ρ} {w : Wd} {pc : Nat} {lv : List (Nat × Value)} {st : List Value} (F : Fx K cc nL own ret fr lo b) {x y : Int64} (hd : decode cc pc = .ok (.lrem, 1)) (hne : ¬ y = 0) (k : N K rt res w (pc + 1) lv (.long (x - x / y * y) :: st)) : N K rt res w pc lv (.long y :: .long x :: st) := by
  obtain ⟨p, l, e, R, s, m, args, below, meth, c, g, σ⟩ := K
  obtain ⟨hx, hb, hml, hown, hts, hK, hN, hSK, hg, hlk, hrt, hR, hσ⟩ := F
  exact fun q hq H locs ls hP hS hl => lv_lrem hx hb hd hne (k q hq H locs ls hP hS hl)
theorem n_lcmp {K : Ctx} {cc : ByteArray} {nL : Nat} {own : String} {ret : Option FieldType} {fr lo : Nat} {b : Bool} {ρ : Type} {rt : ρ → Option Value × Wd} {res : Option ρ} {w : Wd} {pc : Nat} {lv : List (Nat × Value)} {st : List Value} (F : Fx K cc nL own ret fr lo b) {x y : Int64} (hd : decode cc pc = .ok (.lcmp, 1)) (k : N K rt res w (pc + 1) lv (.int (lg_cmp x y) :: st)) : N K rt res w pc lv (.long y :: .long x :: st) := by
  obtain ⟨p, l, e, R, s, m, args, below, meth, c, g, σ⟩ := K
  obtain ⟨hx, hb, hml, hown, hts, hK, hN, hSK, hg, hlk, hrt, hR, hσ⟩ := F
  exact fun q hq H locs ls hP hS hl => W.lcmp hx hb hd (k q hq H locs ls hP hS hl)
theorem n_lshl {K : Ctx} {cc : ByteArray} {nL : Nat} {own : String} {ret : Option FieldType} {fr lo : Nat} {b : Bool} {ρ : Type} {rt : ρ → Option Value × Wd} {res : Option ρ} {w : Wd} {pc : Nat} {lv : List (Nat × Value)} {st : List Value} (F : Fx K cc nL own ret fr lo b) {x : Int64} {y : Int32} (hd : decode cc pc = .ok (.lshl, 1)) (k : N K rt res w (pc + 1) lv (.long (x <<< (y.toInt64 &&& 63)) :: st)) : N K rt res w pc lv (.int y :: .long x :: st) := by
  obtain ⟨p, l, e, R, s, m, args, below, meth, c, g, σ⟩ := K
  obtain ⟨hx, hb, hml, hown, hts, hK, hN, hSK, hg, hlk, hrt, hR, hσ⟩ := F
  exact fun q hq H locs ls hP hS hl => lv_lshl hx hb hd rfl (k q hq H locs ls hP hS hl)
theorem n_lshr {K : Ctx} {cc : ByteArray} {nL : Nat} {own : String} {ret : Option FieldType} {fr lo : Nat} {b : Bool} {ρ : Type} {rt : ρ → Option Value × Wd} {res : Option ρ} {w : Wd} {pc : Nat} {lv : List (Nat × Value)} {st : List Value} (F : Fx K cc nL own ret fr lo b) {x : Int64} {y : Int32} (hd : decode cc pc = .ok (.lshr, 1)) (k : N K rt res w (pc + 1) lv (.long (x >>> (y.toInt64 &&& 63)) :: st)) : N K rt res w pc lv (.int y :: .long x :: st) := by
  obtain ⟨p, l, e, R, s, m, args, below, meth, c, g, σ⟩ := K
  obtain ⟨hx, hb, hml, hown, hts, hK, hN, hSK, hg, hlk, hrt, hR, hσ⟩ := F
  exact fun q hq H locs ls hP hS hl => lv_lshr hx hb hd rfl (k q hq H locs ls hP hS hl)
theorem n_iushr {K : Ctx} {cc : ByteArray} {nL : Nat} {own : String} {ret : Option FieldType} {fr lo : Nat} {b : Bool} {ρ : Type} {rt : ρ → Option Value × Wd} {res : Option ρ} {w : Wd} {pc : Nat} {lv : List (Nat × Value)} {st : List Value} (F : Fx K cc nL own ret fr lo b) {x y : Int32} (hd : decode cc pc = .ok (.iushr, 1)) (k : N K rt res w (pc + 1) lv (.int ((x.toUInt32 >>> (y.toUInt32 &&& Int32.toUInt32 31)).toInt32) :: st)) : N K rt res w pc lv (.int y :: .int x :: st) := by
  obtain ⟨p, l, e, R, s, m, args, below, meth, c, g, σ⟩ := K
  obtain ⟨hx, hb, hml, hown, hts, hK, hN, hSK, hg, hlk, hrt, hR, hσ⟩ := F
  exact fun q hq H locs ls hP hS hl => lv_iushr hx hb hd rfl (k q hq H locs ls hP hS hl)
theorem n_i2l {K : Ctx} {cc : ByteArray} {nL : Nat} {own : String} {ret : Option FieldType} {fr lo : Nat} {b : Bool} {ρ : Type} {rt : ρ → Option Value × Wd} {res : Option ρ} {w : Wd} {pc : Nat} {lv : List (Nat × Value)} {st : List Value} (F : Fx K cc nL own ret fr lo b) {x : Int32} (hd : decode cc pc = .ok (.i2l, 1)) (k : N K rt res w (pc + 1) lv (.long (x.toInt64) :: st)) : N K rt res w pc lv (.int x :: st) := by
  obtain ⟨p, l, e, R, s, m, args, below, meth, c, g, σ⟩ := K
  obtain ⟨hx, hb, hml, hown, hts, hK, hN, hSK, hg, hlk, hrt, hR, hσ⟩ := F
  exact fun q hq H locs ls hP hS hl => lv_i2l hx hb hd rfl (k q hq H locs ls hP hS hl)
theorem n_l2i {K : Ctx} {cc : ByteArray} {nL : Nat} {own : String} {ret : Option FieldType} {fr lo : Nat} {b : Bool} {ρ : Type} {rt : ρ → Option Value × Wd} {res : Option ρ} {w : Wd} {pc : Nat} {lv : List (Nat × Value)} {st : List Value} (F : Fx K cc nL own ret fr lo b) {x : Int64} (hd : decode cc pc = .ok (.l2i, 1)) (k : N K rt res w (pc + 1) lv (.int (x.toInt32) :: st)) : N K rt res w pc lv (.long x :: st) := by
  obtain ⟨p, l, e, R, s, m, args, below, meth, c, g, σ⟩ := K
  obtain ⟨hx, hb, hml, hown, hts, hK, hN, hSK, hg, hlk, hrt, hR, hσ⟩ := F
  exact fun q hq H locs ls hP hS hl => lv_l2i hx hb hd rfl (k q hq H locs ls hP hS hl)
theorem n_i2c {K : Ctx} {cc : ByteArray} {nL : Nat} {own : String} {ret : Option FieldType} {fr lo : Nat} {b : Bool} {ρ : Type} {rt : ρ → Option Value × Wd} {res : Option ρ} {w : Wd} {pc : Nat} {lv : List (Nat × Value)} {st : List Value} (F : Fx K cc nL own ret fr lo b) {x : Int32} (hd : decode cc pc = .ok (.i2c, 1)) (k : N K rt res w (pc + 1) lv (.int ((x.toUInt32 % 65536).toInt32) :: st)) : N K rt res w pc lv (.int x :: st) := by
  obtain ⟨p, l, e, R, s, m, args, below, meth, c, g, σ⟩ := K
  obtain ⟨hx, hb, hml, hown, hts, hK, hN, hSK, hg, hlk, hrt, hR, hσ⟩ := F
  exact fun q hq H locs ls hP hS hl => lv_i2c hx hb hd rfl (k q hq H locs ls hP hS hl)
theorem n_dup {K : Ctx} {cc : ByteArray} {nL : Nat} {own : String} {ret : Option FieldType} {fr lo : Nat} {b : Bool} {ρ : Type} {rt : ρ → Option Value × Wd} {res : Option ρ} {w : Wd} {pc : Nat} {lv : List (Nat × Value)} {st : List Value} (F : Fx K cc nL own ret fr lo b) {va : Value} (hd : decode cc pc = .ok (.dup, 1)) (hva : va.category = 1) (k : N K rt res w (pc + 1) lv (va :: va :: st)) : N K rt res w pc lv (va :: st) := by
  obtain ⟨p, l, e, R, s, m, args, below, meth, c, g, σ⟩ := K
  obtain ⟨hx, hb, hml, hown, hts, hK, hN, hSK, hg, hlk, hrt, hR, hσ⟩ := F
  exact fun q hq H locs ls hP hS hl => lv_dup hx hb hd hva (k q hq H locs ls hP hS hl)
theorem n_dup2 {K : Ctx} {cc : ByteArray} {nL : Nat} {own : String} {ret : Option FieldType} {fr lo : Nat} {b : Bool} {ρ : Type} {rt : ρ → Option Value × Wd} {res : Option ρ} {w : Wd} {pc : Nat} {lv : List (Nat × Value)} {st : List Value} (F : Fx K cc nL own ret fr lo b) {va vb : Value} (hd : decode cc pc = .ok (.dup2, 1)) (hva : va.category = 1) (hvb : vb.category = 1) (k : N K rt res w (pc + 1) lv (va :: vb :: va :: vb :: st)) : N K rt res w pc lv (va :: vb :: st) := by
  obtain ⟨p, l, e, R, s, m, args, below, meth, c, g, σ⟩ := K
  obtain ⟨hx, hb, hml, hown, hts, hK, hN, hSK, hg, hlk, hrt, hR, hσ⟩ := F
  exact fun q hq H locs ls hP hS hl => lv_dup2_11 hx hb hd hva hvb (k q hq H locs ls hP hS hl)
theorem n_pop {K : Ctx} {cc : ByteArray} {nL : Nat} {own : String} {ret : Option FieldType} {fr lo : Nat} {b : Bool} {ρ : Type} {rt : ρ → Option Value × Wd} {res : Option ρ} {w : Wd} {pc : Nat} {lv : List (Nat × Value)} {st : List Value} (F : Fx K cc nL own ret fr lo b) {va : Value} (hd : decode cc pc = .ok (.pop, 1)) (hva : va.category = 1) (k : N K rt res w (pc + 1) lv (st)) : N K rt res w pc lv (va :: st) := by
  obtain ⟨p, l, e, R, s, m, args, below, meth, c, g, σ⟩ := K
  obtain ⟨hx, hb, hml, hown, hts, hK, hN, hSK, hg, hlk, hrt, hR, hσ⟩ := F
  exact fun q hq H locs ls hP hS hl => lv_pop hx hb hd hva (k q hq H locs ls hP hS hl)
theorem n_iconst {K : Ctx} {cc : ByteArray} {nL : Nat} {own : String} {ret : Option FieldType} {fr lo : Nat} {b : Bool} {ρ : Type} {rt : ρ → Option Value × Wd} {res : Option ρ} {w : Wd} {pc : Nat} {lv : List (Nat × Value)} {st : List Value} (F : Fx K cc nL own ret fr lo b) {n : Int} (v : Int32) (hd : decode cc pc = .ok (.iconst n, 1)) (hv : Int32.ofInt n = v) (k : N K rt res w (pc + 1) lv (.int v :: st)) : N K rt res w pc lv (st) := by
  obtain ⟨p, l, e, R, s, m, args, below, meth, c, g, σ⟩ := K
  obtain ⟨hx, hb, hml, hown, hts, hK, hN, hSK, hg, hlk, hrt, hR, hσ⟩ := F
  exact fun q hq H locs ls hP hS hl => lv_iconst hx hb hd hv (k q hq H locs ls hP hS hl)
theorem n_bipush {K : Ctx} {cc : ByteArray} {nL : Nat} {own : String} {ret : Option FieldType} {fr lo : Nat} {b : Bool} {ρ : Type} {rt : ρ → Option Value × Wd} {res : Option ρ} {w : Wd} {pc : Nat} {lv : List (Nat × Value)} {st : List Value} (F : Fx K cc nL own ret fr lo b) {n : Int} (v : Int32) (hd : decode cc pc = .ok (.bipush n, 2)) (hv : (Int8.ofInt n).toInt32 = v) (k : N K rt res w (pc + 2) lv (.int v :: st)) : N K rt res w pc lv (st) := by
  obtain ⟨p, l, e, R, s, m, args, below, meth, c, g, σ⟩ := K
  obtain ⟨hx, hb, hml, hown, hts, hK, hN, hSK, hg, hlk, hrt, hR, hσ⟩ := F
  exact fun q hq H locs ls hP hS hl => lv_bipush hx hb hd hv (k q hq H locs ls hP hS hl)
theorem n_sipush {K : Ctx} {cc : ByteArray} {nL : Nat} {own : String} {ret : Option FieldType} {fr lo : Nat} {b : Bool} {ρ : Type} {rt : ρ → Option Value × Wd} {res : Option ρ} {w : Wd} {pc : Nat} {lv : List (Nat × Value)} {st : List Value} (F : Fx K cc nL own ret fr lo b) {n : Int} (v : Int32) (hd : decode cc pc = .ok (.sipush n, 3)) (hv : (Int16.ofInt n).toInt32 = v) (k : N K rt res w (pc + 3) lv (.int v :: st)) : N K rt res w pc lv (st) := by
  obtain ⟨p, l, e, R, s, m, args, below, meth, c, g, σ⟩ := K
  obtain ⟨hx, hb, hml, hown, hts, hK, hN, hSK, hg, hlk, hrt, hR, hσ⟩ := F
  exact fun q hq H locs ls hP hS hl => lv_sipush hx hb hd hv (k q hq H locs ls hP hS hl)
theorem n_lconst {K : Ctx} {cc : ByteArray} {nL : Nat} {own : String} {ret : Option FieldType} {fr lo : Nat} {b : Bool} {ρ : Type} {rt : ρ → Option Value × Wd} {res : Option ρ} {w : Wd} {pc : Nat} {lv : List (Nat × Value)} {st : List Value} (F : Fx K cc nL own ret fr lo b) {n : Fin 2} (v : Int64) (hd : decode cc pc = .ok (.lconst n, 1)) (hv : Int64.ofNat (n : Nat) = v) (k : N K rt res w (pc + 1) lv (.long v :: st)) : N K rt res w pc lv (st) := by
  obtain ⟨p, l, e, R, s, m, args, below, meth, c, g, σ⟩ := K
  obtain ⟨hx, hb, hml, hown, hts, hK, hN, hSK, hg, hlk, hrt, hR, hσ⟩ := F
  exact fun q hq H locs ls hP hS hl => lv_lconst hx hb hd hv (k q hq H locs ls hP hS hl)
theorem n_iload_n {K : Ctx} {cc : ByteArray} {nL : Nat} {own : String} {ret : Option FieldType} {fr lo : Nat} {b : Bool} {ρ : Type} {rt : ρ → Option Value × Wd} {res : Option ρ} {w : Wd} {pc : Nat} {lv : List (Nat × Value)} {st : List Value} (F : Fx K cc nL own ret fr lo b) {k0 : Fin 4} {i : Nat} {x : Int32} (hd : decode cc pc = .ok (.iload_n k0, 1)) (hi : (k0 : Nat) = i) (j : Nat) (hj : lv[j]? = some (i, .int x)) (k : N K rt res w (pc + 1) lv (.int x :: st)) : N K rt res w pc lv (st) := by
  obtain ⟨p, l, e, R, s, m, args, below, meth, c, g, σ⟩ := K
  obtain ⟨hx, hb, hml, hown, hts, hK, hN, hSK, hg, hlk, hrt, hR, hσ⟩ := F
  exact fun q hq H locs ls hP hS hl => lv_iload_n hx hb hd hi (lv_at hl j hj) (k q hq H locs ls hP hS hl)
theorem n_iload {K : Ctx} {cc : ByteArray} {nL : Nat} {own : String} {ret : Option FieldType} {fr lo : Nat} {b : Bool} {ρ : Type} {rt : ρ → Option Value × Wd} {res : Option ρ} {w : Wd} {pc : Nat} {lv : List (Nat × Value)} {st : List Value} (F : Fx K cc nL own ret fr lo b) {i : Nat} {x : Int32} (hd : decode cc pc = .ok (.iload i, 2)) (j : Nat) (hj : lv[j]? = some (i, .int x)) (k : N K rt res w (pc + 2) lv (.int x :: st)) : N K rt res w pc lv (st) := by
  obtain ⟨p, l, e, R, s, m, args, below, meth, c, g, σ⟩ := K
  obtain ⟨hx, hb, hml, hown, hts, hK, hN, hSK, hg, hlk, hrt, hR, hσ⟩ := F
  exact fun q hq H locs ls hP hS hl => lv_iload hx hb hd (lv_at hl j hj) (k q hq H locs ls hP hS hl)
theorem n_istore_n {K : Ctx} {cc : ByteArray} {nL : Nat} {own : String} {ret : Option FieldType} {fr lo : Nat} {b : Bool} {ρ : Type} {rt : ρ → Option Value × Wd} {res : Option ρ} {w : Wd} {pc : Nat} {lv : List (Nat × Value)} {st : List Value} (F : Fx K cc nL own ret fr lo b) {k0 : Fin 4} {i : Nat} {x : Int32} {lv' : List (Nat × Value)} (hd : decode cc pc = .ok (.istore_n k0, 1)) (hi : (k0 : Nat) = i) (hn : i < nL) (hl' : (i, Value.int x) :: lv.filter (fun q => !(q.1 == i) && !(q.1 + 1 == i && q.2.category == 2)) = lv') (k : N K rt res w (pc + 1) lv' st) : N K rt res w pc lv (.int x :: st) := by
  obtain ⟨p, l, e, R, s, m, args, below, meth, c, g, σ⟩ := K
  obtain ⟨hx, hb, hml, hown, hts, hK, hN, hSK, hg, hlk, hrt, hR, hσ⟩ := F
  exact fun q hq H locs ls hP hS hl => lv_istore_n hx hb hd hi hl (by rw [hml]; exact hn) hl' (fun ls' hl2 => k q hq H locs ls' hP hS hl2)
theorem n_istore {K : Ctx} {cc : ByteArray} {nL : Nat} {own : String} {ret : Option FieldType} {fr lo : Nat} {b : Bool} {ρ : Type} {rt : ρ → Option Value × Wd} {res : Option ρ} {w : Wd} {pc : Nat} {lv : List (Nat × Value)} {st : List Value} (F : Fx K cc nL own ret fr lo b) {i : Nat} {x : Int32} {lv' : List (Nat × Value)} (hd : decode cc pc = .ok (.istore i, 2)) (hn : i < nL) (hl' : (i, Value.int x) :: lv.filter (fun q => !(q.1 == i) && !(q.1 + 1 == i && q.2.category == 2)) = lv') (k : N K rt res w (pc + 2) lv' st) : N K rt res w pc lv (.int x :: st) := by
  obtain ⟨p, l, e, R, s, m, args, below, meth, c, g, σ⟩ := K
  obtain ⟨hx, hb, hml, hown, hts, hK, hN, hSK, hg, hlk, hrt, hR, hσ⟩ := F
  exact fun q hq H locs ls hP hS hl => lv_istore hx hb hd hl (by rw [hml]; exact hn) hl' (fun ls' hl2 => k q hq H locs ls' hP hS hl2)
theorem n_lload_n {K : Ctx} {cc : ByteArray} {nL : Nat} {own : String} {ret : Option FieldType} {fr lo : Nat} {b : Bool} {ρ : Type} {rt : ρ → Option Value × Wd} {res : Option ρ} {w : Wd} {pc : Nat} {lv : List (Nat × Value)} {st : List Value} (F : Fx K cc nL own ret fr lo b) {k0 : Fin 4} {i : Nat} {x : Int64} (hd : decode cc pc = .ok (.lload_n k0, 1)) (hi : (k0 : Nat) = i) (j : Nat) (hj : lv[j]? = some (i, .long x)) (k : N K rt res w (pc + 1) lv (.long x :: st)) : N K rt res w pc lv (st) := by
  obtain ⟨p, l, e, R, s, m, args, below, meth, c, g, σ⟩ := K
  obtain ⟨hx, hb, hml, hown, hts, hK, hN, hSK, hg, hlk, hrt, hR, hσ⟩ := F
  exact fun q hq H locs ls hP hS hl => lv_lload_n hx hb hd hi (lv_at hl j hj) (k q hq H locs ls hP hS hl)
theorem n_lload {K : Ctx} {cc : ByteArray} {nL : Nat} {own : String} {ret : Option FieldType} {fr lo : Nat} {b : Bool} {ρ : Type} {rt : ρ → Option Value × Wd} {res : Option ρ} {w : Wd} {pc : Nat} {lv : List (Nat × Value)} {st : List Value} (F : Fx K cc nL own ret fr lo b) {i : Nat} {x : Int64} (hd : decode cc pc = .ok (.lload i, 2)) (j : Nat) (hj : lv[j]? = some (i, .long x)) (k : N K rt res w (pc + 2) lv (.long x :: st)) : N K rt res w pc lv (st) := by
  obtain ⟨p, l, e, R, s, m, args, below, meth, c, g, σ⟩ := K
  obtain ⟨hx, hb, hml, hown, hts, hK, hN, hSK, hg, hlk, hrt, hR, hσ⟩ := F
  exact fun q hq H locs ls hP hS hl => lv_lload hx hb hd (lv_at hl j hj) (k q hq H locs ls hP hS hl)
theorem n_lstore_n {K : Ctx} {cc : ByteArray} {nL : Nat} {own : String} {ret : Option FieldType} {fr lo : Nat} {b : Bool} {ρ : Type} {rt : ρ → Option Value × Wd} {res : Option ρ} {w : Wd} {pc : Nat} {lv : List (Nat × Value)} {st : List Value} (F : Fx K cc nL own ret fr lo b) {k0 : Fin 4} {i : Nat} {x : Int64} {lv' : List (Nat × Value)} (hd : decode cc pc = .ok (.lstore_n k0, 1)) (hi : (k0 : Nat) = i) (hn : i + 1 < nL) (hl' : (i, Value.long x) :: lv.filter (fun q => !(q.1 == i) && (!(q.1 == i + 1) && !(q.1 + 1 == i && q.2.category == 2))) = lv') (k : N K rt res w (pc + 1) lv' st) : N K rt res w pc lv (.long x :: st) := by
  obtain ⟨p, l, e, R, s, m, args, below, meth, c, g, σ⟩ := K
  obtain ⟨hx, hb, hml, hown, hts, hK, hN, hSK, hg, hlk, hrt, hR, hσ⟩ := F
  exact fun q hq H locs ls hP hS hl => lv_lstore_n hx hb hd hi hl (by rw [hml]; exact hn) hl' (fun ls' hl2 => k q hq H locs ls' hP hS hl2)
theorem n_lstore {K : Ctx} {cc : ByteArray} {nL : Nat} {own : String} {ret : Option FieldType} {fr lo : Nat} {b : Bool} {ρ : Type} {rt : ρ → Option Value × Wd} {res : Option ρ} {w : Wd} {pc : Nat} {lv : List (Nat × Value)} {st : List Value} (F : Fx K cc nL own ret fr lo b) {i : Nat} {x : Int64} {lv' : List (Nat × Value)} (hd : decode cc pc = .ok (.lstore i, 2)) (hn : i + 1 < nL) (hl' : (i, Value.long x) :: lv.filter (fun q => !(q.1 == i) && (!(q.1 == i + 1) && !(q.1 + 1 == i && q.2.category == 2))) = lv') (k : N K rt res w (pc + 2) lv' st) : N K rt res w pc lv (.long x :: st) := by
  obtain ⟨p, l, e, R, s, m, args, below, meth, c, g, σ⟩ := K
  obtain ⟨hx, hb, hml, hown, hts, hK, hN, hSK, hg, hlk, hrt, hR, hσ⟩ := F
  exact fun q hq H locs ls hP hS hl => lv_lstore hx hb hd hl (by rw [hml]; exact hn) hl' (fun ls' hl2 => k q hq H locs ls' hP hS hl2)
theorem n_aload_n {K : Ctx} {cc : ByteArray} {nL : Nat} {own : String} {ret : Option FieldType} {fr lo : Nat} {b : Bool} {ρ : Type} {rt : ρ → Option Value × Wd} {res : Option ρ} {w : Wd} {pc : Nat} {lv : List (Nat × Value)} {st : List Value} (F : Fx K cc nL own ret fr lo b) {k0 : Fin 4} {i : Nat} {x : Nat} (hd : decode cc pc = .ok (.aload_n k0, 1)) (hi : (k0 : Nat) = i) (j : Nat) (hj : lv[j]? = some (i, .ref x)) (k : N K rt res w (pc + 1) lv (.ref x :: st)) : N K rt res w pc lv (st) := by
  obtain ⟨p, l, e, R, s, m, args, below, meth, c, g, σ⟩ := K
  obtain ⟨hx, hb, hml, hown, hts, hK, hN, hSK, hg, hlk, hrt, hR, hσ⟩ := F
  exact fun q hq H locs ls hP hS hl => lv_aload_n hx hb hd hi (lv_at hl j hj) (k q hq H locs ls hP hS hl)
theorem n_aload {K : Ctx} {cc : ByteArray} {nL : Nat} {own : String} {ret : Option FieldType} {fr lo : Nat} {b : Bool} {ρ : Type} {rt : ρ → Option Value × Wd} {res : Option ρ} {w : Wd} {pc : Nat} {lv : List (Nat × Value)} {st : List Value} (F : Fx K cc nL own ret fr lo b) {i : Nat} {x : Nat} (hd : decode cc pc = .ok (.aload i, 2)) (j : Nat) (hj : lv[j]? = some (i, .ref x)) (k : N K rt res w (pc + 2) lv (.ref x :: st)) : N K rt res w pc lv (st) := by
  obtain ⟨p, l, e, R, s, m, args, below, meth, c, g, σ⟩ := K
  obtain ⟨hx, hb, hml, hown, hts, hK, hN, hSK, hg, hlk, hrt, hR, hσ⟩ := F
  exact fun q hq H locs ls hP hS hl => lv_aload hx hb hd (lv_at hl j hj) (k q hq H locs ls hP hS hl)
theorem n_astore_n {K : Ctx} {cc : ByteArray} {nL : Nat} {own : String} {ret : Option FieldType} {fr lo : Nat} {b : Bool} {ρ : Type} {rt : ρ → Option Value × Wd} {res : Option ρ} {w : Wd} {pc : Nat} {lv : List (Nat × Value)} {st : List Value} (F : Fx K cc nL own ret fr lo b) {k0 : Fin 4} {i : Nat} {x : Nat} {lv' : List (Nat × Value)} (hd : decode cc pc = .ok (.astore_n k0, 1)) (hi : (k0 : Nat) = i) (hn : i < nL) (hl' : (i, Value.ref x) :: lv.filter (fun q => !(q.1 == i) && !(q.1 + 1 == i && q.2.category == 2)) = lv') (k : N K rt res w (pc + 1) lv' st) : N K rt res w pc lv (.ref x :: st) := by
  obtain ⟨p, l, e, R, s, m, args, below, meth, c, g, σ⟩ := K
  obtain ⟨hx, hb, hml, hown, hts, hK, hN, hSK, hg, hlk, hrt, hR, hσ⟩ := F
  exact fun q hq H locs ls hP hS hl => lv_astore_n hx hb hd hi hl (by rw [hml]; exact hn) hl' (fun ls' hl2 => k q hq H locs ls' hP hS hl2)
theorem n_astore {K : Ctx} {cc : ByteArray} {nL : Nat} {own : String} {ret : Option FieldType} {fr lo : Nat} {b : Bool} {ρ : Type} {rt : ρ → Option Value × Wd} {res : Option ρ} {w : Wd} {pc : Nat} {lv : List (Nat × Value)} {st : List Value} (F : Fx K cc nL own ret fr lo b) {i : Nat} {x : Nat} {lv' : List (Nat × Value)} (hd : decode cc pc = .ok (.astore i, 2)) (hn : i < nL) (hl' : (i, Value.ref x) :: lv.filter (fun q => !(q.1 == i) && !(q.1 + 1 == i && q.2.category == 2)) = lv') (k : N K rt res w (pc + 2) lv' st) : N K rt res w pc lv (.ref x :: st) := by
  obtain ⟨p, l, e, R, s, m, args, below, meth, c, g, σ⟩ := K
  obtain ⟨hx, hb, hml, hown, hts, hK, hN, hSK, hg, hlk, hrt, hR, hσ⟩ := F
  exact fun q hq H locs ls hP hS hl => lv_astore hx hb hd hl (by rw [hml]; exact hn) hl' (fun ls' hl2 => k q hq H locs ls' hP hS hl2)
theorem n_iinc {K : Ctx} {cc : ByteArray} {nL : Nat} {own : String} {ret : Option FieldType} {fr lo : Nat} {b : Bool} {ρ : Type} {rt : ρ → Option Value × Wd} {res : Option ρ} {w : Wd} {pc : Nat} {lv : List (Nat × Value)} {st : List Value} (F : Fx K cc nL own ret fr lo b) {i : Nat} {n : Int} {x : Int32} (v : Int32) {lv' : List (Nat × Value)} (hd : decode cc pc = .ok (.iinc i n, 3)) (j : Nat) (hj : lv[j]? = some (i, .int x)) (hv : x + Int32.ofInt n = v) (hn : i < nL) (hl' : (i, Value.int v) :: lv.filter (fun q => !(q.1 == i) && !(q.1 + 1 == i && q.2.category == 2)) = lv') (k : N K rt res w (pc + 3) lv' st) : N K rt res w pc lv st := by
  obtain ⟨p, l, e, R, s, m, args, below, meth, c, g, σ⟩ := K
  obtain ⟨hx, hb, hml, hown, hts, hK, hN, hSK, hg, hlk, hrt, hR, hσ⟩ := F
  exact fun q hq H locs ls hP hS hl => lv_iinc hx hb hd hl hj hv (by rw [hml]; exact hn) hl' (fun ls' hl2 => k q hq H locs ls' hP hS hl2)
theorem n_goto {K : Ctx} {cc : ByteArray} {nL : Nat} {own : String} {ret : Option FieldType} {fr lo : Nat} {b : Bool} {ρ : Type} {rt : ρ → Option Value × Wd} {res : Option ρ} {w : Wd} {pc : Nat} {lv : List (Nat × Value)} {st : List Value} (F : Fx K cc nL own ret fr lo b) {off : Int} (tgt : Nat) (hd : decode cc pc = .ok (.goto off, 3)) (ht : (pc : Int) + off = (tgt : Int)) (k : N K rt res w tgt lv st) : N K rt res w pc lv st := by
  obtain ⟨p, l, e, R, s, m, args, below, meth, c, g, σ⟩ := K
  obtain ⟨hx, hb, hml, hown, hts, hK, hN, hSK, hg, hlk, hrt, hR, hσ⟩ := F
  exact fun q hq H locs ls hP hS hl => lv_goto hx hb hd ht (k q hq H locs ls hP hS hl)
theorem n_if_eq {K : Ctx} {cc : ByteArray} {nL : Nat} {own : String} {ret : Option FieldType} {fr lo : Nat} {b : Bool} {ρ : Type} {rt : ρ → Option Value × Wd} {res : Option ρ} {w : Wd} {pc : Nat} {lv : List (Nat × Value)} {st : List Value} (F : Fx K cc nL own ret fr lo b) {x : Int32} {off : Int} (tgt : Nat) (hd : decode cc pc = .ok (.ifCond .eq off, 3)) (ht : (pc : Int) + off = (tgt : Int)) (kt : x = 0 → N K rt res w tgt lv st) (kf : ¬ x = 0 → N K rt res w (pc + 3) lv st) : N K rt res w pc lv (.int x :: st) := by
  obtain ⟨p, l, e, R, s, m, args, below, meth, c, g, σ⟩ := K
  obtain ⟨hx, hb, hml, hown, hts, hK, hN, hSK, hg, hlk, hrt, hR, hσ⟩ := F
  exact fun q hq H locs ls hP hS hl => lv_if_eq hx hb hd ht (fun h => kt h q hq H locs ls hP hS hl) (fun h => kf h q hq H locs ls hP hS hl)
theorem n_if_ne {K : Ctx} {cc : ByteArray} {nL : Nat} {own : String} {ret : Option FieldType} {fr lo : Nat} {b : Bool} {ρ : Type} {rt : ρ → Option Value × Wd} {res : Option ρ} {w : Wd} {pc : Nat} {lv : List (Nat × Value)} {st : List Value} (F : Fx K cc nL own ret fr lo b) {x : Int32} {off : Int} (tgt : Nat) (hd : decode cc pc = .ok (.ifCond .ne off, 3)) (ht : (pc : Int) + off = (tgt : Int)) (kt : ¬ x = 0 → N K rt res w tgt lv st) (kf : x = 0 → N K rt res w (pc + 3) lv st) : N K rt res w pc lv (.int x :: st) := by
  obtain ⟨p, l, e, R, s, m, args, below, meth, c, g, σ⟩ := K
  obtain ⟨hx, hb, hml, hown, hts, hK, hN, hSK, hg, hlk, hrt, hR, hσ⟩ := F
  exact fun q hq H locs ls hP hS hl => lv_if_ne hx hb hd ht (fun h => kt h q hq H locs ls hP hS hl) (fun h => kf h q hq H locs ls hP hS hl)
theorem n_if_lt {K : Ctx} {cc : ByteArray} {nL : Nat} {own : String} {ret : Option FieldType} {fr lo : Nat} {b : Bool} {ρ : Type} {rt : ρ → Option Value × Wd} {res : Option ρ} {w : Wd} {pc : Nat} {lv : List (Nat × Value)} {st : List Value} (F : Fx K cc nL own ret fr lo b) {x : Int32} {off : Int} (tgt : Nat) (hd : decode cc pc = .ok (.ifCond .lt off, 3)) (ht : (pc : Int) + off = (tgt : Int)) (kt : x < 0 → N K rt res w tgt lv st) (kf : ¬ x < 0 → N K rt res w (pc + 3) lv st) : N K rt res w pc lv (.int x :: st) := by
  obtain ⟨p, l, e, R, s, m, args, below, meth, c, g, σ⟩ := K
  obtain ⟨hx, hb, hml, hown, hts, hK, hN, hSK, hg, hlk, hrt, hR, hσ⟩ := F
  exact fun q hq H locs ls hP hS hl => lv_if_lt hx hb hd ht (fun h => kt h q hq H locs ls hP hS hl) (fun h => kf h q hq H locs ls hP hS hl)
theorem n_if_ge {K : Ctx} {cc : ByteArray} {nL : Nat} {own : String} {ret : Option FieldType} {fr lo : Nat} {b : Bool} {ρ : Type} {rt : ρ → Option Value × Wd} {res : Option ρ} {w : Wd} {pc : Nat} {lv : List (Nat × Value)} {st : List Value} (F : Fx K cc nL own ret fr lo b) {x : Int32} {off : Int} (tgt : Nat) (hd : decode cc pc = .ok (.ifCond .ge off, 3)) (ht : (pc : Int) + off = (tgt : Int)) (kt : 0 ≤ x → N K rt res w tgt lv st) (kf : ¬ 0 ≤ x → N K rt res w (pc + 3) lv st) : N K rt res w pc lv (.int x :: st) := by
  obtain ⟨p, l, e, R, s, m, args, below, meth, c, g, σ⟩ := K
  obtain ⟨hx, hb, hml, hown, hts, hK, hN, hSK, hg, hlk, hrt, hR, hσ⟩ := F
  exact fun q hq H locs ls hP hS hl => lv_if_ge hx hb hd ht (fun h => kt h q hq H locs ls hP hS hl) (fun h => kf h q hq H locs ls hP hS hl)
theorem n_if_gt {K : Ctx} {cc : ByteArray} {nL : Nat} {own : String} {ret : Option FieldType} {fr lo : Nat} {b : Bool} {ρ : Type} {rt : ρ → Option Value × Wd} {res : Option ρ} {w : Wd} {pc : Nat} {lv : List (Nat × Value)} {st : List Value} (F : Fx K cc nL own ret fr lo b) {x : Int32} {off : Int} (tgt : Nat) (hd : decode cc pc = .ok (.ifCond .gt off, 3)) (ht : (pc : Int) + off = (tgt : Int)) (kt : 0 < x → N K rt res w tgt lv st) (kf : ¬ 0 < x → N K rt res w (pc + 3) lv st) : N K rt res w pc lv (.int x :: st) := by
  obtain ⟨p, l, e, R, s, m, args, below, meth, c, g, σ⟩ := K
  obtain ⟨hx, hb, hml, hown, hts, hK, hN, hSK, hg, hlk, hrt, hR, hσ⟩ := F
  exact fun q hq H locs ls hP hS hl => lv_if_gt hx hb hd ht (fun h => kt h q hq H locs ls hP hS hl) (fun h => kf h q hq H locs ls hP hS hl)
theorem n_if_le {K : Ctx} {cc : ByteArray} {nL : Nat} {own : String} {ret : Option FieldType} {fr lo : Nat} {b : Bool} {ρ : Type} {rt : ρ → Option Value × Wd} {res : Option ρ} {w : Wd} {pc : Nat} {lv : List (Nat × Value)} {st : List Value} (F : Fx K cc nL own ret fr lo b) {x : Int32} {off : Int} (tgt : Nat) (hd : decode cc pc = .ok (.ifCond .le off, 3)) (ht : (pc : Int) + off = (tgt : Int)) (kt : x ≤ 0 → N K rt res w tgt lv st) (kf : ¬ x ≤ 0 → N K rt res w (pc + 3) lv st) : N K rt res w pc lv (.int x :: st) := by
  obtain ⟨p, l, e, R, s, m, args, below, meth, c, g, σ⟩ := K
  obtain ⟨hx, hb, hml, hown, hts, hK, hN, hSK, hg, hlk, hrt, hR, hσ⟩ := F
  exact fun q hq H locs ls hP hS hl => lv_if_le hx hb hd ht (fun h => kt h q hq H locs ls hP hS hl) (fun h => kf h q hq H locs ls hP hS hl)
theorem n_icmp_eq {K : Ctx} {cc : ByteArray} {nL : Nat} {own : String} {ret : Option FieldType} {fr lo : Nat} {b : Bool} {ρ : Type} {rt : ρ → Option Value × Wd} {res : Option ρ} {w : Wd} {pc : Nat} {lv : List (Nat × Value)} {st : List Value} (F : Fx K cc nL own ret fr lo b) {x y : Int32} {off : Int} (tgt : Nat) (hd : decode cc pc = .ok (.if_icmp .eq off, 3)) (ht : (pc : Int) + off = (tgt : Int)) (kt : x = y → N K rt res w tgt lv st) (kf : ¬ x = y → N K rt res w (pc + 3) lv st) : N K rt res w pc lv (.int y :: .int x :: st) := by
  obtain ⟨p, l, e, R, s, m, args, below, meth, c, g, σ⟩ := K
  obtain ⟨hx, hb, hml, hown, hts, hK, hN, hSK, hg, hlk, hrt, hR, hσ⟩ := F
  exact fun q hq H locs ls hP hS hl => lv_icmp_eq hx hb hd ht (fun h => kt h q hq H locs ls hP hS hl) (fun h => kf h q hq H locs ls hP hS hl)
theorem n_icmp_ne {K : Ctx} {cc : ByteArray} {nL : Nat} {own : String} {ret : Option FieldType} {fr lo : Nat} {b : Bool} {ρ : Type} {rt : ρ → Option Value × Wd} {res : Option ρ} {w : Wd} {pc : Nat} {lv : List (Nat × Value)} {st : List Value} (F : Fx K cc nL own ret fr lo b) {x y : Int32} {off : Int} (tgt : Nat) (hd : decode cc pc = .ok (.if_icmp .ne off, 3)) (ht : (pc : Int) + off = (tgt : Int)) (kt : ¬ x = y → N K rt res w tgt lv st) (kf : x = y → N K rt res w (pc + 3) lv st) : N K rt res w pc lv (.int y :: .int x :: st) := by
  obtain ⟨p, l, e, R, s, m, args, below, meth, c, g, σ⟩ := K
  obtain ⟨hx, hb, hml, hown, hts, hK, hN, hSK, hg, hlk, hrt, hR, hσ⟩ := F
  exact fun q hq H locs ls hP hS hl => lv_icmp_ne hx hb hd ht (fun h => kt h q hq H locs ls hP hS hl) (fun h => kf h q hq H locs ls hP hS hl)
theorem n_icmp_lt {K : Ctx} {cc : ByteArray} {nL : Nat} {own : String} {ret : Option FieldType} {fr lo : Nat} {b : Bool} {ρ : Type} {rt : ρ → Option Value × Wd} {res : Option ρ} {w : Wd} {pc : Nat} {lv : List (Nat × Value)} {st : List Value} (F : Fx K cc nL own ret fr lo b) {x y : Int32} {off : Int} (tgt : Nat) (hd : decode cc pc = .ok (.if_icmp .lt off, 3)) (ht : (pc : Int) + off = (tgt : Int)) (kt : x < y → N K rt res w tgt lv st) (kf : ¬ x < y → N K rt res w (pc + 3) lv st) : N K rt res w pc lv (.int y :: .int x :: st) := by
  obtain ⟨p, l, e, R, s, m, args, below, meth, c, g, σ⟩ := K
  obtain ⟨hx, hb, hml, hown, hts, hK, hN, hSK, hg, hlk, hrt, hR, hσ⟩ := F
  exact fun q hq H locs ls hP hS hl => lv_icmp_lt hx hb hd ht (fun h => kt h q hq H locs ls hP hS hl) (fun h => kf h q hq H locs ls hP hS hl)
theorem n_icmp_ge {K : Ctx} {cc : ByteArray} {nL : Nat} {own : String} {ret : Option FieldType} {fr lo : Nat} {b : Bool} {ρ : Type} {rt : ρ → Option Value × Wd} {res : Option ρ} {w : Wd} {pc : Nat} {lv : List (Nat × Value)} {st : List Value} (F : Fx K cc nL own ret fr lo b) {x y : Int32} {off : Int} (tgt : Nat) (hd : decode cc pc = .ok (.if_icmp .ge off, 3)) (ht : (pc : Int) + off = (tgt : Int)) (kt : y ≤ x → N K rt res w tgt lv st) (kf : ¬ y ≤ x → N K rt res w (pc + 3) lv st) : N K rt res w pc lv (.int y :: .int x :: st) := by
  obtain ⟨p, l, e, R, s, m, args, below, meth, c, g, σ⟩ := K
  obtain ⟨hx, hb, hml, hown, hts, hK, hN, hSK, hg, hlk, hrt, hR, hσ⟩ := F
  exact fun q hq H locs ls hP hS hl => lv_icmp_ge hx hb hd ht (fun h => kt h q hq H locs ls hP hS hl) (fun h => kf h q hq H locs ls hP hS hl)
theorem n_icmp_gt {K : Ctx} {cc : ByteArray} {nL : Nat} {own : String} {ret : Option FieldType} {fr lo : Nat} {b : Bool} {ρ : Type} {rt : ρ → Option Value × Wd} {res : Option ρ} {w : Wd} {pc : Nat} {lv : List (Nat × Value)} {st : List Value} (F : Fx K cc nL own ret fr lo b) {x y : Int32} {off : Int} (tgt : Nat) (hd : decode cc pc = .ok (.if_icmp .gt off, 3)) (ht : (pc : Int) + off = (tgt : Int)) (kt : y < x → N K rt res w tgt lv st) (kf : ¬ y < x → N K rt res w (pc + 3) lv st) : N K rt res w pc lv (.int y :: .int x :: st) := by
  obtain ⟨p, l, e, R, s, m, args, below, meth, c, g, σ⟩ := K
  obtain ⟨hx, hb, hml, hown, hts, hK, hN, hSK, hg, hlk, hrt, hR, hσ⟩ := F
  exact fun q hq H locs ls hP hS hl => lv_icmp_gt hx hb hd ht (fun h => kt h q hq H locs ls hP hS hl) (fun h => kf h q hq H locs ls hP hS hl)
theorem n_icmp_le {K : Ctx} {cc : ByteArray} {nL : Nat} {own : String} {ret : Option FieldType} {fr lo : Nat} {b : Bool} {ρ : Type} {rt : ρ → Option Value × Wd} {res : Option ρ} {w : Wd} {pc : Nat} {lv : List (Nat × Value)} {st : List Value} (F : Fx K cc nL own ret fr lo b) {x y : Int32} {off : Int} (tgt : Nat) (hd : decode cc pc = .ok (.if_icmp .le off, 3)) (ht : (pc : Int) + off = (tgt : Int)) (kt : x ≤ y → N K rt res w tgt lv st) (kf : ¬ x ≤ y → N K rt res w (pc + 3) lv st) : N K rt res w pc lv (.int y :: .int x :: st) := by
  obtain ⟨p, l, e, R, s, m, args, below, meth, c, g, σ⟩ := K
  obtain ⟨hx, hb, hml, hown, hts, hK, hN, hSK, hg, hlk, hrt, hR, hσ⟩ := F
  exact fun q hq H locs ls hP hS hl => lv_icmp_le hx hb hd ht (fun h => kt h q hq H locs ls hP hS hl) (fun h => kf h q hq H locs ls hP hS hl)
theorem n_tabIn {K : Ctx} {cc : ByteArray} {nL : Nat} {own : String} {ret : Option FieldType} {fr lo : Nat} {b : Bool} {ρ : Type} {rt : ρ → Option Value × Wd} {res : Option ρ} {w : Wd} {pc : Nat} {lv : List (Nat × Value)} {st : List Value} (F : Fx K cc nL own ret fr lo b) {dflt lo0 hi0 : Int} {offs : Array Int} {len : Nat} {x : Int32} {off : Int} (v : Int32) (tgt : Nat) (hd : decode cc pc = .ok (.tableswitch dflt lo0 hi0 offs, len)) (hv : x = v) (h1 : ¬ v.toInt < lo0) (h2 : ¬ hi0 < v.toInt) (ho : offs[(v.toInt - lo0).toNat]? = some off) (ht : (pc : Int) + off = (tgt : Int)) (k : N K rt res w tgt lv st) : N K rt res w pc lv (.int x :: st) := by
  obtain ⟨p, l, e, R, s, m, args, below, meth, c, g, σ⟩ := K
  obtain ⟨hx, hb, hml, hown, hts, hK, hN, hSK, hg, hlk, hrt, hR, hσ⟩ := F
  subst hv
  exact fun q hq H locs ls hP hS hl => lv_tableIn hx hb hd h1 h2 ho ht (k q hq H locs ls hP hS hl)
theorem n_tabOut {K : Ctx} {cc : ByteArray} {nL : Nat} {own : String} {ret : Option FieldType} {fr lo : Nat} {b : Bool} {ρ : Type} {rt : ρ → Option Value × Wd} {res : Option ρ} {w : Wd} {pc : Nat} {lv : List (Nat × Value)} {st : List Value} (F : Fx K cc nL own ret fr lo b) {dflt lo0 hi0 : Int} {offs : Array Int} {len : Nat} {x : Int32} (tgt : Nat) (hd : decode cc pc = .ok (.tableswitch dflt lo0 hi0 offs, len)) (h : x.toInt < lo0 ∨ hi0 < x.toInt) (ht : (pc : Int) + dflt = (tgt : Int)) (k : N K rt res w tgt lv st) : N K rt res w pc lv (.int x :: st) := by
  obtain ⟨p, l, e, R, s, m, args, below, meth, c, g, σ⟩ := K
  obtain ⟨hx, hb, hml, hown, hts, hK, hN, hSK, hg, hlk, hrt, hR, hσ⟩ := F
  exact fun q hq H locs ls hP hS hl => lv_tableOut hx hb hd h ht (k q hq H locs ls hP hS hl)
theorem n_look {K : Ctx} {cc : ByteArray} {nL : Nat} {own : String} {ret : Option FieldType} {fr lo : Nat} {b : Bool} {ρ : Type} {rt : ρ → Option Value × Wd} {res : Option ρ} {w : Wd} {pc : Nat} {lv : List (Nat × Value)} {st : List Value} (F : Fx K cc nL own ret fr lo b) {dflt : Int} {ps : Array (Int × Int)} {len : Nat} {x : Int32} {off : Int} (tgt : Nat) (hd : decode cc pc = .ok (.lookupswitch dflt ps, len)) (hp : (ps.toList.zip (ps.toList.drop 1)).all (fun (a, next) => a.1 < next.1) = true) (ho : Op.lookupswitch.offset ps.toList dflt x.toInt = off) (ht : (pc : Int) + off = (tgt : Int)) (k : N K rt res w tgt lv st) : N K rt res w pc lv (.int x :: st) := by
  obtain ⟨p, l, e, R, s, m, args, below, meth, c, g, σ⟩ := K
  obtain ⟨hx, hb, hml, hown, hts, hK, hN, hSK, hg, hlk, hrt, hR, hσ⟩ := F
  exact fun q hq H locs ls hP hS hl => lv_lookup hx hb hd hp ho ht (k q hq H locs ls hP hS hl)
theorem n_ldc {K : Ctx} {cc : ByteArray} {nL : Nat} {own : String} {ret : Option FieldType} {fr lo : Nat} {b : Bool} {ρ : Type} {rt : ρ → Option Value × Wd} {res : Option ρ} {w : Wd} {pc : Nat} {lv : List (Nat × Value)} {st : List Value} (F : Fx K cc nL own ret fr lo b) {index : Nat} (v : Int32) (hd : decode cc pc = .ok (.ldc index, 2)) (hc : Cond.constant own index v ∈ TB) (k : N K rt res w (pc + 2) lv (.int v :: st)) : N K rt res w pc lv st := by
  obtain ⟨p, l, e, R, s, m, args, below, meth, c, g, σ⟩ := K
  obtain ⟨hx, hb, hml, hown, hts, hK, hN, hSK, hg, hlk, hrt, hR, hσ⟩ := F
  exact fun q hq H locs ls hP hS hl => lv_ldc hx hb hown (hts _ hc) hd (k q hq H locs ls hP hS hl)
theorem n_ldc2 {K : Ctx} {cc : ByteArray} {nL : Nat} {own : String} {ret : Option FieldType} {fr lo : Nat} {b : Bool} {ρ : Type} {rt : ρ → Option Value × Wd} {res : Option ρ} {w : Wd} {pc : Nat} {lv : List (Nat × Value)} {st : List Value} (F : Fx K cc nL own ret fr lo b) {index : Nat} (v : Int64) (hd : decode cc pc = .ok (.ldc2_w index, 3)) (hc : Cond.constantLong own index v ∈ TB) (k : N K rt res w (pc + 3) lv (.long v :: st)) : N K rt res w pc lv st := by
  obtain ⟨p, l, e, R, s, m, args, below, meth, c, g, σ⟩ := K
  obtain ⟨hx, hb, hml, hown, hts, hK, hN, hSK, hg, hlk, hrt, hR, hσ⟩ := F
  exact fun q hq H locs ls hP hS hl => lv_ldc2 hx hb hown (hts _ hc) hd (k q hq H locs ls hP hS hl)
abbrev cg (K : Ctx) : GG := K.2.2.2.2.2.2.2.2.2.2.1
theorem n_none {K : Ctx} {ρ : Type} {rt : ρ → Option Value × Wd} {w : Wd} {pc : Nat} {lv : List (Nat × Value)} {st : List Value} : N K rt none w pc lv st := by
  obtain ⟨p, l, e, R, s, m, args, below, meth, c, g, σ⟩ := K
  exact fun q hq => by cases hq
theorem n_chk {K : Ctx} {ρ : Type} {rt : ρ → Option Value × Wd} {res : Option ρ} {w : Wd} {pc : Nat} {lv : List (Nat × Value)} {st : List Value} {P : Prop} [Decidable P] (k : P → N K rt res w pc lv st) : N K rt (if P then res else none) w pc lv st := by
  by_cases h : P
  · rw [if_pos h]; exact k h
  · rw [if_neg h]; exact n_none
theorem n_sub {K : Ctx} {ρ : Type} {rt : ρ → Option Value × Wd} {res : Option ρ} {w : Wd} {pc : Nat} {lv lv' : List (Nat × Value)} {st : List Value} (ks : List Nat) (hl' : lv_pick lv ks = lv') (k : N K rt res w pc lv' st) : N K rt res w pc lv st := by
  obtain ⟨p, l, e, R, s, m, args, below, meth, c, g, σ⟩ := K
  exact fun q hq H locs ls hP hS hl => k q hq H locs ls hP hS (lv_sub hl ks hl')
theorem n_zret {K : Ctx} {cc : ByteArray} {nL : Nat} {own : String} {ret : Option FieldType} {fr lo : Nat} {b : Bool} {ρ : Type} {rt : ρ → Option Value × Wd} {w : Wd} {pc : Nat} {lv : List (Nat × Value)} (F : Fx K cc nL own ret fr lo b) {q : ρ} {v : Int32} (ty : FieldType) (hret : ret = some ty) (hn : narrow ty (.int v) = .int v) (hq : rt q = (some (.int v), w)) (hd : decode cc pc = .ok (.ireturn, 1)) : N K rt (some q) w pc lv [.int v] := by
  obtain ⟨p, l, e, R, s, m, args, below, meth, c, g, σ⟩ := K
  obtain ⟨hx, hb, hml, hown, hts, hK, hN, hSK, hg, hlk, hrt, hR, hσ⟩ := F
  subst hret
  intro q' hq' H locs ls hP hS hl
  cases hq'
  rw [hq]
  exact W.zret hx hb hrt hn (fun t ht hW => ⟨rfl, by rw [ht]; exact hP, hS.F ht⟩) hS.2.2 hd hlk
theorem n_iret {K : Ctx} {cc : ByteArray} {nL : Nat} {own : String} {ret : Option FieldType} {fr lo : Nat} {b : Bool} {ρ : Type} {rt : ρ → Option Value × Wd} {w : Wd} {pc : Nat} {lv : List (Nat × Value)} (F : Fx K cc nL own ret fr lo b) {q : ρ} {v : Int32} (hret : ret = some .int) (hq : rt q = (some (.int v), w)) (hd : decode cc pc = .ok (.ireturn, 1)) : N K rt (some q) w pc lv [.int v] := n_zret F .int hret rfl hq hd
theorem n_lret {K : Ctx} {cc : ByteArray} {nL : Nat} {own : String} {ret : Option FieldType} {fr lo : Nat} {b : Bool} {ρ : Type} {rt : ρ → Option Value × Wd} {w : Wd} {pc : Nat} {lv : List (Nat × Value)} (F : Fx K cc nL own ret fr lo b) {q : ρ} {v : Int64} (hret : ret = some .long) (hq : rt q = (some (.long v), w)) (hd : decode cc pc = .ok (.lreturn, 1)) : N K rt (some q) w pc lv [.long v] := by
  obtain ⟨p, l, e, R, s, m, args, below, meth, c, g, σ⟩ := K
  obtain ⟨hx, hb, hml, hown, hts, hK, hN, hSK, hg, hlk, hrt, hR, hσ⟩ := F
  subst hret
  intro q' hq' H locs ls hP hS hl
  cases hq'
  rw [hq]
  exact W.lret hx hb hrt (fun t ht hW => ⟨rfl, by rw [ht]; exact hP, hS.F ht⟩) hS.2.2 hd hlk
theorem n_vret {K : Ctx} {cc : ByteArray} {nL : Nat} {own : String} {ret : Option FieldType} {fr lo : Nat} {b : Bool} {ρ : Type} {rt : ρ → Option Value × Wd} {w : Wd} {pc : Nat} {lv : List (Nat × Value)} (F : Fx K cc nL own ret fr lo b) {q : ρ} (hret : ret = none) (hq : rt q = (none, w)) (hd : decode cc pc = .ok (.return_, 1)) : N K rt (some q) w pc lv [] := by
  obtain ⟨p, l, e, R, s, m, args, below, meth, c, g, σ⟩ := K
  obtain ⟨hx, hb, hml, hown, hts, hK, hN, hSK, hg, hlk, hrt, hR, hσ⟩ := F
  subst hret
  intro q' hq' H locs ls hP hS hl
  cases hq'
  rw [hq]
  exact W.vret hx hb hrt (fun t ht hW => ⟨rfl, by rw [ht]; exact hP, hS.F ht⟩) hS.2.2 hd hlk
theorem n_aret {K : Ctx} {cc : ByteArray} {nL : Nat} {own : String} {ret : Option FieldType} {fr lo : Nat} {b : Bool} {ρ : Type} {rt : ρ → Option Value × Wd} {w : Wd} {pc : Nat} {lv : List (Nat × Value)} (F : Fx K cc nL own ret fr lo b) {q : ρ} {a : Nat} {cn : String} (hret : ret = some (.object cn)) (hq : rt q = (some (.ref a), w)) (hd : decode cc pc = .ok (.areturn, 1)) : N K rt (some q) w pc lv [.ref a] := by
  obtain ⟨p, l, e, R, s, m, args, below, meth, c, g, σ⟩ := K
  obtain ⟨hx, hb, hml, hown, hts, hK, hN, hSK, hg, hlk, hrt, hR, hσ⟩ := F
  subst hret
  intro q' hq' H locs ls hP hS hl
  cases hq'
  rw [hq]
  exact W.aret hx hb hrt (Or.inl ⟨_, rfl⟩) (Or.inr ⟨_, rfl⟩) (fun t ht hW => ⟨rfl, by rw [ht]; exact hP, hS.F ht⟩) hS.2.2 hd hlk
def ArrI (b : Bool) (a n : Nat) : Prop := a < 50 ∧ decide (a < 37) = b ∧ ∀ (g : GG) (w : Wd), cellE g w a = .inl (g.2.1.1, n, .inl (w.1 a))
theorem n_iald {K : Ctx} {cc : ByteArray} {nL : Nat} {own : String} {ret : Option FieldType} {fr lo : Nat} {b : Bool} {ρ : Type} {rt : ρ → Option Value × Wd} {res : Option ρ} {w : Wd} {pc : Nat} {lv : List (Nat × Value)} {st : List Value} (F : Fx K cc nL own ret fr lo b) {a n : Nat} (A : ArrI b a n) {i : Int32} (hin : vp_in i n) {j : Nat} (hj : i.toNatClampNeg = j) (hd : decode cc pc = .ok (.iaload, 1)) (k : N K rt res w (pc + 1) lv (.int (w.1 a j) :: st)) : N K rt res w pc lv (.int i :: .ref (gA (cg K) a) :: st) := by
  obtain ⟨p, l, e, R, s, m, args, below, meth, c, g, σ⟩ := K
  obtain ⟨hx, hb, hml, hown, hts, hK, hN, hSK, hg, hlk, hrt, hR, hσ⟩ := F
  subst hj
  subst hσ
  exact fun q hq H locs ls hP hS hl => va_iald hx hb hK hP a 0 (by rw [EE_get A.1 A.2.1, A.2.2 g w]) rfl hin hd (k q hq H locs ls hP hS hl)
theorem n_iast {K : Ctx} {cc : ByteArray} {nL : Nat} {own : String} {ret : Option FieldType} {fr lo : Nat} {b : Bool} {ρ : Type} {rt : ρ → Option Value × Wd} {res : Option ρ} {w : Wd} {pc : Nat} {lv : List (Nat × Value)} {st : List Value} (F : Fx K cc nL own ret fr lo b) {a n : Nat} (A : ArrI b a n) {i x : Int32} (hin : vp_in i n) {j : Nat} (hj : i.toNatClampNeg = j) (hd : decode cc pc = .ok (.iastore, 1)) (k : N K rt res (sI w a j x) (pc + 1) lv st) : N K rt res w pc lv (.int x :: .int i :: .ref (gA (cg K) a) :: st) := by
  obtain ⟨p, l, e, R, s, m, args, below, meth, c, g, σ⟩ := K
  obtain ⟨hx, hb, hml, hown, hts, hK, hN, hSK, hg, hlk, hrt, hR, hσ⟩ := F
  subst hj
  subst hσ
  have e1 : cellE g (sI w a i.toNatClampNeg x) a = .inl (g.2.1.1, n, .inl (upd (w.1 a) i.toNatClampNeg x)) := by
    rw [A.2.2 g _]
    simp [sI]
  exact fun q hq H locs ls hP hS hl => va_iast hx hb hK hP (EE_D hg) hS a 0 (by rw [EE_get A.1 A.2.1, A.2.2 g w]) rfl hin hd (fun H1 locs1 hP1 _ hS1 => k q hq H1 locs1 ls (by rw [← e1, EE_set A.1 A.2.1 (fun q h => cellE_sI h)] at hP1; exact hP1) hS1 hl)
def ArrC (b : Bool) (a n : Nat) : Prop := a < 50 ∧ decide (a < 37) = b ∧ ∀ (g : GG) (w : Wd), cellE g w a = .inl (g.2.1.2.1, n, .inl (w.1 a))
theorem n_cald {K : Ctx} {cc : ByteArray} {nL : Nat} {own : String} {ret : Option FieldType} {fr lo : Nat} {b : Bool} {ρ : Type} {rt : ρ → Option Value × Wd} {res : Option ρ} {w : Wd} {pc : Nat} {lv : List (Nat × Value)} {st : List Value} (F : Fx K cc nL own ret fr lo b) {a n : Nat} (A : ArrC b a n) {i : Int32} (hin : vp_in i n) {j : Nat} (hj : i.toNatClampNeg = j) (hd : decode cc pc = .ok (.caload, 1)) (k : N K rt res w (pc + 1) lv (.int (w.1 a j) :: st)) : N K rt res w pc lv (.int i :: .ref (gA (cg K) a) :: st) := by
  obtain ⟨p, l, e, R, s, m, args, below, meth, c, g, σ⟩ := K
  obtain ⟨hx, hb, hml, hown, hts, hK, hN, hSK, hg, hlk, hrt, hR, hσ⟩ := F
  subst hj
  subst hσ
  exact fun q hq H locs ls hP hS hl => va_cald hx hb hK hP a 1 (by rw [EE_get A.1 A.2.1, A.2.2 g w]) rfl hin hd (k q hq H locs ls hP hS hl)
theorem n_cast {K : Ctx} {cc : ByteArray} {nL : Nat} {own : String} {ret : Option FieldType} {fr lo : Nat} {b : Bool} {ρ : Type} {rt : ρ → Option Value × Wd} {res : Option ρ} {w : Wd} {pc : Nat} {lv : List (Nat × Value)} {st : List Value} (F : Fx K cc nL own ret fr lo b) {a n : Nat} (A : ArrC b a n) {i x : Int32} (hin : vp_in i n) {j : Nat} (hj : i.toNatClampNeg = j) (hd : decode cc pc = .ok (.castore, 1)) (k : N K rt res (sI w a j (vp_nar .char x)) (pc + 1) lv st) : N K rt res w pc lv (.int x :: .int i :: .ref (gA (cg K) a) :: st) := by
  obtain ⟨p, l, e, R, s, m, args, below, meth, c, g, σ⟩ := K
  obtain ⟨hx, hb, hml, hown, hts, hK, hN, hSK, hg, hlk, hrt, hR, hσ⟩ := F
  subst hj
  subst hσ
  have e1 : cellE g (sI w a i.toNatClampNeg (vp_nar .char x)) a = .inl (g.2.1.2.1, n, .inl (upd (w.1 a) i.toNatClampNeg (vp_nar .char x))) := by
    rw [A.2.2 g _]
    simp [sI]
  exact fun q hq H locs ls hP hS hl => va_cast hx hb hK hP (EE_D hg) hS a 1 (by rw [EE_get A.1 A.2.1, A.2.2 g w]) rfl hin hd (fun H1 locs1 hP1 _ hS1 => k q hq H1 locs1 ls (by rw [← e1, EE_set A.1 A.2.1 (fun q h => cellE_sI h)] at hP1; exact hP1) hS1 hl)
def ArrZ (b : Bool) (a n : Nat) : Prop := a < 50 ∧ decide (a < 37) = b ∧ ∀ (g : GG) (w : Wd), cellE g w a = .inl (g.2.1.2.2.2, n, .inl (w.1 a))
theorem n_zald {K : Ctx} {cc : ByteArray} {nL : Nat} {own : String} {ret : Option FieldType} {fr lo : Nat} {b : Bool} {ρ : Type} {rt : ρ → Option Value × Wd} {res : Option ρ} {w : Wd} {pc : Nat} {lv : List (Nat × Value)} {st : List Value} (F : Fx K cc nL own ret fr lo b) {a n : Nat} (A : ArrZ b a n) {i : Int32} (hin : vp_in i n) {j : Nat} (hj : i.toNatClampNeg = j) (hd : decode cc pc = .ok (.baload, 1)) (k : N K rt res w (pc + 1) lv (.int (w.1 a j) :: st)) : N K rt res w pc lv (.int i :: .ref (gA (cg K) a) :: st) := by
  obtain ⟨p, l, e, R, s, m, args, below, meth, c, g, σ⟩ := K
  obtain ⟨hx, hb, hml, hown, hts, hK, hN, hSK, hg, hlk, hrt, hR, hσ⟩ := F
  subst hj
  subst hσ
  exact fun q hq H locs ls hP hS hl => va_zald hx hb hK hP a 3 (by rw [EE_get A.1 A.2.1, A.2.2 g w]) rfl hin hd (k q hq H locs ls hP hS hl)
theorem n_zast {K : Ctx} {cc : ByteArray} {nL : Nat} {own : String} {ret : Option FieldType} {fr lo : Nat} {b : Bool} {ρ : Type} {rt : ρ → Option Value × Wd} {res : Option ρ} {w : Wd} {pc : Nat} {lv : List (Nat × Value)} {st : List Value} (F : Fx K cc nL own ret fr lo b) {a n : Nat} (A : ArrZ b a n) {i x : Int32} (hin : vp_in i n) {j : Nat} (hj : i.toNatClampNeg = j) (hd : decode cc pc = .ok (.bastore, 1)) (k : N K rt res (sI w a j (vp_nar .boolean x)) (pc + 1) lv st) : N K rt res w pc lv (.int x :: .int i :: .ref (gA (cg K) a) :: st) := by
  obtain ⟨p, l, e, R, s, m, args, below, meth, c, g, σ⟩ := K
  obtain ⟨hx, hb, hml, hown, hts, hK, hN, hSK, hg, hlk, hrt, hR, hσ⟩ := F
  subst hj
  subst hσ
  have e1 : cellE g (sI w a i.toNatClampNeg (vp_nar .boolean x)) a = .inl (g.2.1.2.2.2, n, .inl (upd (w.1 a) i.toNatClampNeg (vp_nar .boolean x))) := by
    rw [A.2.2 g _]
    simp [sI]
  exact fun q hq H locs ls hP hS hl => va_zast hx hb hK hP (EE_D hg) hS a 3 (by rw [EE_get A.1 A.2.1, A.2.2 g w]) rfl hin hd (fun H1 locs1 hP1 _ hS1 => k q hq H1 locs1 ls (by rw [← e1, EE_set A.1 A.2.1 (fun q h => cellE_sI h)] at hP1; exact hP1) hS1 hl)
def ArrJ (b : Bool) (a n : Nat) : Prop := a < 50 ∧ decide (a < 37) = b ∧ ∀ (g : GG) (w : Wd), cellE g w a = .inl (g.2.1.2.2.1, n, .inr (.inl (w.2 a)))
theorem n_lald {K : Ctx} {cc : ByteArray} {nL : Nat} {own : String} {ret : Option FieldType} {fr lo : Nat} {b : Bool} {ρ : Type} {rt : ρ → Option Value × Wd} {res : Option ρ} {w : Wd} {pc : Nat} {lv : List (Nat × Value)} {st : List Value} (F : Fx K cc nL own ret fr lo b) {a n : Nat} (A : ArrJ b a n) {i : Int32} (hin : vp_in i n) {j : Nat} (hj : i.toNatClampNeg = j) (hd : decode cc pc = .ok (.laload, 1)) (k : N K rt res w (pc + 1) lv (.long (w.2 a j) :: st)) : N K rt res w pc lv (.int i :: .ref (gA (cg K) a) :: st) := by
  obtain ⟨p, l, e, R, s, m, args, below, meth, c, g, σ⟩ := K
  obtain ⟨hx, hb, hml, hown, hts, hK, hN, hSK, hg, hlk, hrt, hR, hσ⟩ := F
  subst hj
  subst hσ
  exact fun q hq H locs ls hP hS hl => va_lald hx hb hK hP a 2 (by rw [EE_get A.1 A.2.1, A.2.2 g w]) rfl hin hd (k q hq H locs ls hP hS hl)
theorem n_last {K : Ctx} {cc : ByteArray} {nL : Nat} {own : String} {ret : Option FieldType} {fr lo : Nat} {b : Bool} {ρ : Type} {rt : ρ → Option Value × Wd} {res : Option ρ} {w : Wd} {pc : Nat} {lv : List (Nat × Value)} {st : List Value} (F : Fx K cc nL own ret fr lo b) {a n : Nat} (A : ArrJ b a n) {i : Int32} {x : Int64} (hin : vp_in i n) {j : Nat} (hj : i.toNatClampNeg = j) (hd : decode cc pc = .ok (.lastore, 1)) (k : N K rt res (sJ w a j x) (pc + 1) lv st) : N K rt res w pc lv (.long x :: .int i :: .ref (gA (cg K) a) :: st) := by
  obtain ⟨p, l, e, R, s, m, args, below, meth, c, g, σ⟩ := K
  obtain ⟨hx, hb, hml, hown, hts, hK, hN, hSK, hg, hlk, hrt, hR, hσ⟩ := F
  subst hj
  subst hσ
  have e1 : cellE g (sJ w a i.toNatClampNeg x) a = .inl (g.2.1.2.2.1, n, .inr (.inl (vp_updL (w.2 a) i.toNatClampNeg x))) := by
    rw [A.2.2 g _]
    simp [sJ]
  exact fun q hq H locs ls hP hS hl => va_last hx hb hK hP (EE_D hg) hS a 2 (by rw [EE_get A.1 A.2.1, A.2.2 g w]) rfl hin hd (fun H1 locs1 hP1 _ hS1 => k q hq H1 locs1 ls (by rw [← e1, EE_set A.1 A.2.1 (fun q h => cellE_sJ h)] at hP1; exact hP1) hS1 hl)
theorem n_alenI {K : Ctx} {cc : ByteArray} {nL : Nat} {own : String} {ret : Option FieldType} {fr lo : Nat} {b : Bool} {ρ : Type} {rt : ρ → Option Value × Wd} {res : Option ρ} {w : Wd} {pc : Nat} {lv : List (Nat × Value)} {st : List Value} (F : Fx K cc nL own ret fr lo b) {a n : Nat} (A : ArrI b a n) {v : Int32} (hv : Int32.ofNat n = v) (hd : decode cc pc = .ok (.arraylength, 1)) (k : N K rt res w (pc + 1) lv (.int v :: st)) : N K rt res w pc lv (.ref (gA (cg K) a) :: st) := by
  obtain ⟨p, l, e, R, s, m, args, below, meth, c, g, σ⟩ := K
  obtain ⟨hx, hb, hml, hown, hts, hK, hN, hSK, hg, hlk, hrt, hR, hσ⟩ := F
  subst hσ
  exact fun q hq H locs ls hP hS hl => va_alen (x := (n, .inl (w.1 a))) hx hb hK hP a 0 (by rw [EE_get A.1 A.2.1, A.2.2 g w]) rfl hv hd (k q hq H locs ls hP hS hl)
theorem n_alenJ {K : Ctx} {cc : ByteArray} {nL : Nat} {own : String} {ret : Option FieldType} {fr lo : Nat} {b : Bool} {ρ : Type} {rt : ρ → Option Value × Wd} {res : Option ρ} {w : Wd} {pc : Nat} {lv : List (Nat × Value)} {st : List Value} (F : Fx K cc nL own ret fr lo b) {a n : Nat} (A : ArrJ b a n) {v : Int32} (hv : Int32.ofNat n = v) (hd : decode cc pc = .ok (.arraylength, 1)) (k : N K rt res w (pc + 1) lv (.int v :: st)) : N K rt res w pc lv (.ref (gA (cg K) a) :: st) := by
  obtain ⟨p, l, e, R, s, m, args, below, meth, c, g, σ⟩ := K
  obtain ⟨hx, hb, hml, hown, hts, hK, hN, hSK, hg, hlk, hrt, hR, hσ⟩ := F
  subst hσ
  exact fun q hq H locs ls hP hS hl => va_alen (x := (n, .inr (.inl (w.2 a)))) hx hb hK hP a 2 (by rw [EE_get A.1 A.2.1, A.2.2 g w]) rfl hv hd (k q hq H locs ls hP hS hl)
theorem n_copyI {K : Ctx} {cc : ByteArray} {nL : Nat} {own : String} {ret : Option FieldType} {fr lo : Nat} {b : Bool} {ρ : Type} {rt : ρ → Option Value × Wd} {res : Option ρ} {w : Wd} {pc : Nat} {lv : List (Nat × Value)} {st : List Value} (F : Fx K cc nL own ret fr lo b) {a0 a1 n0 n1 : Nat} {idx : Nat} (A0 : ArrI b a0 n0) (A1 : ArrI b a1 n1) {sp dp n : Int32} (js jd jn : Nat) (hjs : sp.toNatClampNeg = js) (hjd : dp.toNatClampNeg = jd) (hjn : n.toNatClampNeg = jn) (h1 : ¬ sp < 0) (h2 : ¬ dp < 0) (h3 : ¬ n < 0) (h4 : js + jn ≤ n0) (h5 : jd + jn ≤ n1) (hw : Cond.methodLink own idx arraycopyName ∈ TB ∧ Cond.native arraycopyName ∈ TB ∧ Cond.static arraycopyName ∈ TB ∧ Cond.initialized "java/lang/System" ∈ TB) (hfr : 1 ≤ fr) (hlo : (st.map fun v => v.category).sum + (nativeFrameWords "java/lang/System" "arraycopy" 5 + 11) ≤ lo) (hd : decode cc pc = .ok (.invokestatic idx, 3)) (k : N K rt res (cI w a0 js a1 jd jn) (pc + 3) lv st) : N K rt res w pc lv (.int n :: .int dp :: .ref (gA (cg K) a1) :: .int sp :: .ref (gA (cg K) a0) :: st) := by
  obtain ⟨p, l, e, R, s, m, args, below, meth, c, g, σ⟩ := K
  obtain ⟨hx, hb, hml, hown, hts, hK, hN, hSK, hg, hlk, hrt, hR, hσ⟩ := F
  subst hjs; subst hjd; subst hjn
  subst hσ
  subst hR
  have e1 : cellE g (cI w a0 sp.toNatClampNeg a1 dp.toNatClampNeg n.toNatClampNeg) a1 = .inl (g.2.1.1, n1, .inl (va_cpy (w.1 a0) (w.1 a1) sp.toNatClampNeg dp.toNatClampNeg n.toNatClampNeg)) := by
    rw [A1.2.2 g _]
    simp [cI]
  exact fun q hq H locs ls hP hS hl => va_copyi hx hb (by rw [hl.1]) hown (hts _ hw.1) (hts _ hw.2.1) (hts _ hw.2.2.1) (hts _ hw.2.2.2) hK hP (EE_D hg) hS a0 a1 0 0 (by rw [EE_get A0.1 A0.2.1, A0.2.2 g w]) (by rw [EE_get A1.1 A1.2.1, A1.2.2 g w]) rfl rfl rfl h1 h2 h3 h4 h5 (fun _ _ => rfl) hfr hlo hd (fun H1 locs1 hP1 _ hS1 => k q hq H1 locs1 ls (by rw [← e1, EE_set A1.1 A1.2.1 (fun q h => cellE_cI h)] at hP1; exact hP1) hS1 hl)
theorem n_copyJ {K : Ctx} {cc : ByteArray} {nL : Nat} {own : String} {ret : Option FieldType} {fr lo : Nat} {b : Bool} {ρ : Type} {rt : ρ → Option Value × Wd} {res : Option ρ} {w : Wd} {pc : Nat} {lv : List (Nat × Value)} {st : List Value} (F : Fx K cc nL own ret fr lo b) {a0 a1 n0 n1 : Nat} {idx : Nat} (A0 : ArrJ b a0 n0) (A1 : ArrJ b a1 n1) {sp dp n : Int32} (js jd jn : Nat) (hjs : sp.toNatClampNeg = js) (hjd : dp.toNatClampNeg = jd) (hjn : n.toNatClampNeg = jn) (h1 : ¬ sp < 0) (h2 : ¬ dp < 0) (h3 : ¬ n < 0) (h4 : js + jn ≤ n0) (h5 : jd + jn ≤ n1) (hw : Cond.methodLink own idx arraycopyName ∈ TB ∧ Cond.native arraycopyName ∈ TB ∧ Cond.static arraycopyName ∈ TB ∧ Cond.initialized "java/lang/System" ∈ TB) (hfr : 1 ≤ fr) (hlo : (st.map fun v => v.category).sum + (nativeFrameWords "java/lang/System" "arraycopy" 5 + 11) ≤ lo) (hd : decode cc pc = .ok (.invokestatic idx, 3)) (k : N K rt res (cJ w a0 js a1 jd jn) (pc + 3) lv st) : N K rt res w pc lv (.int n :: .int dp :: .ref (gA (cg K) a1) :: .int sp :: .ref (gA (cg K) a0) :: st) := by
  obtain ⟨p, l, e, R, s, m, args, below, meth, c, g, σ⟩ := K
  obtain ⟨hx, hb, hml, hown, hts, hK, hN, hSK, hg, hlk, hrt, hR, hσ⟩ := F
  subst hjs; subst hjd; subst hjn
  subst hσ
  subst hR
  have e1 : cellE g (cJ w a0 sp.toNatClampNeg a1 dp.toNatClampNeg n.toNatClampNeg) a1 = .inl (g.2.1.2.2.1, n1, .inr (.inl (va_cpy (w.2 a0) (w.2 a1) sp.toNatClampNeg dp.toNatClampNeg n.toNatClampNeg))) := by
    rw [A1.2.2 g _]
    simp [cJ]
  exact fun q hq H locs ls hP hS hl => va_copyl hx hb (by rw [hl.1]) hown (hts _ hw.1) (hts _ hw.2.1) (hts _ hw.2.2.1) (hts _ hw.2.2.2) hK hP (EE_D hg) hS a0 a1 2 2 (by rw [EE_get A0.1 A0.2.1, A0.2.2 g w]) (by rw [EE_get A1.1 A1.2.1, A1.2.2 g w]) rfl rfl rfl h1 h2 h3 h4 h5 (fun _ _ => rfl) hfr hlo hd (fun H1 locs1 hP1 _ hS1 => k q hq H1 locs1 ls (by rw [← e1, EE_set A1.1 A1.2.1 (fun q h => cellE_cJ h)] at hP1; exact hP1) hS1 hl)
/-- a class of the world, its words among the tables' -/
def ClsOK (ci : Nat) (C : String) (T : u_T) (n : Nat) (ty : Nat → FieldType) : Prop := vwCl[ci]? = some (C, T, n) ∧ (∀ w ∈ u_ws C T n, w ∈ TB) ∧ (∀ k, k < n → parseFieldDescriptor (T k).2.2.1 = some (ty k)) ∧ ∀ a, a < n → ∀ b, b < n → a ≠ b → (T a).2.1 ≠ (T b).2.1
def FldG (b : Bool) (a ci k : Nat) (v : GG → Wd → Value) : Prop := a < 50 ∧ decide (a < 37) = b ∧ ∀ (g : GG) (w : Wd), ∃ fs, cellE g w a = .inr (ci, fs) ∧ fs[k]? = some (v g w)
def FldP (b : Bool) (a ci k : Nat) : Prop := a < 50 ∧ decide (a < 37) = b ∧ ∀ (g : GG) (w : Wd) (v : Int32), ∃ fs, cellE g w a = .inr (ci, fs) ∧ k < fs.length ∧ cellE g (sI w a k v) a = .inr (ci, fs.set k (.int v))
theorem n_get {K : Ctx} {cc : ByteArray} {nL : Nat} {own : String} {ret : Option FieldType} {fr lo : Nat} {b : Bool} {ρ : Type} {rt : ρ → Option Value × Wd} {res : Option ρ} {w : Wd} {pc : Nat} {lv : List (Nat × Value)} {st : List Value} (F : Fx K cc nL own ret fr lo b) {a ci k idx n : Nat} {C : String} {T : u_T} {ty : Nat → FieldType} {v : GG → Wd → Value} (O : ClsOK ci C T n ty) (L : Cond.fieldLink own idx (T k).1 (T k).2.1 (T k).2.2.1 ∈ TB) (hk : k < n) (G : FldG b a ci k v) (hd : decode cc pc = .ok (.getfield idx, 3)) (kk : N K rt res w (pc + 3) lv (v (cg K) w :: st)) : N K rt res w pc lv (.ref (gA (cg K) a) :: st) := by
  obtain ⟨p, l, e, R, s, m, args, below, meth, c, g, σ⟩ := K
  obtain ⟨hx, hb, hml, hown, hts, hK, hN, hSK, hg, hlk, hrt, hR, hσ⟩ := F
  subst hσ
  obtain ⟨fs, e1, e2⟩ := G.2.2 g w
  exact fun q hq H locs ls hP hS hl => va_get (D := gD g) (ci := ci) (C := C) (T := T) (N := n) hx hb hts O.2.1 hown hK hP a (by rw [EE_get G.1 G.2.1, e1]) O.1 k hk (hts _ L) (fun _ h9 => h9) e2 hd (kk q hq H locs ls hP hS hl)
theorem n_getN {K : Ctx} {cc : ByteArray} {nL : Nat} {own : String} {ret : Option FieldType} {fr lo : Nat} {b : Bool} {ρ : Type} {rt : ρ → Option Value × Wd} {res : Option ρ} {w : Wd} {pc : Nat} {lv : List (Nat × Value)} {st : List Value} (F : Fx K cc nL own ret fr lo b) {a ci k idx n : Nat} {C : String} {T : u_T} {ty : Nat → FieldType} {v : GG → Wd → Value} (O : ClsOK ci C T n ty) (L : (own, idx, (T k).1, (T k).2.1, (T k).2.2.1) ∈ nstF) (hk : k < n) (G : FldG b a ci k v) (hd : decode cc pc = .ok (.getfield idx, 3)) (kk : N K rt res w (pc + 3) lv (v (cg K) w :: st)) : N K rt res w pc lv (.ref (gA (cg K) a) :: st) := by
  obtain ⟨p, l, e, R, s, m, args, below, meth, c, g, σ⟩ := K
  obtain ⟨hx, hb, hml, hown, hts, hK, hN, hSK, hg, hlk, hrt, hR, hσ⟩ := F
  subst hσ
  obtain ⟨fs, e1, e2⟩ := G.2.2 g w
  exact fun q hq H locs ls hP hS hl => va_getN (D := gD g) (ci := ci) (C := C) (T := T) (N := n) hx hb hts O.2.1 hown hK hP a (by rw [EE_get G.1 G.2.1, e1]) O.1 k hk ((hN.1 _ L).use rfl) (fun _ h9 => h9) e2 hd (kk q hq H locs ls hP hS hl)
theorem n_put {K : Ctx} {cc : ByteArray} {nL : Nat} {own : String} {ret : Option FieldType} {fr lo : Nat} {b : Bool} {ρ : Type} {rt : ρ → Option Value × Wd} {res : Option ρ} {w : Wd} {pc : Nat} {lv : List (Nat × Value)} {st : List Value} (F : Fx K cc nL own ret fr lo b) {a ci k idx n : Nat} {C : String} {T : u_T} {ty : Nat → FieldType} {x : Int32} (O : ClsOK ci C T n ty) (L : Cond.fieldLink own idx (T k).1 (T k).2.1 (T k).2.2.1 ∈ TB) (hk : k < n) (hf : (T k).2.2.2 = false) (G : FldP b a ci k) (hn : narrow (ty k) (.int x) = .int x) (hfit : fits (ty k) (.int x) = true) (hd : decode cc pc = .ok (.putfield idx, 3)) (kk : N K rt res (sI w a k x) (pc + 3) lv st) : N K rt res w pc lv (.int x :: .ref (gA (cg K) a) :: st) := by
  obtain ⟨p, l, e, R, s, m, args, below, meth, c, g, σ⟩ := K
  obtain ⟨hx, hb, hml, hown, hts, hK, hN, hSK, hg, hlk, hrt, hR, hσ⟩ := F
  subst hσ
  obtain ⟨fs, e1, e2, e3⟩ := G.2.2 g w x
  exact fun q hq H locs ls hP hS hl => va_put (D := gD g) (ci := ci) (C := C) (T := T) (N := n) hx hb hts O.2.1 ty O.2.2.1 O.2.2.2 hown hK hP (EE_D hg) hS a (by rw [EE_get G.1 G.2.1, e1]) O.1 k hk (hts _ L) (fun _ h9 => h9) hf (O.2.2.1 k hk) hn hfit e2 hd (fun H1 locs1 hP1 _ hS1 => kk q hq H1 locs1 ls (by rw [← e3, EE_set G.1 G.2.1 (fun q h => cellE_sI h)] at hP1; exact hP1) hS1 hl)
/-- the words of a call -/
def CwB (y : MethodName) (cc : ByteArray) (nL : Nat) (ret : Option FieldType) (n : Nat) : Prop := Cond.code y cc nL ret ∈ TB ∧ Cond.initialized y.cls ∈ TB ∧ (y.cls ≠ "java/lang/invoke/MethodHandle" ∧ y.cls ≠ "java/lang/invoke/VarHandle" ∧ (parseMethodDescriptor y.desc).map (fun d => d.parameters.length) = some n)
theorem n_run {K : Ctx} {cc : ByteArray} {nL : Nat} {own : String} {ret : Option FieldType} {fr lo : Nat} {b : Bool} {ρ : Type} {rt : ρ → Option Value × Wd} {res : Option ρ} {w : Wd} {pc : Nat} {lv : List (Nat × Value)} {st : List Value} (F : Fx K cc nL own ret fr lo b) {y : MethodName} {c2 : ByteArray} {nL2 : Nat} {ret2 : Option FieldType} {fr2 lo2 : Nat} {av : List Value} {r : Option Value} {w' : Wd} {stk : List Value} (M : CT K.2.1 (cg K) K.2.2.2.2.2.2.2.2.2.2.2 y c2 nL2 ret2 fr2 lo2 av w r w')
    (hrun : ∀ (H : Heap) (locs : List Loc) (ls : Array Slot), va_P (gD (cg K)) vwCl (EE (cg K) K.2.2.2.2.2.2.2.2.2.2.2 w) H → va_S (AD (cg K)) K.2.2.2.2.1.heap H locs → lv_has ls K.2.2.2.2.2.2.2.2.2.1.maxLocals lv → va_Run K.1 K.2.1 K.2.2.1 K.2.2.2.1 K.2.2.2.2.1 K.2.2.2.2.2.1 K.2.2.2.2.2.2.1 K.2.2.2.2.2.2.2.1 K.2.2.2.2.2.2.2.2.1 K.2.2.2.2.2.2.2.2.2.1 H locs 0 0 0 0 (F0 K.2.2.2.2.2.1 pc ls stk) st (QQ (cg K) K.2.2.2.2.2.2.2.2.2.2.2 r w' av.toArray) (AD (cg K)))
    (k : N K rt res w' (pc + 3) lv (r.toList ++ st)) : N K rt res w pc lv stk := by
  obtain ⟨p, l, e, R, s, m, args, below, meth, c, g, σ⟩ := K
  obtain ⟨hx, hb, hml, hown, hts, hK, hN, hSK, hg, hlk, hrt, hR, hσ⟩ := F
  intro q hq H locs ls hP hS hl T hT X
  obtain ⟨v, st₀, t, T', L, h0, X', hL, e1, e2, ⟨hv, hP1, hz, hk⟩, hst⟩ := hrun H locs ls hP hS hl T hT X
  cases hv
  rw [h0] at hz hk
  dsimp only at e1 hz hk hP1
  obtain ⟨t2, a1, b1⟩ := k q hq T'.heap (locs ++ L) ls (by rw [e1]; exact hP1)
    ⟨Nat.le_trans hS.1 (by rw [e1]; exact hz), fun q h1 h2 => by rw [e1, hk q (Nat.lt_of_lt_of_le h1 hS.1) h2]; exact hS.2.1 q h1 h2, fun q hq => by
      rcases List.mem_append.mp hq with h | h
      · exact hS.2.2 q h
      · exact hL q h⟩ hl T' rfl X'
  exact ⟨t2, hst t2 a1, b1⟩
theorem hd_at {K : Ctx} {cc : ByteArray} {nL : Nat} {own : String} {ret : Option FieldType} {fr lo : Nat} {b : Bool} {w : Wd} (F : Fx K cc nL own ret fr lo b) {H : Heap} {locs : List Loc} (hP : va_P (gD (cg K)) vwCl (EE (cg K) K.2.2.2.2.2.2.2.2.2.2.2 w) H) (hS : va_S (AD (cg K)) K.2.2.2.2.1.heap H locs) (U : State) (hU : U.heap = H) (hW : K.2.2.2.2.1.WarmedH U.vm) : HD (cg K) K.2.2.2.2.2.2.2.2.2.2.2 w U := by
  obtain ⟨p, l, e, R, s, m, args, below, meth, c, g, σ⟩ := K
  obtain ⟨hx, hb, hml, hown, hts, hK, hN, hSK, hg, hlk, hrt, hR, hσ⟩ := F
  exact ⟨by rw [hU]; exact hP, va_K.moved hW.alike hK, hN.warm hW, by rw [hU]; exact (hSK.warm hW).kept hS.2.1⟩
theorem n_callV {K : Ctx} {cc : ByteArray} {nL : Nat} {own : String} {ret : Option FieldType} {fr lo : Nat} {b : Bool} {ρ : Type} {rt : ρ → Option Value × Wd} {res : Option ρ} {w : Wd} {pc : Nat} {lv : List (Nat × Value)} {st : List Value} (F : Fx K cc nL own ret fr lo b) {y : MethodName} {c2 : ByteArray} {nL2 : Nat} {ret2 : Option FieldType} {fr2 lo2 idx n : Nat} {As : List Value} {r : Option Value} {w' : Wd} {stk : List Value} {a ci : Nat} (hB : CwB y c2 nL2 ret2 n) (hL : Cond.methodLink own idx y ∈ TB ∧ Cond.instanceMethod y ∈ TB ∧ Cond.selects y.cls y y ∈ TB) (G : a < 50 ∧ decide (a < 37) = b ∧ ∀ (g : GG) (w : Wd), ∃ fs, cellE g w a = .inr (ci, fs)) (hC : ∃ T N, vwCl[ci]? = some (y.cls, T, N))
    (M : CT K.2.1 (cg K) K.2.2.2.2.2.2.2.2.2.2.2 y c2 nL2 ret2 fr2 lo2 (.ref (gA (cg K) a) :: As) w r w') (hn : As.length = n) (hstk : stk = As.reverse ++ .ref (gA (cg K) a) :: st) (hst : (st.map fun v => v.category).sum ≤ 8) (hroom : fr2 + 1 ≤ fr ∧ 8 + (nL2 + 11) + lo2 ≤ lo) (hd : decode cc pc = .ok (.invokevirtual idx, 3)) (k : N K rt res w' (pc + 3) lv (r.toList ++ st)) : N K rt res w pc lv stk := by
  refine n_run F M (fun H locs ls hP hS hl => ?_) k
  have hU := fun U hU hW => hd_at F hP hS U hU hW
  obtain ⟨p, l, e, R, s, m, args, below, meth, c, g, σ⟩ := K
  obtain ⟨hx, hb, hml, hown, hts, hK, hN, hSK, hg, hlk, hrt, hR, hσ⟩ := F
  subst hσ
  subst hR
  obtain ⟨fs, e1⟩ := G.2.2 g w
  obtain ⟨T, N, hC⟩ := hC
  refine va_runV (C := y.cls) (Ts := TB) ⟨hx, hb, rfl, hown, hts⟩ M ⟨callB_of n hts (tb_code hB.1) rfl rfl rfl (hts _ hB.2.1) (hts _ hL.1) hB.2.2 hroom, hts _ hL.2.1, hts _ hL.2.2⟩ ⟨HD_blind, va_recv hK hP (ci := ci) (q0 := a) hC (by rw [EE_get G.1 G.2.1, e1]), fun U h1 h2 => ⟨rfl, hU U h1 h2⟩⟩ rfl hn hl.1 hstk (lv_room hst) hd ⟨Nat.le_refl _, Nat.le_refl _⟩
theorem n_callS {K : Ctx} {cc : ByteArray} {nL : Nat} {own : String} {ret : Option FieldType} {fr lo : Nat} {b : Bool} {ρ : Type} {rt : ρ → Option Value × Wd} {res : Option ρ} {w : Wd} {pc : Nat} {lv : List (Nat × Value)} {st : List Value} (F : Fx K cc nL own ret fr lo b) {y : MethodName} {c2 : ByteArray} {nL2 : Nat} {ret2 : Option FieldType} {fr2 lo2 idx n : Nat} {As : List Value} {r : Option Value} {w' : Wd} {stk : List Value} (hB : CwB y c2 nL2 ret2 n) (hL : Cond.methodLink own idx y ∈ TB ∧ Cond.static y ∈ TB)
    (M : CT K.2.1 (cg K) K.2.2.2.2.2.2.2.2.2.2.2 y c2 nL2 ret2 fr2 lo2 As w r w') (hn : As.length = n) (hstk : stk = As.reverse ++ st) (hst : (st.map fun v => v.category).sum ≤ 8) (hroom : fr2 + 1 ≤ fr ∧ 8 + (nL2 + 11) + lo2 ≤ lo) (hd : decode cc pc = .ok (.invokestatic idx, 3)) (k : N K rt res w' (pc + 3) lv (r.toList ++ st)) : N K rt res w pc lv stk := by
  refine n_run F M (fun H locs ls hP hS hl => ?_) k
  have hU := fun U hU hW => hd_at F hP hS U hU hW
  obtain ⟨p, l, e, R, s, m, args, below, meth, c, g, σ⟩ := K
  obtain ⟨hx, hb, hml, hown, hts, hK, hN, hSK, hg, hlk, hrt, hR, hσ⟩ := F
  subst hR
  exact va_runS (Ts := TB) ⟨hx, hb, rfl, hown, hts⟩ M ⟨callB_of n hts (tb_code hB.1) rfl rfl rfl (hts _ hB.2.1) (hts _ hL.1) hB.2.2 hroom, hts _ hL.2⟩ ⟨HD_blind, fun U h1 h2 => ⟨rfl, hU U h1 h2⟩⟩ rfl hn hl.1 hstk (lv_room hst) hd ⟨Nat.le_refl _, Nat.le_refl _⟩
theorem n_callSN {K : Ctx} {cc : ByteArray} {nL : Nat} {own : String} {ret : Option FieldType} {fr lo : Nat} {b : Bool} {ρ : Type} {rt : ρ → Option Value × Wd} {res : Option ρ} {w : Wd} {pc : Nat} {lv : List (Nat × Value)} {st : List Value} (F : Fx K cc nL own ret fr lo b) {y : MethodName} {c2 : ByteArray} {nL2 : Nat} {ret2 : Option FieldType} {fr2 lo2 idx n : Nat} {As : List Value} {r : Option Value} {w' : Wd} {stk : List Value} (hB : CwB y c2 nL2 ret2 n) (hL : (own, idx, y) ∈ nstM ∧ Cond.static y ∈ TB)
    (M : CT K.2.1 (cg K) K.2.2.2.2.2.2.2.2.2.2.2 y c2 nL2 ret2 fr2 lo2 As w r w') (hn : As.length = n) (hstk : stk = As.reverse ++ st) (hst : (st.map fun v => v.category).sum ≤ 8) (hroom : fr2 + 1 ≤ fr ∧ 8 + (nL2 + 11) + lo2 ≤ lo) (hd : decode cc pc = .ok (.invokestatic idx, 3)) (k : N K rt res w' (pc + 3) lv (r.toList ++ st)) : N K rt res w pc lv stk := by
  refine n_run F M (fun H locs ls hP hS hl => ?_) k
  have hU := fun U hU hW => hd_at F hP hS U hU hW
  obtain ⟨p, l, e, R, s, m, args, below, meth, c, g, σ⟩ := K
  obtain ⟨hx, hb, hml, hown, hts, hK, hN, hSK, hg, hlk, hrt, hR, hσ⟩ := F
  subst hR
  exact va_runSN (Ts := TB) ⟨hx, hb, rfl, hown, hts⟩ M ⟨va_cnB n hts (tb_code hB.1) rfl rfl rfl (hN.2 _ hL.1) (hts _ hB.2.1) hB.2.2 hroom, hts _ hL.2, trivial⟩ ⟨HD_blind, fun U h1 h2 => ⟨rfl, hU U h1 h2⟩⟩ rfl hn hl.1 hstk (lv_room hst) hd ⟨Nat.le_refl _, Nat.le_refl _⟩
/-- a call of a part function: what it says goes on -/
theorem n_bind {K : Ctx} {ρ τ : Type} {rt : ρ → Option Value × Wd} {w : Wd} {pc : Nat} {lv : List (Nat × Value)} {st : List Value} {f : Option τ} {h : τ → Option ρ} (k : ∀ q, f = some q → N K rt (h q) w pc lv st) : N K rt (f.bind h) w pc lv st := by
  cases f with
  | none => exact n_none
  | some q => exact k q rfl
theorem n_mmax {K : Ctx} {cc : ByteArray} {nL : Nat} {own : String} {ret : Option FieldType} {fr lo : Nat} {b : Bool} {ρ : Type} {rt : ρ → Option Value × Wd} {res : Option ρ} {w : Wd} {pc : Nat} {lv : List (Nat × Value)} {st : List Value} (F : Fx K cc nL own ret fr lo b) {idx : Nat} {x y : Int32} (hw : Cond.methodLink own idx Lib.Math.max.name ∈ TB ∧ Cond.static Lib.Math.max.name ∈ TB ∧ Cond.initialized "java/lang/Math" ∈ TB ∧ Cond.code Lib.Math.max.name Lib.Math.max.code 2 (some .int) ∈ TB) (hfr : 1 ≤ fr) (hlo : (st.map fun v => v.category).sum + 13 ≤ lo) (hd : decode cc pc = .ok (.invokestatic idx, 3)) (k : N K rt res w (pc + 3) lv (.int (if x < y then y else x) :: st)) : N K rt res w pc lv (.int y :: .int x :: st) := by
  obtain ⟨p, l, e, R, s, m, args, below, meth, c, g, σ⟩ := K
  obtain ⟨hx, hb, hml, hown, hts, hK, hN, hSK, hg, hlk, hrt, hR, hσ⟩ := F
  subst hR
  exact fun q hq H locs ls hP hS hl => va_mmax hx hb (by rw [hl.1]) hown (hts _ hw.1) (hts _ hw.2.1) (hts _ hw.2.2.1) (hts _ hw.2.2.2) hfr hlo (Nat.le_refl _) (Nat.le_refl _) hd (k q hq H locs ls hP hS hl)
theorem n_mmin {K : Ctx} {cc : ByteArray} {nL : Nat} {own : String} {ret : Option FieldType} {fr lo : Nat} {b : Bool} {ρ : Type} {rt : ρ → Option Value × Wd} {res : Option ρ} {w : Wd} {pc : Nat} {lv : List (Nat × Value)} {st : List Value} (F : Fx K cc nL own ret fr lo b) {idx : Nat} {x y : Int32} (hw : Cond.methodLink own idx Lib.Math.min.name ∈ TB ∧ Cond.static Lib.Math.min.name ∈ TB ∧ Cond.initialized "java/lang/Math" ∈ TB ∧ Cond.code Lib.Math.min.name Lib.Math.min.code 2 (some .int) ∈ TB) (hfr : 1 ≤ fr) (hlo : (st.map fun v => v.category).sum + 13 ≤ lo) (hd : decode cc pc = .ok (.invokestatic idx, 3)) (k : N K rt res w (pc + 3) lv (.int (if y < x then y else x) :: st)) : N K rt res w pc lv (.int y :: .int x :: st) := by
  obtain ⟨p, l, e, R, s, m, args, below, meth, c, g, σ⟩ := K
  obtain ⟨hx, hb, hml, hown, hts, hK, hN, hSK, hg, hlk, hrt, hR, hσ⟩ := F
  subst hR
  exact fun q hq H locs ls hP hS hl => va_mmin hx hb (by rw [hl.1]) hown (hts _ hw.1) (hts _ hw.2.1) (hts _ hw.2.2.1) (hts _ hw.2.2.2) hfr hlo (Nat.le_refl _) (Nat.le_refl _) hd (k q hq H locs ls hP hS hl)
end
