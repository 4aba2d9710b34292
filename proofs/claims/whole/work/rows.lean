section
-- ===== PART A: goes FIRST, ahead of the names: the tables' words, and 'selects' of the private methods out of them =====
/-- a private method of a class that the tables say can be made, by its rows of tables_1 -/
def lw_okq (q : MethodName × Nat) : Prop := (q.1.cls ≠ "java/lang/invoke/MethodHandle" ∧ q.1.cls ≠ "java/lang/invoke/VarHandle") ∧ Cond.instantiable q.1.cls q.2 ∈ tables_1 ∧ Cond.privateMethod q.1 ∈ tables_1 ∧ Cond.instanceMethod q.1 ∈ tables_1
theorem lw_p0 : lw_okq (⟨"TowerService$Text", "readItem", "(LTowerService$Tower;)Z"⟩, 4) := ⟨⟨by decide +kernel, by decide +kernel⟩, List.mem_of_getElem? (i := 28) (by decide +kernel), List.mem_of_getElem? (i := 353) (by decide +kernel), List.mem_of_getElem? (i := 354) (by decide +kernel)⟩
theorem lw_p1 : lw_okq (⟨"TowerService$Text", "readNumbers", "(I)Z"⟩, 4) := ⟨⟨by decide +kernel, by decide +kernel⟩, List.mem_of_getElem? (i := 28) (by decide +kernel), List.mem_of_getElem? (i := 357) (by decide +kernel), List.mem_of_getElem? (i := 358) (by decide +kernel)⟩
theorem lw_p2 : lw_okq (⟨"TowerService$Text", "readNumber", "()I"⟩, 4) := ⟨⟨by decide +kernel, by decide +kernel⟩, List.mem_of_getElem? (i := 28) (by decide +kernel), List.mem_of_getElem? (i := 361) (by decide +kernel), List.mem_of_getElem? (i := 362) (by decide +kernel)⟩
theorem lw_p3 : lw_okq (⟨"TowerService$Text", "figureAt", "(I)I"⟩, 4) := ⟨⟨by decide +kernel, by decide +kernel⟩, List.mem_of_getElem? (i := 28) (by decide +kernel), List.mem_of_getElem? (i := 365) (by decide +kernel), List.mem_of_getElem? (i := 366) (by decide +kernel)⟩
theorem lw_p4 : lw_okq (⟨"TowerService$Text", "takeSteps", "(LTowerService$Plan;)Z"⟩, 4) := ⟨⟨by decide +kernel, by decide +kernel⟩, List.mem_of_getElem? (i := 28) (by decide +kernel), List.mem_of_getElem? (i := 369) (by decide +kernel), List.mem_of_getElem? (i := 370) (by decide +kernel)⟩
theorem lw_p5 : lw_okq (⟨"TowerService$Text", "takePerson", "(LTowerService$Tower;)Z"⟩, 4) := ⟨⟨by decide +kernel, by decide +kernel⟩, List.mem_of_getElem? (i := 28) (by decide +kernel), List.mem_of_getElem? (i := 376) (by decide +kernel), List.mem_of_getElem? (i := 377) (by decide +kernel)⟩
theorem lw_p6 : lw_okq (⟨"TowerService$Text", "takeWork", "(LTowerService$Plan;)Z"⟩, 4) := ⟨⟨by decide +kernel, by decide +kernel⟩, List.mem_of_getElem? (i := 28) (by decide +kernel), List.mem_of_getElem? (i := 380) (by decide +kernel), List.mem_of_getElem? (i := 381) (by decide +kernel)⟩
theorem lw_p7 : lw_okq (⟨"TowerService", "takeDraft", "()V"⟩, 12) := ⟨⟨by decide +kernel, by decide +kernel⟩, List.mem_of_getElem? (i := 20) (by decide +kernel), List.mem_of_getElem? (i := 384) (by decide +kernel), List.mem_of_getElem? (i := 385) (by decide +kernel)⟩
theorem lw_p8 : lw_okq (⟨"TowerService", "isPerson", "(I)Z"⟩, 12) := ⟨⟨by decide +kernel, by decide +kernel⟩, List.mem_of_getElem? (i := 20) (by decide +kernel), List.mem_of_getElem? (i := 471) (by decide +kernel), List.mem_of_getElem? (i := 472) (by decide +kernel)⟩
theorem lw_p9 : lw_okq (⟨"TowerService", "isStep", "(I)Z"⟩, 12) := ⟨⟨by decide +kernel, by decide +kernel⟩, List.mem_of_getElem? (i := 20) (by decide +kernel), List.mem_of_getElem? (i := 502) (by decide +kernel), List.mem_of_getElem? (i := 503) (by decide +kernel)⟩
theorem lw_p10 : lw_okq (⟨"TowerService$Posting", "needOfNextEasier", "(I)I"⟩, 7) := ⟨⟨by decide +kernel, by decide +kernel⟩, List.mem_of_getElem? (i := 201) (by decide +kernel), List.mem_of_getElem? (i := 610) (by decide +kernel), List.mem_of_getElem? (i := 611) (by decide +kernel)⟩
theorem lw_p11 : lw_okq (⟨"TowerService$Posting", "isEasier", "(II)Z"⟩, 7) := ⟨⟨by decide +kernel, by decide +kernel⟩, List.mem_of_getElem? (i := 201) (by decide +kernel), List.mem_of_getElem? (i := 614) (by decide +kernel), List.mem_of_getElem? (i := 615) (by decide +kernel)⟩
theorem lw_p12 : lw_okq (⟨"TowerService$Posting", "placesOf", "(I)I"⟩, 7) := ⟨⟨by decide +kernel, by decide +kernel⟩, List.mem_of_getElem? (i := 201) (by decide +kernel), List.mem_of_getElem? (i := 619) (by decide +kernel), List.mem_of_getElem? (i := 620) (by decide +kernel)⟩
theorem lw_p13 : lw_okq (⟨"TowerService$Posting", "isFrozenAmong", "(III)Z"⟩, 7) := ⟨⟨by decide +kernel, by decide +kernel⟩, List.mem_of_getElem? (i := 201) (by decide +kernel), List.mem_of_getElem? (i := 623) (by decide +kernel), List.mem_of_getElem? (i := 624) (by decide +kernel)⟩
theorem lw_p14 : lw_okq (⟨"TowerService$Posting", "putFrom", "(I)V"⟩, 7) := ⟨⟨by decide +kernel, by decide +kernel⟩, List.mem_of_getElem? (i := 201) (by decide +kernel), List.mem_of_getElem? (i := 628) (by decide +kernel), List.mem_of_getElem? (i := 629) (by decide +kernel)⟩
theorem lw_p15 : lw_okq (⟨"TowerService$Posting", "mostInReach", "()I"⟩, 7) := ⟨⟨by decide +kernel, by decide +kernel⟩, List.mem_of_getElem? (i := 201) (by decide +kernel), List.mem_of_getElem? (i := 632) (by decide +kernel), List.mem_of_getElem? (i := 633) (by decide +kernel)⟩
def lw_privs_1 : List (MethodName × Nat) := [(⟨"TowerService$Text", "readItem", "(LTowerService$Tower;)Z"⟩, 4), (⟨"TowerService$Text", "readNumbers", "(I)Z"⟩, 4), (⟨"TowerService$Text", "readNumber", "()I"⟩, 4), (⟨"TowerService$Text", "figureAt", "(I)I"⟩, 4), (⟨"TowerService$Text", "takeSteps", "(LTowerService$Plan;)Z"⟩, 4), (⟨"TowerService$Text", "takePerson", "(LTowerService$Tower;)Z"⟩, 4), (⟨"TowerService$Text", "takeWork", "(LTowerService$Plan;)Z"⟩, 4), (⟨"TowerService", "takeDraft", "()V"⟩, 12), (⟨"TowerService", "isPerson", "(I)Z"⟩, 12), (⟨"TowerService", "isStep", "(I)Z"⟩, 12), (⟨"TowerService$Posting", "needOfNextEasier", "(I)I"⟩, 7), (⟨"TowerService$Posting", "isEasier", "(II)Z"⟩, 7), (⟨"TowerService$Posting", "placesOf", "(I)I"⟩, 7), (⟨"TowerService$Posting", "isFrozenAmong", "(III)Z"⟩, 7), (⟨"TowerService$Posting", "putFrom", "(I)V"⟩, 7), (⟨"TowerService$Posting", "mostInReach", "()I"⟩, 7)]
theorem lw_r1 : ∀ q ∈ lw_privs_1, lw_okq q := List.forall_mem_cons.mpr ⟨lw_p0, List.forall_mem_cons.mpr ⟨lw_p1, List.forall_mem_cons.mpr ⟨lw_p2, List.forall_mem_cons.mpr ⟨lw_p3, List.forall_mem_cons.mpr ⟨lw_p4, List.forall_mem_cons.mpr ⟨lw_p5, List.forall_mem_cons.mpr ⟨lw_p6, List.forall_mem_cons.mpr ⟨lw_p7, List.forall_mem_cons.mpr ⟨lw_p8, List.forall_mem_cons.mpr ⟨lw_p9, List.forall_mem_cons.mpr ⟨lw_p10, List.forall_mem_cons.mpr ⟨lw_p11, List.forall_mem_cons.mpr ⟨lw_p12, List.forall_mem_cons.mpr ⟨lw_p13, List.forall_mem_cons.mpr ⟨lw_p14, List.forall_mem_cons.mpr ⟨lw_p15, fun _ h => absurd h List.not_mem_nil⟩⟩⟩⟩⟩⟩⟩⟩⟩⟩⟩⟩⟩⟩⟩⟩
theorem lw_p16 : lw_okq (⟨"TowerService$Posting", "priceOf", "(I)I"⟩, 7) := ⟨⟨by decide +kernel, by decide +kernel⟩, List.mem_of_getElem? (i := 201) (by decide +kernel), List.mem_of_getElem? (i := 636) (by decide +kernel), List.mem_of_getElem? (i := 637) (by decide +kernel)⟩
theorem lw_p17 : lw_okq (⟨"TowerService$Posting", "isSurelyFrozenBefore", "(I)Z"⟩, 7) := ⟨⟨by decide +kernel, by decide +kernel⟩, List.mem_of_getElem? (i := 201) (by decide +kernel), List.mem_of_getElem? (i := 640) (by decide +kernel), List.mem_of_getElem? (i := 641) (by decide +kernel)⟩
theorem lw_p18 : lw_okq (⟨"TowerService$Posting", "takeIfBetter", "()V"⟩, 7) := ⟨⟨by decide +kernel, by decide +kernel⟩, List.mem_of_getElem? (i := 201) (by decide +kernel), List.mem_of_getElem? (i := 644) (by decide +kernel), List.mem_of_getElem? (i := 645) (by decide +kernel)⟩
theorem lw_p19 : lw_okq (⟨"TowerService$Posting", "put", "(II)V"⟩, 7) := ⟨⟨by decide +kernel, by decide +kernel⟩, List.mem_of_getElem? (i := 201) (by decide +kernel), List.mem_of_getElem? (i := 650) (by decide +kernel), List.mem_of_getElem? (i := 651) (by decide +kernel)⟩
theorem lw_p20 : lw_okq (⟨"TowerService$Timetable", "chooseFrom", "(I)V"⟩, 5) := ⟨⟨by decide +kernel, by decide +kernel⟩, List.mem_of_getElem? (i := 231) (by decide +kernel), List.mem_of_getElem? (i := 664) (by decide +kernel), List.mem_of_getElem? (i := 665) (by decide +kernel)⟩
theorem lw_p21 : lw_okq (⟨"TowerService$Timetable", "takeIfBetter", "(I)V"⟩, 5) := ⟨⟨by decide +kernel, by decide +kernel⟩, List.mem_of_getElem? (i := 231) (by decide +kernel), List.mem_of_getElem? (i := 674) (by decide +kernel), List.mem_of_getElem? (i := 675) (by decide +kernel)⟩
theorem lw_p22 : lw_okq (⟨"TowerService$Timetable", "choose", "(II)V"⟩, 5) := ⟨⟨by decide +kernel, by decide +kernel⟩, List.mem_of_getElem? (i := 231) (by decide +kernel), List.mem_of_getElem? (i := 679) (by decide +kernel), List.mem_of_getElem? (i := 680) (by decide +kernel)⟩
theorem lw_p23 : lw_okq (⟨"TowerService$Swap", "takeIfBetter", "(II)V"⟩, 3) := ⟨⟨by decide +kernel, by decide +kernel⟩, List.mem_of_getElem? (i := 256) (by decide +kernel), List.mem_of_getElem? (i := 695) (by decide +kernel), List.mem_of_getElem? (i := 696) (by decide +kernel)⟩
theorem lw_p24 : lw_okq (⟨"TowerService$Swap", "changePlaces", "(II)V"⟩, 3) := ⟨⟨by decide +kernel, by decide +kernel⟩, List.mem_of_getElem? (i := 256) (by decide +kernel), List.mem_of_getElem? (i := 699) (by decide +kernel), List.mem_of_getElem? (i := 700) (by decide +kernel)⟩
theorem lw_p25 : lw_okq (⟨"TowerService$Chain", "countFrom", "(LTowerService$Tower;I)V"⟩, 3) := ⟨⟨by decide +kernel, by decide +kernel⟩, List.mem_of_getElem? (i := 274) (by decide +kernel), List.mem_of_getElem? (i := 712) (by decide +kernel), List.mem_of_getElem? (i := 713) (by decide +kernel)⟩
theorem lw_p26 : lw_okq (⟨"TowerService$Chain", "reaches", "(LTowerService$Tower;II)Z"⟩, 3) := ⟨⟨by decide +kernel, by decide +kernel⟩, List.mem_of_getElem? (i := 274) (by decide +kernel), List.mem_of_getElem? (i := 718) (by decide +kernel), List.mem_of_getElem? (i := 719) (by decide +kernel)⟩
theorem lw_p27 : lw_okq (⟨"TowerService", "doneIfTheseFall", "(I)I"⟩, 12) := ⟨⟨by decide +kernel, by decide +kernel⟩, List.mem_of_getElem? (i := 20) (by decide +kernel), List.mem_of_getElem? (i := 759) (by decide +kernel), List.mem_of_getElem? (i := 760) (by decide +kernel)⟩
theorem lw_p28 : lw_okq (⟨"TowerServiceModel", "clearTold", "()V"⟩, 25) := ⟨⟨by decide +kernel, by decide +kernel⟩, List.mem_of_getElem? (i := 819) (by decide +kernel), List.mem_of_getElem? (i := 825) (by decide +kernel), List.mem_of_getElem? (i := 826) (by decide +kernel)⟩
theorem lw_p29 : lw_okq (⟨"TowerServiceModel", "tellsPerson", "(IIII)V"⟩, 25) := ⟨⟨by decide +kernel, by decide +kernel⟩, List.mem_of_getElem? (i := 819) (by decide +kernel), List.mem_of_getElem? (i := 829) (by decide +kernel), List.mem_of_getElem? (i := 830) (by decide +kernel)⟩
theorem lw_p30 : lw_okq (⟨"TowerServiceModel", "tellsWork", "(II)V"⟩, 25) := ⟨⟨by decide +kernel, by decide +kernel⟩, List.mem_of_getElem? (i := 819) (by decide +kernel), List.mem_of_getElem? (i := 833) (by decide +kernel), List.mem_of_getElem? (i := 834) (by decide +kernel)⟩
theorem lw_p31 : lw_okq (⟨"TowerServiceModel", "settles", "()V"⟩, 25) := ⟨⟨by decide +kernel, by decide +kernel⟩, List.mem_of_getElem? (i := 819) (by decide +kernel), List.mem_of_getElem? (i := 837) (by decide +kernel), List.mem_of_getElem? (i := 838) (by decide +kernel)⟩
def lw_privs_2 : List (MethodName × Nat) := [(⟨"TowerService$Posting", "priceOf", "(I)I"⟩, 7), (⟨"TowerService$Posting", "isSurelyFrozenBefore", "(I)Z"⟩, 7), (⟨"TowerService$Posting", "takeIfBetter", "()V"⟩, 7), (⟨"TowerService$Posting", "put", "(II)V"⟩, 7), (⟨"TowerService$Timetable", "chooseFrom", "(I)V"⟩, 5), (⟨"TowerService$Timetable", "takeIfBetter", "(I)V"⟩, 5), (⟨"TowerService$Timetable", "choose", "(II)V"⟩, 5), (⟨"TowerService$Swap", "takeIfBetter", "(II)V"⟩, 3), (⟨"TowerService$Swap", "changePlaces", "(II)V"⟩, 3), (⟨"TowerService$Chain", "countFrom", "(LTowerService$Tower;I)V"⟩, 3), (⟨"TowerService$Chain", "reaches", "(LTowerService$Tower;II)Z"⟩, 3), (⟨"TowerService", "doneIfTheseFall", "(I)I"⟩, 12), (⟨"TowerServiceModel", "clearTold", "()V"⟩, 25), (⟨"TowerServiceModel", "tellsPerson", "(IIII)V"⟩, 25), (⟨"TowerServiceModel", "tellsWork", "(II)V"⟩, 25), (⟨"TowerServiceModel", "settles", "()V"⟩, 25)]
theorem lw_r2 : ∀ q ∈ lw_privs_2, lw_okq q := List.forall_mem_cons.mpr ⟨lw_p16, List.forall_mem_cons.mpr ⟨lw_p17, List.forall_mem_cons.mpr ⟨lw_p18, List.forall_mem_cons.mpr ⟨lw_p19, List.forall_mem_cons.mpr ⟨lw_p20, List.forall_mem_cons.mpr ⟨lw_p21, List.forall_mem_cons.mpr ⟨lw_p22, List.forall_mem_cons.mpr ⟨lw_p23, List.forall_mem_cons.mpr ⟨lw_p24, List.forall_mem_cons.mpr ⟨lw_p25, List.forall_mem_cons.mpr ⟨lw_p26, List.forall_mem_cons.mpr ⟨lw_p27, List.forall_mem_cons.mpr ⟨lw_p28, List.forall_mem_cons.mpr ⟨lw_p29, List.forall_mem_cons.mpr ⟨lw_p30, List.forall_mem_cons.mpr ⟨lw_p31, fun _ h => absurd h List.not_mem_nil⟩⟩⟩⟩⟩⟩⟩⟩⟩⟩⟩⟩⟩⟩⟩⟩
theorem lw_p32 : lw_okq (⟨"TowerServiceModel", "readItem", "()Z"⟩, 25) := ⟨⟨by decide +kernel, by decide +kernel⟩, List.mem_of_getElem? (i := 819) (by decide +kernel), List.mem_of_getElem? (i := 935) (by decide +kernel), List.mem_of_getElem? (i := 936) (by decide +kernel)⟩
theorem lw_p33 : lw_okq (⟨"TowerServiceModel", "letterAt", "(I)I"⟩, 25) := ⟨⟨by decide +kernel, by decide +kernel⟩, List.mem_of_getElem? (i := 819) (by decide +kernel), List.mem_of_getElem? (i := 939) (by decide +kernel), List.mem_of_getElem? (i := 940) (by decide +kernel)⟩
theorem lw_p34 : lw_okq (⟨"TowerServiceModel", "readHeightOf", "()Z"⟩, 25) := ⟨⟨by decide +kernel, by decide +kernel⟩, List.mem_of_getElem? (i := 819) (by decide +kernel), List.mem_of_getElem? (i := 943) (by decide +kernel), List.mem_of_getElem? (i := 944) (by decide +kernel)⟩
theorem lw_p35 : lw_okq (⟨"TowerServiceModel", "readNumbers", "(I)Z"⟩, 25) := ⟨⟨by decide +kernel, by decide +kernel⟩, List.mem_of_getElem? (i := 819) (by decide +kernel), List.mem_of_getElem? (i := 947) (by decide +kernel), List.mem_of_getElem? (i := 948) (by decide +kernel)⟩
theorem lw_p36 : lw_okq (⟨"TowerServiceModel", "isTold", "(III)Z"⟩, 25) := ⟨⟨by decide +kernel, by decide +kernel⟩, List.mem_of_getElem? (i := 819) (by decide +kernel), List.mem_of_getElem? (i := 954) (by decide +kernel), List.mem_of_getElem? (i := 955) (by decide +kernel)⟩
theorem lw_p37 : lw_okq (⟨"TowerServiceModel", "readPersonItem", "()Z"⟩, 25) := ⟨⟨by decide +kernel, by decide +kernel⟩, List.mem_of_getElem? (i := 819) (by decide +kernel), List.mem_of_getElem? (i := 958) (by decide +kernel), List.mem_of_getElem? (i := 959) (by decide +kernel)⟩
theorem lw_p38 : lw_okq (⟨"TowerServiceModel", "readWorkItem", "()Z"⟩, 25) := ⟨⟨by decide +kernel, by decide +kernel⟩, List.mem_of_getElem? (i := 819) (by decide +kernel), List.mem_of_getElem? (i := 962) (by decide +kernel), List.mem_of_getElem? (i := 963) (by decide +kernel)⟩
theorem lw_p39 : lw_okq (⟨"TowerServiceModel", "isPerson", "(I)Z"⟩, 25) := ⟨⟨by decide +kernel, by decide +kernel⟩, List.mem_of_getElem? (i := 819) (by decide +kernel), List.mem_of_getElem? (i := 975) (by decide +kernel), List.mem_of_getElem? (i := 976) (by decide +kernel)⟩
theorem lw_p40 : lw_okq (⟨"TowerServiceModel", "asItIs", "()V"⟩, 25) := ⟨⟨by decide +kernel, by decide +kernel⟩, List.mem_of_getElem? (i := 819) (by decide +kernel), List.mem_of_getElem? (i := 979) (by decide +kernel), List.mem_of_getElem? (i := 980) (by decide +kernel)⟩
theorem lw_p41 : lw_okq (⟨"TowerServiceModel", "fearOf", "(I)I"⟩, 25) := ⟨⟨by decide +kernel, by decide +kernel⟩, List.mem_of_getElem? (i := 819) (by decide +kernel), List.mem_of_getElem? (i := 983) (by decide +kernel), List.mem_of_getElem? (i := 984) (by decide +kernel)⟩
theorem lw_p42 : lw_okq (⟨"TowerServiceModel", "fearAs", "(III)I"⟩, 25) := ⟨⟨by decide +kernel, by decide +kernel⟩, List.mem_of_getElem? (i := 819) (by decide +kernel), List.mem_of_getElem? (i := 987) (by decide +kernel), List.mem_of_getElem? (i := 988) (by decide +kernel)⟩
theorem lw_p43 : lw_okq (⟨"TowerServiceModel", "frozen", "()I"⟩, 25) := ⟨⟨by decide +kernel, by decide +kernel⟩, List.mem_of_getElem? (i := 819) (by decide +kernel), List.mem_of_getElem? (i := 994) (by decide +kernel), List.mem_of_getElem? (i := 995) (by decide +kernel)⟩
theorem lw_p44 : lw_okq (⟨"TowerServiceModel", "canCall", "(I)Z"⟩, 25) := ⟨⟨by decide +kernel, by decide +kernel⟩, List.mem_of_getElem? (i := 819) (by decide +kernel), List.mem_of_getElem? (i := 998) (by decide +kernel), List.mem_of_getElem? (i := 999) (by decide +kernel)⟩
theorem lw_p45 : lw_okq (⟨"TowerServiceModel", "isStep", "(I)Z"⟩, 25) := ⟨⟨by decide +kernel, by decide +kernel⟩, List.mem_of_getElem? (i := 819) (by decide +kernel), List.mem_of_getElem? (i := 1006) (by decide +kernel), List.mem_of_getElem? (i := 1007) (by decide +kernel)⟩
theorem lw_p46 : lw_okq (⟨"TowerServiceModel", "isDone", "(II)Z"⟩, 25) := ⟨⟨by decide +kernel, by decide +kernel⟩, List.mem_of_getElem? (i := 819) (by decide +kernel), List.mem_of_getElem? (i := 1014) (by decide +kernel), List.mem_of_getElem? (i := 1015) (by decide +kernel)⟩
theorem lw_p47 : lw_okq (⟨"TowerServiceModel", "goesBy", "()V"⟩, 25) := ⟨⟨by decide +kernel, by decide +kernel⟩, List.mem_of_getElem? (i := 819) (by decide +kernel), List.mem_of_getElem? (i := 1022) (by decide +kernel), List.mem_of_getElem? (i := 1023) (by decide +kernel)⟩
def lw_privs_3 : List (MethodName × Nat) := [(⟨"TowerServiceModel", "readItem", "()Z"⟩, 25), (⟨"TowerServiceModel", "letterAt", "(I)I"⟩, 25), (⟨"TowerServiceModel", "readHeightOf", "()Z"⟩, 25), (⟨"TowerServiceModel", "readNumbers", "(I)Z"⟩, 25), (⟨"TowerServiceModel", "isTold", "(III)Z"⟩, 25), (⟨"TowerServiceModel", "readPersonItem", "()Z"⟩, 25), (⟨"TowerServiceModel", "readWorkItem", "()Z"⟩, 25), (⟨"TowerServiceModel", "isPerson", "(I)Z"⟩, 25), (⟨"TowerServiceModel", "asItIs", "()V"⟩, 25), (⟨"TowerServiceModel", "fearOf", "(I)I"⟩, 25), (⟨"TowerServiceModel", "fearAs", "(III)I"⟩, 25), (⟨"TowerServiceModel", "frozen", "()I"⟩, 25), (⟨"TowerServiceModel", "canCall", "(I)Z"⟩, 25), (⟨"TowerServiceModel", "isStep", "(I)Z"⟩, 25), (⟨"TowerServiceModel", "isDone", "(II)Z"⟩, 25), (⟨"TowerServiceModel", "goesBy", "()V"⟩, 25)]
theorem lw_r3 : ∀ q ∈ lw_privs_3, lw_okq q := List.forall_mem_cons.mpr ⟨lw_p32, List.forall_mem_cons.mpr ⟨lw_p33, List.forall_mem_cons.mpr ⟨lw_p34, List.forall_mem_cons.mpr ⟨lw_p35, List.forall_mem_cons.mpr ⟨lw_p36, List.forall_mem_cons.mpr ⟨lw_p37, List.forall_mem_cons.mpr ⟨lw_p38, List.forall_mem_cons.mpr ⟨lw_p39, List.forall_mem_cons.mpr ⟨lw_p40, List.forall_mem_cons.mpr ⟨lw_p41, List.forall_mem_cons.mpr ⟨lw_p42, List.forall_mem_cons.mpr ⟨lw_p43, List.forall_mem_cons.mpr ⟨lw_p44, List.forall_mem_cons.mpr ⟨lw_p45, List.forall_mem_cons.mpr ⟨lw_p46, List.forall_mem_cons.mpr ⟨lw_p47, fun _ h => absurd h List.not_mem_nil⟩⟩⟩⟩⟩⟩⟩⟩⟩⟩⟩⟩⟩⟩⟩⟩
theorem lw_p48 : lw_okq (⟨"TowerServiceModel", "becomes", "()V"⟩, 25) := ⟨⟨by decide +kernel, by decide +kernel⟩, List.mem_of_getElem? (i := 819) (by decide +kernel), List.mem_of_getElem? (i := 1026) (by decide +kernel), List.mem_of_getElem? (i := 1027) (by decide +kernel)⟩
theorem lw_p49 : lw_okq (⟨"TowerServiceModel", "canPromote", "(I)Z"⟩, 25) := ⟨⟨by decide +kernel, by decide +kernel⟩, List.mem_of_getElem? (i := 819) (by decide +kernel), List.mem_of_getElem? (i := 1034) (by decide +kernel), List.mem_of_getElem? (i := 1035) (by decide +kernel)⟩
theorem lw_p50 : lw_okq (⟨"TowerServiceModel", "canHoist", "(I)Z"⟩, 25) := ⟨⟨by decide +kernel, by decide +kernel⟩, List.mem_of_getElem? (i := 819) (by decide +kernel), List.mem_of_getElem? (i := 1042) (by decide +kernel), List.mem_of_getElem? (i := 1043) (by decide +kernel)⟩
theorem lw_p51 : lw_okq (⟨"TowerServiceModel", "calls", "(I)V"⟩, 25) := ⟨⟨by decide +kernel, by decide +kernel⟩, List.mem_of_getElem? (i := 819) (by decide +kernel), List.mem_of_getElem? (i := 1050) (by decide +kernel), List.mem_of_getElem? (i := 1051) (by decide +kernel)⟩
theorem lw_p52 : lw_okq (⟨"TowerServiceModel", "mayBe", "(I)I"⟩, 25) := ⟨⟨by decide +kernel, by decide +kernel⟩, List.mem_of_getElem? (i := 819) (by decide +kernel), List.mem_of_getElem? (i := 1070) (by decide +kernel), List.mem_of_getElem? (i := 1071) (by decide +kernel)⟩
theorem lw_p53 : lw_okq (⟨"TowerServiceModel", "done", "()I"⟩, 25) := ⟨⟨by decide +kernel, by decide +kernel⟩, List.mem_of_getElem? (i := 819) (by decide +kernel), List.mem_of_getElem? (i := 1077) (by decide +kernel), List.mem_of_getElem? (i := 1078) (by decide +kernel)⟩
theorem lw_p54 : lw_okq (⟨"TowerServiceModel", "putsNext", "()Z"⟩, 25) := ⟨⟨by decide +kernel, by decide +kernel⟩, List.mem_of_getElem? (i := 819) (by decide +kernel), List.mem_of_getElem? (i := 1081) (by decide +kernel), List.mem_of_getElem? (i := 1082) (by decide +kernel)⟩
theorem lw_p55 : lw_okq (⟨"TowerServiceModel", "doneBy", "(II)I"⟩, 25) := ⟨⟨by decide +kernel, by decide +kernel⟩, List.mem_of_getElem? (i := 819) (by decide +kernel), List.mem_of_getElem? (i := 1092) (by decide +kernel), List.mem_of_getElem? (i := 1093) (by decide +kernel)⟩
theorem lw_p56 : lw_okq (⟨"TowerServiceModel", "isSo", "(III)Z"⟩, 25) := ⟨⟨by decide +kernel, by decide +kernel⟩, List.mem_of_getElem? (i := 819) (by decide +kernel), List.mem_of_getElem? (i := 1116) (by decide +kernel), List.mem_of_getElem? (i := 1117) (by decide +kernel)⟩
theorem lw_p57 : lw_okq (⟨"TowerServiceModel", "turns", "(I)V"⟩, 25) := ⟨⟨by decide +kernel, by decide +kernel⟩, List.mem_of_getElem? (i := 819) (by decide +kernel), List.mem_of_getElem? (i := 1139) (by decide +kernel), List.mem_of_getElem? (i := 1140) (by decide +kernel)⟩
def lw_privs_4 : List (MethodName × Nat) := [(⟨"TowerServiceModel", "becomes", "()V"⟩, 25), (⟨"TowerServiceModel", "canPromote", "(I)Z"⟩, 25), (⟨"TowerServiceModel", "canHoist", "(I)Z"⟩, 25), (⟨"TowerServiceModel", "calls", "(I)V"⟩, 25), (⟨"TowerServiceModel", "mayBe", "(I)I"⟩, 25), (⟨"TowerServiceModel", "done", "()I"⟩, 25), (⟨"TowerServiceModel", "putsNext", "()Z"⟩, 25), (⟨"TowerServiceModel", "doneBy", "(II)I"⟩, 25), (⟨"TowerServiceModel", "isSo", "(III)Z"⟩, 25), (⟨"TowerServiceModel", "turns", "(I)V"⟩, 25)]
theorem lw_r4 : ∀ q ∈ lw_privs_4, lw_okq q := List.forall_mem_cons.mpr ⟨lw_p48, List.forall_mem_cons.mpr ⟨lw_p49, List.forall_mem_cons.mpr ⟨lw_p50, List.forall_mem_cons.mpr ⟨lw_p51, List.forall_mem_cons.mpr ⟨lw_p52, List.forall_mem_cons.mpr ⟨lw_p53, List.forall_mem_cons.mpr ⟨lw_p54, List.forall_mem_cons.mpr ⟨lw_p55, List.forall_mem_cons.mpr ⟨lw_p56, List.forall_mem_cons.mpr ⟨lw_p57, fun _ h => absurd h List.not_mem_nil⟩⟩⟩⟩⟩⟩⟩⟩⟩⟩
def lw_privs : List (MethodName × Nat) := lw_privs_1 ++ (lw_privs_2 ++ (lw_privs_3 ++ (lw_privs_4)))
def lw_tbl : List Cond := k2_sels lw_privs ++ tables_1
theorem lw_privs_ok : ∀ q ∈ lw_privs, lw_okq q := by
  show ∀ q ∈ lw_privs_1 ++ (lw_privs_2 ++ (lw_privs_3 ++ (lw_privs_4))), lw_okq q
  exact List.forall_mem_append.mpr ⟨lw_r1, List.forall_mem_append.mpr ⟨lw_r2, List.forall_mem_append.mpr ⟨lw_r3, lw_r4⟩⟩⟩
end
section
/-! ===== BEGIN words of one list among another's, by their places ===== -/
theorem goodIn_r {big : List Cond} (ws : List Cond) (ps : List Nat) (hp : ws = ps.filterMap (fun i => big[i]?)) (h : ws.all goodWord = true) : GoodIn big ws := by
  intro w hw
  have h1 := List.all_eq_true.mp h w hw
  rw [hp] at hw
  obtain ⟨i, -, hi⟩ := List.mem_filterMap.mp hw
  have hm : w ∈ big := by first | exact List.mem_of_getElem? hi | exact List.getElem?_mem hi
  exact ⟨hm, good_of_word h1⟩
theorem goodIn_app {big a b : List Cond} (ha : GoodIn big a) (hb : GoodIn big b) : GoodIn big (a ++ b) := fun w h => (List.mem_append.mp h).elim (ha w) (hb w)
theorem goodIn_ca {big a b : List Cond} {c : Cond} (ha : GoodIn big (c :: a)) (hb : GoodIn big b) : GoodIn big (c :: (a ++ b)) := fun w h => (List.mem_cons.mp h).elim (fun e => ha w (List.mem_cons.mpr (Or.inl e))) (fun h => (List.mem_append.mp h).elim (fun h => ha w (List.mem_cons.mpr (Or.inr h))) (hb w))
theorem goodIn_sub {big ws : List Cond} (hm : ∀ w ∈ ws, w ∈ big) (h : ws.all goodWord = true) : GoodIn big ws := fun w hw => ⟨hm w hw, good_of_word (List.all_eq_true.mp h w hw)⟩
/-! ===== END ===== -/

/-! ===== BEGIN printed: names, fields, word lists, decode rows ===== -/
def RX0 : String := "TowerService$Chain"
def TX0 : u_T := fun k => match k with
  | 0 => ("TowerService$Chain", "persons", "[I", true)
  | 1 => ("TowerService$Chain", "fewest", "I", false)
  | _ => ("TowerService$Chain", "first", "I", false)
def tyX0 : Nat → FieldType := fun k => match k with
  | 0 => .array .int
  | 1 => .int
  | _ => .int
abbrev wsX00 : List Cond := u_ws RX0 TX0 3
theorem nmX0 : ∀ a, a < 3 → ∀ b, b < 3 → a ≠ b → (TX0 a).2.1 ≠ (TX0 b).2.1 := by decide +kernel
theorem tyX0_ok : ∀ k, k < 3 → parseFieldDescriptor (TX0 k).2.2.1 = some (tyX0 k) := by decide +kernel
abbrev cX0_init : ByteArray := prog_2_method_1_code
def yX0_init : MethodName := ⟨RX0, "<init>", "()V"⟩
abbrev cX0_search : ByteArray := prog_2_method_2_code
def yX0_search : MethodName := ⟨RX0, "search", "(LTowerService$Tower;II)V"⟩
abbrev cX0_countFrom : ByteArray := prog_2_method_3_code
def yX0_countFrom : MethodName := ⟨RX0, "countFrom", "(LTowerService$Tower;I)V"⟩
abbrev cX0_reaches : ByteArray := prog_2_method_4_code
def yX0_reaches : MethodName := ⟨RX0, "reaches", "(LTowerService$Tower;II)Z"⟩
def RX1 : String := "TowerService$Past"
def TX1 : u_T := fun k => match k with
  | 0 => ("TowerService$Past", "rows", "[LTowerService$Tower;", true)
  | 1 => ("TowerService$Past", "oldest", "I", false)
  | _ => ("TowerService$Past", "many", "I", false)
def tyX1 : Nat → FieldType := fun k => match k with
  | 0 => .array (.object "TowerService$Tower")
  | 1 => .int
  | _ => .int
abbrev wsX10 : List Cond := u_ws RX1 TX1 3
theorem nmX1 : ∀ a, a < 3 → ∀ b, b < 3 → a ≠ b → (TX1 a).2.1 ≠ (TX1 b).2.1 := by decide +kernel
theorem tyX1_ok : ∀ k, k < 3 → parseFieldDescriptor (TX1 k).2.2.1 = some (tyX1 k) := by decide +kernel
abbrev cX1_init : ByteArray := prog_3_method_1_code
def yX1_init : MethodName := ⟨RX1, "<init>", "(LTowerService$Plan;)V"⟩
abbrev cX1_add : ByteArray := prog_3_method_2_code
def yX1_add : MethodName := ⟨RX1, "add", "(LTowerService$Tower;)V"⟩
abbrev cX1_takeLastInto : ByteArray := prog_3_method_3_code
def yX1_takeLastInto : MethodName := ⟨RX1, "takeLastInto", "(LTowerService$Tower;)V"⟩
abbrev cX1_clear : ByteArray := prog_3_method_4_code
def yX1_clear : MethodName := ⟨RX1, "clear", "()V"⟩
def RX2 : String := "TowerService$Plan"
def TX2 : u_T := fun k => match k with
  | 0 => ("TowerService$Plan", "steps", "I", false)
  | 1 => ("TowerService$Plan", "persons", "I", false)
  | 2 => ("TowerService$Plan", "works", "I", false)
  | 3 => ("TowerService$Plan", "kind", "[I", true)
  | 4 => ("TowerService$Plan", "workStep", "[I", true)
  | _ => ("TowerService$Plan", "workNeed", "[I", true)
def tyX2 : Nat → FieldType := fun k => match k with
  | 0 => .int
  | 1 => .int
  | 2 => .int
  | 3 => .array .int
  | 4 => .array .int
  | _ => .array .int
abbrev wsX20 : List Cond := u_ws RX2 TX2 6
theorem nmX2 : ∀ a, a < 6 → ∀ b, b < 6 → a ≠ b → (TX2 a).2.1 ≠ (TX2 b).2.1 := by decide +kernel
theorem tyX2_ok : ∀ k, k < 6 → parseFieldDescriptor (TX2 k).2.2.1 = some (tyX2 k) := by decide +kernel
abbrev cX2_init : ByteArray := prog_4_method_1_code
def yX2_init : MethodName := ⟨RX2, "<init>", "()V"⟩
abbrev cX2_clear : ByteArray := prog_4_method_2_code
def yX2_clear : MethodName := ⟨RX2, "clear", "()V"⟩
abbrev cX2_copyFrom : ByteArray := prog_4_method_3_code
def yX2_copyFrom : MethodName := ⟨RX2, "copyFrom", "(LTowerService$Plan;)V"⟩
def RX3 : String := "TowerService$Posting"
def TX3 : u_T := fun k => match k with
  | 0 => ("TowerService$Posting", "trial", "LTowerService$Tower;", true)
  | 1 => ("TowerService$Posting", "places", "[I", true)
  | 2 => ("TowerService$Posting", "easier", "[I", true)
  | 3 => ("TowerService$Posting", "crowd", "[I", true)
  | 4 => ("TowerService$Posting", "waiting", "I", false)
  | 5 => ("TowerService$Posting", "best", "[I", true)
  | _ => ("TowerService$Posting", "most", "I", false)
def tyX3 : Nat → FieldType := fun k => match k with
  | 0 => .object "TowerService$Tower"
  | 1 => .array .int
  | 2 => .array .int
  | 3 => .array .int
  | 4 => .int
  | 5 => .array .int
  | _ => .int
abbrev wsX30 : List Cond := u_ws RX3 TX3 7
theorem nmX3 : ∀ a, a < 7 → ∀ b, b < 7 → a ≠ b → (TX3 a).2.1 ≠ (TX3 b).2.1 := by decide +kernel
theorem tyX3_ok : ∀ k, k < 7 → parseFieldDescriptor (TX3 k).2.2.1 = some (tyX3 k) := by decide +kernel
abbrev cX3_init : ByteArray := prog_5_method_1_code
def yX3_init : MethodName := ⟨RX3, "<init>", "(LTowerService$Tower;)V"⟩
abbrev cX3_search : ByteArray := prog_5_method_2_code
def yX3_search : MethodName := ⟨RX3, "search", "(LTowerService$Tower;)V"⟩
abbrev cX3_placesOf : ByteArray := prog_5_method_3_code
def yX3_placesOf : MethodName := ⟨RX3, "placesOf", "(I)I"⟩
abbrev cX3_isFrozenAmong : ByteArray := prog_5_method_4_code
def yX3_isFrozenAmong : MethodName := ⟨RX3, "isFrozenAmong", "(III)Z"⟩
abbrev cX3_needOfNextEasier : ByteArray := prog_5_method_5_code
def yX3_needOfNextEasier : MethodName := ⟨RX3, "needOfNextEasier", "(I)I"⟩
abbrev cX3_isEasier : ByteArray := prog_5_method_6_code
def yX3_isEasier : MethodName := ⟨RX3, "isEasier", "(II)Z"⟩
abbrev cX3_putFrom : ByteArray := prog_5_method_7_code
def yX3_putFrom : MethodName := ⟨RX3, "putFrom", "(I)V"⟩
abbrev cX3_put : ByteArray := prog_5_method_8_code
def yX3_put : MethodName := ⟨RX3, "put", "(II)V"⟩
abbrev cX3_isSurelyFrozenBefore : ByteArray := prog_5_method_9_code
def yX3_isSurelyFrozenBefore : MethodName := ⟨RX3, "isSurelyFrozenBefore", "(I)Z"⟩
abbrev cX3_mostInReach : ByteArray := prog_5_method_10_code
def yX3_mostInReach : MethodName := ⟨RX3, "mostInReach", "()I"⟩
abbrev cX3_priceOf : ByteArray := prog_5_method_11_code
def yX3_priceOf : MethodName := ⟨RX3, "priceOf", "(I)I"⟩
abbrev cX3_takeIfBetter : ByteArray := prog_5_method_12_code
def yX3_takeIfBetter : MethodName := ⟨RX3, "takeIfBetter", "()V"⟩
def RX4 : String := "TowerService$Sights"
def TX4 : u_T := fun k => match k with
  | 0 => ("TowerService$Sights", "who", "[I", true)
  | 1 => ("TowerService$Sights", "where", "[I", true)
  | 2 => ("TowerService$Sights", "frozen", "[Z", true)
  | _ => ("TowerService$Sights", "many", "I", false)
def tyX4 : Nat → FieldType := fun k => match k with
  | 0 => .array .int
  | 1 => .array .int
  | 2 => .array .boolean
  | _ => .int
abbrev wsX40 : List Cond := u_ws RX4 TX4 4
theorem nmX4 : ∀ a, a < 4 → ∀ b, b < 4 → a ≠ b → (TX4 a).2.1 ≠ (TX4 b).2.1 := by decide +kernel
theorem tyX4_ok : ∀ k, k < 4 → parseFieldDescriptor (TX4 k).2.2.1 = some (tyX4 k) := by decide +kernel
abbrev cX4_init : ByteArray := prog_6_method_1_code
def yX4_init : MethodName := ⟨RX4, "<init>", "()V"⟩
abbrev cX4_add : ByteArray := prog_6_method_2_code
def yX4_add : MethodName := ⟨RX4, "add", "(IIZ)Z"⟩
abbrev cX4_clear : ByteArray := prog_6_method_3_code
def yX4_clear : MethodName := ⟨RX4, "clear", "()V"⟩
abbrev cX4_wouldHold : ByteArray := prog_6_method_4_code
def yX4_wouldHold : MethodName := ⟨RX4, "wouldHold", "(LTowerService$Tower;III)Z"⟩
def RX5 : String := "TowerService$Swap"
def TX5 : u_T := fun k => match k with
  | 0 => ("TowerService$Swap", "trial", "LTowerService$Tower;", true)
  | 1 => ("TowerService$Swap", "pair", "I", false)
  | _ => ("TowerService$Swap", "most", "I", false)
def tyX5 : Nat → FieldType := fun k => match k with
  | 0 => .object "TowerService$Tower"
  | 1 => .int
  | _ => .int
abbrev wsX50 : List Cond := u_ws RX5 TX5 3
theorem nmX5 : ∀ a, a < 3 → ∀ b, b < 3 → a ≠ b → (TX5 a).2.1 ≠ (TX5 b).2.1 := by decide +kernel
theorem tyX5_ok : ∀ k, k < 3 → parseFieldDescriptor (TX5 k).2.2.1 = some (tyX5 k) := by decide +kernel
abbrev cX5_init : ByteArray := prog_7_method_1_code
def yX5_init : MethodName := ⟨RX5, "<init>", "(LTowerService$Tower;)V"⟩
abbrev cX5_search : ByteArray := prog_7_method_2_code
def yX5_search : MethodName := ⟨RX5, "search", "(LTowerService$Tower;)V"⟩
abbrev cX5_takeIfBetter : ByteArray := prog_7_method_3_code
def yX5_takeIfBetter : MethodName := ⟨RX5, "takeIfBetter", "(II)V"⟩
abbrev cX5_changePlaces : ByteArray := prog_7_method_4_code
def yX5_changePlaces : MethodName := ⟨RX5, "changePlaces", "(II)V"⟩
def RX6 : String := "TowerService$Text"
def TX6 : u_T := fun k => match k with
  | 0 => ("TowerService$Text", "letters", "[C", true)
  | 1 => ("TowerService$Text", "length", "I", false)
  | 2 => ("TowerService$Text", "at", "I", false)
  | _ => ("TowerService$Text", "numbers", "[I", true)
def tyX6 : Nat → FieldType := fun k => match k with
  | 0 => .array .char
  | 1 => .int
  | 2 => .int
  | _ => .array .int
abbrev wsX60 : List Cond := u_ws RX6 TX6 4
theorem nmX6 : ∀ a, a < 4 → ∀ b, b < 4 → a ≠ b → (TX6 a).2.1 ≠ (TX6 b).2.1 := by decide +kernel
theorem tyX6_ok : ∀ k, k < 4 → parseFieldDescriptor (TX6 k).2.2.1 = some (tyX6 k) := by decide +kernel
abbrev cX6_init : ByteArray := prog_8_method_1_code
def yX6_init : MethodName := ⟨RX6, "<init>", "()V"⟩
abbrev cX6_add : ByteArray := prog_8_method_2_code
def yX6_add : MethodName := ⟨RX6, "add", "(C)Z"⟩
abbrev cX6_clear : ByteArray := prog_8_method_3_code
def yX6_clear : MethodName := ⟨RX6, "clear", "()V"⟩
abbrev cX6_readInto : ByteArray := prog_8_method_4_code
def yX6_readInto : MethodName := ⟨RX6, "readInto", "(LTowerService$Tower;)I"⟩
abbrev cX6_readItem : ByteArray := prog_8_method_5_code
def yX6_readItem : MethodName := ⟨RX6, "readItem", "(LTowerService$Tower;)Z"⟩
abbrev cX6_readNumbers : ByteArray := prog_8_method_6_code
def yX6_readNumbers : MethodName := ⟨RX6, "readNumbers", "(I)Z"⟩
abbrev cX6_readNumber : ByteArray := prog_8_method_7_code
def yX6_readNumber : MethodName := ⟨RX6, "readNumber", "()I"⟩
abbrev cX6_figureAt : ByteArray := prog_8_method_8_code
def yX6_figureAt : MethodName := ⟨RX6, "figureAt", "(I)I"⟩
abbrev cX6_takeSteps : ByteArray := prog_8_method_9_code
def yX6_takeSteps : MethodName := ⟨RX6, "takeSteps", "(LTowerService$Plan;)Z"⟩
abbrev cX6_takePerson : ByteArray := prog_8_method_10_code
def yX6_takePerson : MethodName := ⟨RX6, "takePerson", "(LTowerService$Tower;)Z"⟩
abbrev cX6_takeWork : ByteArray := prog_8_method_11_code
def yX6_takeWork : MethodName := ⟨RX6, "takeWork", "(LTowerService$Plan;)Z"⟩
def RX7 : String := "TowerService$Timetable"
def TX7 : u_T := fun k => match k with
  | 0 => ("TowerService$Timetable", "ahead", "[LTowerService$Tower;", true)
  | 1 => ("TowerService$Timetable", "chosen", "[I", true)
  | 2 => ("TowerService$Timetable", "years", "I", false)
  | 3 => ("TowerService$Timetable", "best", "[I", true)
  | _ => ("TowerService$Timetable", "most", "I", false)
def tyX7 : Nat → FieldType := fun k => match k with
  | 0 => .array (.object "TowerService$Tower")
  | 1 => .array .int
  | 2 => .int
  | 3 => .array .int
  | _ => .int
abbrev wsX70 : List Cond := u_ws RX7 TX7 5
theorem nmX7 : ∀ a, a < 5 → ∀ b, b < 5 → a ≠ b → (TX7 a).2.1 ≠ (TX7 b).2.1 := by decide +kernel
theorem tyX7_ok : ∀ k, k < 5 → parseFieldDescriptor (TX7 k).2.2.1 = some (tyX7 k) := by decide +kernel
abbrev cX7_init : ByteArray := prog_9_method_1_code
def yX7_init : MethodName := ⟨RX7, "<init>", "(LTowerService$Plan;)V"⟩
abbrev cX7_search : ByteArray := prog_9_method_2_code
def yX7_search : MethodName := ⟨RX7, "search", "(LTowerService$Tower;I)V"⟩
abbrev cX7_chooseFrom : ByteArray := prog_9_method_3_code
def yX7_chooseFrom : MethodName := ⟨RX7, "chooseFrom", "(I)V"⟩
abbrev cX7_choose : ByteArray := prog_9_method_4_code
def yX7_choose : MethodName := ⟨RX7, "choose", "(II)V"⟩
abbrev cX7_takeIfBetter : ByteArray := prog_9_method_5_code
def yX7_takeIfBetter : MethodName := ⟨RX7, "takeIfBetter", "(I)V"⟩
def RX8 : String := "TowerService$Tower"
def TX8 : u_T := fun k => match k with
  | 0 => ("TowerService$Tower", "plan", "LTowerService$Plan;", true)
  | 1 => ("TowerService$Tower", "step", "[I", true)
  | 2 => ("TowerService$Tower", "age", "[I", true)
  | 3 => ("TowerService$Tower", "nerve", "[I", true)
  | 4 => ("TowerService$Tower", "gone", "[Z", true)
  | 5 => ("TowerService$Tower", "called", "[Z", true)
  | _ => ("TowerService$Tower", "year", "I", false)
def tyX8 : Nat → FieldType := fun k => match k with
  | 0 => .object "TowerService$Plan"
  | 1 => .array .int
  | 2 => .array .int
  | 3 => .array .int
  | 4 => .array .boolean
  | 5 => .array .boolean
  | _ => .int
abbrev wsX80 : List Cond := u_ws RX8 TX8 7
theorem nmX8 : ∀ a, a < 7 → ∀ b, b < 7 → a ≠ b → (TX8 a).2.1 ≠ (TX8 b).2.1 := by decide +kernel
theorem tyX8_ok : ∀ k, k < 7 → parseFieldDescriptor (TX8 k).2.2.1 = some (tyX8 k) := by decide +kernel
abbrev cX8_init : ByteArray := prog_10_method_1_code
def yX8_init : MethodName := ⟨RX8, "<init>", "(LTowerService$Plan;)V"⟩
abbrev cX8_standAs : ByteArray := prog_10_method_2_code
def yX8_standAs : MethodName := ⟨RX8, "standAs", "(LTowerService$Tower;)V"⟩
abbrev cX8_fearOn : ByteArray := prog_10_method_3_code
def yX8_fearOn : MethodName := ⟨RX8, "fearOn", "(II)I"⟩
abbrev cX8_fearAs : ByteArray := prog_10_method_4_code
def yX8_fearAs : MethodName := ⟨RX8, "fearAs", "(III)I"⟩
abbrev cX8_fearAmong : ByteArray := prog_10_method_5_code
def yX8_fearAmong : MethodName := ⟨RX8, "fearAmong", "(IIII)I"⟩
abbrev cX8_isFrozen : ByteArray := prog_10_method_6_code
def yX8_isFrozen : MethodName := ⟨RX8, "isFrozen", "(I)Z"⟩
abbrev cX8_isSteady : ByteArray := prog_10_method_7_code
def yX8_isSteady : MethodName := ⟨RX8, "isSteady", "(I)Z"⟩
abbrev cX8_frozenBits : ByteArray := prog_10_method_8_code
def yX8_frozenBits : MethodName := ⟨RX8, "frozenBits", "()I"⟩
abbrev cX8_steadyBits : ByteArray := prog_10_method_9_code
def yX8_steadyBits : MethodName := ⟨RX8, "steadyBits", "()I"⟩
abbrev cX8_isDone : ByteArray := prog_10_method_10_code
def yX8_isDone : MethodName := ⟨RX8, "isDone", "(II)Z"⟩
abbrev cX8_doneMany : ByteArray := prog_10_method_11_code
def yX8_doneMany : MethodName := ⟨RX8, "doneMany", "()I"⟩
abbrev cX8_goneMany : ByteArray := prog_10_method_12_code
def yX8_goneMany : MethodName := ⟨RX8, "goneMany", "()I"⟩
abbrev cX8_stepsTogether : ByteArray := prog_10_method_13_code
def yX8_stepsTogether : MethodName := ⟨RX8, "stepsTogether", "()I"⟩
abbrev cX8_goYears : ByteArray := prog_10_method_14_code
def yX8_goYears : MethodName := ⟨RX8, "goYears", "(I)V"⟩
abbrev cX8_goYear : ByteArray := prog_10_method_15_code
def yX8_goYear : MethodName := ⟨RX8, "goYear", "()V"⟩
abbrev cX8_mayGoDown : ByteArray := prog_10_method_16_code
def yX8_mayGoDown : MethodName := ⟨RX8, "mayGoDown", "(I)Z"⟩
abbrev cX8_goDown : ByteArray := prog_10_method_17_code
def yX8_goDown : MethodName := ⟨RX8, "goDown", "(I)V"⟩
abbrev cX8_mayGoUp : ByteArray := prog_10_method_18_code
def yX8_mayGoUp : MethodName := ⟨RX8, "mayGoUp", "(I)Z"⟩
abbrev cX8_goUp : ByteArray := prog_10_method_19_code
def yX8_goUp : MethodName := ⟨RX8, "goUp", "(I)V"⟩
abbrev cX8_mayBeCalled : ByteArray := prog_10_method_20_code
def yX8_mayBeCalled : MethodName := ⟨RX8, "mayBeCalled", "(I)Z"⟩
abbrev cX8_hearCall : ByteArray := prog_10_method_21_code
def yX8_hearCall : MethodName := ⟨RX8, "hearCall", "(I)V"⟩
abbrev cX8_actBy : ByteArray := prog_10_method_22_code
def yX8_actBy : MethodName := ⟨RX8, "actBy", "(I)V"⟩
def RX9 : String := "TowerService"
def TX9 : u_T := fun k => match k with
  | 0 => ("TowerService", "text", "LTowerService$Text;", true)
  | 1 => ("TowerService", "draft", "LTowerService$Tower;", true)
  | 2 => ("TowerService", "tower", "LTowerService$Tower;", true)
  | 3 => ("TowerService", "trial", "LTowerService$Tower;", true)
  | 4 => ("TowerService", "past", "LTowerService$Past;", true)
  | 5 => ("TowerService", "kept", "[LTowerService$Tower;", true)
  | 6 => ("TowerService", "keptMany", "I", false)
  | 7 => ("TowerService", "sights", "LTowerService$Sights;", true)
  | 8 => ("TowerService", "bestPosting", "LTowerService$Posting;", true)
  | 9 => ("TowerService", "bestTimetable", "LTowerService$Timetable;", true)
  | 10 => ("TowerService", "bestSwap", "LTowerService$Swap;", true)
  | _ => ("TowerService", "chain", "LTowerService$Chain;", true)
def tyX9 : Nat → FieldType := fun k => match k with
  | 0 => .object "TowerService$Text"
  | 1 => .object "TowerService$Tower"
  | 2 => .object "TowerService$Tower"
  | 3 => .object "TowerService$Tower"
  | 4 => .object "TowerService$Past"
  | 5 => .array (.object "TowerService$Tower")
  | 6 => .int
  | 7 => .object "TowerService$Sights"
  | 8 => .object "TowerService$Posting"
  | 9 => .object "TowerService$Timetable"
  | 10 => .object "TowerService$Swap"
  | _ => .object "TowerService$Chain"
abbrev wsX90 : List Cond := u_ws RX9 TX9 12
theorem nmX9 : ∀ a, a < 12 → ∀ b, b < 12 → a ≠ b → (TX9 a).2.1 ≠ (TX9 b).2.1 := by decide +kernel
theorem tyX9_ok : ∀ k, k < 12 → parseFieldDescriptor (TX9 k).2.2.1 = some (tyX9 k) := by decide +kernel
abbrev cX9_init : ByteArray := prog_1_method_1_code
def yX9_init : MethodName := ⟨RX9, "<init>", "()V"⟩
abbrev cX9_write : ByteArray := prog_1_method_2_code
def yX9_write : MethodName := ⟨RX9, "write", "(I)I"⟩
abbrev cX9_wipe : ByteArray := prog_1_method_3_code
def yX9_wipe : MethodName := ⟨RX9, "wipe", "()I"⟩
abbrev cX9_fault : ByteArray := prog_1_method_4_code
def yX9_fault : MethodName := ⟨RX9, "fault", "()I"⟩
abbrev cX9_lay : ByteArray := prog_1_method_5_code
def yX9_lay : MethodName := ⟨RX9, "lay", "()I"⟩
abbrev cX9_person : ByteArray := prog_1_method_6_code
def yX9_person : MethodName := ⟨RX9, "person", "(II)I"⟩
abbrev cX9_fear : ByteArray := prog_1_method_7_code
def yX9_fear : MethodName := ⟨RX9, "fear", "(II)I"⟩
abbrev cX9_work : ByteArray := prog_1_method_8_code
def yX9_work : MethodName := ⟨RX9, "work", "(II)I"⟩
abbrev cX9_pass : ByteArray := prog_1_method_9_code
def yX9_pass : MethodName := ⟨RX9, "pass", "(I)I"⟩
abbrev cX9_promote : ByteArray := prog_1_method_10_code
def yX9_promote : MethodName := ⟨RX9, "promote", "(I)I"⟩
abbrev cX9_hoist : ByteArray := prog_1_method_11_code
def yX9_hoist : MethodName := ⟨RX9, "hoist", "(I)I"⟩
abbrev cX9_call : ByteArray := prog_1_method_12_code
def yX9_call : MethodName := ⟨RX9, "call", "(I)I"⟩
abbrev cX9_undo : ByteArray := prog_1_method_13_code
def yX9_undo : MethodName := ⟨RX9, "undo", "()I"⟩
abbrev cX9_behind : ByteArray := prog_1_method_14_code
def yX9_behind : MethodName := ⟨RX9, "behind", "(III)I"⟩
abbrev cX9_lowest : ByteArray := prog_1_method_15_code
def yX9_lowest : MethodName := ⟨RX9, "lowest", "(I)I"⟩
abbrev cX9_posting : ByteArray := prog_1_method_16_code
def yX9_posting : MethodName := ⟨RX9, "posting", "(I)I"⟩
abbrev cX9_timetable : ByteArray := prog_1_method_17_code
def yX9_timetable : MethodName := ⟨RX9, "timetable", "(II)I"⟩
abbrev cX9_swap : ByteArray := prog_1_method_18_code
def yX9_swap : MethodName := ⟨RX9, "swap", "(I)I"⟩
abbrev cX9_can : ByteArray := prog_1_method_19_code
def yX9_can : MethodName := ⟨RX9, "can", "(III)I"⟩
abbrev cX9_seen : ByteArray := prog_1_method_20_code
def yX9_seen : MethodName := ⟨RX9, "seen", "(III)I"⟩
abbrev cX9_forget : ByteArray := prog_1_method_21_code
def yX9_forget : MethodName := ⟨RX9, "forget", "()I"⟩
abbrev cX9_nerves : ByteArray := prog_1_method_22_code
def yX9_nerves : MethodName := ⟨RX9, "nerves", "(II)I"⟩
abbrev cX9_kinds : ByteArray := prog_1_method_23_code
def yX9_kinds : MethodName := ⟨RX9, "kinds", "(I)I"⟩
abbrev cX9_likely : ByteArray := prog_1_method_24_code
def yX9_likely : MethodName := ⟨RX9, "likely", "(III)I"⟩
abbrev cX9_decade : ByteArray := prog_1_method_25_code
def yX9_decade : MethodName := ⟨RX9, "decade", "(III)I"⟩
abbrev cX9_keep : ByteArray := prog_1_method_26_code
def yX9_keep : MethodName := ⟨RX9, "keep", "()I"⟩
abbrev cX9_back : ByteArray := prog_1_method_27_code
def yX9_back : MethodName := ⟨RX9, "back", "()I"⟩
abbrev cX9_count : ByteArray := prog_1_method_28_code
def yX9_count : MethodName := ⟨RX9, "count", "(I)I"⟩
abbrev cX9_isPerson : ByteArray := prog_1_method_29_code
def yX9_isPerson : MethodName := ⟨RX9, "isPerson", "(I)Z"⟩
abbrev cX9_isStep : ByteArray := prog_1_method_30_code
def yX9_isStep : MethodName := ⟨RX9, "isStep", "(I)Z"⟩
abbrev cX9_takeDraft : ByteArray := prog_1_method_31_code
def yX9_takeDraft : MethodName := ⟨RX9, "takeDraft", "()V"⟩
abbrev cX9_doneIfTheseFall : ByteArray := prog_1_method_32_code
def yX9_doneIfTheseFall : MethodName := ⟨RX9, "doneIfTheseFall", "(I)I"⟩
abbrev cX9_waysOfTen : ByteArray := prog_1_method_33_code
def yX9_waysOfTen : MethodName := ⟨RX9, "waysOfTen", "(III)I"⟩
abbrev cX9_power : ByteArray := prog_1_method_34_code
def yX9_power : MethodName := ⟨RX9, "power", "(II)I"⟩
abbrev cX9_commonDivisor : ByteArray := prog_1_method_35_code
def yX9_commonDivisor : MethodName := ⟨RX9, "commonDivisor", "(II)I"⟩
abbrev cX9_drawOf : ByteArray := prog_1_method_36_code
def yX9_drawOf : MethodName := ⟨RX9, "drawOf", "(II)I"⟩
abbrev cX9_within : ByteArray := prog_1_method_37_code
def yX9_within : MethodName := ⟨RX9, "within", "(III)Z"⟩
abbrev cX9_asNumber : ByteArray := prog_1_method_38_code
def yX9_asNumber : MethodName := ⟨RX9, "asNumber", "(Z)I"⟩
abbrev cX9_hasBit : ByteArray := prog_1_method_39_code
def yX9_hasBit : MethodName := ⟨RX9, "hasBit", "(II)Z"⟩
abbrev cX9_towersOf : ByteArray := prog_1_method_40_code
def yX9_towersOf : MethodName := ⟨RX9, "towersOf", "(LTowerService$Plan;I)[LTowerService$Tower;"⟩
def RX10 : String := "TowerServiceModel"
def TX10 : u_T := fun k => match k with
  | 0 => ("TowerServiceModel", "height", "I", false)
  | 1 => ("TowerServiceModel", "persons", "I", false)
  | 2 => ("TowerServiceModel", "kinds", "[I", true)
  | 3 => ("TowerServiceModel", "works", "I", false)
  | 4 => ("TowerServiceModel", "work", "[I", true)
  | 5 => ("TowerServiceModel", "st", "[I", true)
  | 6 => ("TowerServiceModel", "acts", "I", false)
  | 7 => ("TowerServiceModel", "was", "[I", true)
  | 8 => ("TowerServiceModel", "keeps", "I", false)
  | 9 => ("TowerServiceModel", "kept", "[I", true)
  | 10 => ("TowerServiceModel", "sees", "I", false)
  | 11 => ("TowerServiceModel", "seen", "[I", true)
  | 12 => ("TowerServiceModel", "text", "[I", true)
  | 13 => ("TowerServiceModel", "texted", "I", false)
  | 14 => ("TowerServiceModel", "at", "I", false)
  | 15 => ("TowerServiceModel", "told", "[I", true)
  | 16 => ("TowerServiceModel", "readHeight", "I", false)
  | 17 => ("TowerServiceModel", "readPersons", "I", false)
  | 18 => ("TowerServiceModel", "readKind", "[I", true)
  | 19 => ("TowerServiceModel", "read", "[I", true)
  | 20 => ("TowerServiceModel", "readWorks", "I", false)
  | 21 => ("TowerServiceModel", "readWork", "[I", true)
  | 22 => ("TowerServiceModel", "now", "[I", true)
  | 23 => ("TowerServiceModel", "best", "[I", true)
  | _ => ("TowerServiceModel", "by", "[I", true)
def tyX10 : Nat → FieldType := fun k => match k with
  | 0 => .int
  | 1 => .int
  | 2 => .array .int
  | 3 => .int
  | 4 => .array .int
  | 5 => .array .int
  | 6 => .int
  | 7 => .array .int
  | 8 => .int
  | 9 => .array .int
  | 10 => .int
  | 11 => .array .int
  | 12 => .array .int
  | 13 => .int
  | 14 => .int
  | 15 => .array .int
  | 16 => .int
  | 17 => .int
  | 18 => .array .int
  | 19 => .array .int
  | 20 => .int
  | 21 => .array .int
  | 22 => .array .int
  | 23 => .array .int
  | _ => .array .int
abbrev wsX100 : List Cond := u_ws RX10 TX10 25
theorem nmX10 : ∀ a, a < 25 → ∀ b, b < 25 → a ≠ b → (TX10 a).2.1 ≠ (TX10 b).2.1 := by decide +kernel
theorem tyX10_ok : ∀ k, k < 25 → parseFieldDescriptor (TX10 k).2.2.1 = some (tyX10 k) := by decide +kernel
abbrev cX10_init : ByteArray := prog_12_method_1_code
def yX10_init : MethodName := ⟨RX10, "<init>", "()V"⟩
abbrev cX10_tellsPerson : ByteArray := prog_12_method_3_code
def yX10_tellsPerson : MethodName := ⟨RX10, "tellsPerson", "(IIII)V"⟩
abbrev cX10_tellsWork : ByteArray := prog_12_method_4_code
def yX10_tellsWork : MethodName := ⟨RX10, "tellsWork", "(II)V"⟩
abbrev cX10_in : ByteArray := prog_12_method_5_code
def yX10_in : MethodName := ⟨RX10, "in", "(III)Z"⟩
abbrev cX10_has : ByteArray := prog_12_method_6_code
def yX10_has : MethodName := ⟨RX10, "has", "(II)Z"⟩
abbrev cX10_bits : ByteArray := prog_12_method_7_code
def yX10_bits : MethodName := ⟨RX10, "bits", "(I)I"⟩
abbrev cX10_isPerson : ByteArray := prog_12_method_8_code
def yX10_isPerson : MethodName := ⟨RX10, "isPerson", "(I)Z"⟩
abbrev cX10_isStep : ByteArray := prog_12_method_9_code
def yX10_isStep : MethodName := ⟨RX10, "isStep", "(I)Z"⟩
abbrev cX10_write : ByteArray := prog_12_method_10_code
def yX10_write : MethodName := ⟨RX10, "write", "(I)I"⟩
abbrev cX10_wipe : ByteArray := prog_12_method_11_code
def yX10_wipe : MethodName := ⟨RX10, "wipe", "()I"⟩
abbrev cX10_letterAt : ByteArray := prog_12_method_12_code
def yX10_letterAt : MethodName := ⟨RX10, "letterAt", "(I)I"⟩
abbrev cX10_isFigure : ByteArray := prog_12_method_13_code
def yX10_isFigure : MethodName := ⟨RX10, "isFigure", "(I)Z"⟩
abbrev cX10_readNumbers : ByteArray := prog_12_method_14_code
def yX10_readNumbers : MethodName := ⟨RX10, "readNumbers", "(I)Z"⟩
abbrev cX10_isTold : ByteArray := prog_12_method_15_code
def yX10_isTold : MethodName := ⟨RX10, "isTold", "(III)Z"⟩
abbrev cX10_clearTold : ByteArray := prog_12_method_16_code
def yX10_clearTold : MethodName := ⟨RX10, "clearTold", "()V"⟩
abbrev cX10_readHeightOf : ByteArray := prog_12_method_17_code
def yX10_readHeightOf : MethodName := ⟨RX10, "readHeightOf", "()Z"⟩
abbrev cX10_readPersonItem : ByteArray := prog_12_method_18_code
def yX10_readPersonItem : MethodName := ⟨RX10, "readPersonItem", "()Z"⟩
abbrev cX10_readWorkItem : ByteArray := prog_12_method_19_code
def yX10_readWorkItem : MethodName := ⟨RX10, "readWorkItem", "()Z"⟩
abbrev cX10_readItem : ByteArray := prog_12_method_20_code
def yX10_readItem : MethodName := ⟨RX10, "readItem", "()Z"⟩
abbrev cX10_fault : ByteArray := prog_12_method_21_code
def yX10_fault : MethodName := ⟨RX10, "fault", "()I"⟩
abbrev cX10_lay : ByteArray := prog_12_method_22_code
def yX10_lay : MethodName := ⟨RX10, "lay", "()I"⟩
abbrev cX10_copies : ByteArray := prog_12_method_23_code
def yX10_copies : MethodName := ⟨RX10, "copies", "([II[III)V"⟩
abbrev cX10_settles : ByteArray := prog_12_method_24_code
def yX10_settles : MethodName := ⟨RX10, "settles", "()V"⟩
abbrev cX10_asItIs : ByteArray := prog_12_method_25_code
def yX10_asItIs : MethodName := ⟨RX10, "asItIs", "()V"⟩
abbrev cX10_fearAs : ByteArray := prog_12_method_26_code
def yX10_fearAs : MethodName := ⟨RX10, "fearAs", "(III)I"⟩
abbrev cX10_fearOf : ByteArray := prog_12_method_27_code
def yX10_fearOf : MethodName := ⟨RX10, "fearOf", "(I)I"⟩
abbrev cX10_frozen : ByteArray := prog_12_method_28_code
def yX10_frozen : MethodName := ⟨RX10, "frozen", "()I"⟩
abbrev cX10_isDone : ByteArray := prog_12_method_29_code
def yX10_isDone : MethodName := ⟨RX10, "isDone", "(II)Z"⟩
abbrev cX10_done : ByteArray := prog_12_method_30_code
def yX10_done : MethodName := ⟨RX10, "done", "()I"⟩
abbrev cX10_goesBy : ByteArray := prog_12_method_31_code
def yX10_goesBy : MethodName := ⟨RX10, "goesBy", "()V"⟩
abbrev cX10_canPromote : ByteArray := prog_12_method_32_code
def yX10_canPromote : MethodName := ⟨RX10, "canPromote", "(I)Z"⟩
abbrev cX10_canHoist : ByteArray := prog_12_method_33_code
def yX10_canHoist : MethodName := ⟨RX10, "canHoist", "(I)Z"⟩
abbrev cX10_canCall : ByteArray := prog_12_method_34_code
def yX10_canCall : MethodName := ⟨RX10, "canCall", "(I)Z"⟩
abbrev cX10_calls : ByteArray := prog_12_method_35_code
def yX10_calls : MethodName := ⟨RX10, "calls", "(I)V"⟩
abbrev cX10_person : ByteArray := prog_12_method_36_code
def yX10_person : MethodName := ⟨RX10, "person", "(II)I"⟩
abbrev cX10_fear : ByteArray := prog_12_method_37_code
def yX10_fear : MethodName := ⟨RX10, "fear", "(II)I"⟩
abbrev cX10_work : ByteArray := prog_12_method_38_code
def yX10_work : MethodName := ⟨RX10, "work", "(II)I"⟩
abbrev cX10_becomes : ByteArray := prog_12_method_39_code
def yX10_becomes : MethodName := ⟨RX10, "becomes", "()V"⟩
abbrev cX10_pass : ByteArray := prog_12_method_40_code
def yX10_pass : MethodName := ⟨RX10, "pass", "(I)I"⟩
abbrev cX10_promote : ByteArray := prog_12_method_41_code
def yX10_promote : MethodName := ⟨RX10, "promote", "(I)I"⟩
abbrev cX10_hoist : ByteArray := prog_12_method_42_code
def yX10_hoist : MethodName := ⟨RX10, "hoist", "(I)I"⟩
abbrev cX10_call : ByteArray := prog_12_method_43_code
def yX10_call : MethodName := ⟨RX10, "call", "(I)I"⟩
abbrev cX10_undo : ByteArray := prog_12_method_44_code
def yX10_undo : MethodName := ⟨RX10, "undo", "()I"⟩
abbrev cX10_behind : ByteArray := prog_12_method_45_code
def yX10_behind : MethodName := ⟨RX10, "behind", "(III)I"⟩
abbrev cX10_lowest : ByteArray := prog_12_method_46_code
def yX10_lowest : MethodName := ⟨RX10, "lowest", "(I)I"⟩
abbrev cX10_mayBe : ByteArray := prog_12_method_47_code
def yX10_mayBe : MethodName := ⟨RX10, "mayBe", "(I)I"⟩
abbrev cX10_putsNext : ByteArray := prog_12_method_48_code
def yX10_putsNext : MethodName := ⟨RX10, "putsNext", "()Z"⟩
abbrev cX10_leastOf : ByteArray := prog_12_method_49_code
def yX10_leastOf : MethodName := ⟨RX10, "leastOf", "(I)I"⟩
abbrev cX10_posting : ByteArray := prog_12_method_50_code
def yX10_posting : MethodName := ⟨RX10, "posting", "(I)I"⟩
abbrev cX10_sevens : ByteArray := prog_12_method_51_code
def yX10_sevens : MethodName := ⟨RX10, "sevens", "(I)I"⟩
abbrev cX10_doneBy : ByteArray := prog_12_method_52_code
def yX10_doneBy : MethodName := ⟨RX10, "doneBy", "(II)I"⟩
abbrev cX10_timetable : ByteArray := prog_12_method_53_code
def yX10_timetable : MethodName := ⟨RX10, "timetable", "(II)I"⟩
abbrev cX10_swap : ByteArray := prog_12_method_54_code
def yX10_swap : MethodName := ⟨RX10, "swap", "(I)I"⟩
abbrev cX10_can : ByteArray := prog_12_method_55_code
def yX10_can : MethodName := ⟨RX10, "can", "(III)I"⟩
abbrev cX10_seen : ByteArray := prog_12_method_56_code
def yX10_seen : MethodName := ⟨RX10, "seen", "(III)I"⟩
abbrev cX10_forget : ByteArray := prog_12_method_57_code
def yX10_forget : MethodName := ⟨RX10, "forget", "()I"⟩
abbrev cX10_isSo : ByteArray := prog_12_method_58_code
def yX10_isSo : MethodName := ⟨RX10, "isSo", "(III)Z"⟩
abbrev cX10_nerves : ByteArray := prog_12_method_59_code
def yX10_nerves : MethodName := ⟨RX10, "nerves", "(II)I"⟩
abbrev cX10_kinds : ByteArray := prog_12_method_60_code
def yX10_kinds : MethodName := ⟨RX10, "kinds", "(I)I"⟩
abbrev cX10_least : ByteArray := prog_12_method_61_code
def yX10_least : MethodName := ⟨RX10, "least", "(III)I"⟩
abbrev cX10_likely : ByteArray := prog_12_method_62_code
def yX10_likely : MethodName := ⟨RX10, "likely", "(III)I"⟩
abbrev cX10_turns : ByteArray := prog_12_method_63_code
def yX10_turns : MethodName := ⟨RX10, "turns", "(I)V"⟩
abbrev cX10_decade : ByteArray := prog_12_method_64_code
def yX10_decade : MethodName := ⟨RX10, "decade", "(III)I"⟩
abbrev cX10_keep : ByteArray := prog_12_method_65_code
def yX10_keep : MethodName := ⟨RX10, "keep", "()I"⟩
abbrev cX10_back : ByteArray := prog_12_method_66_code
def yX10_back : MethodName := ⟨RX10, "back", "()I"⟩
abbrev cX10_count : ByteArray := prog_12_method_67_code
def yX10_count : MethodName := ⟨RX10, "count", "(I)I"⟩
def RJ6 : String := "java/lang/Integer"
def TJ6 : u_T := fun k => match k with
  | _ => ("", "", "", false)
def tyJ6 : Nat → FieldType := fun k => match k with
  | _ => .int
abbrev wsJ60 : List Cond := u_ws RJ6 TJ6 0
theorem nmJ6 : ∀ a, a < 0 → ∀ b, b < 0 → a ≠ b → (TJ6 a).2.1 ≠ (TJ6 b).2.1 := by decide +kernel
theorem tyJ6_ok : ∀ k, k < 0 → parseFieldDescriptor (TJ6 k).2.2.1 = some (tyJ6 k) := by decide +kernel
abbrev cJ6_bitCount_0f7a4 : ByteArray := prog_13_method_49_code
def yJ6_bitCount_0f7a4 : MethodName := ⟨RJ6, "bitCount", "(I)I"⟩
def RJ9 : String := "java/lang/Math"
def TJ9 : u_T := fun k => match k with
  | _ => ("", "", "", false)
def tyJ9 : Nat → FieldType := fun k => match k with
  | _ => .int
abbrev wsJ90 : List Cond := u_ws RJ9 TJ9 0
theorem nmJ9 : ∀ a, a < 0 → ∀ b, b < 0 → a ≠ b → (TJ9 a).2.1 ≠ (TJ9 b).2.1 := by decide +kernel
theorem tyJ9_ok : ∀ k, k < 0 → parseFieldDescriptor (TJ9 k).2.2.1 = some (tyJ9 k) := by decide +kernel
abbrev cJ9_abs_0f7a4 : ByteArray := prog_14_method_59_code
def yJ9_abs_0f7a4 : MethodName := ⟨RJ9, "abs", "(I)I"⟩
abbrev cJ9_max_7cf53 : ByteArray := prog_14_method_65_code
def yJ9_max_7cf53 : MethodName := ⟨RJ9, "max", "(II)I"⟩
abbrev cJ9_min_7cf53 : ByteArray := prog_14_method_69_code
def yJ9_min_7cf53 : MethodName := ⟨RJ9, "min", "(II)I"⟩
def RJ0 : String := "java/lang/String"
def TJ0 : u_T := fun k => match k with
  | _ => ("", "", "", false)
def tyJ0 : Nat → FieldType := fun k => match k with
  | _ => .int
abbrev wsJ00 : List Cond := u_ws RJ0 TJ0 0
theorem nmJ0 : ∀ a, a < 0 → ∀ b, b < 0 → a ≠ b → (TJ0 a).2.1 ≠ (TJ0 b).2.1 := by decide +kernel
theorem tyJ0_ok : ∀ k, k < 0 → parseFieldDescriptor (TJ0 k).2.2.1 = some (tyJ0 k) := by decide +kernel
abbrev cJ0_length_8abf5 : ByteArray := prog_15_method_54_code
def yJ0_length_8abf5 : MethodName := ⟨RJ0, "length", "()I"⟩
abbrev cJ0_charAt_5068e : ByteArray := prog_15_method_56_code
def yJ0_charAt_5068e : MethodName := ⟨RJ0, "charAt", "(I)C"⟩
abbrev cJ0_coder_7d493 : ByteArray := prog_15_method_152_code
def yJ0_coder_7d493 : MethodName := ⟨RJ0, "coder", "()B"⟩
abbrev cJ0_isLatin1_aae02 : ByteArray := prog_15_method_154_code
def yJ0_isLatin1_aae02 : MethodName := ⟨RJ0, "isLatin1", "()Z"⟩
abbrev cJ0_checkIndex_df160 : ByteArray := prog_15_method_155_code
def yJ0_checkIndex_df160 : MethodName := ⟨RJ0, "checkIndex", "(II)V"⟩
def RJ1 : String := "java/lang/StringLatin1"
def TJ1 : u_T := fun k => match k with
  | _ => ("", "", "", false)
def tyJ1 : Nat → FieldType := fun k => match k with
  | _ => .int
abbrev wsJ10 : List Cond := u_ws RJ1 TJ1 0
theorem nmJ1 : ∀ a, a < 0 → ∀ b, b < 0 → a ≠ b → (TJ1 a).2.1 ≠ (TJ1 b).2.1 := by decide +kernel
theorem tyJ1_ok : ∀ k, k < 0 → parseFieldDescriptor (TJ1 k).2.2.1 = some (tyJ1 k) := by decide +kernel
abbrev cJ1_charAt_3b067 : ByteArray := prog_16_method_2_code
def yJ1_charAt_3b067 : MethodName := ⟨RJ1, "charAt", "([BI)C"⟩
def RJ2 : String := "java/lang/StringUTF16"
def TJ2 : u_T := fun k => match k with
  | _ => ("", "", "", false)
def tyJ2 : Nat → FieldType := fun k => match k with
  | _ => .int
abbrev wsJ20 : List Cond := u_ws RJ2 TJ2 0
theorem nmJ2 : ∀ a, a < 0 → ∀ b, b < 0 → a ≠ b → (TJ2 a).2.1 ≠ (TJ2 b).2.1 := by decide +kernel
theorem tyJ2_ok : ∀ k, k < 0 → parseFieldDescriptor (TJ2 k).2.2.1 = some (tyJ2 k) := by decide +kernel
abbrev cJ2_getChar_3b067 : ByteArray := prog_17_method_5_code
def yJ2_getChar_3b067 : MethodName := ⟨RJ2, "getChar", "([BI)C"⟩
abbrev cJ2_length_9d52b : ByteArray := prog_17_method_6_code
def yJ2_length_9d52b : MethodName := ⟨RJ2, "length", "([B)I"⟩
abbrev cJ2_charAt_3b067 : ByteArray := prog_17_method_83_code
def yJ2_charAt_3b067 : MethodName := ⟨RJ2, "charAt", "([BI)C"⟩
abbrev cJ2_checkIndex_2214a : ByteArray := prog_17_method_91_code
def yJ2_checkIndex_2214a : MethodName := ⟨RJ2, "checkIndex", "(I[B)V"⟩
def RJ10 : String := "java/lang/System"
def TJ10 : u_T := fun k => match k with
  | _ => ("", "", "", false)
def tyJ10 : Nat → FieldType := fun k => match k with
  | _ => .int
abbrev wsJ100 : List Cond := u_ws RJ10 TJ10 0
theorem nmJ10 : ∀ a, a < 0 → ∀ b, b < 0 → a ≠ b → (TJ10 a).2.1 ≠ (TJ10 b).2.1 := by decide +kernel
theorem tyJ10_ok : ∀ k, k < 0 → parseFieldDescriptor (TJ10 k).2.2.1 = some (tyJ10 k) := by decide +kernel
def RJ3 : String := "jdk/internal/util/Preconditions"
def TJ3 : u_T := fun k => match k with
  | _ => ("", "", "", false)
def tyJ3 : Nat → FieldType := fun k => match k with
  | _ => .int
abbrev wsJ30 : List Cond := u_ws RJ3 TJ3 0
theorem nmJ3 : ∀ a, a < 0 → ∀ b, b < 0 → a ≠ b → (TJ3 a).2.1 ≠ (TJ3 b).2.1 := by decide +kernel
theorem tyJ3_ok : ∀ k, k < 0 → parseFieldDescriptor (TJ3 k).2.2.1 = some (tyJ3 k) := by decide +kernel
abbrev cJ3_checkIndex_8e157 : ByteArray := prog_19_method_11_code
def yJ3_checkIndex_8e157 : MethodName := ⟨RJ3, "checkIndex", "(IILjava/util/function/BiFunction;)I"⟩
def RL : String := "TowerServiceLaw"
abbrev cL_law : ByteArray := code
def yL_law : MethodName := ⟨RL, "law", "([I)Z"⟩
abbrev vwCl : List vw_C := [(RX0, TX0, 3), (RX1, TX1, 3), (RX2, TX2, 6), (RX3, TX3, 7), (RX4, TX4, 4), (RX5, TX5, 3), (RX6, TX6, 4), (RX7, TX7, 5), (RX8, TX8, 7), (RX9, TX9, 12), (RX10, TX10, 25)]
end
section
theorem dX0_init_0 : decode cX0_init 0 = .ok (.aload_n 0, 1) := by decide +kernel
theorem dX0_init_1 : decode cX0_init 1 = .ok (.invokespecial 3, 3) := by decide +kernel
theorem dX0_init_4 : decode cX0_init 4 = .ok (.aload_n 0, 1) := by decide +kernel
theorem dX0_init_5 : decode cX0_init 5 = .ok (.bipush 6, 2) := by decide +kernel
theorem dX0_init_7 : decode cX0_init 7 = .ok (.newarray .int, 2) := by decide +kernel
theorem dX0_init_9 : decode cX0_init 9 = .ok (.putfield 9, 3) := by decide +kernel
theorem dX0_init_12 : decode cX0_init 12 = .ok (.return_, 1) := by decide +kernel
theorem dX0_search_0 : decode cX0_search 0 = .ok (.aload_n 0, 1) := by decide +kernel
theorem dX0_search_1 : decode cX0_search 1 = .ok (.aload_n 1, 1) := by decide +kernel
theorem dX0_search_2 : decode cX0_search 2 = .ok (.iload_n 3, 1) := by decide +kernel
theorem dX0_search_3 : decode cX0_search 3 = .ok (.invokevirtual 15, 3) := by decide +kernel
theorem dX0_search_6 : decode cX0_search 6 = .ok (.aload_n 0, 1) := by decide +kernel
theorem dX0_search_7 : decode cX0_search 7 = .ok (.iconst (-1), 1) := by decide +kernel
theorem dX0_search_8 : decode cX0_search 8 = .ok (.putfield 19, 3) := by decide +kernel
theorem dX0_search_11 : decode cX0_search 11 = .ok (.aload_n 0, 1) := by decide +kernel
theorem dX0_search_12 : decode cX0_search 12 = .ok (.iconst 0, 1) := by decide +kernel
theorem dX0_search_13 : decode cX0_search 13 = .ok (.putfield 23, 3) := by decide +kernel
theorem dX0_search_16 : decode cX0_search 16 = .ok (.iconst 0, 1) := by decide +kernel
theorem dX0_search_17 : decode cX0_search 17 = .ok (.istore 4, 2) := by decide +kernel
theorem dX0_search_19 : decode cX0_search 19 = .ok (.iload 4, 2) := by decide +kernel
theorem dX0_search_21 : decode cX0_search 21 = .ok (.aload_n 1, 1) := by decide +kernel
theorem dX0_search_22 : decode cX0_search 22 = .ok (.getfield 26, 3) := by decide +kernel
theorem dX0_search_25 : decode cX0_search 25 = .ok (.getfield 32, 3) := by decide +kernel
theorem dX0_search_28 : decode cX0_search 28 = .ok (.if_icmp .ge 68, 3) := by decide +kernel
theorem dX0_search_31 : decode cX0_search 31 = .ok (.aload_n 0, 1) := by decide +kernel
theorem dX0_search_32 : decode cX0_search 32 = .ok (.getfield 9, 3) := by decide +kernel
theorem dX0_search_35 : decode cX0_search 35 = .ok (.iload 4, 2) := by decide +kernel
theorem dX0_search_37 : decode cX0_search 37 = .ok (.iaload, 1) := by decide +kernel
theorem dX0_search_38 : decode cX0_search 38 = .ok (.ifCond .le 52, 3) := by decide +kernel
theorem dX0_search_41 : decode cX0_search 41 = .ok (.aload_n 1, 1) := by decide +kernel
theorem dX0_search_42 : decode cX0_search 42 = .ok (.getfield 36, 3) := by decide +kernel
theorem dX0_search_45 : decode cX0_search 45 = .ok (.iload 4, 2) := by decide +kernel
theorem dX0_search_47 : decode cX0_search 47 = .ok (.iaload, 1) := by decide +kernel
theorem dX0_search_48 : decode cX0_search 48 = .ok (.iload_n 2, 1) := by decide +kernel
theorem dX0_search_49 : decode cX0_search 49 = .ok (.if_icmp .ne 41, 3) := by decide +kernel
theorem dX0_search_52 : decode cX0_search 52 = .ok (.aload_n 0, 1) := by decide +kernel
theorem dX0_search_53 : decode cX0_search 53 = .ok (.getfield 19, 3) := by decide +kernel
theorem dX0_search_56 : decode cX0_search 56 = .ok (.ifCond .lt 17, 3) := by decide +kernel
theorem dX0_search_59 : decode cX0_search 59 = .ok (.aload_n 0, 1) := by decide +kernel
theorem dX0_search_60 : decode cX0_search 60 = .ok (.getfield 9, 3) := by decide +kernel
theorem dX0_search_63 : decode cX0_search 63 = .ok (.iload 4, 2) := by decide +kernel
theorem dX0_search_65 : decode cX0_search 65 = .ok (.iaload, 1) := by decide +kernel
theorem dX0_search_66 : decode cX0_search 66 = .ok (.aload_n 0, 1) := by decide +kernel
theorem dX0_search_67 : decode cX0_search 67 = .ok (.getfield 23, 3) := by decide +kernel
theorem dX0_search_70 : decode cX0_search 70 = .ok (.if_icmp .ge 20, 3) := by decide +kernel
theorem dX0_search_73 : decode cX0_search 73 = .ok (.aload_n 0, 1) := by decide +kernel
theorem dX0_search_74 : decode cX0_search 74 = .ok (.iload 4, 2) := by decide +kernel
theorem dX0_search_76 : decode cX0_search 76 = .ok (.putfield 19, 3) := by decide +kernel
theorem dX0_search_79 : decode cX0_search 79 = .ok (.aload_n 0, 1) := by decide +kernel
theorem dX0_search_80 : decode cX0_search 80 = .ok (.aload_n 0, 1) := by decide +kernel
theorem dX0_search_81 : decode cX0_search 81 = .ok (.getfield 9, 3) := by decide +kernel
theorem dX0_search_84 : decode cX0_search 84 = .ok (.iload 4, 2) := by decide +kernel
theorem dX0_search_86 : decode cX0_search 86 = .ok (.iaload, 1) := by decide +kernel
theorem dX0_search_87 : decode cX0_search 87 = .ok (.putfield 23, 3) := by decide +kernel
theorem dX0_search_90 : decode cX0_search 90 = .ok (.iinc 4 1, 3) := by decide +kernel
theorem dX0_search_93 : decode cX0_search 93 = .ok (.goto (-74), 3) := by decide +kernel
theorem dX0_search_96 : decode cX0_search 96 = .ok (.return_, 1) := by decide +kernel
theorem dX0_countFrom_0 : decode cX0_countFrom 0 = .ok (.aload_n 1, 1) := by decide +kernel
theorem dX0_countFrom_1 : decode cX0_countFrom 1 = .ok (.invokevirtual 39, 3) := by decide +kernel
theorem dX0_countFrom_4 : decode cX0_countFrom 4 = .ok (.istore_n 3, 1) := by decide +kernel
theorem dX0_countFrom_5 : decode cX0_countFrom 5 = .ok (.iconst 0, 1) := by decide +kernel
theorem dX0_countFrom_6 : decode cX0_countFrom 6 = .ok (.istore 4, 2) := by decide +kernel
theorem dX0_countFrom_8 : decode cX0_countFrom 8 = .ok (.iload 4, 2) := by decide +kernel
theorem dX0_countFrom_10 : decode cX0_countFrom 10 = .ok (.aload_n 1, 1) := by decide +kernel
theorem dX0_countFrom_11 : decode cX0_countFrom 11 = .ok (.getfield 26, 3) := by decide +kernel
theorem dX0_countFrom_14 : decode cX0_countFrom 14 = .ok (.getfield 32, 3) := by decide +kernel
theorem dX0_countFrom_17 : decode cX0_countFrom 17 = .ok (.if_icmp .ge 41, 3) := by decide +kernel
theorem dX0_countFrom_20 : decode cX0_countFrom 20 = .ok (.aload_n 0, 1) := by decide +kernel
theorem dX0_countFrom_21 : decode cX0_countFrom 21 = .ok (.getfield 9, 3) := by decide +kernel
theorem dX0_countFrom_24 : decode cX0_countFrom 24 = .ok (.iload 4, 2) := by decide +kernel
theorem dX0_countFrom_26 : decode cX0_countFrom 26 = .ok (.iload_n 3, 1) := by decide +kernel
theorem dX0_countFrom_27 : decode cX0_countFrom 27 = .ok (.iload 4, 2) := by decide +kernel
theorem dX0_countFrom_29 : decode cX0_countFrom 29 = .ok (.invokestatic 43, 3) := by decide +kernel
theorem dX0_countFrom_32 : decode cX0_countFrom 32 = .ok (.ifCond .eq 18, 3) := by decide +kernel
theorem dX0_countFrom_35 : decode cX0_countFrom 35 = .ok (.aload_n 1, 1) := by decide +kernel
theorem dX0_countFrom_36 : decode cX0_countFrom 36 = .ok (.getfield 36, 3) := by decide +kernel
theorem dX0_countFrom_39 : decode cX0_countFrom 39 = .ok (.iload 4, 2) := by decide +kernel
theorem dX0_countFrom_41 : decode cX0_countFrom 41 = .ok (.iaload, 1) := by decide +kernel
theorem dX0_countFrom_42 : decode cX0_countFrom 42 = .ok (.iload_n 2, 1) := by decide +kernel
theorem dX0_countFrom_43 : decode cX0_countFrom 43 = .ok (.if_icmp .ne 7, 3) := by decide +kernel
theorem dX0_countFrom_46 : decode cX0_countFrom 46 = .ok (.iconst 1, 1) := by decide +kernel
theorem dX0_countFrom_47 : decode cX0_countFrom 47 = .ok (.goto 4, 3) := by decide +kernel
theorem dX0_countFrom_50 : decode cX0_countFrom 50 = .ok (.iconst 0, 1) := by decide +kernel
theorem dX0_countFrom_51 : decode cX0_countFrom 51 = .ok (.iastore, 1) := by decide +kernel
theorem dX0_countFrom_52 : decode cX0_countFrom 52 = .ok (.iinc 4 1, 3) := by decide +kernel
theorem dX0_countFrom_55 : decode cX0_countFrom 55 = .ok (.goto (-47), 3) := by decide +kernel
theorem dX0_countFrom_58 : decode cX0_countFrom 58 = .ok (.iconst 1, 1) := by decide +kernel
theorem dX0_countFrom_59 : decode cX0_countFrom 59 = .ok (.istore 4, 2) := by decide +kernel
theorem dX0_countFrom_61 : decode cX0_countFrom 61 = .ok (.iload 4, 2) := by decide +kernel
theorem dX0_countFrom_63 : decode cX0_countFrom 63 = .ok (.aload_n 1, 1) := by decide +kernel
theorem dX0_countFrom_64 : decode cX0_countFrom 64 = .ok (.getfield 26, 3) := by decide +kernel
theorem dX0_countFrom_67 : decode cX0_countFrom 67 = .ok (.getfield 32, 3) := by decide +kernel
theorem dX0_countFrom_70 : decode cX0_countFrom 70 = .ok (.if_icmp .ge 72, 3) := by decide +kernel
theorem dX0_countFrom_73 : decode cX0_countFrom 73 = .ok (.iconst 0, 1) := by decide +kernel
theorem dX0_countFrom_74 : decode cX0_countFrom 74 = .ok (.istore 5, 2) := by decide +kernel
theorem dX0_countFrom_76 : decode cX0_countFrom 76 = .ok (.iload 5, 2) := by decide +kernel
theorem dX0_countFrom_78 : decode cX0_countFrom 78 = .ok (.aload_n 1, 1) := by decide +kernel
theorem dX0_countFrom_79 : decode cX0_countFrom 79 = .ok (.getfield 26, 3) := by decide +kernel
theorem dX0_countFrom_82 : decode cX0_countFrom 82 = .ok (.getfield 32, 3) := by decide +kernel
theorem dX0_countFrom_85 : decode cX0_countFrom 85 = .ok (.if_icmp .ge 51, 3) := by decide +kernel
theorem dX0_countFrom_88 : decode cX0_countFrom 88 = .ok (.aload_n 0, 1) := by decide +kernel
theorem dX0_countFrom_89 : decode cX0_countFrom 89 = .ok (.getfield 9, 3) := by decide +kernel
theorem dX0_countFrom_92 : decode cX0_countFrom 92 = .ok (.iload 5, 2) := by decide +kernel
theorem dX0_countFrom_94 : decode cX0_countFrom 94 = .ok (.iaload, 1) := by decide +kernel
theorem dX0_countFrom_95 : decode cX0_countFrom 95 = .ok (.ifCond .ne 35, 3) := by decide +kernel
theorem dX0_countFrom_98 : decode cX0_countFrom 98 = .ok (.iload_n 3, 1) := by decide +kernel
theorem dX0_countFrom_99 : decode cX0_countFrom 99 = .ok (.iload 5, 2) := by decide +kernel
theorem dX0_countFrom_101 : decode cX0_countFrom 101 = .ok (.invokestatic 43, 3) := by decide +kernel
theorem dX0_countFrom_104 : decode cX0_countFrom 104 = .ok (.ifCond .eq 26, 3) := by decide +kernel
theorem dX0_countFrom_107 : decode cX0_countFrom 107 = .ok (.aload_n 0, 1) := by decide +kernel
theorem dX0_countFrom_108 : decode cX0_countFrom 108 = .ok (.aload_n 1, 1) := by decide +kernel
theorem dX0_countFrom_109 : decode cX0_countFrom 109 = .ok (.iload 5, 2) := by decide +kernel
theorem dX0_countFrom_111 : decode cX0_countFrom 111 = .ok (.iload 4, 2) := by decide +kernel
theorem dX0_countFrom_113 : decode cX0_countFrom 113 = .ok (.invokevirtual 47, 3) := by decide +kernel
theorem dX0_countFrom_116 : decode cX0_countFrom 116 = .ok (.ifCond .eq 14, 3) := by decide +kernel
theorem dX0_countFrom_119 : decode cX0_countFrom 119 = .ok (.aload_n 0, 1) := by decide +kernel
theorem dX0_countFrom_120 : decode cX0_countFrom 120 = .ok (.getfield 9, 3) := by decide +kernel
theorem dX0_countFrom_123 : decode cX0_countFrom 123 = .ok (.iload 5, 2) := by decide +kernel
theorem dX0_countFrom_125 : decode cX0_countFrom 125 = .ok (.iload 4, 2) := by decide +kernel
theorem dX0_countFrom_127 : decode cX0_countFrom 127 = .ok (.iconst 1, 1) := by decide +kernel
theorem dX0_countFrom_128 : decode cX0_countFrom 128 = .ok (.iadd, 1) := by decide +kernel
theorem dX0_countFrom_129 : decode cX0_countFrom 129 = .ok (.iastore, 1) := by decide +kernel
theorem dX0_countFrom_130 : decode cX0_countFrom 130 = .ok (.iinc 5 1, 3) := by decide +kernel
theorem dX0_countFrom_133 : decode cX0_countFrom 133 = .ok (.goto (-57), 3) := by decide +kernel
theorem dX0_countFrom_136 : decode cX0_countFrom 136 = .ok (.iinc 4 1, 3) := by decide +kernel
theorem dX0_countFrom_139 : decode cX0_countFrom 139 = .ok (.goto (-78), 3) := by decide +kernel
theorem dX0_countFrom_142 : decode cX0_countFrom 142 = .ok (.return_, 1) := by decide +kernel
theorem dX0_reaches_0 : decode cX0_reaches 0 = .ok (.iconst 0, 1) := by decide +kernel
theorem dX0_reaches_1 : decode cX0_reaches 1 = .ok (.istore 4, 2) := by decide +kernel
theorem dX0_reaches_3 : decode cX0_reaches 3 = .ok (.iload 4, 2) := by decide +kernel
theorem dX0_reaches_5 : decode cX0_reaches 5 = .ok (.aload_n 1, 1) := by decide +kernel
theorem dX0_reaches_6 : decode cX0_reaches 6 = .ok (.getfield 26, 3) := by decide +kernel
theorem dX0_reaches_9 : decode cX0_reaches 9 = .ok (.getfield 32, 3) := by decide +kernel
theorem dX0_reaches_12 : decode cX0_reaches 12 = .ok (.if_icmp .ge 43, 3) := by decide +kernel
theorem dX0_reaches_15 : decode cX0_reaches 15 = .ok (.aload_n 0, 1) := by decide +kernel
theorem dX0_reaches_16 : decode cX0_reaches 16 = .ok (.getfield 9, 3) := by decide +kernel
theorem dX0_reaches_19 : decode cX0_reaches 19 = .ok (.iload 4, 2) := by decide +kernel
theorem dX0_reaches_21 : decode cX0_reaches 21 = .ok (.iaload, 1) := by decide +kernel
theorem dX0_reaches_22 : decode cX0_reaches 22 = .ok (.iload_n 3, 1) := by decide +kernel
theorem dX0_reaches_23 : decode cX0_reaches 23 = .ok (.if_icmp .ne 26, 3) := by decide +kernel
theorem dX0_reaches_26 : decode cX0_reaches 26 = .ok (.aload_n 1, 1) := by decide +kernel
theorem dX0_reaches_27 : decode cX0_reaches 27 = .ok (.getfield 36, 3) := by decide +kernel
theorem dX0_reaches_30 : decode cX0_reaches 30 = .ok (.iload_n 2, 1) := by decide +kernel
theorem dX0_reaches_31 : decode cX0_reaches 31 = .ok (.iaload, 1) := by decide +kernel
theorem dX0_reaches_32 : decode cX0_reaches 32 = .ok (.aload_n 1, 1) := by decide +kernel
theorem dX0_reaches_33 : decode cX0_reaches 33 = .ok (.getfield 36, 3) := by decide +kernel
theorem dX0_reaches_36 : decode cX0_reaches 36 = .ok (.iload 4, 2) := by decide +kernel
theorem dX0_reaches_38 : decode cX0_reaches 38 = .ok (.iaload, 1) := by decide +kernel
theorem dX0_reaches_39 : decode cX0_reaches 39 = .ok (.isub, 1) := by decide +kernel
theorem dX0_reaches_40 : decode cX0_reaches 40 = .ok (.invokestatic 51, 3) := by decide +kernel
theorem dX0_reaches_43 : decode cX0_reaches 43 = .ok (.iconst 2, 1) := by decide +kernel
theorem dX0_reaches_44 : decode cX0_reaches 44 = .ok (.if_icmp .gt 5, 3) := by decide +kernel
theorem dX0_reaches_47 : decode cX0_reaches 47 = .ok (.iconst 1, 1) := by decide +kernel
theorem dX0_reaches_48 : decode cX0_reaches 48 = .ok (.ireturn, 1) := by decide +kernel
theorem dX0_reaches_49 : decode cX0_reaches 49 = .ok (.iinc 4 1, 3) := by decide +kernel
theorem dX0_reaches_52 : decode cX0_reaches 52 = .ok (.goto (-49), 3) := by decide +kernel
theorem dX0_reaches_55 : decode cX0_reaches 55 = .ok (.iconst 0, 1) := by decide +kernel
theorem dX0_reaches_56 : decode cX0_reaches 56 = .ok (.ireturn, 1) := by decide +kernel
theorem dX1_init_0 : decode cX1_init 0 = .ok (.aload_n 0, 1) := by decide +kernel
theorem dX1_init_1 : decode cX1_init 1 = .ok (.invokespecial 3, 3) := by decide +kernel
theorem dX1_init_4 : decode cX1_init 4 = .ok (.aload_n 0, 1) := by decide +kernel
theorem dX1_init_5 : decode cX1_init 5 = .ok (.aload_n 1, 1) := by decide +kernel
theorem dX1_init_6 : decode cX1_init 6 = .ok (.bipush 8, 2) := by decide +kernel
theorem dX1_init_8 : decode cX1_init 8 = .ok (.invokestatic 9, 3) := by decide +kernel
theorem dX1_init_11 : decode cX1_init 11 = .ok (.putfield 13, 3) := by decide +kernel
theorem dX1_init_14 : decode cX1_init 14 = .ok (.return_, 1) := by decide +kernel
theorem dX1_add_0 : decode cX1_add 0 = .ok (.aload_n 0, 1) := by decide +kernel
theorem dX1_add_1 : decode cX1_add 1 = .ok (.getfield 13, 3) := by decide +kernel
theorem dX1_add_4 : decode cX1_add 4 = .ok (.aload_n 0, 1) := by decide +kernel
theorem dX1_add_5 : decode cX1_add 5 = .ok (.getfield 19, 3) := by decide +kernel
theorem dX1_add_8 : decode cX1_add 8 = .ok (.aload_n 0, 1) := by decide +kernel
theorem dX1_add_9 : decode cX1_add 9 = .ok (.getfield 23, 3) := by decide +kernel
theorem dX1_add_12 : decode cX1_add 12 = .ok (.iadd, 1) := by decide +kernel
theorem dX1_add_13 : decode cX1_add 13 = .ok (.bipush 8, 2) := by decide +kernel
theorem dX1_add_15 : decode cX1_add 15 = .ok (.irem, 1) := by decide +kernel
theorem dX1_add_16 : decode cX1_add 16 = .ok (.aaload, 1) := by decide +kernel
theorem dX1_add_17 : decode cX1_add 17 = .ok (.aload_n 1, 1) := by decide +kernel
theorem dX1_add_18 : decode cX1_add 18 = .ok (.invokevirtual 26, 3) := by decide +kernel
theorem dX1_add_21 : decode cX1_add 21 = .ok (.aload_n 0, 1) := by decide +kernel
theorem dX1_add_22 : decode cX1_add 22 = .ok (.getfield 23, 3) := by decide +kernel
theorem dX1_add_25 : decode cX1_add 25 = .ok (.bipush 8, 2) := by decide +kernel
theorem dX1_add_27 : decode cX1_add 27 = .ok (.if_icmp .ge 16, 3) := by decide +kernel
theorem dX1_add_30 : decode cX1_add 30 = .ok (.aload_n 0, 1) := by decide +kernel
theorem dX1_add_31 : decode cX1_add 31 = .ok (.dup, 1) := by decide +kernel
theorem dX1_add_32 : decode cX1_add 32 = .ok (.getfield 23, 3) := by decide +kernel
theorem dX1_add_35 : decode cX1_add 35 = .ok (.iconst 1, 1) := by decide +kernel
theorem dX1_add_36 : decode cX1_add 36 = .ok (.iadd, 1) := by decide +kernel
theorem dX1_add_37 : decode cX1_add 37 = .ok (.putfield 23, 3) := by decide +kernel
theorem dX1_add_40 : decode cX1_add 40 = .ok (.goto 16, 3) := by decide +kernel
theorem dX1_add_43 : decode cX1_add 43 = .ok (.aload_n 0, 1) := by decide +kernel
theorem dX1_add_44 : decode cX1_add 44 = .ok (.aload_n 0, 1) := by decide +kernel
theorem dX1_add_45 : decode cX1_add 45 = .ok (.getfield 19, 3) := by decide +kernel
theorem dX1_add_48 : decode cX1_add 48 = .ok (.iconst 1, 1) := by decide +kernel
theorem dX1_add_49 : decode cX1_add 49 = .ok (.iadd, 1) := by decide +kernel
theorem dX1_add_50 : decode cX1_add 50 = .ok (.bipush 8, 2) := by decide +kernel
theorem dX1_add_52 : decode cX1_add 52 = .ok (.irem, 1) := by decide +kernel
theorem dX1_add_53 : decode cX1_add 53 = .ok (.putfield 19, 3) := by decide +kernel
theorem dX1_add_56 : decode cX1_add 56 = .ok (.return_, 1) := by decide +kernel
theorem dX1_takeLastInto_0 : decode cX1_takeLastInto 0 = .ok (.aload_n 0, 1) := by decide +kernel
theorem dX1_takeLastInto_1 : decode cX1_takeLastInto 1 = .ok (.getfield 23, 3) := by decide +kernel
theorem dX1_takeLastInto_4 : decode cX1_takeLastInto 4 = .ok (.ifCond .le 34, 3) := by decide +kernel
theorem dX1_takeLastInto_7 : decode cX1_takeLastInto 7 = .ok (.aload_n 0, 1) := by decide +kernel
theorem dX1_takeLastInto_8 : decode cX1_takeLastInto 8 = .ok (.dup, 1) := by decide +kernel
theorem dX1_takeLastInto_9 : decode cX1_takeLastInto 9 = .ok (.getfield 23, 3) := by decide +kernel
theorem dX1_takeLastInto_12 : decode cX1_takeLastInto 12 = .ok (.iconst 1, 1) := by decide +kernel
theorem dX1_takeLastInto_13 : decode cX1_takeLastInto 13 = .ok (.isub, 1) := by decide +kernel
theorem dX1_takeLastInto_14 : decode cX1_takeLastInto 14 = .ok (.putfield 23, 3) := by decide +kernel
theorem dX1_takeLastInto_17 : decode cX1_takeLastInto 17 = .ok (.aload_n 1, 1) := by decide +kernel
theorem dX1_takeLastInto_18 : decode cX1_takeLastInto 18 = .ok (.aload_n 0, 1) := by decide +kernel
theorem dX1_takeLastInto_19 : decode cX1_takeLastInto 19 = .ok (.getfield 13, 3) := by decide +kernel
theorem dX1_takeLastInto_22 : decode cX1_takeLastInto 22 = .ok (.aload_n 0, 1) := by decide +kernel
theorem dX1_takeLastInto_23 : decode cX1_takeLastInto 23 = .ok (.getfield 19, 3) := by decide +kernel
theorem dX1_takeLastInto_26 : decode cX1_takeLastInto 26 = .ok (.aload_n 0, 1) := by decide +kernel
theorem dX1_takeLastInto_27 : decode cX1_takeLastInto 27 = .ok (.getfield 23, 3) := by decide +kernel
theorem dX1_takeLastInto_30 : decode cX1_takeLastInto 30 = .ok (.iadd, 1) := by decide +kernel
theorem dX1_takeLastInto_31 : decode cX1_takeLastInto 31 = .ok (.bipush 8, 2) := by decide +kernel
theorem dX1_takeLastInto_33 : decode cX1_takeLastInto 33 = .ok (.irem, 1) := by decide +kernel
theorem dX1_takeLastInto_34 : decode cX1_takeLastInto 34 = .ok (.aaload, 1) := by decide +kernel
theorem dX1_takeLastInto_35 : decode cX1_takeLastInto 35 = .ok (.invokevirtual 26, 3) := by decide +kernel
theorem dX1_takeLastInto_38 : decode cX1_takeLastInto 38 = .ok (.return_, 1) := by decide +kernel
theorem dX1_clear_0 : decode cX1_clear 0 = .ok (.aload_n 0, 1) := by decide +kernel
theorem dX1_clear_1 : decode cX1_clear 1 = .ok (.iconst 0, 1) := by decide +kernel
theorem dX1_clear_2 : decode cX1_clear 2 = .ok (.putfield 23, 3) := by decide +kernel
theorem dX1_clear_5 : decode cX1_clear 5 = .ok (.return_, 1) := by decide +kernel
theorem dX2_init_0 : decode cX2_init 0 = .ok (.aload_n 0, 1) := by decide +kernel
theorem dX2_init_1 : decode cX2_init 1 = .ok (.invokespecial 3, 3) := by decide +kernel
theorem dX2_init_4 : decode cX2_init 4 = .ok (.aload_n 0, 1) := by decide +kernel
theorem dX2_init_5 : decode cX2_init 5 = .ok (.bipush 6, 2) := by decide +kernel
theorem dX2_init_7 : decode cX2_init 7 = .ok (.putfield 9, 3) := by decide +kernel
theorem dX2_init_10 : decode cX2_init 10 = .ok (.aload_n 0, 1) := by decide +kernel
theorem dX2_init_11 : decode cX2_init 11 = .ok (.bipush 6, 2) := by decide +kernel
theorem dX2_init_13 : decode cX2_init 13 = .ok (.newarray .int, 2) := by decide +kernel
theorem dX2_init_15 : decode cX2_init 15 = .ok (.putfield 15, 3) := by decide +kernel
theorem dX2_init_18 : decode cX2_init 18 = .ok (.aload_n 0, 1) := by decide +kernel
theorem dX2_init_19 : decode cX2_init 19 = .ok (.iconst 5, 1) := by decide +kernel
theorem dX2_init_20 : decode cX2_init 20 = .ok (.newarray .int, 2) := by decide +kernel
theorem dX2_init_22 : decode cX2_init 22 = .ok (.putfield 19, 3) := by decide +kernel
theorem dX2_init_25 : decode cX2_init 25 = .ok (.aload_n 0, 1) := by decide +kernel
theorem dX2_init_26 : decode cX2_init 26 = .ok (.iconst 5, 1) := by decide +kernel
theorem dX2_init_27 : decode cX2_init 27 = .ok (.newarray .int, 2) := by decide +kernel
theorem dX2_init_29 : decode cX2_init 29 = .ok (.putfield 22, 3) := by decide +kernel
theorem dX2_init_32 : decode cX2_init 32 = .ok (.return_, 1) := by decide +kernel
theorem dX2_clear_0 : decode cX2_clear 0 = .ok (.aload_n 0, 1) := by decide +kernel
theorem dX2_clear_1 : decode cX2_clear 1 = .ok (.bipush 6, 2) := by decide +kernel
theorem dX2_clear_3 : decode cX2_clear 3 = .ok (.putfield 9, 3) := by decide +kernel
theorem dX2_clear_6 : decode cX2_clear 6 = .ok (.aload_n 0, 1) := by decide +kernel
theorem dX2_clear_7 : decode cX2_clear 7 = .ok (.iconst 0, 1) := by decide +kernel
theorem dX2_clear_8 : decode cX2_clear 8 = .ok (.putfield 25, 3) := by decide +kernel
theorem dX2_clear_11 : decode cX2_clear 11 = .ok (.aload_n 0, 1) := by decide +kernel
theorem dX2_clear_12 : decode cX2_clear 12 = .ok (.iconst 0, 1) := by decide +kernel
theorem dX2_clear_13 : decode cX2_clear 13 = .ok (.putfield 28, 3) := by decide +kernel
theorem dX2_clear_16 : decode cX2_clear 16 = .ok (.return_, 1) := by decide +kernel
theorem dX2_copyFrom_0 : decode cX2_copyFrom 0 = .ok (.aload_n 0, 1) := by decide +kernel
theorem dX2_copyFrom_1 : decode cX2_copyFrom 1 = .ok (.aload_n 1, 1) := by decide +kernel
theorem dX2_copyFrom_2 : decode cX2_copyFrom 2 = .ok (.getfield 9, 3) := by decide +kernel
theorem dX2_copyFrom_5 : decode cX2_copyFrom 5 = .ok (.putfield 9, 3) := by decide +kernel
theorem dX2_copyFrom_8 : decode cX2_copyFrom 8 = .ok (.aload_n 0, 1) := by decide +kernel
theorem dX2_copyFrom_9 : decode cX2_copyFrom 9 = .ok (.aload_n 1, 1) := by decide +kernel
theorem dX2_copyFrom_10 : decode cX2_copyFrom 10 = .ok (.getfield 25, 3) := by decide +kernel
theorem dX2_copyFrom_13 : decode cX2_copyFrom 13 = .ok (.putfield 25, 3) := by decide +kernel
theorem dX2_copyFrom_16 : decode cX2_copyFrom 16 = .ok (.aload_n 0, 1) := by decide +kernel
theorem dX2_copyFrom_17 : decode cX2_copyFrom 17 = .ok (.aload_n 1, 1) := by decide +kernel
theorem dX2_copyFrom_18 : decode cX2_copyFrom 18 = .ok (.getfield 28, 3) := by decide +kernel
theorem dX2_copyFrom_21 : decode cX2_copyFrom 21 = .ok (.putfield 28, 3) := by decide +kernel
theorem dX2_copyFrom_24 : decode cX2_copyFrom 24 = .ok (.aload_n 1, 1) := by decide +kernel
theorem dX2_copyFrom_25 : decode cX2_copyFrom 25 = .ok (.getfield 15, 3) := by decide +kernel
theorem dX2_copyFrom_28 : decode cX2_copyFrom 28 = .ok (.iconst 0, 1) := by decide +kernel
theorem dX2_copyFrom_29 : decode cX2_copyFrom 29 = .ok (.aload_n 0, 1) := by decide +kernel
theorem dX2_copyFrom_30 : decode cX2_copyFrom 30 = .ok (.getfield 15, 3) := by decide +kernel
theorem dX2_copyFrom_33 : decode cX2_copyFrom 33 = .ok (.iconst 0, 1) := by decide +kernel
theorem dX2_copyFrom_34 : decode cX2_copyFrom 34 = .ok (.bipush 6, 2) := by decide +kernel
theorem dX2_copyFrom_36 : decode cX2_copyFrom 36 = .ok (.invokestatic 31, 3) := by decide +kernel
theorem dX2_copyFrom_39 : decode cX2_copyFrom 39 = .ok (.aload_n 1, 1) := by decide +kernel
theorem dX2_copyFrom_40 : decode cX2_copyFrom 40 = .ok (.getfield 19, 3) := by decide +kernel
theorem dX2_copyFrom_43 : decode cX2_copyFrom 43 = .ok (.iconst 0, 1) := by decide +kernel
theorem dX2_copyFrom_44 : decode cX2_copyFrom 44 = .ok (.aload_n 0, 1) := by decide +kernel
theorem dX2_copyFrom_45 : decode cX2_copyFrom 45 = .ok (.getfield 19, 3) := by decide +kernel
theorem dX2_copyFrom_48 : decode cX2_copyFrom 48 = .ok (.iconst 0, 1) := by decide +kernel
theorem dX2_copyFrom_49 : decode cX2_copyFrom 49 = .ok (.iconst 5, 1) := by decide +kernel
theorem dX2_copyFrom_50 : decode cX2_copyFrom 50 = .ok (.invokestatic 31, 3) := by decide +kernel
theorem dX2_copyFrom_53 : decode cX2_copyFrom 53 = .ok (.aload_n 1, 1) := by decide +kernel
theorem dX2_copyFrom_54 : decode cX2_copyFrom 54 = .ok (.getfield 22, 3) := by decide +kernel
theorem dX2_copyFrom_57 : decode cX2_copyFrom 57 = .ok (.iconst 0, 1) := by decide +kernel
theorem dX2_copyFrom_58 : decode cX2_copyFrom 58 = .ok (.aload_n 0, 1) := by decide +kernel
theorem dX2_copyFrom_59 : decode cX2_copyFrom 59 = .ok (.getfield 22, 3) := by decide +kernel
theorem dX2_copyFrom_62 : decode cX2_copyFrom 62 = .ok (.iconst 0, 1) := by decide +kernel
theorem dX2_copyFrom_63 : decode cX2_copyFrom 63 = .ok (.iconst 5, 1) := by decide +kernel
theorem dX2_copyFrom_64 : decode cX2_copyFrom 64 = .ok (.invokestatic 31, 3) := by decide +kernel
theorem dX2_copyFrom_67 : decode cX2_copyFrom 67 = .ok (.return_, 1) := by decide +kernel
theorem dX3_init_0 : decode cX3_init 0 = .ok (.aload_n 0, 1) := by decide +kernel
theorem dX3_init_1 : decode cX3_init 1 = .ok (.invokespecial 3, 3) := by decide +kernel
theorem dX3_init_4 : decode cX3_init 4 = .ok (.aload_n 0, 1) := by decide +kernel
theorem dX3_init_5 : decode cX3_init 5 = .ok (.bipush 6, 2) := by decide +kernel
theorem dX3_init_7 : decode cX3_init 7 = .ok (.newarray .int, 2) := by decide +kernel
theorem dX3_init_9 : decode cX3_init 9 = .ok (.putfield 9, 3) := by decide +kernel
theorem dX3_init_12 : decode cX3_init 12 = .ok (.aload_n 0, 1) := by decide +kernel
theorem dX3_init_13 : decode cX3_init 13 = .ok (.iconst 5, 1) := by decide +kernel
theorem dX3_init_14 : decode cX3_init 14 = .ok (.newarray .int, 2) := by decide +kernel
theorem dX3_init_16 : decode cX3_init 16 = .ok (.putfield 15, 3) := by decide +kernel
theorem dX3_init_19 : decode cX3_init 19 = .ok (.aload_n 0, 1) := by decide +kernel
theorem dX3_init_20 : decode cX3_init 20 = .ok (.bipush 10, 2) := by decide +kernel
theorem dX3_init_22 : decode cX3_init 22 = .ok (.newarray .int, 2) := by decide +kernel
theorem dX3_init_24 : decode cX3_init 24 = .ok (.putfield 18, 3) := by decide +kernel
theorem dX3_init_27 : decode cX3_init 27 = .ok (.aload_n 0, 1) := by decide +kernel
theorem dX3_init_28 : decode cX3_init 28 = .ok (.bipush 6, 2) := by decide +kernel
theorem dX3_init_30 : decode cX3_init 30 = .ok (.newarray .int, 2) := by decide +kernel
theorem dX3_init_32 : decode cX3_init 32 = .ok (.putfield 21, 3) := by decide +kernel
theorem dX3_init_35 : decode cX3_init 35 = .ok (.aload_n 0, 1) := by decide +kernel
theorem dX3_init_36 : decode cX3_init 36 = .ok (.aload_n 1, 1) := by decide +kernel
theorem dX3_init_37 : decode cX3_init 37 = .ok (.putfield 24, 3) := by decide +kernel
theorem dX3_init_40 : decode cX3_init 40 = .ok (.return_, 1) := by decide +kernel
theorem dX3_search_0 : decode cX3_search 0 = .ok (.aload_n 0, 1) := by decide +kernel
theorem dX3_search_1 : decode cX3_search 1 = .ok (.getfield 24, 3) := by decide +kernel
theorem dX3_search_4 : decode cX3_search 4 = .ok (.aload_n 1, 1) := by decide +kernel
theorem dX3_search_5 : decode cX3_search 5 = .ok (.invokevirtual 28, 3) := by decide +kernel
theorem dX3_search_8 : decode cX3_search 8 = .ok (.aload_n 0, 1) := by decide +kernel
theorem dX3_search_9 : decode cX3_search 9 = .ok (.iconst (-1), 1) := by decide +kernel
theorem dX3_search_10 : decode cX3_search 10 = .ok (.putfield 34, 3) := by decide +kernel
theorem dX3_search_13 : decode cX3_search 13 = .ok (.aload_n 0, 1) := by decide +kernel
theorem dX3_search_14 : decode cX3_search 14 = .ok (.aload_n 0, 1) := by decide +kernel
theorem dX3_search_15 : decode cX3_search 15 = .ok (.getfield 24, 3) := by decide +kernel
theorem dX3_search_18 : decode cX3_search 18 = .ok (.getfield 38, 3) := by decide +kernel
theorem dX3_search_21 : decode cX3_search 21 = .ok (.getfield 42, 3) := by decide +kernel
theorem dX3_search_24 : decode cX3_search 24 = .ok (.aload_n 0, 1) := by decide +kernel
theorem dX3_search_25 : decode cX3_search 25 = .ok (.getfield 24, 3) := by decide +kernel
theorem dX3_search_28 : decode cX3_search 28 = .ok (.invokevirtual 47, 3) := by decide +kernel
theorem dX3_search_31 : decode cX3_search 31 = .ok (.isub, 1) := by decide +kernel
theorem dX3_search_32 : decode cX3_search 32 = .ok (.putfield 51, 3) := by decide +kernel
theorem dX3_search_35 : decode cX3_search 35 = .ok (.iconst 0, 1) := by decide +kernel
theorem dX3_search_36 : decode cX3_search 36 = .ok (.istore_n 2, 1) := by decide +kernel
theorem dX3_search_37 : decode cX3_search 37 = .ok (.iload_n 2, 1) := by decide +kernel
theorem dX3_search_38 : decode cX3_search 38 = .ok (.bipush 10, 2) := by decide +kernel
theorem dX3_search_40 : decode cX3_search 40 = .ok (.if_icmp .ge 16, 3) := by decide +kernel
theorem dX3_search_43 : decode cX3_search 43 = .ok (.aload_n 0, 1) := by decide +kernel
theorem dX3_search_44 : decode cX3_search 44 = .ok (.getfield 18, 3) := by decide +kernel
theorem dX3_search_47 : decode cX3_search 47 = .ok (.iload_n 2, 1) := by decide +kernel
theorem dX3_search_48 : decode cX3_search 48 = .ok (.iconst 0, 1) := by decide +kernel
theorem dX3_search_49 : decode cX3_search 49 = .ok (.iastore, 1) := by decide +kernel
theorem dX3_search_50 : decode cX3_search 50 = .ok (.iinc 2 1, 3) := by decide +kernel
theorem dX3_search_53 : decode cX3_search 53 = .ok (.goto (-16), 3) := by decide +kernel
theorem dX3_search_56 : decode cX3_search 56 = .ok (.iconst 0, 1) := by decide +kernel
theorem dX3_search_57 : decode cX3_search 57 = .ok (.istore_n 2, 1) := by decide +kernel
theorem dX3_search_58 : decode cX3_search 58 = .ok (.iload_n 2, 1) := by decide +kernel
theorem dX3_search_59 : decode cX3_search 59 = .ok (.aload_n 0, 1) := by decide +kernel
theorem dX3_search_60 : decode cX3_search 60 = .ok (.getfield 24, 3) := by decide +kernel
theorem dX3_search_63 : decode cX3_search 63 = .ok (.getfield 38, 3) := by decide +kernel
theorem dX3_search_66 : decode cX3_search 66 = .ok (.getfield 54, 3) := by decide +kernel
theorem dX3_search_69 : decode cX3_search 69 = .ok (.if_icmp .ge 20, 3) := by decide +kernel
theorem dX3_search_72 : decode cX3_search 72 = .ok (.aload_n 0, 1) := by decide +kernel
theorem dX3_search_73 : decode cX3_search 73 = .ok (.getfield 15, 3) := by decide +kernel
theorem dX3_search_76 : decode cX3_search 76 = .ok (.iload_n 2, 1) := by decide +kernel
theorem dX3_search_77 : decode cX3_search 77 = .ok (.aload_n 0, 1) := by decide +kernel
theorem dX3_search_78 : decode cX3_search 78 = .ok (.iload_n 2, 1) := by decide +kernel
theorem dX3_search_79 : decode cX3_search 79 = .ok (.invokevirtual 57, 3) := by decide +kernel
theorem dX3_search_82 : decode cX3_search 82 = .ok (.iastore, 1) := by decide +kernel
theorem dX3_search_83 : decode cX3_search 83 = .ok (.iinc 2 1, 3) := by decide +kernel
theorem dX3_search_86 : decode cX3_search 86 = .ok (.goto (-28), 3) := by decide +kernel
theorem dX3_search_89 : decode cX3_search 89 = .ok (.iconst 1, 1) := by decide +kernel
theorem dX3_search_90 : decode cX3_search 90 = .ok (.istore_n 2, 1) := by decide +kernel
theorem dX3_search_91 : decode cX3_search 91 = .ok (.iconst 0, 1) := by decide +kernel
theorem dX3_search_92 : decode cX3_search 92 = .ok (.istore_n 3, 1) := by decide +kernel
theorem dX3_search_93 : decode cX3_search 93 = .ok (.iload_n 3, 1) := by decide +kernel
theorem dX3_search_94 : decode cX3_search 94 = .ok (.aload_n 0, 1) := by decide +kernel
theorem dX3_search_95 : decode cX3_search 95 = .ok (.getfield 24, 3) := by decide +kernel
theorem dX3_search_98 : decode cX3_search 98 = .ok (.getfield 38, 3) := by decide +kernel
theorem dX3_search_101 : decode cX3_search 101 = .ok (.getfield 42, 3) := by decide +kernel
theorem dX3_search_104 : decode cX3_search 104 = .ok (.if_icmp .ge 51, 3) := by decide +kernel
theorem dX3_search_107 : decode cX3_search 107 = .ok (.aload_n 0, 1) := by decide +kernel
theorem dX3_search_108 : decode cX3_search 108 = .ok (.getfield 9, 3) := by decide +kernel
theorem dX3_search_111 : decode cX3_search 111 = .ok (.iload_n 3, 1) := by decide +kernel
theorem dX3_search_112 : decode cX3_search 112 = .ok (.aload_n 0, 1) := by decide +kernel
theorem dX3_search_113 : decode cX3_search 113 = .ok (.iload_n 3, 1) := by decide +kernel
theorem dX3_search_114 : decode cX3_search 114 = .ok (.invokevirtual 61, 3) := by decide +kernel
theorem dX3_search_117 : decode cX3_search 117 = .ok (.iastore, 1) := by decide +kernel
theorem dX3_search_118 : decode cX3_search 118 = .ok (.iload_n 2, 1) := by decide +kernel
theorem dX3_search_119 : decode cX3_search 119 = .ok (.ifCond .eq 28, 3) := by decide +kernel
theorem dX3_search_122 : decode cX3_search 122 = .ok (.aload_n 0, 1) := by decide +kernel
theorem dX3_search_123 : decode cX3_search 123 = .ok (.getfield 24, 3) := by decide +kernel
theorem dX3_search_126 : decode cX3_search 126 = .ok (.getfield 64, 3) := by decide +kernel
theorem dX3_search_129 : decode cX3_search 129 = .ok (.iload_n 3, 1) := by decide +kernel
theorem dX3_search_130 : decode cX3_search 130 = .ok (.baload, 1) := by decide +kernel
theorem dX3_search_131 : decode cX3_search 131 = .ok (.ifCond .ne 12, 3) := by decide +kernel
theorem dX3_search_134 : decode cX3_search 134 = .ok (.aload_n 0, 1) := by decide +kernel
theorem dX3_search_135 : decode cX3_search 135 = .ok (.getfield 9, 3) := by decide +kernel
theorem dX3_search_138 : decode cX3_search 138 = .ok (.iload_n 3, 1) := by decide +kernel
theorem dX3_search_139 : decode cX3_search 139 = .ok (.iaload, 1) := by decide +kernel
theorem dX3_search_140 : decode cX3_search 140 = .ok (.ifCond .eq 7, 3) := by decide +kernel
theorem dX3_search_143 : decode cX3_search 143 = .ok (.iconst 1, 1) := by decide +kernel
theorem dX3_search_144 : decode cX3_search 144 = .ok (.goto 4, 3) := by decide +kernel
theorem dX3_search_147 : decode cX3_search 147 = .ok (.iconst 0, 1) := by decide +kernel
theorem dX3_search_148 : decode cX3_search 148 = .ok (.istore_n 2, 1) := by decide +kernel
theorem dX3_search_149 : decode cX3_search 149 = .ok (.iinc 3 1, 3) := by decide +kernel
theorem dX3_search_152 : decode cX3_search 152 = .ok (.goto (-59), 3) := by decide +kernel
theorem dX3_search_155 : decode cX3_search 155 = .ok (.iload_n 2, 1) := by decide +kernel
theorem dX3_search_156 : decode cX3_search 156 = .ok (.ifCond .eq 8, 3) := by decide +kernel
theorem dX3_search_159 : decode cX3_search 159 = .ok (.aload_n 0, 1) := by decide +kernel
theorem dX3_search_160 : decode cX3_search 160 = .ok (.iconst 0, 1) := by decide +kernel
theorem dX3_search_161 : decode cX3_search 161 = .ok (.invokevirtual 68, 3) := by decide +kernel
theorem dX3_search_164 : decode cX3_search 164 = .ok (.return_, 1) := by decide +kernel
theorem dX3_placesOf_0 : decode cX3_placesOf 0 = .ok (.iconst 1, 1) := by decide +kernel
theorem dX3_placesOf_1 : decode cX3_placesOf 1 = .ok (.aload_n 0, 1) := by decide +kernel
theorem dX3_placesOf_2 : decode cX3_placesOf 2 = .ok (.getfield 24, 3) := by decide +kernel
theorem dX3_placesOf_5 : decode cX3_placesOf 5 = .ok (.getfield 72, 3) := by decide +kernel
theorem dX3_placesOf_8 : decode cX3_placesOf 8 = .ok (.iload_n 1, 1) := by decide +kernel
theorem dX3_placesOf_9 : decode cX3_placesOf 9 = .ok (.iaload, 1) := by decide +kernel
theorem dX3_placesOf_10 : decode cX3_placesOf 10 = .ok (.ishl, 1) := by decide +kernel
theorem dX3_placesOf_11 : decode cX3_placesOf 11 = .ok (.istore_n 2, 1) := by decide +kernel
theorem dX3_placesOf_12 : decode cX3_placesOf 12 = .ok (.iconst 0, 1) := by decide +kernel
theorem dX3_placesOf_13 : decode cX3_placesOf 13 = .ok (.istore_n 3, 1) := by decide +kernel
theorem dX3_placesOf_14 : decode cX3_placesOf 14 = .ok (.iload_n 3, 1) := by decide +kernel
theorem dX3_placesOf_15 : decode cX3_placesOf 15 = .ok (.aload_n 0, 1) := by decide +kernel
theorem dX3_placesOf_16 : decode cX3_placesOf 16 = .ok (.getfield 24, 3) := by decide +kernel
theorem dX3_placesOf_19 : decode cX3_placesOf 19 = .ok (.getfield 38, 3) := by decide +kernel
theorem dX3_placesOf_22 : decode cX3_placesOf 22 = .ok (.getfield 54, 3) := by decide +kernel
theorem dX3_placesOf_25 : decode cX3_placesOf 25 = .ok (.if_icmp .ge 26, 3) := by decide +kernel
theorem dX3_placesOf_28 : decode cX3_placesOf 28 = .ok (.iload_n 2, 1) := by decide +kernel
theorem dX3_placesOf_29 : decode cX3_placesOf 29 = .ok (.iconst 1, 1) := by decide +kernel
theorem dX3_placesOf_30 : decode cX3_placesOf 30 = .ok (.aload_n 0, 1) := by decide +kernel
theorem dX3_placesOf_31 : decode cX3_placesOf 31 = .ok (.getfield 24, 3) := by decide +kernel
theorem dX3_placesOf_34 : decode cX3_placesOf 34 = .ok (.getfield 38, 3) := by decide +kernel
theorem dX3_placesOf_37 : decode cX3_placesOf 37 = .ok (.getfield 75, 3) := by decide +kernel
theorem dX3_placesOf_40 : decode cX3_placesOf 40 = .ok (.iload_n 3, 1) := by decide +kernel
theorem dX3_placesOf_41 : decode cX3_placesOf 41 = .ok (.iaload, 1) := by decide +kernel
theorem dX3_placesOf_42 : decode cX3_placesOf 42 = .ok (.ishl, 1) := by decide +kernel
theorem dX3_placesOf_43 : decode cX3_placesOf 43 = .ok (.ior, 1) := by decide +kernel
theorem dX3_placesOf_44 : decode cX3_placesOf 44 = .ok (.istore_n 2, 1) := by decide +kernel
theorem dX3_placesOf_45 : decode cX3_placesOf 45 = .ok (.iinc 3 1, 3) := by decide +kernel
theorem dX3_placesOf_48 : decode cX3_placesOf 48 = .ok (.goto (-34), 3) := by decide +kernel
theorem dX3_placesOf_51 : decode cX3_placesOf 51 = .ok (.iconst 0, 1) := by decide +kernel
theorem dX3_placesOf_52 : decode cX3_placesOf 52 = .ok (.istore_n 3, 1) := by decide +kernel
theorem dX3_placesOf_53 : decode cX3_placesOf 53 = .ok (.iload_n 3, 1) := by decide +kernel
theorem dX3_placesOf_54 : decode cX3_placesOf 54 = .ok (.aload_n 0, 1) := by decide +kernel
theorem dX3_placesOf_55 : decode cX3_placesOf 55 = .ok (.getfield 24, 3) := by decide +kernel
theorem dX3_placesOf_58 : decode cX3_placesOf 58 = .ok (.getfield 38, 3) := by decide +kernel
theorem dX3_placesOf_61 : decode cX3_placesOf 61 = .ok (.getfield 78, 3) := by decide +kernel
theorem dX3_placesOf_64 : decode cX3_placesOf 64 = .ok (.if_icmp .ge 32, 3) := by decide +kernel
theorem dX3_placesOf_67 : decode cX3_placesOf 67 = .ok (.aload_n 0, 1) := by decide +kernel
theorem dX3_placesOf_68 : decode cX3_placesOf 68 = .ok (.iload_n 1, 1) := by decide +kernel
theorem dX3_placesOf_69 : decode cX3_placesOf 69 = .ok (.iload_n 3, 1) := by decide +kernel
theorem dX3_placesOf_70 : decode cX3_placesOf 70 = .ok (.aload_n 0, 1) := by decide +kernel
theorem dX3_placesOf_71 : decode cX3_placesOf 71 = .ok (.getfield 51, 3) := by decide +kernel
theorem dX3_placesOf_74 : decode cX3_placesOf 74 = .ok (.iconst 1, 1) := by decide +kernel
theorem dX3_placesOf_75 : decode cX3_placesOf 75 = .ok (.isub, 1) := by decide +kernel
theorem dX3_placesOf_76 : decode cX3_placesOf 76 = .ok (.invokevirtual 81, 3) := by decide +kernel
theorem dX3_placesOf_79 : decode cX3_placesOf 79 = .ok (.ifCond .eq 11, 3) := by decide +kernel
theorem dX3_placesOf_82 : decode cX3_placesOf 82 = .ok (.iload_n 2, 1) := by decide +kernel
theorem dX3_placesOf_83 : decode cX3_placesOf 83 = .ok (.iconst 1, 1) := by decide +kernel
theorem dX3_placesOf_84 : decode cX3_placesOf 84 = .ok (.iload_n 3, 1) := by decide +kernel
theorem dX3_placesOf_85 : decode cX3_placesOf 85 = .ok (.ishl, 1) := by decide +kernel
theorem dX3_placesOf_86 : decode cX3_placesOf 86 = .ok (.iconst (-1), 1) := by decide +kernel
theorem dX3_placesOf_87 : decode cX3_placesOf 87 = .ok (.ixor, 1) := by decide +kernel
theorem dX3_placesOf_88 : decode cX3_placesOf 88 = .ok (.iand, 1) := by decide +kernel
theorem dX3_placesOf_89 : decode cX3_placesOf 89 = .ok (.istore_n 2, 1) := by decide +kernel
theorem dX3_placesOf_90 : decode cX3_placesOf 90 = .ok (.iinc 3 1, 3) := by decide +kernel
theorem dX3_placesOf_93 : decode cX3_placesOf 93 = .ok (.goto (-40), 3) := by decide +kernel
theorem dX3_placesOf_96 : decode cX3_placesOf 96 = .ok (.iload_n 2, 1) := by decide +kernel
theorem dX3_placesOf_97 : decode cX3_placesOf 97 = .ok (.ireturn, 1) := by decide +kernel
theorem dX3_isFrozenAmong_0 : decode cX3_isFrozenAmong 0 = .ok (.aload_n 0, 1) := by decide +kernel
theorem dX3_isFrozenAmong_1 : decode cX3_isFrozenAmong 1 = .ok (.getfield 24, 3) := by decide +kernel
theorem dX3_isFrozenAmong_4 : decode cX3_isFrozenAmong 4 = .ok (.iload_n 3, 1) := by decide +kernel
theorem dX3_isFrozenAmong_5 : decode cX3_isFrozenAmong 5 = .ok (.aload_n 0, 1) := by decide +kernel
theorem dX3_isFrozenAmong_6 : decode cX3_isFrozenAmong 6 = .ok (.getfield 24, 3) := by decide +kernel
theorem dX3_isFrozenAmong_9 : decode cX3_isFrozenAmong 9 = .ok (.getfield 38, 3) := by decide +kernel
theorem dX3_isFrozenAmong_12 : decode cX3_isFrozenAmong 12 = .ok (.getfield 85, 3) := by decide +kernel
theorem dX3_isFrozenAmong_15 : decode cX3_isFrozenAmong 15 = .ok (.iload_n 1, 1) := by decide +kernel
theorem dX3_isFrozenAmong_16 : decode cX3_isFrozenAmong 16 = .ok (.iaload, 1) := by decide +kernel
theorem dX3_isFrozenAmong_17 : decode cX3_isFrozenAmong 17 = .ok (.aload_n 0, 1) := by decide +kernel
theorem dX3_isFrozenAmong_18 : decode cX3_isFrozenAmong 18 = .ok (.getfield 24, 3) := by decide +kernel
theorem dX3_isFrozenAmong_21 : decode cX3_isFrozenAmong 21 = .ok (.getfield 88, 3) := by decide +kernel
theorem dX3_isFrozenAmong_24 : decode cX3_isFrozenAmong 24 = .ok (.iload_n 1, 1) := by decide +kernel
theorem dX3_isFrozenAmong_25 : decode cX3_isFrozenAmong 25 = .ok (.iaload, 1) := by decide +kernel
theorem dX3_isFrozenAmong_26 : decode cX3_isFrozenAmong 26 = .ok (.iload_n 2, 1) := by decide +kernel
theorem dX3_isFrozenAmong_27 : decode cX3_isFrozenAmong 27 = .ok (.invokevirtual 91, 3) := by decide +kernel
theorem dX3_isFrozenAmong_30 : decode cX3_isFrozenAmong 30 = .ok (.aload_n 0, 1) := by decide +kernel
theorem dX3_isFrozenAmong_31 : decode cX3_isFrozenAmong 31 = .ok (.getfield 24, 3) := by decide +kernel
theorem dX3_isFrozenAmong_34 : decode cX3_isFrozenAmong 34 = .ok (.getfield 95, 3) := by decide +kernel
theorem dX3_isFrozenAmong_37 : decode cX3_isFrozenAmong 37 = .ok (.iload_n 1, 1) := by decide +kernel
theorem dX3_isFrozenAmong_38 : decode cX3_isFrozenAmong 38 = .ok (.iaload, 1) := by decide +kernel
theorem dX3_isFrozenAmong_39 : decode cX3_isFrozenAmong 39 = .ok (.if_icmp .le 7, 3) := by decide +kernel
theorem dX3_isFrozenAmong_42 : decode cX3_isFrozenAmong 42 = .ok (.iconst 1, 1) := by decide +kernel
theorem dX3_isFrozenAmong_43 : decode cX3_isFrozenAmong 43 = .ok (.goto 4, 3) := by decide +kernel
theorem dX3_isFrozenAmong_46 : decode cX3_isFrozenAmong 46 = .ok (.iconst 0, 1) := by decide +kernel
theorem dX3_isFrozenAmong_47 : decode cX3_isFrozenAmong 47 = .ok (.ireturn, 1) := by decide +kernel
theorem dX3_needOfNextEasier_0 : decode cX3_needOfNextEasier 0 = .ok (.iconst 0, 1) := by decide +kernel
theorem dX3_needOfNextEasier_1 : decode cX3_needOfNextEasier 1 = .ok (.istore_n 2, 1) := by decide +kernel
theorem dX3_needOfNextEasier_2 : decode cX3_needOfNextEasier 2 = .ok (.iconst 0, 1) := by decide +kernel
theorem dX3_needOfNextEasier_3 : decode cX3_needOfNextEasier 3 = .ok (.istore_n 3, 1) := by decide +kernel
theorem dX3_needOfNextEasier_4 : decode cX3_needOfNextEasier 4 = .ok (.iload_n 3, 1) := by decide +kernel
theorem dX3_needOfNextEasier_5 : decode cX3_needOfNextEasier 5 = .ok (.aload_n 0, 1) := by decide +kernel
theorem dX3_needOfNextEasier_6 : decode cX3_needOfNextEasier 6 = .ok (.getfield 24, 3) := by decide +kernel
theorem dX3_needOfNextEasier_9 : decode cX3_needOfNextEasier 9 = .ok (.getfield 38, 3) := by decide +kernel
theorem dX3_needOfNextEasier_12 : decode cX3_needOfNextEasier 12 = .ok (.getfield 54, 3) := by decide +kernel
theorem dX3_needOfNextEasier_15 : decode cX3_needOfNextEasier 15 = .ok (.if_icmp .ge 62, 3) := by decide +kernel
theorem dX3_needOfNextEasier_18 : decode cX3_needOfNextEasier 18 = .ok (.aload_n 0, 1) := by decide +kernel
theorem dX3_needOfNextEasier_19 : decode cX3_needOfNextEasier 19 = .ok (.getfield 24, 3) := by decide +kernel
theorem dX3_needOfNextEasier_22 : decode cX3_needOfNextEasier 22 = .ok (.getfield 38, 3) := by decide +kernel
theorem dX3_needOfNextEasier_25 : decode cX3_needOfNextEasier 25 = .ok (.getfield 75, 3) := by decide +kernel
theorem dX3_needOfNextEasier_28 : decode cX3_needOfNextEasier 28 = .ok (.iload_n 3, 1) := by decide +kernel
theorem dX3_needOfNextEasier_29 : decode cX3_needOfNextEasier 29 = .ok (.iaload, 1) := by decide +kernel
theorem dX3_needOfNextEasier_30 : decode cX3_needOfNextEasier 30 = .ok (.aload_n 0, 1) := by decide +kernel
theorem dX3_needOfNextEasier_31 : decode cX3_needOfNextEasier 31 = .ok (.getfield 24, 3) := by decide +kernel
theorem dX3_needOfNextEasier_34 : decode cX3_needOfNextEasier 34 = .ok (.getfield 38, 3) := by decide +kernel
theorem dX3_needOfNextEasier_37 : decode cX3_needOfNextEasier 37 = .ok (.getfield 75, 3) := by decide +kernel
theorem dX3_needOfNextEasier_40 : decode cX3_needOfNextEasier 40 = .ok (.iload_n 1, 1) := by decide +kernel
theorem dX3_needOfNextEasier_41 : decode cX3_needOfNextEasier 41 = .ok (.iaload, 1) := by decide +kernel
theorem dX3_needOfNextEasier_42 : decode cX3_needOfNextEasier 42 = .ok (.if_icmp .ne 29, 3) := by decide +kernel
theorem dX3_needOfNextEasier_45 : decode cX3_needOfNextEasier 45 = .ok (.aload_n 0, 1) := by decide +kernel
theorem dX3_needOfNextEasier_46 : decode cX3_needOfNextEasier 46 = .ok (.iload_n 3, 1) := by decide +kernel
theorem dX3_needOfNextEasier_47 : decode cX3_needOfNextEasier 47 = .ok (.iload_n 1, 1) := by decide +kernel
theorem dX3_needOfNextEasier_48 : decode cX3_needOfNextEasier 48 = .ok (.invokevirtual 98, 3) := by decide +kernel
theorem dX3_needOfNextEasier_51 : decode cX3_needOfNextEasier 51 = .ok (.ifCond .eq 20, 3) := by decide +kernel
theorem dX3_needOfNextEasier_54 : decode cX3_needOfNextEasier 54 = .ok (.iload_n 2, 1) := by decide +kernel
theorem dX3_needOfNextEasier_55 : decode cX3_needOfNextEasier 55 = .ok (.aload_n 0, 1) := by decide +kernel
theorem dX3_needOfNextEasier_56 : decode cX3_needOfNextEasier 56 = .ok (.getfield 24, 3) := by decide +kernel
theorem dX3_needOfNextEasier_59 : decode cX3_needOfNextEasier 59 = .ok (.getfield 38, 3) := by decide +kernel
theorem dX3_needOfNextEasier_62 : decode cX3_needOfNextEasier 62 = .ok (.getfield 102, 3) := by decide +kernel
theorem dX3_needOfNextEasier_65 : decode cX3_needOfNextEasier 65 = .ok (.iload_n 3, 1) := by decide +kernel
theorem dX3_needOfNextEasier_66 : decode cX3_needOfNextEasier 66 = .ok (.iaload, 1) := by decide +kernel
theorem dX3_needOfNextEasier_67 : decode cX3_needOfNextEasier 67 = .ok (.invokestatic 105, 3) := by decide +kernel
theorem dX3_needOfNextEasier_70 : decode cX3_needOfNextEasier 70 = .ok (.istore_n 2, 1) := by decide +kernel
theorem dX3_needOfNextEasier_71 : decode cX3_needOfNextEasier 71 = .ok (.iinc 3 1, 3) := by decide +kernel
theorem dX3_needOfNextEasier_74 : decode cX3_needOfNextEasier 74 = .ok (.goto (-70), 3) := by decide +kernel
theorem dX3_needOfNextEasier_77 : decode cX3_needOfNextEasier 77 = .ok (.iload_n 2, 1) := by decide +kernel
theorem dX3_needOfNextEasier_78 : decode cX3_needOfNextEasier 78 = .ok (.ireturn, 1) := by decide +kernel
theorem dX3_isEasier_0 : decode cX3_isEasier 0 = .ok (.aload_n 0, 1) := by decide +kernel
theorem dX3_isEasier_1 : decode cX3_isEasier 1 = .ok (.getfield 24, 3) := by decide +kernel
theorem dX3_isEasier_4 : decode cX3_isEasier 4 = .ok (.getfield 38, 3) := by decide +kernel
theorem dX3_isEasier_7 : decode cX3_isEasier 7 = .ok (.getfield 102, 3) := by decide +kernel
theorem dX3_isEasier_10 : decode cX3_isEasier 10 = .ok (.iload_n 2, 1) := by decide +kernel
theorem dX3_isEasier_11 : decode cX3_isEasier 11 = .ok (.iaload, 1) := by decide +kernel
theorem dX3_isEasier_12 : decode cX3_isEasier 12 = .ok (.aload_n 0, 1) := by decide +kernel
theorem dX3_isEasier_13 : decode cX3_isEasier 13 = .ok (.getfield 24, 3) := by decide +kernel
theorem dX3_isEasier_16 : decode cX3_isEasier 16 = .ok (.getfield 38, 3) := by decide +kernel
theorem dX3_isEasier_19 : decode cX3_isEasier 19 = .ok (.getfield 102, 3) := by decide +kernel
theorem dX3_isEasier_22 : decode cX3_isEasier 22 = .ok (.iload_n 1, 1) := by decide +kernel
theorem dX3_isEasier_23 : decode cX3_isEasier 23 = .ok (.iaload, 1) := by decide +kernel
theorem dX3_isEasier_24 : decode cX3_isEasier 24 = .ok (.isub, 1) := by decide +kernel
theorem dX3_isEasier_25 : decode cX3_isEasier 25 = .ok (.istore_n 3, 1) := by decide +kernel
theorem dX3_isEasier_26 : decode cX3_isEasier 26 = .ok (.iload_n 3, 1) := by decide +kernel
theorem dX3_isEasier_27 : decode cX3_isEasier 27 = .ok (.ifCond .gt 12, 3) := by decide +kernel
theorem dX3_isEasier_30 : decode cX3_isEasier 30 = .ok (.iload_n 3, 1) := by decide +kernel
theorem dX3_isEasier_31 : decode cX3_isEasier 31 = .ok (.ifCond .ne 12, 3) := by decide +kernel
theorem dX3_isEasier_34 : decode cX3_isEasier 34 = .ok (.iload_n 1, 1) := by decide +kernel
theorem dX3_isEasier_35 : decode cX3_isEasier 35 = .ok (.iload_n 2, 1) := by decide +kernel
theorem dX3_isEasier_36 : decode cX3_isEasier 36 = .ok (.if_icmp .ge 7, 3) := by decide +kernel
theorem dX3_isEasier_39 : decode cX3_isEasier 39 = .ok (.iconst 1, 1) := by decide +kernel
theorem dX3_isEasier_40 : decode cX3_isEasier 40 = .ok (.goto 4, 3) := by decide +kernel
theorem dX3_isEasier_43 : decode cX3_isEasier 43 = .ok (.iconst 0, 1) := by decide +kernel
theorem dX3_isEasier_44 : decode cX3_isEasier 44 = .ok (.ireturn, 1) := by decide +kernel
theorem dX3_putFrom_0 : decode cX3_putFrom 0 = .ok (.aload_n 0, 1) := by decide +kernel
theorem dX3_putFrom_1 : decode cX3_putFrom 1 = .ok (.invokevirtual 111, 3) := by decide +kernel
theorem dX3_putFrom_4 : decode cX3_putFrom 4 = .ok (.aload_n 0, 1) := by decide +kernel
theorem dX3_putFrom_5 : decode cX3_putFrom 5 = .ok (.getfield 34, 3) := by decide +kernel
theorem dX3_putFrom_8 : decode cX3_putFrom 8 = .ok (.if_icmp .le 11, 3) := by decide +kernel
theorem dX3_putFrom_11 : decode cX3_putFrom 11 = .ok (.aload_n 0, 1) := by decide +kernel
theorem dX3_putFrom_12 : decode cX3_putFrom 12 = .ok (.iload_n 1, 1) := by decide +kernel
theorem dX3_putFrom_13 : decode cX3_putFrom 13 = .ok (.invokevirtual 114, 3) := by decide +kernel
theorem dX3_putFrom_16 : decode cX3_putFrom 16 = .ok (.ifCond .eq 4, 3) := by decide +kernel
theorem dX3_putFrom_19 : decode cX3_putFrom 19 = .ok (.return_, 1) := by decide +kernel
theorem dX3_putFrom_20 : decode cX3_putFrom 20 = .ok (.iload_n 1, 1) := by decide +kernel
theorem dX3_putFrom_21 : decode cX3_putFrom 21 = .ok (.aload_n 0, 1) := by decide +kernel
theorem dX3_putFrom_22 : decode cX3_putFrom 22 = .ok (.getfield 24, 3) := by decide +kernel
theorem dX3_putFrom_25 : decode cX3_putFrom 25 = .ok (.getfield 38, 3) := by decide +kernel
theorem dX3_putFrom_28 : decode cX3_putFrom 28 = .ok (.getfield 42, 3) := by decide +kernel
theorem dX3_putFrom_31 : decode cX3_putFrom 31 = .ok (.if_icmp .lt 10, 3) := by decide +kernel
theorem dX3_putFrom_34 : decode cX3_putFrom 34 = .ok (.aload_n 0, 1) := by decide +kernel
theorem dX3_putFrom_35 : decode cX3_putFrom 35 = .ok (.invokevirtual 118, 3) := by decide +kernel
theorem dX3_putFrom_38 : decode cX3_putFrom 38 = .ok (.goto 86, 3) := by decide +kernel
theorem dX3_putFrom_41 : decode cX3_putFrom 41 = .ok (.aload_n 0, 1) := by decide +kernel
theorem dX3_putFrom_42 : decode cX3_putFrom 42 = .ok (.getfield 24, 3) := by decide +kernel
theorem dX3_putFrom_45 : decode cX3_putFrom 45 = .ok (.getfield 64, 3) := by decide +kernel
theorem dX3_putFrom_48 : decode cX3_putFrom 48 = .ok (.iload_n 1, 1) := by decide +kernel
theorem dX3_putFrom_49 : decode cX3_putFrom 49 = .ok (.baload, 1) := by decide +kernel
theorem dX3_putFrom_50 : decode cX3_putFrom 50 = .ok (.ifCond .eq 13, 3) := by decide +kernel
theorem dX3_putFrom_53 : decode cX3_putFrom 53 = .ok (.aload_n 0, 1) := by decide +kernel
theorem dX3_putFrom_54 : decode cX3_putFrom 54 = .ok (.iload_n 1, 1) := by decide +kernel
theorem dX3_putFrom_55 : decode cX3_putFrom 55 = .ok (.iconst 1, 1) := by decide +kernel
theorem dX3_putFrom_56 : decode cX3_putFrom 56 = .ok (.iadd, 1) := by decide +kernel
theorem dX3_putFrom_57 : decode cX3_putFrom 57 = .ok (.invokevirtual 68, 3) := by decide +kernel
theorem dX3_putFrom_60 : decode cX3_putFrom 60 = .ok (.goto 64, 3) := by decide +kernel
theorem dX3_putFrom_63 : decode cX3_putFrom 63 = .ok (.aload_n 0, 1) := by decide +kernel
theorem dX3_putFrom_64 : decode cX3_putFrom 64 = .ok (.dup, 1) := by decide +kernel
theorem dX3_putFrom_65 : decode cX3_putFrom 65 = .ok (.getfield 51, 3) := by decide +kernel
theorem dX3_putFrom_68 : decode cX3_putFrom 68 = .ok (.iconst 1, 1) := by decide +kernel
theorem dX3_putFrom_69 : decode cX3_putFrom 69 = .ok (.isub, 1) := by decide +kernel
theorem dX3_putFrom_70 : decode cX3_putFrom 70 = .ok (.putfield 51, 3) := by decide +kernel
theorem dX3_putFrom_73 : decode cX3_putFrom 73 = .ok (.iconst 0, 1) := by decide +kernel
theorem dX3_putFrom_74 : decode cX3_putFrom 74 = .ok (.istore_n 2, 1) := by decide +kernel
theorem dX3_putFrom_75 : decode cX3_putFrom 75 = .ok (.iload_n 2, 1) := by decide +kernel
theorem dX3_putFrom_76 : decode cX3_putFrom 76 = .ok (.aload_n 0, 1) := by decide +kernel
theorem dX3_putFrom_77 : decode cX3_putFrom 77 = .ok (.getfield 24, 3) := by decide +kernel
theorem dX3_putFrom_80 : decode cX3_putFrom 80 = .ok (.getfield 38, 3) := by decide +kernel
theorem dX3_putFrom_83 : decode cX3_putFrom 83 = .ok (.getfield 78, 3) := by decide +kernel
theorem dX3_putFrom_86 : decode cX3_putFrom 86 = .ok (.if_icmp .ge 28, 3) := by decide +kernel
theorem dX3_putFrom_89 : decode cX3_putFrom 89 = .ok (.aload_n 0, 1) := by decide +kernel
theorem dX3_putFrom_90 : decode cX3_putFrom 90 = .ok (.getfield 9, 3) := by decide +kernel
theorem dX3_putFrom_93 : decode cX3_putFrom 93 = .ok (.iload_n 1, 1) := by decide +kernel
theorem dX3_putFrom_94 : decode cX3_putFrom 94 = .ok (.iaload, 1) := by decide +kernel
theorem dX3_putFrom_95 : decode cX3_putFrom 95 = .ok (.iload_n 2, 1) := by decide +kernel
theorem dX3_putFrom_96 : decode cX3_putFrom 96 = .ok (.invokestatic 121, 3) := by decide +kernel
theorem dX3_putFrom_99 : decode cX3_putFrom 99 = .ok (.ifCond .eq 9, 3) := by decide +kernel
theorem dX3_putFrom_102 : decode cX3_putFrom 102 = .ok (.aload_n 0, 1) := by decide +kernel
theorem dX3_putFrom_103 : decode cX3_putFrom 103 = .ok (.iload_n 1, 1) := by decide +kernel
theorem dX3_putFrom_104 : decode cX3_putFrom 104 = .ok (.iload_n 2, 1) := by decide +kernel
theorem dX3_putFrom_105 : decode cX3_putFrom 105 = .ok (.invokevirtual 124, 3) := by decide +kernel
theorem dX3_putFrom_108 : decode cX3_putFrom 108 = .ok (.iinc 2 1, 3) := by decide +kernel
theorem dX3_putFrom_111 : decode cX3_putFrom 111 = .ok (.goto (-36), 3) := by decide +kernel
theorem dX3_putFrom_114 : decode cX3_putFrom 114 = .ok (.aload_n 0, 1) := by decide +kernel
theorem dX3_putFrom_115 : decode cX3_putFrom 115 = .ok (.dup, 1) := by decide +kernel
theorem dX3_putFrom_116 : decode cX3_putFrom 116 = .ok (.getfield 51, 3) := by decide +kernel
theorem dX3_putFrom_119 : decode cX3_putFrom 119 = .ok (.iconst 1, 1) := by decide +kernel
theorem dX3_putFrom_120 : decode cX3_putFrom 120 = .ok (.iadd, 1) := by decide +kernel
theorem dX3_putFrom_121 : decode cX3_putFrom 121 = .ok (.putfield 51, 3) := by decide +kernel
theorem dX3_putFrom_124 : decode cX3_putFrom 124 = .ok (.return_, 1) := by decide +kernel
theorem dX3_put_0 : decode cX3_put 0 = .ok (.aload_n 0, 1) := by decide +kernel
theorem dX3_put_1 : decode cX3_put 1 = .ok (.getfield 24, 3) := by decide +kernel
theorem dX3_put_4 : decode cX3_put 4 = .ok (.getfield 72, 3) := by decide +kernel
theorem dX3_put_7 : decode cX3_put 7 = .ok (.iload_n 1, 1) := by decide +kernel
theorem dX3_put_8 : decode cX3_put 8 = .ok (.iload_n 2, 1) := by decide +kernel
theorem dX3_put_9 : decode cX3_put 9 = .ok (.iastore, 1) := by decide +kernel
theorem dX3_put_10 : decode cX3_put 10 = .ok (.aload_n 0, 1) := by decide +kernel
theorem dX3_put_11 : decode cX3_put 11 = .ok (.getfield 18, 3) := by decide +kernel
theorem dX3_put_14 : decode cX3_put 14 = .ok (.iload_n 2, 1) := by decide +kernel
theorem dX3_put_15 : decode cX3_put 15 = .ok (.dup2, 1) := by decide +kernel
theorem dX3_put_16 : decode cX3_put 16 = .ok (.iaload, 1) := by decide +kernel
theorem dX3_put_17 : decode cX3_put 17 = .ok (.iconst 1, 1) := by decide +kernel
theorem dX3_put_18 : decode cX3_put 18 = .ok (.iadd, 1) := by decide +kernel
theorem dX3_put_19 : decode cX3_put 19 = .ok (.iastore, 1) := by decide +kernel
theorem dX3_put_20 : decode cX3_put 20 = .ok (.aload_n 0, 1) := by decide +kernel
theorem dX3_put_21 : decode cX3_put 21 = .ok (.iload_n 1, 1) := by decide +kernel
theorem dX3_put_22 : decode cX3_put 22 = .ok (.iconst 1, 1) := by decide +kernel
theorem dX3_put_23 : decode cX3_put 23 = .ok (.iadd, 1) := by decide +kernel
theorem dX3_put_24 : decode cX3_put 24 = .ok (.invokevirtual 68, 3) := by decide +kernel
theorem dX3_put_27 : decode cX3_put 27 = .ok (.aload_n 0, 1) := by decide +kernel
theorem dX3_put_28 : decode cX3_put 28 = .ok (.getfield 18, 3) := by decide +kernel
theorem dX3_put_31 : decode cX3_put 31 = .ok (.iload_n 2, 1) := by decide +kernel
theorem dX3_put_32 : decode cX3_put 32 = .ok (.dup2, 1) := by decide +kernel
theorem dX3_put_33 : decode cX3_put 33 = .ok (.iaload, 1) := by decide +kernel
theorem dX3_put_34 : decode cX3_put 34 = .ok (.iconst 1, 1) := by decide +kernel
theorem dX3_put_35 : decode cX3_put 35 = .ok (.isub, 1) := by decide +kernel
theorem dX3_put_36 : decode cX3_put 36 = .ok (.iastore, 1) := by decide +kernel
theorem dX3_put_37 : decode cX3_put 37 = .ok (.return_, 1) := by decide +kernel
theorem dX3_isSurelyFrozenBefore_0 : decode cX3_isSurelyFrozenBefore 0 = .ok (.iconst 0, 1) := by decide +kernel
theorem dX3_isSurelyFrozenBefore_1 : decode cX3_isSurelyFrozenBefore 1 = .ok (.istore_n 2, 1) := by decide +kernel
theorem dX3_isSurelyFrozenBefore_2 : decode cX3_isSurelyFrozenBefore 2 = .ok (.iload_n 2, 1) := by decide +kernel
theorem dX3_isSurelyFrozenBefore_3 : decode cX3_isSurelyFrozenBefore 3 = .ok (.iload_n 1, 1) := by decide +kernel
theorem dX3_isSurelyFrozenBefore_4 : decode cX3_isSurelyFrozenBefore 4 = .ok (.if_icmp .ge 55, 3) := by decide +kernel
theorem dX3_isSurelyFrozenBefore_7 : decode cX3_isSurelyFrozenBefore 7 = .ok (.aload_n 0, 1) := by decide +kernel
theorem dX3_isSurelyFrozenBefore_8 : decode cX3_isSurelyFrozenBefore 8 = .ok (.getfield 24, 3) := by decide +kernel
theorem dX3_isSurelyFrozenBefore_11 : decode cX3_isSurelyFrozenBefore 11 = .ok (.getfield 72, 3) := by decide +kernel
theorem dX3_isSurelyFrozenBefore_14 : decode cX3_isSurelyFrozenBefore 14 = .ok (.iload_n 2, 1) := by decide +kernel
theorem dX3_isSurelyFrozenBefore_15 : decode cX3_isSurelyFrozenBefore 15 = .ok (.iaload, 1) := by decide +kernel
theorem dX3_isSurelyFrozenBefore_16 : decode cX3_isSurelyFrozenBefore 16 = .ok (.istore_n 3, 1) := by decide +kernel
theorem dX3_isSurelyFrozenBefore_17 : decode cX3_isSurelyFrozenBefore 17 = .ok (.aload_n 0, 1) := by decide +kernel
theorem dX3_isSurelyFrozenBefore_18 : decode cX3_isSurelyFrozenBefore 18 = .ok (.getfield 24, 3) := by decide +kernel
theorem dX3_isSurelyFrozenBefore_21 : decode cX3_isSurelyFrozenBefore 21 = .ok (.getfield 64, 3) := by decide +kernel
theorem dX3_isSurelyFrozenBefore_24 : decode cX3_isSurelyFrozenBefore 24 = .ok (.iload_n 2, 1) := by decide +kernel
theorem dX3_isSurelyFrozenBefore_25 : decode cX3_isSurelyFrozenBefore 25 = .ok (.baload, 1) := by decide +kernel
theorem dX3_isSurelyFrozenBefore_26 : decode cX3_isSurelyFrozenBefore 26 = .ok (.ifCond .ne 27, 3) := by decide +kernel
theorem dX3_isSurelyFrozenBefore_29 : decode cX3_isSurelyFrozenBefore 29 = .ok (.aload_n 0, 1) := by decide +kernel
theorem dX3_isSurelyFrozenBefore_30 : decode cX3_isSurelyFrozenBefore 30 = .ok (.iload_n 2, 1) := by decide +kernel
theorem dX3_isSurelyFrozenBefore_31 : decode cX3_isSurelyFrozenBefore 31 = .ok (.iload_n 3, 1) := by decide +kernel
theorem dX3_isSurelyFrozenBefore_32 : decode cX3_isSurelyFrozenBefore 32 = .ok (.aload_n 0, 1) := by decide +kernel
theorem dX3_isSurelyFrozenBefore_33 : decode cX3_isSurelyFrozenBefore 33 = .ok (.getfield 18, 3) := by decide +kernel
theorem dX3_isSurelyFrozenBefore_36 : decode cX3_isSurelyFrozenBefore 36 = .ok (.iload_n 3, 1) := by decide +kernel
theorem dX3_isSurelyFrozenBefore_37 : decode cX3_isSurelyFrozenBefore 37 = .ok (.iaload, 1) := by decide +kernel
theorem dX3_isSurelyFrozenBefore_38 : decode cX3_isSurelyFrozenBefore 38 = .ok (.iconst 1, 1) := by decide +kernel
theorem dX3_isSurelyFrozenBefore_39 : decode cX3_isSurelyFrozenBefore 39 = .ok (.isub, 1) := by decide +kernel
theorem dX3_isSurelyFrozenBefore_40 : decode cX3_isSurelyFrozenBefore 40 = .ok (.aload_n 0, 1) := by decide +kernel
theorem dX3_isSurelyFrozenBefore_41 : decode cX3_isSurelyFrozenBefore 41 = .ok (.getfield 51, 3) := by decide +kernel
theorem dX3_isSurelyFrozenBefore_44 : decode cX3_isSurelyFrozenBefore 44 = .ok (.iadd, 1) := by decide +kernel
theorem dX3_isSurelyFrozenBefore_45 : decode cX3_isSurelyFrozenBefore 45 = .ok (.invokevirtual 81, 3) := by decide +kernel
theorem dX3_isSurelyFrozenBefore_48 : decode cX3_isSurelyFrozenBefore 48 = .ok (.ifCond .eq 5, 3) := by decide +kernel
theorem dX3_isSurelyFrozenBefore_51 : decode cX3_isSurelyFrozenBefore 51 = .ok (.iconst 1, 1) := by decide +kernel
theorem dX3_isSurelyFrozenBefore_52 : decode cX3_isSurelyFrozenBefore 52 = .ok (.ireturn, 1) := by decide +kernel
theorem dX3_isSurelyFrozenBefore_53 : decode cX3_isSurelyFrozenBefore 53 = .ok (.iinc 2 1, 3) := by decide +kernel
theorem dX3_isSurelyFrozenBefore_56 : decode cX3_isSurelyFrozenBefore 56 = .ok (.goto (-54), 3) := by decide +kernel
theorem dX3_isSurelyFrozenBefore_59 : decode cX3_isSurelyFrozenBefore 59 = .ok (.iconst 0, 1) := by decide +kernel
theorem dX3_isSurelyFrozenBefore_60 : decode cX3_isSurelyFrozenBefore 60 = .ok (.ireturn, 1) := by decide +kernel
theorem dX3_mostInReach_0 : decode cX3_mostInReach 0 = .ok (.aload_n 0, 1) := by decide +kernel
theorem dX3_mostInReach_1 : decode cX3_mostInReach 1 = .ok (.getfield 51, 3) := by decide +kernel
theorem dX3_mostInReach_4 : decode cX3_mostInReach 4 = .ok (.istore_n 1, 1) := by decide +kernel
theorem dX3_mostInReach_5 : decode cX3_mostInReach 5 = .ok (.iconst 0, 1) := by decide +kernel
theorem dX3_mostInReach_6 : decode cX3_mostInReach 6 = .ok (.istore_n 2, 1) := by decide +kernel
theorem dX3_mostInReach_7 : decode cX3_mostInReach 7 = .ok (.iconst 0, 1) := by decide +kernel
theorem dX3_mostInReach_8 : decode cX3_mostInReach 8 = .ok (.istore_n 3, 1) := by decide +kernel
theorem dX3_mostInReach_9 : decode cX3_mostInReach 9 = .ok (.iload_n 3, 1) := by decide +kernel
theorem dX3_mostInReach_10 : decode cX3_mostInReach 10 = .ok (.iconst 4, 1) := by decide +kernel
theorem dX3_mostInReach_11 : decode cX3_mostInReach 11 = .ok (.if_icmp .gt 55, 3) := by decide +kernel
theorem dX3_mostInReach_14 : decode cX3_mostInReach 14 = .ok (.iconst 0, 1) := by decide +kernel
theorem dX3_mostInReach_15 : decode cX3_mostInReach 15 = .ok (.istore 4, 2) := by decide +kernel
theorem dX3_mostInReach_17 : decode cX3_mostInReach 17 = .ok (.iload 4, 2) := by decide +kernel
theorem dX3_mostInReach_19 : decode cX3_mostInReach 19 = .ok (.aload_n 0, 1) := by decide +kernel
theorem dX3_mostInReach_20 : decode cX3_mostInReach 20 = .ok (.getfield 24, 3) := by decide +kernel
theorem dX3_mostInReach_23 : decode cX3_mostInReach 23 = .ok (.getfield 38, 3) := by decide +kernel
theorem dX3_mostInReach_26 : decode cX3_mostInReach 26 = .ok (.getfield 54, 3) := by decide +kernel
theorem dX3_mostInReach_29 : decode cX3_mostInReach 29 = .ok (.if_icmp .ge 31, 3) := by decide +kernel
theorem dX3_mostInReach_32 : decode cX3_mostInReach 32 = .ok (.iload_n 3, 1) := by decide +kernel
theorem dX3_mostInReach_33 : decode cX3_mostInReach 33 = .ok (.iload_n 1, 1) := by decide +kernel
theorem dX3_mostInReach_34 : decode cX3_mostInReach 34 = .ok (.if_icmp .gt 20, 3) := by decide +kernel
theorem dX3_mostInReach_37 : decode cX3_mostInReach 37 = .ok (.aload_n 0, 1) := by decide +kernel
theorem dX3_mostInReach_38 : decode cX3_mostInReach 38 = .ok (.iload 4, 2) := by decide +kernel
theorem dX3_mostInReach_40 : decode cX3_mostInReach 40 = .ok (.invokevirtual 128, 3) := by decide +kernel
theorem dX3_mostInReach_43 : decode cX3_mostInReach 43 = .ok (.iload_n 3, 1) := by decide +kernel
theorem dX3_mostInReach_44 : decode cX3_mostInReach 44 = .ok (.if_icmp .ne 10, 3) := by decide +kernel
theorem dX3_mostInReach_47 : decode cX3_mostInReach 47 = .ok (.iload_n 1, 1) := by decide +kernel
theorem dX3_mostInReach_48 : decode cX3_mostInReach 48 = .ok (.iload_n 3, 1) := by decide +kernel
theorem dX3_mostInReach_49 : decode cX3_mostInReach 49 = .ok (.isub, 1) := by decide +kernel
theorem dX3_mostInReach_50 : decode cX3_mostInReach 50 = .ok (.istore_n 1, 1) := by decide +kernel
theorem dX3_mostInReach_51 : decode cX3_mostInReach 51 = .ok (.iinc 2 1, 3) := by decide +kernel
theorem dX3_mostInReach_54 : decode cX3_mostInReach 54 = .ok (.iinc 4 1, 3) := by decide +kernel
theorem dX3_mostInReach_57 : decode cX3_mostInReach 57 = .ok (.goto (-40), 3) := by decide +kernel
theorem dX3_mostInReach_60 : decode cX3_mostInReach 60 = .ok (.iinc 3 1, 3) := by decide +kernel
theorem dX3_mostInReach_63 : decode cX3_mostInReach 63 = .ok (.goto (-54), 3) := by decide +kernel
theorem dX3_mostInReach_66 : decode cX3_mostInReach 66 = .ok (.iload_n 2, 1) := by decide +kernel
theorem dX3_mostInReach_67 : decode cX3_mostInReach 67 = .ok (.ireturn, 1) := by decide +kernel
theorem dX3_priceOf_0 : decode cX3_priceOf 0 = .ok (.aload_n 0, 1) := by decide +kernel
theorem dX3_priceOf_1 : decode cX3_priceOf 1 = .ok (.getfield 18, 3) := by decide +kernel
theorem dX3_priceOf_4 : decode cX3_priceOf 4 = .ok (.aload_n 0, 1) := by decide +kernel
theorem dX3_priceOf_5 : decode cX3_priceOf 5 = .ok (.getfield 24, 3) := by decide +kernel
theorem dX3_priceOf_8 : decode cX3_priceOf 8 = .ok (.getfield 38, 3) := by decide +kernel
theorem dX3_priceOf_11 : decode cX3_priceOf 11 = .ok (.getfield 75, 3) := by decide +kernel
theorem dX3_priceOf_14 : decode cX3_priceOf 14 = .ok (.iload_n 1, 1) := by decide +kernel
theorem dX3_priceOf_15 : decode cX3_priceOf 15 = .ok (.iaload, 1) := by decide +kernel
theorem dX3_priceOf_16 : decode cX3_priceOf 16 = .ok (.iaload, 1) := by decide +kernel
theorem dX3_priceOf_17 : decode cX3_priceOf 17 = .ok (.istore_n 2, 1) := by decide +kernel
theorem dX3_priceOf_18 : decode cX3_priceOf 18 = .ok (.aload_n 0, 1) := by decide +kernel
theorem dX3_priceOf_19 : decode cX3_priceOf 19 = .ok (.getfield 24, 3) := by decide +kernel
theorem dX3_priceOf_22 : decode cX3_priceOf 22 = .ok (.getfield 38, 3) := by decide +kernel
theorem dX3_priceOf_25 : decode cX3_priceOf 25 = .ok (.getfield 102, 3) := by decide +kernel
theorem dX3_priceOf_28 : decode cX3_priceOf 28 = .ok (.iload_n 1, 1) := by decide +kernel
theorem dX3_priceOf_29 : decode cX3_priceOf 29 = .ok (.iaload, 1) := by decide +kernel
theorem dX3_priceOf_30 : decode cX3_priceOf 30 = .ok (.iload_n 2, 1) := by decide +kernel
theorem dX3_priceOf_31 : decode cX3_priceOf 31 = .ok (.isub, 1) := by decide +kernel
theorem dX3_priceOf_32 : decode cX3_priceOf 32 = .ok (.iconst 0, 1) := by decide +kernel
theorem dX3_priceOf_33 : decode cX3_priceOf 33 = .ok (.invokestatic 105, 3) := by decide +kernel
theorem dX3_priceOf_36 : decode cX3_priceOf 36 = .ok (.aload_n 0, 1) := by decide +kernel
theorem dX3_priceOf_37 : decode cX3_priceOf 37 = .ok (.getfield 15, 3) := by decide +kernel
theorem dX3_priceOf_40 : decode cX3_priceOf 40 = .ok (.iload_n 1, 1) := by decide +kernel
theorem dX3_priceOf_41 : decode cX3_priceOf 41 = .ok (.iaload, 1) := by decide +kernel
theorem dX3_priceOf_42 : decode cX3_priceOf 42 = .ok (.iload_n 2, 1) := by decide +kernel
theorem dX3_priceOf_43 : decode cX3_priceOf 43 = .ok (.isub, 1) := by decide +kernel
theorem dX3_priceOf_44 : decode cX3_priceOf 44 = .ok (.iconst 0, 1) := by decide +kernel
theorem dX3_priceOf_45 : decode cX3_priceOf 45 = .ok (.invokestatic 105, 3) := by decide +kernel
theorem dX3_priceOf_48 : decode cX3_priceOf 48 = .ok (.isub, 1) := by decide +kernel
theorem dX3_priceOf_49 : decode cX3_priceOf 49 = .ok (.ireturn, 1) := by decide +kernel
theorem dX3_takeIfBetter_0 : decode cX3_takeIfBetter 0 = .ok (.iconst 0, 1) := by decide +kernel
theorem dX3_takeIfBetter_1 : decode cX3_takeIfBetter 1 = .ok (.istore_n 1, 1) := by decide +kernel
theorem dX3_takeIfBetter_2 : decode cX3_takeIfBetter 2 = .ok (.iconst 0, 1) := by decide +kernel
theorem dX3_takeIfBetter_3 : decode cX3_takeIfBetter 3 = .ok (.istore_n 2, 1) := by decide +kernel
theorem dX3_takeIfBetter_4 : decode cX3_takeIfBetter 4 = .ok (.iload_n 2, 1) := by decide +kernel
theorem dX3_takeIfBetter_5 : decode cX3_takeIfBetter 5 = .ok (.aload_n 0, 1) := by decide +kernel
theorem dX3_takeIfBetter_6 : decode cX3_takeIfBetter 6 = .ok (.getfield 24, 3) := by decide +kernel
theorem dX3_takeIfBetter_9 : decode cX3_takeIfBetter 9 = .ok (.getfield 38, 3) := by decide +kernel
theorem dX3_takeIfBetter_12 : decode cX3_takeIfBetter 12 = .ok (.getfield 54, 3) := by decide +kernel
theorem dX3_takeIfBetter_15 : decode cX3_takeIfBetter 15 = .ok (.if_icmp .ge 52, 3) := by decide +kernel
theorem dX3_takeIfBetter_18 : decode cX3_takeIfBetter 18 = .ok (.iload_n 1, 1) := by decide +kernel
theorem dX3_takeIfBetter_19 : decode cX3_takeIfBetter 19 = .ok (.aload_n 0, 1) := by decide +kernel
theorem dX3_takeIfBetter_20 : decode cX3_takeIfBetter 20 = .ok (.getfield 18, 3) := by decide +kernel
theorem dX3_takeIfBetter_23 : decode cX3_takeIfBetter 23 = .ok (.aload_n 0, 1) := by decide +kernel
theorem dX3_takeIfBetter_24 : decode cX3_takeIfBetter 24 = .ok (.getfield 24, 3) := by decide +kernel
theorem dX3_takeIfBetter_27 : decode cX3_takeIfBetter 27 = .ok (.getfield 38, 3) := by decide +kernel
theorem dX3_takeIfBetter_30 : decode cX3_takeIfBetter 30 = .ok (.getfield 75, 3) := by decide +kernel
theorem dX3_takeIfBetter_33 : decode cX3_takeIfBetter 33 = .ok (.iload_n 2, 1) := by decide +kernel
theorem dX3_takeIfBetter_34 : decode cX3_takeIfBetter 34 = .ok (.iaload, 1) := by decide +kernel
theorem dX3_takeIfBetter_35 : decode cX3_takeIfBetter 35 = .ok (.iaload, 1) := by decide +kernel
theorem dX3_takeIfBetter_36 : decode cX3_takeIfBetter 36 = .ok (.aload_n 0, 1) := by decide +kernel
theorem dX3_takeIfBetter_37 : decode cX3_takeIfBetter 37 = .ok (.getfield 24, 3) := by decide +kernel
theorem dX3_takeIfBetter_40 : decode cX3_takeIfBetter 40 = .ok (.getfield 38, 3) := by decide +kernel
theorem dX3_takeIfBetter_43 : decode cX3_takeIfBetter 43 = .ok (.getfield 102, 3) := by decide +kernel
theorem dX3_takeIfBetter_46 : decode cX3_takeIfBetter 46 = .ok (.iload_n 2, 1) := by decide +kernel
theorem dX3_takeIfBetter_47 : decode cX3_takeIfBetter 47 = .ok (.iaload, 1) := by decide +kernel
theorem dX3_takeIfBetter_48 : decode cX3_takeIfBetter 48 = .ok (.if_icmp .lt 7, 3) := by decide +kernel
theorem dX3_takeIfBetter_51 : decode cX3_takeIfBetter 51 = .ok (.iconst 1, 1) := by decide +kernel
theorem dX3_takeIfBetter_52 : decode cX3_takeIfBetter 52 = .ok (.goto 4, 3) := by decide +kernel
theorem dX3_takeIfBetter_55 : decode cX3_takeIfBetter 55 = .ok (.iconst 0, 1) := by decide +kernel
theorem dX3_takeIfBetter_56 : decode cX3_takeIfBetter 56 = .ok (.invokestatic 131, 3) := by decide +kernel
theorem dX3_takeIfBetter_59 : decode cX3_takeIfBetter 59 = .ok (.iadd, 1) := by decide +kernel
theorem dX3_takeIfBetter_60 : decode cX3_takeIfBetter 60 = .ok (.istore_n 1, 1) := by decide +kernel
theorem dX3_takeIfBetter_61 : decode cX3_takeIfBetter 61 = .ok (.iinc 2 1, 3) := by decide +kernel
theorem dX3_takeIfBetter_64 : decode cX3_takeIfBetter 64 = .ok (.goto (-60), 3) := by decide +kernel
theorem dX3_takeIfBetter_67 : decode cX3_takeIfBetter 67 = .ok (.iload_n 1, 1) := by decide +kernel
theorem dX3_takeIfBetter_68 : decode cX3_takeIfBetter 68 = .ok (.aload_n 0, 1) := by decide +kernel
theorem dX3_takeIfBetter_69 : decode cX3_takeIfBetter 69 = .ok (.getfield 34, 3) := by decide +kernel
theorem dX3_takeIfBetter_72 : decode cX3_takeIfBetter 72 = .ok (.if_icmp .le 62, 3) := by decide +kernel
theorem dX3_takeIfBetter_75 : decode cX3_takeIfBetter 75 = .ok (.aload_n 0, 1) := by decide +kernel
theorem dX3_takeIfBetter_76 : decode cX3_takeIfBetter 76 = .ok (.iload_n 1, 1) := by decide +kernel
theorem dX3_takeIfBetter_77 : decode cX3_takeIfBetter 77 = .ok (.putfield 34, 3) := by decide +kernel
theorem dX3_takeIfBetter_80 : decode cX3_takeIfBetter 80 = .ok (.iconst 0, 1) := by decide +kernel
theorem dX3_takeIfBetter_81 : decode cX3_takeIfBetter 81 = .ok (.istore_n 2, 1) := by decide +kernel
theorem dX3_takeIfBetter_82 : decode cX3_takeIfBetter 82 = .ok (.iload_n 2, 1) := by decide +kernel
theorem dX3_takeIfBetter_83 : decode cX3_takeIfBetter 83 = .ok (.aload_n 0, 1) := by decide +kernel
theorem dX3_takeIfBetter_84 : decode cX3_takeIfBetter 84 = .ok (.getfield 24, 3) := by decide +kernel
theorem dX3_takeIfBetter_87 : decode cX3_takeIfBetter 87 = .ok (.getfield 38, 3) := by decide +kernel
theorem dX3_takeIfBetter_90 : decode cX3_takeIfBetter 90 = .ok (.getfield 42, 3) := by decide +kernel
theorem dX3_takeIfBetter_93 : decode cX3_takeIfBetter 93 = .ok (.if_icmp .ge 41, 3) := by decide +kernel
theorem dX3_takeIfBetter_96 : decode cX3_takeIfBetter 96 = .ok (.aload_n 0, 1) := by decide +kernel
theorem dX3_takeIfBetter_97 : decode cX3_takeIfBetter 97 = .ok (.getfield 21, 3) := by decide +kernel
theorem dX3_takeIfBetter_100 : decode cX3_takeIfBetter 100 = .ok (.iload_n 2, 1) := by decide +kernel
theorem dX3_takeIfBetter_101 : decode cX3_takeIfBetter 101 = .ok (.aload_n 0, 1) := by decide +kernel
theorem dX3_takeIfBetter_102 : decode cX3_takeIfBetter 102 = .ok (.getfield 24, 3) := by decide +kernel
theorem dX3_takeIfBetter_105 : decode cX3_takeIfBetter 105 = .ok (.getfield 64, 3) := by decide +kernel
theorem dX3_takeIfBetter_108 : decode cX3_takeIfBetter 108 = .ok (.iload_n 2, 1) := by decide +kernel
theorem dX3_takeIfBetter_109 : decode cX3_takeIfBetter 109 = .ok (.baload, 1) := by decide +kernel
theorem dX3_takeIfBetter_110 : decode cX3_takeIfBetter 110 = .ok (.ifCond .eq 8, 3) := by decide +kernel
theorem dX3_takeIfBetter_113 : decode cX3_takeIfBetter 113 = .ok (.bipush (-4), 2) := by decide +kernel
theorem dX3_takeIfBetter_115 : decode cX3_takeIfBetter 115 = .ok (.goto 12, 3) := by decide +kernel
theorem dX3_takeIfBetter_118 : decode cX3_takeIfBetter 118 = .ok (.aload_n 0, 1) := by decide +kernel
theorem dX3_takeIfBetter_119 : decode cX3_takeIfBetter 119 = .ok (.getfield 24, 3) := by decide +kernel
theorem dX3_takeIfBetter_122 : decode cX3_takeIfBetter 122 = .ok (.getfield 72, 3) := by decide +kernel
theorem dX3_takeIfBetter_125 : decode cX3_takeIfBetter 125 = .ok (.iload_n 2, 1) := by decide +kernel
theorem dX3_takeIfBetter_126 : decode cX3_takeIfBetter 126 = .ok (.iaload, 1) := by decide +kernel
theorem dX3_takeIfBetter_127 : decode cX3_takeIfBetter 127 = .ok (.iastore, 1) := by decide +kernel
theorem dX3_takeIfBetter_128 : decode cX3_takeIfBetter 128 = .ok (.iinc 2 1, 3) := by decide +kernel
theorem dX3_takeIfBetter_131 : decode cX3_takeIfBetter 131 = .ok (.goto (-49), 3) := by decide +kernel
theorem dX3_takeIfBetter_134 : decode cX3_takeIfBetter 134 = .ok (.return_, 1) := by decide +kernel
theorem dX4_init_0 : decode cX4_init 0 = .ok (.aload_n 0, 1) := by decide +kernel
theorem dX4_init_1 : decode cX4_init 1 = .ok (.invokespecial 3, 3) := by decide +kernel
theorem dX4_init_4 : decode cX4_init 4 = .ok (.aload_n 0, 1) := by decide +kernel
theorem dX4_init_5 : decode cX4_init 5 = .ok (.bipush 6, 2) := by decide +kernel
theorem dX4_init_7 : decode cX4_init 7 = .ok (.newarray .int, 2) := by decide +kernel
theorem dX4_init_9 : decode cX4_init 9 = .ok (.putfield 9, 3) := by decide +kernel
theorem dX4_init_12 : decode cX4_init 12 = .ok (.aload_n 0, 1) := by decide +kernel
theorem dX4_init_13 : decode cX4_init 13 = .ok (.bipush 6, 2) := by decide +kernel
theorem dX4_init_15 : decode cX4_init 15 = .ok (.newarray .int, 2) := by decide +kernel
theorem dX4_init_17 : decode cX4_init 17 = .ok (.putfield 15, 3) := by decide +kernel
theorem dX4_init_20 : decode cX4_init 20 = .ok (.aload_n 0, 1) := by decide +kernel
theorem dX4_init_21 : decode cX4_init 21 = .ok (.bipush 6, 2) := by decide +kernel
theorem dX4_init_23 : decode cX4_init 23 = .ok (.newarray .boolean, 2) := by decide +kernel
theorem dX4_init_25 : decode cX4_init 25 = .ok (.putfield 18, 3) := by decide +kernel
theorem dX4_init_28 : decode cX4_init 28 = .ok (.return_, 1) := by decide +kernel
theorem dX4_add_0 : decode cX4_add 0 = .ok (.aload_n 0, 1) := by decide +kernel
theorem dX4_add_1 : decode cX4_add 1 = .ok (.getfield 22, 3) := by decide +kernel
theorem dX4_add_4 : decode cX4_add 4 = .ok (.bipush 6, 2) := by decide +kernel
theorem dX4_add_6 : decode cX4_add 6 = .ok (.if_icmp .lt 5, 3) := by decide +kernel
theorem dX4_add_9 : decode cX4_add 9 = .ok (.iconst 0, 1) := by decide +kernel
theorem dX4_add_10 : decode cX4_add 10 = .ok (.ireturn, 1) := by decide +kernel
theorem dX4_add_11 : decode cX4_add 11 = .ok (.aload_n 0, 1) := by decide +kernel
theorem dX4_add_12 : decode cX4_add 12 = .ok (.getfield 9, 3) := by decide +kernel
theorem dX4_add_15 : decode cX4_add 15 = .ok (.aload_n 0, 1) := by decide +kernel
theorem dX4_add_16 : decode cX4_add 16 = .ok (.getfield 22, 3) := by decide +kernel
theorem dX4_add_19 : decode cX4_add 19 = .ok (.iload_n 1, 1) := by decide +kernel
theorem dX4_add_20 : decode cX4_add 20 = .ok (.iastore, 1) := by decide +kernel
theorem dX4_add_21 : decode cX4_add 21 = .ok (.aload_n 0, 1) := by decide +kernel
theorem dX4_add_22 : decode cX4_add 22 = .ok (.getfield 15, 3) := by decide +kernel
theorem dX4_add_25 : decode cX4_add 25 = .ok (.aload_n 0, 1) := by decide +kernel
theorem dX4_add_26 : decode cX4_add 26 = .ok (.getfield 22, 3) := by decide +kernel
theorem dX4_add_29 : decode cX4_add 29 = .ok (.iload_n 2, 1) := by decide +kernel
theorem dX4_add_30 : decode cX4_add 30 = .ok (.iastore, 1) := by decide +kernel
theorem dX4_add_31 : decode cX4_add 31 = .ok (.aload_n 0, 1) := by decide +kernel
theorem dX4_add_32 : decode cX4_add 32 = .ok (.getfield 18, 3) := by decide +kernel
theorem dX4_add_35 : decode cX4_add 35 = .ok (.aload_n 0, 1) := by decide +kernel
theorem dX4_add_36 : decode cX4_add 36 = .ok (.getfield 22, 3) := by decide +kernel
theorem dX4_add_39 : decode cX4_add 39 = .ok (.iload_n 3, 1) := by decide +kernel
theorem dX4_add_40 : decode cX4_add 40 = .ok (.bastore, 1) := by decide +kernel
theorem dX4_add_41 : decode cX4_add 41 = .ok (.aload_n 0, 1) := by decide +kernel
theorem dX4_add_42 : decode cX4_add 42 = .ok (.dup, 1) := by decide +kernel
theorem dX4_add_43 : decode cX4_add 43 = .ok (.getfield 22, 3) := by decide +kernel
theorem dX4_add_46 : decode cX4_add 46 = .ok (.iconst 1, 1) := by decide +kernel
theorem dX4_add_47 : decode cX4_add 47 = .ok (.iadd, 1) := by decide +kernel
theorem dX4_add_48 : decode cX4_add 48 = .ok (.putfield 22, 3) := by decide +kernel
theorem dX4_add_51 : decode cX4_add 51 = .ok (.iconst 1, 1) := by decide +kernel
theorem dX4_add_52 : decode cX4_add 52 = .ok (.ireturn, 1) := by decide +kernel
theorem dX4_clear_0 : decode cX4_clear 0 = .ok (.aload_n 0, 1) := by decide +kernel
theorem dX4_clear_1 : decode cX4_clear 1 = .ok (.iconst 0, 1) := by decide +kernel
theorem dX4_clear_2 : decode cX4_clear 2 = .ok (.putfield 22, 3) := by decide +kernel
theorem dX4_clear_5 : decode cX4_clear 5 = .ok (.return_, 1) := by decide +kernel
theorem dX4_wouldHold_0 : decode cX4_wouldHold 0 = .ok (.iconst 0, 1) := by decide +kernel
theorem dX4_wouldHold_1 : decode cX4_wouldHold 1 = .ok (.istore 5, 2) := by decide +kernel
theorem dX4_wouldHold_3 : decode cX4_wouldHold 3 = .ok (.iload 5, 2) := by decide +kernel
theorem dX4_wouldHold_5 : decode cX4_wouldHold 5 = .ok (.aload_n 0, 1) := by decide +kernel
theorem dX4_wouldHold_6 : decode cX4_wouldHold 6 = .ok (.getfield 22, 3) := by decide +kernel
theorem dX4_wouldHold_9 : decode cX4_wouldHold 9 = .ok (.if_icmp .ge 55, 3) := by decide +kernel
theorem dX4_wouldHold_12 : decode cX4_wouldHold 12 = .ok (.aload_n 0, 1) := by decide +kernel
theorem dX4_wouldHold_13 : decode cX4_wouldHold 13 = .ok (.getfield 9, 3) := by decide +kernel
theorem dX4_wouldHold_16 : decode cX4_wouldHold 16 = .ok (.iload 5, 2) := by decide +kernel
theorem dX4_wouldHold_18 : decode cX4_wouldHold 18 = .ok (.iaload, 1) := by decide +kernel
theorem dX4_wouldHold_19 : decode cX4_wouldHold 19 = .ok (.iload_n 2, 1) := by decide +kernel
theorem dX4_wouldHold_20 : decode cX4_wouldHold 20 = .ok (.if_icmp .ne 38, 3) := by decide +kernel
theorem dX4_wouldHold_23 : decode cX4_wouldHold 23 = .ok (.aload_n 1, 1) := by decide +kernel
theorem dX4_wouldHold_24 : decode cX4_wouldHold 24 = .ok (.iload_n 3, 1) := by decide +kernel
theorem dX4_wouldHold_25 : decode cX4_wouldHold 25 = .ok (.iload_n 2, 1) := by decide +kernel
theorem dX4_wouldHold_26 : decode cX4_wouldHold 26 = .ok (.aload_n 0, 1) := by decide +kernel
theorem dX4_wouldHold_27 : decode cX4_wouldHold 27 = .ok (.getfield 15, 3) := by decide +kernel
theorem dX4_wouldHold_30 : decode cX4_wouldHold 30 = .ok (.iload 5, 2) := by decide +kernel
theorem dX4_wouldHold_32 : decode cX4_wouldHold 32 = .ok (.iaload, 1) := by decide +kernel
theorem dX4_wouldHold_33 : decode cX4_wouldHold 33 = .ok (.invokevirtual 26, 3) := by decide +kernel
theorem dX4_wouldHold_36 : decode cX4_wouldHold 36 = .ok (.iload 4, 2) := by decide +kernel
theorem dX4_wouldHold_38 : decode cX4_wouldHold 38 = .ok (.if_icmp .le 7, 3) := by decide +kernel
theorem dX4_wouldHold_41 : decode cX4_wouldHold 41 = .ok (.iconst 1, 1) := by decide +kernel
theorem dX4_wouldHold_42 : decode cX4_wouldHold 42 = .ok (.goto 4, 3) := by decide +kernel
theorem dX4_wouldHold_45 : decode cX4_wouldHold 45 = .ok (.iconst 0, 1) := by decide +kernel
theorem dX4_wouldHold_46 : decode cX4_wouldHold 46 = .ok (.aload_n 0, 1) := by decide +kernel
theorem dX4_wouldHold_47 : decode cX4_wouldHold 47 = .ok (.getfield 18, 3) := by decide +kernel
theorem dX4_wouldHold_50 : decode cX4_wouldHold 50 = .ok (.iload 5, 2) := by decide +kernel
theorem dX4_wouldHold_52 : decode cX4_wouldHold 52 = .ok (.baload, 1) := by decide +kernel
theorem dX4_wouldHold_53 : decode cX4_wouldHold 53 = .ok (.if_icmp .eq 5, 3) := by decide +kernel
theorem dX4_wouldHold_56 : decode cX4_wouldHold 56 = .ok (.iconst 0, 1) := by decide +kernel
theorem dX4_wouldHold_57 : decode cX4_wouldHold 57 = .ok (.ireturn, 1) := by decide +kernel
theorem dX4_wouldHold_58 : decode cX4_wouldHold 58 = .ok (.iinc 5 1, 3) := by decide +kernel
theorem dX4_wouldHold_61 : decode cX4_wouldHold 61 = .ok (.goto (-58), 3) := by decide +kernel
theorem dX4_wouldHold_64 : decode cX4_wouldHold 64 = .ok (.iconst 1, 1) := by decide +kernel
theorem dX4_wouldHold_65 : decode cX4_wouldHold 65 = .ok (.ireturn, 1) := by decide +kernel
theorem dX5_init_0 : decode cX5_init 0 = .ok (.aload_n 0, 1) := by decide +kernel
theorem dX5_init_1 : decode cX5_init 1 = .ok (.invokespecial 1, 3) := by decide +kernel
theorem dX5_init_4 : decode cX5_init 4 = .ok (.aload_n 0, 1) := by decide +kernel
theorem dX5_init_5 : decode cX5_init 5 = .ok (.aload_n 1, 1) := by decide +kernel
theorem dX5_init_6 : decode cX5_init 6 = .ok (.putfield 7, 3) := by decide +kernel
theorem dX5_init_9 : decode cX5_init 9 = .ok (.return_, 1) := by decide +kernel
theorem dX5_search_0 : decode cX5_search 0 = .ok (.aload_n 0, 1) := by decide +kernel
theorem dX5_search_1 : decode cX5_search 1 = .ok (.iconst (-1), 1) := by decide +kernel
theorem dX5_search_2 : decode cX5_search 2 = .ok (.putfield 13, 3) := by decide +kernel
theorem dX5_search_5 : decode cX5_search 5 = .ok (.aload_n 0, 1) := by decide +kernel
theorem dX5_search_6 : decode cX5_search 6 = .ok (.getfield 7, 3) := by decide +kernel
theorem dX5_search_9 : decode cX5_search 9 = .ok (.aload_n 1, 1) := by decide +kernel
theorem dX5_search_10 : decode cX5_search 10 = .ok (.invokevirtual 17, 3) := by decide +kernel
theorem dX5_search_13 : decode cX5_search 13 = .ok (.iconst 0, 1) := by decide +kernel
theorem dX5_search_14 : decode cX5_search 14 = .ok (.istore_n 2, 1) := by decide +kernel
theorem dX5_search_15 : decode cX5_search 15 = .ok (.iload_n 2, 1) := by decide +kernel
theorem dX5_search_16 : decode cX5_search 16 = .ok (.aload_n 0, 1) := by decide +kernel
theorem dX5_search_17 : decode cX5_search 17 = .ok (.getfield 7, 3) := by decide +kernel
theorem dX5_search_20 : decode cX5_search 20 = .ok (.getfield 23, 3) := by decide +kernel
theorem dX5_search_23 : decode cX5_search 23 = .ok (.getfield 27, 3) := by decide +kernel
theorem dX5_search_26 : decode cX5_search 26 = .ok (.if_icmp .ge 84, 3) := by decide +kernel
theorem dX5_search_29 : decode cX5_search 29 = .ok (.iload_n 2, 1) := by decide +kernel
theorem dX5_search_30 : decode cX5_search 30 = .ok (.iconst 1, 1) := by decide +kernel
theorem dX5_search_31 : decode cX5_search 31 = .ok (.iadd, 1) := by decide +kernel
theorem dX5_search_32 : decode cX5_search 32 = .ok (.istore_n 3, 1) := by decide +kernel
theorem dX5_search_33 : decode cX5_search 33 = .ok (.iload_n 3, 1) := by decide +kernel
theorem dX5_search_34 : decode cX5_search 34 = .ok (.aload_n 0, 1) := by decide +kernel
theorem dX5_search_35 : decode cX5_search 35 = .ok (.getfield 7, 3) := by decide +kernel
theorem dX5_search_38 : decode cX5_search 38 = .ok (.getfield 23, 3) := by decide +kernel
theorem dX5_search_41 : decode cX5_search 41 = .ok (.getfield 27, 3) := by decide +kernel
theorem dX5_search_44 : decode cX5_search 44 = .ok (.if_icmp .ge 60, 3) := by decide +kernel
theorem dX5_search_47 : decode cX5_search 47 = .ok (.aload_n 0, 1) := by decide +kernel
theorem dX5_search_48 : decode cX5_search 48 = .ok (.getfield 7, 3) := by decide +kernel
theorem dX5_search_51 : decode cX5_search 51 = .ok (.getfield 32, 3) := by decide +kernel
theorem dX5_search_54 : decode cX5_search 54 = .ok (.iload_n 2, 1) := by decide +kernel
theorem dX5_search_55 : decode cX5_search 55 = .ok (.baload, 1) := by decide +kernel
theorem dX5_search_56 : decode cX5_search 56 = .ok (.ifCond .ne 42, 3) := by decide +kernel
theorem dX5_search_59 : decode cX5_search 59 = .ok (.aload_n 0, 1) := by decide +kernel
theorem dX5_search_60 : decode cX5_search 60 = .ok (.getfield 7, 3) := by decide +kernel
theorem dX5_search_63 : decode cX5_search 63 = .ok (.getfield 32, 3) := by decide +kernel
theorem dX5_search_66 : decode cX5_search 66 = .ok (.iload_n 3, 1) := by decide +kernel
theorem dX5_search_67 : decode cX5_search 67 = .ok (.baload, 1) := by decide +kernel
theorem dX5_search_68 : decode cX5_search 68 = .ok (.ifCond .ne 30, 3) := by decide +kernel
theorem dX5_search_71 : decode cX5_search 71 = .ok (.aload_n 0, 1) := by decide +kernel
theorem dX5_search_72 : decode cX5_search 72 = .ok (.getfield 7, 3) := by decide +kernel
theorem dX5_search_75 : decode cX5_search 75 = .ok (.getfield 36, 3) := by decide +kernel
theorem dX5_search_78 : decode cX5_search 78 = .ok (.iload_n 2, 1) := by decide +kernel
theorem dX5_search_79 : decode cX5_search 79 = .ok (.iaload, 1) := by decide +kernel
theorem dX5_search_80 : decode cX5_search 80 = .ok (.aload_n 0, 1) := by decide +kernel
theorem dX5_search_81 : decode cX5_search 81 = .ok (.getfield 7, 3) := by decide +kernel
theorem dX5_search_84 : decode cX5_search 84 = .ok (.getfield 36, 3) := by decide +kernel
theorem dX5_search_87 : decode cX5_search 87 = .ok (.iload_n 3, 1) := by decide +kernel
theorem dX5_search_88 : decode cX5_search 88 = .ok (.iaload, 1) := by decide +kernel
theorem dX5_search_89 : decode cX5_search 89 = .ok (.if_icmp .eq 9, 3) := by decide +kernel
theorem dX5_search_92 : decode cX5_search 92 = .ok (.aload_n 0, 1) := by decide +kernel
theorem dX5_search_93 : decode cX5_search 93 = .ok (.iload_n 2, 1) := by decide +kernel
theorem dX5_search_94 : decode cX5_search 94 = .ok (.iload_n 3, 1) := by decide +kernel
theorem dX5_search_95 : decode cX5_search 95 = .ok (.invokevirtual 40, 3) := by decide +kernel
theorem dX5_search_98 : decode cX5_search 98 = .ok (.iinc 3 1, 3) := by decide +kernel
theorem dX5_search_101 : decode cX5_search 101 = .ok (.goto (-68), 3) := by decide +kernel
theorem dX5_search_104 : decode cX5_search 104 = .ok (.iinc 2 1, 3) := by decide +kernel
theorem dX5_search_107 : decode cX5_search 107 = .ok (.goto (-92), 3) := by decide +kernel
theorem dX5_search_110 : decode cX5_search 110 = .ok (.return_, 1) := by decide +kernel
theorem dX5_takeIfBetter_0 : decode cX5_takeIfBetter 0 = .ok (.aload_n 0, 1) := by decide +kernel
theorem dX5_takeIfBetter_1 : decode cX5_takeIfBetter 1 = .ok (.iload_n 1, 1) := by decide +kernel
theorem dX5_takeIfBetter_2 : decode cX5_takeIfBetter 2 = .ok (.iload_n 2, 1) := by decide +kernel
theorem dX5_takeIfBetter_3 : decode cX5_takeIfBetter 3 = .ok (.invokevirtual 44, 3) := by decide +kernel
theorem dX5_takeIfBetter_6 : decode cX5_takeIfBetter 6 = .ok (.aload_n 0, 1) := by decide +kernel
theorem dX5_takeIfBetter_7 : decode cX5_takeIfBetter 7 = .ok (.getfield 7, 3) := by decide +kernel
theorem dX5_takeIfBetter_10 : decode cX5_takeIfBetter 10 = .ok (.invokevirtual 47, 3) := by decide +kernel
theorem dX5_takeIfBetter_13 : decode cX5_takeIfBetter 13 = .ok (.istore_n 3, 1) := by decide +kernel
theorem dX5_takeIfBetter_14 : decode cX5_takeIfBetter 14 = .ok (.aload_n 0, 1) := by decide +kernel
theorem dX5_takeIfBetter_15 : decode cX5_takeIfBetter 15 = .ok (.iload_n 1, 1) := by decide +kernel
theorem dX5_takeIfBetter_16 : decode cX5_takeIfBetter 16 = .ok (.iload_n 2, 1) := by decide +kernel
theorem dX5_takeIfBetter_17 : decode cX5_takeIfBetter 17 = .ok (.invokevirtual 44, 3) := by decide +kernel
theorem dX5_takeIfBetter_20 : decode cX5_takeIfBetter 20 = .ok (.iload_n 3, 1) := by decide +kernel
theorem dX5_takeIfBetter_21 : decode cX5_takeIfBetter 21 = .ok (.aload_n 0, 1) := by decide +kernel
theorem dX5_takeIfBetter_22 : decode cX5_takeIfBetter 22 = .ok (.getfield 13, 3) := by decide +kernel
theorem dX5_takeIfBetter_25 : decode cX5_takeIfBetter 25 = .ok (.if_icmp .le 18, 3) := by decide +kernel
theorem dX5_takeIfBetter_28 : decode cX5_takeIfBetter 28 = .ok (.aload_n 0, 1) := by decide +kernel
theorem dX5_takeIfBetter_29 : decode cX5_takeIfBetter 29 = .ok (.iload_n 3, 1) := by decide +kernel
theorem dX5_takeIfBetter_30 : decode cX5_takeIfBetter 30 = .ok (.putfield 13, 3) := by decide +kernel
theorem dX5_takeIfBetter_33 : decode cX5_takeIfBetter 33 = .ok (.aload_n 0, 1) := by decide +kernel
theorem dX5_takeIfBetter_34 : decode cX5_takeIfBetter 34 = .ok (.bipush 10, 2) := by decide +kernel
theorem dX5_takeIfBetter_36 : decode cX5_takeIfBetter 36 = .ok (.iload_n 1, 1) := by decide +kernel
theorem dX5_takeIfBetter_37 : decode cX5_takeIfBetter 37 = .ok (.imul, 1) := by decide +kernel
theorem dX5_takeIfBetter_38 : decode cX5_takeIfBetter 38 = .ok (.iload_n 2, 1) := by decide +kernel
theorem dX5_takeIfBetter_39 : decode cX5_takeIfBetter 39 = .ok (.iadd, 1) := by decide +kernel
theorem dX5_takeIfBetter_40 : decode cX5_takeIfBetter 40 = .ok (.putfield 51, 3) := by decide +kernel
theorem dX5_takeIfBetter_43 : decode cX5_takeIfBetter 43 = .ok (.return_, 1) := by decide +kernel
theorem dX5_changePlaces_0 : decode cX5_changePlaces 0 = .ok (.aload_n 0, 1) := by decide +kernel
theorem dX5_changePlaces_1 : decode cX5_changePlaces 1 = .ok (.getfield 7, 3) := by decide +kernel
theorem dX5_changePlaces_4 : decode cX5_changePlaces 4 = .ok (.getfield 36, 3) := by decide +kernel
theorem dX5_changePlaces_7 : decode cX5_changePlaces 7 = .ok (.iload_n 1, 1) := by decide +kernel
theorem dX5_changePlaces_8 : decode cX5_changePlaces 8 = .ok (.iaload, 1) := by decide +kernel
theorem dX5_changePlaces_9 : decode cX5_changePlaces 9 = .ok (.istore_n 3, 1) := by decide +kernel
theorem dX5_changePlaces_10 : decode cX5_changePlaces 10 = .ok (.aload_n 0, 1) := by decide +kernel
theorem dX5_changePlaces_11 : decode cX5_changePlaces 11 = .ok (.getfield 7, 3) := by decide +kernel
theorem dX5_changePlaces_14 : decode cX5_changePlaces 14 = .ok (.getfield 36, 3) := by decide +kernel
theorem dX5_changePlaces_17 : decode cX5_changePlaces 17 = .ok (.iload_n 1, 1) := by decide +kernel
theorem dX5_changePlaces_18 : decode cX5_changePlaces 18 = .ok (.aload_n 0, 1) := by decide +kernel
theorem dX5_changePlaces_19 : decode cX5_changePlaces 19 = .ok (.getfield 7, 3) := by decide +kernel
theorem dX5_changePlaces_22 : decode cX5_changePlaces 22 = .ok (.getfield 36, 3) := by decide +kernel
theorem dX5_changePlaces_25 : decode cX5_changePlaces 25 = .ok (.iload_n 2, 1) := by decide +kernel
theorem dX5_changePlaces_26 : decode cX5_changePlaces 26 = .ok (.iaload, 1) := by decide +kernel
theorem dX5_changePlaces_27 : decode cX5_changePlaces 27 = .ok (.iastore, 1) := by decide +kernel
theorem dX5_changePlaces_28 : decode cX5_changePlaces 28 = .ok (.aload_n 0, 1) := by decide +kernel
theorem dX5_changePlaces_29 : decode cX5_changePlaces 29 = .ok (.getfield 7, 3) := by decide +kernel
theorem dX5_changePlaces_32 : decode cX5_changePlaces 32 = .ok (.getfield 36, 3) := by decide +kernel
theorem dX5_changePlaces_35 : decode cX5_changePlaces 35 = .ok (.iload_n 2, 1) := by decide +kernel
theorem dX5_changePlaces_36 : decode cX5_changePlaces 36 = .ok (.iload_n 3, 1) := by decide +kernel
theorem dX5_changePlaces_37 : decode cX5_changePlaces 37 = .ok (.iastore, 1) := by decide +kernel
theorem dX5_changePlaces_38 : decode cX5_changePlaces 38 = .ok (.return_, 1) := by decide +kernel
theorem dX6_init_0 : decode cX6_init 0 = .ok (.aload_n 0, 1) := by decide +kernel
theorem dX6_init_1 : decode cX6_init 1 = .ok (.invokespecial 3, 3) := by decide +kernel
theorem dX6_init_4 : decode cX6_init 4 = .ok (.aload_n 0, 1) := by decide +kernel
theorem dX6_init_5 : decode cX6_init 5 = .ok (.sipush 200, 3) := by decide +kernel
theorem dX6_init_8 : decode cX6_init 8 = .ok (.newarray .char, 2) := by decide +kernel
theorem dX6_init_10 : decode cX6_init 10 = .ok (.putfield 9, 3) := by decide +kernel
theorem dX6_init_13 : decode cX6_init 13 = .ok (.aload_n 0, 1) := by decide +kernel
theorem dX6_init_14 : decode cX6_init 14 = .ok (.iconst 4, 1) := by decide +kernel
theorem dX6_init_15 : decode cX6_init 15 = .ok (.newarray .int, 2) := by decide +kernel
theorem dX6_init_17 : decode cX6_init 17 = .ok (.putfield 15, 3) := by decide +kernel
theorem dX6_init_20 : decode cX6_init 20 = .ok (.return_, 1) := by decide +kernel
theorem dX6_add_0 : decode cX6_add 0 = .ok (.aload_n 0, 1) := by decide +kernel
theorem dX6_add_1 : decode cX6_add 1 = .ok (.getfield 19, 3) := by decide +kernel
theorem dX6_add_4 : decode cX6_add 4 = .ok (.sipush 200, 3) := by decide +kernel
theorem dX6_add_7 : decode cX6_add 7 = .ok (.if_icmp .lt 5, 3) := by decide +kernel
theorem dX6_add_10 : decode cX6_add 10 = .ok (.iconst 0, 1) := by decide +kernel
theorem dX6_add_11 : decode cX6_add 11 = .ok (.ireturn, 1) := by decide +kernel
theorem dX6_add_12 : decode cX6_add 12 = .ok (.aload_n 0, 1) := by decide +kernel
theorem dX6_add_13 : decode cX6_add 13 = .ok (.getfield 9, 3) := by decide +kernel
theorem dX6_add_16 : decode cX6_add 16 = .ok (.aload_n 0, 1) := by decide +kernel
theorem dX6_add_17 : decode cX6_add 17 = .ok (.getfield 19, 3) := by decide +kernel
theorem dX6_add_20 : decode cX6_add 20 = .ok (.iload_n 1, 1) := by decide +kernel
theorem dX6_add_21 : decode cX6_add 21 = .ok (.castore, 1) := by decide +kernel
theorem dX6_add_22 : decode cX6_add 22 = .ok (.aload_n 0, 1) := by decide +kernel
theorem dX6_add_23 : decode cX6_add 23 = .ok (.dup, 1) := by decide +kernel
theorem dX6_add_24 : decode cX6_add 24 = .ok (.getfield 19, 3) := by decide +kernel
theorem dX6_add_27 : decode cX6_add 27 = .ok (.iconst 1, 1) := by decide +kernel
theorem dX6_add_28 : decode cX6_add 28 = .ok (.iadd, 1) := by decide +kernel
theorem dX6_add_29 : decode cX6_add 29 = .ok (.putfield 19, 3) := by decide +kernel
theorem dX6_add_32 : decode cX6_add 32 = .ok (.iconst 1, 1) := by decide +kernel
theorem dX6_add_33 : decode cX6_add 33 = .ok (.ireturn, 1) := by decide +kernel
theorem dX6_clear_0 : decode cX6_clear 0 = .ok (.aload_n 0, 1) := by decide +kernel
theorem dX6_clear_1 : decode cX6_clear 1 = .ok (.iconst 0, 1) := by decide +kernel
theorem dX6_clear_2 : decode cX6_clear 2 = .ok (.putfield 19, 3) := by decide +kernel
theorem dX6_clear_5 : decode cX6_clear 5 = .ok (.return_, 1) := by decide +kernel
theorem dX6_readInto_0 : decode cX6_readInto 0 = .ok (.aload_n 1, 1) := by decide +kernel
theorem dX6_readInto_1 : decode cX6_readInto 1 = .ok (.getfield 23, 3) := by decide +kernel
theorem dX6_readInto_4 : decode cX6_readInto 4 = .ok (.invokevirtual 29, 3) := by decide +kernel
theorem dX6_readInto_7 : decode cX6_readInto 7 = .ok (.aload_n 1, 1) := by decide +kernel
theorem dX6_readInto_8 : decode cX6_readInto 8 = .ok (.iconst 0, 1) := by decide +kernel
theorem dX6_readInto_9 : decode cX6_readInto 9 = .ok (.putfield 34, 3) := by decide +kernel
theorem dX6_readInto_12 : decode cX6_readInto 12 = .ok (.aload_n 0, 1) := by decide +kernel
theorem dX6_readInto_13 : decode cX6_readInto 13 = .ok (.iconst 0, 1) := by decide +kernel
theorem dX6_readInto_14 : decode cX6_readInto 14 = .ok (.putfield 37, 3) := by decide +kernel
theorem dX6_readInto_17 : decode cX6_readInto 17 = .ok (.iconst 0, 1) := by decide +kernel
theorem dX6_readInto_18 : decode cX6_readInto 18 = .ok (.istore_n 2, 1) := by decide +kernel
theorem dX6_readInto_19 : decode cX6_readInto 19 = .ok (.iload_n 2, 1) := by decide +kernel
theorem dX6_readInto_20 : decode cX6_readInto 20 = .ok (.sipush 200, 3) := by decide +kernel
theorem dX6_readInto_23 : decode cX6_readInto 23 = .ok (.if_icmp .ge 35, 3) := by decide +kernel
theorem dX6_readInto_26 : decode cX6_readInto 26 = .ok (.aload_n 0, 1) := by decide +kernel
theorem dX6_readInto_27 : decode cX6_readInto 27 = .ok (.getfield 37, 3) := by decide +kernel
theorem dX6_readInto_30 : decode cX6_readInto 30 = .ok (.aload_n 0, 1) := by decide +kernel
theorem dX6_readInto_31 : decode cX6_readInto 31 = .ok (.getfield 19, 3) := by decide +kernel
theorem dX6_readInto_34 : decode cX6_readInto 34 = .ok (.if_icmp .ge 24, 3) := by decide +kernel
theorem dX6_readInto_37 : decode cX6_readInto 37 = .ok (.aload_n 0, 1) := by decide +kernel
theorem dX6_readInto_38 : decode cX6_readInto 38 = .ok (.getfield 37, 3) := by decide +kernel
theorem dX6_readInto_41 : decode cX6_readInto 41 = .ok (.istore_n 3, 1) := by decide +kernel
theorem dX6_readInto_42 : decode cX6_readInto 42 = .ok (.aload_n 0, 1) := by decide +kernel
theorem dX6_readInto_43 : decode cX6_readInto 43 = .ok (.aload_n 1, 1) := by decide +kernel
theorem dX6_readInto_44 : decode cX6_readInto 44 = .ok (.invokevirtual 40, 3) := by decide +kernel
theorem dX6_readInto_47 : decode cX6_readInto 47 = .ok (.ifCond .ne 5, 3) := by decide +kernel
theorem dX6_readInto_50 : decode cX6_readInto 50 = .ok (.iload_n 3, 1) := by decide +kernel
theorem dX6_readInto_51 : decode cX6_readInto 51 = .ok (.ireturn, 1) := by decide +kernel
theorem dX6_readInto_52 : decode cX6_readInto 52 = .ok (.iinc 2 1, 3) := by decide +kernel
theorem dX6_readInto_55 : decode cX6_readInto 55 = .ok (.goto (-36), 3) := by decide +kernel
theorem dX6_readInto_58 : decode cX6_readInto 58 = .ok (.bipush (-4), 2) := by decide +kernel
theorem dX6_readInto_60 : decode cX6_readInto 60 = .ok (.ireturn, 1) := by decide +kernel
theorem dX6_readItem_0 : decode cX6_readItem 0 = .ok (.aload_n 0, 1) := by decide +kernel
theorem dX6_readItem_1 : decode cX6_readItem 1 = .ok (.getfield 37, 3) := by decide +kernel
theorem dX6_readItem_4 : decode cX6_readItem 4 = .ok (.ifCond .ne 7, 3) := by decide +kernel
theorem dX6_readItem_7 : decode cX6_readItem 7 = .ok (.iconst 1, 1) := by decide +kernel
theorem dX6_readItem_8 : decode cX6_readItem 8 = .ok (.goto 4, 3) := by decide +kernel
theorem dX6_readItem_11 : decode cX6_readItem 11 = .ok (.iconst 0, 1) := by decide +kernel
theorem dX6_readItem_12 : decode cX6_readItem 12 = .ok (.istore_n 2, 1) := by decide +kernel
theorem dX6_readItem_13 : decode cX6_readItem 13 = .ok (.aload_n 0, 1) := by decide +kernel
theorem dX6_readItem_14 : decode cX6_readItem 14 = .ok (.getfield 9, 3) := by decide +kernel
theorem dX6_readItem_17 : decode cX6_readItem 17 = .ok (.aload_n 0, 1) := by decide +kernel
theorem dX6_readItem_18 : decode cX6_readItem 18 = .ok (.getfield 37, 3) := by decide +kernel
theorem dX6_readItem_21 : decode cX6_readItem 21 = .ok (.caload, 1) := by decide +kernel
theorem dX6_readItem_22 : decode cX6_readItem 22 = .ok (.istore_n 3, 1) := by decide +kernel
theorem dX6_readItem_23 : decode cX6_readItem 23 = .ok (.aload_n 0, 1) := by decide +kernel
theorem dX6_readItem_24 : decode cX6_readItem 24 = .ok (.dup, 1) := by decide +kernel
theorem dX6_readItem_25 : decode cX6_readItem 25 = .ok (.getfield 37, 3) := by decide +kernel
theorem dX6_readItem_28 : decode cX6_readItem 28 = .ok (.iconst 1, 1) := by decide +kernel
theorem dX6_readItem_29 : decode cX6_readItem 29 = .ok (.iadd, 1) := by decide +kernel
theorem dX6_readItem_30 : decode cX6_readItem 30 = .ok (.putfield 37, 3) := by decide +kernel
theorem dX6_readItem_33 : decode cX6_readItem 33 = .ok (.iload_n 3, 1) := by decide +kernel
theorem dX6_readItem_34 : decode cX6_readItem 34 = .ok (.lookupswitch 110 #[(104, 34), (112, 63), (119, 85)], 34) := by decide +kernel
theorem dX6_readItem_68 : decode cX6_readItem 68 = .ok (.iload_n 2, 1) := by decide +kernel
theorem dX6_readItem_69 : decode cX6_readItem 69 = .ok (.ifCond .eq 26, 3) := by decide +kernel
theorem dX6_readItem_72 : decode cX6_readItem 72 = .ok (.aload_n 0, 1) := by decide +kernel
theorem dX6_readItem_73 : decode cX6_readItem 73 = .ok (.iconst 1, 1) := by decide +kernel
theorem dX6_readItem_74 : decode cX6_readItem 74 = .ok (.invokevirtual 44, 3) := by decide +kernel
theorem dX6_readItem_77 : decode cX6_readItem 77 = .ok (.ifCond .eq 18, 3) := by decide +kernel
theorem dX6_readItem_80 : decode cX6_readItem 80 = .ok (.aload_n 0, 1) := by decide +kernel
theorem dX6_readItem_81 : decode cX6_readItem 81 = .ok (.aload_n 1, 1) := by decide +kernel
theorem dX6_readItem_82 : decode cX6_readItem 82 = .ok (.getfield 23, 3) := by decide +kernel
theorem dX6_readItem_85 : decode cX6_readItem 85 = .ok (.invokevirtual 48, 3) := by decide +kernel
theorem dX6_readItem_88 : decode cX6_readItem 88 = .ok (.ifCond .eq 7, 3) := by decide +kernel
theorem dX6_readItem_91 : decode cX6_readItem 91 = .ok (.iconst 1, 1) := by decide +kernel
theorem dX6_readItem_92 : decode cX6_readItem 92 = .ok (.goto 4, 3) := by decide +kernel
theorem dX6_readItem_95 : decode cX6_readItem 95 = .ok (.iconst 0, 1) := by decide +kernel
theorem dX6_readItem_96 : decode cX6_readItem 96 = .ok (.ireturn, 1) := by decide +kernel
theorem dX6_readItem_97 : decode cX6_readItem 97 = .ok (.aload_n 0, 1) := by decide +kernel
theorem dX6_readItem_98 : decode cX6_readItem 98 = .ok (.iconst 4, 1) := by decide +kernel
theorem dX6_readItem_99 : decode cX6_readItem 99 = .ok (.invokevirtual 44, 3) := by decide +kernel
theorem dX6_readItem_102 : decode cX6_readItem 102 = .ok (.ifCond .eq 15, 3) := by decide +kernel
theorem dX6_readItem_105 : decode cX6_readItem 105 = .ok (.aload_n 0, 1) := by decide +kernel
theorem dX6_readItem_106 : decode cX6_readItem 106 = .ok (.aload_n 1, 1) := by decide +kernel
theorem dX6_readItem_107 : decode cX6_readItem 107 = .ok (.invokevirtual 52, 3) := by decide +kernel
theorem dX6_readItem_110 : decode cX6_readItem 110 = .ok (.ifCond .eq 7, 3) := by decide +kernel
theorem dX6_readItem_113 : decode cX6_readItem 113 = .ok (.iconst 1, 1) := by decide +kernel
theorem dX6_readItem_114 : decode cX6_readItem 114 = .ok (.goto 4, 3) := by decide +kernel
theorem dX6_readItem_117 : decode cX6_readItem 117 = .ok (.iconst 0, 1) := by decide +kernel
theorem dX6_readItem_118 : decode cX6_readItem 118 = .ok (.ireturn, 1) := by decide +kernel
theorem dX6_readItem_119 : decode cX6_readItem 119 = .ok (.aload_n 0, 1) := by decide +kernel
theorem dX6_readItem_120 : decode cX6_readItem 120 = .ok (.iconst 2, 1) := by decide +kernel
theorem dX6_readItem_121 : decode cX6_readItem 121 = .ok (.invokevirtual 44, 3) := by decide +kernel
theorem dX6_readItem_124 : decode cX6_readItem 124 = .ok (.ifCond .eq 18, 3) := by decide +kernel
theorem dX6_readItem_127 : decode cX6_readItem 127 = .ok (.aload_n 0, 1) := by decide +kernel
theorem dX6_readItem_128 : decode cX6_readItem 128 = .ok (.aload_n 1, 1) := by decide +kernel
theorem dX6_readItem_129 : decode cX6_readItem 129 = .ok (.getfield 23, 3) := by decide +kernel
theorem dX6_readItem_132 : decode cX6_readItem 132 = .ok (.invokevirtual 55, 3) := by decide +kernel
theorem dX6_readItem_135 : decode cX6_readItem 135 = .ok (.ifCond .eq 7, 3) := by decide +kernel
theorem dX6_readItem_138 : decode cX6_readItem 138 = .ok (.iconst 1, 1) := by decide +kernel
theorem dX6_readItem_139 : decode cX6_readItem 139 = .ok (.goto 4, 3) := by decide +kernel
theorem dX6_readItem_142 : decode cX6_readItem 142 = .ok (.iconst 0, 1) := by decide +kernel
theorem dX6_readItem_143 : decode cX6_readItem 143 = .ok (.ireturn, 1) := by decide +kernel
theorem dX6_readItem_144 : decode cX6_readItem 144 = .ok (.iconst 0, 1) := by decide +kernel
theorem dX6_readItem_145 : decode cX6_readItem 145 = .ok (.ireturn, 1) := by decide +kernel
theorem dX6_readNumbers_0 : decode cX6_readNumbers 0 = .ok (.iconst 0, 1) := by decide +kernel
theorem dX6_readNumbers_1 : decode cX6_readNumbers 1 = .ok (.istore_n 2, 1) := by decide +kernel
theorem dX6_readNumbers_2 : decode cX6_readNumbers 2 = .ok (.iload_n 2, 1) := by decide +kernel
theorem dX6_readNumbers_3 : decode cX6_readNumbers 3 = .ok (.iload_n 1, 1) := by decide +kernel
theorem dX6_readNumbers_4 : decode cX6_readNumbers 4 = .ok (.if_icmp .ge 78, 3) := by decide +kernel
theorem dX6_readNumbers_7 : decode cX6_readNumbers 7 = .ok (.aload_n 0, 1) := by decide +kernel
theorem dX6_readNumbers_8 : decode cX6_readNumbers 8 = .ok (.invokevirtual 58, 3) := by decide +kernel
theorem dX6_readNumbers_11 : decode cX6_readNumbers 11 = .ok (.istore_n 3, 1) := by decide +kernel
theorem dX6_readNumbers_12 : decode cX6_readNumbers 12 = .ok (.iload_n 2, 1) := by decide +kernel
theorem dX6_readNumbers_13 : decode cX6_readNumbers 13 = .ok (.iconst 1, 1) := by decide +kernel
theorem dX6_readNumbers_14 : decode cX6_readNumbers 14 = .ok (.iadd, 1) := by decide +kernel
theorem dX6_readNumbers_15 : decode cX6_readNumbers 15 = .ok (.iload_n 1, 1) := by decide +kernel
theorem dX6_readNumbers_16 : decode cX6_readNumbers 16 = .ok (.if_icmp .ge 8, 3) := by decide +kernel
theorem dX6_readNumbers_19 : decode cX6_readNumbers 19 = .ok (.bipush 44, 2) := by decide +kernel
theorem dX6_readNumbers_21 : decode cX6_readNumbers 21 = .ok (.goto 5, 3) := by decide +kernel
theorem dX6_readNumbers_24 : decode cX6_readNumbers 24 = .ok (.bipush 59, 2) := by decide +kernel
theorem dX6_readNumbers_26 : decode cX6_readNumbers 26 = .ok (.istore 4, 2) := by decide +kernel
theorem dX6_readNumbers_28 : decode cX6_readNumbers 28 = .ok (.iload_n 3, 1) := by decide +kernel
theorem dX6_readNumbers_29 : decode cX6_readNumbers 29 = .ok (.ifCond .lt 28, 3) := by decide +kernel
theorem dX6_readNumbers_32 : decode cX6_readNumbers 32 = .ok (.aload_n 0, 1) := by decide +kernel
theorem dX6_readNumbers_33 : decode cX6_readNumbers 33 = .ok (.getfield 37, 3) := by decide +kernel
theorem dX6_readNumbers_36 : decode cX6_readNumbers 36 = .ok (.aload_n 0, 1) := by decide +kernel
theorem dX6_readNumbers_37 : decode cX6_readNumbers 37 = .ok (.getfield 19, 3) := by decide +kernel
theorem dX6_readNumbers_40 : decode cX6_readNumbers 40 = .ok (.if_icmp .ge 17, 3) := by decide +kernel
theorem dX6_readNumbers_43 : decode cX6_readNumbers 43 = .ok (.aload_n 0, 1) := by decide +kernel
theorem dX6_readNumbers_44 : decode cX6_readNumbers 44 = .ok (.getfield 9, 3) := by decide +kernel
theorem dX6_readNumbers_47 : decode cX6_readNumbers 47 = .ok (.aload_n 0, 1) := by decide +kernel
theorem dX6_readNumbers_48 : decode cX6_readNumbers 48 = .ok (.getfield 37, 3) := by decide +kernel
theorem dX6_readNumbers_51 : decode cX6_readNumbers 51 = .ok (.caload, 1) := by decide +kernel
theorem dX6_readNumbers_52 : decode cX6_readNumbers 52 = .ok (.iload 4, 2) := by decide +kernel
theorem dX6_readNumbers_54 : decode cX6_readNumbers 54 = .ok (.if_icmp .eq 5, 3) := by decide +kernel
theorem dX6_readNumbers_57 : decode cX6_readNumbers 57 = .ok (.iconst 0, 1) := by decide +kernel
theorem dX6_readNumbers_58 : decode cX6_readNumbers 58 = .ok (.ireturn, 1) := by decide +kernel
theorem dX6_readNumbers_59 : decode cX6_readNumbers 59 = .ok (.aload_n 0, 1) := by decide +kernel
theorem dX6_readNumbers_60 : decode cX6_readNumbers 60 = .ok (.getfield 15, 3) := by decide +kernel
theorem dX6_readNumbers_63 : decode cX6_readNumbers 63 = .ok (.iload_n 2, 1) := by decide +kernel
theorem dX6_readNumbers_64 : decode cX6_readNumbers 64 = .ok (.iload_n 3, 1) := by decide +kernel
theorem dX6_readNumbers_65 : decode cX6_readNumbers 65 = .ok (.iastore, 1) := by decide +kernel
theorem dX6_readNumbers_66 : decode cX6_readNumbers 66 = .ok (.aload_n 0, 1) := by decide +kernel
theorem dX6_readNumbers_67 : decode cX6_readNumbers 67 = .ok (.dup, 1) := by decide +kernel
theorem dX6_readNumbers_68 : decode cX6_readNumbers 68 = .ok (.getfield 37, 3) := by decide +kernel
theorem dX6_readNumbers_71 : decode cX6_readNumbers 71 = .ok (.iconst 1, 1) := by decide +kernel
theorem dX6_readNumbers_72 : decode cX6_readNumbers 72 = .ok (.iadd, 1) := by decide +kernel
theorem dX6_readNumbers_73 : decode cX6_readNumbers 73 = .ok (.putfield 37, 3) := by decide +kernel
theorem dX6_readNumbers_76 : decode cX6_readNumbers 76 = .ok (.iinc 2 1, 3) := by decide +kernel
theorem dX6_readNumbers_79 : decode cX6_readNumbers 79 = .ok (.goto (-77), 3) := by decide +kernel
theorem dX6_readNumbers_82 : decode cX6_readNumbers 82 = .ok (.iconst 1, 1) := by decide +kernel
theorem dX6_readNumbers_83 : decode cX6_readNumbers 83 = .ok (.ireturn, 1) := by decide +kernel
theorem dX6_readNumber_0 : decode cX6_readNumber 0 = .ok (.aload_n 0, 1) := by decide +kernel
theorem dX6_readNumber_1 : decode cX6_readNumber 1 = .ok (.aload_n 0, 1) := by decide +kernel
theorem dX6_readNumber_2 : decode cX6_readNumber 2 = .ok (.getfield 37, 3) := by decide +kernel
theorem dX6_readNumber_5 : decode cX6_readNumber 5 = .ok (.invokevirtual 62, 3) := by decide +kernel
theorem dX6_readNumber_8 : decode cX6_readNumber 8 = .ok (.istore_n 1, 1) := by decide +kernel
theorem dX6_readNumber_9 : decode cX6_readNumber 9 = .ok (.iload_n 1, 1) := by decide +kernel
theorem dX6_readNumber_10 : decode cX6_readNumber 10 = .ok (.ifCond .ge 5, 3) := by decide +kernel
theorem dX6_readNumber_13 : decode cX6_readNumber 13 = .ok (.iconst (-1), 1) := by decide +kernel
theorem dX6_readNumber_14 : decode cX6_readNumber 14 = .ok (.ireturn, 1) := by decide +kernel
theorem dX6_readNumber_15 : decode cX6_readNumber 15 = .ok (.aload_n 0, 1) := by decide +kernel
theorem dX6_readNumber_16 : decode cX6_readNumber 16 = .ok (.dup, 1) := by decide +kernel
theorem dX6_readNumber_17 : decode cX6_readNumber 17 = .ok (.getfield 37, 3) := by decide +kernel
theorem dX6_readNumber_20 : decode cX6_readNumber 20 = .ok (.iconst 1, 1) := by decide +kernel
theorem dX6_readNumber_21 : decode cX6_readNumber 21 = .ok (.iadd, 1) := by decide +kernel
theorem dX6_readNumber_22 : decode cX6_readNumber 22 = .ok (.putfield 37, 3) := by decide +kernel
theorem dX6_readNumber_25 : decode cX6_readNumber 25 = .ok (.aload_n 0, 1) := by decide +kernel
theorem dX6_readNumber_26 : decode cX6_readNumber 26 = .ok (.aload_n 0, 1) := by decide +kernel
theorem dX6_readNumber_27 : decode cX6_readNumber 27 = .ok (.getfield 37, 3) := by decide +kernel
theorem dX6_readNumber_30 : decode cX6_readNumber 30 = .ok (.invokevirtual 62, 3) := by decide +kernel
theorem dX6_readNumber_33 : decode cX6_readNumber 33 = .ok (.istore_n 2, 1) := by decide +kernel
theorem dX6_readNumber_34 : decode cX6_readNumber 34 = .ok (.iload_n 2, 1) := by decide +kernel
theorem dX6_readNumber_35 : decode cX6_readNumber 35 = .ok (.ifCond .ge 5, 3) := by decide +kernel
theorem dX6_readNumber_38 : decode cX6_readNumber 38 = .ok (.iload_n 1, 1) := by decide +kernel
theorem dX6_readNumber_39 : decode cX6_readNumber 39 = .ok (.ireturn, 1) := by decide +kernel
theorem dX6_readNumber_40 : decode cX6_readNumber 40 = .ok (.aload_n 0, 1) := by decide +kernel
theorem dX6_readNumber_41 : decode cX6_readNumber 41 = .ok (.dup, 1) := by decide +kernel
theorem dX6_readNumber_42 : decode cX6_readNumber 42 = .ok (.getfield 37, 3) := by decide +kernel
theorem dX6_readNumber_45 : decode cX6_readNumber 45 = .ok (.iconst 1, 1) := by decide +kernel
theorem dX6_readNumber_46 : decode cX6_readNumber 46 = .ok (.iadd, 1) := by decide +kernel
theorem dX6_readNumber_47 : decode cX6_readNumber 47 = .ok (.putfield 37, 3) := by decide +kernel
theorem dX6_readNumber_50 : decode cX6_readNumber 50 = .ok (.iload_n 1, 1) := by decide +kernel
theorem dX6_readNumber_51 : decode cX6_readNumber 51 = .ok (.bipush 10, 2) := by decide +kernel
theorem dX6_readNumber_53 : decode cX6_readNumber 53 = .ok (.imul, 1) := by decide +kernel
theorem dX6_readNumber_54 : decode cX6_readNumber 54 = .ok (.iload_n 2, 1) := by decide +kernel
theorem dX6_readNumber_55 : decode cX6_readNumber 55 = .ok (.iadd, 1) := by decide +kernel
theorem dX6_readNumber_56 : decode cX6_readNumber 56 = .ok (.ireturn, 1) := by decide +kernel
theorem dX6_figureAt_0 : decode cX6_figureAt 0 = .ok (.iload_n 1, 1) := by decide +kernel
theorem dX6_figureAt_1 : decode cX6_figureAt 1 = .ok (.aload_n 0, 1) := by decide +kernel
theorem dX6_figureAt_2 : decode cX6_figureAt 2 = .ok (.getfield 19, 3) := by decide +kernel
theorem dX6_figureAt_5 : decode cX6_figureAt 5 = .ok (.if_icmp .ge 25, 3) := by decide +kernel
theorem dX6_figureAt_8 : decode cX6_figureAt 8 = .ok (.aload_n 0, 1) := by decide +kernel
theorem dX6_figureAt_9 : decode cX6_figureAt 9 = .ok (.getfield 9, 3) := by decide +kernel
theorem dX6_figureAt_12 : decode cX6_figureAt 12 = .ok (.iload_n 1, 1) := by decide +kernel
theorem dX6_figureAt_13 : decode cX6_figureAt 13 = .ok (.caload, 1) := by decide +kernel
theorem dX6_figureAt_14 : decode cX6_figureAt 14 = .ok (.bipush 48, 2) := by decide +kernel
theorem dX6_figureAt_16 : decode cX6_figureAt 16 = .ok (.if_icmp .lt 14, 3) := by decide +kernel
theorem dX6_figureAt_19 : decode cX6_figureAt 19 = .ok (.aload_n 0, 1) := by decide +kernel
theorem dX6_figureAt_20 : decode cX6_figureAt 20 = .ok (.getfield 9, 3) := by decide +kernel
theorem dX6_figureAt_23 : decode cX6_figureAt 23 = .ok (.iload_n 1, 1) := by decide +kernel
theorem dX6_figureAt_24 : decode cX6_figureAt 24 = .ok (.caload, 1) := by decide +kernel
theorem dX6_figureAt_25 : decode cX6_figureAt 25 = .ok (.bipush 57, 2) := by decide +kernel
theorem dX6_figureAt_27 : decode cX6_figureAt 27 = .ok (.if_icmp .le 5, 3) := by decide +kernel
theorem dX6_figureAt_30 : decode cX6_figureAt 30 = .ok (.iconst (-1), 1) := by decide +kernel
theorem dX6_figureAt_31 : decode cX6_figureAt 31 = .ok (.ireturn, 1) := by decide +kernel
theorem dX6_figureAt_32 : decode cX6_figureAt 32 = .ok (.aload_n 0, 1) := by decide +kernel
theorem dX6_figureAt_33 : decode cX6_figureAt 33 = .ok (.getfield 9, 3) := by decide +kernel
theorem dX6_figureAt_36 : decode cX6_figureAt 36 = .ok (.iload_n 1, 1) := by decide +kernel
theorem dX6_figureAt_37 : decode cX6_figureAt 37 = .ok (.caload, 1) := by decide +kernel
theorem dX6_figureAt_38 : decode cX6_figureAt 38 = .ok (.bipush 48, 2) := by decide +kernel
theorem dX6_figureAt_40 : decode cX6_figureAt 40 = .ok (.isub, 1) := by decide +kernel
theorem dX6_figureAt_41 : decode cX6_figureAt 41 = .ok (.ireturn, 1) := by decide +kernel
theorem dX6_takeSteps_0 : decode cX6_takeSteps 0 = .ok (.aload_n 1, 1) := by decide +kernel
theorem dX6_takeSteps_1 : decode cX6_takeSteps 1 = .ok (.aload_n 0, 1) := by decide +kernel
theorem dX6_takeSteps_2 : decode cX6_takeSteps 2 = .ok (.getfield 15, 3) := by decide +kernel
theorem dX6_takeSteps_5 : decode cX6_takeSteps 5 = .ok (.iconst 0, 1) := by decide +kernel
theorem dX6_takeSteps_6 : decode cX6_takeSteps 6 = .ok (.iaload, 1) := by decide +kernel
theorem dX6_takeSteps_7 : decode cX6_takeSteps 7 = .ok (.putfield 66, 3) := by decide +kernel
theorem dX6_takeSteps_10 : decode cX6_takeSteps 10 = .ok (.aload_n 0, 1) := by decide +kernel
theorem dX6_takeSteps_11 : decode cX6_takeSteps 11 = .ok (.getfield 15, 3) := by decide +kernel
theorem dX6_takeSteps_14 : decode cX6_takeSteps 14 = .ok (.iconst 0, 1) := by decide +kernel
theorem dX6_takeSteps_15 : decode cX6_takeSteps 15 = .ok (.iaload, 1) := by decide +kernel
theorem dX6_takeSteps_16 : decode cX6_takeSteps 16 = .ok (.iconst 2, 1) := by decide +kernel
theorem dX6_takeSteps_17 : decode cX6_takeSteps 17 = .ok (.bipush 10, 2) := by decide +kernel
theorem dX6_takeSteps_19 : decode cX6_takeSteps 19 = .ok (.invokestatic 69, 3) := by decide +kernel
theorem dX6_takeSteps_22 : decode cX6_takeSteps 22 = .ok (.ireturn, 1) := by decide +kernel
theorem dX6_takePerson_0 : decode cX6_takePerson 0 = .ok (.aload_n 1, 1) := by decide +kernel
theorem dX6_takePerson_1 : decode cX6_takePerson 1 = .ok (.getfield 23, 3) := by decide +kernel
theorem dX6_takePerson_4 : decode cX6_takePerson 4 = .ok (.getfield 73, 3) := by decide +kernel
theorem dX6_takePerson_7 : decode cX6_takePerson 7 = .ok (.istore_n 2, 1) := by decide +kernel
theorem dX6_takePerson_8 : decode cX6_takePerson 8 = .ok (.iload_n 2, 1) := by decide +kernel
theorem dX6_takePerson_9 : decode cX6_takePerson 9 = .ok (.bipush 6, 2) := by decide +kernel
theorem dX6_takePerson_11 : decode cX6_takePerson 11 = .ok (.if_icmp .ge 56, 3) := by decide +kernel
theorem dX6_takePerson_14 : decode cX6_takePerson 14 = .ok (.aload_n 0, 1) := by decide +kernel
theorem dX6_takePerson_15 : decode cX6_takePerson 15 = .ok (.getfield 15, 3) := by decide +kernel
theorem dX6_takePerson_18 : decode cX6_takePerson 18 = .ok (.iconst 0, 1) := by decide +kernel
theorem dX6_takePerson_19 : decode cX6_takePerson 19 = .ok (.iaload, 1) := by decide +kernel
theorem dX6_takePerson_20 : decode cX6_takePerson 20 = .ok (.iconst 4, 1) := by decide +kernel
theorem dX6_takePerson_21 : decode cX6_takePerson 21 = .ok (.if_icmp .ge 46, 3) := by decide +kernel
theorem dX6_takePerson_24 : decode cX6_takePerson 24 = .ok (.aload_n 0, 1) := by decide +kernel
theorem dX6_takePerson_25 : decode cX6_takePerson 25 = .ok (.getfield 15, 3) := by decide +kernel
theorem dX6_takePerson_28 : decode cX6_takePerson 28 = .ok (.iconst 1, 1) := by decide +kernel
theorem dX6_takePerson_29 : decode cX6_takePerson 29 = .ok (.iaload, 1) := by decide +kernel
theorem dX6_takePerson_30 : decode cX6_takePerson 30 = .ok (.aload_n 1, 1) := by decide +kernel
theorem dX6_takePerson_31 : decode cX6_takePerson 31 = .ok (.getfield 23, 3) := by decide +kernel
theorem dX6_takePerson_34 : decode cX6_takePerson 34 = .ok (.getfield 66, 3) := by decide +kernel
theorem dX6_takePerson_37 : decode cX6_takePerson 37 = .ok (.if_icmp .ge 30, 3) := by decide +kernel
theorem dX6_takePerson_40 : decode cX6_takePerson 40 = .ok (.aload_n 0, 1) := by decide +kernel
theorem dX6_takePerson_41 : decode cX6_takePerson 41 = .ok (.getfield 15, 3) := by decide +kernel
theorem dX6_takePerson_44 : decode cX6_takePerson 44 = .ok (.iconst 2, 1) := by decide +kernel
theorem dX6_takePerson_45 : decode cX6_takePerson 45 = .ok (.iaload, 1) := by decide +kernel
theorem dX6_takePerson_46 : decode cX6_takePerson 46 = .ok (.bipush 12, 2) := by decide +kernel
theorem dX6_takePerson_48 : decode cX6_takePerson 48 = .ok (.bipush 60, 2) := by decide +kernel
theorem dX6_takePerson_50 : decode cX6_takePerson 50 = .ok (.invokestatic 69, 3) := by decide +kernel
theorem dX6_takePerson_53 : decode cX6_takePerson 53 = .ok (.ifCond .eq 14, 3) := by decide +kernel
theorem dX6_takePerson_56 : decode cX6_takePerson 56 = .ok (.aload_n 0, 1) := by decide +kernel
theorem dX6_takePerson_57 : decode cX6_takePerson 57 = .ok (.getfield 15, 3) := by decide +kernel
theorem dX6_takePerson_60 : decode cX6_takePerson 60 = .ok (.iconst 3, 1) := by decide +kernel
theorem dX6_takePerson_61 : decode cX6_takePerson 61 = .ok (.iaload, 1) := by decide +kernel
theorem dX6_takePerson_62 : decode cX6_takePerson 62 = .ok (.bipush 30, 2) := by decide +kernel
theorem dX6_takePerson_64 : decode cX6_takePerson 64 = .ok (.if_icmp .le 5, 3) := by decide +kernel
theorem dX6_takePerson_67 : decode cX6_takePerson 67 = .ok (.iconst 0, 1) := by decide +kernel
theorem dX6_takePerson_68 : decode cX6_takePerson 68 = .ok (.ireturn, 1) := by decide +kernel
theorem dX6_takePerson_69 : decode cX6_takePerson 69 = .ok (.aload_n 1, 1) := by decide +kernel
theorem dX6_takePerson_70 : decode cX6_takePerson 70 = .ok (.getfield 23, 3) := by decide +kernel
theorem dX6_takePerson_73 : decode cX6_takePerson 73 = .ok (.getfield 76, 3) := by decide +kernel
theorem dX6_takePerson_76 : decode cX6_takePerson 76 = .ok (.iload_n 2, 1) := by decide +kernel
theorem dX6_takePerson_77 : decode cX6_takePerson 77 = .ok (.aload_n 0, 1) := by decide +kernel
theorem dX6_takePerson_78 : decode cX6_takePerson 78 = .ok (.getfield 15, 3) := by decide +kernel
theorem dX6_takePerson_81 : decode cX6_takePerson 81 = .ok (.iconst 0, 1) := by decide +kernel
theorem dX6_takePerson_82 : decode cX6_takePerson 82 = .ok (.iaload, 1) := by decide +kernel
theorem dX6_takePerson_83 : decode cX6_takePerson 83 = .ok (.iastore, 1) := by decide +kernel
theorem dX6_takePerson_84 : decode cX6_takePerson 84 = .ok (.aload_n 1, 1) := by decide +kernel
theorem dX6_takePerson_85 : decode cX6_takePerson 85 = .ok (.getfield 79, 3) := by decide +kernel
theorem dX6_takePerson_88 : decode cX6_takePerson 88 = .ok (.iload_n 2, 1) := by decide +kernel
theorem dX6_takePerson_89 : decode cX6_takePerson 89 = .ok (.aload_n 0, 1) := by decide +kernel
theorem dX6_takePerson_90 : decode cX6_takePerson 90 = .ok (.getfield 15, 3) := by decide +kernel
theorem dX6_takePerson_93 : decode cX6_takePerson 93 = .ok (.iconst 1, 1) := by decide +kernel
theorem dX6_takePerson_94 : decode cX6_takePerson 94 = .ok (.iaload, 1) := by decide +kernel
theorem dX6_takePerson_95 : decode cX6_takePerson 95 = .ok (.iastore, 1) := by decide +kernel
theorem dX6_takePerson_96 : decode cX6_takePerson 96 = .ok (.aload_n 1, 1) := by decide +kernel
theorem dX6_takePerson_97 : decode cX6_takePerson 97 = .ok (.getfield 82, 3) := by decide +kernel
theorem dX6_takePerson_100 : decode cX6_takePerson 100 = .ok (.iload_n 2, 1) := by decide +kernel
theorem dX6_takePerson_101 : decode cX6_takePerson 101 = .ok (.aload_n 0, 1) := by decide +kernel
theorem dX6_takePerson_102 : decode cX6_takePerson 102 = .ok (.getfield 15, 3) := by decide +kernel
theorem dX6_takePerson_105 : decode cX6_takePerson 105 = .ok (.iconst 2, 1) := by decide +kernel
theorem dX6_takePerson_106 : decode cX6_takePerson 106 = .ok (.iaload, 1) := by decide +kernel
theorem dX6_takePerson_107 : decode cX6_takePerson 107 = .ok (.iastore, 1) := by decide +kernel
theorem dX6_takePerson_108 : decode cX6_takePerson 108 = .ok (.aload_n 1, 1) := by decide +kernel
theorem dX6_takePerson_109 : decode cX6_takePerson 109 = .ok (.getfield 85, 3) := by decide +kernel
theorem dX6_takePerson_112 : decode cX6_takePerson 112 = .ok (.iload_n 2, 1) := by decide +kernel
theorem dX6_takePerson_113 : decode cX6_takePerson 113 = .ok (.aload_n 0, 1) := by decide +kernel
theorem dX6_takePerson_114 : decode cX6_takePerson 114 = .ok (.getfield 15, 3) := by decide +kernel
theorem dX6_takePerson_117 : decode cX6_takePerson 117 = .ok (.iconst 3, 1) := by decide +kernel
theorem dX6_takePerson_118 : decode cX6_takePerson 118 = .ok (.iaload, 1) := by decide +kernel
theorem dX6_takePerson_119 : decode cX6_takePerson 119 = .ok (.iastore, 1) := by decide +kernel
theorem dX6_takePerson_120 : decode cX6_takePerson 120 = .ok (.aload_n 1, 1) := by decide +kernel
theorem dX6_takePerson_121 : decode cX6_takePerson 121 = .ok (.getfield 88, 3) := by decide +kernel
theorem dX6_takePerson_124 : decode cX6_takePerson 124 = .ok (.iload_n 2, 1) := by decide +kernel
theorem dX6_takePerson_125 : decode cX6_takePerson 125 = .ok (.iconst 0, 1) := by decide +kernel
theorem dX6_takePerson_126 : decode cX6_takePerson 126 = .ok (.bastore, 1) := by decide +kernel
theorem dX6_takePerson_127 : decode cX6_takePerson 127 = .ok (.aload_n 1, 1) := by decide +kernel
theorem dX6_takePerson_128 : decode cX6_takePerson 128 = .ok (.getfield 92, 3) := by decide +kernel
theorem dX6_takePerson_131 : decode cX6_takePerson 131 = .ok (.iload_n 2, 1) := by decide +kernel
theorem dX6_takePerson_132 : decode cX6_takePerson 132 = .ok (.iconst 0, 1) := by decide +kernel
theorem dX6_takePerson_133 : decode cX6_takePerson 133 = .ok (.bastore, 1) := by decide +kernel
theorem dX6_takePerson_134 : decode cX6_takePerson 134 = .ok (.aload_n 1, 1) := by decide +kernel
theorem dX6_takePerson_135 : decode cX6_takePerson 135 = .ok (.getfield 23, 3) := by decide +kernel
theorem dX6_takePerson_138 : decode cX6_takePerson 138 = .ok (.dup, 1) := by decide +kernel
theorem dX6_takePerson_139 : decode cX6_takePerson 139 = .ok (.getfield 73, 3) := by decide +kernel
theorem dX6_takePerson_142 : decode cX6_takePerson 142 = .ok (.iconst 1, 1) := by decide +kernel
theorem dX6_takePerson_143 : decode cX6_takePerson 143 = .ok (.iadd, 1) := by decide +kernel
theorem dX6_takePerson_144 : decode cX6_takePerson 144 = .ok (.putfield 73, 3) := by decide +kernel
theorem dX6_takePerson_147 : decode cX6_takePerson 147 = .ok (.iconst 1, 1) := by decide +kernel
theorem dX6_takePerson_148 : decode cX6_takePerson 148 = .ok (.ireturn, 1) := by decide +kernel
theorem dX6_takeWork_0 : decode cX6_takeWork 0 = .ok (.aload_n 1, 1) := by decide +kernel
theorem dX6_takeWork_1 : decode cX6_takeWork 1 = .ok (.getfield 95, 3) := by decide +kernel
theorem dX6_takeWork_4 : decode cX6_takeWork 4 = .ok (.istore_n 2, 1) := by decide +kernel
theorem dX6_takeWork_5 : decode cX6_takeWork 5 = .ok (.iload_n 2, 1) := by decide +kernel
theorem dX6_takeWork_6 : decode cX6_takeWork 6 = .ok (.iconst 5, 1) := by decide +kernel
theorem dX6_takeWork_7 : decode cX6_takeWork 7 = .ok (.if_icmp .ge 30, 3) := by decide +kernel
theorem dX6_takeWork_10 : decode cX6_takeWork 10 = .ok (.aload_n 0, 1) := by decide +kernel
theorem dX6_takeWork_11 : decode cX6_takeWork 11 = .ok (.getfield 15, 3) := by decide +kernel
theorem dX6_takeWork_14 : decode cX6_takeWork 14 = .ok (.iconst 0, 1) := by decide +kernel
theorem dX6_takeWork_15 : decode cX6_takeWork 15 = .ok (.iaload, 1) := by decide +kernel
theorem dX6_takeWork_16 : decode cX6_takeWork 16 = .ok (.aload_n 1, 1) := by decide +kernel
theorem dX6_takeWork_17 : decode cX6_takeWork 17 = .ok (.getfield 66, 3) := by decide +kernel
theorem dX6_takeWork_20 : decode cX6_takeWork 20 = .ok (.if_icmp .ge 17, 3) := by decide +kernel
theorem dX6_takeWork_23 : decode cX6_takeWork 23 = .ok (.aload_n 0, 1) := by decide +kernel
theorem dX6_takeWork_24 : decode cX6_takeWork 24 = .ok (.getfield 15, 3) := by decide +kernel
theorem dX6_takeWork_27 : decode cX6_takeWork 27 = .ok (.iconst 1, 1) := by decide +kernel
theorem dX6_takeWork_28 : decode cX6_takeWork 28 = .ok (.iaload, 1) := by decide +kernel
theorem dX6_takeWork_29 : decode cX6_takeWork 29 = .ok (.iconst 1, 1) := by decide +kernel
theorem dX6_takeWork_30 : decode cX6_takeWork 30 = .ok (.iconst 4, 1) := by decide +kernel
theorem dX6_takeWork_31 : decode cX6_takeWork 31 = .ok (.invokestatic 69, 3) := by decide +kernel
theorem dX6_takeWork_34 : decode cX6_takeWork 34 = .ok (.ifCond .ne 5, 3) := by decide +kernel
theorem dX6_takeWork_37 : decode cX6_takeWork 37 = .ok (.iconst 0, 1) := by decide +kernel
theorem dX6_takeWork_38 : decode cX6_takeWork 38 = .ok (.ireturn, 1) := by decide +kernel
theorem dX6_takeWork_39 : decode cX6_takeWork 39 = .ok (.aload_n 1, 1) := by decide +kernel
theorem dX6_takeWork_40 : decode cX6_takeWork 40 = .ok (.getfield 98, 3) := by decide +kernel
theorem dX6_takeWork_43 : decode cX6_takeWork 43 = .ok (.iload_n 2, 1) := by decide +kernel
theorem dX6_takeWork_44 : decode cX6_takeWork 44 = .ok (.aload_n 0, 1) := by decide +kernel
theorem dX6_takeWork_45 : decode cX6_takeWork 45 = .ok (.getfield 15, 3) := by decide +kernel
theorem dX6_takeWork_48 : decode cX6_takeWork 48 = .ok (.iconst 0, 1) := by decide +kernel
theorem dX6_takeWork_49 : decode cX6_takeWork 49 = .ok (.iaload, 1) := by decide +kernel
theorem dX6_takeWork_50 : decode cX6_takeWork 50 = .ok (.iastore, 1) := by decide +kernel
theorem dX6_takeWork_51 : decode cX6_takeWork 51 = .ok (.aload_n 1, 1) := by decide +kernel
theorem dX6_takeWork_52 : decode cX6_takeWork 52 = .ok (.getfield 101, 3) := by decide +kernel
theorem dX6_takeWork_55 : decode cX6_takeWork 55 = .ok (.iload_n 2, 1) := by decide +kernel
theorem dX6_takeWork_56 : decode cX6_takeWork 56 = .ok (.aload_n 0, 1) := by decide +kernel
theorem dX6_takeWork_57 : decode cX6_takeWork 57 = .ok (.getfield 15, 3) := by decide +kernel
theorem dX6_takeWork_60 : decode cX6_takeWork 60 = .ok (.iconst 1, 1) := by decide +kernel
theorem dX6_takeWork_61 : decode cX6_takeWork 61 = .ok (.iaload, 1) := by decide +kernel
theorem dX6_takeWork_62 : decode cX6_takeWork 62 = .ok (.iastore, 1) := by decide +kernel
theorem dX6_takeWork_63 : decode cX6_takeWork 63 = .ok (.aload_n 1, 1) := by decide +kernel
theorem dX6_takeWork_64 : decode cX6_takeWork 64 = .ok (.dup, 1) := by decide +kernel
theorem dX6_takeWork_65 : decode cX6_takeWork 65 = .ok (.getfield 95, 3) := by decide +kernel
theorem dX6_takeWork_68 : decode cX6_takeWork 68 = .ok (.iconst 1, 1) := by decide +kernel
theorem dX6_takeWork_69 : decode cX6_takeWork 69 = .ok (.iadd, 1) := by decide +kernel
theorem dX6_takeWork_70 : decode cX6_takeWork 70 = .ok (.putfield 95, 3) := by decide +kernel
theorem dX6_takeWork_73 : decode cX6_takeWork 73 = .ok (.iconst 1, 1) := by decide +kernel
theorem dX6_takeWork_74 : decode cX6_takeWork 74 = .ok (.ireturn, 1) := by decide +kernel
theorem dX7_init_0 : decode cX7_init 0 = .ok (.aload_n 0, 1) := by decide +kernel
theorem dX7_init_1 : decode cX7_init 1 = .ok (.invokespecial 3, 3) := by decide +kernel
theorem dX7_init_4 : decode cX7_init 4 = .ok (.aload_n 0, 1) := by decide +kernel
theorem dX7_init_5 : decode cX7_init 5 = .ok (.iconst 4, 1) := by decide +kernel
theorem dX7_init_6 : decode cX7_init 6 = .ok (.newarray .int, 2) := by decide +kernel
theorem dX7_init_8 : decode cX7_init 8 = .ok (.putfield 9, 3) := by decide +kernel
theorem dX7_init_11 : decode cX7_init 11 = .ok (.aload_n 0, 1) := by decide +kernel
theorem dX7_init_12 : decode cX7_init 12 = .ok (.iconst 4, 1) := by decide +kernel
theorem dX7_init_13 : decode cX7_init 13 = .ok (.newarray .int, 2) := by decide +kernel
theorem dX7_init_15 : decode cX7_init 15 = .ok (.putfield 15, 3) := by decide +kernel
theorem dX7_init_18 : decode cX7_init 18 = .ok (.aload_n 0, 1) := by decide +kernel
theorem dX7_init_19 : decode cX7_init 19 = .ok (.aload_n 1, 1) := by decide +kernel
theorem dX7_init_20 : decode cX7_init 20 = .ok (.iconst 5, 1) := by decide +kernel
theorem dX7_init_21 : decode cX7_init 21 = .ok (.invokestatic 18, 3) := by decide +kernel
theorem dX7_init_24 : decode cX7_init 24 = .ok (.putfield 22, 3) := by decide +kernel
theorem dX7_init_27 : decode cX7_init 27 = .ok (.return_, 1) := by decide +kernel
theorem dX7_search_0 : decode cX7_search 0 = .ok (.aload_n 0, 1) := by decide +kernel
theorem dX7_search_1 : decode cX7_search 1 = .ok (.iload_n 2, 1) := by decide +kernel
theorem dX7_search_2 : decode cX7_search 2 = .ok (.iconst 4, 1) := by decide +kernel
theorem dX7_search_3 : decode cX7_search 3 = .ok (.invokestatic 26, 3) := by decide +kernel
theorem dX7_search_6 : decode cX7_search 6 = .ok (.putfield 32, 3) := by decide +kernel
theorem dX7_search_9 : decode cX7_search 9 = .ok (.aload_n 0, 1) := by decide +kernel
theorem dX7_search_10 : decode cX7_search 10 = .ok (.iconst (-1), 1) := by decide +kernel
theorem dX7_search_11 : decode cX7_search 11 = .ok (.putfield 36, 3) := by decide +kernel
theorem dX7_search_14 : decode cX7_search 14 = .ok (.aload_n 0, 1) := by decide +kernel
theorem dX7_search_15 : decode cX7_search 15 = .ok (.getfield 22, 3) := by decide +kernel
theorem dX7_search_18 : decode cX7_search 18 = .ok (.iconst 0, 1) := by decide +kernel
theorem dX7_search_19 : decode cX7_search 19 = .ok (.aaload, 1) := by decide +kernel
theorem dX7_search_20 : decode cX7_search 20 = .ok (.aload_n 1, 1) := by decide +kernel
theorem dX7_search_21 : decode cX7_search 21 = .ok (.invokevirtual 39, 3) := by decide +kernel
theorem dX7_search_24 : decode cX7_search 24 = .ok (.aload_n 0, 1) := by decide +kernel
theorem dX7_search_25 : decode cX7_search 25 = .ok (.iconst 0, 1) := by decide +kernel
theorem dX7_search_26 : decode cX7_search 26 = .ok (.invokevirtual 45, 3) := by decide +kernel
theorem dX7_search_29 : decode cX7_search 29 = .ok (.return_, 1) := by decide +kernel
theorem dX7_chooseFrom_0 : decode cX7_chooseFrom 0 = .ok (.aload_n 0, 1) := by decide +kernel
theorem dX7_chooseFrom_1 : decode cX7_chooseFrom 1 = .ok (.getfield 22, 3) := by decide +kernel
theorem dX7_chooseFrom_4 : decode cX7_chooseFrom 4 = .ok (.iload_n 1, 1) := by decide +kernel
theorem dX7_chooseFrom_5 : decode cX7_chooseFrom 5 = .ok (.aaload, 1) := by decide +kernel
theorem dX7_chooseFrom_6 : decode cX7_chooseFrom 6 = .ok (.astore_n 2, 1) := by decide +kernel
theorem dX7_chooseFrom_7 : decode cX7_chooseFrom 7 = .ok (.iload_n 1, 1) := by decide +kernel
theorem dX7_chooseFrom_8 : decode cX7_chooseFrom 8 = .ok (.aload_n 0, 1) := by decide +kernel
theorem dX7_chooseFrom_9 : decode cX7_chooseFrom 9 = .ok (.getfield 32, 3) := by decide +kernel
theorem dX7_chooseFrom_12 : decode cX7_chooseFrom 12 = .ok (.if_icmp .lt 12, 3) := by decide +kernel
theorem dX7_chooseFrom_15 : decode cX7_chooseFrom 15 = .ok (.aload_n 0, 1) := by decide +kernel
theorem dX7_chooseFrom_16 : decode cX7_chooseFrom 16 = .ok (.aload_n 2, 1) := by decide +kernel
theorem dX7_chooseFrom_17 : decode cX7_chooseFrom 17 = .ok (.invokevirtual 49, 3) := by decide +kernel
theorem dX7_chooseFrom_20 : decode cX7_chooseFrom 20 = .ok (.invokevirtual 53, 3) := by decide +kernel
theorem dX7_chooseFrom_23 : decode cX7_chooseFrom 23 = .ok (.return_, 1) := by decide +kernel
theorem dX7_chooseFrom_24 : decode cX7_chooseFrom 24 = .ok (.aload_n 0, 1) := by decide +kernel
theorem dX7_chooseFrom_25 : decode cX7_chooseFrom 25 = .ok (.iload_n 1, 1) := by decide +kernel
theorem dX7_chooseFrom_26 : decode cX7_chooseFrom 26 = .ok (.bipush (-4), 2) := by decide +kernel
theorem dX7_chooseFrom_28 : decode cX7_chooseFrom 28 = .ok (.invokevirtual 56, 3) := by decide +kernel
theorem dX7_chooseFrom_31 : decode cX7_chooseFrom 31 = .ok (.iconst 0, 1) := by decide +kernel
theorem dX7_chooseFrom_32 : decode cX7_chooseFrom 32 = .ok (.istore_n 3, 1) := by decide +kernel
theorem dX7_chooseFrom_33 : decode cX7_chooseFrom 33 = .ok (.iload_n 3, 1) := by decide +kernel
theorem dX7_chooseFrom_34 : decode cX7_chooseFrom 34 = .ok (.aload_n 2, 1) := by decide +kernel
theorem dX7_chooseFrom_35 : decode cX7_chooseFrom 35 = .ok (.getfield 60, 3) := by decide +kernel
theorem dX7_chooseFrom_38 : decode cX7_chooseFrom 38 = .ok (.getfield 64, 3) := by decide +kernel
theorem dX7_chooseFrom_41 : decode cX7_chooseFrom 41 = .ok (.if_icmp .ge 37, 3) := by decide +kernel
theorem dX7_chooseFrom_44 : decode cX7_chooseFrom 44 = .ok (.aload_n 0, 1) := by decide +kernel
theorem dX7_chooseFrom_45 : decode cX7_chooseFrom 45 = .ok (.getfield 36, 3) := by decide +kernel
theorem dX7_chooseFrom_48 : decode cX7_chooseFrom 48 = .ok (.aload_n 2, 1) := by decide +kernel
theorem dX7_chooseFrom_49 : decode cX7_chooseFrom 49 = .ok (.getfield 60, 3) := by decide +kernel
theorem dX7_chooseFrom_52 : decode cX7_chooseFrom 52 = .ok (.getfield 69, 3) := by decide +kernel
theorem dX7_chooseFrom_55 : decode cX7_chooseFrom 55 = .ok (.if_icmp .ge 23, 3) := by decide +kernel
theorem dX7_chooseFrom_58 : decode cX7_chooseFrom 58 = .ok (.aload_n 2, 1) := by decide +kernel
theorem dX7_chooseFrom_59 : decode cX7_chooseFrom 59 = .ok (.iload_n 3, 1) := by decide +kernel
theorem dX7_chooseFrom_60 : decode cX7_chooseFrom 60 = .ok (.invokevirtual 72, 3) := by decide +kernel
theorem dX7_chooseFrom_63 : decode cX7_chooseFrom 63 = .ok (.ifCond .eq 9, 3) := by decide +kernel
theorem dX7_chooseFrom_66 : decode cX7_chooseFrom 66 = .ok (.aload_n 0, 1) := by decide +kernel
theorem dX7_chooseFrom_67 : decode cX7_chooseFrom 67 = .ok (.iload_n 1, 1) := by decide +kernel
theorem dX7_chooseFrom_68 : decode cX7_chooseFrom 68 = .ok (.iload_n 3, 1) := by decide +kernel
theorem dX7_chooseFrom_69 : decode cX7_chooseFrom 69 = .ok (.invokevirtual 56, 3) := by decide +kernel
theorem dX7_chooseFrom_72 : decode cX7_chooseFrom 72 = .ok (.iinc 3 1, 3) := by decide +kernel
theorem dX7_chooseFrom_75 : decode cX7_chooseFrom 75 = .ok (.goto (-42), 3) := by decide +kernel
theorem dX7_chooseFrom_78 : decode cX7_chooseFrom 78 = .ok (.return_, 1) := by decide +kernel
theorem dX7_choose_0 : decode cX7_choose 0 = .ok (.aload_n 0, 1) := by decide +kernel
theorem dX7_choose_1 : decode cX7_choose 1 = .ok (.getfield 22, 3) := by decide +kernel
theorem dX7_choose_4 : decode cX7_choose 4 = .ok (.iload_n 1, 1) := by decide +kernel
theorem dX7_choose_5 : decode cX7_choose 5 = .ok (.iconst 1, 1) := by decide +kernel
theorem dX7_choose_6 : decode cX7_choose 6 = .ok (.iadd, 1) := by decide +kernel
theorem dX7_choose_7 : decode cX7_choose 7 = .ok (.aaload, 1) := by decide +kernel
theorem dX7_choose_8 : decode cX7_choose 8 = .ok (.astore_n 3, 1) := by decide +kernel
theorem dX7_choose_9 : decode cX7_choose 9 = .ok (.aload_n 3, 1) := by decide +kernel
theorem dX7_choose_10 : decode cX7_choose 10 = .ok (.aload_n 0, 1) := by decide +kernel
theorem dX7_choose_11 : decode cX7_choose 11 = .ok (.getfield 22, 3) := by decide +kernel
theorem dX7_choose_14 : decode cX7_choose 14 = .ok (.iload_n 1, 1) := by decide +kernel
theorem dX7_choose_15 : decode cX7_choose 15 = .ok (.aaload, 1) := by decide +kernel
theorem dX7_choose_16 : decode cX7_choose 16 = .ok (.invokevirtual 39, 3) := by decide +kernel
theorem dX7_choose_19 : decode cX7_choose 19 = .ok (.iload_n 2, 1) := by decide +kernel
theorem dX7_choose_20 : decode cX7_choose 20 = .ok (.ifCond .lt 8, 3) := by decide +kernel
theorem dX7_choose_23 : decode cX7_choose 23 = .ok (.aload_n 3, 1) := by decide +kernel
theorem dX7_choose_24 : decode cX7_choose 24 = .ok (.iload_n 2, 1) := by decide +kernel
theorem dX7_choose_25 : decode cX7_choose 25 = .ok (.invokevirtual 76, 3) := by decide +kernel
theorem dX7_choose_28 : decode cX7_choose 28 = .ok (.aload_n 3, 1) := by decide +kernel
end
section
theorem dX7_choose_29 : decode cX7_choose 29 = .ok (.invokevirtual 79, 3) := by decide +kernel
theorem dX7_choose_32 : decode cX7_choose 32 = .ok (.aload_n 0, 1) := by decide +kernel
theorem dX7_choose_33 : decode cX7_choose 33 = .ok (.getfield 9, 3) := by decide +kernel
theorem dX7_choose_36 : decode cX7_choose 36 = .ok (.iload_n 1, 1) := by decide +kernel
theorem dX7_choose_37 : decode cX7_choose 37 = .ok (.iload_n 2, 1) := by decide +kernel
theorem dX7_choose_38 : decode cX7_choose 38 = .ok (.iastore, 1) := by decide +kernel
theorem dX7_choose_39 : decode cX7_choose 39 = .ok (.aload_n 0, 1) := by decide +kernel
theorem dX7_choose_40 : decode cX7_choose 40 = .ok (.iload_n 1, 1) := by decide +kernel
theorem dX7_choose_41 : decode cX7_choose 41 = .ok (.iconst 1, 1) := by decide +kernel
theorem dX7_choose_42 : decode cX7_choose 42 = .ok (.iadd, 1) := by decide +kernel
theorem dX7_choose_43 : decode cX7_choose 43 = .ok (.invokevirtual 45, 3) := by decide +kernel
theorem dX7_choose_46 : decode cX7_choose 46 = .ok (.return_, 1) := by decide +kernel
theorem dX7_takeIfBetter_0 : decode cX7_takeIfBetter 0 = .ok (.iload_n 1, 1) := by decide +kernel
theorem dX7_takeIfBetter_1 : decode cX7_takeIfBetter 1 = .ok (.aload_n 0, 1) := by decide +kernel
theorem dX7_takeIfBetter_2 : decode cX7_takeIfBetter 2 = .ok (.getfield 36, 3) := by decide +kernel
theorem dX7_takeIfBetter_5 : decode cX7_takeIfBetter 5 = .ok (.if_icmp .le 22, 3) := by decide +kernel
theorem dX7_takeIfBetter_8 : decode cX7_takeIfBetter 8 = .ok (.aload_n 0, 1) := by decide +kernel
theorem dX7_takeIfBetter_9 : decode cX7_takeIfBetter 9 = .ok (.iload_n 1, 1) := by decide +kernel
theorem dX7_takeIfBetter_10 : decode cX7_takeIfBetter 10 = .ok (.putfield 36, 3) := by decide +kernel
theorem dX7_takeIfBetter_13 : decode cX7_takeIfBetter 13 = .ok (.aload_n 0, 1) := by decide +kernel
theorem dX7_takeIfBetter_14 : decode cX7_takeIfBetter 14 = .ok (.getfield 9, 3) := by decide +kernel
theorem dX7_takeIfBetter_17 : decode cX7_takeIfBetter 17 = .ok (.iconst 0, 1) := by decide +kernel
theorem dX7_takeIfBetter_18 : decode cX7_takeIfBetter 18 = .ok (.aload_n 0, 1) := by decide +kernel
theorem dX7_takeIfBetter_19 : decode cX7_takeIfBetter 19 = .ok (.getfield 15, 3) := by decide +kernel
theorem dX7_takeIfBetter_22 : decode cX7_takeIfBetter 22 = .ok (.iconst 0, 1) := by decide +kernel
theorem dX7_takeIfBetter_23 : decode cX7_takeIfBetter 23 = .ok (.iconst 4, 1) := by decide +kernel
theorem dX7_takeIfBetter_24 : decode cX7_takeIfBetter 24 = .ok (.invokestatic 82, 3) := by decide +kernel
theorem dX7_takeIfBetter_27 : decode cX7_takeIfBetter 27 = .ok (.return_, 1) := by decide +kernel
theorem dX8_init_0 : decode cX8_init 0 = .ok (.aload_n 0, 1) := by decide +kernel
theorem dX8_init_1 : decode cX8_init 1 = .ok (.invokespecial 3, 3) := by decide +kernel
theorem dX8_init_4 : decode cX8_init 4 = .ok (.aload_n 0, 1) := by decide +kernel
theorem dX8_init_5 : decode cX8_init 5 = .ok (.bipush 6, 2) := by decide +kernel
theorem dX8_init_7 : decode cX8_init 7 = .ok (.newarray .int, 2) := by decide +kernel
theorem dX8_init_9 : decode cX8_init 9 = .ok (.putfield 9, 3) := by decide +kernel
theorem dX8_init_12 : decode cX8_init 12 = .ok (.aload_n 0, 1) := by decide +kernel
theorem dX8_init_13 : decode cX8_init 13 = .ok (.bipush 6, 2) := by decide +kernel
theorem dX8_init_15 : decode cX8_init 15 = .ok (.newarray .int, 2) := by decide +kernel
theorem dX8_init_17 : decode cX8_init 17 = .ok (.putfield 15, 3) := by decide +kernel
theorem dX8_init_20 : decode cX8_init 20 = .ok (.aload_n 0, 1) := by decide +kernel
theorem dX8_init_21 : decode cX8_init 21 = .ok (.bipush 6, 2) := by decide +kernel
theorem dX8_init_23 : decode cX8_init 23 = .ok (.newarray .int, 2) := by decide +kernel
theorem dX8_init_25 : decode cX8_init 25 = .ok (.putfield 18, 3) := by decide +kernel
theorem dX8_init_28 : decode cX8_init 28 = .ok (.aload_n 0, 1) := by decide +kernel
theorem dX8_init_29 : decode cX8_init 29 = .ok (.bipush 6, 2) := by decide +kernel
theorem dX8_init_31 : decode cX8_init 31 = .ok (.newarray .boolean, 2) := by decide +kernel
theorem dX8_init_33 : decode cX8_init 33 = .ok (.putfield 21, 3) := by decide +kernel
theorem dX8_init_36 : decode cX8_init 36 = .ok (.aload_n 0, 1) := by decide +kernel
theorem dX8_init_37 : decode cX8_init 37 = .ok (.bipush 6, 2) := by decide +kernel
theorem dX8_init_39 : decode cX8_init 39 = .ok (.newarray .boolean, 2) := by decide +kernel
theorem dX8_init_41 : decode cX8_init 41 = .ok (.putfield 25, 3) := by decide +kernel
theorem dX8_init_44 : decode cX8_init 44 = .ok (.aload_n 0, 1) := by decide +kernel
theorem dX8_init_45 : decode cX8_init 45 = .ok (.aload_n 1, 1) := by decide +kernel
theorem dX8_init_46 : decode cX8_init 46 = .ok (.putfield 28, 3) := by decide +kernel
theorem dX8_init_49 : decode cX8_init 49 = .ok (.return_, 1) := by decide +kernel
theorem dX8_standAs_0 : decode cX8_standAs 0 = .ok (.aload_n 1, 1) := by decide +kernel
theorem dX8_standAs_1 : decode cX8_standAs 1 = .ok (.getfield 9, 3) := by decide +kernel
theorem dX8_standAs_4 : decode cX8_standAs 4 = .ok (.iconst 0, 1) := by decide +kernel
theorem dX8_standAs_5 : decode cX8_standAs 5 = .ok (.aload_n 0, 1) := by decide +kernel
theorem dX8_standAs_6 : decode cX8_standAs 6 = .ok (.getfield 9, 3) := by decide +kernel
theorem dX8_standAs_9 : decode cX8_standAs 9 = .ok (.iconst 0, 1) := by decide +kernel
theorem dX8_standAs_10 : decode cX8_standAs 10 = .ok (.bipush 6, 2) := by decide +kernel
theorem dX8_standAs_12 : decode cX8_standAs 12 = .ok (.invokestatic 32, 3) := by decide +kernel
theorem dX8_standAs_15 : decode cX8_standAs 15 = .ok (.aload_n 1, 1) := by decide +kernel
theorem dX8_standAs_16 : decode cX8_standAs 16 = .ok (.getfield 15, 3) := by decide +kernel
theorem dX8_standAs_19 : decode cX8_standAs 19 = .ok (.iconst 0, 1) := by decide +kernel
theorem dX8_standAs_20 : decode cX8_standAs 20 = .ok (.aload_n 0, 1) := by decide +kernel
theorem dX8_standAs_21 : decode cX8_standAs 21 = .ok (.getfield 15, 3) := by decide +kernel
theorem dX8_standAs_24 : decode cX8_standAs 24 = .ok (.iconst 0, 1) := by decide +kernel
theorem dX8_standAs_25 : decode cX8_standAs 25 = .ok (.bipush 6, 2) := by decide +kernel
theorem dX8_standAs_27 : decode cX8_standAs 27 = .ok (.invokestatic 32, 3) := by decide +kernel
theorem dX8_standAs_30 : decode cX8_standAs 30 = .ok (.aload_n 1, 1) := by decide +kernel
theorem dX8_standAs_31 : decode cX8_standAs 31 = .ok (.getfield 18, 3) := by decide +kernel
theorem dX8_standAs_34 : decode cX8_standAs 34 = .ok (.iconst 0, 1) := by decide +kernel
theorem dX8_standAs_35 : decode cX8_standAs 35 = .ok (.aload_n 0, 1) := by decide +kernel
theorem dX8_standAs_36 : decode cX8_standAs 36 = .ok (.getfield 18, 3) := by decide +kernel
theorem dX8_standAs_39 : decode cX8_standAs 39 = .ok (.iconst 0, 1) := by decide +kernel
theorem dX8_standAs_40 : decode cX8_standAs 40 = .ok (.bipush 6, 2) := by decide +kernel
theorem dX8_standAs_42 : decode cX8_standAs 42 = .ok (.invokestatic 32, 3) := by decide +kernel
theorem dX8_standAs_45 : decode cX8_standAs 45 = .ok (.aload_n 1, 1) := by decide +kernel
theorem dX8_standAs_46 : decode cX8_standAs 46 = .ok (.getfield 21, 3) := by decide +kernel
theorem dX8_standAs_49 : decode cX8_standAs 49 = .ok (.iconst 0, 1) := by decide +kernel
theorem dX8_standAs_50 : decode cX8_standAs 50 = .ok (.aload_n 0, 1) := by decide +kernel
theorem dX8_standAs_51 : decode cX8_standAs 51 = .ok (.getfield 21, 3) := by decide +kernel
theorem dX8_standAs_54 : decode cX8_standAs 54 = .ok (.iconst 0, 1) := by decide +kernel
theorem dX8_standAs_55 : decode cX8_standAs 55 = .ok (.bipush 6, 2) := by decide +kernel
theorem dX8_standAs_57 : decode cX8_standAs 57 = .ok (.invokestatic 32, 3) := by decide +kernel
theorem dX8_standAs_60 : decode cX8_standAs 60 = .ok (.aload_n 1, 1) := by decide +kernel
theorem dX8_standAs_61 : decode cX8_standAs 61 = .ok (.getfield 25, 3) := by decide +kernel
theorem dX8_standAs_64 : decode cX8_standAs 64 = .ok (.iconst 0, 1) := by decide +kernel
theorem dX8_standAs_65 : decode cX8_standAs 65 = .ok (.aload_n 0, 1) := by decide +kernel
theorem dX8_standAs_66 : decode cX8_standAs 66 = .ok (.getfield 25, 3) := by decide +kernel
theorem dX8_standAs_69 : decode cX8_standAs 69 = .ok (.iconst 0, 1) := by decide +kernel
theorem dX8_standAs_70 : decode cX8_standAs 70 = .ok (.bipush 6, 2) := by decide +kernel
theorem dX8_standAs_72 : decode cX8_standAs 72 = .ok (.invokestatic 32, 3) := by decide +kernel
theorem dX8_standAs_75 : decode cX8_standAs 75 = .ok (.aload_n 0, 1) := by decide +kernel
theorem dX8_standAs_76 : decode cX8_standAs 76 = .ok (.aload_n 1, 1) := by decide +kernel
theorem dX8_standAs_77 : decode cX8_standAs 77 = .ok (.getfield 38, 3) := by decide +kernel
theorem dX8_standAs_80 : decode cX8_standAs 80 = .ok (.putfield 38, 3) := by decide +kernel
theorem dX8_standAs_83 : decode cX8_standAs 83 = .ok (.return_, 1) := by decide +kernel
theorem dX8_fearOn_0 : decode cX8_fearOn 0 = .ok (.aload_n 0, 1) := by decide +kernel
theorem dX8_fearOn_1 : decode cX8_fearOn 1 = .ok (.aload_n 0, 1) := by decide +kernel
theorem dX8_fearOn_2 : decode cX8_fearOn 2 = .ok (.getfield 28, 3) := by decide +kernel
theorem dX8_fearOn_5 : decode cX8_fearOn 5 = .ok (.getfield 42, 3) := by decide +kernel
theorem dX8_fearOn_8 : decode cX8_fearOn 8 = .ok (.iload_n 1, 1) := by decide +kernel
theorem dX8_fearOn_9 : decode cX8_fearOn 9 = .ok (.iaload, 1) := by decide +kernel
theorem dX8_fearOn_10 : decode cX8_fearOn 10 = .ok (.iload_n 1, 1) := by decide +kernel
theorem dX8_fearOn_11 : decode cX8_fearOn 11 = .ok (.iload_n 2, 1) := by decide +kernel
theorem dX8_fearOn_12 : decode cX8_fearOn 12 = .ok (.invokevirtual 47, 3) := by decide +kernel
theorem dX8_fearOn_15 : decode cX8_fearOn 15 = .ok (.ireturn, 1) := by decide +kernel
theorem dX8_fearAs_0 : decode cX8_fearAs 0 = .ok (.iconst 0, 1) := by decide +kernel
theorem dX8_fearAs_1 : decode cX8_fearAs 1 = .ok (.istore 4, 2) := by decide +kernel
theorem dX8_fearAs_3 : decode cX8_fearAs 3 = .ok (.iconst 0, 1) := by decide +kernel
theorem dX8_fearAs_4 : decode cX8_fearAs 4 = .ok (.istore 5, 2) := by decide +kernel
theorem dX8_fearAs_6 : decode cX8_fearAs 6 = .ok (.iload_n 1, 1) := by decide +kernel
theorem dX8_fearAs_7 : decode cX8_fearAs 7 = .ok (.iconst 3, 1) := by decide +kernel
theorem dX8_fearAs_8 : decode cX8_fearAs 8 = .ok (.if_icmp .ne 51, 3) := by decide +kernel
theorem dX8_fearAs_11 : decode cX8_fearAs 11 = .ok (.iload 5, 2) := by decide +kernel
theorem dX8_fearAs_13 : decode cX8_fearAs 13 = .ok (.aload_n 0, 1) := by decide +kernel
theorem dX8_fearAs_14 : decode cX8_fearAs 14 = .ok (.getfield 28, 3) := by decide +kernel
theorem dX8_fearAs_17 : decode cX8_fearAs 17 = .ok (.getfield 51, 3) := by decide +kernel
theorem dX8_fearAs_20 : decode cX8_fearAs 20 = .ok (.if_icmp .ge 39, 3) := by decide +kernel
theorem dX8_fearAs_23 : decode cX8_fearAs 23 = .ok (.iload 5, 2) := by decide +kernel
theorem dX8_fearAs_25 : decode cX8_fearAs 25 = .ok (.iload_n 2, 1) := by decide +kernel
theorem dX8_fearAs_26 : decode cX8_fearAs 26 = .ok (.if_icmp .eq 27, 3) := by decide +kernel
theorem dX8_fearAs_29 : decode cX8_fearAs 29 = .ok (.aload_n 0, 1) := by decide +kernel
theorem dX8_fearAs_30 : decode cX8_fearAs 30 = .ok (.getfield 21, 3) := by decide +kernel
theorem dX8_fearAs_33 : decode cX8_fearAs 33 = .ok (.iload 5, 2) := by decide +kernel
theorem dX8_fearAs_35 : decode cX8_fearAs 35 = .ok (.baload, 1) := by decide +kernel
theorem dX8_fearAs_36 : decode cX8_fearAs 36 = .ok (.ifCond .ne 17, 3) := by decide +kernel
theorem dX8_fearAs_39 : decode cX8_fearAs 39 = .ok (.aload_n 0, 1) := by decide +kernel
theorem dX8_fearAs_40 : decode cX8_fearAs 40 = .ok (.getfield 9, 3) := by decide +kernel
theorem dX8_fearAs_43 : decode cX8_fearAs 43 = .ok (.iload 5, 2) := by decide +kernel
theorem dX8_fearAs_45 : decode cX8_fearAs 45 = .ok (.iaload, 1) := by decide +kernel
theorem dX8_fearAs_46 : decode cX8_fearAs 46 = .ok (.iload_n 3, 1) := by decide +kernel
theorem dX8_fearAs_47 : decode cX8_fearAs 47 = .ok (.if_icmp .ne 6, 3) := by decide +kernel
theorem dX8_fearAs_50 : decode cX8_fearAs 50 = .ok (.iinc 4 1, 3) := by decide +kernel
theorem dX8_fearAs_53 : decode cX8_fearAs 53 = .ok (.iinc 5 1, 3) := by decide +kernel
theorem dX8_fearAs_56 : decode cX8_fearAs 56 = .ok (.goto (-50), 3) := by decide +kernel
theorem dX8_fearAs_59 : decode cX8_fearAs 59 = .ok (.aload_n 0, 1) := by decide +kernel
theorem dX8_fearAs_60 : decode cX8_fearAs 60 = .ok (.iload 4, 2) := by decide +kernel
theorem dX8_fearAs_62 : decode cX8_fearAs 62 = .ok (.iload_n 1, 1) := by decide +kernel
theorem dX8_fearAs_63 : decode cX8_fearAs 63 = .ok (.aload_n 0, 1) := by decide +kernel
theorem dX8_fearAs_64 : decode cX8_fearAs 64 = .ok (.getfield 15, 3) := by decide +kernel
theorem dX8_fearAs_67 : decode cX8_fearAs 67 = .ok (.iload_n 2, 1) := by decide +kernel
theorem dX8_fearAs_68 : decode cX8_fearAs 68 = .ok (.iaload, 1) := by decide +kernel
theorem dX8_fearAs_69 : decode cX8_fearAs 69 = .ok (.iload_n 3, 1) := by decide +kernel
theorem dX8_fearAs_70 : decode cX8_fearAs 70 = .ok (.invokevirtual 54, 3) := by decide +kernel
theorem dX8_fearAs_73 : decode cX8_fearAs 73 = .ok (.ireturn, 1) := by decide +kernel
theorem dX8_fearAmong_0 : decode cX8_fearAmong 0 = .ok (.aload_n 0, 1) := by decide +kernel
theorem dX8_fearAmong_1 : decode cX8_fearAmong 1 = .ok (.getfield 28, 3) := by decide +kernel
theorem dX8_fearAmong_4 : decode cX8_fearAmong 4 = .ok (.getfield 58, 3) := by decide +kernel
theorem dX8_fearAmong_7 : decode cX8_fearAmong 7 = .ok (.iconst 1, 1) := by decide +kernel
theorem dX8_fearAmong_8 : decode cX8_fearAmong 8 = .ok (.isub, 1) := by decide +kernel
theorem dX8_fearAmong_9 : decode cX8_fearAmong 9 = .ok (.iload 4, 2) := by decide +kernel
theorem dX8_fearAmong_11 : decode cX8_fearAmong 11 = .ok (.isub, 1) := by decide +kernel
theorem dX8_fearAmong_12 : decode cX8_fearAmong 12 = .ok (.istore 5, 2) := by decide +kernel
theorem dX8_fearAmong_14 : decode cX8_fearAmong 14 = .ok (.iload_n 2, 1) := by decide +kernel
theorem dX8_fearAmong_15 : decode cX8_fearAmong 15 = .ok (.tableswitch 67 1 3 #[25, 28, 50], 25) := by decide +kernel
theorem dX8_fearAmong_40 : decode cX8_fearAmong 40 = .ok (.iload 5, 2) := by decide +kernel
theorem dX8_fearAmong_42 : decode cX8_fearAmong 42 = .ok (.ireturn, 1) := by decide +kernel
theorem dX8_fearAmong_43 : decode cX8_fearAmong 43 = .ok (.iconst 2, 1) := by decide +kernel
theorem dX8_fearAmong_44 : decode cX8_fearAmong 44 = .ok (.iload 5, 2) := by decide +kernel
theorem dX8_fearAmong_46 : decode cX8_fearAmong 46 = .ok (.imul, 1) := by decide +kernel
theorem dX8_fearAmong_47 : decode cX8_fearAmong 47 = .ok (.iload_n 3, 1) := by decide +kernel
theorem dX8_fearAmong_48 : decode cX8_fearAmong 48 = .ok (.bipush 20, 2) := by decide +kernel
theorem dX8_fearAmong_50 : decode cX8_fearAmong 50 = .ok (.if_icmp .le 12, 3) := by decide +kernel
theorem dX8_fearAmong_53 : decode cX8_fearAmong 53 = .ok (.iload_n 3, 1) := by decide +kernel
theorem dX8_fearAmong_54 : decode cX8_fearAmong 54 = .ok (.bipush 20, 2) := by decide +kernel
theorem dX8_fearAmong_56 : decode cX8_fearAmong 56 = .ok (.isub, 1) := by decide +kernel
theorem dX8_fearAmong_57 : decode cX8_fearAmong 57 = .ok (.iconst 5, 1) := by decide +kernel
theorem dX8_fearAmong_58 : decode cX8_fearAmong 58 = .ok (.idiv, 1) := by decide +kernel
theorem dX8_fearAmong_59 : decode cX8_fearAmong 59 = .ok (.goto 4, 3) := by decide +kernel
theorem dX8_fearAmong_62 : decode cX8_fearAmong 62 = .ok (.iconst 0, 1) := by decide +kernel
theorem dX8_fearAmong_63 : decode cX8_fearAmong 63 = .ok (.iadd, 1) := by decide +kernel
theorem dX8_fearAmong_64 : decode cX8_fearAmong 64 = .ok (.ireturn, 1) := by decide +kernel
theorem dX8_fearAmong_65 : decode cX8_fearAmong 65 = .ok (.iload 5, 2) := by decide +kernel
theorem dX8_fearAmong_67 : decode cX8_fearAmong 67 = .ok (.iload_n 1, 1) := by decide +kernel
theorem dX8_fearAmong_68 : decode cX8_fearAmong 68 = .ok (.if_icmp .le 12, 3) := by decide +kernel
theorem dX8_fearAmong_71 : decode cX8_fearAmong 71 = .ok (.iconst 2, 1) := by decide +kernel
theorem dX8_fearAmong_72 : decode cX8_fearAmong 72 = .ok (.iload 5, 2) := by decide +kernel
theorem dX8_fearAmong_74 : decode cX8_fearAmong 74 = .ok (.iload_n 1, 1) := by decide +kernel
theorem dX8_fearAmong_75 : decode cX8_fearAmong 75 = .ok (.isub, 1) := by decide +kernel
theorem dX8_fearAmong_76 : decode cX8_fearAmong 76 = .ok (.imul, 1) := by decide +kernel
theorem dX8_fearAmong_77 : decode cX8_fearAmong 77 = .ok (.goto 4, 3) := by decide +kernel
theorem dX8_fearAmong_80 : decode cX8_fearAmong 80 = .ok (.iconst 0, 1) := by decide +kernel
theorem dX8_fearAmong_81 : decode cX8_fearAmong 81 = .ok (.ireturn, 1) := by decide +kernel
theorem dX8_fearAmong_82 : decode cX8_fearAmong 82 = .ok (.iconst 2, 1) := by decide +kernel
theorem dX8_fearAmong_83 : decode cX8_fearAmong 83 = .ok (.iload 5, 2) := by decide +kernel
theorem dX8_fearAmong_85 : decode cX8_fearAmong 85 = .ok (.imul, 1) := by decide +kernel
theorem dX8_fearAmong_86 : decode cX8_fearAmong 86 = .ok (.ireturn, 1) := by decide +kernel
theorem dX8_isFrozen_0 : decode cX8_isFrozen 0 = .ok (.aload_n 0, 1) := by decide +kernel
theorem dX8_isFrozen_1 : decode cX8_isFrozen 1 = .ok (.getfield 21, 3) := by decide +kernel
theorem dX8_isFrozen_4 : decode cX8_isFrozen 4 = .ok (.iload_n 1, 1) := by decide +kernel
theorem dX8_isFrozen_5 : decode cX8_isFrozen 5 = .ok (.baload, 1) := by decide +kernel
theorem dX8_isFrozen_6 : decode cX8_isFrozen 6 = .ok (.ifCond .ne 36, 3) := by decide +kernel
theorem dX8_isFrozen_9 : decode cX8_isFrozen 9 = .ok (.aload_n 0, 1) := by decide +kernel
theorem dX8_isFrozen_10 : decode cX8_isFrozen 10 = .ok (.aload_n 0, 1) := by decide +kernel
theorem dX8_isFrozen_11 : decode cX8_isFrozen 11 = .ok (.getfield 28, 3) := by decide +kernel
theorem dX8_isFrozen_14 : decode cX8_isFrozen 14 = .ok (.getfield 42, 3) := by decide +kernel
theorem dX8_isFrozen_17 : decode cX8_isFrozen 17 = .ok (.iload_n 1, 1) := by decide +kernel
theorem dX8_isFrozen_18 : decode cX8_isFrozen 18 = .ok (.iaload, 1) := by decide +kernel
theorem dX8_isFrozen_19 : decode cX8_isFrozen 19 = .ok (.iload_n 1, 1) := by decide +kernel
theorem dX8_isFrozen_20 : decode cX8_isFrozen 20 = .ok (.aload_n 0, 1) := by decide +kernel
theorem dX8_isFrozen_21 : decode cX8_isFrozen 21 = .ok (.getfield 9, 3) := by decide +kernel
theorem dX8_isFrozen_24 : decode cX8_isFrozen 24 = .ok (.iload_n 1, 1) := by decide +kernel
theorem dX8_isFrozen_25 : decode cX8_isFrozen 25 = .ok (.iaload, 1) := by decide +kernel
theorem dX8_isFrozen_26 : decode cX8_isFrozen 26 = .ok (.invokevirtual 47, 3) := by decide +kernel
theorem dX8_isFrozen_29 : decode cX8_isFrozen 29 = .ok (.aload_n 0, 1) := by decide +kernel
theorem dX8_isFrozen_30 : decode cX8_isFrozen 30 = .ok (.getfield 18, 3) := by decide +kernel
theorem dX8_isFrozen_33 : decode cX8_isFrozen 33 = .ok (.iload_n 1, 1) := by decide +kernel
theorem dX8_isFrozen_34 : decode cX8_isFrozen 34 = .ok (.iaload, 1) := by decide +kernel
theorem dX8_isFrozen_35 : decode cX8_isFrozen 35 = .ok (.if_icmp .le 7, 3) := by decide +kernel
theorem dX8_isFrozen_38 : decode cX8_isFrozen 38 = .ok (.iconst 1, 1) := by decide +kernel
theorem dX8_isFrozen_39 : decode cX8_isFrozen 39 = .ok (.goto 4, 3) := by decide +kernel
theorem dX8_isFrozen_42 : decode cX8_isFrozen 42 = .ok (.iconst 0, 1) := by decide +kernel
theorem dX8_isFrozen_43 : decode cX8_isFrozen 43 = .ok (.ireturn, 1) := by decide +kernel
theorem dX8_isSteady_0 : decode cX8_isSteady 0 = .ok (.aload_n 0, 1) := by decide +kernel
theorem dX8_isSteady_1 : decode cX8_isSteady 1 = .ok (.getfield 21, 3) := by decide +kernel
theorem dX8_isSteady_4 : decode cX8_isSteady 4 = .ok (.iload_n 1, 1) := by decide +kernel
theorem dX8_isSteady_5 : decode cX8_isSteady 5 = .ok (.baload, 1) := by decide +kernel
theorem dX8_isSteady_6 : decode cX8_isSteady 6 = .ok (.ifCond .ne 36, 3) := by decide +kernel
theorem dX8_isSteady_9 : decode cX8_isSteady 9 = .ok (.aload_n 0, 1) := by decide +kernel
theorem dX8_isSteady_10 : decode cX8_isSteady 10 = .ok (.aload_n 0, 1) := by decide +kernel
theorem dX8_isSteady_11 : decode cX8_isSteady 11 = .ok (.getfield 28, 3) := by decide +kernel
theorem dX8_isSteady_14 : decode cX8_isSteady 14 = .ok (.getfield 42, 3) := by decide +kernel
theorem dX8_isSteady_17 : decode cX8_isSteady 17 = .ok (.iload_n 1, 1) := by decide +kernel
theorem dX8_isSteady_18 : decode cX8_isSteady 18 = .ok (.iaload, 1) := by decide +kernel
theorem dX8_isSteady_19 : decode cX8_isSteady 19 = .ok (.iload_n 1, 1) := by decide +kernel
theorem dX8_isSteady_20 : decode cX8_isSteady 20 = .ok (.aload_n 0, 1) := by decide +kernel
theorem dX8_isSteady_21 : decode cX8_isSteady 21 = .ok (.getfield 9, 3) := by decide +kernel
theorem dX8_isSteady_24 : decode cX8_isSteady 24 = .ok (.iload_n 1, 1) := by decide +kernel
theorem dX8_isSteady_25 : decode cX8_isSteady 25 = .ok (.iaload, 1) := by decide +kernel
theorem dX8_isSteady_26 : decode cX8_isSteady 26 = .ok (.invokevirtual 47, 3) := by decide +kernel
theorem dX8_isSteady_29 : decode cX8_isSteady 29 = .ok (.aload_n 0, 1) := by decide +kernel
theorem dX8_isSteady_30 : decode cX8_isSteady 30 = .ok (.getfield 18, 3) := by decide +kernel
theorem dX8_isSteady_33 : decode cX8_isSteady 33 = .ok (.iload_n 1, 1) := by decide +kernel
theorem dX8_isSteady_34 : decode cX8_isSteady 34 = .ok (.iaload, 1) := by decide +kernel
theorem dX8_isSteady_35 : decode cX8_isSteady 35 = .ok (.if_icmp .gt 7, 3) := by decide +kernel
theorem dX8_isSteady_38 : decode cX8_isSteady 38 = .ok (.iconst 1, 1) := by decide +kernel
theorem dX8_isSteady_39 : decode cX8_isSteady 39 = .ok (.goto 4, 3) := by decide +kernel
theorem dX8_isSteady_42 : decode cX8_isSteady 42 = .ok (.iconst 0, 1) := by decide +kernel
theorem dX8_isSteady_43 : decode cX8_isSteady 43 = .ok (.ireturn, 1) := by decide +kernel
theorem dX8_frozenBits_0 : decode cX8_frozenBits 0 = .ok (.iconst 0, 1) := by decide +kernel
theorem dX8_frozenBits_1 : decode cX8_frozenBits 1 = .ok (.istore_n 1, 1) := by decide +kernel
theorem dX8_frozenBits_2 : decode cX8_frozenBits 2 = .ok (.iconst 0, 1) := by decide +kernel
theorem dX8_frozenBits_3 : decode cX8_frozenBits 3 = .ok (.istore_n 2, 1) := by decide +kernel
theorem dX8_frozenBits_4 : decode cX8_frozenBits 4 = .ok (.iload_n 2, 1) := by decide +kernel
theorem dX8_frozenBits_5 : decode cX8_frozenBits 5 = .ok (.aload_n 0, 1) := by decide +kernel
theorem dX8_frozenBits_6 : decode cX8_frozenBits 6 = .ok (.getfield 28, 3) := by decide +kernel
theorem dX8_frozenBits_9 : decode cX8_frozenBits 9 = .ok (.getfield 51, 3) := by decide +kernel
theorem dX8_frozenBits_12 : decode cX8_frozenBits 12 = .ok (.if_icmp .ge 23, 3) := by decide +kernel
theorem dX8_frozenBits_15 : decode cX8_frozenBits 15 = .ok (.aload_n 0, 1) := by decide +kernel
theorem dX8_frozenBits_16 : decode cX8_frozenBits 16 = .ok (.iload_n 2, 1) := by decide +kernel
theorem dX8_frozenBits_17 : decode cX8_frozenBits 17 = .ok (.invokevirtual 61, 3) := by decide +kernel
theorem dX8_frozenBits_20 : decode cX8_frozenBits 20 = .ok (.ifCond .eq 9, 3) := by decide +kernel
theorem dX8_frozenBits_23 : decode cX8_frozenBits 23 = .ok (.iload_n 1, 1) := by decide +kernel
theorem dX8_frozenBits_24 : decode cX8_frozenBits 24 = .ok (.iconst 1, 1) := by decide +kernel
theorem dX8_frozenBits_25 : decode cX8_frozenBits 25 = .ok (.iload_n 2, 1) := by decide +kernel
theorem dX8_frozenBits_26 : decode cX8_frozenBits 26 = .ok (.ishl, 1) := by decide +kernel
theorem dX8_frozenBits_27 : decode cX8_frozenBits 27 = .ok (.ior, 1) := by decide +kernel
theorem dX8_frozenBits_28 : decode cX8_frozenBits 28 = .ok (.istore_n 1, 1) := by decide +kernel
theorem dX8_frozenBits_29 : decode cX8_frozenBits 29 = .ok (.iinc 2 1, 3) := by decide +kernel
theorem dX8_frozenBits_32 : decode cX8_frozenBits 32 = .ok (.goto (-28), 3) := by decide +kernel
theorem dX8_frozenBits_35 : decode cX8_frozenBits 35 = .ok (.iload_n 1, 1) := by decide +kernel
theorem dX8_frozenBits_36 : decode cX8_frozenBits 36 = .ok (.ireturn, 1) := by decide +kernel
theorem dX8_steadyBits_0 : decode cX8_steadyBits 0 = .ok (.iconst 0, 1) := by decide +kernel
theorem dX8_steadyBits_1 : decode cX8_steadyBits 1 = .ok (.istore_n 1, 1) := by decide +kernel
theorem dX8_steadyBits_2 : decode cX8_steadyBits 2 = .ok (.iconst 0, 1) := by decide +kernel
theorem dX8_steadyBits_3 : decode cX8_steadyBits 3 = .ok (.istore_n 2, 1) := by decide +kernel
theorem dX8_steadyBits_4 : decode cX8_steadyBits 4 = .ok (.iload_n 2, 1) := by decide +kernel
theorem dX8_steadyBits_5 : decode cX8_steadyBits 5 = .ok (.aload_n 0, 1) := by decide +kernel
theorem dX8_steadyBits_6 : decode cX8_steadyBits 6 = .ok (.getfield 28, 3) := by decide +kernel
theorem dX8_steadyBits_9 : decode cX8_steadyBits 9 = .ok (.getfield 51, 3) := by decide +kernel
theorem dX8_steadyBits_12 : decode cX8_steadyBits 12 = .ok (.if_icmp .ge 23, 3) := by decide +kernel
theorem dX8_steadyBits_15 : decode cX8_steadyBits 15 = .ok (.aload_n 0, 1) := by decide +kernel
theorem dX8_steadyBits_16 : decode cX8_steadyBits 16 = .ok (.iload_n 2, 1) := by decide +kernel
theorem dX8_steadyBits_17 : decode cX8_steadyBits 17 = .ok (.invokevirtual 65, 3) := by decide +kernel
theorem dX8_steadyBits_20 : decode cX8_steadyBits 20 = .ok (.ifCond .eq 9, 3) := by decide +kernel
theorem dX8_steadyBits_23 : decode cX8_steadyBits 23 = .ok (.iload_n 1, 1) := by decide +kernel
theorem dX8_steadyBits_24 : decode cX8_steadyBits 24 = .ok (.iconst 1, 1) := by decide +kernel
theorem dX8_steadyBits_25 : decode cX8_steadyBits 25 = .ok (.iload_n 2, 1) := by decide +kernel
theorem dX8_steadyBits_26 : decode cX8_steadyBits 26 = .ok (.ishl, 1) := by decide +kernel
theorem dX8_steadyBits_27 : decode cX8_steadyBits 27 = .ok (.ior, 1) := by decide +kernel
theorem dX8_steadyBits_28 : decode cX8_steadyBits 28 = .ok (.istore_n 1, 1) := by decide +kernel
theorem dX8_steadyBits_29 : decode cX8_steadyBits 29 = .ok (.iinc 2 1, 3) := by decide +kernel
theorem dX8_steadyBits_32 : decode cX8_steadyBits 32 = .ok (.goto (-28), 3) := by decide +kernel
theorem dX8_steadyBits_35 : decode cX8_steadyBits 35 = .ok (.iload_n 1, 1) := by decide +kernel
theorem dX8_steadyBits_36 : decode cX8_steadyBits 36 = .ok (.ireturn, 1) := by decide +kernel
theorem dX8_isDone_0 : decode cX8_isDone 0 = .ok (.iconst 0, 1) := by decide +kernel
theorem dX8_isDone_1 : decode cX8_isDone 1 = .ok (.istore_n 3, 1) := by decide +kernel
theorem dX8_isDone_2 : decode cX8_isDone 2 = .ok (.iconst 0, 1) := by decide +kernel
theorem dX8_isDone_3 : decode cX8_isDone 3 = .ok (.istore 4, 2) := by decide +kernel
theorem dX8_isDone_5 : decode cX8_isDone 5 = .ok (.iload 4, 2) := by decide +kernel
theorem dX8_isDone_7 : decode cX8_isDone 7 = .ok (.aload_n 0, 1) := by decide +kernel
theorem dX8_isDone_8 : decode cX8_isDone 8 = .ok (.getfield 28, 3) := by decide +kernel
theorem dX8_isDone_11 : decode cX8_isDone 11 = .ok (.getfield 51, 3) := by decide +kernel
theorem dX8_isDone_14 : decode cX8_isDone 14 = .ok (.if_icmp .ge 40, 3) := by decide +kernel
theorem dX8_isDone_17 : decode cX8_isDone 17 = .ok (.iload_n 2, 1) := by decide +kernel
theorem dX8_isDone_18 : decode cX8_isDone 18 = .ok (.iload 4, 2) := by decide +kernel
theorem dX8_isDone_20 : decode cX8_isDone 20 = .ok (.invokestatic 68, 3) := by decide +kernel
theorem dX8_isDone_23 : decode cX8_isDone 23 = .ok (.ifCond .eq 25, 3) := by decide +kernel
theorem dX8_isDone_26 : decode cX8_isDone 26 = .ok (.aload_n 0, 1) := by decide +kernel
theorem dX8_isDone_27 : decode cX8_isDone 27 = .ok (.getfield 9, 3) := by decide +kernel
theorem dX8_isDone_30 : decode cX8_isDone 30 = .ok (.iload 4, 2) := by decide +kernel
theorem dX8_isDone_32 : decode cX8_isDone 32 = .ok (.iaload, 1) := by decide +kernel
theorem dX8_isDone_33 : decode cX8_isDone 33 = .ok (.aload_n 0, 1) := by decide +kernel
theorem dX8_isDone_34 : decode cX8_isDone 34 = .ok (.getfield 28, 3) := by decide +kernel
theorem dX8_isDone_37 : decode cX8_isDone 37 = .ok (.getfield 72, 3) := by decide +kernel
theorem dX8_isDone_40 : decode cX8_isDone 40 = .ok (.iload_n 1, 1) := by decide +kernel
theorem dX8_isDone_41 : decode cX8_isDone 41 = .ok (.iaload, 1) := by decide +kernel
theorem dX8_isDone_42 : decode cX8_isDone 42 = .ok (.if_icmp .ne 6, 3) := by decide +kernel
theorem dX8_isDone_45 : decode cX8_isDone 45 = .ok (.iinc 3 1, 3) := by decide +kernel
theorem dX8_isDone_48 : decode cX8_isDone 48 = .ok (.iinc 4 1, 3) := by decide +kernel
theorem dX8_isDone_51 : decode cX8_isDone 51 = .ok (.goto (-46), 3) := by decide +kernel
theorem dX8_isDone_54 : decode cX8_isDone 54 = .ok (.iload_n 3, 1) := by decide +kernel
theorem dX8_isDone_55 : decode cX8_isDone 55 = .ok (.aload_n 0, 1) := by decide +kernel
theorem dX8_isDone_56 : decode cX8_isDone 56 = .ok (.getfield 28, 3) := by decide +kernel
theorem dX8_isDone_59 : decode cX8_isDone 59 = .ok (.getfield 75, 3) := by decide +kernel
theorem dX8_isDone_62 : decode cX8_isDone 62 = .ok (.iload_n 1, 1) := by decide +kernel
theorem dX8_isDone_63 : decode cX8_isDone 63 = .ok (.iaload, 1) := by decide +kernel
theorem dX8_isDone_64 : decode cX8_isDone 64 = .ok (.if_icmp .lt 7, 3) := by decide +kernel
theorem dX8_isDone_67 : decode cX8_isDone 67 = .ok (.iconst 1, 1) := by decide +kernel
theorem dX8_isDone_68 : decode cX8_isDone 68 = .ok (.goto 4, 3) := by decide +kernel
theorem dX8_isDone_71 : decode cX8_isDone 71 = .ok (.iconst 0, 1) := by decide +kernel
theorem dX8_isDone_72 : decode cX8_isDone 72 = .ok (.ireturn, 1) := by decide +kernel
theorem dX8_doneMany_0 : decode cX8_doneMany 0 = .ok (.aload_n 0, 1) := by decide +kernel
theorem dX8_doneMany_1 : decode cX8_doneMany 1 = .ok (.invokevirtual 78, 3) := by decide +kernel
theorem dX8_doneMany_4 : decode cX8_doneMany 4 = .ok (.istore_n 1, 1) := by decide +kernel
theorem dX8_doneMany_5 : decode cX8_doneMany 5 = .ok (.iconst 0, 1) := by decide +kernel
theorem dX8_doneMany_6 : decode cX8_doneMany 6 = .ok (.istore_n 2, 1) := by decide +kernel
theorem dX8_doneMany_7 : decode cX8_doneMany 7 = .ok (.iconst 0, 1) := by decide +kernel
theorem dX8_doneMany_8 : decode cX8_doneMany 8 = .ok (.istore_n 3, 1) := by decide +kernel
theorem dX8_doneMany_9 : decode cX8_doneMany 9 = .ok (.iload_n 3, 1) := by decide +kernel
theorem dX8_doneMany_10 : decode cX8_doneMany 10 = .ok (.aload_n 0, 1) := by decide +kernel
theorem dX8_doneMany_11 : decode cX8_doneMany 11 = .ok (.getfield 28, 3) := by decide +kernel
theorem dX8_doneMany_14 : decode cX8_doneMany 14 = .ok (.getfield 82, 3) := by decide +kernel
theorem dX8_doneMany_17 : decode cX8_doneMany 17 = .ok (.if_icmp .ge 21, 3) := by decide +kernel
theorem dX8_doneMany_20 : decode cX8_doneMany 20 = .ok (.aload_n 0, 1) := by decide +kernel
theorem dX8_doneMany_21 : decode cX8_doneMany 21 = .ok (.iload_n 3, 1) := by decide +kernel
theorem dX8_doneMany_22 : decode cX8_doneMany 22 = .ok (.iload_n 1, 1) := by decide +kernel
theorem dX8_doneMany_23 : decode cX8_doneMany 23 = .ok (.invokevirtual 85, 3) := by decide +kernel
theorem dX8_doneMany_26 : decode cX8_doneMany 26 = .ok (.ifCond .eq 6, 3) := by decide +kernel
theorem dX8_doneMany_29 : decode cX8_doneMany 29 = .ok (.iinc 2 1, 3) := by decide +kernel
theorem dX8_doneMany_32 : decode cX8_doneMany 32 = .ok (.iinc 3 1, 3) := by decide +kernel
theorem dX8_doneMany_35 : decode cX8_doneMany 35 = .ok (.goto (-26), 3) := by decide +kernel
theorem dX8_doneMany_38 : decode cX8_doneMany 38 = .ok (.iload_n 2, 1) := by decide +kernel
theorem dX8_doneMany_39 : decode cX8_doneMany 39 = .ok (.ireturn, 1) := by decide +kernel
theorem dX8_goneMany_0 : decode cX8_goneMany 0 = .ok (.iconst 0, 1) := by decide +kernel
theorem dX8_goneMany_1 : decode cX8_goneMany 1 = .ok (.istore_n 1, 1) := by decide +kernel
theorem dX8_goneMany_2 : decode cX8_goneMany 2 = .ok (.iconst 0, 1) := by decide +kernel
theorem dX8_goneMany_3 : decode cX8_goneMany 3 = .ok (.istore_n 2, 1) := by decide +kernel
theorem dX8_goneMany_4 : decode cX8_goneMany 4 = .ok (.iload_n 2, 1) := by decide +kernel
theorem dX8_goneMany_5 : decode cX8_goneMany 5 = .ok (.aload_n 0, 1) := by decide +kernel
theorem dX8_goneMany_6 : decode cX8_goneMany 6 = .ok (.getfield 28, 3) := by decide +kernel
theorem dX8_goneMany_9 : decode cX8_goneMany 9 = .ok (.getfield 51, 3) := by decide +kernel
theorem dX8_goneMany_12 : decode cX8_goneMany 12 = .ok (.if_icmp .ge 21, 3) := by decide +kernel
theorem dX8_goneMany_15 : decode cX8_goneMany 15 = .ok (.iload_n 1, 1) := by decide +kernel
theorem dX8_goneMany_16 : decode cX8_goneMany 16 = .ok (.aload_n 0, 1) := by decide +kernel
theorem dX8_goneMany_17 : decode cX8_goneMany 17 = .ok (.getfield 21, 3) := by decide +kernel
theorem dX8_goneMany_20 : decode cX8_goneMany 20 = .ok (.iload_n 2, 1) := by decide +kernel
theorem dX8_goneMany_21 : decode cX8_goneMany 21 = .ok (.baload, 1) := by decide +kernel
theorem dX8_goneMany_22 : decode cX8_goneMany 22 = .ok (.invokestatic 88, 3) := by decide +kernel
theorem dX8_goneMany_25 : decode cX8_goneMany 25 = .ok (.iadd, 1) := by decide +kernel
theorem dX8_goneMany_26 : decode cX8_goneMany 26 = .ok (.istore_n 1, 1) := by decide +kernel
theorem dX8_goneMany_27 : decode cX8_goneMany 27 = .ok (.iinc 2 1, 3) := by decide +kernel
theorem dX8_goneMany_30 : decode cX8_goneMany 30 = .ok (.goto (-26), 3) := by decide +kernel
theorem dX8_goneMany_33 : decode cX8_goneMany 33 = .ok (.iload_n 1, 1) := by decide +kernel
theorem dX8_goneMany_34 : decode cX8_goneMany 34 = .ok (.ireturn, 1) := by decide +kernel
theorem dX8_stepsTogether_0 : decode cX8_stepsTogether 0 = .ok (.iconst 0, 1) := by decide +kernel
theorem dX8_stepsTogether_1 : decode cX8_stepsTogether 1 = .ok (.istore_n 1, 1) := by decide +kernel
theorem dX8_stepsTogether_2 : decode cX8_stepsTogether 2 = .ok (.iconst 0, 1) := by decide +kernel
theorem dX8_stepsTogether_3 : decode cX8_stepsTogether 3 = .ok (.istore_n 2, 1) := by decide +kernel
theorem dX8_stepsTogether_4 : decode cX8_stepsTogether 4 = .ok (.iload_n 2, 1) := by decide +kernel
theorem dX8_stepsTogether_5 : decode cX8_stepsTogether 5 = .ok (.aload_n 0, 1) := by decide +kernel
theorem dX8_stepsTogether_6 : decode cX8_stepsTogether 6 = .ok (.getfield 28, 3) := by decide +kernel
theorem dX8_stepsTogether_9 : decode cX8_stepsTogether 9 = .ok (.getfield 51, 3) := by decide +kernel
theorem dX8_stepsTogether_12 : decode cX8_stepsTogether 12 = .ok (.if_icmp .ge 31, 3) := by decide +kernel
theorem dX8_stepsTogether_15 : decode cX8_stepsTogether 15 = .ok (.iload_n 1, 1) := by decide +kernel
theorem dX8_stepsTogether_16 : decode cX8_stepsTogether 16 = .ok (.aload_n 0, 1) := by decide +kernel
theorem dX8_stepsTogether_17 : decode cX8_stepsTogether 17 = .ok (.getfield 21, 3) := by decide +kernel
theorem dX8_stepsTogether_20 : decode cX8_stepsTogether 20 = .ok (.iload_n 2, 1) := by decide +kernel
theorem dX8_stepsTogether_21 : decode cX8_stepsTogether 21 = .ok (.baload, 1) := by decide +kernel
theorem dX8_stepsTogether_22 : decode cX8_stepsTogether 22 = .ok (.ifCond .eq 7, 3) := by decide +kernel
theorem dX8_stepsTogether_25 : decode cX8_stepsTogether 25 = .ok (.iconst 0, 1) := by decide +kernel
theorem dX8_stepsTogether_26 : decode cX8_stepsTogether 26 = .ok (.goto 9, 3) := by decide +kernel
theorem dX8_stepsTogether_29 : decode cX8_stepsTogether 29 = .ok (.aload_n 0, 1) := by decide +kernel
theorem dX8_stepsTogether_30 : decode cX8_stepsTogether 30 = .ok (.getfield 9, 3) := by decide +kernel
theorem dX8_stepsTogether_33 : decode cX8_stepsTogether 33 = .ok (.iload_n 2, 1) := by decide +kernel
theorem dX8_stepsTogether_34 : decode cX8_stepsTogether 34 = .ok (.iaload, 1) := by decide +kernel
theorem dX8_stepsTogether_35 : decode cX8_stepsTogether 35 = .ok (.iadd, 1) := by decide +kernel
theorem dX8_stepsTogether_36 : decode cX8_stepsTogether 36 = .ok (.istore_n 1, 1) := by decide +kernel
theorem dX8_stepsTogether_37 : decode cX8_stepsTogether 37 = .ok (.iinc 2 1, 3) := by decide +kernel
theorem dX8_stepsTogether_40 : decode cX8_stepsTogether 40 = .ok (.goto (-36), 3) := by decide +kernel
theorem dX8_stepsTogether_43 : decode cX8_stepsTogether 43 = .ok (.iload_n 1, 1) := by decide +kernel
theorem dX8_stepsTogether_44 : decode cX8_stepsTogether 44 = .ok (.ireturn, 1) := by decide +kernel
theorem dX8_goYears_0 : decode cX8_goYears 0 = .ok (.iconst 0, 1) := by decide +kernel
theorem dX8_goYears_1 : decode cX8_goYears 1 = .ok (.istore_n 2, 1) := by decide +kernel
theorem dX8_goYears_2 : decode cX8_goYears 2 = .ok (.iload_n 2, 1) := by decide +kernel
theorem dX8_goYears_3 : decode cX8_goYears 3 = .ok (.iload_n 1, 1) := by decide +kernel
theorem dX8_goYears_4 : decode cX8_goYears 4 = .ok (.if_icmp .ge 13, 3) := by decide +kernel
theorem dX8_goYears_7 : decode cX8_goYears 7 = .ok (.aload_n 0, 1) := by decide +kernel
theorem dX8_goYears_8 : decode cX8_goYears 8 = .ok (.invokevirtual 92, 3) := by decide +kernel
theorem dX8_goYears_11 : decode cX8_goYears 11 = .ok (.iinc 2 1, 3) := by decide +kernel
theorem dX8_goYears_14 : decode cX8_goYears 14 = .ok (.goto (-12), 3) := by decide +kernel
theorem dX8_goYears_17 : decode cX8_goYears 17 = .ok (.return_, 1) := by decide +kernel
theorem dX8_goYear_0 : decode cX8_goYear 0 = .ok (.iconst 0, 1) := by decide +kernel
theorem dX8_goYear_1 : decode cX8_goYear 1 = .ok (.istore_n 1, 1) := by decide +kernel
theorem dX8_goYear_2 : decode cX8_goYear 2 = .ok (.iconst 0, 1) := by decide +kernel
theorem dX8_goYear_3 : decode cX8_goYear 3 = .ok (.istore_n 2, 1) := by decide +kernel
theorem dX8_goYear_4 : decode cX8_goYear 4 = .ok (.iconst 0, 1) := by decide +kernel
theorem dX8_goYear_5 : decode cX8_goYear 5 = .ok (.istore_n 3, 1) := by decide +kernel
theorem dX8_goYear_6 : decode cX8_goYear 6 = .ok (.iload_n 3, 1) := by decide +kernel
theorem dX8_goYear_7 : decode cX8_goYear 7 = .ok (.aload_n 0, 1) := by decide +kernel
theorem dX8_goYear_8 : decode cX8_goYear 8 = .ok (.getfield 28, 3) := by decide +kernel
theorem dX8_goYear_11 : decode cX8_goYear 11 = .ok (.getfield 51, 3) := by decide +kernel
theorem dX8_goYear_14 : decode cX8_goYear 14 = .ok (.if_icmp .ge 74, 3) := by decide +kernel
theorem dX8_goYear_17 : decode cX8_goYear 17 = .ok (.aload_n 0, 1) := by decide +kernel
theorem dX8_goYear_18 : decode cX8_goYear 18 = .ok (.iload_n 3, 1) := by decide +kernel
theorem dX8_goYear_19 : decode cX8_goYear 19 = .ok (.aload_n 0, 1) := by decide +kernel
theorem dX8_goYear_20 : decode cX8_goYear 20 = .ok (.getfield 9, 3) := by decide +kernel
theorem dX8_goYear_23 : decode cX8_goYear 23 = .ok (.iload_n 3, 1) := by decide +kernel
theorem dX8_goYear_24 : decode cX8_goYear 24 = .ok (.iaload, 1) := by decide +kernel
theorem dX8_goYear_25 : decode cX8_goYear 25 = .ok (.invokevirtual 95, 3) := by decide +kernel
theorem dX8_goYear_28 : decode cX8_goYear 28 = .ok (.aload_n 0, 1) := by decide +kernel
theorem dX8_goYear_29 : decode cX8_goYear 29 = .ok (.getfield 18, 3) := by decide +kernel
theorem dX8_goYear_32 : decode cX8_goYear 32 = .ok (.iload_n 3, 1) := by decide +kernel
theorem dX8_goYear_33 : decode cX8_goYear 33 = .ok (.iaload, 1) := by decide +kernel
theorem dX8_goYear_34 : decode cX8_goYear 34 = .ok (.isub, 1) := by decide +kernel
theorem dX8_goYear_35 : decode cX8_goYear 35 = .ok (.istore 4, 2) := by decide +kernel
theorem dX8_goYear_37 : decode cX8_goYear 37 = .ok (.aload_n 0, 1) := by decide +kernel
theorem dX8_goYear_38 : decode cX8_goYear 38 = .ok (.getfield 21, 3) := by decide +kernel
theorem dX8_goYear_41 : decode cX8_goYear 41 = .ok (.iload_n 3, 1) := by decide +kernel
theorem dX8_goYear_42 : decode cX8_goYear 42 = .ok (.baload, 1) := by decide +kernel
theorem dX8_goYear_43 : decode cX8_goYear 43 = .ok (.ifCond .ne 19, 3) := by decide +kernel
theorem dX8_goYear_46 : decode cX8_goYear 46 = .ok (.iload 4, 2) := by decide +kernel
theorem dX8_goYear_48 : decode cX8_goYear 48 = .ok (.bipush 8, 2) := by decide +kernel
theorem dX8_goYear_50 : decode cX8_goYear 50 = .ok (.if_icmp .lt 12, 3) := by decide +kernel
theorem dX8_goYear_53 : decode cX8_goYear 53 = .ok (.iload_n 2, 1) := by decide +kernel
theorem dX8_goYear_54 : decode cX8_goYear 54 = .ok (.iconst 1, 1) := by decide +kernel
theorem dX8_goYear_55 : decode cX8_goYear 55 = .ok (.iload_n 3, 1) := by decide +kernel
theorem dX8_goYear_56 : decode cX8_goYear 56 = .ok (.ishl, 1) := by decide +kernel
theorem dX8_goYear_57 : decode cX8_goYear 57 = .ok (.ior, 1) := by decide +kernel
theorem dX8_goYear_58 : decode cX8_goYear 58 = .ok (.istore_n 2, 1) := by decide +kernel
theorem dX8_goYear_59 : decode cX8_goYear 59 = .ok (.goto 23, 3) := by decide +kernel
theorem dX8_goYear_62 : decode cX8_goYear 62 = .ok (.aload_n 0, 1) := by decide +kernel
theorem dX8_goYear_63 : decode cX8_goYear 63 = .ok (.getfield 21, 3) := by decide +kernel
theorem dX8_goYear_66 : decode cX8_goYear 66 = .ok (.iload_n 3, 1) := by decide +kernel
theorem dX8_goYear_67 : decode cX8_goYear 67 = .ok (.baload, 1) := by decide +kernel
theorem dX8_goYear_68 : decode cX8_goYear 68 = .ok (.ifCond .ne 14, 3) := by decide +kernel
theorem dX8_goYear_71 : decode cX8_goYear 71 = .ok (.iload 4, 2) := by decide +kernel
theorem dX8_goYear_73 : decode cX8_goYear 73 = .ok (.ifCond .le 9, 3) := by decide +kernel
theorem dX8_goYear_76 : decode cX8_goYear 76 = .ok (.iload_n 1, 1) := by decide +kernel
theorem dX8_goYear_77 : decode cX8_goYear 77 = .ok (.iconst 1, 1) := by decide +kernel
theorem dX8_goYear_78 : decode cX8_goYear 78 = .ok (.iload_n 3, 1) := by decide +kernel
theorem dX8_goYear_79 : decode cX8_goYear 79 = .ok (.ishl, 1) := by decide +kernel
theorem dX8_goYear_80 : decode cX8_goYear 80 = .ok (.ior, 1) := by decide +kernel
theorem dX8_goYear_81 : decode cX8_goYear 81 = .ok (.istore_n 1, 1) := by decide +kernel
theorem dX8_goYear_82 : decode cX8_goYear 82 = .ok (.iinc 3 1, 3) := by decide +kernel
theorem dX8_goYear_85 : decode cX8_goYear 85 = .ok (.goto (-79), 3) := by decide +kernel
theorem dX8_goYear_88 : decode cX8_goYear 88 = .ok (.iconst 0, 1) := by decide +kernel
theorem dX8_goYear_89 : decode cX8_goYear 89 = .ok (.istore_n 3, 1) := by decide +kernel
theorem dX8_goYear_90 : decode cX8_goYear 90 = .ok (.iload_n 3, 1) := by decide +kernel
theorem dX8_goYear_91 : decode cX8_goYear 91 = .ok (.aload_n 0, 1) := by decide +kernel
theorem dX8_goYear_92 : decode cX8_goYear 92 = .ok (.getfield 28, 3) := by decide +kernel
theorem dX8_goYear_95 : decode cX8_goYear 95 = .ok (.getfield 51, 3) := by decide +kernel
theorem dX8_goYear_98 : decode cX8_goYear 98 = .ok (.if_icmp .ge 104, 3) := by decide +kernel
theorem dX8_goYear_101 : decode cX8_goYear 101 = .ok (.iload_n 2, 1) := by decide +kernel
theorem dX8_goYear_102 : decode cX8_goYear 102 = .ok (.iload_n 3, 1) := by decide +kernel
theorem dX8_goYear_103 : decode cX8_goYear 103 = .ok (.invokestatic 68, 3) := by decide +kernel
theorem dX8_goYear_106 : decode cX8_goYear 106 = .ok (.ifCond .eq 13, 3) := by decide +kernel
theorem dX8_goYear_109 : decode cX8_goYear 109 = .ok (.aload_n 0, 1) := by decide +kernel
theorem dX8_goYear_110 : decode cX8_goYear 110 = .ok (.getfield 21, 3) := by decide +kernel
theorem dX8_goYear_113 : decode cX8_goYear 113 = .ok (.iload_n 3, 1) := by decide +kernel
theorem dX8_goYear_114 : decode cX8_goYear 114 = .ok (.iconst 1, 1) := by decide +kernel
theorem dX8_goYear_115 : decode cX8_goYear 115 = .ok (.bastore, 1) := by decide +kernel
theorem dX8_goYear_116 : decode cX8_goYear 116 = .ok (.goto 54, 3) := by decide +kernel
theorem dX8_goYear_119 : decode cX8_goYear 119 = .ok (.aload_n 0, 1) := by decide +kernel
theorem dX8_goYear_120 : decode cX8_goYear 120 = .ok (.getfield 21, 3) := by decide +kernel
theorem dX8_goYear_123 : decode cX8_goYear 123 = .ok (.iload_n 3, 1) := by decide +kernel
theorem dX8_goYear_124 : decode cX8_goYear 124 = .ok (.baload, 1) := by decide +kernel
theorem dX8_goYear_125 : decode cX8_goYear 125 = .ok (.ifCond .ne 45, 3) := by decide +kernel
theorem dX8_goYear_128 : decode cX8_goYear 128 = .ok (.aload_n 0, 1) := by decide +kernel
theorem dX8_goYear_129 : decode cX8_goYear 129 = .ok (.getfield 18, 3) := by decide +kernel
theorem dX8_goYear_132 : decode cX8_goYear 132 = .ok (.iload_n 3, 1) := by decide +kernel
theorem dX8_goYear_133 : decode cX8_goYear 133 = .ok (.iload_n 1, 1) := by decide +kernel
theorem dX8_goYear_134 : decode cX8_goYear 134 = .ok (.iload_n 3, 1) := by decide +kernel
theorem dX8_goYear_135 : decode cX8_goYear 135 = .ok (.invokestatic 68, 3) := by decide +kernel
theorem dX8_goYear_138 : decode cX8_goYear 138 = .ok (.ifCond .eq 18, 3) := by decide +kernel
theorem dX8_goYear_141 : decode cX8_goYear 141 = .ok (.aload_n 0, 1) := by decide +kernel
theorem dX8_goYear_142 : decode cX8_goYear 142 = .ok (.getfield 18, 3) := by decide +kernel
theorem dX8_goYear_145 : decode cX8_goYear 145 = .ok (.iload_n 3, 1) := by decide +kernel
theorem dX8_goYear_146 : decode cX8_goYear 146 = .ok (.iaload, 1) := by decide +kernel
theorem dX8_goYear_147 : decode cX8_goYear 147 = .ok (.iconst 1, 1) := by decide +kernel
theorem dX8_goYear_148 : decode cX8_goYear 148 = .ok (.isub, 1) := by decide +kernel
theorem dX8_goYear_149 : decode cX8_goYear 149 = .ok (.iconst 0, 1) := by decide +kernel
theorem dX8_goYear_150 : decode cX8_goYear 150 = .ok (.invokestatic 99, 3) := by decide +kernel
theorem dX8_goYear_153 : decode cX8_goYear 153 = .ok (.goto 16, 3) := by decide +kernel
theorem dX8_goYear_156 : decode cX8_goYear 156 = .ok (.aload_n 0, 1) := by decide +kernel
theorem dX8_goYear_157 : decode cX8_goYear 157 = .ok (.getfield 18, 3) := by decide +kernel
theorem dX8_goYear_160 : decode cX8_goYear 160 = .ok (.iload_n 3, 1) := by decide +kernel
theorem dX8_goYear_161 : decode cX8_goYear 161 = .ok (.iaload, 1) := by decide +kernel
theorem dX8_goYear_162 : decode cX8_goYear 162 = .ok (.iconst 1, 1) := by decide +kernel
theorem dX8_goYear_163 : decode cX8_goYear 163 = .ok (.iadd, 1) := by decide +kernel
theorem dX8_goYear_164 : decode cX8_goYear 164 = .ok (.bipush 30, 2) := by decide +kernel
theorem dX8_goYear_166 : decode cX8_goYear 166 = .ok (.invokestatic 104, 3) := by decide +kernel
theorem dX8_goYear_169 : decode cX8_goYear 169 = .ok (.iastore, 1) := by decide +kernel
theorem dX8_goYear_170 : decode cX8_goYear 170 = .ok (.aload_n 0, 1) := by decide +kernel
theorem dX8_goYear_171 : decode cX8_goYear 171 = .ok (.getfield 15, 3) := by decide +kernel
theorem dX8_goYear_174 : decode cX8_goYear 174 = .ok (.iload_n 3, 1) := by decide +kernel
theorem dX8_goYear_175 : decode cX8_goYear 175 = .ok (.aload_n 0, 1) := by decide +kernel
theorem dX8_goYear_176 : decode cX8_goYear 176 = .ok (.getfield 15, 3) := by decide +kernel
theorem dX8_goYear_179 : decode cX8_goYear 179 = .ok (.iload_n 3, 1) := by decide +kernel
theorem dX8_goYear_180 : decode cX8_goYear 180 = .ok (.iaload, 1) := by decide +kernel
theorem dX8_goYear_181 : decode cX8_goYear 181 = .ok (.iconst 1, 1) := by decide +kernel
theorem dX8_goYear_182 : decode cX8_goYear 182 = .ok (.iadd, 1) := by decide +kernel
theorem dX8_goYear_183 : decode cX8_goYear 183 = .ok (.bipush 99, 2) := by decide +kernel
theorem dX8_goYear_185 : decode cX8_goYear 185 = .ok (.invokestatic 104, 3) := by decide +kernel
theorem dX8_goYear_188 : decode cX8_goYear 188 = .ok (.iastore, 1) := by decide +kernel
theorem dX8_goYear_189 : decode cX8_goYear 189 = .ok (.aload_n 0, 1) := by decide +kernel
theorem dX8_goYear_190 : decode cX8_goYear 190 = .ok (.getfield 25, 3) := by decide +kernel
theorem dX8_goYear_193 : decode cX8_goYear 193 = .ok (.iload_n 3, 1) := by decide +kernel
theorem dX8_goYear_194 : decode cX8_goYear 194 = .ok (.iconst 0, 1) := by decide +kernel
theorem dX8_goYear_195 : decode cX8_goYear 195 = .ok (.bastore, 1) := by decide +kernel
theorem dX8_goYear_196 : decode cX8_goYear 196 = .ok (.iinc 3 1, 3) := by decide +kernel
theorem dX8_goYear_199 : decode cX8_goYear 199 = .ok (.goto (-109), 3) := by decide +kernel
theorem dX8_goYear_202 : decode cX8_goYear 202 = .ok (.aload_n 0, 1) := by decide +kernel
theorem dX8_goYear_203 : decode cX8_goYear 203 = .ok (.dup, 1) := by decide +kernel
theorem dX8_goYear_204 : decode cX8_goYear 204 = .ok (.getfield 38, 3) := by decide +kernel
theorem dX8_goYear_207 : decode cX8_goYear 207 = .ok (.iconst 1, 1) := by decide +kernel
theorem dX8_goYear_208 : decode cX8_goYear 208 = .ok (.iadd, 1) := by decide +kernel
theorem dX8_goYear_209 : decode cX8_goYear 209 = .ok (.putfield 38, 3) := by decide +kernel
theorem dX8_goYear_212 : decode cX8_goYear 212 = .ok (.return_, 1) := by decide +kernel
theorem dX8_mayGoDown_0 : decode cX8_mayGoDown 0 = .ok (.aload_n 0, 1) := by decide +kernel
theorem dX8_mayGoDown_1 : decode cX8_mayGoDown 1 = .ok (.getfield 9, 3) := by decide +kernel
theorem dX8_mayGoDown_4 : decode cX8_mayGoDown 4 = .ok (.iload_n 1, 1) := by decide +kernel
theorem dX8_mayGoDown_5 : decode cX8_mayGoDown 5 = .ok (.iaload, 1) := by decide +kernel
theorem dX8_mayGoDown_6 : decode cX8_mayGoDown 6 = .ok (.ifCond .le 15, 3) := by decide +kernel
theorem dX8_mayGoDown_9 : decode cX8_mayGoDown 9 = .ok (.aload_n 0, 1) := by decide +kernel
theorem dX8_mayGoDown_10 : decode cX8_mayGoDown 10 = .ok (.iload_n 1, 1) := by decide +kernel
theorem dX8_mayGoDown_11 : decode cX8_mayGoDown 11 = .ok (.invokevirtual 65, 3) := by decide +kernel
theorem dX8_mayGoDown_14 : decode cX8_mayGoDown 14 = .ok (.ifCond .eq 7, 3) := by decide +kernel
theorem dX8_mayGoDown_17 : decode cX8_mayGoDown 17 = .ok (.iconst 1, 1) := by decide +kernel
theorem dX8_mayGoDown_18 : decode cX8_mayGoDown 18 = .ok (.goto 4, 3) := by decide +kernel
theorem dX8_mayGoDown_21 : decode cX8_mayGoDown 21 = .ok (.iconst 0, 1) := by decide +kernel
theorem dX8_mayGoDown_22 : decode cX8_mayGoDown 22 = .ok (.ireturn, 1) := by decide +kernel
theorem dX8_goDown_0 : decode cX8_goDown 0 = .ok (.aload_n 0, 1) := by decide +kernel
theorem dX8_goDown_1 : decode cX8_goDown 1 = .ok (.getfield 9, 3) := by decide +kernel
theorem dX8_goDown_4 : decode cX8_goDown 4 = .ok (.iload_n 1, 1) := by decide +kernel
theorem dX8_goDown_5 : decode cX8_goDown 5 = .ok (.dup2, 1) := by decide +kernel
theorem dX8_goDown_6 : decode cX8_goDown 6 = .ok (.iaload, 1) := by decide +kernel
theorem dX8_goDown_7 : decode cX8_goDown 7 = .ok (.iconst 1, 1) := by decide +kernel
theorem dX8_goDown_8 : decode cX8_goDown 8 = .ok (.isub, 1) := by decide +kernel
theorem dX8_goDown_9 : decode cX8_goDown 9 = .ok (.iastore, 1) := by decide +kernel
theorem dX8_goDown_10 : decode cX8_goDown 10 = .ok (.return_, 1) := by decide +kernel
theorem dX8_mayGoUp_0 : decode cX8_mayGoUp 0 = .ok (.aload_n 0, 1) := by decide +kernel
theorem dX8_mayGoUp_1 : decode cX8_mayGoUp 1 = .ok (.getfield 9, 3) := by decide +kernel
theorem dX8_mayGoUp_4 : decode cX8_mayGoUp 4 = .ok (.iload_n 1, 1) := by decide +kernel
theorem dX8_mayGoUp_5 : decode cX8_mayGoUp 5 = .ok (.iaload, 1) := by decide +kernel
theorem dX8_mayGoUp_6 : decode cX8_mayGoUp 6 = .ok (.aload_n 0, 1) := by decide +kernel
theorem dX8_mayGoUp_7 : decode cX8_mayGoUp 7 = .ok (.getfield 28, 3) := by decide +kernel
theorem dX8_mayGoUp_10 : decode cX8_mayGoUp 10 = .ok (.getfield 58, 3) := by decide +kernel
theorem dX8_mayGoUp_13 : decode cX8_mayGoUp 13 = .ok (.iconst 1, 1) := by decide +kernel
theorem dX8_mayGoUp_14 : decode cX8_mayGoUp 14 = .ok (.isub, 1) := by decide +kernel
theorem dX8_mayGoUp_15 : decode cX8_mayGoUp 15 = .ok (.if_icmp .ge 16, 3) := by decide +kernel
theorem dX8_mayGoUp_18 : decode cX8_mayGoUp 18 = .ok (.aload_n 0, 1) := by decide +kernel
theorem dX8_mayGoUp_19 : decode cX8_mayGoUp 19 = .ok (.getfield 21, 3) := by decide +kernel
theorem dX8_mayGoUp_22 : decode cX8_mayGoUp 22 = .ok (.iload_n 1, 1) := by decide +kernel
theorem dX8_mayGoUp_23 : decode cX8_mayGoUp 23 = .ok (.baload, 1) := by decide +kernel
theorem dX8_mayGoUp_24 : decode cX8_mayGoUp 24 = .ok (.ifCond .ne 7, 3) := by decide +kernel
theorem dX8_mayGoUp_27 : decode cX8_mayGoUp 27 = .ok (.iconst 1, 1) := by decide +kernel
theorem dX8_mayGoUp_28 : decode cX8_mayGoUp 28 = .ok (.goto 4, 3) := by decide +kernel
theorem dX8_mayGoUp_31 : decode cX8_mayGoUp 31 = .ok (.iconst 0, 1) := by decide +kernel
theorem dX8_mayGoUp_32 : decode cX8_mayGoUp 32 = .ok (.ireturn, 1) := by decide +kernel
theorem dX8_goUp_0 : decode cX8_goUp 0 = .ok (.aload_n 0, 1) := by decide +kernel
theorem dX8_goUp_1 : decode cX8_goUp 1 = .ok (.getfield 9, 3) := by decide +kernel
theorem dX8_goUp_4 : decode cX8_goUp 4 = .ok (.iload_n 1, 1) := by decide +kernel
theorem dX8_goUp_5 : decode cX8_goUp 5 = .ok (.dup2, 1) := by decide +kernel
theorem dX8_goUp_6 : decode cX8_goUp 6 = .ok (.iaload, 1) := by decide +kernel
theorem dX8_goUp_7 : decode cX8_goUp 7 = .ok (.iconst 1, 1) := by decide +kernel
theorem dX8_goUp_8 : decode cX8_goUp 8 = .ok (.iadd, 1) := by decide +kernel
theorem dX8_goUp_9 : decode cX8_goUp 9 = .ok (.iastore, 1) := by decide +kernel
theorem dX8_goUp_10 : decode cX8_goUp 10 = .ok (.return_, 1) := by decide +kernel
theorem dX8_mayBeCalled_0 : decode cX8_mayBeCalled 0 = .ok (.aload_n 0, 1) := by decide +kernel
theorem dX8_mayBeCalled_1 : decode cX8_mayBeCalled 1 = .ok (.getfield 21, 3) := by decide +kernel
theorem dX8_mayBeCalled_4 : decode cX8_mayBeCalled 4 = .ok (.iload_n 1, 1) := by decide +kernel
theorem dX8_mayBeCalled_5 : decode cX8_mayBeCalled 5 = .ok (.baload, 1) := by decide +kernel
theorem dX8_mayBeCalled_6 : decode cX8_mayBeCalled 6 = .ok (.ifCond .ne 16, 3) := by decide +kernel
theorem dX8_mayBeCalled_9 : decode cX8_mayBeCalled 9 = .ok (.aload_n 0, 1) := by decide +kernel
theorem dX8_mayBeCalled_10 : decode cX8_mayBeCalled 10 = .ok (.getfield 25, 3) := by decide +kernel
theorem dX8_mayBeCalled_13 : decode cX8_mayBeCalled 13 = .ok (.iload_n 1, 1) := by decide +kernel
theorem dX8_mayBeCalled_14 : decode cX8_mayBeCalled 14 = .ok (.baload, 1) := by decide +kernel
theorem dX8_mayBeCalled_15 : decode cX8_mayBeCalled 15 = .ok (.ifCond .ne 7, 3) := by decide +kernel
theorem dX8_mayBeCalled_18 : decode cX8_mayBeCalled 18 = .ok (.iconst 1, 1) := by decide +kernel
theorem dX8_mayBeCalled_19 : decode cX8_mayBeCalled 19 = .ok (.goto 4, 3) := by decide +kernel
theorem dX8_mayBeCalled_22 : decode cX8_mayBeCalled 22 = .ok (.iconst 0, 1) := by decide +kernel
theorem dX8_mayBeCalled_23 : decode cX8_mayBeCalled 23 = .ok (.ireturn, 1) := by decide +kernel
theorem dX8_hearCall_0 : decode cX8_hearCall 0 = .ok (.iconst 0, 1) := by decide +kernel
theorem dX8_hearCall_1 : decode cX8_hearCall 1 = .ok (.istore_n 2, 1) := by decide +kernel
theorem dX8_hearCall_2 : decode cX8_hearCall 2 = .ok (.iconst 0, 1) := by decide +kernel
theorem dX8_hearCall_3 : decode cX8_hearCall 3 = .ok (.istore_n 3, 1) := by decide +kernel
theorem dX8_hearCall_4 : decode cX8_hearCall 4 = .ok (.iload_n 3, 1) := by decide +kernel
theorem dX8_hearCall_5 : decode cX8_hearCall 5 = .ok (.aload_n 0, 1) := by decide +kernel
theorem dX8_hearCall_6 : decode cX8_hearCall 6 = .ok (.getfield 28, 3) := by decide +kernel
theorem dX8_hearCall_9 : decode cX8_hearCall 9 = .ok (.getfield 51, 3) := by decide +kernel
theorem dX8_hearCall_12 : decode cX8_hearCall 12 = .ok (.if_icmp .ge 35, 3) := by decide +kernel
theorem dX8_hearCall_15 : decode cX8_hearCall 15 = .ok (.aload_n 0, 1) := by decide +kernel
theorem dX8_hearCall_16 : decode cX8_hearCall 16 = .ok (.getfield 9, 3) := by decide +kernel
theorem dX8_hearCall_19 : decode cX8_hearCall 19 = .ok (.iload_n 3, 1) := by decide +kernel
theorem dX8_hearCall_20 : decode cX8_hearCall 20 = .ok (.iaload, 1) := by decide +kernel
theorem dX8_hearCall_21 : decode cX8_hearCall 21 = .ok (.aload_n 0, 1) := by decide +kernel
theorem dX8_hearCall_22 : decode cX8_hearCall 22 = .ok (.getfield 9, 3) := by decide +kernel
theorem dX8_hearCall_25 : decode cX8_hearCall 25 = .ok (.iload_n 1, 1) := by decide +kernel
theorem dX8_hearCall_26 : decode cX8_hearCall 26 = .ok (.iaload, 1) := by decide +kernel
theorem dX8_hearCall_27 : decode cX8_hearCall 27 = .ok (.if_icmp .le 14, 3) := by decide +kernel
theorem dX8_hearCall_30 : decode cX8_hearCall 30 = .ok (.aload_n 0, 1) := by decide +kernel
theorem dX8_hearCall_31 : decode cX8_hearCall 31 = .ok (.iload_n 3, 1) := by decide +kernel
theorem dX8_hearCall_32 : decode cX8_hearCall 32 = .ok (.invokevirtual 65, 3) := by decide +kernel
theorem dX8_hearCall_35 : decode cX8_hearCall 35 = .ok (.ifCond .eq 6, 3) := by decide +kernel
theorem dX8_hearCall_38 : decode cX8_hearCall 38 = .ok (.iinc 2 1, 3) := by decide +kernel
theorem dX8_hearCall_41 : decode cX8_hearCall 41 = .ok (.iinc 3 1, 3) := by decide +kernel
theorem dX8_hearCall_44 : decode cX8_hearCall 44 = .ok (.goto (-40), 3) := by decide +kernel
theorem dX8_hearCall_47 : decode cX8_hearCall 47 = .ok (.aload_n 0, 1) := by decide +kernel
theorem dX8_hearCall_48 : decode cX8_hearCall 48 = .ok (.getfield 18, 3) := by decide +kernel
theorem dX8_hearCall_51 : decode cX8_hearCall 51 = .ok (.iload_n 1, 1) := by decide +kernel
theorem dX8_hearCall_52 : decode cX8_hearCall 52 = .ok (.aload_n 0, 1) := by decide +kernel
theorem dX8_hearCall_53 : decode cX8_hearCall 53 = .ok (.getfield 18, 3) := by decide +kernel
theorem dX8_hearCall_56 : decode cX8_hearCall 56 = .ok (.iload_n 1, 1) := by decide +kernel
theorem dX8_hearCall_57 : decode cX8_hearCall 57 = .ok (.iaload, 1) := by decide +kernel
theorem dX8_hearCall_58 : decode cX8_hearCall 58 = .ok (.iload_n 2, 1) := by decide +kernel
theorem dX8_hearCall_59 : decode cX8_hearCall 59 = .ok (.iadd, 1) := by decide +kernel
theorem dX8_hearCall_60 : decode cX8_hearCall 60 = .ok (.bipush 30, 2) := by decide +kernel
theorem dX8_hearCall_62 : decode cX8_hearCall 62 = .ok (.invokestatic 104, 3) := by decide +kernel
theorem dX8_hearCall_65 : decode cX8_hearCall 65 = .ok (.iastore, 1) := by decide +kernel
theorem dX8_hearCall_66 : decode cX8_hearCall 66 = .ok (.aload_n 0, 1) := by decide +kernel
theorem dX8_hearCall_67 : decode cX8_hearCall 67 = .ok (.getfield 25, 3) := by decide +kernel
theorem dX8_hearCall_70 : decode cX8_hearCall 70 = .ok (.iload_n 1, 1) := by decide +kernel
theorem dX8_hearCall_71 : decode cX8_hearCall 71 = .ok (.iconst 1, 1) := by decide +kernel
theorem dX8_hearCall_72 : decode cX8_hearCall 72 = .ok (.bastore, 1) := by decide +kernel
theorem dX8_hearCall_73 : decode cX8_hearCall 73 = .ok (.return_, 1) := by decide +kernel
theorem dX8_actBy_0 : decode cX8_actBy 0 = .ok (.aload_n 0, 1) := by decide +kernel
theorem dX8_actBy_1 : decode cX8_actBy 1 = .ok (.getfield 28, 3) := by decide +kernel
theorem dX8_actBy_4 : decode cX8_actBy 4 = .ok (.getfield 51, 3) := by decide +kernel
theorem dX8_actBy_7 : decode cX8_actBy 7 = .ok (.iconst 1, 1) := by decide +kernel
theorem dX8_actBy_8 : decode cX8_actBy 8 = .ok (.if_icmp .ge 4, 3) := by decide +kernel
theorem dX8_actBy_11 : decode cX8_actBy 11 = .ok (.return_, 1) := by decide +kernel
theorem dX8_actBy_12 : decode cX8_actBy 12 = .ok (.iload_n 1, 1) := by decide +kernel
theorem dX8_actBy_13 : decode cX8_actBy 13 = .ok (.aload_n 0, 1) := by decide +kernel
theorem dX8_actBy_14 : decode cX8_actBy 14 = .ok (.getfield 28, 3) := by decide +kernel
theorem dX8_actBy_17 : decode cX8_actBy 17 = .ok (.getfield 51, 3) := by decide +kernel
theorem dX8_actBy_20 : decode cX8_actBy 20 = .ok (.irem, 1) := by decide +kernel
theorem dX8_actBy_21 : decode cX8_actBy 21 = .ok (.istore_n 2, 1) := by decide +kernel
theorem dX8_actBy_22 : decode cX8_actBy 22 = .ok (.iload_n 1, 1) := by decide +kernel
theorem dX8_actBy_23 : decode cX8_actBy 23 = .ok (.bipush 8, 2) := by decide +kernel
theorem dX8_actBy_25 : decode cX8_actBy 25 = .ok (.idiv, 1) := by decide +kernel
theorem dX8_actBy_26 : decode cX8_actBy 26 = .ok (.bipush 6, 2) := by decide +kernel
theorem dX8_actBy_28 : decode cX8_actBy 28 = .ok (.irem, 1) := by decide +kernel
theorem dX8_actBy_29 : decode cX8_actBy 29 = .ok (.istore_n 3, 1) := by decide +kernel
theorem dX8_actBy_30 : decode cX8_actBy 30 = .ok (.iload_n 3, 1) := by decide +kernel
theorem dX8_actBy_31 : decode cX8_actBy 31 = .ok (.iconst 1, 1) := by decide +kernel
theorem dX8_actBy_32 : decode cX8_actBy 32 = .ok (.if_icmp .gt 19, 3) := by decide +kernel
theorem dX8_actBy_35 : decode cX8_actBy 35 = .ok (.aload_n 0, 1) := by decide +kernel
theorem dX8_actBy_36 : decode cX8_actBy 36 = .ok (.iload_n 2, 1) := by decide +kernel
theorem dX8_actBy_37 : decode cX8_actBy 37 = .ok (.invokevirtual 107, 3) := by decide +kernel
theorem dX8_actBy_40 : decode cX8_actBy 40 = .ok (.ifCond .eq 11, 3) := by decide +kernel
theorem dX8_actBy_43 : decode cX8_actBy 43 = .ok (.aload_n 0, 1) := by decide +kernel
theorem dX8_actBy_44 : decode cX8_actBy 44 = .ok (.iload_n 2, 1) := by decide +kernel
theorem dX8_actBy_45 : decode cX8_actBy 45 = .ok (.invokevirtual 110, 3) := by decide +kernel
theorem dX8_actBy_48 : decode cX8_actBy 48 = .ok (.goto 42, 3) := by decide +kernel
theorem dX8_actBy_51 : decode cX8_actBy 51 = .ok (.iload_n 3, 1) := by decide +kernel
theorem dX8_actBy_52 : decode cX8_actBy 52 = .ok (.iconst 2, 1) := by decide +kernel
theorem dX8_actBy_53 : decode cX8_actBy 53 = .ok (.if_icmp .ne 19, 3) := by decide +kernel
theorem dX8_actBy_56 : decode cX8_actBy 56 = .ok (.aload_n 0, 1) := by decide +kernel
theorem dX8_actBy_57 : decode cX8_actBy 57 = .ok (.iload_n 2, 1) := by decide +kernel
theorem dX8_actBy_58 : decode cX8_actBy 58 = .ok (.invokevirtual 114, 3) := by decide +kernel
theorem dX8_actBy_61 : decode cX8_actBy 61 = .ok (.ifCond .eq 11, 3) := by decide +kernel
theorem dX8_actBy_64 : decode cX8_actBy 64 = .ok (.aload_n 0, 1) := by decide +kernel
theorem dX8_actBy_65 : decode cX8_actBy 65 = .ok (.iload_n 2, 1) := by decide +kernel
theorem dX8_actBy_66 : decode cX8_actBy 66 = .ok (.invokevirtual 117, 3) := by decide +kernel
theorem dX8_actBy_69 : decode cX8_actBy 69 = .ok (.goto 21, 3) := by decide +kernel
theorem dX8_actBy_72 : decode cX8_actBy 72 = .ok (.iload_n 3, 1) := by decide +kernel
theorem dX8_actBy_73 : decode cX8_actBy 73 = .ok (.iconst 3, 1) := by decide +kernel
theorem dX8_actBy_74 : decode cX8_actBy 74 = .ok (.if_icmp .ne 16, 3) := by decide +kernel
theorem dX8_actBy_77 : decode cX8_actBy 77 = .ok (.aload_n 0, 1) := by decide +kernel
theorem dX8_actBy_78 : decode cX8_actBy 78 = .ok (.iload_n 2, 1) := by decide +kernel
theorem dX8_actBy_79 : decode cX8_actBy 79 = .ok (.invokevirtual 120, 3) := by decide +kernel
theorem dX8_actBy_82 : decode cX8_actBy 82 = .ok (.ifCond .eq 8, 3) := by decide +kernel
theorem dX8_actBy_85 : decode cX8_actBy 85 = .ok (.aload_n 0, 1) := by decide +kernel
theorem dX8_actBy_86 : decode cX8_actBy 86 = .ok (.iload_n 2, 1) := by decide +kernel
theorem dX8_actBy_87 : decode cX8_actBy 87 = .ok (.invokevirtual 123, 3) := by decide +kernel
theorem dX8_actBy_90 : decode cX8_actBy 90 = .ok (.return_, 1) := by decide +kernel
theorem dX9_init_0 : decode cX9_init 0 = .ok (.aload_n 0, 1) := by decide +kernel
theorem dX9_init_1 : decode cX9_init 1 = .ok (.invokespecial 1, 3) := by decide +kernel
theorem dX9_init_4 : decode cX9_init 4 = .ok (.aload_n 0, 1) := by decide +kernel
theorem dX9_init_5 : decode cX9_init 5 = .ok (.new 7, 3) := by decide +kernel
theorem dX9_init_8 : decode cX9_init 8 = .ok (.dup, 1) := by decide +kernel
theorem dX9_init_9 : decode cX9_init 9 = .ok (.invokespecial 9, 3) := by decide +kernel
theorem dX9_init_12 : decode cX9_init 12 = .ok (.putfield 10, 3) := by decide +kernel
theorem dX9_init_15 : decode cX9_init 15 = .ok (.aload_n 0, 1) := by decide +kernel
theorem dX9_init_16 : decode cX9_init 16 = .ok (.new 16, 3) := by decide +kernel
theorem dX9_init_19 : decode cX9_init 19 = .ok (.dup, 1) := by decide +kernel
theorem dX9_init_20 : decode cX9_init 20 = .ok (.new 18, 3) := by decide +kernel
theorem dX9_init_23 : decode cX9_init 23 = .ok (.dup, 1) := by decide +kernel
theorem dX9_init_24 : decode cX9_init 24 = .ok (.invokespecial 20, 3) := by decide +kernel
theorem dX9_init_27 : decode cX9_init 27 = .ok (.invokespecial 21, 3) := by decide +kernel
theorem dX9_init_30 : decode cX9_init 30 = .ok (.putfield 24, 3) := by decide +kernel
theorem dX9_init_33 : decode cX9_init 33 = .ok (.new 18, 3) := by decide +kernel
theorem dX9_init_36 : decode cX9_init 36 = .ok (.dup, 1) := by decide +kernel
theorem dX9_init_37 : decode cX9_init 37 = .ok (.invokespecial 20, 3) := by decide +kernel
theorem dX9_init_40 : decode cX9_init 40 = .ok (.astore_n 1, 1) := by decide +kernel
theorem dX9_init_41 : decode cX9_init 41 = .ok (.aload_n 0, 1) := by decide +kernel
theorem dX9_init_42 : decode cX9_init 42 = .ok (.new 16, 3) := by decide +kernel
theorem dX9_init_45 : decode cX9_init 45 = .ok (.dup, 1) := by decide +kernel
theorem dX9_init_46 : decode cX9_init 46 = .ok (.aload_n 1, 1) := by decide +kernel
theorem dX9_init_47 : decode cX9_init 47 = .ok (.invokespecial 21, 3) := by decide +kernel
theorem dX9_init_50 : decode cX9_init 50 = .ok (.putfield 28, 3) := by decide +kernel
theorem dX9_init_53 : decode cX9_init 53 = .ok (.aload_n 0, 1) := by decide +kernel
theorem dX9_init_54 : decode cX9_init 54 = .ok (.new 16, 3) := by decide +kernel
theorem dX9_init_57 : decode cX9_init 57 = .ok (.dup, 1) := by decide +kernel
theorem dX9_init_58 : decode cX9_init 58 = .ok (.aload_n 1, 1) := by decide +kernel
theorem dX9_init_59 : decode cX9_init 59 = .ok (.invokespecial 21, 3) := by decide +kernel
theorem dX9_init_62 : decode cX9_init 62 = .ok (.putfield 31, 3) := by decide +kernel
theorem dX9_init_65 : decode cX9_init 65 = .ok (.aload_n 0, 1) := by decide +kernel
theorem dX9_init_66 : decode cX9_init 66 = .ok (.new 34, 3) := by decide +kernel
theorem dX9_init_69 : decode cX9_init 69 = .ok (.dup, 1) := by decide +kernel
theorem dX9_init_70 : decode cX9_init 70 = .ok (.aload_n 1, 1) := by decide +kernel
theorem dX9_init_71 : decode cX9_init 71 = .ok (.invokespecial 36, 3) := by decide +kernel
theorem dX9_init_74 : decode cX9_init 74 = .ok (.putfield 37, 3) := by decide +kernel
theorem dX9_init_77 : decode cX9_init 77 = .ok (.aload_n 0, 1) := by decide +kernel
theorem dX9_init_78 : decode cX9_init 78 = .ok (.aload_n 1, 1) := by decide +kernel
theorem dX9_init_79 : decode cX9_init 79 = .ok (.iconst 2, 1) := by decide +kernel
theorem dX9_init_80 : decode cX9_init 80 = .ok (.invokestatic 41, 3) := by decide +kernel
theorem dX9_init_83 : decode cX9_init 83 = .ok (.putfield 45, 3) := by decide +kernel
theorem dX9_init_86 : decode cX9_init 86 = .ok (.aload_n 0, 1) := by decide +kernel
theorem dX9_init_87 : decode cX9_init 87 = .ok (.new 49, 3) := by decide +kernel
theorem dX9_init_90 : decode cX9_init 90 = .ok (.dup, 1) := by decide +kernel
theorem dX9_init_91 : decode cX9_init 91 = .ok (.invokespecial 51, 3) := by decide +kernel
theorem dX9_init_94 : decode cX9_init 94 = .ok (.putfield 52, 3) := by decide +kernel
theorem dX9_init_97 : decode cX9_init 97 = .ok (.aload_n 0, 1) := by decide +kernel
theorem dX9_init_98 : decode cX9_init 98 = .ok (.new 56, 3) := by decide +kernel
theorem dX9_init_101 : decode cX9_init 101 = .ok (.dup, 1) := by decide +kernel
theorem dX9_init_102 : decode cX9_init 102 = .ok (.new 16, 3) := by decide +kernel
theorem dX9_init_105 : decode cX9_init 105 = .ok (.dup, 1) := by decide +kernel
theorem dX9_init_106 : decode cX9_init 106 = .ok (.aload_n 1, 1) := by decide +kernel
theorem dX9_init_107 : decode cX9_init 107 = .ok (.invokespecial 21, 3) := by decide +kernel
theorem dX9_init_110 : decode cX9_init 110 = .ok (.invokespecial 58, 3) := by decide +kernel
theorem dX9_init_113 : decode cX9_init 113 = .ok (.putfield 61, 3) := by decide +kernel
theorem dX9_init_116 : decode cX9_init 116 = .ok (.aload_n 0, 1) := by decide +kernel
theorem dX9_init_117 : decode cX9_init 117 = .ok (.new 65, 3) := by decide +kernel
theorem dX9_init_120 : decode cX9_init 120 = .ok (.dup, 1) := by decide +kernel
theorem dX9_init_121 : decode cX9_init 121 = .ok (.aload_n 1, 1) := by decide +kernel
theorem dX9_init_122 : decode cX9_init 122 = .ok (.invokespecial 67, 3) := by decide +kernel
theorem dX9_init_125 : decode cX9_init 125 = .ok (.putfield 68, 3) := by decide +kernel
theorem dX9_init_128 : decode cX9_init 128 = .ok (.aload_n 0, 1) := by decide +kernel
theorem dX9_init_129 : decode cX9_init 129 = .ok (.new 72, 3) := by decide +kernel
theorem dX9_init_132 : decode cX9_init 132 = .ok (.dup, 1) := by decide +kernel
theorem dX9_init_133 : decode cX9_init 133 = .ok (.new 16, 3) := by decide +kernel
theorem dX9_init_136 : decode cX9_init 136 = .ok (.dup, 1) := by decide +kernel
theorem dX9_init_137 : decode cX9_init 137 = .ok (.aload_n 1, 1) := by decide +kernel
theorem dX9_init_138 : decode cX9_init 138 = .ok (.invokespecial 21, 3) := by decide +kernel
theorem dX9_init_141 : decode cX9_init 141 = .ok (.invokespecial 74, 3) := by decide +kernel
theorem dX9_init_144 : decode cX9_init 144 = .ok (.putfield 75, 3) := by decide +kernel
theorem dX9_init_147 : decode cX9_init 147 = .ok (.aload_n 0, 1) := by decide +kernel
theorem dX9_init_148 : decode cX9_init 148 = .ok (.new 79, 3) := by decide +kernel
theorem dX9_init_151 : decode cX9_init 151 = .ok (.dup, 1) := by decide +kernel
theorem dX9_init_152 : decode cX9_init 152 = .ok (.invokespecial 81, 3) := by decide +kernel
theorem dX9_init_155 : decode cX9_init 155 = .ok (.putfield 82, 3) := by decide +kernel
theorem dX9_init_158 : decode cX9_init 158 = .ok (.iconst 0, 1) := by decide +kernel
theorem dX9_init_159 : decode cX9_init 159 = .ok (.istore_n 2, 1) := by decide +kernel
theorem dX9_init_160 : decode cX9_init 160 = .ok (.iload_n 2, 1) := by decide +kernel
theorem dX9_init_161 : decode cX9_init 161 = .ok (.ldc 86, 2) := by decide +kernel
theorem dX9_init_163 : decode cX9_init 163 = .ok (.invokevirtual 88, 3) := by decide +kernel
theorem dX9_init_166 : decode cX9_init 166 = .ok (.if_icmp .ge 23, 3) := by decide +kernel
theorem dX9_init_169 : decode cX9_init 169 = .ok (.aload_n 0, 1) := by decide +kernel
theorem dX9_init_170 : decode cX9_init 170 = .ok (.getfield 10, 3) := by decide +kernel
theorem dX9_init_173 : decode cX9_init 173 = .ok (.ldc 86, 2) := by decide +kernel
theorem dX9_init_175 : decode cX9_init 175 = .ok (.iload_n 2, 1) := by decide +kernel
theorem dX9_init_176 : decode cX9_init 176 = .ok (.invokevirtual 94, 3) := by decide +kernel
theorem dX9_init_179 : decode cX9_init 179 = .ok (.invokevirtual 98, 3) := by decide +kernel
theorem dX9_init_182 : decode cX9_init 182 = .ok (.pop, 1) := by decide +kernel
theorem dX9_init_183 : decode cX9_init 183 = .ok (.iinc 2 1, 3) := by decide +kernel
theorem dX9_init_186 : decode cX9_init 186 = .ok (.goto (-26), 3) := by decide +kernel
theorem dX9_init_189 : decode cX9_init 189 = .ok (.aload_n 0, 1) := by decide +kernel
theorem dX9_init_190 : decode cX9_init 190 = .ok (.getfield 10, 3) := by decide +kernel
theorem dX9_init_193 : decode cX9_init 193 = .ok (.aload_n 0, 1) := by decide +kernel
theorem dX9_init_194 : decode cX9_init 194 = .ok (.getfield 24, 3) := by decide +kernel
theorem dX9_init_197 : decode cX9_init 197 = .ok (.invokevirtual 102, 3) := by decide +kernel
theorem dX9_init_200 : decode cX9_init 200 = .ok (.pop, 1) := by decide +kernel
theorem dX9_init_201 : decode cX9_init 201 = .ok (.aload_n 0, 1) := by decide +kernel
theorem dX9_init_202 : decode cX9_init 202 = .ok (.invokevirtual 106, 3) := by decide +kernel
theorem dX9_init_205 : decode cX9_init 205 = .ok (.aload_n 0, 1) := by decide +kernel
theorem dX9_init_206 : decode cX9_init 206 = .ok (.getfield 10, 3) := by decide +kernel
theorem dX9_init_209 : decode cX9_init 209 = .ok (.invokevirtual 109, 3) := by decide +kernel
theorem dX9_init_212 : decode cX9_init 212 = .ok (.return_, 1) := by decide +kernel
theorem dX9_write_0 : decode cX9_write 0 = .ok (.iload_n 1, 1) := by decide +kernel
theorem dX9_write_1 : decode cX9_write 1 = .ok (.bipush 32, 2) := by decide +kernel
theorem dX9_write_3 : decode cX9_write 3 = .ok (.bipush 126, 2) := by decide +kernel
theorem dX9_write_5 : decode cX9_write 5 = .ok (.invokestatic 112, 3) := by decide +kernel
theorem dX9_write_8 : decode cX9_write 8 = .ok (.ifCond .ne 5, 3) := by decide +kernel
theorem dX9_write_11 : decode cX9_write 11 = .ok (.iconst (-1), 1) := by decide +kernel
theorem dX9_write_12 : decode cX9_write 12 = .ok (.ireturn, 1) := by decide +kernel
theorem dX9_write_13 : decode cX9_write 13 = .ok (.aload_n 0, 1) := by decide +kernel
theorem dX9_write_14 : decode cX9_write 14 = .ok (.getfield 10, 3) := by decide +kernel
theorem dX9_write_17 : decode cX9_write 17 = .ok (.iload_n 1, 1) := by decide +kernel
theorem dX9_write_18 : decode cX9_write 18 = .ok (.i2c, 1) := by decide +kernel
theorem dX9_write_19 : decode cX9_write 19 = .ok (.invokevirtual 98, 3) := by decide +kernel
theorem dX9_write_22 : decode cX9_write 22 = .ok (.ifCond .eq 13, 3) := by decide +kernel
theorem dX9_write_25 : decode cX9_write 25 = .ok (.aload_n 0, 1) := by decide +kernel
theorem dX9_write_26 : decode cX9_write 26 = .ok (.getfield 10, 3) := by decide +kernel
theorem dX9_write_29 : decode cX9_write 29 = .ok (.getfield 116, 3) := by decide +kernel
theorem dX9_write_32 : decode cX9_write 32 = .ok (.goto 5, 3) := by decide +kernel
theorem dX9_write_35 : decode cX9_write 35 = .ok (.bipush (-3), 2) := by decide +kernel
theorem dX9_write_37 : decode cX9_write 37 = .ok (.ireturn, 1) := by decide +kernel
theorem dX9_wipe_0 : decode cX9_wipe 0 = .ok (.aload_n 0, 1) := by decide +kernel
theorem dX9_wipe_1 : decode cX9_wipe 1 = .ok (.getfield 10, 3) := by decide +kernel
theorem dX9_wipe_4 : decode cX9_wipe 4 = .ok (.getfield 116, 3) := by decide +kernel
theorem dX9_wipe_7 : decode cX9_wipe 7 = .ok (.istore_n 1, 1) := by decide +kernel
theorem dX9_wipe_8 : decode cX9_wipe 8 = .ok (.aload_n 0, 1) := by decide +kernel
theorem dX9_wipe_9 : decode cX9_wipe 9 = .ok (.getfield 10, 3) := by decide +kernel
theorem dX9_wipe_12 : decode cX9_wipe 12 = .ok (.invokevirtual 109, 3) := by decide +kernel
theorem dX9_wipe_15 : decode cX9_wipe 15 = .ok (.iload_n 1, 1) := by decide +kernel
theorem dX9_wipe_16 : decode cX9_wipe 16 = .ok (.ireturn, 1) := by decide +kernel
theorem dX9_fault_0 : decode cX9_fault 0 = .ok (.aload_n 0, 1) := by decide +kernel
theorem dX9_fault_1 : decode cX9_fault 1 = .ok (.getfield 10, 3) := by decide +kernel
theorem dX9_fault_4 : decode cX9_fault 4 = .ok (.aload_n 0, 1) := by decide +kernel
theorem dX9_fault_5 : decode cX9_fault 5 = .ok (.getfield 24, 3) := by decide +kernel
theorem dX9_fault_8 : decode cX9_fault 8 = .ok (.invokevirtual 102, 3) := by decide +kernel
theorem dX9_fault_11 : decode cX9_fault 11 = .ok (.ireturn, 1) := by decide +kernel
theorem dX9_lay_0 : decode cX9_lay 0 = .ok (.aload_n 0, 1) := by decide +kernel
theorem dX9_lay_1 : decode cX9_lay 1 = .ok (.getfield 10, 3) := by decide +kernel
theorem dX9_lay_4 : decode cX9_lay 4 = .ok (.aload_n 0, 1) := by decide +kernel
theorem dX9_lay_5 : decode cX9_lay 5 = .ok (.getfield 24, 3) := by decide +kernel
theorem dX9_lay_8 : decode cX9_lay 8 = .ok (.invokevirtual 102, 3) := by decide +kernel
theorem dX9_lay_11 : decode cX9_lay 11 = .ok (.bipush (-4), 2) := by decide +kernel
theorem dX9_lay_13 : decode cX9_lay 13 = .ok (.if_icmp .ne 16, 3) := by decide +kernel
theorem dX9_lay_16 : decode cX9_lay 16 = .ok (.aload_n 0, 1) := by decide +kernel
theorem dX9_lay_17 : decode cX9_lay 17 = .ok (.getfield 24, 3) := by decide +kernel
theorem dX9_lay_20 : decode cX9_lay 20 = .ok (.getfield 119, 3) := by decide +kernel
theorem dX9_lay_23 : decode cX9_lay 23 = .ok (.getfield 123, 3) := by decide +kernel
theorem dX9_lay_26 : decode cX9_lay 26 = .ok (.ifCond .ne 6, 3) := by decide +kernel
theorem dX9_lay_29 : decode cX9_lay 29 = .ok (.bipush (-2), 2) := by decide +kernel
theorem dX9_lay_31 : decode cX9_lay 31 = .ok (.ireturn, 1) := by decide +kernel
theorem dX9_lay_32 : decode cX9_lay 32 = .ok (.aload_n 0, 1) := by decide +kernel
theorem dX9_lay_33 : decode cX9_lay 33 = .ok (.invokevirtual 106, 3) := by decide +kernel
theorem dX9_lay_36 : decode cX9_lay 36 = .ok (.aload_n 0, 1) := by decide +kernel
theorem dX9_lay_37 : decode cX9_lay 37 = .ok (.getfield 28, 3) := by decide +kernel
theorem dX9_lay_40 : decode cX9_lay 40 = .ok (.getfield 119, 3) := by decide +kernel
theorem dX9_lay_43 : decode cX9_lay 43 = .ok (.getfield 123, 3) := by decide +kernel
theorem dX9_lay_46 : decode cX9_lay 46 = .ok (.ireturn, 1) := by decide +kernel
theorem dX9_person_0 : decode cX9_person 0 = .ok (.aload_n 0, 1) := by decide +kernel
theorem dX9_person_1 : decode cX9_person 1 = .ok (.iload_n 1, 1) := by decide +kernel
theorem dX9_person_2 : decode cX9_person 2 = .ok (.invokevirtual 126, 3) := by decide +kernel
theorem dX9_person_5 : decode cX9_person 5 = .ok (.ifCond .ne 5, 3) := by decide +kernel
theorem dX9_person_8 : decode cX9_person 8 = .ok (.iconst (-1), 1) := by decide +kernel
theorem dX9_person_9 : decode cX9_person 9 = .ok (.ireturn, 1) := by decide +kernel
theorem dX9_person_10 : decode cX9_person 10 = .ok (.iload_n 2, 1) := by decide +kernel
theorem dX9_person_11 : decode cX9_person 11 = .ok (.tableswitch 143 0 7 #[45, 58, 68, 78, 88, 106, 118, 131], 45) := by decide +kernel
theorem dX9_person_56 : decode cX9_person 56 = .ok (.aload_n 0, 1) := by decide +kernel
theorem dX9_person_57 : decode cX9_person 57 = .ok (.getfield 28, 3) := by decide +kernel
theorem dX9_person_60 : decode cX9_person 60 = .ok (.getfield 119, 3) := by decide +kernel
theorem dX9_person_63 : decode cX9_person 63 = .ok (.getfield 130, 3) := by decide +kernel
theorem dX9_person_66 : decode cX9_person 66 = .ok (.iload_n 1, 1) := by decide +kernel
theorem dX9_person_67 : decode cX9_person 67 = .ok (.iaload, 1) := by decide +kernel
theorem dX9_person_68 : decode cX9_person 68 = .ok (.ireturn, 1) := by decide +kernel
theorem dX9_person_69 : decode cX9_person 69 = .ok (.aload_n 0, 1) := by decide +kernel
theorem dX9_person_70 : decode cX9_person 70 = .ok (.getfield 28, 3) := by decide +kernel
theorem dX9_person_73 : decode cX9_person 73 = .ok (.getfield 134, 3) := by decide +kernel
theorem dX9_person_76 : decode cX9_person 76 = .ok (.iload_n 1, 1) := by decide +kernel
theorem dX9_person_77 : decode cX9_person 77 = .ok (.iaload, 1) := by decide +kernel
theorem dX9_person_78 : decode cX9_person 78 = .ok (.ireturn, 1) := by decide +kernel
theorem dX9_person_79 : decode cX9_person 79 = .ok (.aload_n 0, 1) := by decide +kernel
theorem dX9_person_80 : decode cX9_person 80 = .ok (.getfield 28, 3) := by decide +kernel
theorem dX9_person_83 : decode cX9_person 83 = .ok (.getfield 137, 3) := by decide +kernel
theorem dX9_person_86 : decode cX9_person 86 = .ok (.iload_n 1, 1) := by decide +kernel
theorem dX9_person_87 : decode cX9_person 87 = .ok (.iaload, 1) := by decide +kernel
theorem dX9_person_88 : decode cX9_person 88 = .ok (.ireturn, 1) := by decide +kernel
theorem dX9_person_89 : decode cX9_person 89 = .ok (.aload_n 0, 1) := by decide +kernel
theorem dX9_person_90 : decode cX9_person 90 = .ok (.getfield 28, 3) := by decide +kernel
theorem dX9_person_93 : decode cX9_person 93 = .ok (.getfield 140, 3) := by decide +kernel
theorem dX9_person_96 : decode cX9_person 96 = .ok (.iload_n 1, 1) := by decide +kernel
theorem dX9_person_97 : decode cX9_person 97 = .ok (.iaload, 1) := by decide +kernel
theorem dX9_person_98 : decode cX9_person 98 = .ok (.ireturn, 1) := by decide +kernel
theorem dX9_person_99 : decode cX9_person 99 = .ok (.aload_n 0, 1) := by decide +kernel
theorem dX9_person_100 : decode cX9_person 100 = .ok (.getfield 28, 3) := by decide +kernel
theorem dX9_person_103 : decode cX9_person 103 = .ok (.iload_n 1, 1) := by decide +kernel
theorem dX9_person_104 : decode cX9_person 104 = .ok (.aload_n 0, 1) := by decide +kernel
theorem dX9_person_105 : decode cX9_person 105 = .ok (.getfield 28, 3) := by decide +kernel
theorem dX9_person_108 : decode cX9_person 108 = .ok (.getfield 134, 3) := by decide +kernel
theorem dX9_person_111 : decode cX9_person 111 = .ok (.iload_n 1, 1) := by decide +kernel
theorem dX9_person_112 : decode cX9_person 112 = .ok (.iaload, 1) := by decide +kernel
theorem dX9_person_113 : decode cX9_person 113 = .ok (.invokevirtual 143, 3) := by decide +kernel
theorem dX9_person_116 : decode cX9_person 116 = .ok (.ireturn, 1) := by decide +kernel
theorem dX9_person_117 : decode cX9_person 117 = .ok (.aload_n 0, 1) := by decide +kernel
theorem dX9_person_118 : decode cX9_person 118 = .ok (.getfield 28, 3) := by decide +kernel
theorem dX9_person_121 : decode cX9_person 121 = .ok (.iload_n 1, 1) := by decide +kernel
theorem dX9_person_122 : decode cX9_person 122 = .ok (.invokevirtual 147, 3) := by decide +kernel
theorem dX9_person_125 : decode cX9_person 125 = .ok (.invokestatic 150, 3) := by decide +kernel
theorem dX9_person_128 : decode cX9_person 128 = .ok (.ireturn, 1) := by decide +kernel
theorem dX9_person_129 : decode cX9_person 129 = .ok (.aload_n 0, 1) := by decide +kernel
theorem dX9_person_130 : decode cX9_person 130 = .ok (.getfield 28, 3) := by decide +kernel
theorem dX9_person_133 : decode cX9_person 133 = .ok (.getfield 154, 3) := by decide +kernel
theorem dX9_person_136 : decode cX9_person 136 = .ok (.iload_n 1, 1) := by decide +kernel
theorem dX9_person_137 : decode cX9_person 137 = .ok (.baload, 1) := by decide +kernel
theorem dX9_person_138 : decode cX9_person 138 = .ok (.invokestatic 150, 3) := by decide +kernel
theorem dX9_person_141 : decode cX9_person 141 = .ok (.ireturn, 1) := by decide +kernel
theorem dX9_person_142 : decode cX9_person 142 = .ok (.aload_n 0, 1) := by decide +kernel
theorem dX9_person_143 : decode cX9_person 143 = .ok (.getfield 28, 3) := by decide +kernel
theorem dX9_person_146 : decode cX9_person 146 = .ok (.iload_n 1, 1) := by decide +kernel
theorem dX9_person_147 : decode cX9_person 147 = .ok (.invokevirtual 158, 3) := by decide +kernel
theorem dX9_person_150 : decode cX9_person 150 = .ok (.invokestatic 150, 3) := by decide +kernel
theorem dX9_person_153 : decode cX9_person 153 = .ok (.ireturn, 1) := by decide +kernel
theorem dX9_person_154 : decode cX9_person 154 = .ok (.iconst (-1), 1) := by decide +kernel
theorem dX9_person_155 : decode cX9_person 155 = .ok (.ireturn, 1) := by decide +kernel
theorem dX9_fear_0 : decode cX9_fear 0 = .ok (.aload_n 0, 1) := by decide +kernel
theorem dX9_fear_1 : decode cX9_fear 1 = .ok (.iload_n 1, 1) := by decide +kernel
theorem dX9_fear_2 : decode cX9_fear 2 = .ok (.invokevirtual 126, 3) := by decide +kernel
theorem dX9_fear_5 : decode cX9_fear 5 = .ok (.ifCond .eq 23, 3) := by decide +kernel
theorem dX9_fear_8 : decode cX9_fear 8 = .ok (.aload_n 0, 1) := by decide +kernel
theorem dX9_fear_9 : decode cX9_fear 9 = .ok (.iload_n 2, 1) := by decide +kernel
theorem dX9_fear_10 : decode cX9_fear 10 = .ok (.invokevirtual 161, 3) := by decide +kernel
theorem dX9_fear_13 : decode cX9_fear 13 = .ok (.ifCond .eq 15, 3) := by decide +kernel
theorem dX9_fear_16 : decode cX9_fear 16 = .ok (.aload_n 0, 1) := by decide +kernel
theorem dX9_fear_17 : decode cX9_fear 17 = .ok (.getfield 28, 3) := by decide +kernel
theorem dX9_fear_20 : decode cX9_fear 20 = .ok (.iload_n 1, 1) := by decide +kernel
theorem dX9_fear_21 : decode cX9_fear 21 = .ok (.iload_n 2, 1) := by decide +kernel
theorem dX9_fear_22 : decode cX9_fear 22 = .ok (.invokevirtual 143, 3) := by decide +kernel
theorem dX9_fear_25 : decode cX9_fear 25 = .ok (.goto 4, 3) := by decide +kernel
theorem dX9_fear_28 : decode cX9_fear 28 = .ok (.iconst (-1), 1) := by decide +kernel
theorem dX9_fear_29 : decode cX9_fear 29 = .ok (.ireturn, 1) := by decide +kernel
theorem dX9_work_0 : decode cX9_work 0 = .ok (.iload_n 1, 1) := by decide +kernel
theorem dX9_work_1 : decode cX9_work 1 = .ok (.iconst 0, 1) := by decide +kernel
theorem dX9_work_2 : decode cX9_work 2 = .ok (.aload_n 0, 1) := by decide +kernel
theorem dX9_work_3 : decode cX9_work 3 = .ok (.getfield 28, 3) := by decide +kernel
theorem dX9_work_6 : decode cX9_work 6 = .ok (.getfield 119, 3) := by decide +kernel
theorem dX9_work_9 : decode cX9_work 9 = .ok (.getfield 164, 3) := by decide +kernel
theorem dX9_work_12 : decode cX9_work 12 = .ok (.iconst 1, 1) := by decide +kernel
theorem dX9_work_13 : decode cX9_work 13 = .ok (.isub, 1) := by decide +kernel
theorem dX9_work_14 : decode cX9_work 14 = .ok (.invokestatic 112, 3) := by decide +kernel
theorem dX9_work_17 : decode cX9_work 17 = .ok (.ifCond .ne 5, 3) := by decide +kernel
theorem dX9_work_20 : decode cX9_work 20 = .ok (.iconst (-1), 1) := by decide +kernel
theorem dX9_work_21 : decode cX9_work 21 = .ok (.ireturn, 1) := by decide +kernel
theorem dX9_work_22 : decode cX9_work 22 = .ok (.iload_n 2, 1) := by decide +kernel
theorem dX9_work_23 : decode cX9_work 23 = .ok (.tableswitch 70 0 2 #[25, 38, 51], 25) := by decide +kernel
theorem dX9_work_48 : decode cX9_work 48 = .ok (.aload_n 0, 1) := by decide +kernel
theorem dX9_work_49 : decode cX9_work 49 = .ok (.getfield 28, 3) := by decide +kernel
theorem dX9_work_52 : decode cX9_work 52 = .ok (.getfield 119, 3) := by decide +kernel
theorem dX9_work_55 : decode cX9_work 55 = .ok (.getfield 167, 3) := by decide +kernel
theorem dX9_work_58 : decode cX9_work 58 = .ok (.iload_n 1, 1) := by decide +kernel
theorem dX9_work_59 : decode cX9_work 59 = .ok (.iaload, 1) := by decide +kernel
theorem dX9_work_60 : decode cX9_work 60 = .ok (.ireturn, 1) := by decide +kernel
theorem dX9_work_61 : decode cX9_work 61 = .ok (.aload_n 0, 1) := by decide +kernel
theorem dX9_work_62 : decode cX9_work 62 = .ok (.getfield 28, 3) := by decide +kernel
theorem dX9_work_65 : decode cX9_work 65 = .ok (.getfield 119, 3) := by decide +kernel
theorem dX9_work_68 : decode cX9_work 68 = .ok (.getfield 170, 3) := by decide +kernel
theorem dX9_work_71 : decode cX9_work 71 = .ok (.iload_n 1, 1) := by decide +kernel
theorem dX9_work_72 : decode cX9_work 72 = .ok (.iaload, 1) := by decide +kernel
theorem dX9_work_73 : decode cX9_work 73 = .ok (.ireturn, 1) := by decide +kernel
theorem dX9_work_74 : decode cX9_work 74 = .ok (.aload_n 0, 1) := by decide +kernel
theorem dX9_work_75 : decode cX9_work 75 = .ok (.getfield 28, 3) := by decide +kernel
theorem dX9_work_78 : decode cX9_work 78 = .ok (.iload_n 1, 1) := by decide +kernel
theorem dX9_work_79 : decode cX9_work 79 = .ok (.aload_n 0, 1) := by decide +kernel
theorem dX9_work_80 : decode cX9_work 80 = .ok (.getfield 28, 3) := by decide +kernel
theorem dX9_work_83 : decode cX9_work 83 = .ok (.invokevirtual 173, 3) := by decide +kernel
theorem dX9_work_86 : decode cX9_work 86 = .ok (.invokevirtual 176, 3) := by decide +kernel
theorem dX9_work_89 : decode cX9_work 89 = .ok (.invokestatic 150, 3) := by decide +kernel
theorem dX9_work_92 : decode cX9_work 92 = .ok (.ireturn, 1) := by decide +kernel
theorem dX9_work_93 : decode cX9_work 93 = .ok (.iconst (-1), 1) := by decide +kernel
theorem dX9_work_94 : decode cX9_work 94 = .ok (.ireturn, 1) := by decide +kernel
theorem dX9_pass_0 : decode cX9_pass 0 = .ok (.iload_n 1, 1) := by decide +kernel
theorem dX9_pass_1 : decode cX9_pass 1 = .ok (.iconst 1, 1) := by decide +kernel
theorem dX9_pass_2 : decode cX9_pass 2 = .ok (.bipush 40, 2) := by decide +kernel
theorem dX9_pass_4 : decode cX9_pass 4 = .ok (.invokestatic 112, 3) := by decide +kernel
theorem dX9_pass_7 : decode cX9_pass 7 = .ok (.ifCond .ne 5, 3) := by decide +kernel
theorem dX9_pass_10 : decode cX9_pass 10 = .ok (.iconst (-1), 1) := by decide +kernel
theorem dX9_pass_11 : decode cX9_pass 11 = .ok (.ireturn, 1) := by decide +kernel
theorem dX9_pass_12 : decode cX9_pass 12 = .ok (.aload_n 0, 1) := by decide +kernel
theorem dX9_pass_13 : decode cX9_pass 13 = .ok (.getfield 28, 3) := by decide +kernel
theorem dX9_pass_16 : decode cX9_pass 16 = .ok (.getfield 180, 3) := by decide +kernel
theorem dX9_pass_19 : decode cX9_pass 19 = .ok (.iload_n 1, 1) := by decide +kernel
theorem dX9_pass_20 : decode cX9_pass 20 = .ok (.iadd, 1) := by decide +kernel
theorem dX9_pass_21 : decode cX9_pass 21 = .ok (.sipush 999, 3) := by decide +kernel
theorem dX9_pass_24 : decode cX9_pass 24 = .ok (.if_icmp .le 6, 3) := by decide +kernel
theorem dX9_pass_27 : decode cX9_pass 27 = .ok (.bipush (-2), 2) := by decide +kernel
theorem dX9_pass_29 : decode cX9_pass 29 = .ok (.ireturn, 1) := by decide +kernel
theorem dX9_pass_30 : decode cX9_pass 30 = .ok (.aload_n 0, 1) := by decide +kernel
theorem dX9_pass_31 : decode cX9_pass 31 = .ok (.getfield 37, 3) := by decide +kernel
theorem dX9_pass_34 : decode cX9_pass 34 = .ok (.aload_n 0, 1) := by decide +kernel
theorem dX9_pass_35 : decode cX9_pass 35 = .ok (.getfield 28, 3) := by decide +kernel
theorem dX9_pass_38 : decode cX9_pass 38 = .ok (.invokevirtual 183, 3) := by decide +kernel
theorem dX9_pass_41 : decode cX9_pass 41 = .ok (.aload_n 0, 1) := by decide +kernel
theorem dX9_pass_42 : decode cX9_pass 42 = .ok (.getfield 28, 3) := by decide +kernel
theorem dX9_pass_45 : decode cX9_pass 45 = .ok (.iload_n 1, 1) := by decide +kernel
theorem dX9_pass_46 : decode cX9_pass 46 = .ok (.invokevirtual 185, 3) := by decide +kernel
theorem dX9_pass_49 : decode cX9_pass 49 = .ok (.aload_n 0, 1) := by decide +kernel
theorem dX9_pass_50 : decode cX9_pass 50 = .ok (.getfield 28, 3) := by decide +kernel
theorem dX9_pass_53 : decode cX9_pass 53 = .ok (.getfield 180, 3) := by decide +kernel
theorem dX9_pass_56 : decode cX9_pass 56 = .ok (.ireturn, 1) := by decide +kernel
theorem dX9_promote_0 : decode cX9_promote 0 = .ok (.aload_n 0, 1) := by decide +kernel
theorem dX9_promote_1 : decode cX9_promote 1 = .ok (.iload_n 1, 1) := by decide +kernel
theorem dX9_promote_2 : decode cX9_promote 2 = .ok (.invokevirtual 126, 3) := by decide +kernel
theorem dX9_promote_5 : decode cX9_promote 5 = .ok (.ifCond .ne 5, 3) := by decide +kernel
theorem dX9_promote_8 : decode cX9_promote 8 = .ok (.iconst (-1), 1) := by decide +kernel
theorem dX9_promote_9 : decode cX9_promote 9 = .ok (.ireturn, 1) := by decide +kernel
theorem dX9_promote_10 : decode cX9_promote 10 = .ok (.aload_n 0, 1) := by decide +kernel
theorem dX9_promote_11 : decode cX9_promote 11 = .ok (.getfield 28, 3) := by decide +kernel
theorem dX9_promote_14 : decode cX9_promote 14 = .ok (.iload_n 1, 1) := by decide +kernel
theorem dX9_promote_15 : decode cX9_promote 15 = .ok (.invokevirtual 189, 3) := by decide +kernel
theorem dX9_promote_18 : decode cX9_promote 18 = .ok (.ifCond .ne 6, 3) := by decide +kernel
theorem dX9_promote_21 : decode cX9_promote 21 = .ok (.bipush (-2), 2) := by decide +kernel
theorem dX9_promote_23 : decode cX9_promote 23 = .ok (.ireturn, 1) := by decide +kernel
theorem dX9_promote_24 : decode cX9_promote 24 = .ok (.aload_n 0, 1) := by decide +kernel
theorem dX9_promote_25 : decode cX9_promote 25 = .ok (.getfield 37, 3) := by decide +kernel
theorem dX9_promote_28 : decode cX9_promote 28 = .ok (.aload_n 0, 1) := by decide +kernel
theorem dX9_promote_29 : decode cX9_promote 29 = .ok (.getfield 28, 3) := by decide +kernel
theorem dX9_promote_32 : decode cX9_promote 32 = .ok (.invokevirtual 183, 3) := by decide +kernel
theorem dX9_promote_35 : decode cX9_promote 35 = .ok (.aload_n 0, 1) := by decide +kernel
theorem dX9_promote_36 : decode cX9_promote 36 = .ok (.getfield 28, 3) := by decide +kernel
theorem dX9_promote_39 : decode cX9_promote 39 = .ok (.iload_n 1, 1) := by decide +kernel
theorem dX9_promote_40 : decode cX9_promote 40 = .ok (.invokevirtual 192, 3) := by decide +kernel
theorem dX9_promote_43 : decode cX9_promote 43 = .ok (.aload_n 0, 1) := by decide +kernel
theorem dX9_promote_44 : decode cX9_promote 44 = .ok (.getfield 28, 3) := by decide +kernel
theorem dX9_promote_47 : decode cX9_promote 47 = .ok (.getfield 134, 3) := by decide +kernel
theorem dX9_promote_50 : decode cX9_promote 50 = .ok (.iload_n 1, 1) := by decide +kernel
theorem dX9_promote_51 : decode cX9_promote 51 = .ok (.iaload, 1) := by decide +kernel
theorem dX9_promote_52 : decode cX9_promote 52 = .ok (.ireturn, 1) := by decide +kernel
theorem dX9_hoist_0 : decode cX9_hoist 0 = .ok (.aload_n 0, 1) := by decide +kernel
theorem dX9_hoist_1 : decode cX9_hoist 1 = .ok (.iload_n 1, 1) := by decide +kernel
theorem dX9_hoist_2 : decode cX9_hoist 2 = .ok (.invokevirtual 126, 3) := by decide +kernel
theorem dX9_hoist_5 : decode cX9_hoist 5 = .ok (.ifCond .ne 5, 3) := by decide +kernel
theorem dX9_hoist_8 : decode cX9_hoist 8 = .ok (.iconst (-1), 1) := by decide +kernel
theorem dX9_hoist_9 : decode cX9_hoist 9 = .ok (.ireturn, 1) := by decide +kernel
theorem dX9_hoist_10 : decode cX9_hoist 10 = .ok (.aload_n 0, 1) := by decide +kernel
theorem dX9_hoist_11 : decode cX9_hoist 11 = .ok (.getfield 28, 3) := by decide +kernel
theorem dX9_hoist_14 : decode cX9_hoist 14 = .ok (.iload_n 1, 1) := by decide +kernel
theorem dX9_hoist_15 : decode cX9_hoist 15 = .ok (.invokevirtual 195, 3) := by decide +kernel
theorem dX9_hoist_18 : decode cX9_hoist 18 = .ok (.ifCond .ne 6, 3) := by decide +kernel
theorem dX9_hoist_21 : decode cX9_hoist 21 = .ok (.bipush (-2), 2) := by decide +kernel
theorem dX9_hoist_23 : decode cX9_hoist 23 = .ok (.ireturn, 1) := by decide +kernel
theorem dX9_hoist_24 : decode cX9_hoist 24 = .ok (.aload_n 0, 1) := by decide +kernel
theorem dX9_hoist_25 : decode cX9_hoist 25 = .ok (.getfield 37, 3) := by decide +kernel
theorem dX9_hoist_28 : decode cX9_hoist 28 = .ok (.aload_n 0, 1) := by decide +kernel
theorem dX9_hoist_29 : decode cX9_hoist 29 = .ok (.getfield 28, 3) := by decide +kernel
theorem dX9_hoist_32 : decode cX9_hoist 32 = .ok (.invokevirtual 183, 3) := by decide +kernel
theorem dX9_hoist_35 : decode cX9_hoist 35 = .ok (.aload_n 0, 1) := by decide +kernel
theorem dX9_hoist_36 : decode cX9_hoist 36 = .ok (.getfield 28, 3) := by decide +kernel
theorem dX9_hoist_39 : decode cX9_hoist 39 = .ok (.iload_n 1, 1) := by decide +kernel
theorem dX9_hoist_40 : decode cX9_hoist 40 = .ok (.invokevirtual 198, 3) := by decide +kernel
theorem dX9_hoist_43 : decode cX9_hoist 43 = .ok (.aload_n 0, 1) := by decide +kernel
theorem dX9_hoist_44 : decode cX9_hoist 44 = .ok (.getfield 28, 3) := by decide +kernel
theorem dX9_hoist_47 : decode cX9_hoist 47 = .ok (.getfield 134, 3) := by decide +kernel
theorem dX9_hoist_50 : decode cX9_hoist 50 = .ok (.iload_n 1, 1) := by decide +kernel
theorem dX9_hoist_51 : decode cX9_hoist 51 = .ok (.iaload, 1) := by decide +kernel
theorem dX9_hoist_52 : decode cX9_hoist 52 = .ok (.ireturn, 1) := by decide +kernel
theorem dX9_call_0 : decode cX9_call 0 = .ok (.aload_n 0, 1) := by decide +kernel
theorem dX9_call_1 : decode cX9_call 1 = .ok (.iload_n 1, 1) := by decide +kernel
theorem dX9_call_2 : decode cX9_call 2 = .ok (.invokevirtual 126, 3) := by decide +kernel
theorem dX9_call_5 : decode cX9_call 5 = .ok (.ifCond .ne 5, 3) := by decide +kernel
theorem dX9_call_8 : decode cX9_call 8 = .ok (.iconst (-1), 1) := by decide +kernel
theorem dX9_call_9 : decode cX9_call 9 = .ok (.ireturn, 1) := by decide +kernel
theorem dX9_call_10 : decode cX9_call 10 = .ok (.aload_n 0, 1) := by decide +kernel
theorem dX9_call_11 : decode cX9_call 11 = .ok (.getfield 28, 3) := by decide +kernel
theorem dX9_call_14 : decode cX9_call 14 = .ok (.iload_n 1, 1) := by decide +kernel
theorem dX9_call_15 : decode cX9_call 15 = .ok (.invokevirtual 158, 3) := by decide +kernel
theorem dX9_call_18 : decode cX9_call 18 = .ok (.ifCond .ne 6, 3) := by decide +kernel
theorem dX9_call_21 : decode cX9_call 21 = .ok (.bipush (-2), 2) := by decide +kernel
theorem dX9_call_23 : decode cX9_call 23 = .ok (.ireturn, 1) := by decide +kernel
theorem dX9_call_24 : decode cX9_call 24 = .ok (.aload_n 0, 1) := by decide +kernel
theorem dX9_call_25 : decode cX9_call 25 = .ok (.getfield 37, 3) := by decide +kernel
theorem dX9_call_28 : decode cX9_call 28 = .ok (.aload_n 0, 1) := by decide +kernel
theorem dX9_call_29 : decode cX9_call 29 = .ok (.getfield 28, 3) := by decide +kernel
theorem dX9_call_32 : decode cX9_call 32 = .ok (.invokevirtual 183, 3) := by decide +kernel
theorem dX9_call_35 : decode cX9_call 35 = .ok (.aload_n 0, 1) := by decide +kernel
theorem dX9_call_36 : decode cX9_call 36 = .ok (.getfield 28, 3) := by decide +kernel
theorem dX9_call_39 : decode cX9_call 39 = .ok (.iload_n 1, 1) := by decide +kernel
theorem dX9_call_40 : decode cX9_call 40 = .ok (.invokevirtual 201, 3) := by decide +kernel
theorem dX9_call_43 : decode cX9_call 43 = .ok (.aload_n 0, 1) := by decide +kernel
theorem dX9_call_44 : decode cX9_call 44 = .ok (.getfield 28, 3) := by decide +kernel
theorem dX9_call_47 : decode cX9_call 47 = .ok (.getfield 140, 3) := by decide +kernel
theorem dX9_call_50 : decode cX9_call 50 = .ok (.iload_n 1, 1) := by decide +kernel
theorem dX9_call_51 : decode cX9_call 51 = .ok (.iaload, 1) := by decide +kernel
theorem dX9_call_52 : decode cX9_call 52 = .ok (.ireturn, 1) := by decide +kernel
theorem dX9_undo_0 : decode cX9_undo 0 = .ok (.aload_n 0, 1) := by decide +kernel
theorem dX9_undo_1 : decode cX9_undo 1 = .ok (.getfield 37, 3) := by decide +kernel
theorem dX9_undo_4 : decode cX9_undo 4 = .ok (.getfield 204, 3) := by decide +kernel
theorem dX9_undo_7 : decode cX9_undo 7 = .ok (.ifCond .ne 6, 3) := by decide +kernel
theorem dX9_undo_10 : decode cX9_undo 10 = .ok (.bipush (-2), 2) := by decide +kernel
theorem dX9_undo_12 : decode cX9_undo 12 = .ok (.ireturn, 1) := by decide +kernel
theorem dX9_undo_13 : decode cX9_undo 13 = .ok (.aload_n 0, 1) := by decide +kernel
theorem dX9_undo_14 : decode cX9_undo 14 = .ok (.getfield 37, 3) := by decide +kernel
theorem dX9_undo_17 : decode cX9_undo 17 = .ok (.aload_n 0, 1) := by decide +kernel
theorem dX9_undo_18 : decode cX9_undo 18 = .ok (.getfield 28, 3) := by decide +kernel
theorem dX9_undo_21 : decode cX9_undo 21 = .ok (.invokevirtual 207, 3) := by decide +kernel
theorem dX9_undo_24 : decode cX9_undo 24 = .ok (.aload_n 0, 1) := by decide +kernel
theorem dX9_undo_25 : decode cX9_undo 25 = .ok (.getfield 37, 3) := by decide +kernel
theorem dX9_undo_28 : decode cX9_undo 28 = .ok (.getfield 204, 3) := by decide +kernel
theorem dX9_undo_31 : decode cX9_undo 31 = .ok (.ireturn, 1) := by decide +kernel
theorem dX9_behind_0 : decode cX9_behind 0 = .ok (.iload_n 1, 1) := by decide +kernel
theorem dX9_behind_1 : decode cX9_behind 1 = .ok (.iconst 0, 1) := by decide +kernel
theorem dX9_behind_2 : decode cX9_behind 2 = .ok (.bipush 40, 2) := by decide +kernel
theorem dX9_behind_4 : decode cX9_behind 4 = .ok (.invokestatic 112, 3) := by decide +kernel
theorem dX9_behind_7 : decode cX9_behind 7 = .ok (.ifCond .eq 20, 3) := by decide +kernel
theorem dX9_behind_10 : decode cX9_behind 10 = .ok (.aload_n 0, 1) := by decide +kernel
theorem dX9_behind_11 : decode cX9_behind 11 = .ok (.iload_n 2, 1) := by decide +kernel
theorem dX9_behind_12 : decode cX9_behind 12 = .ok (.invokevirtual 126, 3) := by decide +kernel
theorem dX9_behind_15 : decode cX9_behind 15 = .ok (.ifCond .eq 12, 3) := by decide +kernel
theorem dX9_behind_18 : decode cX9_behind 18 = .ok (.iload_n 3, 1) := by decide +kernel
theorem dX9_behind_19 : decode cX9_behind 19 = .ok (.iconst 0, 1) := by decide +kernel
theorem dX9_behind_20 : decode cX9_behind 20 = .ok (.iconst 1, 1) := by decide +kernel
theorem dX9_behind_21 : decode cX9_behind 21 = .ok (.invokestatic 112, 3) := by decide +kernel
theorem dX9_behind_24 : decode cX9_behind 24 = .ok (.ifCond .ne 5, 3) := by decide +kernel
theorem dX9_behind_27 : decode cX9_behind 27 = .ok (.iconst (-1), 1) := by decide +kernel
theorem dX9_behind_28 : decode cX9_behind 28 = .ok (.ireturn, 1) := by decide +kernel
theorem dX9_behind_29 : decode cX9_behind 29 = .ok (.aload_n 0, 1) := by decide +kernel
theorem dX9_behind_30 : decode cX9_behind 30 = .ok (.getfield 31, 3) := by decide +kernel
theorem dX9_behind_33 : decode cX9_behind 33 = .ok (.aload_n 0, 1) := by decide +kernel
theorem dX9_behind_34 : decode cX9_behind 34 = .ok (.getfield 28, 3) := by decide +kernel
theorem dX9_behind_37 : decode cX9_behind 37 = .ok (.invokevirtual 210, 3) := by decide +kernel
theorem dX9_behind_40 : decode cX9_behind 40 = .ok (.aload_n 0, 1) := by decide +kernel
theorem dX9_behind_41 : decode cX9_behind 41 = .ok (.getfield 31, 3) := by decide +kernel
theorem dX9_behind_44 : decode cX9_behind 44 = .ok (.iload_n 1, 1) := by decide +kernel
theorem dX9_behind_45 : decode cX9_behind 45 = .ok (.invokevirtual 185, 3) := by decide +kernel
theorem dX9_behind_48 : decode cX9_behind 48 = .ok (.iload_n 3, 1) := by decide +kernel
theorem dX9_behind_49 : decode cX9_behind 49 = .ok (.ifCond .ne 18, 3) := by decide +kernel
theorem dX9_behind_52 : decode cX9_behind 52 = .ok (.aload_n 0, 1) := by decide +kernel
theorem dX9_behind_53 : decode cX9_behind 53 = .ok (.getfield 31, 3) := by decide +kernel
theorem dX9_behind_56 : decode cX9_behind 56 = .ok (.getfield 154, 3) := by decide +kernel
theorem dX9_behind_59 : decode cX9_behind 59 = .ok (.iload_n 2, 1) := by decide +kernel
theorem dX9_behind_60 : decode cX9_behind 60 = .ok (.baload, 1) := by decide +kernel
theorem dX9_behind_61 : decode cX9_behind 61 = .ok (.invokestatic 150, 3) := by decide +kernel
theorem dX9_behind_64 : decode cX9_behind 64 = .ok (.goto 12, 3) := by decide +kernel
theorem dX9_behind_67 : decode cX9_behind 67 = .ok (.aload_n 0, 1) := by decide +kernel
theorem dX9_behind_68 : decode cX9_behind 68 = .ok (.getfield 31, 3) := by decide +kernel
theorem dX9_behind_71 : decode cX9_behind 71 = .ok (.getfield 140, 3) := by decide +kernel
theorem dX9_behind_74 : decode cX9_behind 74 = .ok (.iload_n 2, 1) := by decide +kernel
theorem dX9_behind_75 : decode cX9_behind 75 = .ok (.iaload, 1) := by decide +kernel
theorem dX9_behind_76 : decode cX9_behind 76 = .ok (.ireturn, 1) := by decide +kernel
theorem dX9_lowest_0 : decode cX9_lowest 0 = .ok (.aload_n 0, 1) := by decide +kernel
theorem dX9_lowest_1 : decode cX9_lowest 1 = .ok (.iload_n 1, 1) := by decide +kernel
theorem dX9_lowest_2 : decode cX9_lowest 2 = .ok (.invokevirtual 126, 3) := by decide +kernel
theorem dX9_lowest_5 : decode cX9_lowest 5 = .ok (.ifCond .ne 5, 3) := by decide +kernel
theorem dX9_lowest_8 : decode cX9_lowest 8 = .ok (.iconst (-1), 1) := by decide +kernel
theorem dX9_lowest_9 : decode cX9_lowest 9 = .ok (.ireturn, 1) := by decide +kernel
theorem dX9_lowest_10 : decode cX9_lowest 10 = .ok (.aload_n 0, 1) := by decide +kernel
theorem dX9_lowest_11 : decode cX9_lowest 11 = .ok (.getfield 28, 3) := by decide +kernel
theorem dX9_lowest_14 : decode cX9_lowest 14 = .ok (.iload_n 1, 1) := by decide +kernel
theorem dX9_lowest_15 : decode cX9_lowest 15 = .ok (.invokevirtual 213, 3) := by decide +kernel
theorem dX9_lowest_18 : decode cX9_lowest 18 = .ok (.ifCond .ne 6, 3) := by decide +kernel
theorem dX9_lowest_21 : decode cX9_lowest 21 = .ok (.bipush (-2), 2) := by decide +kernel
theorem dX9_lowest_23 : decode cX9_lowest 23 = .ok (.ireturn, 1) := by decide +kernel
theorem dX9_lowest_24 : decode cX9_lowest 24 = .ok (.aload_n 0, 1) := by decide +kernel
theorem dX9_lowest_25 : decode cX9_lowest 25 = .ok (.getfield 28, 3) := by decide +kernel
theorem dX9_lowest_28 : decode cX9_lowest 28 = .ok (.getfield 134, 3) := by decide +kernel
theorem dX9_lowest_31 : decode cX9_lowest 31 = .ok (.iload_n 1, 1) := by decide +kernel
theorem dX9_lowest_32 : decode cX9_lowest 32 = .ok (.iaload, 1) := by decide +kernel
theorem dX9_lowest_33 : decode cX9_lowest 33 = .ok (.istore_n 2, 1) := by decide +kernel
theorem dX9_lowest_34 : decode cX9_lowest 34 = .ok (.iload_n 2, 1) := by decide +kernel
theorem dX9_lowest_35 : decode cX9_lowest 35 = .ok (.ifCond .le 32, 3) := by decide +kernel
theorem dX9_lowest_38 : decode cX9_lowest 38 = .ok (.aload_n 0, 1) := by decide +kernel
theorem dX9_lowest_39 : decode cX9_lowest 39 = .ok (.getfield 28, 3) := by decide +kernel
theorem dX9_lowest_42 : decode cX9_lowest 42 = .ok (.iload_n 1, 1) := by decide +kernel
theorem dX9_lowest_43 : decode cX9_lowest 43 = .ok (.iload_n 2, 1) := by decide +kernel
theorem dX9_lowest_44 : decode cX9_lowest 44 = .ok (.iconst 1, 1) := by decide +kernel
theorem dX9_lowest_45 : decode cX9_lowest 45 = .ok (.isub, 1) := by decide +kernel
theorem dX9_lowest_46 : decode cX9_lowest 46 = .ok (.invokevirtual 143, 3) := by decide +kernel
theorem dX9_lowest_49 : decode cX9_lowest 49 = .ok (.aload_n 0, 1) := by decide +kernel
theorem dX9_lowest_50 : decode cX9_lowest 50 = .ok (.getfield 28, 3) := by decide +kernel
theorem dX9_lowest_53 : decode cX9_lowest 53 = .ok (.getfield 140, 3) := by decide +kernel
theorem dX9_lowest_56 : decode cX9_lowest 56 = .ok (.iload_n 1, 1) := by decide +kernel
theorem dX9_lowest_57 : decode cX9_lowest 57 = .ok (.iaload, 1) := by decide +kernel
theorem dX9_lowest_58 : decode cX9_lowest 58 = .ok (.if_icmp .gt 9, 3) := by decide +kernel
theorem dX9_lowest_61 : decode cX9_lowest 61 = .ok (.iinc 2 (-1), 3) := by decide +kernel
theorem dX9_lowest_64 : decode cX9_lowest 64 = .ok (.goto (-30), 3) := by decide +kernel
theorem dX9_lowest_67 : decode cX9_lowest 67 = .ok (.iload_n 2, 1) := by decide +kernel
theorem dX9_lowest_68 : decode cX9_lowest 68 = .ok (.ireturn, 1) := by decide +kernel
theorem dX9_posting_0 : decode cX9_posting 0 = .ok (.iload_n 1, 1) := by decide +kernel
theorem dX9_posting_1 : decode cX9_posting 1 = .ok (.iconst (-1), 1) := by decide +kernel
theorem dX9_posting_2 : decode cX9_posting 2 = .ok (.if_icmp .eq 13, 3) := by decide +kernel
theorem dX9_posting_5 : decode cX9_posting 5 = .ok (.aload_n 0, 1) := by decide +kernel
theorem dX9_posting_6 : decode cX9_posting 6 = .ok (.iload_n 1, 1) := by decide +kernel
theorem dX9_posting_7 : decode cX9_posting 7 = .ok (.invokevirtual 126, 3) := by decide +kernel
theorem dX9_posting_10 : decode cX9_posting 10 = .ok (.ifCond .ne 5, 3) := by decide +kernel
theorem dX9_posting_13 : decode cX9_posting 13 = .ok (.iconst (-1), 1) := by decide +kernel
theorem dX9_posting_14 : decode cX9_posting 14 = .ok (.ireturn, 1) := by decide +kernel
theorem dX9_posting_15 : decode cX9_posting 15 = .ok (.aload_n 0, 1) := by decide +kernel
theorem dX9_posting_16 : decode cX9_posting 16 = .ok (.getfield 61, 3) := by decide +kernel
theorem dX9_posting_19 : decode cX9_posting 19 = .ok (.aload_n 0, 1) := by decide +kernel
theorem dX9_posting_20 : decode cX9_posting 20 = .ok (.getfield 28, 3) := by decide +kernel
theorem dX9_posting_23 : decode cX9_posting 23 = .ok (.invokevirtual 216, 3) := by decide +kernel
theorem dX9_posting_26 : decode cX9_posting 26 = .ok (.aload_n 0, 1) := by decide +kernel
theorem dX9_posting_27 : decode cX9_posting 27 = .ok (.getfield 61, 3) := by decide +kernel
theorem dX9_posting_30 : decode cX9_posting 30 = .ok (.getfield 219, 3) := by decide +kernel
theorem dX9_posting_33 : decode cX9_posting 33 = .ok (.ifCond .ge 6, 3) := by decide +kernel
theorem dX9_posting_36 : decode cX9_posting 36 = .ok (.bipush (-4), 2) := by decide +kernel
theorem dX9_posting_38 : decode cX9_posting 38 = .ok (.ireturn, 1) := by decide +kernel
theorem dX9_posting_39 : decode cX9_posting 39 = .ok (.iload_n 1, 1) := by decide +kernel
theorem dX9_posting_40 : decode cX9_posting 40 = .ok (.iconst (-1), 1) := by decide +kernel
theorem dX9_posting_41 : decode cX9_posting 41 = .ok (.if_icmp .ne 13, 3) := by decide +kernel
theorem dX9_posting_44 : decode cX9_posting 44 = .ok (.aload_n 0, 1) := by decide +kernel
theorem dX9_posting_45 : decode cX9_posting 45 = .ok (.getfield 61, 3) := by decide +kernel
theorem dX9_posting_48 : decode cX9_posting 48 = .ok (.getfield 219, 3) := by decide +kernel
theorem dX9_posting_51 : decode cX9_posting 51 = .ok (.goto 12, 3) := by decide +kernel
theorem dX9_posting_54 : decode cX9_posting 54 = .ok (.aload_n 0, 1) := by decide +kernel
theorem dX9_posting_55 : decode cX9_posting 55 = .ok (.getfield 61, 3) := by decide +kernel
theorem dX9_posting_58 : decode cX9_posting 58 = .ok (.getfield 222, 3) := by decide +kernel
theorem dX9_posting_61 : decode cX9_posting 61 = .ok (.iload_n 1, 1) := by decide +kernel
theorem dX9_posting_62 : decode cX9_posting 62 = .ok (.iaload, 1) := by decide +kernel
theorem dX9_posting_63 : decode cX9_posting 63 = .ok (.ireturn, 1) := by decide +kernel
theorem dX9_timetable_0 : decode cX9_timetable 0 = .ok (.iload_n 1, 1) := by decide +kernel
theorem dX9_timetable_1 : decode cX9_timetable 1 = .ok (.iconst 1, 1) := by decide +kernel
theorem dX9_timetable_2 : decode cX9_timetable 2 = .ok (.iconst 4, 1) := by decide +kernel
theorem dX9_timetable_3 : decode cX9_timetable 3 = .ok (.invokestatic 112, 3) := by decide +kernel
theorem dX9_timetable_6 : decode cX9_timetable 6 = .ok (.ifCond .eq 12, 3) := by decide +kernel
theorem dX9_timetable_9 : decode cX9_timetable 9 = .ok (.iload_n 2, 1) := by decide +kernel
theorem dX9_timetable_10 : decode cX9_timetable 10 = .ok (.iconst (-1), 1) := by decide +kernel
theorem dX9_timetable_11 : decode cX9_timetable 11 = .ok (.iconst 3, 1) := by decide +kernel
theorem dX9_timetable_12 : decode cX9_timetable 12 = .ok (.invokestatic 112, 3) := by decide +kernel
theorem dX9_timetable_15 : decode cX9_timetable 15 = .ok (.ifCond .ne 5, 3) := by decide +kernel
theorem dX9_timetable_18 : decode cX9_timetable 18 = .ok (.iconst (-1), 1) := by decide +kernel
theorem dX9_timetable_19 : decode cX9_timetable 19 = .ok (.ireturn, 1) := by decide +kernel
theorem dX9_timetable_20 : decode cX9_timetable 20 = .ok (.aload_n 0, 1) := by decide +kernel
theorem dX9_timetable_21 : decode cX9_timetable 21 = .ok (.getfield 68, 3) := by decide +kernel
theorem dX9_timetable_24 : decode cX9_timetable 24 = .ok (.aload_n 0, 1) := by decide +kernel
theorem dX9_timetable_25 : decode cX9_timetable 25 = .ok (.getfield 28, 3) := by decide +kernel
theorem dX9_timetable_28 : decode cX9_timetable 28 = .ok (.iload_n 1, 1) := by decide +kernel
theorem dX9_timetable_29 : decode cX9_timetable 29 = .ok (.invokevirtual 225, 3) := by decide +kernel
theorem dX9_timetable_32 : decode cX9_timetable 32 = .ok (.iload_n 2, 1) := by decide +kernel
theorem dX9_timetable_33 : decode cX9_timetable 33 = .ok (.iconst (-1), 1) := by decide +kernel
theorem dX9_timetable_34 : decode cX9_timetable 34 = .ok (.if_icmp .ne 11, 3) := by decide +kernel
theorem dX9_timetable_37 : decode cX9_timetable 37 = .ok (.aload_n 0, 1) := by decide +kernel
theorem dX9_timetable_38 : decode cX9_timetable 38 = .ok (.getfield 68, 3) := by decide +kernel
theorem dX9_timetable_41 : decode cX9_timetable 41 = .ok (.getfield 228, 3) := by decide +kernel
theorem dX9_timetable_44 : decode cX9_timetable 44 = .ok (.ireturn, 1) := by decide +kernel
theorem dX9_timetable_45 : decode cX9_timetable 45 = .ok (.iload_n 2, 1) := by decide +kernel
theorem dX9_timetable_46 : decode cX9_timetable 46 = .ok (.iload_n 1, 1) := by decide +kernel
theorem dX9_timetable_47 : decode cX9_timetable 47 = .ok (.if_icmp .ge 15, 3) := by decide +kernel
theorem dX9_timetable_50 : decode cX9_timetable 50 = .ok (.aload_n 0, 1) := by decide +kernel
theorem dX9_timetable_51 : decode cX9_timetable 51 = .ok (.getfield 68, 3) := by decide +kernel
theorem dX9_timetable_54 : decode cX9_timetable 54 = .ok (.getfield 229, 3) := by decide +kernel
theorem dX9_timetable_57 : decode cX9_timetable 57 = .ok (.iload_n 2, 1) := by decide +kernel
theorem dX9_timetable_58 : decode cX9_timetable 58 = .ok (.iaload, 1) := by decide +kernel
theorem dX9_timetable_59 : decode cX9_timetable 59 = .ok (.goto 5, 3) := by decide +kernel
theorem dX9_timetable_62 : decode cX9_timetable 62 = .ok (.bipush (-4), 2) := by decide +kernel
theorem dX9_timetable_64 : decode cX9_timetable 64 = .ok (.ireturn, 1) := by decide +kernel
theorem dX9_swap_0 : decode cX9_swap 0 = .ok (.iload_n 1, 1) := by decide +kernel
theorem dX9_swap_1 : decode cX9_swap 1 = .ok (.iconst 0, 1) := by decide +kernel
theorem dX9_swap_2 : decode cX9_swap 2 = .ok (.iconst 1, 1) := by decide +kernel
theorem dX9_swap_3 : decode cX9_swap 3 = .ok (.invokestatic 112, 3) := by decide +kernel
theorem dX9_swap_6 : decode cX9_swap 6 = .ok (.ifCond .ne 5, 3) := by decide +kernel
theorem dX9_swap_9 : decode cX9_swap 9 = .ok (.iconst (-1), 1) := by decide +kernel
theorem dX9_swap_10 : decode cX9_swap 10 = .ok (.ireturn, 1) := by decide +kernel
theorem dX9_swap_11 : decode cX9_swap 11 = .ok (.aload_n 0, 1) := by decide +kernel
theorem dX9_swap_12 : decode cX9_swap 12 = .ok (.getfield 75, 3) := by decide +kernel
theorem dX9_swap_15 : decode cX9_swap 15 = .ok (.aload_n 0, 1) := by decide +kernel
theorem dX9_swap_16 : decode cX9_swap 16 = .ok (.getfield 28, 3) := by decide +kernel
theorem dX9_swap_19 : decode cX9_swap 19 = .ok (.invokevirtual 230, 3) := by decide +kernel
theorem dX9_swap_22 : decode cX9_swap 22 = .ok (.aload_n 0, 1) := by decide +kernel
theorem dX9_swap_23 : decode cX9_swap 23 = .ok (.getfield 75, 3) := by decide +kernel
theorem dX9_swap_26 : decode cX9_swap 26 = .ok (.getfield 231, 3) := by decide +kernel
theorem dX9_swap_29 : decode cX9_swap 29 = .ok (.ifCond .ge 6, 3) := by decide +kernel
theorem dX9_swap_32 : decode cX9_swap 32 = .ok (.bipush (-4), 2) := by decide +kernel
theorem dX9_swap_34 : decode cX9_swap 34 = .ok (.ireturn, 1) := by decide +kernel
theorem dX9_swap_35 : decode cX9_swap 35 = .ok (.iload_n 1, 1) := by decide +kernel
theorem dX9_swap_36 : decode cX9_swap 36 = .ok (.ifCond .ne 13, 3) := by decide +kernel
theorem dX9_swap_39 : decode cX9_swap 39 = .ok (.aload_n 0, 1) := by decide +kernel
theorem dX9_swap_40 : decode cX9_swap 40 = .ok (.getfield 75, 3) := by decide +kernel
theorem dX9_swap_43 : decode cX9_swap 43 = .ok (.getfield 232, 3) := by decide +kernel
theorem dX9_swap_46 : decode cX9_swap 46 = .ok (.goto 10, 3) := by decide +kernel
theorem dX9_swap_49 : decode cX9_swap 49 = .ok (.aload_n 0, 1) := by decide +kernel
theorem dX9_swap_50 : decode cX9_swap 50 = .ok (.getfield 75, 3) := by decide +kernel
theorem dX9_swap_53 : decode cX9_swap 53 = .ok (.getfield 231, 3) := by decide +kernel
theorem dX9_swap_56 : decode cX9_swap 56 = .ok (.ireturn, 1) := by decide +kernel
theorem dX9_can_0 : decode cX9_can 0 = .ok (.aload_n 0, 1) := by decide +kernel
theorem dX9_can_1 : decode cX9_can 1 = .ok (.iload_n 1, 1) := by decide +kernel
theorem dX9_can_2 : decode cX9_can 2 = .ok (.invokevirtual 161, 3) := by decide +kernel
theorem dX9_can_5 : decode cX9_can 5 = .ok (.ifCond .eq 20, 3) := by decide +kernel
theorem dX9_can_8 : decode cX9_can 8 = .ok (.aload_n 0, 1) := by decide +kernel
theorem dX9_can_9 : decode cX9_can 9 = .ok (.iload_n 2, 1) := by decide +kernel
theorem dX9_can_10 : decode cX9_can 10 = .ok (.invokevirtual 161, 3) := by decide +kernel
theorem dX9_can_13 : decode cX9_can 13 = .ok (.ifCond .eq 12, 3) := by decide +kernel
theorem dX9_can_16 : decode cX9_can 16 = .ok (.iload_n 3, 1) := by decide +kernel
theorem dX9_can_17 : decode cX9_can 17 = .ok (.iconst 0, 1) := by decide +kernel
theorem dX9_can_18 : decode cX9_can 18 = .ok (.iconst 1, 1) := by decide +kernel
theorem dX9_can_19 : decode cX9_can 19 = .ok (.invokestatic 112, 3) := by decide +kernel
theorem dX9_can_22 : decode cX9_can 22 = .ok (.ifCond .ne 5, 3) := by decide +kernel
theorem dX9_can_25 : decode cX9_can 25 = .ok (.iconst (-1), 1) := by decide +kernel
theorem dX9_can_26 : decode cX9_can 26 = .ok (.ireturn, 1) := by decide +kernel
theorem dX9_can_27 : decode cX9_can 27 = .ok (.aload_n 0, 1) := by decide +kernel
theorem dX9_can_28 : decode cX9_can 28 = .ok (.getfield 82, 3) := by decide +kernel
theorem dX9_can_31 : decode cX9_can 31 = .ok (.aload_n 0, 1) := by decide +kernel
theorem dX9_can_32 : decode cX9_can 32 = .ok (.getfield 28, 3) := by decide +kernel
theorem dX9_can_35 : decode cX9_can 35 = .ok (.iload_n 1, 1) := by decide +kernel
theorem dX9_can_36 : decode cX9_can 36 = .ok (.iload_n 2, 1) := by decide +kernel
theorem dX9_can_37 : decode cX9_can 37 = .ok (.invokevirtual 235, 3) := by decide +kernel
theorem dX9_can_40 : decode cX9_can 40 = .ok (.aload_n 0, 1) := by decide +kernel
theorem dX9_can_41 : decode cX9_can 41 = .ok (.getfield 82, 3) := by decide +kernel
theorem dX9_can_44 : decode cX9_can 44 = .ok (.getfield 238, 3) := by decide +kernel
theorem dX9_can_47 : decode cX9_can 47 = .ok (.ifCond .ge 6, 3) := by decide +kernel
theorem dX9_can_50 : decode cX9_can 50 = .ok (.bipush (-4), 2) := by decide +kernel
theorem dX9_can_52 : decode cX9_can 52 = .ok (.ireturn, 1) := by decide +kernel
theorem dX9_can_53 : decode cX9_can 53 = .ok (.iload_n 3, 1) := by decide +kernel
theorem dX9_can_54 : decode cX9_can 54 = .ok (.ifCond .ne 13, 3) := by decide +kernel
theorem dX9_can_57 : decode cX9_can 57 = .ok (.aload_n 0, 1) := by decide +kernel
theorem dX9_can_58 : decode cX9_can 58 = .ok (.getfield 82, 3) := by decide +kernel
theorem dX9_can_61 : decode cX9_can 61 = .ok (.getfield 241, 3) := by decide +kernel
theorem dX9_can_64 : decode cX9_can 64 = .ok (.goto 10, 3) := by decide +kernel
theorem dX9_can_67 : decode cX9_can 67 = .ok (.aload_n 0, 1) := by decide +kernel
theorem dX9_can_68 : decode cX9_can 68 = .ok (.getfield 82, 3) := by decide +kernel
theorem dX9_can_71 : decode cX9_can 71 = .ok (.getfield 238, 3) := by decide +kernel
theorem dX9_can_74 : decode cX9_can 74 = .ok (.ireturn, 1) := by decide +kernel
theorem dX9_seen_0 : decode cX9_seen 0 = .ok (.aload_n 0, 1) := by decide +kernel
theorem dX9_seen_1 : decode cX9_seen 1 = .ok (.iload_n 1, 1) := by decide +kernel
theorem dX9_seen_2 : decode cX9_seen 2 = .ok (.invokevirtual 126, 3) := by decide +kernel
theorem dX9_seen_5 : decode cX9_seen 5 = .ok (.ifCond .eq 20, 3) := by decide +kernel
theorem dX9_seen_8 : decode cX9_seen 8 = .ok (.aload_n 0, 1) := by decide +kernel
theorem dX9_seen_9 : decode cX9_seen 9 = .ok (.iload_n 2, 1) := by decide +kernel
theorem dX9_seen_10 : decode cX9_seen 10 = .ok (.invokevirtual 161, 3) := by decide +kernel
theorem dX9_seen_13 : decode cX9_seen 13 = .ok (.ifCond .eq 12, 3) := by decide +kernel
theorem dX9_seen_16 : decode cX9_seen 16 = .ok (.iload_n 3, 1) := by decide +kernel
theorem dX9_seen_17 : decode cX9_seen 17 = .ok (.iconst 0, 1) := by decide +kernel
theorem dX9_seen_18 : decode cX9_seen 18 = .ok (.iconst 1, 1) := by decide +kernel
theorem dX9_seen_19 : decode cX9_seen 19 = .ok (.invokestatic 112, 3) := by decide +kernel
theorem dX9_seen_22 : decode cX9_seen 22 = .ok (.ifCond .ne 5, 3) := by decide +kernel
theorem dX9_seen_25 : decode cX9_seen 25 = .ok (.iconst (-1), 1) := by decide +kernel
theorem dX9_seen_26 : decode cX9_seen 26 = .ok (.ireturn, 1) := by decide +kernel
theorem dX9_seen_27 : decode cX9_seen 27 = .ok (.aload_n 0, 1) := by decide +kernel
theorem dX9_seen_28 : decode cX9_seen 28 = .ok (.getfield 52, 3) := by decide +kernel
theorem dX9_seen_31 : decode cX9_seen 31 = .ok (.iload_n 1, 1) := by decide +kernel
theorem dX9_seen_32 : decode cX9_seen 32 = .ok (.iload_n 2, 1) := by decide +kernel
theorem dX9_seen_33 : decode cX9_seen 33 = .ok (.iload_n 3, 1) := by decide +kernel
theorem dX9_seen_34 : decode cX9_seen 34 = .ok (.iconst 1, 1) := by decide +kernel
theorem dX9_seen_35 : decode cX9_seen 35 = .ok (.if_icmp .ne 7, 3) := by decide +kernel
theorem dX9_seen_38 : decode cX9_seen 38 = .ok (.iconst 1, 1) := by decide +kernel
theorem dX9_seen_39 : decode cX9_seen 39 = .ok (.goto 4, 3) := by decide +kernel
theorem dX9_seen_42 : decode cX9_seen 42 = .ok (.iconst 0, 1) := by decide +kernel
theorem dX9_seen_43 : decode cX9_seen 43 = .ok (.invokevirtual 244, 3) := by decide +kernel
theorem dX9_seen_46 : decode cX9_seen 46 = .ok (.ifCond .eq 13, 3) := by decide +kernel
theorem dX9_seen_49 : decode cX9_seen 49 = .ok (.aload_n 0, 1) := by decide +kernel
theorem dX9_seen_50 : decode cX9_seen 50 = .ok (.getfield 52, 3) := by decide +kernel
theorem dX9_seen_53 : decode cX9_seen 53 = .ok (.getfield 247, 3) := by decide +kernel
theorem dX9_seen_56 : decode cX9_seen 56 = .ok (.goto 5, 3) := by decide +kernel
theorem dX9_seen_59 : decode cX9_seen 59 = .ok (.bipush (-3), 2) := by decide +kernel
theorem dX9_seen_61 : decode cX9_seen 61 = .ok (.ireturn, 1) := by decide +kernel
theorem dX9_forget_0 : decode cX9_forget 0 = .ok (.aload_n 0, 1) := by decide +kernel
theorem dX9_forget_1 : decode cX9_forget 1 = .ok (.getfield 52, 3) := by decide +kernel
theorem dX9_forget_4 : decode cX9_forget 4 = .ok (.getfield 247, 3) := by decide +kernel
theorem dX9_forget_7 : decode cX9_forget 7 = .ok (.istore_n 1, 1) := by decide +kernel
theorem dX9_forget_8 : decode cX9_forget 8 = .ok (.aload_n 0, 1) := by decide +kernel
theorem dX9_forget_9 : decode cX9_forget 9 = .ok (.getfield 52, 3) := by decide +kernel
theorem dX9_forget_12 : decode cX9_forget 12 = .ok (.invokevirtual 248, 3) := by decide +kernel
theorem dX9_forget_15 : decode cX9_forget 15 = .ok (.iload_n 1, 1) := by decide +kernel
theorem dX9_forget_16 : decode cX9_forget 16 = .ok (.ireturn, 1) := by decide +kernel
theorem dX9_nerves_0 : decode cX9_nerves 0 = .ok (.aload_n 0, 1) := by decide +kernel
theorem dX9_nerves_1 : decode cX9_nerves 1 = .ok (.iload_n 1, 1) := by decide +kernel
theorem dX9_nerves_2 : decode cX9_nerves 2 = .ok (.invokevirtual 126, 3) := by decide +kernel
theorem dX9_nerves_5 : decode cX9_nerves 5 = .ok (.ifCond .eq 12, 3) := by decide +kernel
theorem dX9_nerves_8 : decode cX9_nerves 8 = .ok (.iload_n 2, 1) := by decide +kernel
theorem dX9_nerves_9 : decode cX9_nerves 9 = .ok (.iconst 0, 1) := by decide +kernel
theorem dX9_nerves_10 : decode cX9_nerves 10 = .ok (.iconst 1, 1) := by decide +kernel
theorem dX9_nerves_11 : decode cX9_nerves 11 = .ok (.invokestatic 112, 3) := by decide +kernel
theorem dX9_nerves_14 : decode cX9_nerves 14 = .ok (.ifCond .ne 5, 3) := by decide +kernel
theorem dX9_nerves_17 : decode cX9_nerves 17 = .ok (.iconst (-1), 1) := by decide +kernel
theorem dX9_nerves_18 : decode cX9_nerves 18 = .ok (.ireturn, 1) := by decide +kernel
theorem dX9_nerves_19 : decode cX9_nerves 19 = .ok (.iconst 0, 1) := by decide +kernel
theorem dX9_nerves_20 : decode cX9_nerves 20 = .ok (.istore_n 3, 1) := by decide +kernel
theorem dX9_nerves_21 : decode cX9_nerves 21 = .ok (.bipush (-4), 2) := by decide +kernel
theorem dX9_nerves_23 : decode cX9_nerves 23 = .ok (.istore 4, 2) := by decide +kernel
theorem dX9_nerves_25 : decode cX9_nerves 25 = .ok (.bipush 30, 2) := by decide +kernel
theorem dX9_nerves_27 : decode cX9_nerves 27 = .ok (.istore 5, 2) := by decide +kernel
theorem dX9_nerves_29 : decode cX9_nerves 29 = .ok (.iload 5, 2) := by decide +kernel
theorem dX9_nerves_31 : decode cX9_nerves 31 = .ok (.ifCond .lt 45, 3) := by decide +kernel
theorem dX9_nerves_34 : decode cX9_nerves 34 = .ok (.aload_n 0, 1) := by decide +kernel
theorem dX9_nerves_35 : decode cX9_nerves 35 = .ok (.getfield 52, 3) := by decide +kernel
theorem dX9_nerves_38 : decode cX9_nerves 38 = .ok (.aload_n 0, 1) := by decide +kernel
theorem dX9_nerves_39 : decode cX9_nerves 39 = .ok (.getfield 28, 3) := by decide +kernel
theorem dX9_nerves_42 : decode cX9_nerves 42 = .ok (.iload_n 1, 1) := by decide +kernel
theorem dX9_nerves_43 : decode cX9_nerves 43 = .ok (.aload_n 0, 1) := by decide +kernel
theorem dX9_nerves_44 : decode cX9_nerves 44 = .ok (.getfield 28, 3) := by decide +kernel
theorem dX9_nerves_47 : decode cX9_nerves 47 = .ok (.getfield 119, 3) := by decide +kernel
theorem dX9_nerves_50 : decode cX9_nerves 50 = .ok (.getfield 130, 3) := by decide +kernel
theorem dX9_nerves_53 : decode cX9_nerves 53 = .ok (.iload_n 1, 1) := by decide +kernel
theorem dX9_nerves_54 : decode cX9_nerves 54 = .ok (.iaload, 1) := by decide +kernel
theorem dX9_nerves_55 : decode cX9_nerves 55 = .ok (.iload 5, 2) := by decide +kernel
theorem dX9_nerves_57 : decode cX9_nerves 57 = .ok (.invokevirtual 249, 3) := by decide +kernel
theorem dX9_nerves_60 : decode cX9_nerves 60 = .ok (.ifCond .eq 10, 3) := by decide +kernel
theorem dX9_nerves_63 : decode cX9_nerves 63 = .ok (.iinc 3 1, 3) := by decide +kernel
theorem dX9_nerves_66 : decode cX9_nerves 66 = .ok (.iload 5, 2) := by decide +kernel
theorem dX9_nerves_68 : decode cX9_nerves 68 = .ok (.istore 4, 2) := by decide +kernel
theorem dX9_nerves_70 : decode cX9_nerves 70 = .ok (.iinc 5 (-1), 3) := by decide +kernel
theorem dX9_nerves_73 : decode cX9_nerves 73 = .ok (.goto (-44), 3) := by decide +kernel
theorem dX9_nerves_76 : decode cX9_nerves 76 = .ok (.iload_n 2, 1) := by decide +kernel
theorem dX9_nerves_77 : decode cX9_nerves 77 = .ok (.ifCond .ne 7, 3) := by decide +kernel
theorem dX9_nerves_80 : decode cX9_nerves 80 = .ok (.iload_n 3, 1) := by decide +kernel
theorem dX9_nerves_81 : decode cX9_nerves 81 = .ok (.goto 5, 3) := by decide +kernel
theorem dX9_nerves_84 : decode cX9_nerves 84 = .ok (.iload 4, 2) := by decide +kernel
theorem dX9_nerves_86 : decode cX9_nerves 86 = .ok (.ireturn, 1) := by decide +kernel
theorem dX9_kinds_0 : decode cX9_kinds 0 = .ok (.aload_n 0, 1) := by decide +kernel
theorem dX9_kinds_1 : decode cX9_kinds 1 = .ok (.iload_n 1, 1) := by decide +kernel
theorem dX9_kinds_2 : decode cX9_kinds 2 = .ok (.invokevirtual 126, 3) := by decide +kernel
theorem dX9_kinds_5 : decode cX9_kinds 5 = .ok (.ifCond .ne 5, 3) := by decide +kernel
theorem dX9_kinds_8 : decode cX9_kinds 8 = .ok (.iconst (-1), 1) := by decide +kernel
theorem dX9_kinds_9 : decode cX9_kinds 9 = .ok (.ireturn, 1) := by decide +kernel
theorem dX9_kinds_10 : decode cX9_kinds 10 = .ok (.iconst 0, 1) := by decide +kernel
theorem dX9_kinds_11 : decode cX9_kinds 11 = .ok (.istore_n 2, 1) := by decide +kernel
theorem dX9_kinds_12 : decode cX9_kinds 12 = .ok (.iconst 0, 1) := by decide +kernel
theorem dX9_kinds_13 : decode cX9_kinds 13 = .ok (.istore_n 3, 1) := by decide +kernel
theorem dX9_kinds_14 : decode cX9_kinds 14 = .ok (.iload_n 3, 1) := by decide +kernel
theorem dX9_kinds_15 : decode cX9_kinds 15 = .ok (.iconst 4, 1) := by decide +kernel
theorem dX9_kinds_16 : decode cX9_kinds 16 = .ok (.if_icmp .ge 40, 3) := by decide +kernel
theorem dX9_kinds_19 : decode cX9_kinds 19 = .ok (.aload_n 0, 1) := by decide +kernel
theorem dX9_kinds_20 : decode cX9_kinds 20 = .ok (.getfield 52, 3) := by decide +kernel
theorem dX9_kinds_23 : decode cX9_kinds 23 = .ok (.aload_n 0, 1) := by decide +kernel
theorem dX9_kinds_24 : decode cX9_kinds 24 = .ok (.getfield 28, 3) := by decide +kernel
theorem dX9_kinds_27 : decode cX9_kinds 27 = .ok (.iload_n 1, 1) := by decide +kernel
theorem dX9_kinds_28 : decode cX9_kinds 28 = .ok (.iload_n 3, 1) := by decide +kernel
theorem dX9_kinds_29 : decode cX9_kinds 29 = .ok (.aload_n 0, 1) := by decide +kernel
theorem dX9_kinds_30 : decode cX9_kinds 30 = .ok (.getfield 28, 3) := by decide +kernel
theorem dX9_kinds_33 : decode cX9_kinds 33 = .ok (.getfield 140, 3) := by decide +kernel
theorem dX9_kinds_36 : decode cX9_kinds 36 = .ok (.iload_n 1, 1) := by decide +kernel
theorem dX9_kinds_37 : decode cX9_kinds 37 = .ok (.iaload, 1) := by decide +kernel
theorem dX9_kinds_38 : decode cX9_kinds 38 = .ok (.invokevirtual 249, 3) := by decide +kernel
theorem dX9_kinds_41 : decode cX9_kinds 41 = .ok (.ifCond .eq 9, 3) := by decide +kernel
theorem dX9_kinds_44 : decode cX9_kinds 44 = .ok (.iload_n 2, 1) := by decide +kernel
theorem dX9_kinds_45 : decode cX9_kinds 45 = .ok (.iconst 1, 1) := by decide +kernel
theorem dX9_kinds_46 : decode cX9_kinds 46 = .ok (.iload_n 3, 1) := by decide +kernel
theorem dX9_kinds_47 : decode cX9_kinds 47 = .ok (.ishl, 1) := by decide +kernel
theorem dX9_kinds_48 : decode cX9_kinds 48 = .ok (.ior, 1) := by decide +kernel
theorem dX9_kinds_49 : decode cX9_kinds 49 = .ok (.istore_n 2, 1) := by decide +kernel
theorem dX9_kinds_50 : decode cX9_kinds 50 = .ok (.iinc 3 1, 3) := by decide +kernel
theorem dX9_kinds_53 : decode cX9_kinds 53 = .ok (.goto (-39), 3) := by decide +kernel
theorem dX9_kinds_56 : decode cX9_kinds 56 = .ok (.iload_n 2, 1) := by decide +kernel
theorem dX9_kinds_57 : decode cX9_kinds 57 = .ok (.ireturn, 1) := by decide +kernel
theorem dX9_likely_0 : decode cX9_likely 0 = .ok (.iload_n 1, 1) := by decide +kernel
theorem dX9_likely_1 : decode cX9_likely 1 = .ok (.iconst 0, 1) := by decide +kernel
theorem dX9_likely_2 : decode cX9_likely 2 = .ok (.iconst 5, 1) := by decide +kernel
theorem dX9_likely_3 : decode cX9_likely 3 = .ok (.invokestatic 112, 3) := by decide +kernel
theorem dX9_likely_6 : decode cX9_likely 6 = .ok (.ifCond .eq 22, 3) := by decide +kernel
theorem dX9_likely_9 : decode cX9_likely 9 = .ok (.iload_n 2, 1) := by decide +kernel
theorem dX9_likely_10 : decode cX9_likely 10 = .ok (.iconst 0, 1) := by decide +kernel
theorem dX9_likely_11 : decode cX9_likely 11 = .ok (.bipush 10, 2) := by decide +kernel
theorem dX9_likely_13 : decode cX9_likely 13 = .ok (.invokestatic 112, 3) := by decide +kernel
theorem dX9_likely_16 : decode cX9_likely 16 = .ok (.ifCond .eq 12, 3) := by decide +kernel
theorem dX9_likely_19 : decode cX9_likely 19 = .ok (.iload_n 3, 1) := by decide +kernel
theorem dX9_likely_20 : decode cX9_likely 20 = .ok (.iconst 0, 1) := by decide +kernel
theorem dX9_likely_21 : decode cX9_likely 21 = .ok (.iconst 1, 1) := by decide +kernel
theorem dX9_likely_22 : decode cX9_likely 22 = .ok (.invokestatic 112, 3) := by decide +kernel
theorem dX9_likely_25 : decode cX9_likely 25 = .ok (.ifCond .ne 5, 3) := by decide +kernel
theorem dX9_likely_28 : decode cX9_likely 28 = .ok (.iconst (-1), 1) := by decide +kernel
theorem dX9_likely_29 : decode cX9_likely 29 = .ok (.ireturn, 1) := by decide +kernel
theorem dX9_likely_30 : decode cX9_likely 30 = .ok (.aload_n 0, 1) := by decide +kernel
theorem dX9_likely_31 : decode cX9_likely 31 = .ok (.getfield 28, 3) := by decide +kernel
theorem dX9_likely_34 : decode cX9_likely 34 = .ok (.invokevirtual 253, 3) := by decide +kernel
theorem dX9_likely_37 : decode cX9_likely 37 = .ok (.istore 4, 2) := by decide +kernel
theorem dX9_likely_39 : decode cX9_likely 39 = .ok (.iconst 0, 1) := by decide +kernel
theorem dX9_likely_40 : decode cX9_likely 40 = .ok (.istore 5, 2) := by decide +kernel
theorem dX9_likely_42 : decode cX9_likely 42 = .ok (.iconst 0, 1) := by decide +kernel
theorem dX9_likely_43 : decode cX9_likely 43 = .ok (.istore 6, 2) := by decide +kernel
theorem dX9_likely_45 : decode cX9_likely 45 = .ok (.iload 6, 2) := by decide +kernel
theorem dX9_likely_47 : decode cX9_likely 47 = .ok (.bipush 64, 2) := by decide +kernel
theorem dX9_likely_49 : decode cX9_likely 49 = .ok (.if_icmp .ge 42, 3) := by decide +kernel
theorem dX9_likely_52 : decode cX9_likely 52 = .ok (.iload 6, 2) := by decide +kernel
theorem dX9_likely_54 : decode cX9_likely 54 = .ok (.iload 4, 2) := by decide +kernel
theorem dX9_likely_56 : decode cX9_likely 56 = .ok (.iconst (-1), 1) := by decide +kernel
theorem dX9_likely_57 : decode cX9_likely 57 = .ok (.ixor, 1) := by decide +kernel
theorem dX9_likely_58 : decode cX9_likely 58 = .ok (.iand, 1) := by decide +kernel
theorem dX9_likely_59 : decode cX9_likely 59 = .ok (.ifCond .ne 26, 3) := by decide +kernel
theorem dX9_likely_62 : decode cX9_likely 62 = .ok (.aload_n 0, 1) := by decide +kernel
theorem dX9_likely_63 : decode cX9_likely 63 = .ok (.iload 6, 2) := by decide +kernel
theorem dX9_likely_65 : decode cX9_likely 65 = .ok (.invokevirtual 256, 3) := by decide +kernel
theorem dX9_likely_68 : decode cX9_likely 68 = .ok (.iload_n 1, 1) := by decide +kernel
theorem dX9_likely_69 : decode cX9_likely 69 = .ok (.if_icmp .lt 16, 3) := by decide +kernel
theorem dX9_likely_72 : decode cX9_likely 72 = .ok (.iload 5, 2) := by decide +kernel
theorem dX9_likely_74 : decode cX9_likely 74 = .ok (.iload 4, 2) := by decide +kernel
theorem dX9_likely_76 : decode cX9_likely 76 = .ok (.iload 6, 2) := by decide +kernel
theorem dX9_likely_78 : decode cX9_likely 78 = .ok (.iload_n 2, 1) := by decide +kernel
theorem dX9_likely_79 : decode cX9_likely 79 = .ok (.invokestatic 260, 3) := by decide +kernel
theorem dX9_likely_82 : decode cX9_likely 82 = .ok (.iadd, 1) := by decide +kernel
theorem dX9_likely_83 : decode cX9_likely 83 = .ok (.istore 5, 2) := by decide +kernel
theorem dX9_likely_85 : decode cX9_likely 85 = .ok (.iinc 6 1, 3) := by decide +kernel
theorem dX9_likely_88 : decode cX9_likely 88 = .ok (.goto (-43), 3) := by decide +kernel
theorem dX9_likely_91 : decode cX9_likely 91 = .ok (.bipush 10, 2) := by decide +kernel
theorem dX9_likely_93 : decode cX9_likely 93 = .ok (.iload 4, 2) := by decide +kernel
theorem dX9_likely_95 : decode cX9_likely 95 = .ok (.invokestatic 264, 3) := by decide +kernel
theorem dX9_likely_98 : decode cX9_likely 98 = .ok (.invokestatic 269, 3) := by decide +kernel
theorem dX9_likely_101 : decode cX9_likely 101 = .ok (.istore 6, 2) := by decide +kernel
theorem dX9_likely_103 : decode cX9_likely 103 = .ok (.iload 5, 2) := by decide +kernel
theorem dX9_likely_105 : decode cX9_likely 105 = .ok (.iload 6, 2) := by decide +kernel
theorem dX9_likely_107 : decode cX9_likely 107 = .ok (.invokestatic 272, 3) := by decide +kernel
theorem dX9_likely_110 : decode cX9_likely 110 = .ok (.istore 7, 2) := by decide +kernel
theorem dX9_likely_112 : decode cX9_likely 112 = .ok (.iload 7, 2) := by decide +kernel
theorem dX9_likely_114 : decode cX9_likely 114 = .ok (.iconst 1, 1) := by decide +kernel
theorem dX9_likely_115 : decode cX9_likely 115 = .ok (.if_icmp .ge 5, 3) := by decide +kernel
theorem dX9_likely_118 : decode cX9_likely 118 = .ok (.iconst (-1), 1) := by decide +kernel
theorem dX9_likely_119 : decode cX9_likely 119 = .ok (.ireturn, 1) := by decide +kernel
theorem dX9_likely_120 : decode cX9_likely 120 = .ok (.iload_n 3, 1) := by decide +kernel
theorem dX9_likely_121 : decode cX9_likely 121 = .ok (.ifCond .ne 11, 3) := by decide +kernel
theorem dX9_likely_124 : decode cX9_likely 124 = .ok (.iload 5, 2) := by decide +kernel
theorem dX9_likely_126 : decode cX9_likely 126 = .ok (.iload 7, 2) := by decide +kernel
theorem dX9_likely_128 : decode cX9_likely 128 = .ok (.idiv, 1) := by decide +kernel
theorem dX9_likely_129 : decode cX9_likely 129 = .ok (.goto 8, 3) := by decide +kernel
theorem dX9_likely_132 : decode cX9_likely 132 = .ok (.iload 6, 2) := by decide +kernel
theorem dX9_likely_134 : decode cX9_likely 134 = .ok (.iload 7, 2) := by decide +kernel
end
section
theorem dX9_likely_136 : decode cX9_likely 136 = .ok (.idiv, 1) := by decide +kernel
theorem dX9_likely_137 : decode cX9_likely 137 = .ok (.ireturn, 1) := by decide +kernel
theorem dX9_decade_0 : decode cX9_decade 0 = .ok (.iload_n 1, 1) := by decide +kernel
theorem dX9_decade_1 : decode cX9_decade 1 = .ok (.iconst 0, 1) := by decide +kernel
theorem dX9_decade_2 : decode cX9_decade 2 = .ok (.sipush 9999, 3) := by decide +kernel
theorem dX9_decade_5 : decode cX9_decade 5 = .ok (.invokestatic 112, 3) := by decide +kernel
theorem dX9_decade_8 : decode cX9_decade 8 = .ok (.ifCond .eq 22, 3) := by decide +kernel
theorem dX9_decade_11 : decode cX9_decade 11 = .ok (.iload_n 2, 1) := by decide +kernel
theorem dX9_decade_12 : decode cX9_decade 12 = .ok (.iconst 1, 1) := by decide +kernel
theorem dX9_decade_13 : decode cX9_decade 13 = .ok (.bipush 60, 2) := by decide +kernel
theorem dX9_decade_15 : decode cX9_decade 15 = .ok (.invokestatic 112, 3) := by decide +kernel
theorem dX9_decade_18 : decode cX9_decade 18 = .ok (.ifCond .eq 12, 3) := by decide +kernel
theorem dX9_decade_21 : decode cX9_decade 21 = .ok (.iload_n 3, 1) := by decide +kernel
theorem dX9_decade_22 : decode cX9_decade 22 = .ok (.iconst 0, 1) := by decide +kernel
theorem dX9_decade_23 : decode cX9_decade 23 = .ok (.iconst 2, 1) := by decide +kernel
theorem dX9_decade_24 : decode cX9_decade 24 = .ok (.invokestatic 112, 3) := by decide +kernel
theorem dX9_decade_27 : decode cX9_decade 27 = .ok (.ifCond .ne 5, 3) := by decide +kernel
theorem dX9_decade_30 : decode cX9_decade 30 = .ok (.iconst (-1), 1) := by decide +kernel
theorem dX9_decade_31 : decode cX9_decade 31 = .ok (.ireturn, 1) := by decide +kernel
theorem dX9_decade_32 : decode cX9_decade 32 = .ok (.aload_n 0, 1) := by decide +kernel
theorem dX9_decade_33 : decode cX9_decade 33 = .ok (.getfield 31, 3) := by decide +kernel
theorem dX9_decade_36 : decode cX9_decade 36 = .ok (.aload_n 0, 1) := by decide +kernel
theorem dX9_decade_37 : decode cX9_decade 37 = .ok (.getfield 28, 3) := by decide +kernel
theorem dX9_decade_40 : decode cX9_decade 40 = .ok (.invokevirtual 210, 3) := by decide +kernel
theorem dX9_decade_43 : decode cX9_decade 43 = .ok (.iconst 0, 1) := by decide +kernel
theorem dX9_decade_44 : decode cX9_decade 44 = .ok (.istore 4, 2) := by decide +kernel
theorem dX9_decade_46 : decode cX9_decade 46 = .ok (.iload 4, 2) := by decide +kernel
theorem dX9_decade_48 : decode cX9_decade 48 = .ok (.iload_n 2, 1) := by decide +kernel
theorem dX9_decade_49 : decode cX9_decade 49 = .ok (.if_icmp .ge 29, 3) := by decide +kernel
theorem dX9_decade_52 : decode cX9_decade 52 = .ok (.aload_n 0, 1) := by decide +kernel
theorem dX9_decade_53 : decode cX9_decade 53 = .ok (.getfield 31, 3) := by decide +kernel
theorem dX9_decade_56 : decode cX9_decade 56 = .ok (.iload_n 1, 1) := by decide +kernel
theorem dX9_decade_57 : decode cX9_decade 57 = .ok (.iload 4, 2) := by decide +kernel
theorem dX9_decade_59 : decode cX9_decade 59 = .ok (.invokestatic 275, 3) := by decide +kernel
theorem dX9_decade_62 : decode cX9_decade 62 = .ok (.invokevirtual 278, 3) := by decide +kernel
theorem dX9_decade_65 : decode cX9_decade 65 = .ok (.aload_n 0, 1) := by decide +kernel
theorem dX9_decade_66 : decode cX9_decade 66 = .ok (.getfield 31, 3) := by decide +kernel
theorem dX9_decade_69 : decode cX9_decade 69 = .ok (.invokevirtual 281, 3) := by decide +kernel
theorem dX9_decade_72 : decode cX9_decade 72 = .ok (.iinc 4 1, 3) := by decide +kernel
theorem dX9_decade_75 : decode cX9_decade 75 = .ok (.goto (-29), 3) := by decide +kernel
theorem dX9_decade_78 : decode cX9_decade 78 = .ok (.iload_n 3, 1) := by decide +kernel
theorem dX9_decade_79 : decode cX9_decade 79 = .ok (.lookupswitch 41 #[(0, 25), (1, 33)], 25) := by decide +kernel
theorem dX9_decade_104 : decode cX9_decade 104 = .ok (.aload_n 0, 1) := by decide +kernel
theorem dX9_decade_105 : decode cX9_decade 105 = .ok (.getfield 31, 3) := by decide +kernel
theorem dX9_decade_108 : decode cX9_decade 108 = .ok (.invokevirtual 284, 3) := by decide +kernel
theorem dX9_decade_111 : decode cX9_decade 111 = .ok (.ireturn, 1) := by decide +kernel
theorem dX9_decade_112 : decode cX9_decade 112 = .ok (.aload_n 0, 1) := by decide +kernel
theorem dX9_decade_113 : decode cX9_decade 113 = .ok (.getfield 31, 3) := by decide +kernel
theorem dX9_decade_116 : decode cX9_decade 116 = .ok (.invokevirtual 287, 3) := by decide +kernel
theorem dX9_decade_119 : decode cX9_decade 119 = .ok (.ireturn, 1) := by decide +kernel
theorem dX9_decade_120 : decode cX9_decade 120 = .ok (.aload_n 0, 1) := by decide +kernel
theorem dX9_decade_121 : decode cX9_decade 121 = .ok (.getfield 31, 3) := by decide +kernel
theorem dX9_decade_124 : decode cX9_decade 124 = .ok (.invokevirtual 290, 3) := by decide +kernel
theorem dX9_decade_127 : decode cX9_decade 127 = .ok (.ireturn, 1) := by decide +kernel
theorem dX9_keep_0 : decode cX9_keep 0 = .ok (.aload_n 0, 1) := by decide +kernel
theorem dX9_keep_1 : decode cX9_keep 1 = .ok (.getfield 293, 3) := by decide +kernel
theorem dX9_keep_4 : decode cX9_keep 4 = .ok (.iconst 2, 1) := by decide +kernel
theorem dX9_keep_5 : decode cX9_keep 5 = .ok (.if_icmp .lt 6, 3) := by decide +kernel
theorem dX9_keep_8 : decode cX9_keep 8 = .ok (.bipush (-3), 2) := by decide +kernel
theorem dX9_keep_10 : decode cX9_keep 10 = .ok (.ireturn, 1) := by decide +kernel
theorem dX9_keep_11 : decode cX9_keep 11 = .ok (.aload_n 0, 1) := by decide +kernel
theorem dX9_keep_12 : decode cX9_keep 12 = .ok (.getfield 45, 3) := by decide +kernel
theorem dX9_keep_15 : decode cX9_keep 15 = .ok (.aload_n 0, 1) := by decide +kernel
theorem dX9_keep_16 : decode cX9_keep 16 = .ok (.getfield 293, 3) := by decide +kernel
theorem dX9_keep_19 : decode cX9_keep 19 = .ok (.aaload, 1) := by decide +kernel
theorem dX9_keep_20 : decode cX9_keep 20 = .ok (.aload_n 0, 1) := by decide +kernel
theorem dX9_keep_21 : decode cX9_keep 21 = .ok (.getfield 28, 3) := by decide +kernel
theorem dX9_keep_24 : decode cX9_keep 24 = .ok (.invokevirtual 210, 3) := by decide +kernel
theorem dX9_keep_27 : decode cX9_keep 27 = .ok (.aload_n 0, 1) := by decide +kernel
theorem dX9_keep_28 : decode cX9_keep 28 = .ok (.dup, 1) := by decide +kernel
theorem dX9_keep_29 : decode cX9_keep 29 = .ok (.getfield 293, 3) := by decide +kernel
theorem dX9_keep_32 : decode cX9_keep 32 = .ok (.iconst 1, 1) := by decide +kernel
theorem dX9_keep_33 : decode cX9_keep 33 = .ok (.iadd, 1) := by decide +kernel
theorem dX9_keep_34 : decode cX9_keep 34 = .ok (.putfield 293, 3) := by decide +kernel
theorem dX9_keep_37 : decode cX9_keep 37 = .ok (.aload_n 0, 1) := by decide +kernel
theorem dX9_keep_38 : decode cX9_keep 38 = .ok (.getfield 293, 3) := by decide +kernel
theorem dX9_keep_41 : decode cX9_keep 41 = .ok (.ireturn, 1) := by decide +kernel
theorem dX9_back_0 : decode cX9_back 0 = .ok (.aload_n 0, 1) := by decide +kernel
theorem dX9_back_1 : decode cX9_back 1 = .ok (.getfield 293, 3) := by decide +kernel
theorem dX9_back_4 : decode cX9_back 4 = .ok (.ifCond .gt 6, 3) := by decide +kernel
theorem dX9_back_7 : decode cX9_back 7 = .ok (.bipush (-2), 2) := by decide +kernel
theorem dX9_back_9 : decode cX9_back 9 = .ok (.ireturn, 1) := by decide +kernel
theorem dX9_back_10 : decode cX9_back 10 = .ok (.aload_n 0, 1) := by decide +kernel
theorem dX9_back_11 : decode cX9_back 11 = .ok (.dup, 1) := by decide +kernel
theorem dX9_back_12 : decode cX9_back 12 = .ok (.getfield 293, 3) := by decide +kernel
theorem dX9_back_15 : decode cX9_back 15 = .ok (.iconst 1, 1) := by decide +kernel
theorem dX9_back_16 : decode cX9_back 16 = .ok (.isub, 1) := by decide +kernel
theorem dX9_back_17 : decode cX9_back 17 = .ok (.putfield 293, 3) := by decide +kernel
theorem dX9_back_20 : decode cX9_back 20 = .ok (.aload_n 0, 1) := by decide +kernel
theorem dX9_back_21 : decode cX9_back 21 = .ok (.getfield 28, 3) := by decide +kernel
theorem dX9_back_24 : decode cX9_back 24 = .ok (.aload_n 0, 1) := by decide +kernel
theorem dX9_back_25 : decode cX9_back 25 = .ok (.getfield 45, 3) := by decide +kernel
theorem dX9_back_28 : decode cX9_back 28 = .ok (.aload_n 0, 1) := by decide +kernel
theorem dX9_back_29 : decode cX9_back 29 = .ok (.getfield 293, 3) := by decide +kernel
theorem dX9_back_32 : decode cX9_back 32 = .ok (.aaload, 1) := by decide +kernel
theorem dX9_back_33 : decode cX9_back 33 = .ok (.invokevirtual 210, 3) := by decide +kernel
theorem dX9_back_36 : decode cX9_back 36 = .ok (.aload_n 0, 1) := by decide +kernel
theorem dX9_back_37 : decode cX9_back 37 = .ok (.getfield 37, 3) := by decide +kernel
theorem dX9_back_40 : decode cX9_back 40 = .ok (.invokevirtual 296, 3) := by decide +kernel
theorem dX9_back_43 : decode cX9_back 43 = .ok (.aload_n 0, 1) := by decide +kernel
theorem dX9_back_44 : decode cX9_back 44 = .ok (.getfield 293, 3) := by decide +kernel
theorem dX9_back_47 : decode cX9_back 47 = .ok (.ireturn, 1) := by decide +kernel
theorem dX9_count_0 : decode cX9_count 0 = .ok (.iload_n 1, 1) := by decide +kernel
theorem dX9_count_1 : decode cX9_count 1 = .ok (.tableswitch 156 0 10 #[59, 70, 81, 92, 100, 108, 119, 127, 135, 143, 148], 59) := by decide +kernel
theorem dX9_count_60 : decode cX9_count 60 = .ok (.aload_n 0, 1) := by decide +kernel
theorem dX9_count_61 : decode cX9_count 61 = .ok (.getfield 28, 3) := by decide +kernel
theorem dX9_count_64 : decode cX9_count 64 = .ok (.getfield 119, 3) := by decide +kernel
theorem dX9_count_67 : decode cX9_count 67 = .ok (.getfield 297, 3) := by decide +kernel
theorem dX9_count_70 : decode cX9_count 70 = .ok (.ireturn, 1) := by decide +kernel
theorem dX9_count_71 : decode cX9_count 71 = .ok (.aload_n 0, 1) := by decide +kernel
theorem dX9_count_72 : decode cX9_count 72 = .ok (.getfield 28, 3) := by decide +kernel
theorem dX9_count_75 : decode cX9_count 75 = .ok (.getfield 119, 3) := by decide +kernel
theorem dX9_count_78 : decode cX9_count 78 = .ok (.getfield 123, 3) := by decide +kernel
theorem dX9_count_81 : decode cX9_count 81 = .ok (.ireturn, 1) := by decide +kernel
theorem dX9_count_82 : decode cX9_count 82 = .ok (.aload_n 0, 1) := by decide +kernel
theorem dX9_count_83 : decode cX9_count 83 = .ok (.getfield 28, 3) := by decide +kernel
theorem dX9_count_86 : decode cX9_count 86 = .ok (.getfield 119, 3) := by decide +kernel
theorem dX9_count_89 : decode cX9_count 89 = .ok (.getfield 164, 3) := by decide +kernel
theorem dX9_count_92 : decode cX9_count 92 = .ok (.ireturn, 1) := by decide +kernel
theorem dX9_count_93 : decode cX9_count 93 = .ok (.aload_n 0, 1) := by decide +kernel
theorem dX9_count_94 : decode cX9_count 94 = .ok (.getfield 28, 3) := by decide +kernel
theorem dX9_count_97 : decode cX9_count 97 = .ok (.getfield 180, 3) := by decide +kernel
theorem dX9_count_100 : decode cX9_count 100 = .ok (.ireturn, 1) := by decide +kernel
theorem dX9_count_101 : decode cX9_count 101 = .ok (.aload_n 0, 1) := by decide +kernel
theorem dX9_count_102 : decode cX9_count 102 = .ok (.getfield 28, 3) := by decide +kernel
theorem dX9_count_105 : decode cX9_count 105 = .ok (.invokevirtual 284, 3) := by decide +kernel
theorem dX9_count_108 : decode cX9_count 108 = .ok (.ireturn, 1) := by decide +kernel
theorem dX9_count_109 : decode cX9_count 109 = .ok (.aload_n 0, 1) := by decide +kernel
theorem dX9_count_110 : decode cX9_count 110 = .ok (.getfield 28, 3) := by decide +kernel
theorem dX9_count_113 : decode cX9_count 113 = .ok (.invokevirtual 253, 3) := by decide +kernel
theorem dX9_count_116 : decode cX9_count 116 = .ok (.invokestatic 264, 3) := by decide +kernel
theorem dX9_count_119 : decode cX9_count 119 = .ok (.ireturn, 1) := by decide +kernel
theorem dX9_count_120 : decode cX9_count 120 = .ok (.aload_n 0, 1) := by decide +kernel
theorem dX9_count_121 : decode cX9_count 121 = .ok (.getfield 28, 3) := by decide +kernel
theorem dX9_count_124 : decode cX9_count 124 = .ok (.invokevirtual 287, 3) := by decide +kernel
theorem dX9_count_127 : decode cX9_count 127 = .ok (.ireturn, 1) := by decide +kernel
theorem dX9_count_128 : decode cX9_count 128 = .ok (.aload_n 0, 1) := by decide +kernel
theorem dX9_count_129 : decode cX9_count 129 = .ok (.getfield 52, 3) := by decide +kernel
theorem dX9_count_132 : decode cX9_count 132 = .ok (.getfield 247, 3) := by decide +kernel
theorem dX9_count_135 : decode cX9_count 135 = .ok (.ireturn, 1) := by decide +kernel
theorem dX9_count_136 : decode cX9_count 136 = .ok (.aload_n 0, 1) := by decide +kernel
theorem dX9_count_137 : decode cX9_count 137 = .ok (.getfield 37, 3) := by decide +kernel
theorem dX9_count_140 : decode cX9_count 140 = .ok (.getfield 204, 3) := by decide +kernel
theorem dX9_count_143 : decode cX9_count 143 = .ok (.ireturn, 1) := by decide +kernel
theorem dX9_count_144 : decode cX9_count 144 = .ok (.aload_n 0, 1) := by decide +kernel
theorem dX9_count_145 : decode cX9_count 145 = .ok (.getfield 293, 3) := by decide +kernel
theorem dX9_count_148 : decode cX9_count 148 = .ok (.ireturn, 1) := by decide +kernel
theorem dX9_count_149 : decode cX9_count 149 = .ok (.aload_n 0, 1) := by decide +kernel
theorem dX9_count_150 : decode cX9_count 150 = .ok (.getfield 10, 3) := by decide +kernel
theorem dX9_count_153 : decode cX9_count 153 = .ok (.getfield 116, 3) := by decide +kernel
theorem dX9_count_156 : decode cX9_count 156 = .ok (.ireturn, 1) := by decide +kernel
theorem dX9_count_157 : decode cX9_count 157 = .ok (.iconst (-1), 1) := by decide +kernel
theorem dX9_count_158 : decode cX9_count 158 = .ok (.ireturn, 1) := by decide +kernel
theorem dX9_isPerson_0 : decode cX9_isPerson 0 = .ok (.iload_n 1, 1) := by decide +kernel
theorem dX9_isPerson_1 : decode cX9_isPerson 1 = .ok (.iconst 0, 1) := by decide +kernel
theorem dX9_isPerson_2 : decode cX9_isPerson 2 = .ok (.aload_n 0, 1) := by decide +kernel
theorem dX9_isPerson_3 : decode cX9_isPerson 3 = .ok (.getfield 28, 3) := by decide +kernel
theorem dX9_isPerson_6 : decode cX9_isPerson 6 = .ok (.getfield 119, 3) := by decide +kernel
theorem dX9_isPerson_9 : decode cX9_isPerson 9 = .ok (.getfield 123, 3) := by decide +kernel
theorem dX9_isPerson_12 : decode cX9_isPerson 12 = .ok (.iconst 1, 1) := by decide +kernel
theorem dX9_isPerson_13 : decode cX9_isPerson 13 = .ok (.isub, 1) := by decide +kernel
theorem dX9_isPerson_14 : decode cX9_isPerson 14 = .ok (.invokestatic 112, 3) := by decide +kernel
theorem dX9_isPerson_17 : decode cX9_isPerson 17 = .ok (.ireturn, 1) := by decide +kernel
theorem dX9_isStep_0 : decode cX9_isStep 0 = .ok (.iload_n 1, 1) := by decide +kernel
theorem dX9_isStep_1 : decode cX9_isStep 1 = .ok (.iconst 0, 1) := by decide +kernel
theorem dX9_isStep_2 : decode cX9_isStep 2 = .ok (.aload_n 0, 1) := by decide +kernel
theorem dX9_isStep_3 : decode cX9_isStep 3 = .ok (.getfield 28, 3) := by decide +kernel
theorem dX9_isStep_6 : decode cX9_isStep 6 = .ok (.getfield 119, 3) := by decide +kernel
theorem dX9_isStep_9 : decode cX9_isStep 9 = .ok (.getfield 297, 3) := by decide +kernel
theorem dX9_isStep_12 : decode cX9_isStep 12 = .ok (.iconst 1, 1) := by decide +kernel
theorem dX9_isStep_13 : decode cX9_isStep 13 = .ok (.isub, 1) := by decide +kernel
theorem dX9_isStep_14 : decode cX9_isStep 14 = .ok (.invokestatic 112, 3) := by decide +kernel
theorem dX9_isStep_17 : decode cX9_isStep 17 = .ok (.ireturn, 1) := by decide +kernel
theorem dX9_takeDraft_0 : decode cX9_takeDraft 0 = .ok (.aload_n 0, 1) := by decide +kernel
theorem dX9_takeDraft_1 : decode cX9_takeDraft 1 = .ok (.getfield 28, 3) := by decide +kernel
theorem dX9_takeDraft_4 : decode cX9_takeDraft 4 = .ok (.getfield 119, 3) := by decide +kernel
theorem dX9_takeDraft_7 : decode cX9_takeDraft 7 = .ok (.aload_n 0, 1) := by decide +kernel
theorem dX9_takeDraft_8 : decode cX9_takeDraft 8 = .ok (.getfield 24, 3) := by decide +kernel
theorem dX9_takeDraft_11 : decode cX9_takeDraft 11 = .ok (.getfield 119, 3) := by decide +kernel
theorem dX9_takeDraft_14 : decode cX9_takeDraft 14 = .ok (.invokevirtual 300, 3) := by decide +kernel
theorem dX9_takeDraft_17 : decode cX9_takeDraft 17 = .ok (.aload_n 0, 1) := by decide +kernel
theorem dX9_takeDraft_18 : decode cX9_takeDraft 18 = .ok (.getfield 28, 3) := by decide +kernel
theorem dX9_takeDraft_21 : decode cX9_takeDraft 21 = .ok (.aload_n 0, 1) := by decide +kernel
theorem dX9_takeDraft_22 : decode cX9_takeDraft 22 = .ok (.getfield 24, 3) := by decide +kernel
theorem dX9_takeDraft_25 : decode cX9_takeDraft 25 = .ok (.invokevirtual 210, 3) := by decide +kernel
theorem dX9_takeDraft_28 : decode cX9_takeDraft 28 = .ok (.aload_n 0, 1) := by decide +kernel
theorem dX9_takeDraft_29 : decode cX9_takeDraft 29 = .ok (.getfield 37, 3) := by decide +kernel
theorem dX9_takeDraft_32 : decode cX9_takeDraft 32 = .ok (.invokevirtual 296, 3) := by decide +kernel
theorem dX9_takeDraft_35 : decode cX9_takeDraft 35 = .ok (.aload_n 0, 1) := by decide +kernel
theorem dX9_takeDraft_36 : decode cX9_takeDraft 36 = .ok (.getfield 52, 3) := by decide +kernel
theorem dX9_takeDraft_39 : decode cX9_takeDraft 39 = .ok (.invokevirtual 248, 3) := by decide +kernel
theorem dX9_takeDraft_42 : decode cX9_takeDraft 42 = .ok (.aload_n 0, 1) := by decide +kernel
theorem dX9_takeDraft_43 : decode cX9_takeDraft 43 = .ok (.iconst 0, 1) := by decide +kernel
theorem dX9_takeDraft_44 : decode cX9_takeDraft 44 = .ok (.putfield 293, 3) := by decide +kernel
theorem dX9_takeDraft_47 : decode cX9_takeDraft 47 = .ok (.return_, 1) := by decide +kernel
theorem dX9_doneIfTheseFall_0 : decode cX9_doneIfTheseFall 0 = .ok (.aload_n 0, 1) := by decide +kernel
theorem dX9_doneIfTheseFall_1 : decode cX9_doneIfTheseFall 1 = .ok (.getfield 31, 3) := by decide +kernel
theorem dX9_doneIfTheseFall_4 : decode cX9_doneIfTheseFall 4 = .ok (.aload_n 0, 1) := by decide +kernel
theorem dX9_doneIfTheseFall_5 : decode cX9_doneIfTheseFall 5 = .ok (.getfield 28, 3) := by decide +kernel
theorem dX9_doneIfTheseFall_8 : decode cX9_doneIfTheseFall 8 = .ok (.invokevirtual 210, 3) := by decide +kernel
theorem dX9_doneIfTheseFall_11 : decode cX9_doneIfTheseFall 11 = .ok (.iconst 0, 1) := by decide +kernel
theorem dX9_doneIfTheseFall_12 : decode cX9_doneIfTheseFall 12 = .ok (.istore_n 2, 1) := by decide +kernel
theorem dX9_doneIfTheseFall_13 : decode cX9_doneIfTheseFall 13 = .ok (.iload_n 2, 1) := by decide +kernel
theorem dX9_doneIfTheseFall_14 : decode cX9_doneIfTheseFall 14 = .ok (.aload_n 0, 1) := by decide +kernel
theorem dX9_doneIfTheseFall_15 : decode cX9_doneIfTheseFall 15 = .ok (.getfield 31, 3) := by decide +kernel
theorem dX9_doneIfTheseFall_18 : decode cX9_doneIfTheseFall 18 = .ok (.getfield 119, 3) := by decide +kernel
theorem dX9_doneIfTheseFall_21 : decode cX9_doneIfTheseFall 21 = .ok (.getfield 123, 3) := by decide +kernel
theorem dX9_doneIfTheseFall_24 : decode cX9_doneIfTheseFall 24 = .ok (.if_icmp .ge 27, 3) := by decide +kernel
theorem dX9_doneIfTheseFall_27 : decode cX9_doneIfTheseFall 27 = .ok (.iload_n 1, 1) := by decide +kernel
theorem dX9_doneIfTheseFall_28 : decode cX9_doneIfTheseFall 28 = .ok (.iload_n 2, 1) := by decide +kernel
theorem dX9_doneIfTheseFall_29 : decode cX9_doneIfTheseFall 29 = .ok (.invokestatic 303, 3) := by decide +kernel
theorem dX9_doneIfTheseFall_32 : decode cX9_doneIfTheseFall 32 = .ok (.ifCond .eq 13, 3) := by decide +kernel
theorem dX9_doneIfTheseFall_35 : decode cX9_doneIfTheseFall 35 = .ok (.aload_n 0, 1) := by decide +kernel
theorem dX9_doneIfTheseFall_36 : decode cX9_doneIfTheseFall 36 = .ok (.getfield 31, 3) := by decide +kernel
theorem dX9_doneIfTheseFall_39 : decode cX9_doneIfTheseFall 39 = .ok (.getfield 154, 3) := by decide +kernel
theorem dX9_doneIfTheseFall_42 : decode cX9_doneIfTheseFall 42 = .ok (.iload_n 2, 1) := by decide +kernel
theorem dX9_doneIfTheseFall_43 : decode cX9_doneIfTheseFall 43 = .ok (.iconst 1, 1) := by decide +kernel
theorem dX9_doneIfTheseFall_44 : decode cX9_doneIfTheseFall 44 = .ok (.bastore, 1) := by decide +kernel
theorem dX9_doneIfTheseFall_45 : decode cX9_doneIfTheseFall 45 = .ok (.iinc 2 1, 3) := by decide +kernel
theorem dX9_doneIfTheseFall_48 : decode cX9_doneIfTheseFall 48 = .ok (.goto (-35), 3) := by decide +kernel
theorem dX9_doneIfTheseFall_51 : decode cX9_doneIfTheseFall 51 = .ok (.aload_n 0, 1) := by decide +kernel
theorem dX9_doneIfTheseFall_52 : decode cX9_doneIfTheseFall 52 = .ok (.getfield 31, 3) := by decide +kernel
theorem dX9_doneIfTheseFall_55 : decode cX9_doneIfTheseFall 55 = .ok (.invokevirtual 287, 3) := by decide +kernel
theorem dX9_doneIfTheseFall_58 : decode cX9_doneIfTheseFall 58 = .ok (.ireturn, 1) := by decide +kernel
theorem dX9_waysOfTen_0 : decode cX9_waysOfTen 0 = .ok (.iload_n 1, 1) := by decide +kernel
theorem dX9_waysOfTen_1 : decode cX9_waysOfTen 1 = .ok (.invokestatic 264, 3) := by decide +kernel
theorem dX9_waysOfTen_4 : decode cX9_waysOfTen 4 = .ok (.istore_n 3, 1) := by decide +kernel
theorem dX9_waysOfTen_5 : decode cX9_waysOfTen 5 = .ok (.iload_n 0, 1) := by decide +kernel
theorem dX9_waysOfTen_6 : decode cX9_waysOfTen 6 = .ok (.invokestatic 264, 3) := by decide +kernel
theorem dX9_waysOfTen_9 : decode cX9_waysOfTen 9 = .ok (.iload_n 3, 1) := by decide +kernel
theorem dX9_waysOfTen_10 : decode cX9_waysOfTen 10 = .ok (.isub, 1) := by decide +kernel
theorem dX9_waysOfTen_11 : decode cX9_waysOfTen 11 = .ok (.istore 4, 2) := by decide +kernel
theorem dX9_waysOfTen_13 : decode cX9_waysOfTen 13 = .ok (.iload_n 2, 1) := by decide +kernel
theorem dX9_waysOfTen_14 : decode cX9_waysOfTen 14 = .ok (.iload_n 3, 1) := by decide +kernel
theorem dX9_waysOfTen_15 : decode cX9_waysOfTen 15 = .ok (.invokestatic 269, 3) := by decide +kernel
theorem dX9_waysOfTen_18 : decode cX9_waysOfTen 18 = .ok (.bipush 10, 2) := by decide +kernel
theorem dX9_waysOfTen_20 : decode cX9_waysOfTen 20 = .ok (.iload_n 2, 1) := by decide +kernel
theorem dX9_waysOfTen_21 : decode cX9_waysOfTen 21 = .ok (.isub, 1) := by decide +kernel
theorem dX9_waysOfTen_22 : decode cX9_waysOfTen 22 = .ok (.iload 4, 2) := by decide +kernel
theorem dX9_waysOfTen_24 : decode cX9_waysOfTen 24 = .ok (.invokestatic 269, 3) := by decide +kernel
theorem dX9_waysOfTen_27 : decode cX9_waysOfTen 27 = .ok (.imul, 1) := by decide +kernel
theorem dX9_waysOfTen_28 : decode cX9_waysOfTen 28 = .ok (.ireturn, 1) := by decide +kernel
theorem dX9_power_0 : decode cX9_power 0 = .ok (.iconst 1, 1) := by decide +kernel
theorem dX9_power_1 : decode cX9_power 1 = .ok (.istore_n 2, 1) := by decide +kernel
theorem dX9_power_2 : decode cX9_power 2 = .ok (.iconst 0, 1) := by decide +kernel
theorem dX9_power_3 : decode cX9_power 3 = .ok (.istore_n 3, 1) := by decide +kernel
theorem dX9_power_4 : decode cX9_power 4 = .ok (.iload_n 3, 1) := by decide +kernel
theorem dX9_power_5 : decode cX9_power 5 = .ok (.iload_n 1, 1) := by decide +kernel
theorem dX9_power_6 : decode cX9_power 6 = .ok (.if_icmp .ge 13, 3) := by decide +kernel
theorem dX9_power_9 : decode cX9_power 9 = .ok (.iload_n 2, 1) := by decide +kernel
theorem dX9_power_10 : decode cX9_power 10 = .ok (.iload_n 0, 1) := by decide +kernel
theorem dX9_power_11 : decode cX9_power 11 = .ok (.imul, 1) := by decide +kernel
theorem dX9_power_12 : decode cX9_power 12 = .ok (.istore_n 2, 1) := by decide +kernel
theorem dX9_power_13 : decode cX9_power 13 = .ok (.iinc 3 1, 3) := by decide +kernel
theorem dX9_power_16 : decode cX9_power 16 = .ok (.goto (-12), 3) := by decide +kernel
theorem dX9_power_19 : decode cX9_power 19 = .ok (.iload_n 2, 1) := by decide +kernel
theorem dX9_power_20 : decode cX9_power 20 = .ok (.ireturn, 1) := by decide +kernel
theorem dX9_commonDivisor_0 : decode cX9_commonDivisor 0 = .ok (.iconst 0, 1) := by decide +kernel
theorem dX9_commonDivisor_1 : decode cX9_commonDivisor 1 = .ok (.istore_n 2, 1) := by decide +kernel
theorem dX9_commonDivisor_2 : decode cX9_commonDivisor 2 = .ok (.iload_n 2, 1) := by decide +kernel
theorem dX9_commonDivisor_3 : decode cX9_commonDivisor 3 = .ok (.bipush 100, 2) := by decide +kernel
theorem dX9_commonDivisor_5 : decode cX9_commonDivisor 5 = .ok (.if_icmp .ge 21, 3) := by decide +kernel
theorem dX9_commonDivisor_8 : decode cX9_commonDivisor 8 = .ok (.iload_n 1, 1) := by decide +kernel
theorem dX9_commonDivisor_9 : decode cX9_commonDivisor 9 = .ok (.ifCond .eq 17, 3) := by decide +kernel
theorem dX9_commonDivisor_12 : decode cX9_commonDivisor 12 = .ok (.iload_n 0, 1) := by decide +kernel
theorem dX9_commonDivisor_13 : decode cX9_commonDivisor 13 = .ok (.iload_n 1, 1) := by decide +kernel
theorem dX9_commonDivisor_14 : decode cX9_commonDivisor 14 = .ok (.irem, 1) := by decide +kernel
theorem dX9_commonDivisor_15 : decode cX9_commonDivisor 15 = .ok (.istore_n 3, 1) := by decide +kernel
theorem dX9_commonDivisor_16 : decode cX9_commonDivisor 16 = .ok (.iload_n 1, 1) := by decide +kernel
theorem dX9_commonDivisor_17 : decode cX9_commonDivisor 17 = .ok (.istore_n 0, 1) := by decide +kernel
theorem dX9_commonDivisor_18 : decode cX9_commonDivisor 18 = .ok (.iload_n 3, 1) := by decide +kernel
theorem dX9_commonDivisor_19 : decode cX9_commonDivisor 19 = .ok (.istore_n 1, 1) := by decide +kernel
theorem dX9_commonDivisor_20 : decode cX9_commonDivisor 20 = .ok (.iinc 2 1, 3) := by decide +kernel
theorem dX9_commonDivisor_23 : decode cX9_commonDivisor 23 = .ok (.goto (-21), 3) := by decide +kernel
theorem dX9_commonDivisor_26 : decode cX9_commonDivisor 26 = .ok (.iload_n 0, 1) := by decide +kernel
theorem dX9_commonDivisor_27 : decode cX9_commonDivisor 27 = .ok (.ireturn, 1) := by decide +kernel
theorem dX9_drawOf_0 : decode cX9_drawOf 0 = .ok (.ldc2_w 306, 3) := by decide +kernel
theorem dX9_drawOf_3 : decode cX9_drawOf 3 = .ok (.iload_n 0, 1) := by decide +kernel
theorem dX9_drawOf_4 : decode cX9_drawOf 4 = .ok (.i2l, 1) := by decide +kernel
theorem dX9_drawOf_5 : decode cX9_drawOf 5 = .ok (.lmul, 1) := by decide +kernel
theorem dX9_drawOf_6 : decode cX9_drawOf 6 = .ok (.ldc2_w 308, 3) := by decide +kernel
theorem dX9_drawOf_9 : decode cX9_drawOf 9 = .ok (.iload_n 1, 1) := by decide +kernel
theorem dX9_drawOf_10 : decode cX9_drawOf 10 = .ok (.i2l, 1) := by decide +kernel
theorem dX9_drawOf_11 : decode cX9_drawOf 11 = .ok (.lmul, 1) := by decide +kernel
theorem dX9_drawOf_12 : decode cX9_drawOf 12 = .ok (.ladd, 1) := by decide +kernel
theorem dX9_drawOf_13 : decode cX9_drawOf 13 = .ok (.lconst 1, 1) := by decide +kernel
theorem dX9_drawOf_14 : decode cX9_drawOf 14 = .ok (.ladd, 1) := by decide +kernel
theorem dX9_drawOf_15 : decode cX9_drawOf 15 = .ok (.lstore_n 2, 1) := by decide +kernel
theorem dX9_drawOf_16 : decode cX9_drawOf 16 = .ok (.lload_n 2, 1) := by decide +kernel
theorem dX9_drawOf_17 : decode cX9_drawOf 17 = .ok (.lload_n 2, 1) := by decide +kernel
theorem dX9_drawOf_18 : decode cX9_drawOf 18 = .ok (.lmul, 1) := by decide +kernel
theorem dX9_drawOf_19 : decode cX9_drawOf 19 = .ok (.ldc2_w 310, 3) := by decide +kernel
theorem dX9_drawOf_22 : decode cX9_drawOf 22 = .ok (.lrem, 1) := by decide +kernel
theorem dX9_drawOf_23 : decode cX9_drawOf 23 = .ok (.ldc2_w 312, 3) := by decide +kernel
theorem dX9_drawOf_26 : decode cX9_drawOf 26 = .ok (.ldiv, 1) := by decide +kernel
theorem dX9_drawOf_27 : decode cX9_drawOf 27 = .ok (.l2i, 1) := by decide +kernel
theorem dX9_drawOf_28 : decode cX9_drawOf 28 = .ok (.ireturn, 1) := by decide +kernel
theorem dX9_within_0 : decode cX9_within 0 = .ok (.iload_n 0, 1) := by decide +kernel
theorem dX9_within_1 : decode cX9_within 1 = .ok (.iload_n 1, 1) := by decide +kernel
theorem dX9_within_2 : decode cX9_within 2 = .ok (.if_icmp .lt 12, 3) := by decide +kernel
theorem dX9_within_5 : decode cX9_within 5 = .ok (.iload_n 0, 1) := by decide +kernel
theorem dX9_within_6 : decode cX9_within 6 = .ok (.iload_n 2, 1) := by decide +kernel
theorem dX9_within_7 : decode cX9_within 7 = .ok (.if_icmp .gt 7, 3) := by decide +kernel
theorem dX9_within_10 : decode cX9_within 10 = .ok (.iconst 1, 1) := by decide +kernel
theorem dX9_within_11 : decode cX9_within 11 = .ok (.goto 4, 3) := by decide +kernel
theorem dX9_within_14 : decode cX9_within 14 = .ok (.iconst 0, 1) := by decide +kernel
theorem dX9_within_15 : decode cX9_within 15 = .ok (.ireturn, 1) := by decide +kernel
theorem dX9_asNumber_0 : decode cX9_asNumber 0 = .ok (.iload_n 0, 1) := by decide +kernel
theorem dX9_asNumber_1 : decode cX9_asNumber 1 = .ok (.ifCond .eq 7, 3) := by decide +kernel
theorem dX9_asNumber_4 : decode cX9_asNumber 4 = .ok (.iconst 1, 1) := by decide +kernel
theorem dX9_asNumber_5 : decode cX9_asNumber 5 = .ok (.goto 4, 3) := by decide +kernel
theorem dX9_asNumber_8 : decode cX9_asNumber 8 = .ok (.iconst 0, 1) := by decide +kernel
theorem dX9_asNumber_9 : decode cX9_asNumber 9 = .ok (.ireturn, 1) := by decide +kernel
theorem dX9_hasBit_0 : decode cX9_hasBit 0 = .ok (.iload_n 0, 1) := by decide +kernel
theorem dX9_hasBit_1 : decode cX9_hasBit 1 = .ok (.iload_n 1, 1) := by decide +kernel
theorem dX9_hasBit_2 : decode cX9_hasBit 2 = .ok (.ishr, 1) := by decide +kernel
theorem dX9_hasBit_3 : decode cX9_hasBit 3 = .ok (.iconst 1, 1) := by decide +kernel
theorem dX9_hasBit_4 : decode cX9_hasBit 4 = .ok (.iand, 1) := by decide +kernel
theorem dX9_hasBit_5 : decode cX9_hasBit 5 = .ok (.iconst 1, 1) := by decide +kernel
theorem dX9_hasBit_6 : decode cX9_hasBit 6 = .ok (.if_icmp .ne 7, 3) := by decide +kernel
theorem dX9_hasBit_9 : decode cX9_hasBit 9 = .ok (.iconst 1, 1) := by decide +kernel
theorem dX9_hasBit_10 : decode cX9_hasBit 10 = .ok (.goto 4, 3) := by decide +kernel
theorem dX9_hasBit_13 : decode cX9_hasBit 13 = .ok (.iconst 0, 1) := by decide +kernel
theorem dX9_hasBit_14 : decode cX9_hasBit 14 = .ok (.ireturn, 1) := by decide +kernel
theorem dX9_towersOf_0 : decode cX9_towersOf 0 = .ok (.iload_n 1, 1) := by decide +kernel
theorem dX9_towersOf_1 : decode cX9_towersOf 1 = .ok (.iconst 0, 1) := by decide +kernel
theorem dX9_towersOf_2 : decode cX9_towersOf 2 = .ok (.invokestatic 314, 3) := by decide +kernel
theorem dX9_towersOf_5 : decode cX9_towersOf 5 = .ok (.anewarray 16, 3) := by decide +kernel
theorem dX9_towersOf_8 : decode cX9_towersOf 8 = .ok (.astore_n 2, 1) := by decide +kernel
theorem dX9_towersOf_9 : decode cX9_towersOf 9 = .ok (.iconst 0, 1) := by decide +kernel
theorem dX9_towersOf_10 : decode cX9_towersOf 10 = .ok (.istore_n 3, 1) := by decide +kernel
theorem dX9_towersOf_11 : decode cX9_towersOf 11 = .ok (.iload_n 3, 1) := by decide +kernel
theorem dX9_towersOf_12 : decode cX9_towersOf 12 = .ok (.aload_n 2, 1) := by decide +kernel
theorem dX9_towersOf_13 : decode cX9_towersOf 13 = .ok (.arraylength, 1) := by decide +kernel
theorem dX9_towersOf_14 : decode cX9_towersOf 14 = .ok (.if_icmp .ge 20, 3) := by decide +kernel
theorem dX9_towersOf_17 : decode cX9_towersOf 17 = .ok (.aload_n 2, 1) := by decide +kernel
theorem dX9_towersOf_18 : decode cX9_towersOf 18 = .ok (.iload_n 3, 1) := by decide +kernel
theorem dX9_towersOf_19 : decode cX9_towersOf 19 = .ok (.new 16, 3) := by decide +kernel
theorem dX9_towersOf_22 : decode cX9_towersOf 22 = .ok (.dup, 1) := by decide +kernel
theorem dX9_towersOf_23 : decode cX9_towersOf 23 = .ok (.aload_n 0, 1) := by decide +kernel
theorem dX9_towersOf_24 : decode cX9_towersOf 24 = .ok (.invokespecial 21, 3) := by decide +kernel
theorem dX9_towersOf_27 : decode cX9_towersOf 27 = .ok (.aastore, 1) := by decide +kernel
theorem dX9_towersOf_28 : decode cX9_towersOf 28 = .ok (.iinc 3 1, 3) := by decide +kernel
theorem dX9_towersOf_31 : decode cX9_towersOf 31 = .ok (.goto (-20), 3) := by decide +kernel
theorem dX9_towersOf_34 : decode cX9_towersOf 34 = .ok (.aload_n 2, 1) := by decide +kernel
theorem dX9_towersOf_35 : decode cX9_towersOf 35 = .ok (.areturn, 1) := by decide +kernel
theorem dX10_init_0 : decode cX10_init 0 = .ok (.aload_n 0, 1) := by decide +kernel
theorem dX10_init_1 : decode cX10_init 1 = .ok (.invokespecial 1, 3) := by decide +kernel
theorem dX10_init_4 : decode cX10_init 4 = .ok (.aload_n 0, 1) := by decide +kernel
theorem dX10_init_5 : decode cX10_init 5 = .ok (.bipush 6, 2) := by decide +kernel
theorem dX10_init_7 : decode cX10_init 7 = .ok (.newarray .int, 2) := by decide +kernel
theorem dX10_init_9 : decode cX10_init 9 = .ok (.putfield 7, 3) := by decide +kernel
theorem dX10_init_12 : decode cX10_init 12 = .ok (.aload_n 0, 1) := by decide +kernel
theorem dX10_init_13 : decode cX10_init 13 = .ok (.bipush 10, 2) := by decide +kernel
theorem dX10_init_15 : decode cX10_init 15 = .ok (.newarray .int, 2) := by decide +kernel
theorem dX10_init_17 : decode cX10_init 17 = .ok (.putfield 13, 3) := by decide +kernel
theorem dX10_init_20 : decode cX10_init 20 = .ok (.aload_n 0, 1) := by decide +kernel
theorem dX10_init_21 : decode cX10_init 21 = .ok (.bipush 21, 2) := by decide +kernel
theorem dX10_init_23 : decode cX10_init 23 = .ok (.newarray .int, 2) := by decide +kernel
theorem dX10_init_25 : decode cX10_init 25 = .ok (.putfield 16, 3) := by decide +kernel
theorem dX10_init_28 : decode cX10_init 28 = .ok (.aload_n 0, 1) := by decide +kernel
theorem dX10_init_29 : decode cX10_init 29 = .ok (.sipush 168, 3) := by decide +kernel
theorem dX10_init_32 : decode cX10_init 32 = .ok (.newarray .int, 2) := by decide +kernel
theorem dX10_init_34 : decode cX10_init 34 = .ok (.putfield 19, 3) := by decide +kernel
theorem dX10_init_37 : decode cX10_init 37 = .ok (.aload_n 0, 1) := by decide +kernel
theorem dX10_init_38 : decode cX10_init 38 = .ok (.bipush 42, 2) := by decide +kernel
theorem dX10_init_40 : decode cX10_init 40 = .ok (.newarray .int, 2) := by decide +kernel
theorem dX10_init_42 : decode cX10_init 42 = .ok (.putfield 22, 3) := by decide +kernel
theorem dX10_init_45 : decode cX10_init 45 = .ok (.aload_n 0, 1) := by decide +kernel
theorem dX10_init_46 : decode cX10_init 46 = .ok (.bipush 18, 2) := by decide +kernel
theorem dX10_init_48 : decode cX10_init 48 = .ok (.newarray .int, 2) := by decide +kernel
theorem dX10_init_50 : decode cX10_init 50 = .ok (.putfield 25, 3) := by decide +kernel
theorem dX10_init_53 : decode cX10_init 53 = .ok (.aload_n 0, 1) := by decide +kernel
theorem dX10_init_54 : decode cX10_init 54 = .ok (.sipush 200, 3) := by decide +kernel
theorem dX10_init_57 : decode cX10_init 57 = .ok (.newarray .int, 2) := by decide +kernel
theorem dX10_init_59 : decode cX10_init 59 = .ok (.putfield 28, 3) := by decide +kernel
theorem dX10_init_62 : decode cX10_init 62 = .ok (.aload_n 0, 1) := by decide +kernel
theorem dX10_init_63 : decode cX10_init 63 = .ok (.iconst 4, 1) := by decide +kernel
theorem dX10_init_64 : decode cX10_init 64 = .ok (.newarray .int, 2) := by decide +kernel
theorem dX10_init_66 : decode cX10_init 66 = .ok (.putfield 31, 3) := by decide +kernel
theorem dX10_init_69 : decode cX10_init 69 = .ok (.aload_n 0, 1) := by decide +kernel
theorem dX10_init_70 : decode cX10_init 70 = .ok (.bipush 6, 2) := by decide +kernel
theorem dX10_init_72 : decode cX10_init 72 = .ok (.newarray .int, 2) := by decide +kernel
theorem dX10_init_74 : decode cX10_init 74 = .ok (.putfield 34, 3) := by decide +kernel
theorem dX10_init_77 : decode cX10_init 77 = .ok (.aload_n 0, 1) := by decide +kernel
theorem dX10_init_78 : decode cX10_init 78 = .ok (.bipush 21, 2) := by decide +kernel
theorem dX10_init_80 : decode cX10_init 80 = .ok (.newarray .int, 2) := by decide +kernel
theorem dX10_init_82 : decode cX10_init 82 = .ok (.putfield 37, 3) := by decide +kernel
theorem dX10_init_85 : decode cX10_init 85 = .ok (.aload_n 0, 1) := by decide +kernel
theorem dX10_init_86 : decode cX10_init 86 = .ok (.bipush 10, 2) := by decide +kernel
theorem dX10_init_88 : decode cX10_init 88 = .ok (.newarray .int, 2) := by decide +kernel
theorem dX10_init_90 : decode cX10_init 90 = .ok (.putfield 40, 3) := by decide +kernel
theorem dX10_init_93 : decode cX10_init 93 = .ok (.aload_n 0, 1) := by decide +kernel
theorem dX10_init_94 : decode cX10_init 94 = .ok (.bipush 21, 2) := by decide +kernel
theorem dX10_init_96 : decode cX10_init 96 = .ok (.newarray .int, 2) := by decide +kernel
theorem dX10_init_98 : decode cX10_init 98 = .ok (.putfield 43, 3) := by decide +kernel
theorem dX10_init_101 : decode cX10_init 101 = .ok (.aload_n 0, 1) := by decide +kernel
theorem dX10_init_102 : decode cX10_init 102 = .ok (.bipush 6, 2) := by decide +kernel
theorem dX10_init_104 : decode cX10_init 104 = .ok (.newarray .int, 2) := by decide +kernel
theorem dX10_init_106 : decode cX10_init 106 = .ok (.putfield 46, 3) := by decide +kernel
theorem dX10_init_109 : decode cX10_init 109 = .ok (.aload_n 0, 1) := by decide +kernel
theorem dX10_init_110 : decode cX10_init 110 = .ok (.bipush 6, 2) := by decide +kernel
theorem dX10_init_112 : decode cX10_init 112 = .ok (.newarray .int, 2) := by decide +kernel
theorem dX10_init_114 : decode cX10_init 114 = .ok (.putfield 49, 3) := by decide +kernel
theorem dX10_init_117 : decode cX10_init 117 = .ok (.aload_n 0, 1) := by decide +kernel
theorem dX10_init_118 : decode cX10_init 118 = .ok (.invokevirtual 52, 3) := by decide +kernel
theorem dX10_init_121 : decode cX10_init 121 = .ok (.aload_n 0, 1) := by decide +kernel
theorem dX10_init_122 : decode cX10_init 122 = .ok (.iconst 0, 1) := by decide +kernel
theorem dX10_init_123 : decode cX10_init 123 = .ok (.iconst 5, 1) := by decide +kernel
theorem dX10_init_124 : decode cX10_init 124 = .ok (.bipush 12, 2) := by decide +kernel
theorem dX10_init_126 : decode cX10_init 126 = .ok (.bipush 8, 2) := by decide +kernel
theorem dX10_init_128 : decode cX10_init 128 = .ok (.invokevirtual 55, 3) := by decide +kernel
theorem dX10_init_131 : decode cX10_init 131 = .ok (.aload_n 0, 1) := by decide +kernel
theorem dX10_init_132 : decode cX10_init 132 = .ok (.iconst 1, 1) := by decide +kernel
theorem dX10_init_133 : decode cX10_init 133 = .ok (.iconst 3, 1) := by decide +kernel
theorem dX10_init_134 : decode cX10_init 134 = .ok (.bipush 30, 2) := by decide +kernel
theorem dX10_init_136 : decode cX10_init 136 = .ok (.iconst 5, 1) := by decide +kernel
theorem dX10_init_137 : decode cX10_init 137 = .ok (.invokevirtual 55, 3) := by decide +kernel
theorem dX10_init_140 : decode cX10_init 140 = .ok (.aload_n 0, 1) := by decide +kernel
theorem dX10_init_141 : decode cX10_init 141 = .ok (.iconst 2, 1) := by decide +kernel
theorem dX10_init_142 : decode cX10_init 142 = .ok (.iconst 4, 1) := by decide +kernel
theorem dX10_init_143 : decode cX10_init 143 = .ok (.bipush 25, 2) := by decide +kernel
theorem dX10_init_145 : decode cX10_init 145 = .ok (.bipush 6, 2) := by decide +kernel
theorem dX10_init_147 : decode cX10_init 147 = .ok (.invokevirtual 55, 3) := by decide +kernel
theorem dX10_init_150 : decode cX10_init 150 = .ok (.aload_n 0, 1) := by decide +kernel
theorem dX10_init_151 : decode cX10_init 151 = .ok (.iconst 3, 1) := by decide +kernel
theorem dX10_init_152 : decode cX10_init 152 = .ok (.iconst 5, 1) := by decide +kernel
theorem dX10_init_153 : decode cX10_init 153 = .ok (.bipush 14, 2) := by decide +kernel
theorem dX10_init_155 : decode cX10_init 155 = .ok (.iconst 2, 1) := by decide +kernel
theorem dX10_init_156 : decode cX10_init 156 = .ok (.invokevirtual 55, 3) := by decide +kernel
theorem dX10_init_159 : decode cX10_init 159 = .ok (.aload_n 0, 1) := by decide +kernel
theorem dX10_init_160 : decode cX10_init 160 = .ok (.iconst 3, 1) := by decide +kernel
theorem dX10_init_161 : decode cX10_init 161 = .ok (.iconst 5, 1) := by decide +kernel
theorem dX10_init_162 : decode cX10_init 162 = .ok (.bipush 13, 2) := by decide +kernel
theorem dX10_init_164 : decode cX10_init 164 = .ok (.iconst 3, 1) := by decide +kernel
theorem dX10_init_165 : decode cX10_init 165 = .ok (.invokevirtual 55, 3) := by decide +kernel
theorem dX10_init_168 : decode cX10_init 168 = .ok (.aload_n 0, 1) := by decide +kernel
theorem dX10_init_169 : decode cX10_init 169 = .ok (.iconst 0, 1) := by decide +kernel
theorem dX10_init_170 : decode cX10_init 170 = .ok (.iconst 1, 1) := by decide +kernel
theorem dX10_init_171 : decode cX10_init 171 = .ok (.bipush 60, 2) := by decide +kernel
theorem dX10_init_173 : decode cX10_init 173 = .ok (.bipush 9, 2) := by decide +kernel
theorem dX10_init_175 : decode cX10_init 175 = .ok (.invokevirtual 55, 3) := by decide +kernel
theorem dX10_init_178 : decode cX10_init 178 = .ok (.aload_n 0, 1) := by decide +kernel
theorem dX10_init_179 : decode cX10_init 179 = .ok (.iconst 5, 1) := by decide +kernel
theorem dX10_init_180 : decode cX10_init 180 = .ok (.iconst 2, 1) := by decide +kernel
theorem dX10_init_181 : decode cX10_init 181 = .ok (.invokevirtual 59, 3) := by decide +kernel
theorem dX10_init_184 : decode cX10_init 184 = .ok (.aload_n 0, 1) := by decide +kernel
theorem dX10_init_185 : decode cX10_init 185 = .ok (.iconst 4, 1) := by decide +kernel
theorem dX10_init_186 : decode cX10_init 186 = .ok (.iconst 1, 1) := by decide +kernel
theorem dX10_init_187 : decode cX10_init 187 = .ok (.invokevirtual 59, 3) := by decide +kernel
theorem dX10_init_190 : decode cX10_init 190 = .ok (.aload_n 0, 1) := by decide +kernel
theorem dX10_init_191 : decode cX10_init 191 = .ok (.iconst 3, 1) := by decide +kernel
theorem dX10_init_192 : decode cX10_init 192 = .ok (.iconst 1, 1) := by decide +kernel
theorem dX10_init_193 : decode cX10_init 193 = .ok (.invokevirtual 59, 3) := by decide +kernel
theorem dX10_init_196 : decode cX10_init 196 = .ok (.aload_n 0, 1) := by decide +kernel
theorem dX10_init_197 : decode cX10_init 197 = .ok (.iconst 1, 1) := by decide +kernel
theorem dX10_init_198 : decode cX10_init 198 = .ok (.iconst 1, 1) := by decide +kernel
theorem dX10_init_199 : decode cX10_init 199 = .ok (.invokevirtual 59, 3) := by decide +kernel
theorem dX10_init_202 : decode cX10_init 202 = .ok (.aload_n 0, 1) := by decide +kernel
theorem dX10_init_203 : decode cX10_init 203 = .ok (.iconst 0, 1) := by decide +kernel
theorem dX10_init_204 : decode cX10_init 204 = .ok (.iconst 1, 1) := by decide +kernel
theorem dX10_init_205 : decode cX10_init 205 = .ok (.invokevirtual 59, 3) := by decide +kernel
theorem dX10_init_208 : decode cX10_init 208 = .ok (.aload_n 0, 1) := by decide +kernel
theorem dX10_init_209 : decode cX10_init 209 = .ok (.invokevirtual 63, 3) := by decide +kernel
theorem dX10_init_212 : decode cX10_init 212 = .ok (.return_, 1) := by decide +kernel
theorem dX10_tellsPerson_0 : decode cX10_tellsPerson 0 = .ok (.aload_n 0, 1) := by decide +kernel
theorem dX10_tellsPerson_1 : decode cX10_tellsPerson 1 = .ok (.getfield 34, 3) := by decide +kernel
theorem dX10_tellsPerson_4 : decode cX10_tellsPerson 4 = .ok (.aload_n 0, 1) := by decide +kernel
theorem dX10_tellsPerson_5 : decode cX10_tellsPerson 5 = .ok (.getfield 66, 3) := by decide +kernel
theorem dX10_tellsPerson_8 : decode cX10_tellsPerson 8 = .ok (.iload_n 1, 1) := by decide +kernel
theorem dX10_tellsPerson_9 : decode cX10_tellsPerson 9 = .ok (.iastore, 1) := by decide +kernel
theorem dX10_tellsPerson_10 : decode cX10_tellsPerson 10 = .ok (.aload_n 0, 1) := by decide +kernel
theorem dX10_tellsPerson_11 : decode cX10_tellsPerson 11 = .ok (.getfield 37, 3) := by decide +kernel
theorem dX10_tellsPerson_14 : decode cX10_tellsPerson 14 = .ok (.iconst 3, 1) := by decide +kernel
theorem dX10_tellsPerson_15 : decode cX10_tellsPerson 15 = .ok (.aload_n 0, 1) := by decide +kernel
theorem dX10_tellsPerson_16 : decode cX10_tellsPerson 16 = .ok (.getfield 66, 3) := by decide +kernel
theorem dX10_tellsPerson_19 : decode cX10_tellsPerson 19 = .ok (.iadd, 1) := by decide +kernel
theorem dX10_tellsPerson_20 : decode cX10_tellsPerson 20 = .ok (.iload_n 2, 1) := by decide +kernel
theorem dX10_tellsPerson_21 : decode cX10_tellsPerson 21 = .ok (.iastore, 1) := by decide +kernel
theorem dX10_tellsPerson_22 : decode cX10_tellsPerson 22 = .ok (.aload_n 0, 1) := by decide +kernel
theorem dX10_tellsPerson_23 : decode cX10_tellsPerson 23 = .ok (.getfield 37, 3) := by decide +kernel
theorem dX10_tellsPerson_26 : decode cX10_tellsPerson 26 = .ok (.bipush 9, 2) := by decide +kernel
theorem dX10_tellsPerson_28 : decode cX10_tellsPerson 28 = .ok (.aload_n 0, 1) := by decide +kernel
theorem dX10_tellsPerson_29 : decode cX10_tellsPerson 29 = .ok (.getfield 66, 3) := by decide +kernel
theorem dX10_tellsPerson_32 : decode cX10_tellsPerson 32 = .ok (.iadd, 1) := by decide +kernel
theorem dX10_tellsPerson_33 : decode cX10_tellsPerson 33 = .ok (.iload_n 3, 1) := by decide +kernel
theorem dX10_tellsPerson_34 : decode cX10_tellsPerson 34 = .ok (.iastore, 1) := by decide +kernel
theorem dX10_tellsPerson_35 : decode cX10_tellsPerson 35 = .ok (.aload_n 0, 1) := by decide +kernel
theorem dX10_tellsPerson_36 : decode cX10_tellsPerson 36 = .ok (.getfield 37, 3) := by decide +kernel
theorem dX10_tellsPerson_39 : decode cX10_tellsPerson 39 = .ok (.bipush 15, 2) := by decide +kernel
theorem dX10_tellsPerson_41 : decode cX10_tellsPerson 41 = .ok (.aload_n 0, 1) := by decide +kernel
theorem dX10_tellsPerson_42 : decode cX10_tellsPerson 42 = .ok (.getfield 66, 3) := by decide +kernel
theorem dX10_tellsPerson_45 : decode cX10_tellsPerson 45 = .ok (.iadd, 1) := by decide +kernel
theorem dX10_tellsPerson_46 : decode cX10_tellsPerson 46 = .ok (.iload 4, 2) := by decide +kernel
theorem dX10_tellsPerson_48 : decode cX10_tellsPerson 48 = .ok (.iastore, 1) := by decide +kernel
theorem dX10_tellsPerson_49 : decode cX10_tellsPerson 49 = .ok (.aload_n 0, 1) := by decide +kernel
theorem dX10_tellsPerson_50 : decode cX10_tellsPerson 50 = .ok (.dup, 1) := by decide +kernel
theorem dX10_tellsPerson_51 : decode cX10_tellsPerson 51 = .ok (.getfield 66, 3) := by decide +kernel
theorem dX10_tellsPerson_54 : decode cX10_tellsPerson 54 = .ok (.iconst 1, 1) := by decide +kernel
theorem dX10_tellsPerson_55 : decode cX10_tellsPerson 55 = .ok (.iadd, 1) := by decide +kernel
theorem dX10_tellsPerson_56 : decode cX10_tellsPerson 56 = .ok (.putfield 66, 3) := by decide +kernel
theorem dX10_tellsPerson_59 : decode cX10_tellsPerson 59 = .ok (.return_, 1) := by decide +kernel
theorem dX10_tellsWork_0 : decode cX10_tellsWork 0 = .ok (.aload_n 0, 1) := by decide +kernel
theorem dX10_tellsWork_1 : decode cX10_tellsWork 1 = .ok (.getfield 40, 3) := by decide +kernel
theorem dX10_tellsWork_4 : decode cX10_tellsWork 4 = .ok (.iconst 2, 1) := by decide +kernel
theorem dX10_tellsWork_5 : decode cX10_tellsWork 5 = .ok (.aload_n 0, 1) := by decide +kernel
theorem dX10_tellsWork_6 : decode cX10_tellsWork 6 = .ok (.getfield 70, 3) := by decide +kernel
theorem dX10_tellsWork_9 : decode cX10_tellsWork 9 = .ok (.imul, 1) := by decide +kernel
theorem dX10_tellsWork_10 : decode cX10_tellsWork 10 = .ok (.iload_n 1, 1) := by decide +kernel
theorem dX10_tellsWork_11 : decode cX10_tellsWork 11 = .ok (.iastore, 1) := by decide +kernel
theorem dX10_tellsWork_12 : decode cX10_tellsWork 12 = .ok (.aload_n 0, 1) := by decide +kernel
theorem dX10_tellsWork_13 : decode cX10_tellsWork 13 = .ok (.getfield 40, 3) := by decide +kernel
theorem dX10_tellsWork_16 : decode cX10_tellsWork 16 = .ok (.iconst 2, 1) := by decide +kernel
theorem dX10_tellsWork_17 : decode cX10_tellsWork 17 = .ok (.aload_n 0, 1) := by decide +kernel
theorem dX10_tellsWork_18 : decode cX10_tellsWork 18 = .ok (.getfield 70, 3) := by decide +kernel
theorem dX10_tellsWork_21 : decode cX10_tellsWork 21 = .ok (.imul, 1) := by decide +kernel
theorem dX10_tellsWork_22 : decode cX10_tellsWork 22 = .ok (.iconst 1, 1) := by decide +kernel
theorem dX10_tellsWork_23 : decode cX10_tellsWork 23 = .ok (.iadd, 1) := by decide +kernel
theorem dX10_tellsWork_24 : decode cX10_tellsWork 24 = .ok (.iload_n 2, 1) := by decide +kernel
theorem dX10_tellsWork_25 : decode cX10_tellsWork 25 = .ok (.iastore, 1) := by decide +kernel
theorem dX10_tellsWork_26 : decode cX10_tellsWork 26 = .ok (.aload_n 0, 1) := by decide +kernel
theorem dX10_tellsWork_27 : decode cX10_tellsWork 27 = .ok (.dup, 1) := by decide +kernel
theorem dX10_tellsWork_28 : decode cX10_tellsWork 28 = .ok (.getfield 70, 3) := by decide +kernel
theorem dX10_tellsWork_31 : decode cX10_tellsWork 31 = .ok (.iconst 1, 1) := by decide +kernel
theorem dX10_tellsWork_32 : decode cX10_tellsWork 32 = .ok (.iadd, 1) := by decide +kernel
theorem dX10_tellsWork_33 : decode cX10_tellsWork 33 = .ok (.putfield 70, 3) := by decide +kernel
theorem dX10_tellsWork_36 : decode cX10_tellsWork 36 = .ok (.return_, 1) := by decide +kernel
theorem dX10_in_0 : decode cX10_in 0 = .ok (.iload_n 0, 1) := by decide +kernel
theorem dX10_in_1 : decode cX10_in 1 = .ok (.iload_n 1, 1) := by decide +kernel
theorem dX10_in_2 : decode cX10_in 2 = .ok (.if_icmp .lt 12, 3) := by decide +kernel
theorem dX10_in_5 : decode cX10_in 5 = .ok (.iload_n 0, 1) := by decide +kernel
theorem dX10_in_6 : decode cX10_in 6 = .ok (.iload_n 2, 1) := by decide +kernel
theorem dX10_in_7 : decode cX10_in 7 = .ok (.if_icmp .gt 7, 3) := by decide +kernel
theorem dX10_in_10 : decode cX10_in 10 = .ok (.iconst 1, 1) := by decide +kernel
theorem dX10_in_11 : decode cX10_in 11 = .ok (.goto 4, 3) := by decide +kernel
theorem dX10_in_14 : decode cX10_in 14 = .ok (.iconst 0, 1) := by decide +kernel
theorem dX10_in_15 : decode cX10_in 15 = .ok (.ireturn, 1) := by decide +kernel
theorem dX10_has_0 : decode cX10_has 0 = .ok (.iload_n 0, 1) := by decide +kernel
theorem dX10_has_1 : decode cX10_has 1 = .ok (.iload_n 1, 1) := by decide +kernel
theorem dX10_has_2 : decode cX10_has 2 = .ok (.ishr, 1) := by decide +kernel
theorem dX10_has_3 : decode cX10_has 3 = .ok (.iconst 1, 1) := by decide +kernel
theorem dX10_has_4 : decode cX10_has 4 = .ok (.iand, 1) := by decide +kernel
theorem dX10_has_5 : decode cX10_has 5 = .ok (.iconst 1, 1) := by decide +kernel
theorem dX10_has_6 : decode cX10_has 6 = .ok (.if_icmp .ne 7, 3) := by decide +kernel
theorem dX10_has_9 : decode cX10_has 9 = .ok (.iconst 1, 1) := by decide +kernel
theorem dX10_has_10 : decode cX10_has 10 = .ok (.goto 4, 3) := by decide +kernel
theorem dX10_has_13 : decode cX10_has 13 = .ok (.iconst 0, 1) := by decide +kernel
theorem dX10_has_14 : decode cX10_has 14 = .ok (.ireturn, 1) := by decide +kernel
theorem dX10_bits_0 : decode cX10_bits 0 = .ok (.iconst 0, 1) := by decide +kernel
theorem dX10_bits_1 : decode cX10_bits 1 = .ok (.istore_n 1, 1) := by decide +kernel
theorem dX10_bits_2 : decode cX10_bits 2 = .ok (.iconst 0, 1) := by decide +kernel
theorem dX10_bits_3 : decode cX10_bits 3 = .ok (.istore_n 2, 1) := by decide +kernel
theorem dX10_bits_4 : decode cX10_bits 4 = .ok (.iload_n 2, 1) := by decide +kernel
theorem dX10_bits_5 : decode cX10_bits 5 = .ok (.bipush 6, 2) := by decide +kernel
theorem dX10_bits_7 : decode cX10_bits 7 = .ok (.if_icmp .ge 17, 3) := by decide +kernel
theorem dX10_bits_10 : decode cX10_bits 10 = .ok (.iload_n 1, 1) := by decide +kernel
theorem dX10_bits_11 : decode cX10_bits 11 = .ok (.iload_n 0, 1) := by decide +kernel
theorem dX10_bits_12 : decode cX10_bits 12 = .ok (.iload_n 2, 1) := by decide +kernel
theorem dX10_bits_13 : decode cX10_bits 13 = .ok (.ishr, 1) := by decide +kernel
theorem dX10_bits_14 : decode cX10_bits 14 = .ok (.iconst 1, 1) := by decide +kernel
theorem dX10_bits_15 : decode cX10_bits 15 = .ok (.iand, 1) := by decide +kernel
theorem dX10_bits_16 : decode cX10_bits 16 = .ok (.iadd, 1) := by decide +kernel
theorem dX10_bits_17 : decode cX10_bits 17 = .ok (.istore_n 1, 1) := by decide +kernel
theorem dX10_bits_18 : decode cX10_bits 18 = .ok (.iinc 2 1, 3) := by decide +kernel
theorem dX10_bits_21 : decode cX10_bits 21 = .ok (.goto (-17), 3) := by decide +kernel
theorem dX10_bits_24 : decode cX10_bits 24 = .ok (.iload_n 1, 1) := by decide +kernel
theorem dX10_bits_25 : decode cX10_bits 25 = .ok (.ireturn, 1) := by decide +kernel
theorem dX10_isPerson_0 : decode cX10_isPerson 0 = .ok (.iload_n 1, 1) := by decide +kernel
theorem dX10_isPerson_1 : decode cX10_isPerson 1 = .ok (.iconst 0, 1) := by decide +kernel
theorem dX10_isPerson_2 : decode cX10_isPerson 2 = .ok (.aload_n 0, 1) := by decide +kernel
theorem dX10_isPerson_3 : decode cX10_isPerson 3 = .ok (.getfield 73, 3) := by decide +kernel
theorem dX10_isPerson_6 : decode cX10_isPerson 6 = .ok (.iconst 1, 1) := by decide +kernel
theorem dX10_isPerson_7 : decode cX10_isPerson 7 = .ok (.isub, 1) := by decide +kernel
theorem dX10_isPerson_8 : decode cX10_isPerson 8 = .ok (.invokestatic 76, 3) := by decide +kernel
theorem dX10_isPerson_11 : decode cX10_isPerson 11 = .ok (.ireturn, 1) := by decide +kernel
theorem dX10_isStep_0 : decode cX10_isStep 0 = .ok (.iload_n 1, 1) := by decide +kernel
theorem dX10_isStep_1 : decode cX10_isStep 1 = .ok (.iconst 0, 1) := by decide +kernel
theorem dX10_isStep_2 : decode cX10_isStep 2 = .ok (.aload_n 0, 1) := by decide +kernel
theorem dX10_isStep_3 : decode cX10_isStep 3 = .ok (.getfield 80, 3) := by decide +kernel
theorem dX10_isStep_6 : decode cX10_isStep 6 = .ok (.iconst 1, 1) := by decide +kernel
theorem dX10_isStep_7 : decode cX10_isStep 7 = .ok (.isub, 1) := by decide +kernel
theorem dX10_isStep_8 : decode cX10_isStep 8 = .ok (.invokestatic 76, 3) := by decide +kernel
theorem dX10_isStep_11 : decode cX10_isStep 11 = .ok (.ireturn, 1) := by decide +kernel
theorem dX10_write_0 : decode cX10_write 0 = .ok (.iload_n 1, 1) := by decide +kernel
theorem dX10_write_1 : decode cX10_write 1 = .ok (.bipush 32, 2) := by decide +kernel
theorem dX10_write_3 : decode cX10_write 3 = .ok (.bipush 126, 2) := by decide +kernel
theorem dX10_write_5 : decode cX10_write 5 = .ok (.invokestatic 76, 3) := by decide +kernel
theorem dX10_write_8 : decode cX10_write 8 = .ok (.ifCond .ne 5, 3) := by decide +kernel
theorem dX10_write_11 : decode cX10_write 11 = .ok (.iconst (-1), 1) := by decide +kernel
theorem dX10_write_12 : decode cX10_write 12 = .ok (.ireturn, 1) := by decide +kernel
theorem dX10_write_13 : decode cX10_write 13 = .ok (.aload_n 0, 1) := by decide +kernel
theorem dX10_write_14 : decode cX10_write 14 = .ok (.getfield 83, 3) := by decide +kernel
theorem dX10_write_17 : decode cX10_write 17 = .ok (.sipush 200, 3) := by decide +kernel
theorem dX10_write_20 : decode cX10_write 20 = .ok (.if_icmp .ne 6, 3) := by decide +kernel
theorem dX10_write_23 : decode cX10_write 23 = .ok (.bipush (-3), 2) := by decide +kernel
theorem dX10_write_25 : decode cX10_write 25 = .ok (.ireturn, 1) := by decide +kernel
theorem dX10_write_26 : decode cX10_write 26 = .ok (.aload_n 0, 1) := by decide +kernel
theorem dX10_write_27 : decode cX10_write 27 = .ok (.getfield 28, 3) := by decide +kernel
theorem dX10_write_30 : decode cX10_write 30 = .ok (.aload_n 0, 1) := by decide +kernel
theorem dX10_write_31 : decode cX10_write 31 = .ok (.getfield 83, 3) := by decide +kernel
theorem dX10_write_34 : decode cX10_write 34 = .ok (.iload_n 1, 1) := by decide +kernel
theorem dX10_write_35 : decode cX10_write 35 = .ok (.iastore, 1) := by decide +kernel
theorem dX10_write_36 : decode cX10_write 36 = .ok (.aload_n 0, 1) := by decide +kernel
theorem dX10_write_37 : decode cX10_write 37 = .ok (.dup, 1) := by decide +kernel
theorem dX10_write_38 : decode cX10_write 38 = .ok (.getfield 83, 3) := by decide +kernel
theorem dX10_write_41 : decode cX10_write 41 = .ok (.iconst 1, 1) := by decide +kernel
theorem dX10_write_42 : decode cX10_write 42 = .ok (.iadd, 1) := by decide +kernel
theorem dX10_write_43 : decode cX10_write 43 = .ok (.putfield 83, 3) := by decide +kernel
theorem dX10_write_46 : decode cX10_write 46 = .ok (.aload_n 0, 1) := by decide +kernel
theorem dX10_write_47 : decode cX10_write 47 = .ok (.getfield 83, 3) := by decide +kernel
theorem dX10_write_50 : decode cX10_write 50 = .ok (.ireturn, 1) := by decide +kernel
theorem dX10_wipe_0 : decode cX10_wipe 0 = .ok (.aload_n 0, 1) := by decide +kernel
theorem dX10_wipe_1 : decode cX10_wipe 1 = .ok (.getfield 83, 3) := by decide +kernel
theorem dX10_wipe_4 : decode cX10_wipe 4 = .ok (.istore_n 1, 1) := by decide +kernel
theorem dX10_wipe_5 : decode cX10_wipe 5 = .ok (.aload_n 0, 1) := by decide +kernel
theorem dX10_wipe_6 : decode cX10_wipe 6 = .ok (.iconst 0, 1) := by decide +kernel
theorem dX10_wipe_7 : decode cX10_wipe 7 = .ok (.putfield 83, 3) := by decide +kernel
theorem dX10_wipe_10 : decode cX10_wipe 10 = .ok (.iload_n 1, 1) := by decide +kernel
theorem dX10_wipe_11 : decode cX10_wipe 11 = .ok (.ireturn, 1) := by decide +kernel
theorem dX10_letterAt_0 : decode cX10_letterAt 0 = .ok (.iload_n 1, 1) := by decide +kernel
theorem dX10_letterAt_1 : decode cX10_letterAt 1 = .ok (.aload_n 0, 1) := by decide +kernel
theorem dX10_letterAt_2 : decode cX10_letterAt 2 = .ok (.getfield 83, 3) := by decide +kernel
theorem dX10_letterAt_5 : decode cX10_letterAt 5 = .ok (.if_icmp .ge 12, 3) := by decide +kernel
theorem dX10_letterAt_8 : decode cX10_letterAt 8 = .ok (.aload_n 0, 1) := by decide +kernel
theorem dX10_letterAt_9 : decode cX10_letterAt 9 = .ok (.getfield 28, 3) := by decide +kernel
theorem dX10_letterAt_12 : decode cX10_letterAt 12 = .ok (.iload_n 1, 1) := by decide +kernel
theorem dX10_letterAt_13 : decode cX10_letterAt 13 = .ok (.iaload, 1) := by decide +kernel
theorem dX10_letterAt_14 : decode cX10_letterAt 14 = .ok (.goto 4, 3) := by decide +kernel
theorem dX10_letterAt_17 : decode cX10_letterAt 17 = .ok (.iconst (-1), 1) := by decide +kernel
theorem dX10_letterAt_18 : decode cX10_letterAt 18 = .ok (.ireturn, 1) := by decide +kernel
theorem dX10_isFigure_0 : decode cX10_isFigure 0 = .ok (.iload_n 0, 1) := by decide +kernel
theorem dX10_isFigure_1 : decode cX10_isFigure 1 = .ok (.bipush 48, 2) := by decide +kernel
theorem dX10_isFigure_3 : decode cX10_isFigure 3 = .ok (.bipush 57, 2) := by decide +kernel
theorem dX10_isFigure_5 : decode cX10_isFigure 5 = .ok (.invokestatic 76, 3) := by decide +kernel
theorem dX10_isFigure_8 : decode cX10_isFigure 8 = .ok (.ireturn, 1) := by decide +kernel
theorem dX10_readNumbers_0 : decode cX10_readNumbers 0 = .ok (.iconst 0, 1) := by decide +kernel
theorem dX10_readNumbers_1 : decode cX10_readNumbers 1 = .ok (.istore_n 2, 1) := by decide +kernel
theorem dX10_readNumbers_2 : decode cX10_readNumbers 2 = .ok (.iload_n 2, 1) := by decide +kernel
theorem dX10_readNumbers_3 : decode cX10_readNumbers 3 = .ok (.iload_n 1, 1) := by decide +kernel
theorem dX10_readNumbers_4 : decode cX10_readNumbers 4 = .ok (.if_icmp .ge 140, 3) := by decide +kernel
theorem dX10_readNumbers_7 : decode cX10_readNumbers 7 = .ok (.aload_n 0, 1) := by decide +kernel
theorem dX10_readNumbers_8 : decode cX10_readNumbers 8 = .ok (.aload_n 0, 1) := by decide +kernel
theorem dX10_readNumbers_9 : decode cX10_readNumbers 9 = .ok (.getfield 86, 3) := by decide +kernel
theorem dX10_readNumbers_12 : decode cX10_readNumbers 12 = .ok (.invokevirtual 89, 3) := by decide +kernel
theorem dX10_readNumbers_15 : decode cX10_readNumbers 15 = .ok (.invokestatic 93, 3) := by decide +kernel
theorem dX10_readNumbers_18 : decode cX10_readNumbers 18 = .ok (.ifCond .ne 5, 3) := by decide +kernel
theorem dX10_readNumbers_21 : decode cX10_readNumbers 21 = .ok (.iconst 0, 1) := by decide +kernel
theorem dX10_readNumbers_22 : decode cX10_readNumbers 22 = .ok (.ireturn, 1) := by decide +kernel
theorem dX10_readNumbers_23 : decode cX10_readNumbers 23 = .ok (.aload_n 0, 1) := by decide +kernel
theorem dX10_readNumbers_24 : decode cX10_readNumbers 24 = .ok (.getfield 31, 3) := by decide +kernel
theorem dX10_readNumbers_27 : decode cX10_readNumbers 27 = .ok (.iload_n 2, 1) := by decide +kernel
theorem dX10_readNumbers_28 : decode cX10_readNumbers 28 = .ok (.aload_n 0, 1) := by decide +kernel
theorem dX10_readNumbers_29 : decode cX10_readNumbers 29 = .ok (.aload_n 0, 1) := by decide +kernel
theorem dX10_readNumbers_30 : decode cX10_readNumbers 30 = .ok (.getfield 86, 3) := by decide +kernel
theorem dX10_readNumbers_33 : decode cX10_readNumbers 33 = .ok (.invokevirtual 89, 3) := by decide +kernel
theorem dX10_readNumbers_36 : decode cX10_readNumbers 36 = .ok (.bipush 48, 2) := by decide +kernel
theorem dX10_readNumbers_38 : decode cX10_readNumbers 38 = .ok (.isub, 1) := by decide +kernel
theorem dX10_readNumbers_39 : decode cX10_readNumbers 39 = .ok (.iastore, 1) := by decide +kernel
theorem dX10_readNumbers_40 : decode cX10_readNumbers 40 = .ok (.aload_n 0, 1) := by decide +kernel
theorem dX10_readNumbers_41 : decode cX10_readNumbers 41 = .ok (.dup, 1) := by decide +kernel
theorem dX10_readNumbers_42 : decode cX10_readNumbers 42 = .ok (.getfield 86, 3) := by decide +kernel
theorem dX10_readNumbers_45 : decode cX10_readNumbers 45 = .ok (.iconst 1, 1) := by decide +kernel
theorem dX10_readNumbers_46 : decode cX10_readNumbers 46 = .ok (.iadd, 1) := by decide +kernel
theorem dX10_readNumbers_47 : decode cX10_readNumbers 47 = .ok (.putfield 86, 3) := by decide +kernel
theorem dX10_readNumbers_50 : decode cX10_readNumbers 50 = .ok (.aload_n 0, 1) := by decide +kernel
theorem dX10_readNumbers_51 : decode cX10_readNumbers 51 = .ok (.aload_n 0, 1) := by decide +kernel
theorem dX10_readNumbers_52 : decode cX10_readNumbers 52 = .ok (.getfield 86, 3) := by decide +kernel
theorem dX10_readNumbers_55 : decode cX10_readNumbers 55 = .ok (.invokevirtual 89, 3) := by decide +kernel
theorem dX10_readNumbers_58 : decode cX10_readNumbers 58 = .ok (.invokestatic 93, 3) := by decide +kernel
theorem dX10_readNumbers_61 : decode cX10_readNumbers 61 = .ok (.ifCond .eq 40, 3) := by decide +kernel
theorem dX10_readNumbers_64 : decode cX10_readNumbers 64 = .ok (.aload_n 0, 1) := by decide +kernel
theorem dX10_readNumbers_65 : decode cX10_readNumbers 65 = .ok (.getfield 31, 3) := by decide +kernel
theorem dX10_readNumbers_68 : decode cX10_readNumbers 68 = .ok (.iload_n 2, 1) := by decide +kernel
theorem dX10_readNumbers_69 : decode cX10_readNumbers 69 = .ok (.bipush 10, 2) := by decide +kernel
theorem dX10_readNumbers_71 : decode cX10_readNumbers 71 = .ok (.aload_n 0, 1) := by decide +kernel
theorem dX10_readNumbers_72 : decode cX10_readNumbers 72 = .ok (.getfield 31, 3) := by decide +kernel
theorem dX10_readNumbers_75 : decode cX10_readNumbers 75 = .ok (.iload_n 2, 1) := by decide +kernel
theorem dX10_readNumbers_76 : decode cX10_readNumbers 76 = .ok (.iaload, 1) := by decide +kernel
theorem dX10_readNumbers_77 : decode cX10_readNumbers 77 = .ok (.imul, 1) := by decide +kernel
theorem dX10_readNumbers_78 : decode cX10_readNumbers 78 = .ok (.aload_n 0, 1) := by decide +kernel
theorem dX10_readNumbers_79 : decode cX10_readNumbers 79 = .ok (.aload_n 0, 1) := by decide +kernel
theorem dX10_readNumbers_80 : decode cX10_readNumbers 80 = .ok (.getfield 86, 3) := by decide +kernel
theorem dX10_readNumbers_83 : decode cX10_readNumbers 83 = .ok (.invokevirtual 89, 3) := by decide +kernel
theorem dX10_readNumbers_86 : decode cX10_readNumbers 86 = .ok (.iadd, 1) := by decide +kernel
theorem dX10_readNumbers_87 : decode cX10_readNumbers 87 = .ok (.bipush 48, 2) := by decide +kernel
theorem dX10_readNumbers_89 : decode cX10_readNumbers 89 = .ok (.isub, 1) := by decide +kernel
theorem dX10_readNumbers_90 : decode cX10_readNumbers 90 = .ok (.iastore, 1) := by decide +kernel
theorem dX10_readNumbers_91 : decode cX10_readNumbers 91 = .ok (.aload_n 0, 1) := by decide +kernel
theorem dX10_readNumbers_92 : decode cX10_readNumbers 92 = .ok (.dup, 1) := by decide +kernel
theorem dX10_readNumbers_93 : decode cX10_readNumbers 93 = .ok (.getfield 86, 3) := by decide +kernel
theorem dX10_readNumbers_96 : decode cX10_readNumbers 96 = .ok (.iconst 1, 1) := by decide +kernel
theorem dX10_readNumbers_97 : decode cX10_readNumbers 97 = .ok (.iadd, 1) := by decide +kernel
theorem dX10_readNumbers_98 : decode cX10_readNumbers 98 = .ok (.putfield 86, 3) := by decide +kernel
theorem dX10_readNumbers_101 : decode cX10_readNumbers 101 = .ok (.aload_n 0, 1) := by decide +kernel
theorem dX10_readNumbers_102 : decode cX10_readNumbers 102 = .ok (.aload_n 0, 1) := by decide +kernel
theorem dX10_readNumbers_103 : decode cX10_readNumbers 103 = .ok (.getfield 86, 3) := by decide +kernel
theorem dX10_readNumbers_106 : decode cX10_readNumbers 106 = .ok (.invokevirtual 89, 3) := by decide +kernel
theorem dX10_readNumbers_109 : decode cX10_readNumbers 109 = .ok (.iload_n 2, 1) := by decide +kernel
theorem dX10_readNumbers_110 : decode cX10_readNumbers 110 = .ok (.iload_n 1, 1) := by decide +kernel
theorem dX10_readNumbers_111 : decode cX10_readNumbers 111 = .ok (.iconst 1, 1) := by decide +kernel
theorem dX10_readNumbers_112 : decode cX10_readNumbers 112 = .ok (.isub, 1) := by decide +kernel
theorem dX10_readNumbers_113 : decode cX10_readNumbers 113 = .ok (.if_icmp .ge 8, 3) := by decide +kernel
theorem dX10_readNumbers_116 : decode cX10_readNumbers 116 = .ok (.bipush 44, 2) := by decide +kernel
theorem dX10_readNumbers_118 : decode cX10_readNumbers 118 = .ok (.goto 5, 3) := by decide +kernel
theorem dX10_readNumbers_121 : decode cX10_readNumbers 121 = .ok (.bipush 59, 2) := by decide +kernel
theorem dX10_readNumbers_123 : decode cX10_readNumbers 123 = .ok (.if_icmp .eq 5, 3) := by decide +kernel
theorem dX10_readNumbers_126 : decode cX10_readNumbers 126 = .ok (.iconst 0, 1) := by decide +kernel
theorem dX10_readNumbers_127 : decode cX10_readNumbers 127 = .ok (.ireturn, 1) := by decide +kernel
theorem dX10_readNumbers_128 : decode cX10_readNumbers 128 = .ok (.aload_n 0, 1) := by decide +kernel
theorem dX10_readNumbers_129 : decode cX10_readNumbers 129 = .ok (.dup, 1) := by decide +kernel
theorem dX10_readNumbers_130 : decode cX10_readNumbers 130 = .ok (.getfield 86, 3) := by decide +kernel
theorem dX10_readNumbers_133 : decode cX10_readNumbers 133 = .ok (.iconst 1, 1) := by decide +kernel
theorem dX10_readNumbers_134 : decode cX10_readNumbers 134 = .ok (.iadd, 1) := by decide +kernel
theorem dX10_readNumbers_135 : decode cX10_readNumbers 135 = .ok (.putfield 86, 3) := by decide +kernel
theorem dX10_readNumbers_138 : decode cX10_readNumbers 138 = .ok (.iinc 2 1, 3) := by decide +kernel
theorem dX10_readNumbers_141 : decode cX10_readNumbers 141 = .ok (.goto (-139), 3) := by decide +kernel
theorem dX10_readNumbers_144 : decode cX10_readNumbers 144 = .ok (.iconst 1, 1) := by decide +kernel
theorem dX10_readNumbers_145 : decode cX10_readNumbers 145 = .ok (.ireturn, 1) := by decide +kernel
theorem dX10_isTold_0 : decode cX10_isTold 0 = .ok (.aload_n 0, 1) := by decide +kernel
theorem dX10_isTold_1 : decode cX10_isTold 1 = .ok (.getfield 31, 3) := by decide +kernel
theorem dX10_isTold_4 : decode cX10_isTold 4 = .ok (.iload_n 1, 1) := by decide +kernel
theorem dX10_isTold_5 : decode cX10_isTold 5 = .ok (.iaload, 1) := by decide +kernel
theorem dX10_isTold_6 : decode cX10_isTold 6 = .ok (.iload_n 2, 1) := by decide +kernel
theorem dX10_isTold_7 : decode cX10_isTold 7 = .ok (.iload_n 3, 1) := by decide +kernel
theorem dX10_isTold_8 : decode cX10_isTold 8 = .ok (.invokestatic 76, 3) := by decide +kernel
theorem dX10_isTold_11 : decode cX10_isTold 11 = .ok (.ireturn, 1) := by decide +kernel
theorem dX10_clearTold_0 : decode cX10_clearTold 0 = .ok (.aload_n 0, 1) := by decide +kernel
theorem dX10_clearTold_1 : decode cX10_clearTold 1 = .ok (.bipush 6, 2) := by decide +kernel
theorem dX10_clearTold_3 : decode cX10_clearTold 3 = .ok (.putfield 97, 3) := by decide +kernel
theorem dX10_clearTold_6 : decode cX10_clearTold 6 = .ok (.aload_n 0, 1) := by decide +kernel
theorem dX10_clearTold_7 : decode cX10_clearTold 7 = .ok (.iconst 0, 1) := by decide +kernel
theorem dX10_clearTold_8 : decode cX10_clearTold 8 = .ok (.putfield 66, 3) := by decide +kernel
theorem dX10_clearTold_11 : decode cX10_clearTold 11 = .ok (.aload_n 0, 1) := by decide +kernel
theorem dX10_clearTold_12 : decode cX10_clearTold 12 = .ok (.iconst 0, 1) := by decide +kernel
theorem dX10_clearTold_13 : decode cX10_clearTold 13 = .ok (.putfield 70, 3) := by decide +kernel
theorem dX10_clearTold_16 : decode cX10_clearTold 16 = .ok (.iconst 0, 1) := by decide +kernel
theorem dX10_clearTold_17 : decode cX10_clearTold 17 = .ok (.istore_n 1, 1) := by decide +kernel
theorem dX10_clearTold_18 : decode cX10_clearTold 18 = .ok (.iload_n 1, 1) := by decide +kernel
theorem dX10_clearTold_19 : decode cX10_clearTold 19 = .ok (.bipush 21, 2) := by decide +kernel
theorem dX10_clearTold_21 : decode cX10_clearTold 21 = .ok (.if_icmp .ge 16, 3) := by decide +kernel
theorem dX10_clearTold_24 : decode cX10_clearTold 24 = .ok (.aload_n 0, 1) := by decide +kernel
theorem dX10_clearTold_25 : decode cX10_clearTold 25 = .ok (.getfield 37, 3) := by decide +kernel
theorem dX10_clearTold_28 : decode cX10_clearTold 28 = .ok (.iload_n 1, 1) := by decide +kernel
theorem dX10_clearTold_29 : decode cX10_clearTold 29 = .ok (.iconst 0, 1) := by decide +kernel
theorem dX10_clearTold_30 : decode cX10_clearTold 30 = .ok (.iastore, 1) := by decide +kernel
theorem dX10_clearTold_31 : decode cX10_clearTold 31 = .ok (.iinc 1 1, 3) := by decide +kernel
theorem dX10_clearTold_34 : decode cX10_clearTold 34 = .ok (.goto (-16), 3) := by decide +kernel
theorem dX10_clearTold_37 : decode cX10_clearTold 37 = .ok (.return_, 1) := by decide +kernel
theorem dX10_readHeightOf_0 : decode cX10_readHeightOf 0 = .ok (.aload_n 0, 1) := by decide +kernel
theorem dX10_readHeightOf_1 : decode cX10_readHeightOf 1 = .ok (.iconst 1, 1) := by decide +kernel
theorem dX10_readHeightOf_2 : decode cX10_readHeightOf 2 = .ok (.invokevirtual 100, 3) := by decide +kernel
theorem dX10_readHeightOf_5 : decode cX10_readHeightOf 5 = .ok (.ifCond .eq 18, 3) := by decide +kernel
theorem dX10_readHeightOf_8 : decode cX10_readHeightOf 8 = .ok (.aload_n 0, 1) := by decide +kernel
theorem dX10_readHeightOf_9 : decode cX10_readHeightOf 9 = .ok (.iconst 0, 1) := by decide +kernel
theorem dX10_readHeightOf_10 : decode cX10_readHeightOf 10 = .ok (.iconst 2, 1) := by decide +kernel
theorem dX10_readHeightOf_11 : decode cX10_readHeightOf 11 = .ok (.bipush 10, 2) := by decide +kernel
theorem dX10_readHeightOf_13 : decode cX10_readHeightOf 13 = .ok (.invokevirtual 103, 3) := by decide +kernel
theorem dX10_readHeightOf_16 : decode cX10_readHeightOf 16 = .ok (.ifCond .eq 7, 3) := by decide +kernel
theorem dX10_readHeightOf_19 : decode cX10_readHeightOf 19 = .ok (.iconst 1, 1) := by decide +kernel
theorem dX10_readHeightOf_20 : decode cX10_readHeightOf 20 = .ok (.goto 4, 3) := by decide +kernel
theorem dX10_readHeightOf_23 : decode cX10_readHeightOf 23 = .ok (.iconst 0, 1) := by decide +kernel
theorem dX10_readHeightOf_24 : decode cX10_readHeightOf 24 = .ok (.istore_n 1, 1) := by decide +kernel
theorem dX10_readHeightOf_25 : decode cX10_readHeightOf 25 = .ok (.aload_n 0, 1) := by decide +kernel
theorem dX10_readHeightOf_26 : decode cX10_readHeightOf 26 = .ok (.iload_n 1, 1) := by decide +kernel
theorem dX10_readHeightOf_27 : decode cX10_readHeightOf 27 = .ok (.ifCond .eq 12, 3) := by decide +kernel
theorem dX10_readHeightOf_30 : decode cX10_readHeightOf 30 = .ok (.aload_n 0, 1) := by decide +kernel
theorem dX10_readHeightOf_31 : decode cX10_readHeightOf 31 = .ok (.getfield 31, 3) := by decide +kernel
theorem dX10_readHeightOf_34 : decode cX10_readHeightOf 34 = .ok (.iconst 0, 1) := by decide +kernel
theorem dX10_readHeightOf_35 : decode cX10_readHeightOf 35 = .ok (.iaload, 1) := by decide +kernel
theorem dX10_readHeightOf_36 : decode cX10_readHeightOf 36 = .ok (.goto 7, 3) := by decide +kernel
theorem dX10_readHeightOf_39 : decode cX10_readHeightOf 39 = .ok (.aload_n 0, 1) := by decide +kernel
theorem dX10_readHeightOf_40 : decode cX10_readHeightOf 40 = .ok (.getfield 97, 3) := by decide +kernel
theorem dX10_readHeightOf_43 : decode cX10_readHeightOf 43 = .ok (.putfield 97, 3) := by decide +kernel
theorem dX10_readHeightOf_46 : decode cX10_readHeightOf 46 = .ok (.iload_n 1, 1) := by decide +kernel
theorem dX10_readHeightOf_47 : decode cX10_readHeightOf 47 = .ok (.ireturn, 1) := by decide +kernel
theorem dX10_readPersonItem_0 : decode cX10_readPersonItem 0 = .ok (.aload_n 0, 1) := by decide +kernel
theorem dX10_readPersonItem_1 : decode cX10_readPersonItem 1 = .ok (.getfield 66, 3) := by decide +kernel
theorem dX10_readPersonItem_4 : decode cX10_readPersonItem 4 = .ok (.bipush 6, 2) := by decide +kernel
theorem dX10_readPersonItem_6 : decode cX10_readPersonItem 6 = .ok (.if_icmp .eq 59, 3) := by decide +kernel
theorem dX10_readPersonItem_9 : decode cX10_readPersonItem 9 = .ok (.aload_n 0, 1) := by decide +kernel
theorem dX10_readPersonItem_10 : decode cX10_readPersonItem 10 = .ok (.iconst 4, 1) := by decide +kernel
theorem dX10_readPersonItem_11 : decode cX10_readPersonItem 11 = .ok (.invokevirtual 100, 3) := by decide +kernel
theorem dX10_readPersonItem_14 : decode cX10_readPersonItem 14 = .ok (.ifCond .eq 51, 3) := by decide +kernel
theorem dX10_readPersonItem_17 : decode cX10_readPersonItem 17 = .ok (.aload_n 0, 1) := by decide +kernel
theorem dX10_readPersonItem_18 : decode cX10_readPersonItem 18 = .ok (.iconst 0, 1) := by decide +kernel
theorem dX10_readPersonItem_19 : decode cX10_readPersonItem 19 = .ok (.iconst 0, 1) := by decide +kernel
theorem dX10_readPersonItem_20 : decode cX10_readPersonItem 20 = .ok (.iconst 3, 1) := by decide +kernel
theorem dX10_readPersonItem_21 : decode cX10_readPersonItem 21 = .ok (.invokevirtual 103, 3) := by decide +kernel
theorem dX10_readPersonItem_24 : decode cX10_readPersonItem 24 = .ok (.ifCond .eq 41, 3) := by decide +kernel
theorem dX10_readPersonItem_27 : decode cX10_readPersonItem 27 = .ok (.aload_n 0, 1) := by decide +kernel
theorem dX10_readPersonItem_28 : decode cX10_readPersonItem 28 = .ok (.iconst 1, 1) := by decide +kernel
theorem dX10_readPersonItem_29 : decode cX10_readPersonItem 29 = .ok (.iconst 0, 1) := by decide +kernel
theorem dX10_readPersonItem_30 : decode cX10_readPersonItem 30 = .ok (.aload_n 0, 1) := by decide +kernel
theorem dX10_readPersonItem_31 : decode cX10_readPersonItem 31 = .ok (.getfield 97, 3) := by decide +kernel
theorem dX10_readPersonItem_34 : decode cX10_readPersonItem 34 = .ok (.iconst 1, 1) := by decide +kernel
theorem dX10_readPersonItem_35 : decode cX10_readPersonItem 35 = .ok (.isub, 1) := by decide +kernel
theorem dX10_readPersonItem_36 : decode cX10_readPersonItem 36 = .ok (.invokevirtual 103, 3) := by decide +kernel
theorem dX10_readPersonItem_39 : decode cX10_readPersonItem 39 = .ok (.ifCond .eq 26, 3) := by decide +kernel
theorem dX10_readPersonItem_42 : decode cX10_readPersonItem 42 = .ok (.aload_n 0, 1) := by decide +kernel
theorem dX10_readPersonItem_43 : decode cX10_readPersonItem 43 = .ok (.iconst 2, 1) := by decide +kernel
theorem dX10_readPersonItem_44 : decode cX10_readPersonItem 44 = .ok (.bipush 12, 2) := by decide +kernel
theorem dX10_readPersonItem_46 : decode cX10_readPersonItem 46 = .ok (.bipush 60, 2) := by decide +kernel
theorem dX10_readPersonItem_48 : decode cX10_readPersonItem 48 = .ok (.invokevirtual 103, 3) := by decide +kernel
theorem dX10_readPersonItem_51 : decode cX10_readPersonItem 51 = .ok (.ifCond .eq 14, 3) := by decide +kernel
theorem dX10_readPersonItem_54 : decode cX10_readPersonItem 54 = .ok (.aload_n 0, 1) := by decide +kernel
theorem dX10_readPersonItem_55 : decode cX10_readPersonItem 55 = .ok (.iconst 3, 1) := by decide +kernel
theorem dX10_readPersonItem_56 : decode cX10_readPersonItem 56 = .ok (.iconst 0, 1) := by decide +kernel
theorem dX10_readPersonItem_57 : decode cX10_readPersonItem 57 = .ok (.bipush 30, 2) := by decide +kernel
theorem dX10_readPersonItem_59 : decode cX10_readPersonItem 59 = .ok (.invokevirtual 103, 3) := by decide +kernel
theorem dX10_readPersonItem_62 : decode cX10_readPersonItem 62 = .ok (.ifCond .ne 5, 3) := by decide +kernel
theorem dX10_readPersonItem_65 : decode cX10_readPersonItem 65 = .ok (.iconst 0, 1) := by decide +kernel
theorem dX10_readPersonItem_66 : decode cX10_readPersonItem 66 = .ok (.ireturn, 1) := by decide +kernel
theorem dX10_readPersonItem_67 : decode cX10_readPersonItem 67 = .ok (.aload_n 0, 1) := by decide +kernel
theorem dX10_readPersonItem_68 : decode cX10_readPersonItem 68 = .ok (.aload_n 0, 1) := by decide +kernel
theorem dX10_readPersonItem_69 : decode cX10_readPersonItem 69 = .ok (.getfield 31, 3) := by decide +kernel
theorem dX10_readPersonItem_72 : decode cX10_readPersonItem 72 = .ok (.iconst 0, 1) := by decide +kernel
theorem dX10_readPersonItem_73 : decode cX10_readPersonItem 73 = .ok (.iaload, 1) := by decide +kernel
theorem dX10_readPersonItem_74 : decode cX10_readPersonItem 74 = .ok (.aload_n 0, 1) := by decide +kernel
theorem dX10_readPersonItem_75 : decode cX10_readPersonItem 75 = .ok (.getfield 31, 3) := by decide +kernel
theorem dX10_readPersonItem_78 : decode cX10_readPersonItem 78 = .ok (.iconst 1, 1) := by decide +kernel
theorem dX10_readPersonItem_79 : decode cX10_readPersonItem 79 = .ok (.iaload, 1) := by decide +kernel
theorem dX10_readPersonItem_80 : decode cX10_readPersonItem 80 = .ok (.aload_n 0, 1) := by decide +kernel
theorem dX10_readPersonItem_81 : decode cX10_readPersonItem 81 = .ok (.getfield 31, 3) := by decide +kernel
theorem dX10_readPersonItem_84 : decode cX10_readPersonItem 84 = .ok (.iconst 2, 1) := by decide +kernel
theorem dX10_readPersonItem_85 : decode cX10_readPersonItem 85 = .ok (.iaload, 1) := by decide +kernel
theorem dX10_readPersonItem_86 : decode cX10_readPersonItem 86 = .ok (.aload_n 0, 1) := by decide +kernel
theorem dX10_readPersonItem_87 : decode cX10_readPersonItem 87 = .ok (.getfield 31, 3) := by decide +kernel
theorem dX10_readPersonItem_90 : decode cX10_readPersonItem 90 = .ok (.iconst 3, 1) := by decide +kernel
theorem dX10_readPersonItem_91 : decode cX10_readPersonItem 91 = .ok (.iaload, 1) := by decide +kernel
theorem dX10_readPersonItem_92 : decode cX10_readPersonItem 92 = .ok (.invokevirtual 55, 3) := by decide +kernel
theorem dX10_readPersonItem_95 : decode cX10_readPersonItem 95 = .ok (.iconst 1, 1) := by decide +kernel
theorem dX10_readPersonItem_96 : decode cX10_readPersonItem 96 = .ok (.ireturn, 1) := by decide +kernel
theorem dX10_readWorkItem_0 : decode cX10_readWorkItem 0 = .ok (.aload_n 0, 1) := by decide +kernel
theorem dX10_readWorkItem_1 : decode cX10_readWorkItem 1 = .ok (.getfield 70, 3) := by decide +kernel
theorem dX10_readWorkItem_4 : decode cX10_readWorkItem 4 = .ok (.iconst 5, 1) := by decide +kernel
theorem dX10_readWorkItem_5 : decode cX10_readWorkItem 5 = .ok (.if_icmp .eq 36, 3) := by decide +kernel
theorem dX10_readWorkItem_8 : decode cX10_readWorkItem 8 = .ok (.aload_n 0, 1) := by decide +kernel
theorem dX10_readWorkItem_9 : decode cX10_readWorkItem 9 = .ok (.iconst 2, 1) := by decide +kernel
theorem dX10_readWorkItem_10 : decode cX10_readWorkItem 10 = .ok (.invokevirtual 100, 3) := by decide +kernel
theorem dX10_readWorkItem_13 : decode cX10_readWorkItem 13 = .ok (.ifCond .eq 28, 3) := by decide +kernel
theorem dX10_readWorkItem_16 : decode cX10_readWorkItem 16 = .ok (.aload_n 0, 1) := by decide +kernel
theorem dX10_readWorkItem_17 : decode cX10_readWorkItem 17 = .ok (.iconst 0, 1) := by decide +kernel
theorem dX10_readWorkItem_18 : decode cX10_readWorkItem 18 = .ok (.iconst 0, 1) := by decide +kernel
theorem dX10_readWorkItem_19 : decode cX10_readWorkItem 19 = .ok (.aload_n 0, 1) := by decide +kernel
theorem dX10_readWorkItem_20 : decode cX10_readWorkItem 20 = .ok (.getfield 97, 3) := by decide +kernel
theorem dX10_readWorkItem_23 : decode cX10_readWorkItem 23 = .ok (.iconst 1, 1) := by decide +kernel
theorem dX10_readWorkItem_24 : decode cX10_readWorkItem 24 = .ok (.isub, 1) := by decide +kernel
theorem dX10_readWorkItem_25 : decode cX10_readWorkItem 25 = .ok (.invokevirtual 103, 3) := by decide +kernel
theorem dX10_readWorkItem_28 : decode cX10_readWorkItem 28 = .ok (.ifCond .eq 13, 3) := by decide +kernel
theorem dX10_readWorkItem_31 : decode cX10_readWorkItem 31 = .ok (.aload_n 0, 1) := by decide +kernel
theorem dX10_readWorkItem_32 : decode cX10_readWorkItem 32 = .ok (.iconst 1, 1) := by decide +kernel
theorem dX10_readWorkItem_33 : decode cX10_readWorkItem 33 = .ok (.iconst 1, 1) := by decide +kernel
theorem dX10_readWorkItem_34 : decode cX10_readWorkItem 34 = .ok (.iconst 4, 1) := by decide +kernel
theorem dX10_readWorkItem_35 : decode cX10_readWorkItem 35 = .ok (.invokevirtual 103, 3) := by decide +kernel
theorem dX10_readWorkItem_38 : decode cX10_readWorkItem 38 = .ok (.ifCond .ne 5, 3) := by decide +kernel
theorem dX10_readWorkItem_41 : decode cX10_readWorkItem 41 = .ok (.iconst 0, 1) := by decide +kernel
theorem dX10_readWorkItem_42 : decode cX10_readWorkItem 42 = .ok (.ireturn, 1) := by decide +kernel
theorem dX10_readWorkItem_43 : decode cX10_readWorkItem 43 = .ok (.aload_n 0, 1) := by decide +kernel
theorem dX10_readWorkItem_44 : decode cX10_readWorkItem 44 = .ok (.aload_n 0, 1) := by decide +kernel
theorem dX10_readWorkItem_45 : decode cX10_readWorkItem 45 = .ok (.getfield 31, 3) := by decide +kernel
theorem dX10_readWorkItem_48 : decode cX10_readWorkItem 48 = .ok (.iconst 0, 1) := by decide +kernel
theorem dX10_readWorkItem_49 : decode cX10_readWorkItem 49 = .ok (.iaload, 1) := by decide +kernel
theorem dX10_readWorkItem_50 : decode cX10_readWorkItem 50 = .ok (.aload_n 0, 1) := by decide +kernel
theorem dX10_readWorkItem_51 : decode cX10_readWorkItem 51 = .ok (.getfield 31, 3) := by decide +kernel
theorem dX10_readWorkItem_54 : decode cX10_readWorkItem 54 = .ok (.iconst 1, 1) := by decide +kernel
theorem dX10_readWorkItem_55 : decode cX10_readWorkItem 55 = .ok (.iaload, 1) := by decide +kernel
theorem dX10_readWorkItem_56 : decode cX10_readWorkItem 56 = .ok (.invokevirtual 59, 3) := by decide +kernel
theorem dX10_readWorkItem_59 : decode cX10_readWorkItem 59 = .ok (.iconst 1, 1) := by decide +kernel
theorem dX10_readWorkItem_60 : decode cX10_readWorkItem 60 = .ok (.ireturn, 1) := by decide +kernel
theorem dX10_readItem_0 : decode cX10_readItem 0 = .ok (.aload_n 0, 1) := by decide +kernel
theorem dX10_readItem_1 : decode cX10_readItem 1 = .ok (.aload_n 0, 1) := by decide +kernel
theorem dX10_readItem_2 : decode cX10_readItem 2 = .ok (.getfield 86, 3) := by decide +kernel
theorem dX10_readItem_5 : decode cX10_readItem 5 = .ok (.invokevirtual 89, 3) := by decide +kernel
theorem dX10_readItem_8 : decode cX10_readItem 8 = .ok (.istore_n 1, 1) := by decide +kernel
theorem dX10_readItem_9 : decode cX10_readItem 9 = .ok (.aload_n 0, 1) := by decide +kernel
theorem dX10_readItem_10 : decode cX10_readItem 10 = .ok (.getfield 86, 3) := by decide +kernel
theorem dX10_readItem_13 : decode cX10_readItem 13 = .ok (.ifCond .ne 7, 3) := by decide +kernel
theorem dX10_readItem_16 : decode cX10_readItem 16 = .ok (.iconst 1, 1) := by decide +kernel
theorem dX10_readItem_17 : decode cX10_readItem 17 = .ok (.goto 4, 3) := by decide +kernel
theorem dX10_readItem_20 : decode cX10_readItem 20 = .ok (.iconst 0, 1) := by decide +kernel
theorem dX10_readItem_21 : decode cX10_readItem 21 = .ok (.istore_n 2, 1) := by decide +kernel
theorem dX10_readItem_22 : decode cX10_readItem 22 = .ok (.aload_n 0, 1) := by decide +kernel
theorem dX10_readItem_23 : decode cX10_readItem 23 = .ok (.dup, 1) := by decide +kernel
theorem dX10_readItem_24 : decode cX10_readItem 24 = .ok (.getfield 86, 3) := by decide +kernel
theorem dX10_readItem_27 : decode cX10_readItem 27 = .ok (.iconst 1, 1) := by decide +kernel
theorem dX10_readItem_28 : decode cX10_readItem 28 = .ok (.iadd, 1) := by decide +kernel
theorem dX10_readItem_29 : decode cX10_readItem 29 = .ok (.putfield 86, 3) := by decide +kernel
theorem dX10_readItem_32 : decode cX10_readItem 32 = .ok (.iload_n 1, 1) := by decide +kernel
theorem dX10_readItem_33 : decode cX10_readItem 33 = .ok (.lookupswitch 62 #[(104, 35), (112, 52), (119, 57)], 35) := by decide +kernel
theorem dX10_readItem_68 : decode cX10_readItem 68 = .ok (.iload_n 2, 1) := by decide +kernel
theorem dX10_readItem_69 : decode cX10_readItem 69 = .ok (.ifCond .eq 14, 3) := by decide +kernel
theorem dX10_readItem_72 : decode cX10_readItem 72 = .ok (.aload_n 0, 1) := by decide +kernel
theorem dX10_readItem_73 : decode cX10_readItem 73 = .ok (.invokevirtual 106, 3) := by decide +kernel
theorem dX10_readItem_76 : decode cX10_readItem 76 = .ok (.ifCond .eq 7, 3) := by decide +kernel
theorem dX10_readItem_79 : decode cX10_readItem 79 = .ok (.iconst 1, 1) := by decide +kernel
theorem dX10_readItem_80 : decode cX10_readItem 80 = .ok (.goto 4, 3) := by decide +kernel
theorem dX10_readItem_83 : decode cX10_readItem 83 = .ok (.iconst 0, 1) := by decide +kernel
theorem dX10_readItem_84 : decode cX10_readItem 84 = .ok (.ireturn, 1) := by decide +kernel
theorem dX10_readItem_85 : decode cX10_readItem 85 = .ok (.aload_n 0, 1) := by decide +kernel
theorem dX10_readItem_86 : decode cX10_readItem 86 = .ok (.invokevirtual 110, 3) := by decide +kernel
theorem dX10_readItem_89 : decode cX10_readItem 89 = .ok (.ireturn, 1) := by decide +kernel
theorem dX10_readItem_90 : decode cX10_readItem 90 = .ok (.aload_n 0, 1) := by decide +kernel
theorem dX10_readItem_91 : decode cX10_readItem 91 = .ok (.invokevirtual 113, 3) := by decide +kernel
theorem dX10_readItem_94 : decode cX10_readItem 94 = .ok (.ireturn, 1) := by decide +kernel
theorem dX10_readItem_95 : decode cX10_readItem 95 = .ok (.iconst 0, 1) := by decide +kernel
theorem dX10_readItem_96 : decode cX10_readItem 96 = .ok (.ireturn, 1) := by decide +kernel
theorem dX10_fault_0 : decode cX10_fault 0 = .ok (.aload_n 0, 1) := by decide +kernel
theorem dX10_fault_1 : decode cX10_fault 1 = .ok (.iconst 0, 1) := by decide +kernel
theorem dX10_fault_2 : decode cX10_fault 2 = .ok (.putfield 86, 3) := by decide +kernel
theorem dX10_fault_5 : decode cX10_fault 5 = .ok (.aload_n 0, 1) := by decide +kernel
theorem dX10_fault_6 : decode cX10_fault 6 = .ok (.invokevirtual 52, 3) := by decide +kernel
theorem dX10_fault_9 : decode cX10_fault 9 = .ok (.aload_n 0, 1) := by decide +kernel
theorem dX10_fault_10 : decode cX10_fault 10 = .ok (.getfield 86, 3) := by decide +kernel
theorem dX10_fault_13 : decode cX10_fault 13 = .ok (.aload_n 0, 1) := by decide +kernel
theorem dX10_fault_14 : decode cX10_fault 14 = .ok (.getfield 83, 3) := by decide +kernel
theorem dX10_fault_17 : decode cX10_fault 17 = .ok (.if_icmp .ge 20, 3) := by decide +kernel
theorem dX10_fault_20 : decode cX10_fault 20 = .ok (.aload_n 0, 1) := by decide +kernel
theorem dX10_fault_21 : decode cX10_fault 21 = .ok (.getfield 86, 3) := by decide +kernel
theorem dX10_fault_24 : decode cX10_fault 24 = .ok (.istore_n 1, 1) := by decide +kernel
theorem dX10_fault_25 : decode cX10_fault 25 = .ok (.aload_n 0, 1) := by decide +kernel
theorem dX10_fault_26 : decode cX10_fault 26 = .ok (.invokevirtual 116, 3) := by decide +kernel
theorem dX10_fault_29 : decode cX10_fault 29 = .ok (.ifCond .ne 5, 3) := by decide +kernel
theorem dX10_fault_32 : decode cX10_fault 32 = .ok (.iload_n 1, 1) := by decide +kernel
theorem dX10_fault_33 : decode cX10_fault 33 = .ok (.ireturn, 1) := by decide +kernel
theorem dX10_fault_34 : decode cX10_fault 34 = .ok (.goto (-25), 3) := by decide +kernel
theorem dX10_fault_37 : decode cX10_fault 37 = .ok (.bipush (-4), 2) := by decide +kernel
theorem dX10_fault_39 : decode cX10_fault 39 = .ok (.ireturn, 1) := by decide +kernel
theorem dX10_lay_0 : decode cX10_lay 0 = .ok (.aload_n 0, 1) := by decide +kernel
theorem dX10_lay_1 : decode cX10_lay 1 = .ok (.invokevirtual 119, 3) := by decide +kernel
theorem dX10_lay_4 : decode cX10_lay 4 = .ok (.bipush (-4), 2) := by decide +kernel
theorem dX10_lay_6 : decode cX10_lay 6 = .ok (.if_icmp .ne 10, 3) := by decide +kernel
theorem dX10_lay_9 : decode cX10_lay 9 = .ok (.aload_n 0, 1) := by decide +kernel
theorem dX10_lay_10 : decode cX10_lay 10 = .ok (.getfield 66, 3) := by decide +kernel
theorem dX10_lay_13 : decode cX10_lay 13 = .ok (.ifCond .ne 6, 3) := by decide +kernel
theorem dX10_lay_16 : decode cX10_lay 16 = .ok (.bipush (-2), 2) := by decide +kernel
theorem dX10_lay_18 : decode cX10_lay 18 = .ok (.ireturn, 1) := by decide +kernel
theorem dX10_lay_19 : decode cX10_lay 19 = .ok (.aload_n 0, 1) := by decide +kernel
theorem dX10_lay_20 : decode cX10_lay 20 = .ok (.invokevirtual 63, 3) := by decide +kernel
theorem dX10_lay_23 : decode cX10_lay 23 = .ok (.aload_n 0, 1) := by decide +kernel
theorem dX10_lay_24 : decode cX10_lay 24 = .ok (.getfield 73, 3) := by decide +kernel
theorem dX10_lay_27 : decode cX10_lay 27 = .ok (.ireturn, 1) := by decide +kernel
theorem dX10_copies_0 : decode cX10_copies 0 = .ok (.iconst 0, 1) := by decide +kernel
theorem dX10_copies_1 : decode cX10_copies 1 = .ok (.istore 5, 2) := by decide +kernel
theorem dX10_copies_3 : decode cX10_copies 3 = .ok (.iload 5, 2) := by decide +kernel
theorem dX10_copies_5 : decode cX10_copies 5 = .ok (.iload 4, 2) := by decide +kernel
theorem dX10_copies_7 : decode cX10_copies 7 = .ok (.if_icmp .ge 21, 3) := by decide +kernel
theorem dX10_copies_10 : decode cX10_copies 10 = .ok (.aload_n 0, 1) := by decide +kernel
theorem dX10_copies_11 : decode cX10_copies 11 = .ok (.iload_n 1, 1) := by decide +kernel
theorem dX10_copies_12 : decode cX10_copies 12 = .ok (.iload 5, 2) := by decide +kernel
theorem dX10_copies_14 : decode cX10_copies 14 = .ok (.iadd, 1) := by decide +kernel
theorem dX10_copies_15 : decode cX10_copies 15 = .ok (.aload_n 2, 1) := by decide +kernel
theorem dX10_copies_16 : decode cX10_copies 16 = .ok (.iload_n 3, 1) := by decide +kernel
theorem dX10_copies_17 : decode cX10_copies 17 = .ok (.iload 5, 2) := by decide +kernel
theorem dX10_copies_19 : decode cX10_copies 19 = .ok (.iadd, 1) := by decide +kernel
theorem dX10_copies_20 : decode cX10_copies 20 = .ok (.iaload, 1) := by decide +kernel
theorem dX10_copies_21 : decode cX10_copies 21 = .ok (.iastore, 1) := by decide +kernel
theorem dX10_copies_22 : decode cX10_copies 22 = .ok (.iinc 5 1, 3) := by decide +kernel
theorem dX10_copies_25 : decode cX10_copies 25 = .ok (.goto (-22), 3) := by decide +kernel
theorem dX10_copies_28 : decode cX10_copies 28 = .ok (.return_, 1) := by decide +kernel
theorem dX10_settles_0 : decode cX10_settles 0 = .ok (.aload_n 0, 1) := by decide +kernel
theorem dX10_settles_1 : decode cX10_settles 1 = .ok (.aload_n 0, 1) := by decide +kernel
theorem dX10_settles_2 : decode cX10_settles 2 = .ok (.getfield 97, 3) := by decide +kernel
theorem dX10_settles_5 : decode cX10_settles 5 = .ok (.putfield 80, 3) := by decide +kernel
theorem dX10_settles_8 : decode cX10_settles 8 = .ok (.aload_n 0, 1) := by decide +kernel
theorem dX10_settles_9 : decode cX10_settles 9 = .ok (.aload_n 0, 1) := by decide +kernel
theorem dX10_settles_10 : decode cX10_settles 10 = .ok (.getfield 66, 3) := by decide +kernel
theorem dX10_settles_13 : decode cX10_settles 13 = .ok (.putfield 73, 3) := by decide +kernel
theorem dX10_settles_16 : decode cX10_settles 16 = .ok (.aload_n 0, 1) := by decide +kernel
theorem dX10_settles_17 : decode cX10_settles 17 = .ok (.getfield 7, 3) := by decide +kernel
theorem dX10_settles_20 : decode cX10_settles 20 = .ok (.iconst 0, 1) := by decide +kernel
theorem dX10_settles_21 : decode cX10_settles 21 = .ok (.aload_n 0, 1) := by decide +kernel
theorem dX10_settles_22 : decode cX10_settles 22 = .ok (.getfield 34, 3) := by decide +kernel
theorem dX10_settles_25 : decode cX10_settles 25 = .ok (.iconst 0, 1) := by decide +kernel
theorem dX10_settles_26 : decode cX10_settles 26 = .ok (.bipush 6, 2) := by decide +kernel
theorem dX10_settles_28 : decode cX10_settles 28 = .ok (.invokestatic 123, 3) := by decide +kernel
theorem dX10_settles_31 : decode cX10_settles 31 = .ok (.aload_n 0, 1) := by decide +kernel
theorem dX10_settles_32 : decode cX10_settles 32 = .ok (.aload_n 0, 1) := by decide +kernel
theorem dX10_settles_33 : decode cX10_settles 33 = .ok (.getfield 70, 3) := by decide +kernel
theorem dX10_settles_36 : decode cX10_settles 36 = .ok (.putfield 127, 3) := by decide +kernel
theorem dX10_settles_39 : decode cX10_settles 39 = .ok (.aload_n 0, 1) := by decide +kernel
theorem dX10_settles_40 : decode cX10_settles 40 = .ok (.getfield 13, 3) := by decide +kernel
theorem dX10_settles_43 : decode cX10_settles 43 = .ok (.iconst 0, 1) := by decide +kernel
theorem dX10_settles_44 : decode cX10_settles 44 = .ok (.aload_n 0, 1) := by decide +kernel
theorem dX10_settles_45 : decode cX10_settles 45 = .ok (.getfield 40, 3) := by decide +kernel
theorem dX10_settles_48 : decode cX10_settles 48 = .ok (.iconst 0, 1) := by decide +kernel
theorem dX10_settles_49 : decode cX10_settles 49 = .ok (.bipush 10, 2) := by decide +kernel
theorem dX10_settles_51 : decode cX10_settles 51 = .ok (.invokestatic 123, 3) := by decide +kernel
theorem dX10_settles_54 : decode cX10_settles 54 = .ok (.aload_n 0, 1) := by decide +kernel
theorem dX10_settles_55 : decode cX10_settles 55 = .ok (.getfield 16, 3) := by decide +kernel
theorem dX10_settles_58 : decode cX10_settles 58 = .ok (.iconst 0, 1) := by decide +kernel
theorem dX10_settles_59 : decode cX10_settles 59 = .ok (.aload_n 0, 1) := by decide +kernel
theorem dX10_settles_60 : decode cX10_settles 60 = .ok (.getfield 37, 3) := by decide +kernel
theorem dX10_settles_63 : decode cX10_settles 63 = .ok (.iconst 0, 1) := by decide +kernel
theorem dX10_settles_64 : decode cX10_settles 64 = .ok (.bipush 21, 2) := by decide +kernel
theorem dX10_settles_66 : decode cX10_settles 66 = .ok (.invokestatic 123, 3) := by decide +kernel
theorem dX10_settles_69 : decode cX10_settles 69 = .ok (.aload_n 0, 1) := by decide +kernel
theorem dX10_settles_70 : decode cX10_settles 70 = .ok (.iconst 0, 1) := by decide +kernel
theorem dX10_settles_71 : decode cX10_settles 71 = .ok (.putfield 130, 3) := by decide +kernel
theorem dX10_settles_74 : decode cX10_settles 74 = .ok (.aload_n 0, 1) := by decide +kernel
theorem dX10_settles_75 : decode cX10_settles 75 = .ok (.iconst 0, 1) := by decide +kernel
theorem dX10_settles_76 : decode cX10_settles 76 = .ok (.putfield 133, 3) := by decide +kernel
theorem dX10_settles_79 : decode cX10_settles 79 = .ok (.aload_n 0, 1) := by decide +kernel
theorem dX10_settles_80 : decode cX10_settles 80 = .ok (.iconst 0, 1) := by decide +kernel
theorem dX10_settles_81 : decode cX10_settles 81 = .ok (.putfield 136, 3) := by decide +kernel
theorem dX10_settles_84 : decode cX10_settles 84 = .ok (.return_, 1) := by decide +kernel
theorem dX10_asItIs_0 : decode cX10_asItIs 0 = .ok (.aload_n 0, 1) := by decide +kernel
theorem dX10_asItIs_1 : decode cX10_asItIs 1 = .ok (.getfield 43, 3) := by decide +kernel
theorem dX10_asItIs_4 : decode cX10_asItIs 4 = .ok (.iconst 0, 1) := by decide +kernel
theorem dX10_asItIs_5 : decode cX10_asItIs 5 = .ok (.aload_n 0, 1) := by decide +kernel
theorem dX10_asItIs_6 : decode cX10_asItIs 6 = .ok (.getfield 16, 3) := by decide +kernel
theorem dX10_asItIs_9 : decode cX10_asItIs 9 = .ok (.iconst 0, 1) := by decide +kernel
theorem dX10_asItIs_10 : decode cX10_asItIs 10 = .ok (.bipush 21, 2) := by decide +kernel
theorem dX10_asItIs_12 : decode cX10_asItIs 12 = .ok (.invokestatic 123, 3) := by decide +kernel
theorem dX10_asItIs_15 : decode cX10_asItIs 15 = .ok (.return_, 1) := by decide +kernel
theorem dX10_fearAs_0 : decode cX10_fearAs 0 = .ok (.iconst 2, 1) := by decide +kernel
theorem dX10_fearAs_1 : decode cX10_fearAs 1 = .ok (.aload_n 0, 1) := by decide +kernel
theorem dX10_fearAs_2 : decode cX10_fearAs 2 = .ok (.getfield 80, 3) := by decide +kernel
theorem dX10_fearAs_5 : decode cX10_fearAs 5 = .ok (.iconst 1, 1) := by decide +kernel
theorem dX10_fearAs_6 : decode cX10_fearAs 6 = .ok (.isub, 1) := by decide +kernel
theorem dX10_fearAs_7 : decode cX10_fearAs 7 = .ok (.iload_n 2, 1) := by decide +kernel
theorem dX10_fearAs_8 : decode cX10_fearAs 8 = .ok (.isub, 1) := by decide +kernel
theorem dX10_fearAs_9 : decode cX10_fearAs 9 = .ok (.imul, 1) := by decide +kernel
theorem dX10_fearAs_10 : decode cX10_fearAs 10 = .ok (.istore 4, 2) := by decide +kernel
theorem dX10_fearAs_12 : decode cX10_fearAs 12 = .ok (.iload_n 3, 1) := by decide +kernel
theorem dX10_fearAs_13 : decode cX10_fearAs 13 = .ok (.iconst 1, 1) := by decide +kernel
theorem dX10_fearAs_14 : decode cX10_fearAs 14 = .ok (.if_icmp .ne 8, 3) := by decide +kernel
theorem dX10_fearAs_17 : decode cX10_fearAs 17 = .ok (.iload 4, 2) := by decide +kernel
theorem dX10_fearAs_19 : decode cX10_fearAs 19 = .ok (.iconst 2, 1) := by decide +kernel
theorem dX10_fearAs_20 : decode cX10_fearAs 20 = .ok (.idiv, 1) := by decide +kernel
theorem dX10_fearAs_21 : decode cX10_fearAs 21 = .ok (.ireturn, 1) := by decide +kernel
theorem dX10_fearAs_22 : decode cX10_fearAs 22 = .ok (.iload_n 3, 1) := by decide +kernel
theorem dX10_fearAs_23 : decode cX10_fearAs 23 = .ok (.iconst 2, 1) := by decide +kernel
theorem dX10_fearAs_24 : decode cX10_fearAs 24 = .ok (.if_icmp .ne 40, 3) := by decide +kernel
theorem dX10_fearAs_27 : decode cX10_fearAs 27 = .ok (.aload_n 0, 1) := by decide +kernel
theorem dX10_fearAs_28 : decode cX10_fearAs 28 = .ok (.getfield 43, 3) := by decide +kernel
theorem dX10_fearAs_31 : decode cX10_fearAs 31 = .ok (.bipush 9, 2) := by decide +kernel
theorem dX10_fearAs_33 : decode cX10_fearAs 33 = .ok (.iload_n 1, 1) := by decide +kernel
theorem dX10_fearAs_34 : decode cX10_fearAs 34 = .ok (.iadd, 1) := by decide +kernel
theorem dX10_fearAs_35 : decode cX10_fearAs 35 = .ok (.iaload, 1) := by decide +kernel
theorem dX10_fearAs_36 : decode cX10_fearAs 36 = .ok (.bipush 20, 2) := by decide +kernel
theorem dX10_fearAs_38 : decode cX10_fearAs 38 = .ok (.if_icmp .ge 8, 3) := by decide +kernel
theorem dX10_fearAs_41 : decode cX10_fearAs 41 = .ok (.iload 4, 2) := by decide +kernel
theorem dX10_fearAs_43 : decode cX10_fearAs 43 = .ok (.goto 20, 3) := by decide +kernel
theorem dX10_fearAs_46 : decode cX10_fearAs 46 = .ok (.iload 4, 2) := by decide +kernel
theorem dX10_fearAs_48 : decode cX10_fearAs 48 = .ok (.aload_n 0, 1) := by decide +kernel
theorem dX10_fearAs_49 : decode cX10_fearAs 49 = .ok (.getfield 43, 3) := by decide +kernel
theorem dX10_fearAs_52 : decode cX10_fearAs 52 = .ok (.bipush 9, 2) := by decide +kernel
theorem dX10_fearAs_54 : decode cX10_fearAs 54 = .ok (.iload_n 1, 1) := by decide +kernel
theorem dX10_fearAs_55 : decode cX10_fearAs 55 = .ok (.iadd, 1) := by decide +kernel
theorem dX10_fearAs_56 : decode cX10_fearAs 56 = .ok (.iaload, 1) := by decide +kernel
theorem dX10_fearAs_57 : decode cX10_fearAs 57 = .ok (.bipush 20, 2) := by decide +kernel
theorem dX10_fearAs_59 : decode cX10_fearAs 59 = .ok (.isub, 1) := by decide +kernel
theorem dX10_fearAs_60 : decode cX10_fearAs 60 = .ok (.iconst 5, 1) := by decide +kernel
theorem dX10_fearAs_61 : decode cX10_fearAs 61 = .ok (.idiv, 1) := by decide +kernel
theorem dX10_fearAs_62 : decode cX10_fearAs 62 = .ok (.iadd, 1) := by decide +kernel
theorem dX10_fearAs_63 : decode cX10_fearAs 63 = .ok (.ireturn, 1) := by decide +kernel
theorem dX10_fearAs_64 : decode cX10_fearAs 64 = .ok (.iconst 0, 1) := by decide +kernel
theorem dX10_fearAs_65 : decode cX10_fearAs 65 = .ok (.istore 5, 2) := by decide +kernel
theorem dX10_fearAs_67 : decode cX10_fearAs 67 = .ok (.iload 5, 2) := by decide +kernel
theorem dX10_fearAs_69 : decode cX10_fearAs 69 = .ok (.aload_n 0, 1) := by decide +kernel
theorem dX10_fearAs_70 : decode cX10_fearAs 70 = .ok (.getfield 73, 3) := by decide +kernel
theorem dX10_fearAs_73 : decode cX10_fearAs 73 = .ok (.if_icmp .ge 57, 3) := by decide +kernel
theorem dX10_fearAs_76 : decode cX10_fearAs 76 = .ok (.iload_n 3, 1) := by decide +kernel
theorem dX10_fearAs_77 : decode cX10_fearAs 77 = .ok (.iconst 3, 1) := by decide +kernel
theorem dX10_fearAs_78 : decode cX10_fearAs 78 = .ok (.if_icmp .ne 52, 3) := by decide +kernel
theorem dX10_fearAs_81 : decode cX10_fearAs 81 = .ok (.iload 4, 2) := by decide +kernel
theorem dX10_fearAs_83 : decode cX10_fearAs 83 = .ok (.iload 5, 2) := by decide +kernel
theorem dX10_fearAs_85 : decode cX10_fearAs 85 = .ok (.iload_n 1, 1) := by decide +kernel
theorem dX10_fearAs_86 : decode cX10_fearAs 86 = .ok (.if_icmp .eq 34, 3) := by decide +kernel
theorem dX10_fearAs_89 : decode cX10_fearAs 89 = .ok (.aload_n 0, 1) := by decide +kernel
theorem dX10_fearAs_90 : decode cX10_fearAs 90 = .ok (.getfield 43, 3) := by decide +kernel
theorem dX10_fearAs_93 : decode cX10_fearAs 93 = .ok (.iconst 3, 1) := by decide +kernel
theorem dX10_fearAs_94 : decode cX10_fearAs 94 = .ok (.iload 5, 2) := by decide +kernel
theorem dX10_fearAs_96 : decode cX10_fearAs 96 = .ok (.iadd, 1) := by decide +kernel
theorem dX10_fearAs_97 : decode cX10_fearAs 97 = .ok (.iaload, 1) := by decide +kernel
theorem dX10_fearAs_98 : decode cX10_fearAs 98 = .ok (.iload_n 2, 1) := by decide +kernel
theorem dX10_fearAs_99 : decode cX10_fearAs 99 = .ok (.if_icmp .ne 21, 3) := by decide +kernel
theorem dX10_fearAs_102 : decode cX10_fearAs 102 = .ok (.aload_n 0, 1) := by decide +kernel
theorem dX10_fearAs_103 : decode cX10_fearAs 103 = .ok (.getfield 43, 3) := by decide +kernel
theorem dX10_fearAs_106 : decode cX10_fearAs 106 = .ok (.iconst 1, 1) := by decide +kernel
theorem dX10_fearAs_107 : decode cX10_fearAs 107 = .ok (.iaload, 1) := by decide +kernel
theorem dX10_fearAs_108 : decode cX10_fearAs 108 = .ok (.iload 5, 2) := by decide +kernel
theorem dX10_fearAs_110 : decode cX10_fearAs 110 = .ok (.invokestatic 139, 3) := by decide +kernel
theorem dX10_fearAs_113 : decode cX10_fearAs 113 = .ok (.ifCond .ne 7, 3) := by decide +kernel
theorem dX10_fearAs_116 : decode cX10_fearAs 116 = .ok (.iconst 2, 1) := by decide +kernel
theorem dX10_fearAs_117 : decode cX10_fearAs 117 = .ok (.goto 4, 3) := by decide +kernel
theorem dX10_fearAs_120 : decode cX10_fearAs 120 = .ok (.iconst 0, 1) := by decide +kernel
theorem dX10_fearAs_121 : decode cX10_fearAs 121 = .ok (.isub, 1) := by decide +kernel
theorem dX10_fearAs_122 : decode cX10_fearAs 122 = .ok (.istore 4, 2) := by decide +kernel
theorem dX10_fearAs_124 : decode cX10_fearAs 124 = .ok (.iinc 5 1, 3) := by decide +kernel
theorem dX10_fearAs_127 : decode cX10_fearAs 127 = .ok (.goto (-60), 3) := by decide +kernel
theorem dX10_fearAs_130 : decode cX10_fearAs 130 = .ok (.iload 4, 2) := by decide +kernel
theorem dX10_fearAs_132 : decode cX10_fearAs 132 = .ok (.ifCond .ge 7, 3) := by decide +kernel
theorem dX10_fearAs_135 : decode cX10_fearAs 135 = .ok (.iconst 0, 1) := by decide +kernel
theorem dX10_fearAs_136 : decode cX10_fearAs 136 = .ok (.goto 5, 3) := by decide +kernel
theorem dX10_fearAs_139 : decode cX10_fearAs 139 = .ok (.iload 4, 2) := by decide +kernel
theorem dX10_fearAs_141 : decode cX10_fearAs 141 = .ok (.ireturn, 1) := by decide +kernel
theorem dX10_fearOf_0 : decode cX10_fearOf 0 = .ok (.aload_n 0, 1) := by decide +kernel
theorem dX10_fearOf_1 : decode cX10_fearOf 1 = .ok (.iload_n 1, 1) := by decide +kernel
theorem dX10_fearOf_2 : decode cX10_fearOf 2 = .ok (.aload_n 0, 1) := by decide +kernel
theorem dX10_fearOf_3 : decode cX10_fearOf 3 = .ok (.getfield 43, 3) := by decide +kernel
theorem dX10_fearOf_6 : decode cX10_fearOf 6 = .ok (.iconst 3, 1) := by decide +kernel
theorem dX10_fearOf_7 : decode cX10_fearOf 7 = .ok (.iload_n 1, 1) := by decide +kernel
theorem dX10_fearOf_8 : decode cX10_fearOf 8 = .ok (.iadd, 1) := by decide +kernel
theorem dX10_fearOf_9 : decode cX10_fearOf 9 = .ok (.iaload, 1) := by decide +kernel
theorem dX10_fearOf_10 : decode cX10_fearOf 10 = .ok (.aload_n 0, 1) := by decide +kernel
theorem dX10_fearOf_11 : decode cX10_fearOf 11 = .ok (.getfield 7, 3) := by decide +kernel
theorem dX10_fearOf_14 : decode cX10_fearOf 14 = .ok (.iload_n 1, 1) := by decide +kernel
theorem dX10_fearOf_15 : decode cX10_fearOf 15 = .ok (.iaload, 1) := by decide +kernel
theorem dX10_fearOf_16 : decode cX10_fearOf 16 = .ok (.invokevirtual 143, 3) := by decide +kernel
theorem dX10_fearOf_19 : decode cX10_fearOf 19 = .ok (.ireturn, 1) := by decide +kernel
theorem dX10_frozen_0 : decode cX10_frozen 0 = .ok (.iconst 0, 1) := by decide +kernel
theorem dX10_frozen_1 : decode cX10_frozen 1 = .ok (.istore_n 1, 1) := by decide +kernel
theorem dX10_frozen_2 : decode cX10_frozen 2 = .ok (.iconst 0, 1) := by decide +kernel
theorem dX10_frozen_3 : decode cX10_frozen 3 = .ok (.istore_n 2, 1) := by decide +kernel
theorem dX10_frozen_4 : decode cX10_frozen 4 = .ok (.iload_n 2, 1) := by decide +kernel
theorem dX10_frozen_5 : decode cX10_frozen 5 = .ok (.aload_n 0, 1) := by decide +kernel
theorem dX10_frozen_6 : decode cX10_frozen 6 = .ok (.getfield 73, 3) := by decide +kernel
theorem dX10_frozen_9 : decode cX10_frozen 9 = .ok (.if_icmp .ge 49, 3) := by decide +kernel
theorem dX10_frozen_12 : decode cX10_frozen 12 = .ok (.iload_n 1, 1) := by decide +kernel
theorem dX10_frozen_13 : decode cX10_frozen 13 = .ok (.aload_n 0, 1) := by decide +kernel
theorem dX10_frozen_14 : decode cX10_frozen 14 = .ok (.getfield 43, 3) := by decide +kernel
theorem dX10_frozen_17 : decode cX10_frozen 17 = .ok (.iconst 1, 1) := by decide +kernel
theorem dX10_frozen_18 : decode cX10_frozen 18 = .ok (.iaload, 1) := by decide +kernel
theorem dX10_frozen_19 : decode cX10_frozen 19 = .ok (.iload_n 2, 1) := by decide +kernel
theorem dX10_frozen_20 : decode cX10_frozen 20 = .ok (.invokestatic 139, 3) := by decide +kernel
theorem dX10_frozen_23 : decode cX10_frozen 23 = .ok (.ifCond .ne 26, 3) := by decide +kernel
theorem dX10_frozen_26 : decode cX10_frozen 26 = .ok (.aload_n 0, 1) := by decide +kernel
theorem dX10_frozen_27 : decode cX10_frozen 27 = .ok (.iload_n 2, 1) := by decide +kernel
theorem dX10_frozen_28 : decode cX10_frozen 28 = .ok (.invokevirtual 147, 3) := by decide +kernel
theorem dX10_frozen_31 : decode cX10_frozen 31 = .ok (.aload_n 0, 1) := by decide +kernel
theorem dX10_frozen_32 : decode cX10_frozen 32 = .ok (.getfield 43, 3) := by decide +kernel
theorem dX10_frozen_35 : decode cX10_frozen 35 = .ok (.bipush 15, 2) := by decide +kernel
theorem dX10_frozen_37 : decode cX10_frozen 37 = .ok (.iload_n 2, 1) := by decide +kernel
theorem dX10_frozen_38 : decode cX10_frozen 38 = .ok (.iadd, 1) := by decide +kernel
theorem dX10_frozen_39 : decode cX10_frozen 39 = .ok (.iaload, 1) := by decide +kernel
theorem dX10_frozen_40 : decode cX10_frozen 40 = .ok (.if_icmp .le 9, 3) := by decide +kernel
theorem dX10_frozen_43 : decode cX10_frozen 43 = .ok (.iconst 1, 1) := by decide +kernel
theorem dX10_frozen_44 : decode cX10_frozen 44 = .ok (.iload_n 2, 1) := by decide +kernel
theorem dX10_frozen_45 : decode cX10_frozen 45 = .ok (.ishl, 1) := by decide +kernel
theorem dX10_frozen_46 : decode cX10_frozen 46 = .ok (.goto 4, 3) := by decide +kernel
theorem dX10_frozen_49 : decode cX10_frozen 49 = .ok (.iconst 0, 1) := by decide +kernel
theorem dX10_frozen_50 : decode cX10_frozen 50 = .ok (.ior, 1) := by decide +kernel
theorem dX10_frozen_51 : decode cX10_frozen 51 = .ok (.istore_n 1, 1) := by decide +kernel
theorem dX10_frozen_52 : decode cX10_frozen 52 = .ok (.iinc 2 1, 3) := by decide +kernel
theorem dX10_frozen_55 : decode cX10_frozen 55 = .ok (.goto (-51), 3) := by decide +kernel
theorem dX10_frozen_58 : decode cX10_frozen 58 = .ok (.iload_n 1, 1) := by decide +kernel
theorem dX10_frozen_59 : decode cX10_frozen 59 = .ok (.ireturn, 1) := by decide +kernel
theorem dX10_isDone_0 : decode cX10_isDone 0 = .ok (.iconst 0, 1) := by decide +kernel
theorem dX10_isDone_1 : decode cX10_isDone 1 = .ok (.istore_n 3, 1) := by decide +kernel
theorem dX10_isDone_2 : decode cX10_isDone 2 = .ok (.iconst 0, 1) := by decide +kernel
theorem dX10_isDone_3 : decode cX10_isDone 3 = .ok (.istore 4, 2) := by decide +kernel
theorem dX10_isDone_5 : decode cX10_isDone 5 = .ok (.iload 4, 2) := by decide +kernel
theorem dX10_isDone_7 : decode cX10_isDone 7 = .ok (.aload_n 0, 1) := by decide +kernel
theorem dX10_isDone_8 : decode cX10_isDone 8 = .ok (.getfield 73, 3) := by decide +kernel
theorem dX10_isDone_11 : decode cX10_isDone 11 = .ok (.if_icmp .ge 53, 3) := by decide +kernel
theorem dX10_isDone_14 : decode cX10_isDone 14 = .ok (.iload_n 3, 1) := by decide +kernel
theorem dX10_isDone_15 : decode cX10_isDone 15 = .ok (.aload_n 0, 1) := by decide +kernel
theorem dX10_isDone_16 : decode cX10_isDone 16 = .ok (.getfield 43, 3) := by decide +kernel
theorem dX10_isDone_19 : decode cX10_isDone 19 = .ok (.iconst 3, 1) := by decide +kernel
theorem dX10_isDone_20 : decode cX10_isDone 20 = .ok (.iload 4, 2) := by decide +kernel
theorem dX10_isDone_22 : decode cX10_isDone 22 = .ok (.iadd, 1) := by decide +kernel
theorem dX10_isDone_23 : decode cX10_isDone 23 = .ok (.iaload, 1) := by decide +kernel
theorem dX10_isDone_24 : decode cX10_isDone 24 = .ok (.aload_n 0, 1) := by decide +kernel
theorem dX10_isDone_25 : decode cX10_isDone 25 = .ok (.getfield 13, 3) := by decide +kernel
theorem dX10_isDone_28 : decode cX10_isDone 28 = .ok (.iconst 2, 1) := by decide +kernel
theorem dX10_isDone_29 : decode cX10_isDone 29 = .ok (.iload_n 1, 1) := by decide +kernel
theorem dX10_isDone_30 : decode cX10_isDone 30 = .ok (.imul, 1) := by decide +kernel
theorem dX10_isDone_31 : decode cX10_isDone 31 = .ok (.iaload, 1) := by decide +kernel
theorem dX10_isDone_32 : decode cX10_isDone 32 = .ok (.if_icmp .ne 23, 3) := by decide +kernel
theorem dX10_isDone_35 : decode cX10_isDone 35 = .ok (.iload_n 2, 1) := by decide +kernel
theorem dX10_isDone_36 : decode cX10_isDone 36 = .ok (.aload_n 0, 1) := by decide +kernel
theorem dX10_isDone_37 : decode cX10_isDone 37 = .ok (.getfield 43, 3) := by decide +kernel
theorem dX10_isDone_40 : decode cX10_isDone 40 = .ok (.iconst 1, 1) := by decide +kernel
theorem dX10_isDone_41 : decode cX10_isDone 41 = .ok (.iaload, 1) := by decide +kernel
theorem dX10_isDone_42 : decode cX10_isDone 42 = .ok (.ior, 1) := by decide +kernel
theorem dX10_isDone_43 : decode cX10_isDone 43 = .ok (.iload 4, 2) := by decide +kernel
theorem dX10_isDone_45 : decode cX10_isDone 45 = .ok (.invokestatic 139, 3) := by decide +kernel
theorem dX10_isDone_48 : decode cX10_isDone 48 = .ok (.ifCond .ne 7, 3) := by decide +kernel
theorem dX10_isDone_51 : decode cX10_isDone 51 = .ok (.iconst 1, 1) := by decide +kernel
theorem dX10_isDone_52 : decode cX10_isDone 52 = .ok (.goto 4, 3) := by decide +kernel
theorem dX10_isDone_55 : decode cX10_isDone 55 = .ok (.iconst 0, 1) := by decide +kernel
theorem dX10_isDone_56 : decode cX10_isDone 56 = .ok (.iadd, 1) := by decide +kernel
theorem dX10_isDone_57 : decode cX10_isDone 57 = .ok (.istore_n 3, 1) := by decide +kernel
theorem dX10_isDone_58 : decode cX10_isDone 58 = .ok (.iinc 4 1, 3) := by decide +kernel
theorem dX10_isDone_61 : decode cX10_isDone 61 = .ok (.goto (-56), 3) := by decide +kernel
theorem dX10_isDone_64 : decode cX10_isDone 64 = .ok (.iload_n 3, 1) := by decide +kernel
theorem dX10_isDone_65 : decode cX10_isDone 65 = .ok (.aload_n 0, 1) := by decide +kernel
theorem dX10_isDone_66 : decode cX10_isDone 66 = .ok (.getfield 13, 3) := by decide +kernel
theorem dX10_isDone_69 : decode cX10_isDone 69 = .ok (.iconst 2, 1) := by decide +kernel
theorem dX10_isDone_70 : decode cX10_isDone 70 = .ok (.iload_n 1, 1) := by decide +kernel
theorem dX10_isDone_71 : decode cX10_isDone 71 = .ok (.imul, 1) := by decide +kernel
theorem dX10_isDone_72 : decode cX10_isDone 72 = .ok (.iconst 1, 1) := by decide +kernel
theorem dX10_isDone_73 : decode cX10_isDone 73 = .ok (.iadd, 1) := by decide +kernel
theorem dX10_isDone_74 : decode cX10_isDone 74 = .ok (.iaload, 1) := by decide +kernel
theorem dX10_isDone_75 : decode cX10_isDone 75 = .ok (.if_icmp .lt 7, 3) := by decide +kernel
theorem dX10_isDone_78 : decode cX10_isDone 78 = .ok (.iconst 1, 1) := by decide +kernel
theorem dX10_isDone_79 : decode cX10_isDone 79 = .ok (.goto 4, 3) := by decide +kernel
theorem dX10_isDone_82 : decode cX10_isDone 82 = .ok (.iconst 0, 1) := by decide +kernel
theorem dX10_isDone_83 : decode cX10_isDone 83 = .ok (.ireturn, 1) := by decide +kernel
theorem dX10_done_0 : decode cX10_done 0 = .ok (.aload_n 0, 1) := by decide +kernel
theorem dX10_done_1 : decode cX10_done 1 = .ok (.invokevirtual 150, 3) := by decide +kernel
theorem dX10_done_4 : decode cX10_done 4 = .ok (.istore_n 1, 1) := by decide +kernel
theorem dX10_done_5 : decode cX10_done 5 = .ok (.iconst 0, 1) := by decide +kernel
theorem dX10_done_6 : decode cX10_done 6 = .ok (.istore_n 2, 1) := by decide +kernel
theorem dX10_done_7 : decode cX10_done 7 = .ok (.iconst 0, 1) := by decide +kernel
theorem dX10_done_8 : decode cX10_done 8 = .ok (.istore_n 3, 1) := by decide +kernel
theorem dX10_done_9 : decode cX10_done 9 = .ok (.iload_n 3, 1) := by decide +kernel
theorem dX10_done_10 : decode cX10_done 10 = .ok (.aload_n 0, 1) := by decide +kernel
theorem dX10_done_11 : decode cX10_done 11 = .ok (.getfield 127, 3) := by decide +kernel
theorem dX10_done_14 : decode cX10_done 14 = .ok (.if_icmp .ge 26, 3) := by decide +kernel
theorem dX10_done_17 : decode cX10_done 17 = .ok (.iload_n 2, 1) := by decide +kernel
theorem dX10_done_18 : decode cX10_done 18 = .ok (.aload_n 0, 1) := by decide +kernel
theorem dX10_done_19 : decode cX10_done 19 = .ok (.iload_n 3, 1) := by decide +kernel
theorem dX10_done_20 : decode cX10_done 20 = .ok (.iload_n 1, 1) := by decide +kernel
theorem dX10_done_21 : decode cX10_done 21 = .ok (.invokevirtual 153, 3) := by decide +kernel
theorem dX10_done_24 : decode cX10_done 24 = .ok (.ifCond .eq 7, 3) := by decide +kernel
theorem dX10_done_27 : decode cX10_done 27 = .ok (.iconst 1, 1) := by decide +kernel
theorem dX10_done_28 : decode cX10_done 28 = .ok (.goto 4, 3) := by decide +kernel
theorem dX10_done_31 : decode cX10_done 31 = .ok (.iconst 0, 1) := by decide +kernel
theorem dX10_done_32 : decode cX10_done 32 = .ok (.iadd, 1) := by decide +kernel
theorem dX10_done_33 : decode cX10_done 33 = .ok (.istore_n 2, 1) := by decide +kernel
theorem dX10_done_34 : decode cX10_done 34 = .ok (.iinc 3 1, 3) := by decide +kernel
theorem dX10_done_37 : decode cX10_done 37 = .ok (.goto (-28), 3) := by decide +kernel
theorem dX10_done_40 : decode cX10_done 40 = .ok (.iload_n 2, 1) := by decide +kernel
theorem dX10_done_41 : decode cX10_done 41 = .ok (.ireturn, 1) := by decide +kernel
theorem dX10_goesBy_0 : decode cX10_goesBy 0 = .ok (.aload_n 0, 1) := by decide +kernel
theorem dX10_goesBy_1 : decode cX10_goesBy 1 = .ok (.invokevirtual 150, 3) := by decide +kernel
theorem dX10_goesBy_4 : decode cX10_goesBy 4 = .ok (.istore_n 1, 1) := by decide +kernel
theorem dX10_goesBy_5 : decode cX10_goesBy 5 = .ok (.iconst 0, 1) := by decide +kernel
theorem dX10_goesBy_6 : decode cX10_goesBy 6 = .ok (.istore_n 2, 1) := by decide +kernel
theorem dX10_goesBy_7 : decode cX10_goesBy 7 = .ok (.iconst 0, 1) := by decide +kernel
theorem dX10_goesBy_8 : decode cX10_goesBy 8 = .ok (.istore_n 3, 1) := by decide +kernel
theorem dX10_goesBy_9 : decode cX10_goesBy 9 = .ok (.iload_n 3, 1) := by decide +kernel
theorem dX10_goesBy_10 : decode cX10_goesBy 10 = .ok (.aload_n 0, 1) := by decide +kernel
theorem dX10_goesBy_11 : decode cX10_goesBy 11 = .ok (.getfield 73, 3) := by decide +kernel
theorem dX10_goesBy_14 : decode cX10_goesBy 14 = .ok (.if_icmp .ge 47, 3) := by decide +kernel
theorem dX10_goesBy_17 : decode cX10_goesBy 17 = .ok (.iload_n 2, 1) := by decide +kernel
theorem dX10_goesBy_18 : decode cX10_goesBy 18 = .ok (.iload_n 1, 1) := by decide +kernel
theorem dX10_goesBy_19 : decode cX10_goesBy 19 = .ok (.iload_n 3, 1) := by decide +kernel
theorem dX10_goesBy_20 : decode cX10_goesBy 20 = .ok (.invokestatic 139, 3) := by decide +kernel
theorem dX10_goesBy_23 : decode cX10_goesBy 23 = .ok (.ifCond .eq 29, 3) := by decide +kernel
theorem dX10_goesBy_26 : decode cX10_goesBy 26 = .ok (.aload_n 0, 1) := by decide +kernel
theorem dX10_goesBy_27 : decode cX10_goesBy 27 = .ok (.iload_n 3, 1) := by decide +kernel
theorem dX10_goesBy_28 : decode cX10_goesBy 28 = .ok (.invokevirtual 147, 3) := by decide +kernel
theorem dX10_goesBy_31 : decode cX10_goesBy 31 = .ok (.aload_n 0, 1) := by decide +kernel
theorem dX10_goesBy_32 : decode cX10_goesBy 32 = .ok (.getfield 43, 3) := by decide +kernel
theorem dX10_goesBy_35 : decode cX10_goesBy 35 = .ok (.bipush 15, 2) := by decide +kernel
theorem dX10_goesBy_37 : decode cX10_goesBy 37 = .ok (.iload_n 3, 1) := by decide +kernel
theorem dX10_goesBy_38 : decode cX10_goesBy 38 = .ok (.iadd, 1) := by decide +kernel
theorem dX10_goesBy_39 : decode cX10_goesBy 39 = .ok (.iaload, 1) := by decide +kernel
theorem dX10_goesBy_40 : decode cX10_goesBy 40 = .ok (.isub, 1) := by decide +kernel
theorem dX10_goesBy_41 : decode cX10_goesBy 41 = .ok (.bipush 8, 2) := by decide +kernel
theorem dX10_goesBy_43 : decode cX10_goesBy 43 = .ok (.if_icmp .lt 9, 3) := by decide +kernel
theorem dX10_goesBy_46 : decode cX10_goesBy 46 = .ok (.iconst 1, 1) := by decide +kernel
theorem dX10_goesBy_47 : decode cX10_goesBy 47 = .ok (.iload_n 3, 1) := by decide +kernel
theorem dX10_goesBy_48 : decode cX10_goesBy 48 = .ok (.ishl, 1) := by decide +kernel
theorem dX10_goesBy_49 : decode cX10_goesBy 49 = .ok (.goto 4, 3) := by decide +kernel
theorem dX10_goesBy_52 : decode cX10_goesBy 52 = .ok (.iconst 0, 1) := by decide +kernel
theorem dX10_goesBy_53 : decode cX10_goesBy 53 = .ok (.ior, 1) := by decide +kernel
theorem dX10_goesBy_54 : decode cX10_goesBy 54 = .ok (.istore_n 2, 1) := by decide +kernel
theorem dX10_goesBy_55 : decode cX10_goesBy 55 = .ok (.iinc 3 1, 3) := by decide +kernel
theorem dX10_goesBy_58 : decode cX10_goesBy 58 = .ok (.goto (-49), 3) := by decide +kernel
theorem dX10_goesBy_61 : decode cX10_goesBy 61 = .ok (.iconst 0, 1) := by decide +kernel
theorem dX10_goesBy_62 : decode cX10_goesBy 62 = .ok (.istore_n 3, 1) := by decide +kernel
theorem dX10_goesBy_63 : decode cX10_goesBy 63 = .ok (.iload_n 3, 1) := by decide +kernel
theorem dX10_goesBy_64 : decode cX10_goesBy 64 = .ok (.aload_n 0, 1) := by decide +kernel
theorem dX10_goesBy_65 : decode cX10_goesBy 65 = .ok (.getfield 73, 3) := by decide +kernel
theorem dX10_goesBy_68 : decode cX10_goesBy 68 = .ok (.if_icmp .ge 122, 3) := by decide +kernel
theorem dX10_goesBy_71 : decode cX10_goesBy 71 = .ok (.aload_n 0, 1) := by decide +kernel
theorem dX10_goesBy_72 : decode cX10_goesBy 72 = .ok (.getfield 43, 3) := by decide +kernel
theorem dX10_goesBy_75 : decode cX10_goesBy 75 = .ok (.iconst 1, 1) := by decide +kernel
theorem dX10_goesBy_76 : decode cX10_goesBy 76 = .ok (.iaload, 1) := by decide +kernel
theorem dX10_goesBy_77 : decode cX10_goesBy 77 = .ok (.iload_n 2, 1) := by decide +kernel
theorem dX10_goesBy_78 : decode cX10_goesBy 78 = .ok (.ior, 1) := by decide +kernel
theorem dX10_goesBy_79 : decode cX10_goesBy 79 = .ok (.iload_n 3, 1) := by decide +kernel
theorem dX10_goesBy_80 : decode cX10_goesBy 80 = .ok (.invokestatic 139, 3) := by decide +kernel
theorem dX10_goesBy_83 : decode cX10_goesBy 83 = .ok (.ifCond .ne 70, 3) := by decide +kernel
theorem dX10_goesBy_86 : decode cX10_goesBy 86 = .ok (.iload_n 1, 1) := by decide +kernel
theorem dX10_goesBy_87 : decode cX10_goesBy 87 = .ok (.iload_n 3, 1) := by decide +kernel
theorem dX10_goesBy_88 : decode cX10_goesBy 88 = .ok (.invokestatic 139, 3) := by decide +kernel
theorem dX10_goesBy_91 : decode cX10_goesBy 91 = .ok (.ifCond .eq 17, 3) := by decide +kernel
theorem dX10_goesBy_94 : decode cX10_goesBy 94 = .ok (.aload_n 0, 1) := by decide +kernel
theorem dX10_goesBy_95 : decode cX10_goesBy 95 = .ok (.getfield 43, 3) := by decide +kernel
theorem dX10_goesBy_98 : decode cX10_goesBy 98 = .ok (.bipush 15, 2) := by decide +kernel
theorem dX10_goesBy_100 : decode cX10_goesBy 100 = .ok (.iload_n 3, 1) := by decide +kernel
theorem dX10_goesBy_101 : decode cX10_goesBy 101 = .ok (.iadd, 1) := by decide +kernel
theorem dX10_goesBy_102 : decode cX10_goesBy 102 = .ok (.iaload, 1) := by decide +kernel
theorem dX10_goesBy_103 : decode cX10_goesBy 103 = .ok (.iconst 1, 1) := by decide +kernel
theorem dX10_goesBy_104 : decode cX10_goesBy 104 = .ok (.isub, 1) := by decide +kernel
theorem dX10_goesBy_105 : decode cX10_goesBy 105 = .ok (.goto 14, 3) := by decide +kernel
theorem dX10_goesBy_108 : decode cX10_goesBy 108 = .ok (.aload_n 0, 1) := by decide +kernel
theorem dX10_goesBy_109 : decode cX10_goesBy 109 = .ok (.getfield 43, 3) := by decide +kernel
theorem dX10_goesBy_112 : decode cX10_goesBy 112 = .ok (.bipush 15, 2) := by decide +kernel
theorem dX10_goesBy_114 : decode cX10_goesBy 114 = .ok (.iload_n 3, 1) := by decide +kernel
theorem dX10_goesBy_115 : decode cX10_goesBy 115 = .ok (.iadd, 1) := by decide +kernel
theorem dX10_goesBy_116 : decode cX10_goesBy 116 = .ok (.iaload, 1) := by decide +kernel
theorem dX10_goesBy_117 : decode cX10_goesBy 117 = .ok (.iconst 1, 1) := by decide +kernel
theorem dX10_goesBy_118 : decode cX10_goesBy 118 = .ok (.iadd, 1) := by decide +kernel
theorem dX10_goesBy_119 : decode cX10_goesBy 119 = .ok (.istore 4, 2) := by decide +kernel
theorem dX10_goesBy_121 : decode cX10_goesBy 121 = .ok (.aload_n 0, 1) := by decide +kernel
theorem dX10_goesBy_122 : decode cX10_goesBy 122 = .ok (.getfield 43, 3) := by decide +kernel
theorem dX10_goesBy_125 : decode cX10_goesBy 125 = .ok (.bipush 15, 2) := by decide +kernel
theorem dX10_goesBy_127 : decode cX10_goesBy 127 = .ok (.iload_n 3, 1) := by decide +kernel
theorem dX10_goesBy_128 : decode cX10_goesBy 128 = .ok (.iadd, 1) := by decide +kernel
theorem dX10_goesBy_129 : decode cX10_goesBy 129 = .ok (.iload 4, 2) := by decide +kernel
theorem dX10_goesBy_131 : decode cX10_goesBy 131 = .ok (.ifCond .ge 7, 3) := by decide +kernel
theorem dX10_goesBy_134 : decode cX10_goesBy 134 = .ok (.iconst 0, 1) := by decide +kernel
theorem dX10_goesBy_135 : decode cX10_goesBy 135 = .ok (.goto 17, 3) := by decide +kernel
theorem dX10_goesBy_138 : decode cX10_goesBy 138 = .ok (.iload 4, 2) := by decide +kernel
theorem dX10_goesBy_140 : decode cX10_goesBy 140 = .ok (.bipush 30, 2) := by decide +kernel
theorem dX10_goesBy_142 : decode cX10_goesBy 142 = .ok (.if_icmp .le 8, 3) := by decide +kernel
theorem dX10_goesBy_145 : decode cX10_goesBy 145 = .ok (.bipush 30, 2) := by decide +kernel
theorem dX10_goesBy_147 : decode cX10_goesBy 147 = .ok (.goto 5, 3) := by decide +kernel
theorem dX10_goesBy_150 : decode cX10_goesBy 150 = .ok (.iload 4, 2) := by decide +kernel
theorem dX10_goesBy_152 : decode cX10_goesBy 152 = .ok (.iastore, 1) := by decide +kernel
theorem dX10_goesBy_153 : decode cX10_goesBy 153 = .ok (.aload_n 0, 1) := by decide +kernel
theorem dX10_goesBy_154 : decode cX10_goesBy 154 = .ok (.getfield 43, 3) := by decide +kernel
theorem dX10_goesBy_157 : decode cX10_goesBy 157 = .ok (.bipush 9, 2) := by decide +kernel
theorem dX10_goesBy_159 : decode cX10_goesBy 159 = .ok (.iload_n 3, 1) := by decide +kernel
theorem dX10_goesBy_160 : decode cX10_goesBy 160 = .ok (.iadd, 1) := by decide +kernel
theorem dX10_goesBy_161 : decode cX10_goesBy 161 = .ok (.dup2, 1) := by decide +kernel
theorem dX10_goesBy_162 : decode cX10_goesBy 162 = .ok (.iaload, 1) := by decide +kernel
theorem dX10_goesBy_163 : decode cX10_goesBy 163 = .ok (.aload_n 0, 1) := by decide +kernel
theorem dX10_goesBy_164 : decode cX10_goesBy 164 = .ok (.getfield 43, 3) := by decide +kernel
theorem dX10_goesBy_167 : decode cX10_goesBy 167 = .ok (.bipush 9, 2) := by decide +kernel
theorem dX10_goesBy_169 : decode cX10_goesBy 169 = .ok (.iload_n 3, 1) := by decide +kernel
theorem dX10_goesBy_170 : decode cX10_goesBy 170 = .ok (.iadd, 1) := by decide +kernel
theorem dX10_goesBy_171 : decode cX10_goesBy 171 = .ok (.iaload, 1) := by decide +kernel
theorem dX10_goesBy_172 : decode cX10_goesBy 172 = .ok (.bipush 99, 2) := by decide +kernel
theorem dX10_goesBy_174 : decode cX10_goesBy 174 = .ok (.if_icmp .ge 7, 3) := by decide +kernel
theorem dX10_goesBy_177 : decode cX10_goesBy 177 = .ok (.iconst 1, 1) := by decide +kernel
theorem dX10_goesBy_178 : decode cX10_goesBy 178 = .ok (.goto 4, 3) := by decide +kernel
theorem dX10_goesBy_181 : decode cX10_goesBy 181 = .ok (.iconst 0, 1) := by decide +kernel
theorem dX10_goesBy_182 : decode cX10_goesBy 182 = .ok (.iadd, 1) := by decide +kernel
theorem dX10_goesBy_183 : decode cX10_goesBy 183 = .ok (.iastore, 1) := by decide +kernel
theorem dX10_goesBy_184 : decode cX10_goesBy 184 = .ok (.iinc 3 1, 3) := by decide +kernel
theorem dX10_goesBy_187 : decode cX10_goesBy 187 = .ok (.goto (-124), 3) := by decide +kernel
theorem dX10_goesBy_190 : decode cX10_goesBy 190 = .ok (.aload_n 0, 1) := by decide +kernel
theorem dX10_goesBy_191 : decode cX10_goesBy 191 = .ok (.getfield 43, 3) := by decide +kernel
theorem dX10_goesBy_194 : decode cX10_goesBy 194 = .ok (.iconst 1, 1) := by decide +kernel
theorem dX10_goesBy_195 : decode cX10_goesBy 195 = .ok (.dup2, 1) := by decide +kernel
theorem dX10_goesBy_196 : decode cX10_goesBy 196 = .ok (.iaload, 1) := by decide +kernel
theorem dX10_goesBy_197 : decode cX10_goesBy 197 = .ok (.iload_n 2, 1) := by decide +kernel
theorem dX10_goesBy_198 : decode cX10_goesBy 198 = .ok (.ior, 1) := by decide +kernel
theorem dX10_goesBy_199 : decode cX10_goesBy 199 = .ok (.iastore, 1) := by decide +kernel
theorem dX10_goesBy_200 : decode cX10_goesBy 200 = .ok (.aload_n 0, 1) := by decide +kernel
theorem dX10_goesBy_201 : decode cX10_goesBy 201 = .ok (.getfield 43, 3) := by decide +kernel
theorem dX10_goesBy_204 : decode cX10_goesBy 204 = .ok (.iconst 2, 1) := by decide +kernel
theorem dX10_goesBy_205 : decode cX10_goesBy 205 = .ok (.iconst 0, 1) := by decide +kernel
theorem dX10_goesBy_206 : decode cX10_goesBy 206 = .ok (.iastore, 1) := by decide +kernel
theorem dX10_goesBy_207 : decode cX10_goesBy 207 = .ok (.aload_n 0, 1) := by decide +kernel
theorem dX10_goesBy_208 : decode cX10_goesBy 208 = .ok (.getfield 43, 3) := by decide +kernel
theorem dX10_goesBy_211 : decode cX10_goesBy 211 = .ok (.iconst 0, 1) := by decide +kernel
theorem dX10_goesBy_212 : decode cX10_goesBy 212 = .ok (.dup2, 1) := by decide +kernel
theorem dX10_goesBy_213 : decode cX10_goesBy 213 = .ok (.iaload, 1) := by decide +kernel
theorem dX10_goesBy_214 : decode cX10_goesBy 214 = .ok (.iconst 1, 1) := by decide +kernel
theorem dX10_goesBy_215 : decode cX10_goesBy 215 = .ok (.iadd, 1) := by decide +kernel
theorem dX10_goesBy_216 : decode cX10_goesBy 216 = .ok (.iastore, 1) := by decide +kernel
theorem dX10_goesBy_217 : decode cX10_goesBy 217 = .ok (.return_, 1) := by decide +kernel
theorem dX10_canPromote_0 : decode cX10_canPromote 0 = .ok (.aload_n 0, 1) := by decide +kernel
theorem dX10_canPromote_1 : decode cX10_canPromote 1 = .ok (.invokevirtual 150, 3) := by decide +kernel
theorem dX10_canPromote_4 : decode cX10_canPromote 4 = .ok (.aload_n 0, 1) := by decide +kernel
theorem dX10_canPromote_5 : decode cX10_canPromote 5 = .ok (.getfield 43, 3) := by decide +kernel
theorem dX10_canPromote_8 : decode cX10_canPromote 8 = .ok (.iconst 1, 1) := by decide +kernel
theorem dX10_canPromote_9 : decode cX10_canPromote 9 = .ok (.iaload, 1) := by decide +kernel
theorem dX10_canPromote_10 : decode cX10_canPromote 10 = .ok (.ior, 1) := by decide +kernel
theorem dX10_canPromote_11 : decode cX10_canPromote 11 = .ok (.iload_n 1, 1) := by decide +kernel
theorem dX10_canPromote_12 : decode cX10_canPromote 12 = .ok (.invokestatic 139, 3) := by decide +kernel
theorem dX10_canPromote_15 : decode cX10_canPromote 15 = .ok (.ifCond .ne 18, 3) := by decide +kernel
theorem dX10_canPromote_18 : decode cX10_canPromote 18 = .ok (.aload_n 0, 1) := by decide +kernel
theorem dX10_canPromote_19 : decode cX10_canPromote 19 = .ok (.getfield 43, 3) := by decide +kernel
theorem dX10_canPromote_22 : decode cX10_canPromote 22 = .ok (.iconst 3, 1) := by decide +kernel
theorem dX10_canPromote_23 : decode cX10_canPromote 23 = .ok (.iload_n 1, 1) := by decide +kernel
theorem dX10_canPromote_24 : decode cX10_canPromote 24 = .ok (.iadd, 1) := by decide +kernel
theorem dX10_canPromote_25 : decode cX10_canPromote 25 = .ok (.iaload, 1) := by decide +kernel
theorem dX10_canPromote_26 : decode cX10_canPromote 26 = .ok (.ifCond .le 7, 3) := by decide +kernel
theorem dX10_canPromote_29 : decode cX10_canPromote 29 = .ok (.iconst 1, 1) := by decide +kernel
theorem dX10_canPromote_30 : decode cX10_canPromote 30 = .ok (.goto 4, 3) := by decide +kernel
theorem dX10_canPromote_33 : decode cX10_canPromote 33 = .ok (.iconst 0, 1) := by decide +kernel
theorem dX10_canPromote_34 : decode cX10_canPromote 34 = .ok (.ireturn, 1) := by decide +kernel
theorem dX10_canHoist_0 : decode cX10_canHoist 0 = .ok (.aload_n 0, 1) := by decide +kernel
theorem dX10_canHoist_1 : decode cX10_canHoist 1 = .ok (.getfield 43, 3) := by decide +kernel
theorem dX10_canHoist_4 : decode cX10_canHoist 4 = .ok (.iconst 1, 1) := by decide +kernel
theorem dX10_canHoist_5 : decode cX10_canHoist 5 = .ok (.iaload, 1) := by decide +kernel
theorem dX10_canHoist_6 : decode cX10_canHoist 6 = .ok (.iload_n 1, 1) := by decide +kernel
theorem dX10_canHoist_7 : decode cX10_canHoist 7 = .ok (.invokestatic 139, 3) := by decide +kernel
theorem dX10_canHoist_10 : decode cX10_canHoist 10 = .ok (.ifCond .ne 24, 3) := by decide +kernel
theorem dX10_canHoist_13 : decode cX10_canHoist 13 = .ok (.aload_n 0, 1) := by decide +kernel
theorem dX10_canHoist_14 : decode cX10_canHoist 14 = .ok (.getfield 43, 3) := by decide +kernel
theorem dX10_canHoist_17 : decode cX10_canHoist 17 = .ok (.iconst 3, 1) := by decide +kernel
theorem dX10_canHoist_18 : decode cX10_canHoist 18 = .ok (.iload_n 1, 1) := by decide +kernel
theorem dX10_canHoist_19 : decode cX10_canHoist 19 = .ok (.iadd, 1) := by decide +kernel
theorem dX10_canHoist_20 : decode cX10_canHoist 20 = .ok (.iaload, 1) := by decide +kernel
theorem dX10_canHoist_21 : decode cX10_canHoist 21 = .ok (.aload_n 0, 1) := by decide +kernel
theorem dX10_canHoist_22 : decode cX10_canHoist 22 = .ok (.getfield 80, 3) := by decide +kernel
theorem dX10_canHoist_25 : decode cX10_canHoist 25 = .ok (.iconst 1, 1) := by decide +kernel
theorem dX10_canHoist_26 : decode cX10_canHoist 26 = .ok (.isub, 1) := by decide +kernel
theorem dX10_canHoist_27 : decode cX10_canHoist 27 = .ok (.if_icmp .ge 7, 3) := by decide +kernel
theorem dX10_canHoist_30 : decode cX10_canHoist 30 = .ok (.iconst 1, 1) := by decide +kernel
theorem dX10_canHoist_31 : decode cX10_canHoist 31 = .ok (.goto 4, 3) := by decide +kernel
theorem dX10_canHoist_34 : decode cX10_canHoist 34 = .ok (.iconst 0, 1) := by decide +kernel
theorem dX10_canHoist_35 : decode cX10_canHoist 35 = .ok (.ireturn, 1) := by decide +kernel
theorem dX10_canCall_0 : decode cX10_canCall 0 = .ok (.aload_n 0, 1) := by decide +kernel
theorem dX10_canCall_1 : decode cX10_canCall 1 = .ok (.getfield 43, 3) := by decide +kernel
theorem dX10_canCall_4 : decode cX10_canCall 4 = .ok (.iconst 1, 1) := by decide +kernel
theorem dX10_canCall_5 : decode cX10_canCall 5 = .ok (.iaload, 1) := by decide +kernel
theorem dX10_canCall_6 : decode cX10_canCall 6 = .ok (.aload_n 0, 1) := by decide +kernel
theorem dX10_canCall_7 : decode cX10_canCall 7 = .ok (.getfield 43, 3) := by decide +kernel
theorem dX10_canCall_10 : decode cX10_canCall 10 = .ok (.iconst 2, 1) := by decide +kernel
theorem dX10_canCall_11 : decode cX10_canCall 11 = .ok (.iaload, 1) := by decide +kernel
theorem dX10_canCall_12 : decode cX10_canCall 12 = .ok (.ior, 1) := by decide +kernel
theorem dX10_canCall_13 : decode cX10_canCall 13 = .ok (.iload_n 1, 1) := by decide +kernel
theorem dX10_canCall_14 : decode cX10_canCall 14 = .ok (.invokestatic 139, 3) := by decide +kernel
theorem dX10_canCall_17 : decode cX10_canCall 17 = .ok (.ifCond .ne 7, 3) := by decide +kernel
theorem dX10_canCall_20 : decode cX10_canCall 20 = .ok (.iconst 1, 1) := by decide +kernel
theorem dX10_canCall_21 : decode cX10_canCall 21 = .ok (.goto 4, 3) := by decide +kernel
theorem dX10_canCall_24 : decode cX10_canCall 24 = .ok (.iconst 0, 1) := by decide +kernel
theorem dX10_canCall_25 : decode cX10_canCall 25 = .ok (.ireturn, 1) := by decide +kernel
theorem dX10_calls_0 : decode cX10_calls 0 = .ok (.aload_n 0, 1) := by decide +kernel
theorem dX10_calls_1 : decode cX10_calls 1 = .ok (.invokevirtual 150, 3) := by decide +kernel
theorem dX10_calls_4 : decode cX10_calls 4 = .ok (.istore_n 2, 1) := by decide +kernel
theorem dX10_calls_5 : decode cX10_calls 5 = .ok (.iconst 0, 1) := by decide +kernel
theorem dX10_calls_6 : decode cX10_calls 6 = .ok (.istore_n 3, 1) := by decide +kernel
theorem dX10_calls_7 : decode cX10_calls 7 = .ok (.iload_n 3, 1) := by decide +kernel
theorem dX10_calls_8 : decode cX10_calls 8 = .ok (.aload_n 0, 1) := by decide +kernel
theorem dX10_calls_9 : decode cX10_calls 9 = .ok (.getfield 73, 3) := by decide +kernel
theorem dX10_calls_12 : decode cX10_calls 12 = .ok (.if_icmp .ge 74, 3) := by decide +kernel
theorem dX10_calls_15 : decode cX10_calls 15 = .ok (.aload_n 0, 1) := by decide +kernel
theorem dX10_calls_16 : decode cX10_calls 16 = .ok (.getfield 43, 3) := by decide +kernel
theorem dX10_calls_19 : decode cX10_calls 19 = .ok (.bipush 15, 2) := by decide +kernel
theorem dX10_calls_21 : decode cX10_calls 21 = .ok (.iload_n 1, 1) := by decide +kernel
theorem dX10_calls_22 : decode cX10_calls 22 = .ok (.iadd, 1) := by decide +kernel
theorem dX10_calls_23 : decode cX10_calls 23 = .ok (.dup2, 1) := by decide +kernel
theorem dX10_calls_24 : decode cX10_calls 24 = .ok (.iaload, 1) := by decide +kernel
theorem dX10_calls_25 : decode cX10_calls 25 = .ok (.aload_n 0, 1) := by decide +kernel
theorem dX10_calls_26 : decode cX10_calls 26 = .ok (.getfield 43, 3) := by decide +kernel
theorem dX10_calls_29 : decode cX10_calls 29 = .ok (.iconst 3, 1) := by decide +kernel
theorem dX10_calls_30 : decode cX10_calls 30 = .ok (.iload_n 3, 1) := by decide +kernel
theorem dX10_calls_31 : decode cX10_calls 31 = .ok (.iadd, 1) := by decide +kernel
theorem dX10_calls_32 : decode cX10_calls 32 = .ok (.iaload, 1) := by decide +kernel
theorem dX10_calls_33 : decode cX10_calls 33 = .ok (.aload_n 0, 1) := by decide +kernel
theorem dX10_calls_34 : decode cX10_calls 34 = .ok (.getfield 43, 3) := by decide +kernel
theorem dX10_calls_37 : decode cX10_calls 37 = .ok (.iconst 3, 1) := by decide +kernel
theorem dX10_calls_38 : decode cX10_calls 38 = .ok (.iload_n 1, 1) := by decide +kernel
theorem dX10_calls_39 : decode cX10_calls 39 = .ok (.iadd, 1) := by decide +kernel
theorem dX10_calls_40 : decode cX10_calls 40 = .ok (.iaload, 1) := by decide +kernel
theorem dX10_calls_41 : decode cX10_calls 41 = .ok (.if_icmp .le 36, 3) := by decide +kernel
theorem dX10_calls_44 : decode cX10_calls 44 = .ok (.iload_n 2, 1) := by decide +kernel
theorem dX10_calls_45 : decode cX10_calls 45 = .ok (.aload_n 0, 1) := by decide +kernel
theorem dX10_calls_46 : decode cX10_calls 46 = .ok (.getfield 43, 3) := by decide +kernel
theorem dX10_calls_49 : decode cX10_calls 49 = .ok (.iconst 1, 1) := by decide +kernel
theorem dX10_calls_50 : decode cX10_calls 50 = .ok (.iaload, 1) := by decide +kernel
theorem dX10_calls_51 : decode cX10_calls 51 = .ok (.ior, 1) := by decide +kernel
theorem dX10_calls_52 : decode cX10_calls 52 = .ok (.iload_n 3, 1) := by decide +kernel
theorem dX10_calls_53 : decode cX10_calls 53 = .ok (.invokestatic 139, 3) := by decide +kernel
theorem dX10_calls_56 : decode cX10_calls 56 = .ok (.ifCond .ne 21, 3) := by decide +kernel
theorem dX10_calls_59 : decode cX10_calls 59 = .ok (.aload_n 0, 1) := by decide +kernel
theorem dX10_calls_60 : decode cX10_calls 60 = .ok (.getfield 43, 3) := by decide +kernel
theorem dX10_calls_63 : decode cX10_calls 63 = .ok (.bipush 15, 2) := by decide +kernel
theorem dX10_calls_65 : decode cX10_calls 65 = .ok (.iload_n 1, 1) := by decide +kernel
theorem dX10_calls_66 : decode cX10_calls 66 = .ok (.iadd, 1) := by decide +kernel
theorem dX10_calls_67 : decode cX10_calls 67 = .ok (.iaload, 1) := by decide +kernel
theorem dX10_calls_68 : decode cX10_calls 68 = .ok (.bipush 30, 2) := by decide +kernel
theorem dX10_calls_70 : decode cX10_calls 70 = .ok (.if_icmp .ge 7, 3) := by decide +kernel
theorem dX10_calls_73 : decode cX10_calls 73 = .ok (.iconst 1, 1) := by decide +kernel
theorem dX10_calls_74 : decode cX10_calls 74 = .ok (.goto 4, 3) := by decide +kernel
theorem dX10_calls_77 : decode cX10_calls 77 = .ok (.iconst 0, 1) := by decide +kernel
theorem dX10_calls_78 : decode cX10_calls 78 = .ok (.iadd, 1) := by decide +kernel
theorem dX10_calls_79 : decode cX10_calls 79 = .ok (.iastore, 1) := by decide +kernel
theorem dX10_calls_80 : decode cX10_calls 80 = .ok (.iinc 3 1, 3) := by decide +kernel
theorem dX10_calls_83 : decode cX10_calls 83 = .ok (.goto (-76), 3) := by decide +kernel
theorem dX10_calls_86 : decode cX10_calls 86 = .ok (.aload_n 0, 1) := by decide +kernel
theorem dX10_calls_87 : decode cX10_calls 87 = .ok (.getfield 43, 3) := by decide +kernel
theorem dX10_calls_90 : decode cX10_calls 90 = .ok (.iconst 2, 1) := by decide +kernel
theorem dX10_calls_91 : decode cX10_calls 91 = .ok (.dup2, 1) := by decide +kernel
theorem dX10_calls_92 : decode cX10_calls 92 = .ok (.iaload, 1) := by decide +kernel
theorem dX10_calls_93 : decode cX10_calls 93 = .ok (.iconst 1, 1) := by decide +kernel
theorem dX10_calls_94 : decode cX10_calls 94 = .ok (.iload_n 1, 1) := by decide +kernel
theorem dX10_calls_95 : decode cX10_calls 95 = .ok (.ishl, 1) := by decide +kernel
theorem dX10_calls_96 : decode cX10_calls 96 = .ok (.ior, 1) := by decide +kernel
theorem dX10_calls_97 : decode cX10_calls 97 = .ok (.iastore, 1) := by decide +kernel
theorem dX10_calls_98 : decode cX10_calls 98 = .ok (.return_, 1) := by decide +kernel
theorem dX10_person_0 : decode cX10_person 0 = .ok (.aload_n 0, 1) := by decide +kernel
theorem dX10_person_1 : decode cX10_person 1 = .ok (.iload_n 1, 1) := by decide +kernel
theorem dX10_person_2 : decode cX10_person 2 = .ok (.invokevirtual 156, 3) := by decide +kernel
theorem dX10_person_5 : decode cX10_person 5 = .ok (.ifCond .ne 5, 3) := by decide +kernel
theorem dX10_person_8 : decode cX10_person 8 = .ok (.iconst (-1), 1) := by decide +kernel
theorem dX10_person_9 : decode cX10_person 9 = .ok (.ireturn, 1) := by decide +kernel
theorem dX10_person_10 : decode cX10_person 10 = .ok (.aload_n 0, 1) := by decide +kernel
theorem dX10_person_11 : decode cX10_person 11 = .ok (.invokevirtual 159, 3) := by decide +kernel
theorem dX10_person_14 : decode cX10_person 14 = .ok (.iload_n 2, 1) := by decide +kernel
theorem dX10_person_15 : decode cX10_person 15 = .ok (.tableswitch 137 0 7 #[45, 52, 61, 71, 81, 87, 104, 123], 45) := by decide +kernel
theorem dX10_person_60 : decode cX10_person 60 = .ok (.aload_n 0, 1) := by decide +kernel
theorem dX10_person_61 : decode cX10_person 61 = .ok (.getfield 7, 3) := by decide +kernel
theorem dX10_person_64 : decode cX10_person 64 = .ok (.iload_n 1, 1) := by decide +kernel
theorem dX10_person_65 : decode cX10_person 65 = .ok (.iaload, 1) := by decide +kernel
theorem dX10_person_66 : decode cX10_person 66 = .ok (.ireturn, 1) := by decide +kernel
theorem dX10_person_67 : decode cX10_person 67 = .ok (.aload_n 0, 1) := by decide +kernel
theorem dX10_person_68 : decode cX10_person 68 = .ok (.getfield 16, 3) := by decide +kernel
end
section
theorem dX10_person_71 : decode cX10_person 71 = .ok (.iconst 3, 1) := by decide +kernel
theorem dX10_person_72 : decode cX10_person 72 = .ok (.iload_n 1, 1) := by decide +kernel
theorem dX10_person_73 : decode cX10_person 73 = .ok (.iadd, 1) := by decide +kernel
theorem dX10_person_74 : decode cX10_person 74 = .ok (.iaload, 1) := by decide +kernel
theorem dX10_person_75 : decode cX10_person 75 = .ok (.ireturn, 1) := by decide +kernel
theorem dX10_person_76 : decode cX10_person 76 = .ok (.aload_n 0, 1) := by decide +kernel
theorem dX10_person_77 : decode cX10_person 77 = .ok (.getfield 16, 3) := by decide +kernel
theorem dX10_person_80 : decode cX10_person 80 = .ok (.bipush 9, 2) := by decide +kernel
theorem dX10_person_82 : decode cX10_person 82 = .ok (.iload_n 1, 1) := by decide +kernel
theorem dX10_person_83 : decode cX10_person 83 = .ok (.iadd, 1) := by decide +kernel
theorem dX10_person_84 : decode cX10_person 84 = .ok (.iaload, 1) := by decide +kernel
theorem dX10_person_85 : decode cX10_person 85 = .ok (.ireturn, 1) := by decide +kernel
theorem dX10_person_86 : decode cX10_person 86 = .ok (.aload_n 0, 1) := by decide +kernel
theorem dX10_person_87 : decode cX10_person 87 = .ok (.getfield 16, 3) := by decide +kernel
theorem dX10_person_90 : decode cX10_person 90 = .ok (.bipush 15, 2) := by decide +kernel
theorem dX10_person_92 : decode cX10_person 92 = .ok (.iload_n 1, 1) := by decide +kernel
theorem dX10_person_93 : decode cX10_person 93 = .ok (.iadd, 1) := by decide +kernel
theorem dX10_person_94 : decode cX10_person 94 = .ok (.iaload, 1) := by decide +kernel
theorem dX10_person_95 : decode cX10_person 95 = .ok (.ireturn, 1) := by decide +kernel
theorem dX10_person_96 : decode cX10_person 96 = .ok (.aload_n 0, 1) := by decide +kernel
theorem dX10_person_97 : decode cX10_person 97 = .ok (.iload_n 1, 1) := by decide +kernel
theorem dX10_person_98 : decode cX10_person 98 = .ok (.invokevirtual 147, 3) := by decide +kernel
theorem dX10_person_101 : decode cX10_person 101 = .ok (.ireturn, 1) := by decide +kernel
theorem dX10_person_102 : decode cX10_person 102 = .ok (.aload_n 0, 1) := by decide +kernel
theorem dX10_person_103 : decode cX10_person 103 = .ok (.invokevirtual 150, 3) := by decide +kernel
theorem dX10_person_106 : decode cX10_person 106 = .ok (.iload_n 1, 1) := by decide +kernel
theorem dX10_person_107 : decode cX10_person 107 = .ok (.invokestatic 139, 3) := by decide +kernel
theorem dX10_person_110 : decode cX10_person 110 = .ok (.ifCond .eq 7, 3) := by decide +kernel
theorem dX10_person_113 : decode cX10_person 113 = .ok (.iconst 1, 1) := by decide +kernel
theorem dX10_person_114 : decode cX10_person 114 = .ok (.goto 4, 3) := by decide +kernel
theorem dX10_person_117 : decode cX10_person 117 = .ok (.iconst 0, 1) := by decide +kernel
theorem dX10_person_118 : decode cX10_person 118 = .ok (.ireturn, 1) := by decide +kernel
theorem dX10_person_119 : decode cX10_person 119 = .ok (.aload_n 0, 1) := by decide +kernel
theorem dX10_person_120 : decode cX10_person 120 = .ok (.getfield 16, 3) := by decide +kernel
theorem dX10_person_123 : decode cX10_person 123 = .ok (.iconst 1, 1) := by decide +kernel
theorem dX10_person_124 : decode cX10_person 124 = .ok (.iaload, 1) := by decide +kernel
theorem dX10_person_125 : decode cX10_person 125 = .ok (.iload_n 1, 1) := by decide +kernel
theorem dX10_person_126 : decode cX10_person 126 = .ok (.invokestatic 139, 3) := by decide +kernel
theorem dX10_person_129 : decode cX10_person 129 = .ok (.ifCond .eq 7, 3) := by decide +kernel
theorem dX10_person_132 : decode cX10_person 132 = .ok (.iconst 1, 1) := by decide +kernel
theorem dX10_person_133 : decode cX10_person 133 = .ok (.goto 4, 3) := by decide +kernel
theorem dX10_person_136 : decode cX10_person 136 = .ok (.iconst 0, 1) := by decide +kernel
theorem dX10_person_137 : decode cX10_person 137 = .ok (.ireturn, 1) := by decide +kernel
theorem dX10_person_138 : decode cX10_person 138 = .ok (.aload_n 0, 1) := by decide +kernel
theorem dX10_person_139 : decode cX10_person 139 = .ok (.iload_n 1, 1) := by decide +kernel
theorem dX10_person_140 : decode cX10_person 140 = .ok (.invokevirtual 162, 3) := by decide +kernel
theorem dX10_person_143 : decode cX10_person 143 = .ok (.ifCond .eq 7, 3) := by decide +kernel
theorem dX10_person_146 : decode cX10_person 146 = .ok (.iconst 1, 1) := by decide +kernel
theorem dX10_person_147 : decode cX10_person 147 = .ok (.goto 4, 3) := by decide +kernel
theorem dX10_person_150 : decode cX10_person 150 = .ok (.iconst 0, 1) := by decide +kernel
theorem dX10_person_151 : decode cX10_person 151 = .ok (.ireturn, 1) := by decide +kernel
theorem dX10_person_152 : decode cX10_person 152 = .ok (.iconst (-1), 1) := by decide +kernel
theorem dX10_person_153 : decode cX10_person 153 = .ok (.ireturn, 1) := by decide +kernel
theorem dX10_fear_0 : decode cX10_fear 0 = .ok (.aload_n 0, 1) := by decide +kernel
theorem dX10_fear_1 : decode cX10_fear 1 = .ok (.iload_n 1, 1) := by decide +kernel
theorem dX10_fear_2 : decode cX10_fear 2 = .ok (.invokevirtual 156, 3) := by decide +kernel
theorem dX10_fear_5 : decode cX10_fear 5 = .ok (.ifCond .eq 11, 3) := by decide +kernel
theorem dX10_fear_8 : decode cX10_fear 8 = .ok (.aload_n 0, 1) := by decide +kernel
theorem dX10_fear_9 : decode cX10_fear 9 = .ok (.iload_n 2, 1) := by decide +kernel
theorem dX10_fear_10 : decode cX10_fear 10 = .ok (.invokevirtual 165, 3) := by decide +kernel
theorem dX10_fear_13 : decode cX10_fear 13 = .ok (.ifCond .ne 5, 3) := by decide +kernel
theorem dX10_fear_16 : decode cX10_fear 16 = .ok (.iconst (-1), 1) := by decide +kernel
theorem dX10_fear_17 : decode cX10_fear 17 = .ok (.ireturn, 1) := by decide +kernel
theorem dX10_fear_18 : decode cX10_fear 18 = .ok (.aload_n 0, 1) := by decide +kernel
theorem dX10_fear_19 : decode cX10_fear 19 = .ok (.invokevirtual 159, 3) := by decide +kernel
theorem dX10_fear_22 : decode cX10_fear 22 = .ok (.aload_n 0, 1) := by decide +kernel
theorem dX10_fear_23 : decode cX10_fear 23 = .ok (.iload_n 1, 1) := by decide +kernel
theorem dX10_fear_24 : decode cX10_fear 24 = .ok (.iload_n 2, 1) := by decide +kernel
theorem dX10_fear_25 : decode cX10_fear 25 = .ok (.aload_n 0, 1) := by decide +kernel
theorem dX10_fear_26 : decode cX10_fear 26 = .ok (.getfield 7, 3) := by decide +kernel
theorem dX10_fear_29 : decode cX10_fear 29 = .ok (.iload_n 1, 1) := by decide +kernel
theorem dX10_fear_30 : decode cX10_fear 30 = .ok (.iaload, 1) := by decide +kernel
theorem dX10_fear_31 : decode cX10_fear 31 = .ok (.invokevirtual 143, 3) := by decide +kernel
theorem dX10_fear_34 : decode cX10_fear 34 = .ok (.ireturn, 1) := by decide +kernel
theorem dX10_work_0 : decode cX10_work 0 = .ok (.iload_n 1, 1) := by decide +kernel
theorem dX10_work_1 : decode cX10_work 1 = .ok (.iconst 0, 1) := by decide +kernel
theorem dX10_work_2 : decode cX10_work 2 = .ok (.aload_n 0, 1) := by decide +kernel
theorem dX10_work_3 : decode cX10_work 3 = .ok (.getfield 127, 3) := by decide +kernel
theorem dX10_work_6 : decode cX10_work 6 = .ok (.iconst 1, 1) := by decide +kernel
theorem dX10_work_7 : decode cX10_work 7 = .ok (.isub, 1) := by decide +kernel
theorem dX10_work_8 : decode cX10_work 8 = .ok (.invokestatic 76, 3) := by decide +kernel
theorem dX10_work_11 : decode cX10_work 11 = .ok (.ifCond .eq 12, 3) := by decide +kernel
theorem dX10_work_14 : decode cX10_work 14 = .ok (.iload_n 2, 1) := by decide +kernel
theorem dX10_work_15 : decode cX10_work 15 = .ok (.iconst 0, 1) := by decide +kernel
theorem dX10_work_16 : decode cX10_work 16 = .ok (.iconst 2, 1) := by decide +kernel
theorem dX10_work_17 : decode cX10_work 17 = .ok (.invokestatic 76, 3) := by decide +kernel
theorem dX10_work_20 : decode cX10_work 20 = .ok (.ifCond .ne 5, 3) := by decide +kernel
theorem dX10_work_23 : decode cX10_work 23 = .ok (.iconst (-1), 1) := by decide +kernel
theorem dX10_work_24 : decode cX10_work 24 = .ok (.ireturn, 1) := by decide +kernel
theorem dX10_work_25 : decode cX10_work 25 = .ok (.aload_n 0, 1) := by decide +kernel
theorem dX10_work_26 : decode cX10_work 26 = .ok (.invokevirtual 159, 3) := by decide +kernel
theorem dX10_work_29 : decode cX10_work 29 = .ok (.iload_n 2, 1) := by decide +kernel
theorem dX10_work_30 : decode cX10_work 30 = .ok (.iconst 2, 1) := by decide +kernel
theorem dX10_work_31 : decode cX10_work 31 = .ok (.if_icmp .ge 16, 3) := by decide +kernel
theorem dX10_work_34 : decode cX10_work 34 = .ok (.aload_n 0, 1) := by decide +kernel
theorem dX10_work_35 : decode cX10_work 35 = .ok (.getfield 13, 3) := by decide +kernel
theorem dX10_work_38 : decode cX10_work 38 = .ok (.iconst 2, 1) := by decide +kernel
theorem dX10_work_39 : decode cX10_work 39 = .ok (.iload_n 1, 1) := by decide +kernel
theorem dX10_work_40 : decode cX10_work 40 = .ok (.imul, 1) := by decide +kernel
theorem dX10_work_41 : decode cX10_work 41 = .ok (.iload_n 2, 1) := by decide +kernel
theorem dX10_work_42 : decode cX10_work 42 = .ok (.iadd, 1) := by decide +kernel
theorem dX10_work_43 : decode cX10_work 43 = .ok (.iaload, 1) := by decide +kernel
theorem dX10_work_44 : decode cX10_work 44 = .ok (.goto 20, 3) := by decide +kernel
theorem dX10_work_47 : decode cX10_work 47 = .ok (.aload_n 0, 1) := by decide +kernel
theorem dX10_work_48 : decode cX10_work 48 = .ok (.iload_n 1, 1) := by decide +kernel
theorem dX10_work_49 : decode cX10_work 49 = .ok (.aload_n 0, 1) := by decide +kernel
theorem dX10_work_50 : decode cX10_work 50 = .ok (.invokevirtual 150, 3) := by decide +kernel
theorem dX10_work_53 : decode cX10_work 53 = .ok (.invokevirtual 153, 3) := by decide +kernel
theorem dX10_work_56 : decode cX10_work 56 = .ok (.ifCond .eq 7, 3) := by decide +kernel
theorem dX10_work_59 : decode cX10_work 59 = .ok (.iconst 1, 1) := by decide +kernel
theorem dX10_work_60 : decode cX10_work 60 = .ok (.goto 4, 3) := by decide +kernel
theorem dX10_work_63 : decode cX10_work 63 = .ok (.iconst 0, 1) := by decide +kernel
theorem dX10_work_64 : decode cX10_work 64 = .ok (.ireturn, 1) := by decide +kernel
theorem dX10_becomes_0 : decode cX10_becomes 0 = .ok (.aload_n 0, 1) := by decide +kernel
theorem dX10_becomes_1 : decode cX10_becomes 1 = .ok (.getfield 130, 3) := by decide +kernel
theorem dX10_becomes_4 : decode cX10_becomes 4 = .ok (.bipush 8, 2) := by decide +kernel
theorem dX10_becomes_6 : decode cX10_becomes 6 = .ok (.if_icmp .ne 43, 3) := by decide +kernel
theorem dX10_becomes_9 : decode cX10_becomes 9 = .ok (.iconst 0, 1) := by decide +kernel
theorem dX10_becomes_10 : decode cX10_becomes 10 = .ok (.istore_n 1, 1) := by decide +kernel
theorem dX10_becomes_11 : decode cX10_becomes 11 = .ok (.iload_n 1, 1) := by decide +kernel
theorem dX10_becomes_12 : decode cX10_becomes 12 = .ok (.sipush 147, 3) := by decide +kernel
theorem dX10_becomes_15 : decode cX10_becomes 15 = .ok (.if_icmp .ge 24, 3) := by decide +kernel
theorem dX10_becomes_18 : decode cX10_becomes 18 = .ok (.aload_n 0, 1) := by decide +kernel
theorem dX10_becomes_19 : decode cX10_becomes 19 = .ok (.getfield 19, 3) := by decide +kernel
theorem dX10_becomes_22 : decode cX10_becomes 22 = .ok (.iload_n 1, 1) := by decide +kernel
theorem dX10_becomes_23 : decode cX10_becomes 23 = .ok (.aload_n 0, 1) := by decide +kernel
theorem dX10_becomes_24 : decode cX10_becomes 24 = .ok (.getfield 19, 3) := by decide +kernel
theorem dX10_becomes_27 : decode cX10_becomes 27 = .ok (.iload_n 1, 1) := by decide +kernel
theorem dX10_becomes_28 : decode cX10_becomes 28 = .ok (.bipush 21, 2) := by decide +kernel
theorem dX10_becomes_30 : decode cX10_becomes 30 = .ok (.iadd, 1) := by decide +kernel
theorem dX10_becomes_31 : decode cX10_becomes 31 = .ok (.iaload, 1) := by decide +kernel
theorem dX10_becomes_32 : decode cX10_becomes 32 = .ok (.iastore, 1) := by decide +kernel
theorem dX10_becomes_33 : decode cX10_becomes 33 = .ok (.iinc 1 1, 3) := by decide +kernel
theorem dX10_becomes_36 : decode cX10_becomes 36 = .ok (.goto (-25), 3) := by decide +kernel
theorem dX10_becomes_39 : decode cX10_becomes 39 = .ok (.aload_n 0, 1) := by decide +kernel
theorem dX10_becomes_40 : decode cX10_becomes 40 = .ok (.dup, 1) := by decide +kernel
theorem dX10_becomes_41 : decode cX10_becomes 41 = .ok (.getfield 130, 3) := by decide +kernel
theorem dX10_becomes_44 : decode cX10_becomes 44 = .ok (.iconst 1, 1) := by decide +kernel
theorem dX10_becomes_45 : decode cX10_becomes 45 = .ok (.isub, 1) := by decide +kernel
theorem dX10_becomes_46 : decode cX10_becomes 46 = .ok (.putfield 130, 3) := by decide +kernel
theorem dX10_becomes_49 : decode cX10_becomes 49 = .ok (.aload_n 0, 1) := by decide +kernel
theorem dX10_becomes_50 : decode cX10_becomes 50 = .ok (.getfield 19, 3) := by decide +kernel
theorem dX10_becomes_53 : decode cX10_becomes 53 = .ok (.bipush 21, 2) := by decide +kernel
theorem dX10_becomes_55 : decode cX10_becomes 55 = .ok (.aload_n 0, 1) := by decide +kernel
theorem dX10_becomes_56 : decode cX10_becomes 56 = .ok (.getfield 130, 3) := by decide +kernel
theorem dX10_becomes_59 : decode cX10_becomes 59 = .ok (.imul, 1) := by decide +kernel
theorem dX10_becomes_60 : decode cX10_becomes 60 = .ok (.aload_n 0, 1) := by decide +kernel
theorem dX10_becomes_61 : decode cX10_becomes 61 = .ok (.getfield 16, 3) := by decide +kernel
theorem dX10_becomes_64 : decode cX10_becomes 64 = .ok (.iconst 0, 1) := by decide +kernel
theorem dX10_becomes_65 : decode cX10_becomes 65 = .ok (.bipush 21, 2) := by decide +kernel
theorem dX10_becomes_67 : decode cX10_becomes 67 = .ok (.invokestatic 123, 3) := by decide +kernel
theorem dX10_becomes_70 : decode cX10_becomes 70 = .ok (.aload_n 0, 1) := by decide +kernel
theorem dX10_becomes_71 : decode cX10_becomes 71 = .ok (.dup, 1) := by decide +kernel
theorem dX10_becomes_72 : decode cX10_becomes 72 = .ok (.getfield 130, 3) := by decide +kernel
theorem dX10_becomes_75 : decode cX10_becomes 75 = .ok (.iconst 1, 1) := by decide +kernel
theorem dX10_becomes_76 : decode cX10_becomes 76 = .ok (.iadd, 1) := by decide +kernel
theorem dX10_becomes_77 : decode cX10_becomes 77 = .ok (.putfield 130, 3) := by decide +kernel
theorem dX10_becomes_80 : decode cX10_becomes 80 = .ok (.aload_n 0, 1) := by decide +kernel
theorem dX10_becomes_81 : decode cX10_becomes 81 = .ok (.getfield 16, 3) := by decide +kernel
theorem dX10_becomes_84 : decode cX10_becomes 84 = .ok (.iconst 0, 1) := by decide +kernel
theorem dX10_becomes_85 : decode cX10_becomes 85 = .ok (.aload_n 0, 1) := by decide +kernel
theorem dX10_becomes_86 : decode cX10_becomes 86 = .ok (.getfield 43, 3) := by decide +kernel
theorem dX10_becomes_89 : decode cX10_becomes 89 = .ok (.iconst 0, 1) := by decide +kernel
theorem dX10_becomes_90 : decode cX10_becomes 90 = .ok (.bipush 21, 2) := by decide +kernel
theorem dX10_becomes_92 : decode cX10_becomes 92 = .ok (.invokestatic 123, 3) := by decide +kernel
theorem dX10_becomes_95 : decode cX10_becomes 95 = .ok (.return_, 1) := by decide +kernel
theorem dX10_pass_0 : decode cX10_pass 0 = .ok (.iload_n 1, 1) := by decide +kernel
theorem dX10_pass_1 : decode cX10_pass 1 = .ok (.iconst 1, 1) := by decide +kernel
theorem dX10_pass_2 : decode cX10_pass 2 = .ok (.bipush 40, 2) := by decide +kernel
theorem dX10_pass_4 : decode cX10_pass 4 = .ok (.invokestatic 76, 3) := by decide +kernel
theorem dX10_pass_7 : decode cX10_pass 7 = .ok (.ifCond .ne 5, 3) := by decide +kernel
theorem dX10_pass_10 : decode cX10_pass 10 = .ok (.iconst (-1), 1) := by decide +kernel
theorem dX10_pass_11 : decode cX10_pass 11 = .ok (.ireturn, 1) := by decide +kernel
theorem dX10_pass_12 : decode cX10_pass 12 = .ok (.aload_n 0, 1) := by decide +kernel
theorem dX10_pass_13 : decode cX10_pass 13 = .ok (.getfield 16, 3) := by decide +kernel
theorem dX10_pass_16 : decode cX10_pass 16 = .ok (.iconst 0, 1) := by decide +kernel
theorem dX10_pass_17 : decode cX10_pass 17 = .ok (.iaload, 1) := by decide +kernel
theorem dX10_pass_18 : decode cX10_pass 18 = .ok (.iload_n 1, 1) := by decide +kernel
theorem dX10_pass_19 : decode cX10_pass 19 = .ok (.iadd, 1) := by decide +kernel
theorem dX10_pass_20 : decode cX10_pass 20 = .ok (.sipush 999, 3) := by decide +kernel
theorem dX10_pass_23 : decode cX10_pass 23 = .ok (.if_icmp .le 6, 3) := by decide +kernel
theorem dX10_pass_26 : decode cX10_pass 26 = .ok (.bipush (-2), 2) := by decide +kernel
theorem dX10_pass_28 : decode cX10_pass 28 = .ok (.ireturn, 1) := by decide +kernel
theorem dX10_pass_29 : decode cX10_pass 29 = .ok (.aload_n 0, 1) := by decide +kernel
theorem dX10_pass_30 : decode cX10_pass 30 = .ok (.invokevirtual 159, 3) := by decide +kernel
theorem dX10_pass_33 : decode cX10_pass 33 = .ok (.iconst 0, 1) := by decide +kernel
theorem dX10_pass_34 : decode cX10_pass 34 = .ok (.istore_n 2, 1) := by decide +kernel
theorem dX10_pass_35 : decode cX10_pass 35 = .ok (.iload_n 2, 1) := by decide +kernel
theorem dX10_pass_36 : decode cX10_pass 36 = .ok (.iload_n 1, 1) := by decide +kernel
theorem dX10_pass_37 : decode cX10_pass 37 = .ok (.if_icmp .ge 13, 3) := by decide +kernel
theorem dX10_pass_40 : decode cX10_pass 40 = .ok (.aload_n 0, 1) := by decide +kernel
theorem dX10_pass_41 : decode cX10_pass 41 = .ok (.invokevirtual 168, 3) := by decide +kernel
theorem dX10_pass_44 : decode cX10_pass 44 = .ok (.iinc 2 1, 3) := by decide +kernel
theorem dX10_pass_47 : decode cX10_pass 47 = .ok (.goto (-12), 3) := by decide +kernel
theorem dX10_pass_50 : decode cX10_pass 50 = .ok (.aload_n 0, 1) := by decide +kernel
theorem dX10_pass_51 : decode cX10_pass 51 = .ok (.invokevirtual 171, 3) := by decide +kernel
theorem dX10_pass_54 : decode cX10_pass 54 = .ok (.aload_n 0, 1) := by decide +kernel
theorem dX10_pass_55 : decode cX10_pass 55 = .ok (.getfield 16, 3) := by decide +kernel
theorem dX10_pass_58 : decode cX10_pass 58 = .ok (.iconst 0, 1) := by decide +kernel
theorem dX10_pass_59 : decode cX10_pass 59 = .ok (.iaload, 1) := by decide +kernel
theorem dX10_pass_60 : decode cX10_pass 60 = .ok (.ireturn, 1) := by decide +kernel
theorem dX10_promote_0 : decode cX10_promote 0 = .ok (.aload_n 0, 1) := by decide +kernel
theorem dX10_promote_1 : decode cX10_promote 1 = .ok (.iload_n 1, 1) := by decide +kernel
theorem dX10_promote_2 : decode cX10_promote 2 = .ok (.invokevirtual 156, 3) := by decide +kernel
theorem dX10_promote_5 : decode cX10_promote 5 = .ok (.ifCond .ne 5, 3) := by decide +kernel
theorem dX10_promote_8 : decode cX10_promote 8 = .ok (.iconst (-1), 1) := by decide +kernel
theorem dX10_promote_9 : decode cX10_promote 9 = .ok (.ireturn, 1) := by decide +kernel
theorem dX10_promote_10 : decode cX10_promote 10 = .ok (.aload_n 0, 1) := by decide +kernel
theorem dX10_promote_11 : decode cX10_promote 11 = .ok (.invokevirtual 159, 3) := by decide +kernel
theorem dX10_promote_14 : decode cX10_promote 14 = .ok (.aload_n 0, 1) := by decide +kernel
theorem dX10_promote_15 : decode cX10_promote 15 = .ok (.iload_n 1, 1) := by decide +kernel
theorem dX10_promote_16 : decode cX10_promote 16 = .ok (.invokevirtual 174, 3) := by decide +kernel
theorem dX10_promote_19 : decode cX10_promote 19 = .ok (.ifCond .ne 6, 3) := by decide +kernel
theorem dX10_promote_22 : decode cX10_promote 22 = .ok (.bipush (-2), 2) := by decide +kernel
theorem dX10_promote_24 : decode cX10_promote 24 = .ok (.ireturn, 1) := by decide +kernel
theorem dX10_promote_25 : decode cX10_promote 25 = .ok (.aload_n 0, 1) := by decide +kernel
theorem dX10_promote_26 : decode cX10_promote 26 = .ok (.getfield 43, 3) := by decide +kernel
theorem dX10_promote_29 : decode cX10_promote 29 = .ok (.iconst 3, 1) := by decide +kernel
theorem dX10_promote_30 : decode cX10_promote 30 = .ok (.iload_n 1, 1) := by decide +kernel
theorem dX10_promote_31 : decode cX10_promote 31 = .ok (.iadd, 1) := by decide +kernel
theorem dX10_promote_32 : decode cX10_promote 32 = .ok (.dup2, 1) := by decide +kernel
theorem dX10_promote_33 : decode cX10_promote 33 = .ok (.iaload, 1) := by decide +kernel
theorem dX10_promote_34 : decode cX10_promote 34 = .ok (.iconst 1, 1) := by decide +kernel
theorem dX10_promote_35 : decode cX10_promote 35 = .ok (.isub, 1) := by decide +kernel
theorem dX10_promote_36 : decode cX10_promote 36 = .ok (.iastore, 1) := by decide +kernel
theorem dX10_promote_37 : decode cX10_promote 37 = .ok (.aload_n 0, 1) := by decide +kernel
theorem dX10_promote_38 : decode cX10_promote 38 = .ok (.invokevirtual 171, 3) := by decide +kernel
theorem dX10_promote_41 : decode cX10_promote 41 = .ok (.aload_n 0, 1) := by decide +kernel
theorem dX10_promote_42 : decode cX10_promote 42 = .ok (.getfield 16, 3) := by decide +kernel
theorem dX10_promote_45 : decode cX10_promote 45 = .ok (.iconst 3, 1) := by decide +kernel
theorem dX10_promote_46 : decode cX10_promote 46 = .ok (.iload_n 1, 1) := by decide +kernel
theorem dX10_promote_47 : decode cX10_promote 47 = .ok (.iadd, 1) := by decide +kernel
theorem dX10_promote_48 : decode cX10_promote 48 = .ok (.iaload, 1) := by decide +kernel
theorem dX10_promote_49 : decode cX10_promote 49 = .ok (.ireturn, 1) := by decide +kernel
theorem dX10_hoist_0 : decode cX10_hoist 0 = .ok (.aload_n 0, 1) := by decide +kernel
theorem dX10_hoist_1 : decode cX10_hoist 1 = .ok (.iload_n 1, 1) := by decide +kernel
theorem dX10_hoist_2 : decode cX10_hoist 2 = .ok (.invokevirtual 156, 3) := by decide +kernel
theorem dX10_hoist_5 : decode cX10_hoist 5 = .ok (.ifCond .ne 5, 3) := by decide +kernel
theorem dX10_hoist_8 : decode cX10_hoist 8 = .ok (.iconst (-1), 1) := by decide +kernel
theorem dX10_hoist_9 : decode cX10_hoist 9 = .ok (.ireturn, 1) := by decide +kernel
theorem dX10_hoist_10 : decode cX10_hoist 10 = .ok (.aload_n 0, 1) := by decide +kernel
theorem dX10_hoist_11 : decode cX10_hoist 11 = .ok (.invokevirtual 159, 3) := by decide +kernel
theorem dX10_hoist_14 : decode cX10_hoist 14 = .ok (.aload_n 0, 1) := by decide +kernel
theorem dX10_hoist_15 : decode cX10_hoist 15 = .ok (.iload_n 1, 1) := by decide +kernel
theorem dX10_hoist_16 : decode cX10_hoist 16 = .ok (.invokevirtual 177, 3) := by decide +kernel
theorem dX10_hoist_19 : decode cX10_hoist 19 = .ok (.ifCond .ne 6, 3) := by decide +kernel
theorem dX10_hoist_22 : decode cX10_hoist 22 = .ok (.bipush (-2), 2) := by decide +kernel
theorem dX10_hoist_24 : decode cX10_hoist 24 = .ok (.ireturn, 1) := by decide +kernel
theorem dX10_hoist_25 : decode cX10_hoist 25 = .ok (.aload_n 0, 1) := by decide +kernel
theorem dX10_hoist_26 : decode cX10_hoist 26 = .ok (.getfield 43, 3) := by decide +kernel
theorem dX10_hoist_29 : decode cX10_hoist 29 = .ok (.iconst 3, 1) := by decide +kernel
theorem dX10_hoist_30 : decode cX10_hoist 30 = .ok (.iload_n 1, 1) := by decide +kernel
theorem dX10_hoist_31 : decode cX10_hoist 31 = .ok (.iadd, 1) := by decide +kernel
theorem dX10_hoist_32 : decode cX10_hoist 32 = .ok (.dup2, 1) := by decide +kernel
theorem dX10_hoist_33 : decode cX10_hoist 33 = .ok (.iaload, 1) := by decide +kernel
theorem dX10_hoist_34 : decode cX10_hoist 34 = .ok (.iconst 1, 1) := by decide +kernel
theorem dX10_hoist_35 : decode cX10_hoist 35 = .ok (.iadd, 1) := by decide +kernel
theorem dX10_hoist_36 : decode cX10_hoist 36 = .ok (.iastore, 1) := by decide +kernel
theorem dX10_hoist_37 : decode cX10_hoist 37 = .ok (.aload_n 0, 1) := by decide +kernel
theorem dX10_hoist_38 : decode cX10_hoist 38 = .ok (.invokevirtual 171, 3) := by decide +kernel
theorem dX10_hoist_41 : decode cX10_hoist 41 = .ok (.aload_n 0, 1) := by decide +kernel
theorem dX10_hoist_42 : decode cX10_hoist 42 = .ok (.getfield 16, 3) := by decide +kernel
theorem dX10_hoist_45 : decode cX10_hoist 45 = .ok (.iconst 3, 1) := by decide +kernel
theorem dX10_hoist_46 : decode cX10_hoist 46 = .ok (.iload_n 1, 1) := by decide +kernel
theorem dX10_hoist_47 : decode cX10_hoist 47 = .ok (.iadd, 1) := by decide +kernel
theorem dX10_hoist_48 : decode cX10_hoist 48 = .ok (.iaload, 1) := by decide +kernel
theorem dX10_hoist_49 : decode cX10_hoist 49 = .ok (.ireturn, 1) := by decide +kernel
theorem dX10_call_0 : decode cX10_call 0 = .ok (.aload_n 0, 1) := by decide +kernel
theorem dX10_call_1 : decode cX10_call 1 = .ok (.iload_n 1, 1) := by decide +kernel
theorem dX10_call_2 : decode cX10_call 2 = .ok (.invokevirtual 156, 3) := by decide +kernel
theorem dX10_call_5 : decode cX10_call 5 = .ok (.ifCond .ne 5, 3) := by decide +kernel
theorem dX10_call_8 : decode cX10_call 8 = .ok (.iconst (-1), 1) := by decide +kernel
theorem dX10_call_9 : decode cX10_call 9 = .ok (.ireturn, 1) := by decide +kernel
theorem dX10_call_10 : decode cX10_call 10 = .ok (.aload_n 0, 1) := by decide +kernel
theorem dX10_call_11 : decode cX10_call 11 = .ok (.invokevirtual 159, 3) := by decide +kernel
theorem dX10_call_14 : decode cX10_call 14 = .ok (.aload_n 0, 1) := by decide +kernel
theorem dX10_call_15 : decode cX10_call 15 = .ok (.iload_n 1, 1) := by decide +kernel
theorem dX10_call_16 : decode cX10_call 16 = .ok (.invokevirtual 162, 3) := by decide +kernel
theorem dX10_call_19 : decode cX10_call 19 = .ok (.ifCond .ne 6, 3) := by decide +kernel
theorem dX10_call_22 : decode cX10_call 22 = .ok (.bipush (-2), 2) := by decide +kernel
theorem dX10_call_24 : decode cX10_call 24 = .ok (.ireturn, 1) := by decide +kernel
theorem dX10_call_25 : decode cX10_call 25 = .ok (.aload_n 0, 1) := by decide +kernel
theorem dX10_call_26 : decode cX10_call 26 = .ok (.iload_n 1, 1) := by decide +kernel
theorem dX10_call_27 : decode cX10_call 27 = .ok (.invokevirtual 180, 3) := by decide +kernel
theorem dX10_call_30 : decode cX10_call 30 = .ok (.aload_n 0, 1) := by decide +kernel
theorem dX10_call_31 : decode cX10_call 31 = .ok (.invokevirtual 171, 3) := by decide +kernel
theorem dX10_call_34 : decode cX10_call 34 = .ok (.aload_n 0, 1) := by decide +kernel
theorem dX10_call_35 : decode cX10_call 35 = .ok (.getfield 16, 3) := by decide +kernel
theorem dX10_call_38 : decode cX10_call 38 = .ok (.bipush 15, 2) := by decide +kernel
theorem dX10_call_40 : decode cX10_call 40 = .ok (.iload_n 1, 1) := by decide +kernel
theorem dX10_call_41 : decode cX10_call 41 = .ok (.iadd, 1) := by decide +kernel
theorem dX10_call_42 : decode cX10_call 42 = .ok (.iaload, 1) := by decide +kernel
theorem dX10_call_43 : decode cX10_call 43 = .ok (.ireturn, 1) := by decide +kernel
theorem dX10_undo_0 : decode cX10_undo 0 = .ok (.aload_n 0, 1) := by decide +kernel
theorem dX10_undo_1 : decode cX10_undo 1 = .ok (.getfield 130, 3) := by decide +kernel
theorem dX10_undo_4 : decode cX10_undo 4 = .ok (.ifCond .ne 6, 3) := by decide +kernel
theorem dX10_undo_7 : decode cX10_undo 7 = .ok (.bipush (-2), 2) := by decide +kernel
theorem dX10_undo_9 : decode cX10_undo 9 = .ok (.ireturn, 1) := by decide +kernel
theorem dX10_undo_10 : decode cX10_undo 10 = .ok (.aload_n 0, 1) := by decide +kernel
theorem dX10_undo_11 : decode cX10_undo 11 = .ok (.dup, 1) := by decide +kernel
theorem dX10_undo_12 : decode cX10_undo 12 = .ok (.getfield 130, 3) := by decide +kernel
theorem dX10_undo_15 : decode cX10_undo 15 = .ok (.iconst 1, 1) := by decide +kernel
theorem dX10_undo_16 : decode cX10_undo 16 = .ok (.isub, 1) := by decide +kernel
theorem dX10_undo_17 : decode cX10_undo 17 = .ok (.putfield 130, 3) := by decide +kernel
theorem dX10_undo_20 : decode cX10_undo 20 = .ok (.aload_n 0, 1) := by decide +kernel
theorem dX10_undo_21 : decode cX10_undo 21 = .ok (.getfield 16, 3) := by decide +kernel
theorem dX10_undo_24 : decode cX10_undo 24 = .ok (.iconst 0, 1) := by decide +kernel
theorem dX10_undo_25 : decode cX10_undo 25 = .ok (.aload_n 0, 1) := by decide +kernel
theorem dX10_undo_26 : decode cX10_undo 26 = .ok (.getfield 19, 3) := by decide +kernel
theorem dX10_undo_29 : decode cX10_undo 29 = .ok (.bipush 21, 2) := by decide +kernel
theorem dX10_undo_31 : decode cX10_undo 31 = .ok (.aload_n 0, 1) := by decide +kernel
theorem dX10_undo_32 : decode cX10_undo 32 = .ok (.getfield 130, 3) := by decide +kernel
theorem dX10_undo_35 : decode cX10_undo 35 = .ok (.imul, 1) := by decide +kernel
theorem dX10_undo_36 : decode cX10_undo 36 = .ok (.bipush 21, 2) := by decide +kernel
theorem dX10_undo_38 : decode cX10_undo 38 = .ok (.invokestatic 123, 3) := by decide +kernel
theorem dX10_undo_41 : decode cX10_undo 41 = .ok (.aload_n 0, 1) := by decide +kernel
theorem dX10_undo_42 : decode cX10_undo 42 = .ok (.getfield 130, 3) := by decide +kernel
theorem dX10_undo_45 : decode cX10_undo 45 = .ok (.ireturn, 1) := by decide +kernel
theorem dX10_behind_0 : decode cX10_behind 0 = .ok (.iload_n 1, 1) := by decide +kernel
theorem dX10_behind_1 : decode cX10_behind 1 = .ok (.iconst 0, 1) := by decide +kernel
theorem dX10_behind_2 : decode cX10_behind 2 = .ok (.bipush 40, 2) := by decide +kernel
theorem dX10_behind_4 : decode cX10_behind 4 = .ok (.invokestatic 76, 3) := by decide +kernel
theorem dX10_behind_7 : decode cX10_behind 7 = .ok (.ifCond .eq 20, 3) := by decide +kernel
theorem dX10_behind_10 : decode cX10_behind 10 = .ok (.aload_n 0, 1) := by decide +kernel
theorem dX10_behind_11 : decode cX10_behind 11 = .ok (.iload_n 2, 1) := by decide +kernel
theorem dX10_behind_12 : decode cX10_behind 12 = .ok (.invokevirtual 156, 3) := by decide +kernel
theorem dX10_behind_15 : decode cX10_behind 15 = .ok (.ifCond .eq 12, 3) := by decide +kernel
theorem dX10_behind_18 : decode cX10_behind 18 = .ok (.iload_n 3, 1) := by decide +kernel
theorem dX10_behind_19 : decode cX10_behind 19 = .ok (.iconst 0, 1) := by decide +kernel
theorem dX10_behind_20 : decode cX10_behind 20 = .ok (.iconst 1, 1) := by decide +kernel
theorem dX10_behind_21 : decode cX10_behind 21 = .ok (.invokestatic 76, 3) := by decide +kernel
theorem dX10_behind_24 : decode cX10_behind 24 = .ok (.ifCond .ne 5, 3) := by decide +kernel
theorem dX10_behind_27 : decode cX10_behind 27 = .ok (.iconst (-1), 1) := by decide +kernel
theorem dX10_behind_28 : decode cX10_behind 28 = .ok (.ireturn, 1) := by decide +kernel
theorem dX10_behind_29 : decode cX10_behind 29 = .ok (.aload_n 0, 1) := by decide +kernel
theorem dX10_behind_30 : decode cX10_behind 30 = .ok (.invokevirtual 159, 3) := by decide +kernel
theorem dX10_behind_33 : decode cX10_behind 33 = .ok (.iconst 0, 1) := by decide +kernel
theorem dX10_behind_34 : decode cX10_behind 34 = .ok (.istore 4, 2) := by decide +kernel
theorem dX10_behind_36 : decode cX10_behind 36 = .ok (.iload 4, 2) := by decide +kernel
theorem dX10_behind_38 : decode cX10_behind 38 = .ok (.iload_n 1, 1) := by decide +kernel
theorem dX10_behind_39 : decode cX10_behind 39 = .ok (.if_icmp .ge 13, 3) := by decide +kernel
theorem dX10_behind_42 : decode cX10_behind 42 = .ok (.aload_n 0, 1) := by decide +kernel
theorem dX10_behind_43 : decode cX10_behind 43 = .ok (.invokevirtual 168, 3) := by decide +kernel
theorem dX10_behind_46 : decode cX10_behind 46 = .ok (.iinc 4 1, 3) := by decide +kernel
theorem dX10_behind_49 : decode cX10_behind 49 = .ok (.goto (-13), 3) := by decide +kernel
theorem dX10_behind_52 : decode cX10_behind 52 = .ok (.iload_n 3, 1) := by decide +kernel
theorem dX10_behind_53 : decode cX10_behind 53 = .ok (.ifCond .ne 16, 3) := by decide +kernel
theorem dX10_behind_56 : decode cX10_behind 56 = .ok (.aload_n 0, 1) := by decide +kernel
theorem dX10_behind_57 : decode cX10_behind 57 = .ok (.getfield 43, 3) := by decide +kernel
theorem dX10_behind_60 : decode cX10_behind 60 = .ok (.iconst 1, 1) := by decide +kernel
theorem dX10_behind_61 : decode cX10_behind 61 = .ok (.iaload, 1) := by decide +kernel
theorem dX10_behind_62 : decode cX10_behind 62 = .ok (.iload_n 2, 1) := by decide +kernel
theorem dX10_behind_63 : decode cX10_behind 63 = .ok (.ishr, 1) := by decide +kernel
theorem dX10_behind_64 : decode cX10_behind 64 = .ok (.iconst 1, 1) := by decide +kernel
theorem dX10_behind_65 : decode cX10_behind 65 = .ok (.iand, 1) := by decide +kernel
theorem dX10_behind_66 : decode cX10_behind 66 = .ok (.goto 12, 3) := by decide +kernel
theorem dX10_behind_69 : decode cX10_behind 69 = .ok (.aload_n 0, 1) := by decide +kernel
theorem dX10_behind_70 : decode cX10_behind 70 = .ok (.getfield 43, 3) := by decide +kernel
theorem dX10_behind_73 : decode cX10_behind 73 = .ok (.bipush 15, 2) := by decide +kernel
theorem dX10_behind_75 : decode cX10_behind 75 = .ok (.iload_n 2, 1) := by decide +kernel
theorem dX10_behind_76 : decode cX10_behind 76 = .ok (.iadd, 1) := by decide +kernel
theorem dX10_behind_77 : decode cX10_behind 77 = .ok (.iaload, 1) := by decide +kernel
theorem dX10_behind_78 : decode cX10_behind 78 = .ok (.ireturn, 1) := by decide +kernel
theorem dX10_lowest_0 : decode cX10_lowest 0 = .ok (.aload_n 0, 1) := by decide +kernel
theorem dX10_lowest_1 : decode cX10_lowest 1 = .ok (.iload_n 1, 1) := by decide +kernel
theorem dX10_lowest_2 : decode cX10_lowest 2 = .ok (.invokevirtual 156, 3) := by decide +kernel
theorem dX10_lowest_5 : decode cX10_lowest 5 = .ok (.ifCond .ne 5, 3) := by decide +kernel
theorem dX10_lowest_8 : decode cX10_lowest 8 = .ok (.iconst (-1), 1) := by decide +kernel
theorem dX10_lowest_9 : decode cX10_lowest 9 = .ok (.ireturn, 1) := by decide +kernel
theorem dX10_lowest_10 : decode cX10_lowest 10 = .ok (.aload_n 0, 1) := by decide +kernel
theorem dX10_lowest_11 : decode cX10_lowest 11 = .ok (.invokevirtual 159, 3) := by decide +kernel
theorem dX10_lowest_14 : decode cX10_lowest 14 = .ok (.aload_n 0, 1) := by decide +kernel
theorem dX10_lowest_15 : decode cX10_lowest 15 = .ok (.invokevirtual 150, 3) := by decide +kernel
theorem dX10_lowest_18 : decode cX10_lowest 18 = .ok (.aload_n 0, 1) := by decide +kernel
theorem dX10_lowest_19 : decode cX10_lowest 19 = .ok (.getfield 43, 3) := by decide +kernel
theorem dX10_lowest_22 : decode cX10_lowest 22 = .ok (.iconst 1, 1) := by decide +kernel
theorem dX10_lowest_23 : decode cX10_lowest 23 = .ok (.iaload, 1) := by decide +kernel
theorem dX10_lowest_24 : decode cX10_lowest 24 = .ok (.ior, 1) := by decide +kernel
theorem dX10_lowest_25 : decode cX10_lowest 25 = .ok (.iload_n 1, 1) := by decide +kernel
theorem dX10_lowest_26 : decode cX10_lowest 26 = .ok (.invokestatic 139, 3) := by decide +kernel
theorem dX10_lowest_29 : decode cX10_lowest 29 = .ok (.ifCond .eq 6, 3) := by decide +kernel
theorem dX10_lowest_32 : decode cX10_lowest 32 = .ok (.bipush (-2), 2) := by decide +kernel
theorem dX10_lowest_34 : decode cX10_lowest 34 = .ok (.ireturn, 1) := by decide +kernel
theorem dX10_lowest_35 : decode cX10_lowest 35 = .ok (.aload_n 0, 1) := by decide +kernel
theorem dX10_lowest_36 : decode cX10_lowest 36 = .ok (.getfield 43, 3) := by decide +kernel
theorem dX10_lowest_39 : decode cX10_lowest 39 = .ok (.iconst 3, 1) := by decide +kernel
theorem dX10_lowest_40 : decode cX10_lowest 40 = .ok (.iload_n 1, 1) := by decide +kernel
theorem dX10_lowest_41 : decode cX10_lowest 41 = .ok (.iadd, 1) := by decide +kernel
theorem dX10_lowest_42 : decode cX10_lowest 42 = .ok (.iaload, 1) := by decide +kernel
theorem dX10_lowest_43 : decode cX10_lowest 43 = .ok (.istore_n 2, 1) := by decide +kernel
theorem dX10_lowest_44 : decode cX10_lowest 44 = .ok (.iload_n 2, 1) := by decide +kernel
theorem dX10_lowest_45 : decode cX10_lowest 45 = .ok (.ifCond .le 35, 3) := by decide +kernel
theorem dX10_lowest_48 : decode cX10_lowest 48 = .ok (.aload_n 0, 1) := by decide +kernel
theorem dX10_lowest_49 : decode cX10_lowest 49 = .ok (.iload_n 1, 1) := by decide +kernel
theorem dX10_lowest_50 : decode cX10_lowest 50 = .ok (.iload_n 2, 1) := by decide +kernel
theorem dX10_lowest_51 : decode cX10_lowest 51 = .ok (.iconst 1, 1) := by decide +kernel
theorem dX10_lowest_52 : decode cX10_lowest 52 = .ok (.isub, 1) := by decide +kernel
theorem dX10_lowest_53 : decode cX10_lowest 53 = .ok (.aload_n 0, 1) := by decide +kernel
theorem dX10_lowest_54 : decode cX10_lowest 54 = .ok (.getfield 7, 3) := by decide +kernel
theorem dX10_lowest_57 : decode cX10_lowest 57 = .ok (.iload_n 1, 1) := by decide +kernel
theorem dX10_lowest_58 : decode cX10_lowest 58 = .ok (.iaload, 1) := by decide +kernel
theorem dX10_lowest_59 : decode cX10_lowest 59 = .ok (.invokevirtual 143, 3) := by decide +kernel
theorem dX10_lowest_62 : decode cX10_lowest 62 = .ok (.aload_n 0, 1) := by decide +kernel
theorem dX10_lowest_63 : decode cX10_lowest 63 = .ok (.getfield 43, 3) := by decide +kernel
theorem dX10_lowest_66 : decode cX10_lowest 66 = .ok (.bipush 15, 2) := by decide +kernel
theorem dX10_lowest_68 : decode cX10_lowest 68 = .ok (.iload_n 1, 1) := by decide +kernel
theorem dX10_lowest_69 : decode cX10_lowest 69 = .ok (.iadd, 1) := by decide +kernel
theorem dX10_lowest_70 : decode cX10_lowest 70 = .ok (.iaload, 1) := by decide +kernel
theorem dX10_lowest_71 : decode cX10_lowest 71 = .ok (.if_icmp .gt 9, 3) := by decide +kernel
theorem dX10_lowest_74 : decode cX10_lowest 74 = .ok (.iinc 2 (-1), 3) := by decide +kernel
theorem dX10_lowest_77 : decode cX10_lowest 77 = .ok (.goto (-33), 3) := by decide +kernel
theorem dX10_lowest_80 : decode cX10_lowest 80 = .ok (.iload_n 2, 1) := by decide +kernel
theorem dX10_lowest_81 : decode cX10_lowest 81 = .ok (.ireturn, 1) := by decide +kernel
theorem dX10_mayBe_0 : decode cX10_mayBe 0 = .ok (.iconst 1, 1) := by decide +kernel
theorem dX10_mayBe_1 : decode cX10_mayBe 1 = .ok (.aload_n 0, 1) := by decide +kernel
theorem dX10_mayBe_2 : decode cX10_mayBe 2 = .ok (.getfield 16, 3) := by decide +kernel
theorem dX10_mayBe_5 : decode cX10_mayBe 5 = .ok (.iconst 3, 1) := by decide +kernel
theorem dX10_mayBe_6 : decode cX10_mayBe 6 = .ok (.iload_n 1, 1) := by decide +kernel
theorem dX10_mayBe_7 : decode cX10_mayBe 7 = .ok (.iadd, 1) := by decide +kernel
theorem dX10_mayBe_8 : decode cX10_mayBe 8 = .ok (.iaload, 1) := by decide +kernel
theorem dX10_mayBe_9 : decode cX10_mayBe 9 = .ok (.ishl, 1) := by decide +kernel
theorem dX10_mayBe_10 : decode cX10_mayBe 10 = .ok (.istore_n 2, 1) := by decide +kernel
theorem dX10_mayBe_11 : decode cX10_mayBe 11 = .ok (.iconst 0, 1) := by decide +kernel
theorem dX10_mayBe_12 : decode cX10_mayBe 12 = .ok (.istore_n 3, 1) := by decide +kernel
theorem dX10_mayBe_13 : decode cX10_mayBe 13 = .ok (.iload_n 3, 1) := by decide +kernel
theorem dX10_mayBe_14 : decode cX10_mayBe 14 = .ok (.aload_n 0, 1) := by decide +kernel
theorem dX10_mayBe_15 : decode cX10_mayBe 15 = .ok (.getfield 127, 3) := by decide +kernel
theorem dX10_mayBe_18 : decode cX10_mayBe 18 = .ok (.if_icmp .ge 39, 3) := by decide +kernel
theorem dX10_mayBe_21 : decode cX10_mayBe 21 = .ok (.iload_n 2, 1) := by decide +kernel
theorem dX10_mayBe_22 : decode cX10_mayBe 22 = .ok (.aload_n 0, 1) := by decide +kernel
theorem dX10_mayBe_23 : decode cX10_mayBe 23 = .ok (.getfield 16, 3) := by decide +kernel
theorem dX10_mayBe_26 : decode cX10_mayBe 26 = .ok (.iconst 1, 1) := by decide +kernel
theorem dX10_mayBe_27 : decode cX10_mayBe 27 = .ok (.iaload, 1) := by decide +kernel
theorem dX10_mayBe_28 : decode cX10_mayBe 28 = .ok (.iload_n 1, 1) := by decide +kernel
theorem dX10_mayBe_29 : decode cX10_mayBe 29 = .ok (.invokestatic 139, 3) := by decide +kernel
theorem dX10_mayBe_32 : decode cX10_mayBe 32 = .ok (.ifCond .eq 7, 3) := by decide +kernel
theorem dX10_mayBe_35 : decode cX10_mayBe 35 = .ok (.iconst 0, 1) := by decide +kernel
theorem dX10_mayBe_36 : decode cX10_mayBe 36 = .ok (.goto 13, 3) := by decide +kernel
theorem dX10_mayBe_39 : decode cX10_mayBe 39 = .ok (.iconst 1, 1) := by decide +kernel
theorem dX10_mayBe_40 : decode cX10_mayBe 40 = .ok (.aload_n 0, 1) := by decide +kernel
theorem dX10_mayBe_41 : decode cX10_mayBe 41 = .ok (.getfield 13, 3) := by decide +kernel
theorem dX10_mayBe_44 : decode cX10_mayBe 44 = .ok (.iconst 2, 1) := by decide +kernel
theorem dX10_mayBe_45 : decode cX10_mayBe 45 = .ok (.iload_n 3, 1) := by decide +kernel
theorem dX10_mayBe_46 : decode cX10_mayBe 46 = .ok (.imul, 1) := by decide +kernel
theorem dX10_mayBe_47 : decode cX10_mayBe 47 = .ok (.iaload, 1) := by decide +kernel
theorem dX10_mayBe_48 : decode cX10_mayBe 48 = .ok (.ishl, 1) := by decide +kernel
theorem dX10_mayBe_49 : decode cX10_mayBe 49 = .ok (.ior, 1) := by decide +kernel
theorem dX10_mayBe_50 : decode cX10_mayBe 50 = .ok (.istore_n 2, 1) := by decide +kernel
theorem dX10_mayBe_51 : decode cX10_mayBe 51 = .ok (.iinc 3 1, 3) := by decide +kernel
theorem dX10_mayBe_54 : decode cX10_mayBe 54 = .ok (.goto (-41), 3) := by decide +kernel
theorem dX10_mayBe_57 : decode cX10_mayBe 57 = .ok (.iload_n 2, 1) := by decide +kernel
theorem dX10_mayBe_58 : decode cX10_mayBe 58 = .ok (.ireturn, 1) := by decide +kernel
theorem dX10_putsNext_0 : decode cX10_putsNext 0 = .ok (.aload_n 0, 1) := by decide +kernel
theorem dX10_putsNext_1 : decode cX10_putsNext 1 = .ok (.getfield 73, 3) := by decide +kernel
theorem dX10_putsNext_4 : decode cX10_putsNext 4 = .ok (.iconst 1, 1) := by decide +kernel
theorem dX10_putsNext_5 : decode cX10_putsNext 5 = .ok (.isub, 1) := by decide +kernel
theorem dX10_putsNext_6 : decode cX10_putsNext 6 = .ok (.istore_n 1, 1) := by decide +kernel
theorem dX10_putsNext_7 : decode cX10_putsNext 7 = .ok (.iload_n 1, 1) := by decide +kernel
theorem dX10_putsNext_8 : decode cX10_putsNext 8 = .ok (.ifCond .lt 79, 3) := by decide +kernel
theorem dX10_putsNext_11 : decode cX10_putsNext 11 = .ok (.aload_n 0, 1) := by decide +kernel
theorem dX10_putsNext_12 : decode cX10_putsNext 12 = .ok (.iload_n 1, 1) := by decide +kernel
theorem dX10_putsNext_13 : decode cX10_putsNext 13 = .ok (.invokevirtual 184, 3) := by decide +kernel
theorem dX10_putsNext_16 : decode cX10_putsNext 16 = .ok (.istore_n 2, 1) := by decide +kernel
theorem dX10_putsNext_17 : decode cX10_putsNext 17 = .ok (.aload_n 0, 1) := by decide +kernel
theorem dX10_putsNext_18 : decode cX10_putsNext 18 = .ok (.getfield 43, 3) := by decide +kernel
theorem dX10_putsNext_21 : decode cX10_putsNext 21 = .ok (.iconst 3, 1) := by decide +kernel
theorem dX10_putsNext_22 : decode cX10_putsNext 22 = .ok (.iload_n 1, 1) := by decide +kernel
theorem dX10_putsNext_23 : decode cX10_putsNext 23 = .ok (.iadd, 1) := by decide +kernel
theorem dX10_putsNext_24 : decode cX10_putsNext 24 = .ok (.iaload, 1) := by decide +kernel
theorem dX10_putsNext_25 : decode cX10_putsNext 25 = .ok (.iconst 1, 1) := by decide +kernel
theorem dX10_putsNext_26 : decode cX10_putsNext 26 = .ok (.iadd, 1) := by decide +kernel
theorem dX10_putsNext_27 : decode cX10_putsNext 27 = .ok (.istore_n 3, 1) := by decide +kernel
theorem dX10_putsNext_28 : decode cX10_putsNext 28 = .ok (.iload_n 3, 1) := by decide +kernel
theorem dX10_putsNext_29 : decode cX10_putsNext 29 = .ok (.aload_n 0, 1) := by decide +kernel
theorem dX10_putsNext_30 : decode cX10_putsNext 30 = .ok (.getfield 80, 3) := by decide +kernel
theorem dX10_putsNext_33 : decode cX10_putsNext 33 = .ok (.if_icmp .ge 17, 3) := by decide +kernel
theorem dX10_putsNext_36 : decode cX10_putsNext 36 = .ok (.iload_n 2, 1) := by decide +kernel
theorem dX10_putsNext_37 : decode cX10_putsNext 37 = .ok (.iload_n 3, 1) := by decide +kernel
theorem dX10_putsNext_38 : decode cX10_putsNext 38 = .ok (.invokestatic 139, 3) := by decide +kernel
theorem dX10_putsNext_41 : decode cX10_putsNext 41 = .ok (.ifCond .ne 9, 3) := by decide +kernel
theorem dX10_putsNext_44 : decode cX10_putsNext 44 = .ok (.iinc 3 1, 3) := by decide +kernel
theorem dX10_putsNext_47 : decode cX10_putsNext 47 = .ok (.goto (-19), 3) := by decide +kernel
theorem dX10_putsNext_50 : decode cX10_putsNext 50 = .ok (.iload_n 3, 1) := by decide +kernel
theorem dX10_putsNext_51 : decode cX10_putsNext 51 = .ok (.aload_n 0, 1) := by decide +kernel
theorem dX10_putsNext_52 : decode cX10_putsNext 52 = .ok (.getfield 80, 3) := by decide +kernel
theorem dX10_putsNext_55 : decode cX10_putsNext 55 = .ok (.if_icmp .ge 14, 3) := by decide +kernel
theorem dX10_putsNext_58 : decode cX10_putsNext 58 = .ok (.aload_n 0, 1) := by decide +kernel
theorem dX10_putsNext_59 : decode cX10_putsNext 59 = .ok (.getfield 43, 3) := by decide +kernel
theorem dX10_putsNext_62 : decode cX10_putsNext 62 = .ok (.iconst 3, 1) := by decide +kernel
theorem dX10_putsNext_63 : decode cX10_putsNext 63 = .ok (.iload_n 1, 1) := by decide +kernel
theorem dX10_putsNext_64 : decode cX10_putsNext 64 = .ok (.iadd, 1) := by decide +kernel
theorem dX10_putsNext_65 : decode cX10_putsNext 65 = .ok (.iload_n 3, 1) := by decide +kernel
theorem dX10_putsNext_66 : decode cX10_putsNext 66 = .ok (.iastore, 1) := by decide +kernel
theorem dX10_putsNext_67 : decode cX10_putsNext 67 = .ok (.iconst 1, 1) := by decide +kernel
theorem dX10_putsNext_68 : decode cX10_putsNext 68 = .ok (.ireturn, 1) := by decide +kernel
theorem dX10_putsNext_69 : decode cX10_putsNext 69 = .ok (.aload_n 0, 1) := by decide +kernel
theorem dX10_putsNext_70 : decode cX10_putsNext 70 = .ok (.getfield 43, 3) := by decide +kernel
theorem dX10_putsNext_73 : decode cX10_putsNext 73 = .ok (.iconst 3, 1) := by decide +kernel
theorem dX10_putsNext_74 : decode cX10_putsNext 74 = .ok (.iload_n 1, 1) := by decide +kernel
theorem dX10_putsNext_75 : decode cX10_putsNext 75 = .ok (.iadd, 1) := by decide +kernel
theorem dX10_putsNext_76 : decode cX10_putsNext 76 = .ok (.iload_n 2, 1) := by decide +kernel
theorem dX10_putsNext_77 : decode cX10_putsNext 77 = .ok (.invokestatic 187, 3) := by decide +kernel
theorem dX10_putsNext_80 : decode cX10_putsNext 80 = .ok (.iastore, 1) := by decide +kernel
theorem dX10_putsNext_81 : decode cX10_putsNext 81 = .ok (.iinc 1 (-1), 3) := by decide +kernel
theorem dX10_putsNext_84 : decode cX10_putsNext 84 = .ok (.goto (-77), 3) := by decide +kernel
theorem dX10_putsNext_87 : decode cX10_putsNext 87 = .ok (.iconst 0, 1) := by decide +kernel
theorem dX10_putsNext_88 : decode cX10_putsNext 88 = .ok (.ireturn, 1) := by decide +kernel
theorem dX10_leastOf_0 : decode cX10_leastOf 0 = .ok (.iconst 0, 1) := by decide +kernel
theorem dX10_leastOf_1 : decode cX10_leastOf 1 = .ok (.istore_n 1, 1) := by decide +kernel
theorem dX10_leastOf_2 : decode cX10_leastOf 2 = .ok (.iload_n 0, 1) := by decide +kernel
theorem dX10_leastOf_3 : decode cX10_leastOf 3 = .ok (.iload_n 1, 1) := by decide +kernel
theorem dX10_leastOf_4 : decode cX10_leastOf 4 = .ok (.invokestatic 139, 3) := by decide +kernel
theorem dX10_leastOf_7 : decode cX10_leastOf 7 = .ok (.ifCond .ne 9, 3) := by decide +kernel
theorem dX10_leastOf_10 : decode cX10_leastOf 10 = .ok (.iinc 1 1, 3) := by decide +kernel
theorem dX10_leastOf_13 : decode cX10_leastOf 13 = .ok (.goto (-11), 3) := by decide +kernel
theorem dX10_leastOf_16 : decode cX10_leastOf 16 = .ok (.iload_n 1, 1) := by decide +kernel
theorem dX10_leastOf_17 : decode cX10_leastOf 17 = .ok (.ireturn, 1) := by decide +kernel
theorem dX10_posting_0 : decode cX10_posting 0 = .ok (.iload_n 1, 1) := by decide +kernel
theorem dX10_posting_1 : decode cX10_posting 1 = .ok (.iconst (-1), 1) := by decide +kernel
theorem dX10_posting_2 : decode cX10_posting 2 = .ok (.aload_n 0, 1) := by decide +kernel
theorem dX10_posting_3 : decode cX10_posting 3 = .ok (.getfield 73, 3) := by decide +kernel
theorem dX10_posting_6 : decode cX10_posting 6 = .ok (.iconst 1, 1) := by decide +kernel
theorem dX10_posting_7 : decode cX10_posting 7 = .ok (.isub, 1) := by decide +kernel
theorem dX10_posting_8 : decode cX10_posting 8 = .ok (.invokestatic 76, 3) := by decide +kernel
theorem dX10_posting_11 : decode cX10_posting 11 = .ok (.ifCond .ne 5, 3) := by decide +kernel
theorem dX10_posting_14 : decode cX10_posting 14 = .ok (.iconst (-1), 1) := by decide +kernel
theorem dX10_posting_15 : decode cX10_posting 15 = .ok (.ireturn, 1) := by decide +kernel
theorem dX10_posting_16 : decode cX10_posting 16 = .ok (.aload_n 0, 1) := by decide +kernel
theorem dX10_posting_17 : decode cX10_posting 17 = .ok (.invokevirtual 159, 3) := by decide +kernel
theorem dX10_posting_20 : decode cX10_posting 20 = .ok (.iconst 0, 1) := by decide +kernel
theorem dX10_posting_21 : decode cX10_posting 21 = .ok (.istore_n 2, 1) := by decide +kernel
theorem dX10_posting_22 : decode cX10_posting 22 = .ok (.iload_n 2, 1) := by decide +kernel
theorem dX10_posting_23 : decode cX10_posting 23 = .ok (.aload_n 0, 1) := by decide +kernel
theorem dX10_posting_24 : decode cX10_posting 24 = .ok (.getfield 73, 3) := by decide +kernel
theorem dX10_posting_27 : decode cX10_posting 27 = .ok (.if_icmp .ge 25, 3) := by decide +kernel
theorem dX10_posting_30 : decode cX10_posting 30 = .ok (.aload_n 0, 1) := by decide +kernel
theorem dX10_posting_31 : decode cX10_posting 31 = .ok (.getfield 43, 3) := by decide +kernel
theorem dX10_posting_34 : decode cX10_posting 34 = .ok (.iconst 3, 1) := by decide +kernel
theorem dX10_posting_35 : decode cX10_posting 35 = .ok (.iload_n 2, 1) := by decide +kernel
theorem dX10_posting_36 : decode cX10_posting 36 = .ok (.iadd, 1) := by decide +kernel
theorem dX10_posting_37 : decode cX10_posting 37 = .ok (.aload_n 0, 1) := by decide +kernel
theorem dX10_posting_38 : decode cX10_posting 38 = .ok (.iload_n 2, 1) := by decide +kernel
theorem dX10_posting_39 : decode cX10_posting 39 = .ok (.invokevirtual 184, 3) := by decide +kernel
theorem dX10_posting_42 : decode cX10_posting 42 = .ok (.invokestatic 187, 3) := by decide +kernel
theorem dX10_posting_45 : decode cX10_posting 45 = .ok (.iastore, 1) := by decide +kernel
theorem dX10_posting_46 : decode cX10_posting 46 = .ok (.iinc 2 1, 3) := by decide +kernel
theorem dX10_posting_49 : decode cX10_posting 49 = .ok (.goto (-27), 3) := by decide +kernel
theorem dX10_posting_52 : decode cX10_posting 52 = .ok (.bipush (-4), 2) := by decide +kernel
theorem dX10_posting_54 : decode cX10_posting 54 = .ok (.istore_n 2, 1) := by decide +kernel
theorem dX10_posting_55 : decode cX10_posting 55 = .ok (.iconst 1, 1) := by decide +kernel
theorem dX10_posting_56 : decode cX10_posting 56 = .ok (.istore_n 3, 1) := by decide +kernel
theorem dX10_posting_57 : decode cX10_posting 57 = .ok (.iload_n 3, 1) := by decide +kernel
theorem dX10_posting_58 : decode cX10_posting 58 = .ok (.ifCond .eq 53, 3) := by decide +kernel
theorem dX10_posting_61 : decode cX10_posting 61 = .ok (.aload_n 0, 1) := by decide +kernel
theorem dX10_posting_62 : decode cX10_posting 62 = .ok (.invokevirtual 150, 3) := by decide +kernel
theorem dX10_posting_65 : decode cX10_posting 65 = .ok (.ifCond .ne 10, 3) := by decide +kernel
theorem dX10_posting_68 : decode cX10_posting 68 = .ok (.aload_n 0, 1) := by decide +kernel
theorem dX10_posting_69 : decode cX10_posting 69 = .ok (.invokevirtual 190, 3) := by decide +kernel
theorem dX10_posting_72 : decode cX10_posting 72 = .ok (.goto 5, 3) := by decide +kernel
theorem dX10_posting_75 : decode cX10_posting 75 = .ok (.bipush (-4), 2) := by decide +kernel
theorem dX10_posting_77 : decode cX10_posting 77 = .ok (.istore 4, 2) := by decide +kernel
theorem dX10_posting_79 : decode cX10_posting 79 = .ok (.iload 4, 2) := by decide +kernel
theorem dX10_posting_81 : decode cX10_posting 81 = .ok (.iload_n 2, 1) := by decide +kernel
theorem dX10_posting_82 : decode cX10_posting 82 = .ok (.if_icmp .le 21, 3) := by decide +kernel
theorem dX10_posting_85 : decode cX10_posting 85 = .ok (.iload 4, 2) := by decide +kernel
theorem dX10_posting_87 : decode cX10_posting 87 = .ok (.istore_n 2, 1) := by decide +kernel
theorem dX10_posting_88 : decode cX10_posting 88 = .ok (.aload_n 0, 1) := by decide +kernel
theorem dX10_posting_89 : decode cX10_posting 89 = .ok (.getfield 46, 3) := by decide +kernel
theorem dX10_posting_92 : decode cX10_posting 92 = .ok (.iconst 0, 1) := by decide +kernel
theorem dX10_posting_93 : decode cX10_posting 93 = .ok (.aload_n 0, 1) := by decide +kernel
theorem dX10_posting_94 : decode cX10_posting 94 = .ok (.getfield 43, 3) := by decide +kernel
theorem dX10_posting_97 : decode cX10_posting 97 = .ok (.iconst 3, 1) := by decide +kernel
theorem dX10_posting_98 : decode cX10_posting 98 = .ok (.bipush 6, 2) := by decide +kernel
theorem dX10_posting_100 : decode cX10_posting 100 = .ok (.invokestatic 123, 3) := by decide +kernel
theorem dX10_posting_103 : decode cX10_posting 103 = .ok (.aload_n 0, 1) := by decide +kernel
theorem dX10_posting_104 : decode cX10_posting 104 = .ok (.invokevirtual 193, 3) := by decide +kernel
theorem dX10_posting_107 : decode cX10_posting 107 = .ok (.istore_n 3, 1) := by decide +kernel
theorem dX10_posting_108 : decode cX10_posting 108 = .ok (.goto (-51), 3) := by decide +kernel
theorem dX10_posting_111 : decode cX10_posting 111 = .ok (.iload_n 1, 1) := by decide +kernel
theorem dX10_posting_112 : decode cX10_posting 112 = .ok (.ifCond .lt 7, 3) := by decide +kernel
theorem dX10_posting_115 : decode cX10_posting 115 = .ok (.iload_n 2, 1) := by decide +kernel
theorem dX10_posting_116 : decode cX10_posting 116 = .ok (.ifCond .ge 7, 3) := by decide +kernel
theorem dX10_posting_119 : decode cX10_posting 119 = .ok (.iload_n 2, 1) := by decide +kernel
theorem dX10_posting_120 : decode cX10_posting 120 = .ok (.goto 27, 3) := by decide +kernel
theorem dX10_posting_123 : decode cX10_posting 123 = .ok (.aload_n 0, 1) := by decide +kernel
theorem dX10_posting_124 : decode cX10_posting 124 = .ok (.getfield 16, 3) := by decide +kernel
theorem dX10_posting_127 : decode cX10_posting 127 = .ok (.iconst 1, 1) := by decide +kernel
theorem dX10_posting_128 : decode cX10_posting 128 = .ok (.iaload, 1) := by decide +kernel
theorem dX10_posting_129 : decode cX10_posting 129 = .ok (.iload_n 1, 1) := by decide +kernel
theorem dX10_posting_130 : decode cX10_posting 130 = .ok (.invokestatic 139, 3) := by decide +kernel
theorem dX10_posting_133 : decode cX10_posting 133 = .ok (.ifCond .eq 8, 3) := by decide +kernel
theorem dX10_posting_136 : decode cX10_posting 136 = .ok (.bipush (-4), 2) := by decide +kernel
theorem dX10_posting_138 : decode cX10_posting 138 = .ok (.goto 9, 3) := by decide +kernel
theorem dX10_posting_141 : decode cX10_posting 141 = .ok (.aload_n 0, 1) := by decide +kernel
theorem dX10_posting_142 : decode cX10_posting 142 = .ok (.getfield 46, 3) := by decide +kernel
theorem dX10_posting_145 : decode cX10_posting 145 = .ok (.iload_n 1, 1) := by decide +kernel
theorem dX10_posting_146 : decode cX10_posting 146 = .ok (.iaload, 1) := by decide +kernel
theorem dX10_posting_147 : decode cX10_posting 147 = .ok (.ireturn, 1) := by decide +kernel
theorem dX10_sevens_0 : decode cX10_sevens 0 = .ok (.iconst 1, 1) := by decide +kernel
theorem dX10_sevens_1 : decode cX10_sevens 1 = .ok (.istore_n 1, 1) := by decide +kernel
theorem dX10_sevens_2 : decode cX10_sevens 2 = .ok (.iconst 0, 1) := by decide +kernel
theorem dX10_sevens_3 : decode cX10_sevens 3 = .ok (.istore_n 2, 1) := by decide +kernel
theorem dX10_sevens_4 : decode cX10_sevens 4 = .ok (.iload_n 2, 1) := by decide +kernel
theorem dX10_sevens_5 : decode cX10_sevens 5 = .ok (.iload_n 0, 1) := by decide +kernel
theorem dX10_sevens_6 : decode cX10_sevens 6 = .ok (.if_icmp .ge 14, 3) := by decide +kernel
theorem dX10_sevens_9 : decode cX10_sevens 9 = .ok (.iload_n 1, 1) := by decide +kernel
theorem dX10_sevens_10 : decode cX10_sevens 10 = .ok (.bipush 7, 2) := by decide +kernel
theorem dX10_sevens_12 : decode cX10_sevens 12 = .ok (.imul, 1) := by decide +kernel
theorem dX10_sevens_13 : decode cX10_sevens 13 = .ok (.istore_n 1, 1) := by decide +kernel
theorem dX10_sevens_14 : decode cX10_sevens 14 = .ok (.iinc 2 1, 3) := by decide +kernel
theorem dX10_sevens_17 : decode cX10_sevens 17 = .ok (.goto (-13), 3) := by decide +kernel
theorem dX10_sevens_20 : decode cX10_sevens 20 = .ok (.iload_n 1, 1) := by decide +kernel
theorem dX10_sevens_21 : decode cX10_sevens 21 = .ok (.ireturn, 1) := by decide +kernel
theorem dX10_doneBy_0 : decode cX10_doneBy 0 = .ok (.aload_n 0, 1) := by decide +kernel
theorem dX10_doneBy_1 : decode cX10_doneBy 1 = .ok (.invokevirtual 159, 3) := by decide +kernel
theorem dX10_doneBy_4 : decode cX10_doneBy 4 = .ok (.iload_n 2, 1) := by decide +kernel
theorem dX10_doneBy_5 : decode cX10_doneBy 5 = .ok (.iconst 1, 1) := by decide +kernel
theorem dX10_doneBy_6 : decode cX10_doneBy 6 = .ok (.isub, 1) := by decide +kernel
theorem dX10_doneBy_7 : decode cX10_doneBy 7 = .ok (.istore_n 3, 1) := by decide +kernel
theorem dX10_doneBy_8 : decode cX10_doneBy 8 = .ok (.iload_n 3, 1) := by decide +kernel
theorem dX10_doneBy_9 : decode cX10_doneBy 9 = .ok (.ifCond .lt 69, 3) := by decide +kernel
theorem dX10_doneBy_12 : decode cX10_doneBy 12 = .ok (.iload_n 1, 1) := by decide +kernel
theorem dX10_doneBy_13 : decode cX10_doneBy 13 = .ok (.iload_n 3, 1) := by decide +kernel
theorem dX10_doneBy_14 : decode cX10_doneBy 14 = .ok (.invokestatic 196, 3) := by decide +kernel
theorem dX10_doneBy_17 : decode cX10_doneBy 17 = .ok (.idiv, 1) := by decide +kernel
theorem dX10_doneBy_18 : decode cX10_doneBy 18 = .ok (.bipush 7, 2) := by decide +kernel
theorem dX10_doneBy_20 : decode cX10_doneBy 20 = .ok (.irem, 1) := by decide +kernel
theorem dX10_doneBy_21 : decode cX10_doneBy 21 = .ok (.iconst 1, 1) := by decide +kernel
theorem dX10_doneBy_22 : decode cX10_doneBy 22 = .ok (.isub, 1) := by decide +kernel
theorem dX10_doneBy_23 : decode cX10_doneBy 23 = .ok (.istore 4, 2) := by decide +kernel
theorem dX10_doneBy_25 : decode cX10_doneBy 25 = .ok (.iload 4, 2) := by decide +kernel
theorem dX10_doneBy_27 : decode cX10_doneBy 27 = .ok (.aload_n 0, 1) := by decide +kernel
theorem dX10_doneBy_28 : decode cX10_doneBy 28 = .ok (.getfield 73, 3) := by decide +kernel
theorem dX10_doneBy_31 : decode cX10_doneBy 31 = .ok (.if_icmp .ge 17, 3) := by decide +kernel
theorem dX10_doneBy_34 : decode cX10_doneBy 34 = .ok (.iload 4, 2) := by decide +kernel
theorem dX10_doneBy_36 : decode cX10_doneBy 36 = .ok (.ifCond .lt 14, 3) := by decide +kernel
theorem dX10_doneBy_39 : decode cX10_doneBy 39 = .ok (.aload_n 0, 1) := by decide +kernel
theorem dX10_doneBy_40 : decode cX10_doneBy 40 = .ok (.iload 4, 2) := by decide +kernel
theorem dX10_doneBy_42 : decode cX10_doneBy 42 = .ok (.invokevirtual 174, 3) := by decide +kernel
theorem dX10_doneBy_45 : decode cX10_doneBy 45 = .ok (.ifCond .ne 5, 3) := by decide +kernel
theorem dX10_doneBy_48 : decode cX10_doneBy 48 = .ok (.iconst (-1), 1) := by decide +kernel
theorem dX10_doneBy_49 : decode cX10_doneBy 49 = .ok (.ireturn, 1) := by decide +kernel
theorem dX10_doneBy_50 : decode cX10_doneBy 50 = .ok (.iload 4, 2) := by decide +kernel
theorem dX10_doneBy_52 : decode cX10_doneBy 52 = .ok (.ifCond .lt 16, 3) := by decide +kernel
theorem dX10_doneBy_55 : decode cX10_doneBy 55 = .ok (.aload_n 0, 1) := by decide +kernel
theorem dX10_doneBy_56 : decode cX10_doneBy 56 = .ok (.getfield 43, 3) := by decide +kernel
theorem dX10_doneBy_59 : decode cX10_doneBy 59 = .ok (.iconst 3, 1) := by decide +kernel
theorem dX10_doneBy_60 : decode cX10_doneBy 60 = .ok (.iload 4, 2) := by decide +kernel
theorem dX10_doneBy_62 : decode cX10_doneBy 62 = .ok (.iadd, 1) := by decide +kernel
theorem dX10_doneBy_63 : decode cX10_doneBy 63 = .ok (.dup2, 1) := by decide +kernel
theorem dX10_doneBy_64 : decode cX10_doneBy 64 = .ok (.iaload, 1) := by decide +kernel
theorem dX10_doneBy_65 : decode cX10_doneBy 65 = .ok (.iconst 1, 1) := by decide +kernel
theorem dX10_doneBy_66 : decode cX10_doneBy 66 = .ok (.isub, 1) := by decide +kernel
theorem dX10_doneBy_67 : decode cX10_doneBy 67 = .ok (.iastore, 1) := by decide +kernel
theorem dX10_doneBy_68 : decode cX10_doneBy 68 = .ok (.aload_n 0, 1) := by decide +kernel
theorem dX10_doneBy_69 : decode cX10_doneBy 69 = .ok (.invokevirtual 168, 3) := by decide +kernel
theorem dX10_doneBy_72 : decode cX10_doneBy 72 = .ok (.iinc 3 (-1), 3) := by decide +kernel
theorem dX10_doneBy_75 : decode cX10_doneBy 75 = .ok (.goto (-67), 3) := by decide +kernel
theorem dX10_doneBy_78 : decode cX10_doneBy 78 = .ok (.aload_n 0, 1) := by decide +kernel
theorem dX10_doneBy_79 : decode cX10_doneBy 79 = .ok (.invokevirtual 190, 3) := by decide +kernel
theorem dX10_doneBy_82 : decode cX10_doneBy 82 = .ok (.ireturn, 1) := by decide +kernel
theorem dX10_timetable_0 : decode cX10_timetable 0 = .ok (.iload_n 1, 1) := by decide +kernel
theorem dX10_timetable_1 : decode cX10_timetable 1 = .ok (.iconst 1, 1) := by decide +kernel
theorem dX10_timetable_2 : decode cX10_timetable 2 = .ok (.iconst 4, 1) := by decide +kernel
theorem dX10_timetable_3 : decode cX10_timetable 3 = .ok (.invokestatic 76, 3) := by decide +kernel
theorem dX10_timetable_6 : decode cX10_timetable 6 = .ok (.ifCond .eq 12, 3) := by decide +kernel
theorem dX10_timetable_9 : decode cX10_timetable 9 = .ok (.iload_n 2, 1) := by decide +kernel
theorem dX10_timetable_10 : decode cX10_timetable 10 = .ok (.iconst (-1), 1) := by decide +kernel
theorem dX10_timetable_11 : decode cX10_timetable 11 = .ok (.iconst 3, 1) := by decide +kernel
theorem dX10_timetable_12 : decode cX10_timetable 12 = .ok (.invokestatic 76, 3) := by decide +kernel
theorem dX10_timetable_15 : decode cX10_timetable 15 = .ok (.ifCond .ne 5, 3) := by decide +kernel
theorem dX10_timetable_18 : decode cX10_timetable 18 = .ok (.iconst (-1), 1) := by decide +kernel
theorem dX10_timetable_19 : decode cX10_timetable 19 = .ok (.ireturn, 1) := by decide +kernel
theorem dX10_timetable_20 : decode cX10_timetable 20 = .ok (.iconst (-1), 1) := by decide +kernel
theorem dX10_timetable_21 : decode cX10_timetable 21 = .ok (.istore_n 3, 1) := by decide +kernel
theorem dX10_timetable_22 : decode cX10_timetable 22 = .ok (.iconst 0, 1) := by decide +kernel
theorem dX10_timetable_23 : decode cX10_timetable 23 = .ok (.istore 4, 2) := by decide +kernel
theorem dX10_timetable_25 : decode cX10_timetable 25 = .ok (.iconst 0, 1) := by decide +kernel
theorem dX10_timetable_26 : decode cX10_timetable 26 = .ok (.istore 5, 2) := by decide +kernel
theorem dX10_timetable_28 : decode cX10_timetable 28 = .ok (.iload 5, 2) := by decide +kernel
theorem dX10_timetable_30 : decode cX10_timetable 30 = .ok (.iload_n 1, 1) := by decide +kernel
theorem dX10_timetable_31 : decode cX10_timetable 31 = .ok (.invokestatic 196, 3) := by decide +kernel
theorem dX10_timetable_34 : decode cX10_timetable 34 = .ok (.if_icmp .ge 46, 3) := by decide +kernel
theorem dX10_timetable_37 : decode cX10_timetable 37 = .ok (.aload_n 0, 1) := by decide +kernel
theorem dX10_timetable_38 : decode cX10_timetable 38 = .ok (.iload 5, 2) := by decide +kernel
theorem dX10_timetable_40 : decode cX10_timetable 40 = .ok (.iload_n 1, 1) := by decide +kernel
theorem dX10_timetable_41 : decode cX10_timetable 41 = .ok (.invokevirtual 199, 3) := by decide +kernel
theorem dX10_timetable_44 : decode cX10_timetable 44 = .ok (.istore 6, 2) := by decide +kernel
theorem dX10_timetable_46 : decode cX10_timetable 46 = .ok (.iload 6, 2) := by decide +kernel
theorem dX10_timetable_48 : decode cX10_timetable 48 = .ok (.iload_n 3, 1) := by decide +kernel
theorem dX10_timetable_49 : decode cX10_timetable 49 = .ok (.if_icmp .le 8, 3) := by decide +kernel
theorem dX10_timetable_52 : decode cX10_timetable 52 = .ok (.iload 5, 2) := by decide +kernel
theorem dX10_timetable_54 : decode cX10_timetable 54 = .ok (.goto 5, 3) := by decide +kernel
theorem dX10_timetable_57 : decode cX10_timetable 57 = .ok (.iload 4, 2) := by decide +kernel
theorem dX10_timetable_59 : decode cX10_timetable 59 = .ok (.istore 4, 2) := by decide +kernel
theorem dX10_timetable_61 : decode cX10_timetable 61 = .ok (.iload 6, 2) := by decide +kernel
theorem dX10_timetable_63 : decode cX10_timetable 63 = .ok (.iload_n 3, 1) := by decide +kernel
theorem dX10_timetable_64 : decode cX10_timetable 64 = .ok (.if_icmp .le 8, 3) := by decide +kernel
theorem dX10_timetable_67 : decode cX10_timetable 67 = .ok (.iload 6, 2) := by decide +kernel
theorem dX10_timetable_69 : decode cX10_timetable 69 = .ok (.goto 4, 3) := by decide +kernel
theorem dX10_timetable_72 : decode cX10_timetable 72 = .ok (.iload_n 3, 1) := by decide +kernel
theorem dX10_timetable_73 : decode cX10_timetable 73 = .ok (.istore_n 3, 1) := by decide +kernel
theorem dX10_timetable_74 : decode cX10_timetable 74 = .ok (.iinc 5 1, 3) := by decide +kernel
theorem dX10_timetable_77 : decode cX10_timetable 77 = .ok (.goto (-49), 3) := by decide +kernel
theorem dX10_timetable_80 : decode cX10_timetable 80 = .ok (.iload_n 2, 1) := by decide +kernel
theorem dX10_timetable_81 : decode cX10_timetable 81 = .ok (.ifCond .ge 5, 3) := by decide +kernel
theorem dX10_timetable_84 : decode cX10_timetable 84 = .ok (.iload_n 3, 1) := by decide +kernel
theorem dX10_timetable_85 : decode cX10_timetable 85 = .ok (.ireturn, 1) := by decide +kernel
theorem dX10_timetable_86 : decode cX10_timetable 86 = .ok (.iload_n 2, 1) := by decide +kernel
theorem dX10_timetable_87 : decode cX10_timetable 87 = .ok (.iload_n 1, 1) := by decide +kernel
theorem dX10_timetable_88 : decode cX10_timetable 88 = .ok (.if_icmp .ge 22, 3) := by decide +kernel
theorem dX10_timetable_91 : decode cX10_timetable 91 = .ok (.iload 4, 2) := by decide +kernel
theorem dX10_timetable_93 : decode cX10_timetable 93 = .ok (.iload_n 1, 1) := by decide +kernel
theorem dX10_timetable_94 : decode cX10_timetable 94 = .ok (.iconst 1, 1) := by decide +kernel
theorem dX10_timetable_95 : decode cX10_timetable 95 = .ok (.isub, 1) := by decide +kernel
theorem dX10_timetable_96 : decode cX10_timetable 96 = .ok (.iload_n 2, 1) := by decide +kernel
theorem dX10_timetable_97 : decode cX10_timetable 97 = .ok (.isub, 1) := by decide +kernel
theorem dX10_timetable_98 : decode cX10_timetable 98 = .ok (.invokestatic 196, 3) := by decide +kernel
theorem dX10_timetable_101 : decode cX10_timetable 101 = .ok (.idiv, 1) := by decide +kernel
theorem dX10_timetable_102 : decode cX10_timetable 102 = .ok (.bipush 7, 2) := by decide +kernel
theorem dX10_timetable_104 : decode cX10_timetable 104 = .ok (.irem, 1) := by decide +kernel
theorem dX10_timetable_105 : decode cX10_timetable 105 = .ok (.iconst 1, 1) := by decide +kernel
theorem dX10_timetable_106 : decode cX10_timetable 106 = .ok (.isub, 1) := by decide +kernel
theorem dX10_timetable_107 : decode cX10_timetable 107 = .ok (.goto 4, 3) := by decide +kernel
theorem dX10_timetable_110 : decode cX10_timetable 110 = .ok (.iconst (-1), 1) := by decide +kernel
theorem dX10_timetable_111 : decode cX10_timetable 111 = .ok (.istore 5, 2) := by decide +kernel
theorem dX10_timetable_113 : decode cX10_timetable 113 = .ok (.iload 5, 2) := by decide +kernel
theorem dX10_timetable_115 : decode cX10_timetable 115 = .ok (.ifCond .ge 8, 3) := by decide +kernel
theorem dX10_timetable_118 : decode cX10_timetable 118 = .ok (.bipush (-4), 2) := by decide +kernel
theorem dX10_timetable_120 : decode cX10_timetable 120 = .ok (.goto 5, 3) := by decide +kernel
theorem dX10_timetable_123 : decode cX10_timetable 123 = .ok (.iload 5, 2) := by decide +kernel
theorem dX10_timetable_125 : decode cX10_timetable 125 = .ok (.ireturn, 1) := by decide +kernel
theorem dX10_swap_0 : decode cX10_swap 0 = .ok (.iload_n 1, 1) := by decide +kernel
theorem dX10_swap_1 : decode cX10_swap 1 = .ok (.iconst 0, 1) := by decide +kernel
theorem dX10_swap_2 : decode cX10_swap 2 = .ok (.iconst 1, 1) := by decide +kernel
theorem dX10_swap_3 : decode cX10_swap 3 = .ok (.invokestatic 76, 3) := by decide +kernel
theorem dX10_swap_6 : decode cX10_swap 6 = .ok (.ifCond .ne 5, 3) := by decide +kernel
theorem dX10_swap_9 : decode cX10_swap 9 = .ok (.iconst (-1), 1) := by decide +kernel
theorem dX10_swap_10 : decode cX10_swap 10 = .ok (.ireturn, 1) := by decide +kernel
theorem dX10_swap_11 : decode cX10_swap 11 = .ok (.bipush (-4), 2) := by decide +kernel
theorem dX10_swap_13 : decode cX10_swap 13 = .ok (.istore_n 2, 1) := by decide +kernel
theorem dX10_swap_14 : decode cX10_swap 14 = .ok (.bipush (-4), 2) := by decide +kernel
theorem dX10_swap_16 : decode cX10_swap 16 = .ok (.istore_n 3, 1) := by decide +kernel
theorem dX10_swap_17 : decode cX10_swap 17 = .ok (.iconst 0, 1) := by decide +kernel
theorem dX10_swap_18 : decode cX10_swap 18 = .ok (.istore 4, 2) := by decide +kernel
theorem dX10_swap_20 : decode cX10_swap 20 = .ok (.iload 4, 2) := by decide +kernel
theorem dX10_swap_22 : decode cX10_swap 22 = .ok (.aload_n 0, 1) := by decide +kernel
theorem dX10_swap_23 : decode cX10_swap 23 = .ok (.getfield 73, 3) := by decide +kernel
theorem dX10_swap_26 : decode cX10_swap 26 = .ok (.if_icmp .ge 157, 3) := by decide +kernel
theorem dX10_swap_29 : decode cX10_swap 29 = .ok (.iload 4, 2) := by decide +kernel
theorem dX10_swap_31 : decode cX10_swap 31 = .ok (.iconst 1, 1) := by decide +kernel
theorem dX10_swap_32 : decode cX10_swap 32 = .ok (.iadd, 1) := by decide +kernel
theorem dX10_swap_33 : decode cX10_swap 33 = .ok (.istore 5, 2) := by decide +kernel
theorem dX10_swap_35 : decode cX10_swap 35 = .ok (.iload 5, 2) := by decide +kernel
theorem dX10_swap_37 : decode cX10_swap 37 = .ok (.aload_n 0, 1) := by decide +kernel
theorem dX10_swap_38 : decode cX10_swap 38 = .ok (.getfield 73, 3) := by decide +kernel
theorem dX10_swap_41 : decode cX10_swap 41 = .ok (.if_icmp .ge 136, 3) := by decide +kernel
theorem dX10_swap_44 : decode cX10_swap 44 = .ok (.aload_n 0, 1) := by decide +kernel
theorem dX10_swap_45 : decode cX10_swap 45 = .ok (.getfield 16, 3) := by decide +kernel
theorem dX10_swap_48 : decode cX10_swap 48 = .ok (.iconst 1, 1) := by decide +kernel
theorem dX10_swap_49 : decode cX10_swap 49 = .ok (.iaload, 1) := by decide +kernel
theorem dX10_swap_50 : decode cX10_swap 50 = .ok (.iload 4, 2) := by decide +kernel
theorem dX10_swap_52 : decode cX10_swap 52 = .ok (.invokestatic 139, 3) := by decide +kernel
theorem dX10_swap_55 : decode cX10_swap 55 = .ok (.ifCond .ne 116, 3) := by decide +kernel
theorem dX10_swap_58 : decode cX10_swap 58 = .ok (.aload_n 0, 1) := by decide +kernel
theorem dX10_swap_59 : decode cX10_swap 59 = .ok (.getfield 16, 3) := by decide +kernel
theorem dX10_swap_62 : decode cX10_swap 62 = .ok (.iconst 1, 1) := by decide +kernel
theorem dX10_swap_63 : decode cX10_swap 63 = .ok (.iaload, 1) := by decide +kernel
theorem dX10_swap_64 : decode cX10_swap 64 = .ok (.iload 5, 2) := by decide +kernel
theorem dX10_swap_66 : decode cX10_swap 66 = .ok (.invokestatic 139, 3) := by decide +kernel
theorem dX10_swap_69 : decode cX10_swap 69 = .ok (.ifCond .ne 102, 3) := by decide +kernel
theorem dX10_swap_72 : decode cX10_swap 72 = .ok (.aload_n 0, 1) := by decide +kernel
theorem dX10_swap_73 : decode cX10_swap 73 = .ok (.getfield 16, 3) := by decide +kernel
theorem dX10_swap_76 : decode cX10_swap 76 = .ok (.iconst 3, 1) := by decide +kernel
theorem dX10_swap_77 : decode cX10_swap 77 = .ok (.iload 4, 2) := by decide +kernel
theorem dX10_swap_79 : decode cX10_swap 79 = .ok (.iadd, 1) := by decide +kernel
theorem dX10_swap_80 : decode cX10_swap 80 = .ok (.iaload, 1) := by decide +kernel
theorem dX10_swap_81 : decode cX10_swap 81 = .ok (.aload_n 0, 1) := by decide +kernel
theorem dX10_swap_82 : decode cX10_swap 82 = .ok (.getfield 16, 3) := by decide +kernel
theorem dX10_swap_85 : decode cX10_swap 85 = .ok (.iconst 3, 1) := by decide +kernel
theorem dX10_swap_86 : decode cX10_swap 86 = .ok (.iload 5, 2) := by decide +kernel
theorem dX10_swap_88 : decode cX10_swap 88 = .ok (.iadd, 1) := by decide +kernel
theorem dX10_swap_89 : decode cX10_swap 89 = .ok (.iaload, 1) := by decide +kernel
theorem dX10_swap_90 : decode cX10_swap 90 = .ok (.if_icmp .eq 81, 3) := by decide +kernel
theorem dX10_swap_93 : decode cX10_swap 93 = .ok (.aload_n 0, 1) := by decide +kernel
theorem dX10_swap_94 : decode cX10_swap 94 = .ok (.invokevirtual 159, 3) := by decide +kernel
theorem dX10_swap_97 : decode cX10_swap 97 = .ok (.aload_n 0, 1) := by decide +kernel
theorem dX10_swap_98 : decode cX10_swap 98 = .ok (.getfield 43, 3) := by decide +kernel
theorem dX10_swap_101 : decode cX10_swap 101 = .ok (.iconst 3, 1) := by decide +kernel
theorem dX10_swap_102 : decode cX10_swap 102 = .ok (.iload 4, 2) := by decide +kernel
theorem dX10_swap_104 : decode cX10_swap 104 = .ok (.iadd, 1) := by decide +kernel
theorem dX10_swap_105 : decode cX10_swap 105 = .ok (.aload_n 0, 1) := by decide +kernel
theorem dX10_swap_106 : decode cX10_swap 106 = .ok (.getfield 16, 3) := by decide +kernel
theorem dX10_swap_109 : decode cX10_swap 109 = .ok (.iconst 3, 1) := by decide +kernel
theorem dX10_swap_110 : decode cX10_swap 110 = .ok (.iload 5, 2) := by decide +kernel
theorem dX10_swap_112 : decode cX10_swap 112 = .ok (.iadd, 1) := by decide +kernel
theorem dX10_swap_113 : decode cX10_swap 113 = .ok (.iaload, 1) := by decide +kernel
theorem dX10_swap_114 : decode cX10_swap 114 = .ok (.iastore, 1) := by decide +kernel
theorem dX10_swap_115 : decode cX10_swap 115 = .ok (.aload_n 0, 1) := by decide +kernel
theorem dX10_swap_116 : decode cX10_swap 116 = .ok (.getfield 43, 3) := by decide +kernel
theorem dX10_swap_119 : decode cX10_swap 119 = .ok (.iconst 3, 1) := by decide +kernel
theorem dX10_swap_120 : decode cX10_swap 120 = .ok (.iload 5, 2) := by decide +kernel
theorem dX10_swap_122 : decode cX10_swap 122 = .ok (.iadd, 1) := by decide +kernel
theorem dX10_swap_123 : decode cX10_swap 123 = .ok (.aload_n 0, 1) := by decide +kernel
theorem dX10_swap_124 : decode cX10_swap 124 = .ok (.getfield 16, 3) := by decide +kernel
theorem dX10_swap_127 : decode cX10_swap 127 = .ok (.iconst 3, 1) := by decide +kernel
theorem dX10_swap_128 : decode cX10_swap 128 = .ok (.iload 4, 2) := by decide +kernel
theorem dX10_swap_130 : decode cX10_swap 130 = .ok (.iadd, 1) := by decide +kernel
theorem dX10_swap_131 : decode cX10_swap 131 = .ok (.iaload, 1) := by decide +kernel
theorem dX10_swap_132 : decode cX10_swap 132 = .ok (.iastore, 1) := by decide +kernel
theorem dX10_swap_133 : decode cX10_swap 133 = .ok (.aload_n 0, 1) := by decide +kernel
theorem dX10_swap_134 : decode cX10_swap 134 = .ok (.invokevirtual 190, 3) := by decide +kernel
theorem dX10_swap_137 : decode cX10_swap 137 = .ok (.istore 6, 2) := by decide +kernel
theorem dX10_swap_139 : decode cX10_swap 139 = .ok (.iload 6, 2) := by decide +kernel
theorem dX10_swap_141 : decode cX10_swap 141 = .ok (.iload_n 3, 1) := by decide +kernel
theorem dX10_swap_142 : decode cX10_swap 142 = .ok (.if_icmp .le 14, 3) := by decide +kernel
theorem dX10_swap_145 : decode cX10_swap 145 = .ok (.bipush 10, 2) := by decide +kernel
theorem dX10_swap_147 : decode cX10_swap 147 = .ok (.iload 4, 2) := by decide +kernel
theorem dX10_swap_149 : decode cX10_swap 149 = .ok (.imul, 1) := by decide +kernel
theorem dX10_swap_150 : decode cX10_swap 150 = .ok (.iload 5, 2) := by decide +kernel
theorem dX10_swap_152 : decode cX10_swap 152 = .ok (.iadd, 1) := by decide +kernel
theorem dX10_swap_153 : decode cX10_swap 153 = .ok (.goto 4, 3) := by decide +kernel
theorem dX10_swap_156 : decode cX10_swap 156 = .ok (.iload_n 2, 1) := by decide +kernel
theorem dX10_swap_157 : decode cX10_swap 157 = .ok (.istore_n 2, 1) := by decide +kernel
theorem dX10_swap_158 : decode cX10_swap 158 = .ok (.iload 6, 2) := by decide +kernel
theorem dX10_swap_160 : decode cX10_swap 160 = .ok (.iload_n 3, 1) := by decide +kernel
theorem dX10_swap_161 : decode cX10_swap 161 = .ok (.if_icmp .le 8, 3) := by decide +kernel
theorem dX10_swap_164 : decode cX10_swap 164 = .ok (.iload 6, 2) := by decide +kernel
theorem dX10_swap_166 : decode cX10_swap 166 = .ok (.goto 4, 3) := by decide +kernel
theorem dX10_swap_169 : decode cX10_swap 169 = .ok (.iload_n 3, 1) := by decide +kernel
theorem dX10_swap_170 : decode cX10_swap 170 = .ok (.istore_n 3, 1) := by decide +kernel
theorem dX10_swap_171 : decode cX10_swap 171 = .ok (.iinc 5 1, 3) := by decide +kernel
theorem dX10_swap_174 : decode cX10_swap 174 = .ok (.goto (-139), 3) := by decide +kernel
theorem dX10_swap_177 : decode cX10_swap 177 = .ok (.iinc 4 1, 3) := by decide +kernel
theorem dX10_swap_180 : decode cX10_swap 180 = .ok (.goto (-160), 3) := by decide +kernel
theorem dX10_swap_183 : decode cX10_swap 183 = .ok (.iload_n 1, 1) := by decide +kernel
theorem dX10_swap_184 : decode cX10_swap 184 = .ok (.ifCond .ne 7, 3) := by decide +kernel
theorem dX10_swap_187 : decode cX10_swap 187 = .ok (.iload_n 2, 1) := by decide +kernel
theorem dX10_swap_188 : decode cX10_swap 188 = .ok (.goto 4, 3) := by decide +kernel
theorem dX10_swap_191 : decode cX10_swap 191 = .ok (.iload_n 3, 1) := by decide +kernel
theorem dX10_swap_192 : decode cX10_swap 192 = .ok (.ireturn, 1) := by decide +kernel
theorem dX10_can_0 : decode cX10_can 0 = .ok (.aload_n 0, 1) := by decide +kernel
theorem dX10_can_1 : decode cX10_can 1 = .ok (.iload_n 1, 1) := by decide +kernel
theorem dX10_can_2 : decode cX10_can 2 = .ok (.invokevirtual 165, 3) := by decide +kernel
theorem dX10_can_5 : decode cX10_can 5 = .ok (.ifCond .eq 20, 3) := by decide +kernel
theorem dX10_can_8 : decode cX10_can 8 = .ok (.aload_n 0, 1) := by decide +kernel
theorem dX10_can_9 : decode cX10_can 9 = .ok (.iload_n 2, 1) := by decide +kernel
theorem dX10_can_10 : decode cX10_can 10 = .ok (.invokevirtual 165, 3) := by decide +kernel
theorem dX10_can_13 : decode cX10_can 13 = .ok (.ifCond .eq 12, 3) := by decide +kernel
theorem dX10_can_16 : decode cX10_can 16 = .ok (.iload_n 3, 1) := by decide +kernel
theorem dX10_can_17 : decode cX10_can 17 = .ok (.iconst 0, 1) := by decide +kernel
theorem dX10_can_18 : decode cX10_can 18 = .ok (.iconst 1, 1) := by decide +kernel
theorem dX10_can_19 : decode cX10_can 19 = .ok (.invokestatic 76, 3) := by decide +kernel
theorem dX10_can_22 : decode cX10_can 22 = .ok (.ifCond .ne 5, 3) := by decide +kernel
theorem dX10_can_25 : decode cX10_can 25 = .ok (.iconst (-1), 1) := by decide +kernel
theorem dX10_can_26 : decode cX10_can 26 = .ok (.ireturn, 1) := by decide +kernel
theorem dX10_can_27 : decode cX10_can 27 = .ok (.aload_n 0, 1) := by decide +kernel
theorem dX10_can_28 : decode cX10_can 28 = .ok (.invokevirtual 159, 3) := by decide +kernel
theorem dX10_can_31 : decode cX10_can 31 = .ok (.aload_n 0, 1) := by decide +kernel
theorem dX10_can_32 : decode cX10_can 32 = .ok (.invokevirtual 150, 3) := by decide +kernel
theorem dX10_can_35 : decode cX10_can 35 = .ok (.aload_n 0, 1) := by decide +kernel
theorem dX10_can_36 : decode cX10_can 36 = .ok (.getfield 43, 3) := by decide +kernel
theorem dX10_can_39 : decode cX10_can 39 = .ok (.iconst 1, 1) := by decide +kernel
theorem dX10_can_40 : decode cX10_can 40 = .ok (.iaload, 1) := by decide +kernel
theorem dX10_can_41 : decode cX10_can 41 = .ok (.ior, 1) := by decide +kernel
theorem dX10_can_42 : decode cX10_can 42 = .ok (.istore 4, 2) := by decide +kernel
theorem dX10_can_44 : decode cX10_can 44 = .ok (.iconst 0, 1) := by decide +kernel
theorem dX10_can_45 : decode cX10_can 45 = .ok (.istore 5, 2) := by decide +kernel
theorem dX10_can_47 : decode cX10_can 47 = .ok (.iload 5, 2) := by decide +kernel
theorem dX10_can_49 : decode cX10_can 49 = .ok (.aload_n 0, 1) := by decide +kernel
theorem dX10_can_50 : decode cX10_can 50 = .ok (.getfield 73, 3) := by decide +kernel
theorem dX10_can_53 : decode cX10_can 53 = .ok (.if_icmp .ge 45, 3) := by decide +kernel
theorem dX10_can_56 : decode cX10_can 56 = .ok (.aload_n 0, 1) := by decide +kernel
theorem dX10_can_57 : decode cX10_can 57 = .ok (.getfield 49, 3) := by decide +kernel
theorem dX10_can_60 : decode cX10_can 60 = .ok (.iload 5, 2) := by decide +kernel
theorem dX10_can_62 : decode cX10_can 62 = .ok (.iload 4, 2) := by decide +kernel
theorem dX10_can_64 : decode cX10_can 64 = .ok (.iload 5, 2) := by decide +kernel
theorem dX10_can_66 : decode cX10_can 66 = .ok (.invokestatic 139, 3) := by decide +kernel
theorem dX10_can_69 : decode cX10_can 69 = .ok (.ifCond .ne 20, 3) := by decide +kernel
theorem dX10_can_72 : decode cX10_can 72 = .ok (.aload_n 0, 1) := by decide +kernel
theorem dX10_can_73 : decode cX10_can 73 = .ok (.getfield 43, 3) := by decide +kernel
theorem dX10_can_76 : decode cX10_can 76 = .ok (.iconst 3, 1) := by decide +kernel
theorem dX10_can_77 : decode cX10_can 77 = .ok (.iload 5, 2) := by decide +kernel
theorem dX10_can_79 : decode cX10_can 79 = .ok (.iadd, 1) := by decide +kernel
theorem dX10_can_80 : decode cX10_can 80 = .ok (.iaload, 1) := by decide +kernel
theorem dX10_can_81 : decode cX10_can 81 = .ok (.iload_n 2, 1) := by decide +kernel
theorem dX10_can_82 : decode cX10_can 82 = .ok (.if_icmp .ne 7, 3) := by decide +kernel
theorem dX10_can_85 : decode cX10_can 85 = .ok (.iconst 1, 1) := by decide +kernel
theorem dX10_can_86 : decode cX10_can 86 = .ok (.goto 5, 3) := by decide +kernel
theorem dX10_can_89 : decode cX10_can 89 = .ok (.bipush 100, 2) := by decide +kernel
theorem dX10_can_91 : decode cX10_can 91 = .ok (.iastore, 1) := by decide +kernel
theorem dX10_can_92 : decode cX10_can 92 = .ok (.iinc 5 1, 3) := by decide +kernel
theorem dX10_can_95 : decode cX10_can 95 = .ok (.goto (-48), 3) := by decide +kernel
theorem dX10_can_98 : decode cX10_can 98 = .ok (.iconst 0, 1) := by decide +kernel
theorem dX10_can_99 : decode cX10_can 99 = .ok (.istore 5, 2) := by decide +kernel
theorem dX10_can_101 : decode cX10_can 101 = .ok (.iload 5, 2) := by decide +kernel
theorem dX10_can_103 : decode cX10_can 103 = .ok (.aload_n 0, 1) := by decide +kernel
theorem dX10_can_104 : decode cX10_can 104 = .ok (.getfield 73, 3) := by decide +kernel
theorem dX10_can_107 : decode cX10_can 107 = .ok (.if_icmp .ge 154, 3) := by decide +kernel
theorem dX10_can_110 : decode cX10_can 110 = .ok (.iconst 0, 1) := by decide +kernel
theorem dX10_can_111 : decode cX10_can 111 = .ok (.istore 6, 2) := by decide +kernel
theorem dX10_can_113 : decode cX10_can 113 = .ok (.iload 6, 2) := by decide +kernel
theorem dX10_can_115 : decode cX10_can 115 = .ok (.aload_n 0, 1) := by decide +kernel
theorem dX10_can_116 : decode cX10_can 116 = .ok (.getfield 73, 3) := by decide +kernel
theorem dX10_can_119 : decode cX10_can 119 = .ok (.if_icmp .ge 136, 3) := by decide +kernel
theorem dX10_can_122 : decode cX10_can 122 = .ok (.iconst 0, 1) := by decide +kernel
theorem dX10_can_123 : decode cX10_can 123 = .ok (.istore 7, 2) := by decide +kernel
theorem dX10_can_125 : decode cX10_can 125 = .ok (.iload 7, 2) := by decide +kernel
theorem dX10_can_127 : decode cX10_can 127 = .ok (.aload_n 0, 1) := by decide +kernel
theorem dX10_can_128 : decode cX10_can 128 = .ok (.getfield 73, 3) := by decide +kernel
theorem dX10_can_131 : decode cX10_can 131 = .ok (.if_icmp .ge 118, 3) := by decide +kernel
theorem dX10_can_134 : decode cX10_can 134 = .ok (.aload_n 0, 1) := by decide +kernel
theorem dX10_can_135 : decode cX10_can 135 = .ok (.getfield 43, 3) := by decide +kernel
theorem dX10_can_138 : decode cX10_can 138 = .ok (.iconst 3, 1) := by decide +kernel
theorem dX10_can_139 : decode cX10_can 139 = .ok (.iload 6, 2) := by decide +kernel
theorem dX10_can_141 : decode cX10_can 141 = .ok (.iadd, 1) := by decide +kernel
theorem dX10_can_142 : decode cX10_can 142 = .ok (.iaload, 1) := by decide +kernel
theorem dX10_can_143 : decode cX10_can 143 = .ok (.aload_n 0, 1) := by decide +kernel
theorem dX10_can_144 : decode cX10_can 144 = .ok (.getfield 43, 3) := by decide +kernel
theorem dX10_can_147 : decode cX10_can 147 = .ok (.iconst 3, 1) := by decide +kernel
theorem dX10_can_148 : decode cX10_can 148 = .ok (.iload 7, 2) := by decide +kernel
theorem dX10_can_150 : decode cX10_can 150 = .ok (.iadd, 1) := by decide +kernel
theorem dX10_can_151 : decode cX10_can 151 = .ok (.iaload, 1) := by decide +kernel
theorem dX10_can_152 : decode cX10_can 152 = .ok (.isub, 1) := by decide +kernel
theorem dX10_can_153 : decode cX10_can 153 = .ok (.istore 8, 2) := by decide +kernel
theorem dX10_can_155 : decode cX10_can 155 = .ok (.iload 4, 2) := by decide +kernel
theorem dX10_can_157 : decode cX10_can 157 = .ok (.iload 6, 2) := by decide +kernel
theorem dX10_can_159 : decode cX10_can 159 = .ok (.invokestatic 139, 3) := by decide +kernel
theorem dX10_can_162 : decode cX10_can 162 = .ok (.ifCond .ne 47, 3) := by decide +kernel
theorem dX10_can_165 : decode cX10_can 165 = .ok (.iload 4, 2) := by decide +kernel
theorem dX10_can_167 : decode cX10_can 167 = .ok (.iload 7, 2) := by decide +kernel
theorem dX10_can_169 : decode cX10_can 169 = .ok (.invokestatic 139, 3) := by decide +kernel
theorem dX10_can_172 : decode cX10_can 172 = .ok (.ifCond .ne 37, 3) := by decide +kernel
theorem dX10_can_175 : decode cX10_can 175 = .ok (.iload 8, 2) := by decide +kernel
theorem dX10_can_177 : decode cX10_can 177 = .ok (.bipush (-2), 2) := by decide +kernel
theorem dX10_can_179 : decode cX10_can 179 = .ok (.iconst 2, 1) := by decide +kernel
theorem dX10_can_180 : decode cX10_can 180 = .ok (.invokestatic 76, 3) := by decide +kernel
theorem dX10_can_183 : decode cX10_can 183 = .ok (.ifCond .eq 26, 3) := by decide +kernel
theorem dX10_can_186 : decode cX10_can 186 = .ok (.aload_n 0, 1) := by decide +kernel
theorem dX10_can_187 : decode cX10_can 187 = .ok (.getfield 49, 3) := by decide +kernel
theorem dX10_can_190 : decode cX10_can 190 = .ok (.iload 7, 2) := by decide +kernel
theorem dX10_can_192 : decode cX10_can 192 = .ok (.iaload, 1) := by decide +kernel
theorem dX10_can_193 : decode cX10_can 193 = .ok (.iconst 1, 1) := by decide +kernel
theorem dX10_can_194 : decode cX10_can 194 = .ok (.iadd, 1) := by decide +kernel
theorem dX10_can_195 : decode cX10_can 195 = .ok (.aload_n 0, 1) := by decide +kernel
theorem dX10_can_196 : decode cX10_can 196 = .ok (.getfield 49, 3) := by decide +kernel
theorem dX10_can_199 : decode cX10_can 199 = .ok (.iload 6, 2) := by decide +kernel
theorem dX10_can_201 : decode cX10_can 201 = .ok (.iaload, 1) := by decide +kernel
theorem dX10_can_202 : decode cX10_can 202 = .ok (.if_icmp .ge 7, 3) := by decide +kernel
theorem dX10_can_205 : decode cX10_can 205 = .ok (.iconst 1, 1) := by decide +kernel
theorem dX10_can_206 : decode cX10_can 206 = .ok (.goto 4, 3) := by decide +kernel
theorem dX10_can_209 : decode cX10_can 209 = .ok (.iconst 0, 1) := by decide +kernel
theorem dX10_can_210 : decode cX10_can 210 = .ok (.istore 9, 2) := by decide +kernel
theorem dX10_can_212 : decode cX10_can 212 = .ok (.aload_n 0, 1) := by decide +kernel
theorem dX10_can_213 : decode cX10_can 213 = .ok (.getfield 49, 3) := by decide +kernel
theorem dX10_can_216 : decode cX10_can 216 = .ok (.iload 6, 2) := by decide +kernel
theorem dX10_can_218 : decode cX10_can 218 = .ok (.iload 9, 2) := by decide +kernel
theorem dX10_can_220 : decode cX10_can 220 = .ok (.ifCond .eq 15, 3) := by decide +kernel
theorem dX10_can_223 : decode cX10_can 223 = .ok (.aload_n 0, 1) := by decide +kernel
theorem dX10_can_224 : decode cX10_can 224 = .ok (.getfield 49, 3) := by decide +kernel
theorem dX10_can_227 : decode cX10_can 227 = .ok (.iload 7, 2) := by decide +kernel
theorem dX10_can_229 : decode cX10_can 229 = .ok (.iaload, 1) := by decide +kernel
theorem dX10_can_230 : decode cX10_can 230 = .ok (.iconst 1, 1) := by decide +kernel
theorem dX10_can_231 : decode cX10_can 231 = .ok (.iadd, 1) := by decide +kernel
theorem dX10_can_232 : decode cX10_can 232 = .ok (.goto 10, 3) := by decide +kernel
theorem dX10_can_235 : decode cX10_can 235 = .ok (.aload_n 0, 1) := by decide +kernel
theorem dX10_can_236 : decode cX10_can 236 = .ok (.getfield 49, 3) := by decide +kernel
theorem dX10_can_239 : decode cX10_can 239 = .ok (.iload 6, 2) := by decide +kernel
theorem dX10_can_241 : decode cX10_can 241 = .ok (.iaload, 1) := by decide +kernel
theorem dX10_can_242 : decode cX10_can 242 = .ok (.iastore, 1) := by decide +kernel
theorem dX10_can_243 : decode cX10_can 243 = .ok (.iinc 7 1, 3) := by decide +kernel
theorem dX10_can_246 : decode cX10_can 246 = .ok (.goto (-121), 3) := by decide +kernel
theorem dX10_can_249 : decode cX10_can 249 = .ok (.iinc 6 1, 3) := by decide +kernel
theorem dX10_can_252 : decode cX10_can 252 = .ok (.goto (-139), 3) := by decide +kernel
theorem dX10_can_255 : decode cX10_can 255 = .ok (.iinc 5 1, 3) := by decide +kernel
theorem dX10_can_258 : decode cX10_can 258 = .ok (.goto (-157), 3) := by decide +kernel
theorem dX10_can_261 : decode cX10_can 261 = .ok (.bipush (-4), 2) := by decide +kernel
theorem dX10_can_263 : decode cX10_can 263 = .ok (.istore 5, 2) := by decide +kernel
theorem dX10_can_265 : decode cX10_can 265 = .ok (.bipush 100, 2) := by decide +kernel
theorem dX10_can_267 : decode cX10_can 267 = .ok (.istore 6, 2) := by decide +kernel
theorem dX10_can_269 : decode cX10_can 269 = .ok (.iconst 0, 1) := by decide +kernel
theorem dX10_can_270 : decode cX10_can 270 = .ok (.istore 7, 2) := by decide +kernel
theorem dX10_can_272 : decode cX10_can 272 = .ok (.iload 7, 2) := by decide +kernel
theorem dX10_can_274 : decode cX10_can 274 = .ok (.aload_n 0, 1) := by decide +kernel
theorem dX10_can_275 : decode cX10_can 275 = .ok (.getfield 73, 3) := by decide +kernel
theorem dX10_can_278 : decode cX10_can 278 = .ok (.if_icmp .ge 74, 3) := by decide +kernel
theorem dX10_can_281 : decode cX10_can 281 = .ok (.aload_n 0, 1) := by decide +kernel
theorem dX10_can_282 : decode cX10_can 282 = .ok (.getfield 43, 3) := by decide +kernel
theorem dX10_can_285 : decode cX10_can 285 = .ok (.iconst 3, 1) := by decide +kernel
theorem dX10_can_286 : decode cX10_can 286 = .ok (.iload 7, 2) := by decide +kernel
theorem dX10_can_288 : decode cX10_can 288 = .ok (.iadd, 1) := by decide +kernel
theorem dX10_can_289 : decode cX10_can 289 = .ok (.iaload, 1) := by decide +kernel
theorem dX10_can_290 : decode cX10_can 290 = .ok (.iload_n 1, 1) := by decide +kernel
theorem dX10_can_291 : decode cX10_can 291 = .ok (.if_icmp .ne 19, 3) := by decide +kernel
theorem dX10_can_294 : decode cX10_can 294 = .ok (.aload_n 0, 1) := by decide +kernel
theorem dX10_can_295 : decode cX10_can 295 = .ok (.getfield 49, 3) := by decide +kernel
theorem dX10_can_298 : decode cX10_can 298 = .ok (.iload 7, 2) := by decide +kernel
theorem dX10_can_300 : decode cX10_can 300 = .ok (.iaload, 1) := by decide +kernel
theorem dX10_can_301 : decode cX10_can 301 = .ok (.iload 6, 2) := by decide +kernel
theorem dX10_can_303 : decode cX10_can 303 = .ok (.if_icmp .ge 7, 3) := by decide +kernel
theorem dX10_can_306 : decode cX10_can 306 = .ok (.iconst 1, 1) := by decide +kernel
theorem dX10_can_307 : decode cX10_can 307 = .ok (.goto 4, 3) := by decide +kernel
theorem dX10_can_310 : decode cX10_can 310 = .ok (.iconst 0, 1) := by decide +kernel
theorem dX10_can_311 : decode cX10_can 311 = .ok (.istore 8, 2) := by decide +kernel
theorem dX10_can_313 : decode cX10_can 313 = .ok (.iload 8, 2) := by decide +kernel
theorem dX10_can_315 : decode cX10_can 315 = .ok (.ifCond .eq 8, 3) := by decide +kernel
theorem dX10_can_318 : decode cX10_can 318 = .ok (.iload 7, 2) := by decide +kernel
theorem dX10_can_320 : decode cX10_can 320 = .ok (.goto 5, 3) := by decide +kernel
theorem dX10_can_323 : decode cX10_can 323 = .ok (.iload 5, 2) := by decide +kernel
theorem dX10_can_325 : decode cX10_can 325 = .ok (.istore 5, 2) := by decide +kernel
theorem dX10_can_327 : decode cX10_can 327 = .ok (.iload 8, 2) := by decide +kernel
theorem dX10_can_329 : decode cX10_can 329 = .ok (.ifCond .eq 13, 3) := by decide +kernel
theorem dX10_can_332 : decode cX10_can 332 = .ok (.aload_n 0, 1) := by decide +kernel
theorem dX10_can_333 : decode cX10_can 333 = .ok (.getfield 49, 3) := by decide +kernel
theorem dX10_can_336 : decode cX10_can 336 = .ok (.iload 7, 2) := by decide +kernel
theorem dX10_can_338 : decode cX10_can 338 = .ok (.iaload, 1) := by decide +kernel
theorem dX10_can_339 : decode cX10_can 339 = .ok (.goto 5, 3) := by decide +kernel
theorem dX10_can_342 : decode cX10_can 342 = .ok (.iload 6, 2) := by decide +kernel
theorem dX10_can_344 : decode cX10_can 344 = .ok (.istore 6, 2) := by decide +kernel
theorem dX10_can_346 : decode cX10_can 346 = .ok (.iinc 7 1, 3) := by decide +kernel
theorem dX10_can_349 : decode cX10_can 349 = .ok (.goto (-77), 3) := by decide +kernel
theorem dX10_can_352 : decode cX10_can 352 = .ok (.iload 5, 2) := by decide +kernel
theorem dX10_can_354 : decode cX10_can 354 = .ok (.ifCond .lt 8, 3) := by decide +kernel
theorem dX10_can_357 : decode cX10_can 357 = .ok (.iload_n 3, 1) := by decide +kernel
theorem dX10_can_358 : decode cX10_can 358 = .ok (.iconst 1, 1) := by decide +kernel
theorem dX10_can_359 : decode cX10_can 359 = .ok (.if_icmp .ne 8, 3) := by decide +kernel
theorem dX10_can_362 : decode cX10_can 362 = .ok (.iload 5, 2) := by decide +kernel
theorem dX10_can_364 : decode cX10_can 364 = .ok (.goto 5, 3) := by decide +kernel
theorem dX10_can_367 : decode cX10_can 367 = .ok (.iload 6, 2) := by decide +kernel
theorem dX10_can_369 : decode cX10_can 369 = .ok (.ireturn, 1) := by decide +kernel
theorem dX10_seen_0 : decode cX10_seen 0 = .ok (.aload_n 0, 1) := by decide +kernel
theorem dX10_seen_1 : decode cX10_seen 1 = .ok (.iload_n 1, 1) := by decide +kernel
theorem dX10_seen_2 : decode cX10_seen 2 = .ok (.invokevirtual 156, 3) := by decide +kernel
theorem dX10_seen_5 : decode cX10_seen 5 = .ok (.ifCond .eq 20, 3) := by decide +kernel
theorem dX10_seen_8 : decode cX10_seen 8 = .ok (.aload_n 0, 1) := by decide +kernel
theorem dX10_seen_9 : decode cX10_seen 9 = .ok (.iload_n 2, 1) := by decide +kernel
theorem dX10_seen_10 : decode cX10_seen 10 = .ok (.invokevirtual 165, 3) := by decide +kernel
theorem dX10_seen_13 : decode cX10_seen 13 = .ok (.ifCond .eq 12, 3) := by decide +kernel
theorem dX10_seen_16 : decode cX10_seen 16 = .ok (.iload_n 3, 1) := by decide +kernel
theorem dX10_seen_17 : decode cX10_seen 17 = .ok (.iconst 0, 1) := by decide +kernel
theorem dX10_seen_18 : decode cX10_seen 18 = .ok (.iconst 1, 1) := by decide +kernel
theorem dX10_seen_19 : decode cX10_seen 19 = .ok (.invokestatic 76, 3) := by decide +kernel
theorem dX10_seen_22 : decode cX10_seen 22 = .ok (.ifCond .ne 5, 3) := by decide +kernel
theorem dX10_seen_25 : decode cX10_seen 25 = .ok (.iconst (-1), 1) := by decide +kernel
theorem dX10_seen_26 : decode cX10_seen 26 = .ok (.ireturn, 1) := by decide +kernel
theorem dX10_seen_27 : decode cX10_seen 27 = .ok (.aload_n 0, 1) := by decide +kernel
theorem dX10_seen_28 : decode cX10_seen 28 = .ok (.getfield 136, 3) := by decide +kernel
theorem dX10_seen_31 : decode cX10_seen 31 = .ok (.bipush 6, 2) := by decide +kernel
theorem dX10_seen_33 : decode cX10_seen 33 = .ok (.if_icmp .ne 6, 3) := by decide +kernel
theorem dX10_seen_36 : decode cX10_seen 36 = .ok (.bipush (-3), 2) := by decide +kernel
theorem dX10_seen_38 : decode cX10_seen 38 = .ok (.ireturn, 1) := by decide +kernel
theorem dX10_seen_39 : decode cX10_seen 39 = .ok (.aload_n 0, 1) := by decide +kernel
theorem dX10_seen_40 : decode cX10_seen 40 = .ok (.getfield 25, 3) := by decide +kernel
theorem dX10_seen_43 : decode cX10_seen 43 = .ok (.iconst 3, 1) := by decide +kernel
theorem dX10_seen_44 : decode cX10_seen 44 = .ok (.aload_n 0, 1) := by decide +kernel
theorem dX10_seen_45 : decode cX10_seen 45 = .ok (.getfield 136, 3) := by decide +kernel
theorem dX10_seen_48 : decode cX10_seen 48 = .ok (.imul, 1) := by decide +kernel
theorem dX10_seen_49 : decode cX10_seen 49 = .ok (.iload_n 1, 1) := by decide +kernel
theorem dX10_seen_50 : decode cX10_seen 50 = .ok (.iastore, 1) := by decide +kernel
theorem dX10_seen_51 : decode cX10_seen 51 = .ok (.aload_n 0, 1) := by decide +kernel
theorem dX10_seen_52 : decode cX10_seen 52 = .ok (.getfield 25, 3) := by decide +kernel
theorem dX10_seen_55 : decode cX10_seen 55 = .ok (.iconst 3, 1) := by decide +kernel
theorem dX10_seen_56 : decode cX10_seen 56 = .ok (.aload_n 0, 1) := by decide +kernel
theorem dX10_seen_57 : decode cX10_seen 57 = .ok (.getfield 136, 3) := by decide +kernel
theorem dX10_seen_60 : decode cX10_seen 60 = .ok (.imul, 1) := by decide +kernel
theorem dX10_seen_61 : decode cX10_seen 61 = .ok (.iconst 1, 1) := by decide +kernel
theorem dX10_seen_62 : decode cX10_seen 62 = .ok (.iadd, 1) := by decide +kernel
theorem dX10_seen_63 : decode cX10_seen 63 = .ok (.iload_n 2, 1) := by decide +kernel
theorem dX10_seen_64 : decode cX10_seen 64 = .ok (.iastore, 1) := by decide +kernel
theorem dX10_seen_65 : decode cX10_seen 65 = .ok (.aload_n 0, 1) := by decide +kernel
theorem dX10_seen_66 : decode cX10_seen 66 = .ok (.getfield 25, 3) := by decide +kernel
theorem dX10_seen_69 : decode cX10_seen 69 = .ok (.iconst 3, 1) := by decide +kernel
theorem dX10_seen_70 : decode cX10_seen 70 = .ok (.aload_n 0, 1) := by decide +kernel
theorem dX10_seen_71 : decode cX10_seen 71 = .ok (.getfield 136, 3) := by decide +kernel
theorem dX10_seen_74 : decode cX10_seen 74 = .ok (.imul, 1) := by decide +kernel
theorem dX10_seen_75 : decode cX10_seen 75 = .ok (.iconst 2, 1) := by decide +kernel
theorem dX10_seen_76 : decode cX10_seen 76 = .ok (.iadd, 1) := by decide +kernel
theorem dX10_seen_77 : decode cX10_seen 77 = .ok (.iload_n 3, 1) := by decide +kernel
theorem dX10_seen_78 : decode cX10_seen 78 = .ok (.iastore, 1) := by decide +kernel
theorem dX10_seen_79 : decode cX10_seen 79 = .ok (.aload_n 0, 1) := by decide +kernel
theorem dX10_seen_80 : decode cX10_seen 80 = .ok (.dup, 1) := by decide +kernel
theorem dX10_seen_81 : decode cX10_seen 81 = .ok (.getfield 136, 3) := by decide +kernel
theorem dX10_seen_84 : decode cX10_seen 84 = .ok (.iconst 1, 1) := by decide +kernel
theorem dX10_seen_85 : decode cX10_seen 85 = .ok (.iadd, 1) := by decide +kernel
theorem dX10_seen_86 : decode cX10_seen 86 = .ok (.putfield 136, 3) := by decide +kernel
theorem dX10_seen_89 : decode cX10_seen 89 = .ok (.aload_n 0, 1) := by decide +kernel
theorem dX10_seen_90 : decode cX10_seen 90 = .ok (.getfield 136, 3) := by decide +kernel
theorem dX10_seen_93 : decode cX10_seen 93 = .ok (.ireturn, 1) := by decide +kernel
theorem dX10_forget_0 : decode cX10_forget 0 = .ok (.aload_n 0, 1) := by decide +kernel
theorem dX10_forget_1 : decode cX10_forget 1 = .ok (.getfield 136, 3) := by decide +kernel
theorem dX10_forget_4 : decode cX10_forget 4 = .ok (.istore_n 1, 1) := by decide +kernel
theorem dX10_forget_5 : decode cX10_forget 5 = .ok (.aload_n 0, 1) := by decide +kernel
theorem dX10_forget_6 : decode cX10_forget 6 = .ok (.iconst 0, 1) := by decide +kernel
theorem dX10_forget_7 : decode cX10_forget 7 = .ok (.putfield 136, 3) := by decide +kernel
theorem dX10_forget_10 : decode cX10_forget 10 = .ok (.iload_n 1, 1) := by decide +kernel
theorem dX10_forget_11 : decode cX10_forget 11 = .ok (.ireturn, 1) := by decide +kernel
theorem dX10_isSo_0 : decode cX10_isSo 0 = .ok (.iconst 1, 1) := by decide +kernel
theorem dX10_isSo_1 : decode cX10_isSo 1 = .ok (.istore 4, 2) := by decide +kernel
theorem dX10_isSo_3 : decode cX10_isSo 3 = .ok (.iconst 0, 1) := by decide +kernel
theorem dX10_isSo_4 : decode cX10_isSo 4 = .ok (.istore 5, 2) := by decide +kernel
theorem dX10_isSo_6 : decode cX10_isSo 6 = .ok (.iload 5, 2) := by decide +kernel
theorem dX10_isSo_8 : decode cX10_isSo 8 = .ok (.aload_n 0, 1) := by decide +kernel
theorem dX10_isSo_9 : decode cX10_isSo 9 = .ok (.getfield 136, 3) := by decide +kernel
theorem dX10_isSo_12 : decode cX10_isSo 12 = .ok (.if_icmp .ge 87, 3) := by decide +kernel
theorem dX10_isSo_15 : decode cX10_isSo 15 = .ok (.aload_n 0, 1) := by decide +kernel
theorem dX10_isSo_16 : decode cX10_isSo 16 = .ok (.iload_n 1, 1) := by decide +kernel
theorem dX10_isSo_17 : decode cX10_isSo 17 = .ok (.aload_n 0, 1) := by decide +kernel
theorem dX10_isSo_18 : decode cX10_isSo 18 = .ok (.getfield 25, 3) := by decide +kernel
theorem dX10_isSo_21 : decode cX10_isSo 21 = .ok (.iconst 3, 1) := by decide +kernel
theorem dX10_isSo_22 : decode cX10_isSo 22 = .ok (.iload 5, 2) := by decide +kernel
theorem dX10_isSo_24 : decode cX10_isSo 24 = .ok (.imul, 1) := by decide +kernel
theorem dX10_isSo_25 : decode cX10_isSo 25 = .ok (.iconst 1, 1) := by decide +kernel
theorem dX10_isSo_26 : decode cX10_isSo 26 = .ok (.iadd, 1) := by decide +kernel
theorem dX10_isSo_27 : decode cX10_isSo 27 = .ok (.iaload, 1) := by decide +kernel
theorem dX10_isSo_28 : decode cX10_isSo 28 = .ok (.iload_n 2, 1) := by decide +kernel
theorem dX10_isSo_29 : decode cX10_isSo 29 = .ok (.invokevirtual 143, 3) := by decide +kernel
theorem dX10_isSo_32 : decode cX10_isSo 32 = .ok (.iload_n 3, 1) := by decide +kernel
theorem dX10_isSo_33 : decode cX10_isSo 33 = .ok (.if_icmp .le 7, 3) := by decide +kernel
theorem dX10_isSo_36 : decode cX10_isSo 36 = .ok (.iconst 1, 1) := by decide +kernel
theorem dX10_isSo_37 : decode cX10_isSo 37 = .ok (.goto 4, 3) := by decide +kernel
theorem dX10_isSo_40 : decode cX10_isSo 40 = .ok (.iconst 0, 1) := by decide +kernel
theorem dX10_isSo_41 : decode cX10_isSo 41 = .ok (.istore 6, 2) := by decide +kernel
theorem dX10_isSo_43 : decode cX10_isSo 43 = .ok (.iload 4, 2) := by decide +kernel
theorem dX10_isSo_45 : decode cX10_isSo 45 = .ok (.ifCond .eq 45, 3) := by decide +kernel
theorem dX10_isSo_48 : decode cX10_isSo 48 = .ok (.aload_n 0, 1) := by decide +kernel
theorem dX10_isSo_49 : decode cX10_isSo 49 = .ok (.getfield 25, 3) := by decide +kernel
theorem dX10_isSo_52 : decode cX10_isSo 52 = .ok (.iconst 3, 1) := by decide +kernel
theorem dX10_isSo_53 : decode cX10_isSo 53 = .ok (.iload 5, 2) := by decide +kernel
theorem dX10_isSo_55 : decode cX10_isSo 55 = .ok (.imul, 1) := by decide +kernel
theorem dX10_isSo_56 : decode cX10_isSo 56 = .ok (.iaload, 1) := by decide +kernel
theorem dX10_isSo_57 : decode cX10_isSo 57 = .ok (.iload_n 1, 1) := by decide +kernel
theorem dX10_isSo_58 : decode cX10_isSo 58 = .ok (.if_icmp .ne 28, 3) := by decide +kernel
theorem dX10_isSo_61 : decode cX10_isSo 61 = .ok (.iload 6, 2) := by decide +kernel
theorem dX10_isSo_63 : decode cX10_isSo 63 = .ok (.aload_n 0, 1) := by decide +kernel
theorem dX10_isSo_64 : decode cX10_isSo 64 = .ok (.getfield 25, 3) := by decide +kernel
theorem dX10_isSo_67 : decode cX10_isSo 67 = .ok (.iconst 3, 1) := by decide +kernel
theorem dX10_isSo_68 : decode cX10_isSo 68 = .ok (.iload 5, 2) := by decide +kernel
theorem dX10_isSo_70 : decode cX10_isSo 70 = .ok (.imul, 1) := by decide +kernel
theorem dX10_isSo_71 : decode cX10_isSo 71 = .ok (.iconst 2, 1) := by decide +kernel
theorem dX10_isSo_72 : decode cX10_isSo 72 = .ok (.iadd, 1) := by decide +kernel
theorem dX10_isSo_73 : decode cX10_isSo 73 = .ok (.iaload, 1) := by decide +kernel
theorem dX10_isSo_74 : decode cX10_isSo 74 = .ok (.iconst 1, 1) := by decide +kernel
theorem dX10_isSo_75 : decode cX10_isSo 75 = .ok (.if_icmp .ne 7, 3) := by decide +kernel
theorem dX10_isSo_78 : decode cX10_isSo 78 = .ok (.iconst 1, 1) := by decide +kernel
theorem dX10_isSo_79 : decode cX10_isSo 79 = .ok (.goto 4, 3) := by decide +kernel
theorem dX10_isSo_82 : decode cX10_isSo 82 = .ok (.iconst 0, 1) := by decide +kernel
theorem dX10_isSo_83 : decode cX10_isSo 83 = .ok (.if_icmp .ne 7, 3) := by decide +kernel
theorem dX10_isSo_86 : decode cX10_isSo 86 = .ok (.iconst 1, 1) := by decide +kernel
theorem dX10_isSo_87 : decode cX10_isSo 87 = .ok (.goto 4, 3) := by decide +kernel
theorem dX10_isSo_90 : decode cX10_isSo 90 = .ok (.iconst 0, 1) := by decide +kernel
theorem dX10_isSo_91 : decode cX10_isSo 91 = .ok (.istore 4, 2) := by decide +kernel
theorem dX10_isSo_93 : decode cX10_isSo 93 = .ok (.iinc 5 1, 3) := by decide +kernel
theorem dX10_isSo_96 : decode cX10_isSo 96 = .ok (.goto (-90), 3) := by decide +kernel
theorem dX10_isSo_99 : decode cX10_isSo 99 = .ok (.iload 4, 2) := by decide +kernel
theorem dX10_isSo_101 : decode cX10_isSo 101 = .ok (.ireturn, 1) := by decide +kernel
theorem dX10_nerves_0 : decode cX10_nerves 0 = .ok (.aload_n 0, 1) := by decide +kernel
theorem dX10_nerves_1 : decode cX10_nerves 1 = .ok (.iload_n 1, 1) := by decide +kernel
theorem dX10_nerves_2 : decode cX10_nerves 2 = .ok (.invokevirtual 156, 3) := by decide +kernel
theorem dX10_nerves_5 : decode cX10_nerves 5 = .ok (.ifCond .eq 12, 3) := by decide +kernel
theorem dX10_nerves_8 : decode cX10_nerves 8 = .ok (.iload_n 2, 1) := by decide +kernel
theorem dX10_nerves_9 : decode cX10_nerves 9 = .ok (.iconst 0, 1) := by decide +kernel
theorem dX10_nerves_10 : decode cX10_nerves 10 = .ok (.iconst 1, 1) := by decide +kernel
theorem dX10_nerves_11 : decode cX10_nerves 11 = .ok (.invokestatic 76, 3) := by decide +kernel
theorem dX10_nerves_14 : decode cX10_nerves 14 = .ok (.ifCond .ne 5, 3) := by decide +kernel
theorem dX10_nerves_17 : decode cX10_nerves 17 = .ok (.iconst (-1), 1) := by decide +kernel
theorem dX10_nerves_18 : decode cX10_nerves 18 = .ok (.ireturn, 1) := by decide +kernel
theorem dX10_nerves_19 : decode cX10_nerves 19 = .ok (.aload_n 0, 1) := by decide +kernel
theorem dX10_nerves_20 : decode cX10_nerves 20 = .ok (.invokevirtual 159, 3) := by decide +kernel
theorem dX10_nerves_23 : decode cX10_nerves 23 = .ok (.iconst 0, 1) := by decide +kernel
theorem dX10_nerves_24 : decode cX10_nerves 24 = .ok (.istore_n 3, 1) := by decide +kernel
theorem dX10_nerves_25 : decode cX10_nerves 25 = .ok (.bipush (-4), 2) := by decide +kernel
theorem dX10_nerves_27 : decode cX10_nerves 27 = .ok (.istore 4, 2) := by decide +kernel
theorem dX10_nerves_29 : decode cX10_nerves 29 = .ok (.bipush 30, 2) := by decide +kernel
theorem dX10_nerves_31 : decode cX10_nerves 31 = .ok (.istore 5, 2) := by decide +kernel
theorem dX10_nerves_33 : decode cX10_nerves 33 = .ok (.iload 5, 2) := by decide +kernel
theorem dX10_nerves_35 : decode cX10_nerves 35 = .ok (.ifCond .lt 51, 3) := by decide +kernel
theorem dX10_nerves_38 : decode cX10_nerves 38 = .ok (.aload_n 0, 1) := by decide +kernel
theorem dX10_nerves_39 : decode cX10_nerves 39 = .ok (.iload_n 1, 1) := by decide +kernel
theorem dX10_nerves_40 : decode cX10_nerves 40 = .ok (.aload_n 0, 1) := by decide +kernel
theorem dX10_nerves_41 : decode cX10_nerves 41 = .ok (.getfield 7, 3) := by decide +kernel
theorem dX10_nerves_44 : decode cX10_nerves 44 = .ok (.iload_n 1, 1) := by decide +kernel
theorem dX10_nerves_45 : decode cX10_nerves 45 = .ok (.iaload, 1) := by decide +kernel
theorem dX10_nerves_46 : decode cX10_nerves 46 = .ok (.iload 5, 2) := by decide +kernel
theorem dX10_nerves_48 : decode cX10_nerves 48 = .ok (.invokevirtual 203, 3) := by decide +kernel
theorem dX10_nerves_51 : decode cX10_nerves 51 = .ok (.istore 6, 2) := by decide +kernel
theorem dX10_nerves_53 : decode cX10_nerves 53 = .ok (.iload_n 3, 1) := by decide +kernel
theorem dX10_nerves_54 : decode cX10_nerves 54 = .ok (.iload 6, 2) := by decide +kernel
theorem dX10_nerves_56 : decode cX10_nerves 56 = .ok (.ifCond .eq 7, 3) := by decide +kernel
theorem dX10_nerves_59 : decode cX10_nerves 59 = .ok (.iconst 1, 1) := by decide +kernel
theorem dX10_nerves_60 : decode cX10_nerves 60 = .ok (.goto 4, 3) := by decide +kernel
theorem dX10_nerves_63 : decode cX10_nerves 63 = .ok (.iconst 0, 1) := by decide +kernel
theorem dX10_nerves_64 : decode cX10_nerves 64 = .ok (.iadd, 1) := by decide +kernel
theorem dX10_nerves_65 : decode cX10_nerves 65 = .ok (.istore_n 3, 1) := by decide +kernel
theorem dX10_nerves_66 : decode cX10_nerves 66 = .ok (.iload 6, 2) := by decide +kernel
theorem dX10_nerves_68 : decode cX10_nerves 68 = .ok (.ifCond .eq 8, 3) := by decide +kernel
theorem dX10_nerves_71 : decode cX10_nerves 71 = .ok (.iload 5, 2) := by decide +kernel
theorem dX10_nerves_73 : decode cX10_nerves 73 = .ok (.goto 5, 3) := by decide +kernel
theorem dX10_nerves_76 : decode cX10_nerves 76 = .ok (.iload 4, 2) := by decide +kernel
theorem dX10_nerves_78 : decode cX10_nerves 78 = .ok (.istore 4, 2) := by decide +kernel
theorem dX10_nerves_80 : decode cX10_nerves 80 = .ok (.iinc 5 (-1), 3) := by decide +kernel
theorem dX10_nerves_83 : decode cX10_nerves 83 = .ok (.goto (-50), 3) := by decide +kernel
theorem dX10_nerves_86 : decode cX10_nerves 86 = .ok (.iload_n 2, 1) := by decide +kernel
theorem dX10_nerves_87 : decode cX10_nerves 87 = .ok (.ifCond .ne 7, 3) := by decide +kernel
theorem dX10_nerves_90 : decode cX10_nerves 90 = .ok (.iload_n 3, 1) := by decide +kernel
theorem dX10_nerves_91 : decode cX10_nerves 91 = .ok (.goto 5, 3) := by decide +kernel
theorem dX10_nerves_94 : decode cX10_nerves 94 = .ok (.iload 4, 2) := by decide +kernel
theorem dX10_nerves_96 : decode cX10_nerves 96 = .ok (.ireturn, 1) := by decide +kernel
theorem dX10_kinds_0 : decode cX10_kinds 0 = .ok (.aload_n 0, 1) := by decide +kernel
theorem dX10_kinds_1 : decode cX10_kinds 1 = .ok (.iload_n 1, 1) := by decide +kernel
theorem dX10_kinds_2 : decode cX10_kinds 2 = .ok (.invokevirtual 156, 3) := by decide +kernel
theorem dX10_kinds_5 : decode cX10_kinds 5 = .ok (.ifCond .ne 5, 3) := by decide +kernel
theorem dX10_kinds_8 : decode cX10_kinds 8 = .ok (.iconst (-1), 1) := by decide +kernel
theorem dX10_kinds_9 : decode cX10_kinds 9 = .ok (.ireturn, 1) := by decide +kernel
theorem dX10_kinds_10 : decode cX10_kinds 10 = .ok (.aload_n 0, 1) := by decide +kernel
theorem dX10_kinds_11 : decode cX10_kinds 11 = .ok (.invokevirtual 159, 3) := by decide +kernel
theorem dX10_kinds_14 : decode cX10_kinds 14 = .ok (.iconst 0, 1) := by decide +kernel
theorem dX10_kinds_15 : decode cX10_kinds 15 = .ok (.istore_n 2, 1) := by decide +kernel
theorem dX10_kinds_16 : decode cX10_kinds 16 = .ok (.iconst 0, 1) := by decide +kernel
theorem dX10_kinds_17 : decode cX10_kinds 17 = .ok (.istore_n 3, 1) := by decide +kernel
theorem dX10_kinds_18 : decode cX10_kinds 18 = .ok (.iload_n 3, 1) := by decide +kernel
theorem dX10_kinds_19 : decode cX10_kinds 19 = .ok (.iconst 3, 1) := by decide +kernel
theorem dX10_kinds_20 : decode cX10_kinds 20 = .ok (.if_icmp .gt 37, 3) := by decide +kernel
theorem dX10_kinds_23 : decode cX10_kinds 23 = .ok (.iload_n 2, 1) := by decide +kernel
theorem dX10_kinds_24 : decode cX10_kinds 24 = .ok (.aload_n 0, 1) := by decide +kernel
theorem dX10_kinds_25 : decode cX10_kinds 25 = .ok (.iload_n 1, 1) := by decide +kernel
theorem dX10_kinds_26 : decode cX10_kinds 26 = .ok (.iload_n 3, 1) := by decide +kernel
theorem dX10_kinds_27 : decode cX10_kinds 27 = .ok (.aload_n 0, 1) := by decide +kernel
theorem dX10_kinds_28 : decode cX10_kinds 28 = .ok (.getfield 43, 3) := by decide +kernel
theorem dX10_kinds_31 : decode cX10_kinds 31 = .ok (.bipush 15, 2) := by decide +kernel
theorem dX10_kinds_33 : decode cX10_kinds 33 = .ok (.iload_n 1, 1) := by decide +kernel
theorem dX10_kinds_34 : decode cX10_kinds 34 = .ok (.iadd, 1) := by decide +kernel
theorem dX10_kinds_35 : decode cX10_kinds 35 = .ok (.iaload, 1) := by decide +kernel
theorem dX10_kinds_36 : decode cX10_kinds 36 = .ok (.invokevirtual 203, 3) := by decide +kernel
theorem dX10_kinds_39 : decode cX10_kinds 39 = .ok (.ifCond .eq 9, 3) := by decide +kernel
theorem dX10_kinds_42 : decode cX10_kinds 42 = .ok (.iconst 1, 1) := by decide +kernel
theorem dX10_kinds_43 : decode cX10_kinds 43 = .ok (.iload_n 3, 1) := by decide +kernel
theorem dX10_kinds_44 : decode cX10_kinds 44 = .ok (.ishl, 1) := by decide +kernel
theorem dX10_kinds_45 : decode cX10_kinds 45 = .ok (.goto 4, 3) := by decide +kernel
theorem dX10_kinds_48 : decode cX10_kinds 48 = .ok (.iconst 0, 1) := by decide +kernel
theorem dX10_kinds_49 : decode cX10_kinds 49 = .ok (.ior, 1) := by decide +kernel
theorem dX10_kinds_50 : decode cX10_kinds 50 = .ok (.istore_n 2, 1) := by decide +kernel
theorem dX10_kinds_51 : decode cX10_kinds 51 = .ok (.iinc 3 1, 3) := by decide +kernel
theorem dX10_kinds_54 : decode cX10_kinds 54 = .ok (.goto (-36), 3) := by decide +kernel
theorem dX10_kinds_57 : decode cX10_kinds 57 = .ok (.iload_n 2, 1) := by decide +kernel
theorem dX10_kinds_58 : decode cX10_kinds 58 = .ok (.ireturn, 1) := by decide +kernel
theorem dX10_least_0 : decode cX10_least 0 = .ok (.iload_n 0, 1) := by decide +kernel
theorem dX10_least_1 : decode cX10_least 1 = .ok (.istore_n 3, 1) := by decide +kernel
theorem dX10_least_2 : decode cX10_least 2 = .ok (.iload_n 1, 1) := by decide +kernel
theorem dX10_least_3 : decode cX10_least 3 = .ok (.istore 4, 2) := by decide +kernel
theorem dX10_least_5 : decode cX10_least 5 = .ok (.iload 4, 2) := by decide +kernel
theorem dX10_least_7 : decode cX10_least 7 = .ok (.ifCond .le 19, 3) := by decide +kernel
theorem dX10_least_10 : decode cX10_least 10 = .ok (.iload_n 3, 1) := by decide +kernel
theorem dX10_least_11 : decode cX10_least 11 = .ok (.iload 4, 2) := by decide +kernel
theorem dX10_least_13 : decode cX10_least 13 = .ok (.irem, 1) := by decide +kernel
theorem dX10_least_14 : decode cX10_least 14 = .ok (.istore 5, 2) := by decide +kernel
theorem dX10_least_16 : decode cX10_least 16 = .ok (.iload 4, 2) := by decide +kernel
theorem dX10_least_18 : decode cX10_least 18 = .ok (.istore_n 3, 1) := by decide +kernel
theorem dX10_least_19 : decode cX10_least 19 = .ok (.iload 5, 2) := by decide +kernel
theorem dX10_least_21 : decode cX10_least 21 = .ok (.istore 4, 2) := by decide +kernel
theorem dX10_least_23 : decode cX10_least 23 = .ok (.goto (-18), 3) := by decide +kernel
theorem dX10_least_26 : decode cX10_least 26 = .ok (.iload_n 2, 1) := by decide +kernel
theorem dX10_least_27 : decode cX10_least 27 = .ok (.ifCond .ne 7, 3) := by decide +kernel
theorem dX10_least_30 : decode cX10_least 30 = .ok (.iload_n 0, 1) := by decide +kernel
theorem dX10_least_31 : decode cX10_least 31 = .ok (.goto 4, 3) := by decide +kernel
theorem dX10_least_34 : decode cX10_least 34 = .ok (.iload_n 1, 1) := by decide +kernel
theorem dX10_least_35 : decode cX10_least 35 = .ok (.iload_n 3, 1) := by decide +kernel
theorem dX10_least_36 : decode cX10_least 36 = .ok (.idiv, 1) := by decide +kernel
theorem dX10_least_37 : decode cX10_least 37 = .ok (.ireturn, 1) := by decide +kernel
theorem dX10_likely_0 : decode cX10_likely 0 = .ok (.iload_n 1, 1) := by decide +kernel
theorem dX10_likely_1 : decode cX10_likely 1 = .ok (.iconst 0, 1) := by decide +kernel
theorem dX10_likely_2 : decode cX10_likely 2 = .ok (.iconst 5, 1) := by decide +kernel
theorem dX10_likely_3 : decode cX10_likely 3 = .ok (.invokestatic 76, 3) := by decide +kernel
theorem dX10_likely_6 : decode cX10_likely 6 = .ok (.ifCond .eq 22, 3) := by decide +kernel
theorem dX10_likely_9 : decode cX10_likely 9 = .ok (.iload_n 2, 1) := by decide +kernel
theorem dX10_likely_10 : decode cX10_likely 10 = .ok (.iconst 0, 1) := by decide +kernel
theorem dX10_likely_11 : decode cX10_likely 11 = .ok (.bipush 10, 2) := by decide +kernel
theorem dX10_likely_13 : decode cX10_likely 13 = .ok (.invokestatic 76, 3) := by decide +kernel
theorem dX10_likely_16 : decode cX10_likely 16 = .ok (.ifCond .eq 12, 3) := by decide +kernel
theorem dX10_likely_19 : decode cX10_likely 19 = .ok (.iload_n 3, 1) := by decide +kernel
theorem dX10_likely_20 : decode cX10_likely 20 = .ok (.iconst 0, 1) := by decide +kernel
theorem dX10_likely_21 : decode cX10_likely 21 = .ok (.iconst 1, 1) := by decide +kernel
theorem dX10_likely_22 : decode cX10_likely 22 = .ok (.invokestatic 76, 3) := by decide +kernel
theorem dX10_likely_25 : decode cX10_likely 25 = .ok (.ifCond .ne 5, 3) := by decide +kernel
theorem dX10_likely_28 : decode cX10_likely 28 = .ok (.iconst (-1), 1) := by decide +kernel
theorem dX10_likely_29 : decode cX10_likely 29 = .ok (.ireturn, 1) := by decide +kernel
theorem dX10_likely_30 : decode cX10_likely 30 = .ok (.aload_n 0, 1) := by decide +kernel
theorem dX10_likely_31 : decode cX10_likely 31 = .ok (.invokevirtual 159, 3) := by decide +kernel
theorem dX10_likely_34 : decode cX10_likely 34 = .ok (.aload_n 0, 1) := by decide +kernel
theorem dX10_likely_35 : decode cX10_likely 35 = .ok (.invokevirtual 150, 3) := by decide +kernel
theorem dX10_likely_38 : decode cX10_likely 38 = .ok (.istore 4, 2) := by decide +kernel
theorem dX10_likely_40 : decode cX10_likely 40 = .ok (.iconst 0, 1) := by decide +kernel
theorem dX10_likely_41 : decode cX10_likely 41 = .ok (.istore 5, 2) := by decide +kernel
theorem dX10_likely_43 : decode cX10_likely 43 = .ok (.iconst 1, 1) := by decide +kernel
theorem dX10_likely_44 : decode cX10_likely 44 = .ok (.istore 6, 2) := by decide +kernel
theorem dX10_likely_46 : decode cX10_likely 46 = .ok (.iconst 0, 1) := by decide +kernel
theorem dX10_likely_47 : decode cX10_likely 47 = .ok (.istore 7, 2) := by decide +kernel
theorem dX10_likely_49 : decode cX10_likely 49 = .ok (.iload 7, 2) := by decide +kernel
theorem dX10_likely_51 : decode cX10_likely 51 = .ok (.aload_n 0, 1) := by decide +kernel
theorem dX10_likely_52 : decode cX10_likely 52 = .ok (.getfield 73, 3) := by decide +kernel
theorem dX10_likely_55 : decode cX10_likely 55 = .ok (.if_icmp .ge 30, 3) := by decide +kernel
theorem dX10_likely_58 : decode cX10_likely 58 = .ok (.iload 6, 2) := by decide +kernel
theorem dX10_likely_60 : decode cX10_likely 60 = .ok (.iload 4, 2) := by decide +kernel
theorem dX10_likely_62 : decode cX10_likely 62 = .ok (.iload 7, 2) := by decide +kernel
theorem dX10_likely_64 : decode cX10_likely 64 = .ok (.invokestatic 139, 3) := by decide +kernel
theorem dX10_likely_67 : decode cX10_likely 67 = .ok (.ifCond .eq 8, 3) := by decide +kernel
theorem dX10_likely_70 : decode cX10_likely 70 = .ok (.bipush 10, 2) := by decide +kernel
theorem dX10_likely_72 : decode cX10_likely 72 = .ok (.goto 4, 3) := by decide +kernel
theorem dX10_likely_75 : decode cX10_likely 75 = .ok (.iconst 1, 1) := by decide +kernel
theorem dX10_likely_76 : decode cX10_likely 76 = .ok (.imul, 1) := by decide +kernel
theorem dX10_likely_77 : decode cX10_likely 77 = .ok (.istore 6, 2) := by decide +kernel
theorem dX10_likely_79 : decode cX10_likely 79 = .ok (.iinc 7 1, 3) := by decide +kernel
theorem dX10_likely_82 : decode cX10_likely 82 = .ok (.goto (-33), 3) := by decide +kernel
theorem dX10_likely_85 : decode cX10_likely 85 = .ok (.iconst 0, 1) := by decide +kernel
theorem dX10_likely_86 : decode cX10_likely 86 = .ok (.istore 7, 2) := by decide +kernel
theorem dX10_likely_88 : decode cX10_likely 88 = .ok (.iload 7, 2) := by decide +kernel
theorem dX10_likely_90 : decode cX10_likely 90 = .ok (.iconst 1, 1) := by decide +kernel
theorem dX10_likely_91 : decode cX10_likely 91 = .ok (.aload_n 0, 1) := by decide +kernel
theorem dX10_likely_92 : decode cX10_likely 92 = .ok (.getfield 73, 3) := by decide +kernel
theorem dX10_likely_95 : decode cX10_likely 95 = .ok (.ishl, 1) := by decide +kernel
theorem dX10_likely_96 : decode cX10_likely 96 = .ok (.if_icmp .ge 111, 3) := by decide +kernel
theorem dX10_likely_99 : decode cX10_likely 99 = .ok (.iload 7, 2) := by decide +kernel
theorem dX10_likely_101 : decode cX10_likely 101 = .ok (.iload 4, 2) := by decide +kernel
theorem dX10_likely_103 : decode cX10_likely 103 = .ok (.iconst (-1), 1) := by decide +kernel
theorem dX10_likely_104 : decode cX10_likely 104 = .ok (.ixor, 1) := by decide +kernel
theorem dX10_likely_105 : decode cX10_likely 105 = .ok (.iand, 1) := by decide +kernel
theorem dX10_likely_106 : decode cX10_likely 106 = .ok (.ifCond .ne 95, 3) := by decide +kernel
theorem dX10_likely_109 : decode cX10_likely 109 = .ok (.iconst 1, 1) := by decide +kernel
theorem dX10_likely_110 : decode cX10_likely 110 = .ok (.istore 8, 2) := by decide +kernel
theorem dX10_likely_112 : decode cX10_likely 112 = .ok (.iconst 0, 1) := by decide +kernel
theorem dX10_likely_113 : decode cX10_likely 113 = .ok (.istore 9, 2) := by decide +kernel
theorem dX10_likely_115 : decode cX10_likely 115 = .ok (.iload 9, 2) := by decide +kernel
theorem dX10_likely_117 : decode cX10_likely 117 = .ok (.aload_n 0, 1) := by decide +kernel
theorem dX10_likely_118 : decode cX10_likely 118 = .ok (.getfield 73, 3) := by decide +kernel
theorem dX10_likely_121 : decode cX10_likely 121 = .ok (.if_icmp .ge 46, 3) := by decide +kernel
theorem dX10_likely_124 : decode cX10_likely 124 = .ok (.iload 8, 2) := by decide +kernel
theorem dX10_likely_126 : decode cX10_likely 126 = .ok (.iload 4, 2) := by decide +kernel
theorem dX10_likely_128 : decode cX10_likely 128 = .ok (.iload 9, 2) := by decide +kernel
theorem dX10_likely_130 : decode cX10_likely 130 = .ok (.invokestatic 139, 3) := by decide +kernel
theorem dX10_likely_133 : decode cX10_likely 133 = .ok (.ifCond .ne 7, 3) := by decide +kernel
theorem dX10_likely_136 : decode cX10_likely 136 = .ok (.iconst 1, 1) := by decide +kernel
theorem dX10_likely_137 : decode cX10_likely 137 = .ok (.goto 21, 3) := by decide +kernel
theorem dX10_likely_140 : decode cX10_likely 140 = .ok (.iload 7, 2) := by decide +kernel
theorem dX10_likely_142 : decode cX10_likely 142 = .ok (.iload 9, 2) := by decide +kernel
theorem dX10_likely_144 : decode cX10_likely 144 = .ok (.invokestatic 139, 3) := by decide +kernel
theorem dX10_likely_147 : decode cX10_likely 147 = .ok (.ifCond .eq 7, 3) := by decide +kernel
theorem dX10_likely_150 : decode cX10_likely 150 = .ok (.iload_n 2, 1) := by decide +kernel
theorem dX10_likely_151 : decode cX10_likely 151 = .ok (.goto 7, 3) := by decide +kernel
theorem dX10_likely_154 : decode cX10_likely 154 = .ok (.bipush 10, 2) := by decide +kernel
theorem dX10_likely_156 : decode cX10_likely 156 = .ok (.iload_n 2, 1) := by decide +kernel
theorem dX10_likely_157 : decode cX10_likely 157 = .ok (.isub, 1) := by decide +kernel
theorem dX10_likely_158 : decode cX10_likely 158 = .ok (.imul, 1) := by decide +kernel
theorem dX10_likely_159 : decode cX10_likely 159 = .ok (.istore 8, 2) := by decide +kernel
theorem dX10_likely_161 : decode cX10_likely 161 = .ok (.iinc 9 1, 3) := by decide +kernel
theorem dX10_likely_164 : decode cX10_likely 164 = .ok (.goto (-49), 3) := by decide +kernel
theorem dX10_likely_167 : decode cX10_likely 167 = .ok (.aload_n 0, 1) := by decide +kernel
theorem dX10_likely_168 : decode cX10_likely 168 = .ok (.getfield 43, 3) := by decide +kernel
theorem dX10_likely_171 : decode cX10_likely 171 = .ok (.iconst 1, 1) := by decide +kernel
theorem dX10_likely_172 : decode cX10_likely 172 = .ok (.aload_n 0, 1) := by decide +kernel
theorem dX10_likely_173 : decode cX10_likely 173 = .ok (.getfield 16, 3) := by decide +kernel
theorem dX10_likely_176 : decode cX10_likely 176 = .ok (.iconst 1, 1) := by decide +kernel
theorem dX10_likely_177 : decode cX10_likely 177 = .ok (.iaload, 1) := by decide +kernel
theorem dX10_likely_178 : decode cX10_likely 178 = .ok (.iload 7, 2) := by decide +kernel
theorem dX10_likely_180 : decode cX10_likely 180 = .ok (.ior, 1) := by decide +kernel
theorem dX10_likely_181 : decode cX10_likely 181 = .ok (.iastore, 1) := by decide +kernel
theorem dX10_likely_182 : decode cX10_likely 182 = .ok (.iload 5, 2) := by decide +kernel
theorem dX10_likely_184 : decode cX10_likely 184 = .ok (.aload_n 0, 1) := by decide +kernel
theorem dX10_likely_185 : decode cX10_likely 185 = .ok (.invokevirtual 190, 3) := by decide +kernel
theorem dX10_likely_188 : decode cX10_likely 188 = .ok (.iload_n 1, 1) := by decide +kernel
theorem dX10_likely_189 : decode cX10_likely 189 = .ok (.if_icmp .lt 8, 3) := by decide +kernel
theorem dX10_likely_192 : decode cX10_likely 192 = .ok (.iload 8, 2) := by decide +kernel
theorem dX10_likely_194 : decode cX10_likely 194 = .ok (.goto 4, 3) := by decide +kernel
theorem dX10_likely_197 : decode cX10_likely 197 = .ok (.iconst 0, 1) := by decide +kernel
theorem dX10_likely_198 : decode cX10_likely 198 = .ok (.iadd, 1) := by decide +kernel
theorem dX10_likely_199 : decode cX10_likely 199 = .ok (.istore 5, 2) := by decide +kernel
theorem dX10_likely_201 : decode cX10_likely 201 = .ok (.iinc 7 1, 3) := by decide +kernel
theorem dX10_likely_204 : decode cX10_likely 204 = .ok (.goto (-116), 3) := by decide +kernel
theorem dX10_likely_207 : decode cX10_likely 207 = .ok (.iload 5, 2) := by decide +kernel
theorem dX10_likely_209 : decode cX10_likely 209 = .ok (.iload 6, 2) := by decide +kernel
theorem dX10_likely_211 : decode cX10_likely 211 = .ok (.iload_n 3, 1) := by decide +kernel
theorem dX10_likely_212 : decode cX10_likely 212 = .ok (.invokestatic 206, 3) := by decide +kernel
theorem dX10_likely_215 : decode cX10_likely 215 = .ok (.ireturn, 1) := by decide +kernel
theorem dX10_turns_0 : decode cX10_turns 0 = .ok (.iload_n 1, 1) := by decide +kernel
theorem dX10_turns_1 : decode cX10_turns 1 = .ok (.aload_n 0, 1) := by decide +kernel
theorem dX10_turns_2 : decode cX10_turns 2 = .ok (.getfield 73, 3) := by decide +kernel
theorem dX10_turns_5 : decode cX10_turns 5 = .ok (.irem, 1) := by decide +kernel
theorem dX10_turns_6 : decode cX10_turns 6 = .ok (.istore_n 2, 1) := by decide +kernel
theorem dX10_turns_7 : decode cX10_turns 7 = .ok (.iload_n 1, 1) := by decide +kernel
theorem dX10_turns_8 : decode cX10_turns 8 = .ok (.bipush 8, 2) := by decide +kernel
theorem dX10_turns_10 : decode cX10_turns 10 = .ok (.idiv, 1) := by decide +kernel
theorem dX10_turns_11 : decode cX10_turns 11 = .ok (.bipush 6, 2) := by decide +kernel
theorem dX10_turns_13 : decode cX10_turns 13 = .ok (.irem, 1) := by decide +kernel
theorem dX10_turns_14 : decode cX10_turns 14 = .ok (.istore_n 3, 1) := by decide +kernel
theorem dX10_turns_15 : decode cX10_turns 15 = .ok (.iload_n 3, 1) := by decide +kernel
theorem dX10_turns_16 : decode cX10_turns 16 = .ok (.iconst 2, 1) := by decide +kernel
theorem dX10_turns_17 : decode cX10_turns 17 = .ok (.if_icmp .ge 30, 3) := by decide +kernel
theorem dX10_turns_20 : decode cX10_turns 20 = .ok (.aload_n 0, 1) := by decide +kernel
theorem dX10_turns_21 : decode cX10_turns 21 = .ok (.getfield 43, 3) := by decide +kernel
theorem dX10_turns_24 : decode cX10_turns 24 = .ok (.iconst 3, 1) := by decide +kernel
theorem dX10_turns_25 : decode cX10_turns 25 = .ok (.iload_n 2, 1) := by decide +kernel
theorem dX10_turns_26 : decode cX10_turns 26 = .ok (.iadd, 1) := by decide +kernel
theorem dX10_turns_27 : decode cX10_turns 27 = .ok (.dup2, 1) := by decide +kernel
theorem dX10_turns_28 : decode cX10_turns 28 = .ok (.iaload, 1) := by decide +kernel
theorem dX10_turns_29 : decode cX10_turns 29 = .ok (.aload_n 0, 1) := by decide +kernel
theorem dX10_turns_30 : decode cX10_turns 30 = .ok (.iload_n 2, 1) := by decide +kernel
theorem dX10_turns_31 : decode cX10_turns 31 = .ok (.invokevirtual 174, 3) := by decide +kernel
theorem dX10_turns_34 : decode cX10_turns 34 = .ok (.ifCond .eq 7, 3) := by decide +kernel
theorem dX10_turns_37 : decode cX10_turns 37 = .ok (.iconst 1, 1) := by decide +kernel
theorem dX10_turns_38 : decode cX10_turns 38 = .ok (.goto 4, 3) := by decide +kernel
theorem dX10_turns_41 : decode cX10_turns 41 = .ok (.iconst 0, 1) := by decide +kernel
theorem dX10_turns_42 : decode cX10_turns 42 = .ok (.isub, 1) := by decide +kernel
theorem dX10_turns_43 : decode cX10_turns 43 = .ok (.iastore, 1) := by decide +kernel
theorem dX10_turns_44 : decode cX10_turns 44 = .ok (.goto 53, 3) := by decide +kernel
theorem dX10_turns_47 : decode cX10_turns 47 = .ok (.iload_n 3, 1) := by decide +kernel
theorem dX10_turns_48 : decode cX10_turns 48 = .ok (.iconst 2, 1) := by decide +kernel
theorem dX10_turns_49 : decode cX10_turns 49 = .ok (.if_icmp .ne 30, 3) := by decide +kernel
theorem dX10_turns_52 : decode cX10_turns 52 = .ok (.aload_n 0, 1) := by decide +kernel
theorem dX10_turns_53 : decode cX10_turns 53 = .ok (.getfield 43, 3) := by decide +kernel
theorem dX10_turns_56 : decode cX10_turns 56 = .ok (.iconst 3, 1) := by decide +kernel
theorem dX10_turns_57 : decode cX10_turns 57 = .ok (.iload_n 2, 1) := by decide +kernel
theorem dX10_turns_58 : decode cX10_turns 58 = .ok (.iadd, 1) := by decide +kernel
theorem dX10_turns_59 : decode cX10_turns 59 = .ok (.dup2, 1) := by decide +kernel
theorem dX10_turns_60 : decode cX10_turns 60 = .ok (.iaload, 1) := by decide +kernel
theorem dX10_turns_61 : decode cX10_turns 61 = .ok (.aload_n 0, 1) := by decide +kernel
theorem dX10_turns_62 : decode cX10_turns 62 = .ok (.iload_n 2, 1) := by decide +kernel
theorem dX10_turns_63 : decode cX10_turns 63 = .ok (.invokevirtual 177, 3) := by decide +kernel
theorem dX10_turns_66 : decode cX10_turns 66 = .ok (.ifCond .eq 7, 3) := by decide +kernel
theorem dX10_turns_69 : decode cX10_turns 69 = .ok (.iconst 1, 1) := by decide +kernel
theorem dX10_turns_70 : decode cX10_turns 70 = .ok (.goto 4, 3) := by decide +kernel
theorem dX10_turns_73 : decode cX10_turns 73 = .ok (.iconst 0, 1) := by decide +kernel
theorem dX10_turns_74 : decode cX10_turns 74 = .ok (.iadd, 1) := by decide +kernel
theorem dX10_turns_75 : decode cX10_turns 75 = .ok (.iastore, 1) := by decide +kernel
theorem dX10_turns_76 : decode cX10_turns 76 = .ok (.goto 21, 3) := by decide +kernel
theorem dX10_turns_79 : decode cX10_turns 79 = .ok (.iload_n 3, 1) := by decide +kernel
theorem dX10_turns_80 : decode cX10_turns 80 = .ok (.iconst 3, 1) := by decide +kernel
theorem dX10_turns_81 : decode cX10_turns 81 = .ok (.if_icmp .ne 16, 3) := by decide +kernel
theorem dX10_turns_84 : decode cX10_turns 84 = .ok (.aload_n 0, 1) := by decide +kernel
theorem dX10_turns_85 : decode cX10_turns 85 = .ok (.iload_n 2, 1) := by decide +kernel
theorem dX10_turns_86 : decode cX10_turns 86 = .ok (.invokevirtual 162, 3) := by decide +kernel
theorem dX10_turns_89 : decode cX10_turns 89 = .ok (.ifCond .eq 8, 3) := by decide +kernel
theorem dX10_turns_92 : decode cX10_turns 92 = .ok (.aload_n 0, 1) := by decide +kernel
theorem dX10_turns_93 : decode cX10_turns 93 = .ok (.iload_n 2, 1) := by decide +kernel
theorem dX10_turns_94 : decode cX10_turns 94 = .ok (.invokevirtual 180, 3) := by decide +kernel
theorem dX10_turns_97 : decode cX10_turns 97 = .ok (.aload_n 0, 1) := by decide +kernel
theorem dX10_turns_98 : decode cX10_turns 98 = .ok (.invokevirtual 168, 3) := by decide +kernel
theorem dX10_turns_101 : decode cX10_turns 101 = .ok (.return_, 1) := by decide +kernel
theorem dX10_decade_0 : decode cX10_decade 0 = .ok (.iload_n 1, 1) := by decide +kernel
theorem dX10_decade_1 : decode cX10_decade 1 = .ok (.iconst 0, 1) := by decide +kernel
theorem dX10_decade_2 : decode cX10_decade 2 = .ok (.sipush 9999, 3) := by decide +kernel
theorem dX10_decade_5 : decode cX10_decade 5 = .ok (.invokestatic 76, 3) := by decide +kernel
theorem dX10_decade_8 : decode cX10_decade 8 = .ok (.ifCond .eq 22, 3) := by decide +kernel
theorem dX10_decade_11 : decode cX10_decade 11 = .ok (.iload_n 2, 1) := by decide +kernel
theorem dX10_decade_12 : decode cX10_decade 12 = .ok (.iconst 1, 1) := by decide +kernel
theorem dX10_decade_13 : decode cX10_decade 13 = .ok (.bipush 60, 2) := by decide +kernel
theorem dX10_decade_15 : decode cX10_decade 15 = .ok (.invokestatic 76, 3) := by decide +kernel
theorem dX10_decade_18 : decode cX10_decade 18 = .ok (.ifCond .eq 12, 3) := by decide +kernel
theorem dX10_decade_21 : decode cX10_decade 21 = .ok (.iload_n 3, 1) := by decide +kernel
theorem dX10_decade_22 : decode cX10_decade 22 = .ok (.iconst 0, 1) := by decide +kernel
theorem dX10_decade_23 : decode cX10_decade 23 = .ok (.iconst 2, 1) := by decide +kernel
theorem dX10_decade_24 : decode cX10_decade 24 = .ok (.invokestatic 76, 3) := by decide +kernel
theorem dX10_decade_27 : decode cX10_decade 27 = .ok (.ifCond .ne 5, 3) := by decide +kernel
theorem dX10_decade_30 : decode cX10_decade 30 = .ok (.iconst (-1), 1) := by decide +kernel
theorem dX10_decade_31 : decode cX10_decade 31 = .ok (.ireturn, 1) := by decide +kernel
theorem dX10_decade_32 : decode cX10_decade 32 = .ok (.aload_n 0, 1) := by decide +kernel
theorem dX10_decade_33 : decode cX10_decade 33 = .ok (.invokevirtual 159, 3) := by decide +kernel
theorem dX10_decade_36 : decode cX10_decade 36 = .ok (.iconst 0, 1) := by decide +kernel
theorem dX10_decade_37 : decode cX10_decade 37 = .ok (.istore 4, 2) := by decide +kernel
theorem dX10_decade_39 : decode cX10_decade 39 = .ok (.iload 4, 2) := by decide +kernel
theorem dX10_decade_41 : decode cX10_decade 41 = .ok (.iload_n 2, 1) := by decide +kernel
theorem dX10_decade_42 : decode cX10_decade 42 = .ok (.if_icmp .ge 45, 3) := by decide +kernel
theorem dX10_decade_45 : decode cX10_decade 45 = .ok (.ldc2_w 209, 3) := by decide +kernel
theorem dX10_decade_48 : decode cX10_decade 48 = .ok (.iload_n 1, 1) := by decide +kernel
theorem dX10_decade_49 : decode cX10_decade 49 = .ok (.i2l, 1) := by decide +kernel
theorem dX10_decade_50 : decode cX10_decade 50 = .ok (.lmul, 1) := by decide +kernel
theorem dX10_decade_51 : decode cX10_decade 51 = .ok (.ldc2_w 211, 3) := by decide +kernel
theorem dX10_decade_54 : decode cX10_decade 54 = .ok (.iload 4, 2) := by decide +kernel
theorem dX10_decade_56 : decode cX10_decade 56 = .ok (.i2l, 1) := by decide +kernel
theorem dX10_decade_57 : decode cX10_decade 57 = .ok (.lmul, 1) := by decide +kernel
theorem dX10_decade_58 : decode cX10_decade 58 = .ok (.ladd, 1) := by decide +kernel
theorem dX10_decade_59 : decode cX10_decade 59 = .ok (.lconst 1, 1) := by decide +kernel
theorem dX10_decade_60 : decode cX10_decade 60 = .ok (.ladd, 1) := by decide +kernel
theorem dX10_decade_61 : decode cX10_decade 61 = .ok (.lstore 5, 2) := by decide +kernel
theorem dX10_decade_63 : decode cX10_decade 63 = .ok (.aload_n 0, 1) := by decide +kernel
theorem dX10_decade_64 : decode cX10_decade 64 = .ok (.lload 5, 2) := by decide +kernel
theorem dX10_decade_66 : decode cX10_decade 66 = .ok (.lload 5, 2) := by decide +kernel
theorem dX10_decade_68 : decode cX10_decade 68 = .ok (.lmul, 1) := by decide +kernel
theorem dX10_decade_69 : decode cX10_decade 69 = .ok (.ldc2_w 213, 3) := by decide +kernel
theorem dX10_decade_72 : decode cX10_decade 72 = .ok (.lrem, 1) := by decide +kernel
theorem dX10_decade_73 : decode cX10_decade 73 = .ok (.ldc2_w 215, 3) := by decide +kernel
theorem dX10_decade_76 : decode cX10_decade 76 = .ok (.ldiv, 1) := by decide +kernel
theorem dX10_decade_77 : decode cX10_decade 77 = .ok (.l2i, 1) := by decide +kernel
theorem dX10_decade_78 : decode cX10_decade 78 = .ok (.invokevirtual 217, 3) := by decide +kernel
theorem dX10_decade_81 : decode cX10_decade 81 = .ok (.iinc 4 1, 3) := by decide +kernel
theorem dX10_decade_84 : decode cX10_decade 84 = .ok (.goto (-45), 3) := by decide +kernel
theorem dX10_decade_87 : decode cX10_decade 87 = .ok (.iconst 0, 1) := by decide +kernel
theorem dX10_decade_88 : decode cX10_decade 88 = .ok (.istore 4, 2) := by decide +kernel
theorem dX10_decade_90 : decode cX10_decade 90 = .ok (.iconst 0, 1) := by decide +kernel
theorem dX10_decade_91 : decode cX10_decade 91 = .ok (.istore 5, 2) := by decide +kernel
theorem dX10_decade_93 : decode cX10_decade 93 = .ok (.iload 5, 2) := by decide +kernel
theorem dX10_decade_95 : decode cX10_decade 95 = .ok (.aload_n 0, 1) := by decide +kernel
theorem dX10_decade_96 : decode cX10_decade 96 = .ok (.getfield 73, 3) := by decide +kernel
end
section
theorem dX10_decade_99 : decode cX10_decade 99 = .ok (.if_icmp .ge 41, 3) := by decide +kernel
theorem dX10_decade_102 : decode cX10_decade 102 = .ok (.iload 4, 2) := by decide +kernel
theorem dX10_decade_104 : decode cX10_decade 104 = .ok (.aload_n 0, 1) := by decide +kernel
theorem dX10_decade_105 : decode cX10_decade 105 = .ok (.getfield 43, 3) := by decide +kernel
theorem dX10_decade_108 : decode cX10_decade 108 = .ok (.iconst 1, 1) := by decide +kernel
theorem dX10_decade_109 : decode cX10_decade 109 = .ok (.iaload, 1) := by decide +kernel
theorem dX10_decade_110 : decode cX10_decade 110 = .ok (.iload 5, 2) := by decide +kernel
theorem dX10_decade_112 : decode cX10_decade 112 = .ok (.invokestatic 139, 3) := by decide +kernel
theorem dX10_decade_115 : decode cX10_decade 115 = .ok (.ifCond .eq 7, 3) := by decide +kernel
theorem dX10_decade_118 : decode cX10_decade 118 = .ok (.iconst 0, 1) := by decide +kernel
theorem dX10_decade_119 : decode cX10_decade 119 = .ok (.goto 12, 3) := by decide +kernel
theorem dX10_decade_122 : decode cX10_decade 122 = .ok (.aload_n 0, 1) := by decide +kernel
theorem dX10_decade_123 : decode cX10_decade 123 = .ok (.getfield 43, 3) := by decide +kernel
theorem dX10_decade_126 : decode cX10_decade 126 = .ok (.iconst 3, 1) := by decide +kernel
theorem dX10_decade_127 : decode cX10_decade 127 = .ok (.iload 5, 2) := by decide +kernel
theorem dX10_decade_129 : decode cX10_decade 129 = .ok (.iadd, 1) := by decide +kernel
theorem dX10_decade_130 : decode cX10_decade 130 = .ok (.iaload, 1) := by decide +kernel
theorem dX10_decade_131 : decode cX10_decade 131 = .ok (.iadd, 1) := by decide +kernel
theorem dX10_decade_132 : decode cX10_decade 132 = .ok (.istore 4, 2) := by decide +kernel
theorem dX10_decade_134 : decode cX10_decade 134 = .ok (.iinc 5 1, 3) := by decide +kernel
theorem dX10_decade_137 : decode cX10_decade 137 = .ok (.goto (-44), 3) := by decide +kernel
theorem dX10_decade_140 : decode cX10_decade 140 = .ok (.iload_n 3, 1) := by decide +kernel
theorem dX10_decade_141 : decode cX10_decade 141 = .ok (.ifCond .ne 15, 3) := by decide +kernel
theorem dX10_decade_144 : decode cX10_decade 144 = .ok (.aload_n 0, 1) := by decide +kernel
theorem dX10_decade_145 : decode cX10_decade 145 = .ok (.getfield 43, 3) := by decide +kernel
theorem dX10_decade_148 : decode cX10_decade 148 = .ok (.iconst 1, 1) := by decide +kernel
theorem dX10_decade_149 : decode cX10_decade 149 = .ok (.iaload, 1) := by decide +kernel
theorem dX10_decade_150 : decode cX10_decade 150 = .ok (.invokestatic 220, 3) := by decide +kernel
theorem dX10_decade_153 : decode cX10_decade 153 = .ok (.goto 17, 3) := by decide +kernel
theorem dX10_decade_156 : decode cX10_decade 156 = .ok (.iload_n 3, 1) := by decide +kernel
theorem dX10_decade_157 : decode cX10_decade 157 = .ok (.iconst 1, 1) := by decide +kernel
theorem dX10_decade_158 : decode cX10_decade 158 = .ok (.if_icmp .ne 10, 3) := by decide +kernel
theorem dX10_decade_161 : decode cX10_decade 161 = .ok (.aload_n 0, 1) := by decide +kernel
theorem dX10_decade_162 : decode cX10_decade 162 = .ok (.invokevirtual 190, 3) := by decide +kernel
theorem dX10_decade_165 : decode cX10_decade 165 = .ok (.goto 5, 3) := by decide +kernel
theorem dX10_decade_168 : decode cX10_decade 168 = .ok (.iload 4, 2) := by decide +kernel
theorem dX10_decade_170 : decode cX10_decade 170 = .ok (.ireturn, 1) := by decide +kernel
theorem dX10_keep_0 : decode cX10_keep 0 = .ok (.aload_n 0, 1) := by decide +kernel
theorem dX10_keep_1 : decode cX10_keep 1 = .ok (.getfield 133, 3) := by decide +kernel
theorem dX10_keep_4 : decode cX10_keep 4 = .ok (.iconst 2, 1) := by decide +kernel
theorem dX10_keep_5 : decode cX10_keep 5 = .ok (.if_icmp .ne 6, 3) := by decide +kernel
theorem dX10_keep_8 : decode cX10_keep 8 = .ok (.bipush (-3), 2) := by decide +kernel
theorem dX10_keep_10 : decode cX10_keep 10 = .ok (.ireturn, 1) := by decide +kernel
theorem dX10_keep_11 : decode cX10_keep 11 = .ok (.aload_n 0, 1) := by decide +kernel
theorem dX10_keep_12 : decode cX10_keep 12 = .ok (.getfield 22, 3) := by decide +kernel
theorem dX10_keep_15 : decode cX10_keep 15 = .ok (.bipush 21, 2) := by decide +kernel
theorem dX10_keep_17 : decode cX10_keep 17 = .ok (.aload_n 0, 1) := by decide +kernel
theorem dX10_keep_18 : decode cX10_keep 18 = .ok (.getfield 133, 3) := by decide +kernel
theorem dX10_keep_21 : decode cX10_keep 21 = .ok (.imul, 1) := by decide +kernel
theorem dX10_keep_22 : decode cX10_keep 22 = .ok (.aload_n 0, 1) := by decide +kernel
theorem dX10_keep_23 : decode cX10_keep 23 = .ok (.getfield 16, 3) := by decide +kernel
theorem dX10_keep_26 : decode cX10_keep 26 = .ok (.iconst 0, 1) := by decide +kernel
theorem dX10_keep_27 : decode cX10_keep 27 = .ok (.bipush 21, 2) := by decide +kernel
theorem dX10_keep_29 : decode cX10_keep 29 = .ok (.invokestatic 123, 3) := by decide +kernel
theorem dX10_keep_32 : decode cX10_keep 32 = .ok (.aload_n 0, 1) := by decide +kernel
theorem dX10_keep_33 : decode cX10_keep 33 = .ok (.dup, 1) := by decide +kernel
theorem dX10_keep_34 : decode cX10_keep 34 = .ok (.getfield 133, 3) := by decide +kernel
theorem dX10_keep_37 : decode cX10_keep 37 = .ok (.iconst 1, 1) := by decide +kernel
theorem dX10_keep_38 : decode cX10_keep 38 = .ok (.iadd, 1) := by decide +kernel
theorem dX10_keep_39 : decode cX10_keep 39 = .ok (.putfield 133, 3) := by decide +kernel
theorem dX10_keep_42 : decode cX10_keep 42 = .ok (.aload_n 0, 1) := by decide +kernel
theorem dX10_keep_43 : decode cX10_keep 43 = .ok (.getfield 133, 3) := by decide +kernel
theorem dX10_keep_46 : decode cX10_keep 46 = .ok (.ireturn, 1) := by decide +kernel
theorem dX10_back_0 : decode cX10_back 0 = .ok (.aload_n 0, 1) := by decide +kernel
theorem dX10_back_1 : decode cX10_back 1 = .ok (.getfield 133, 3) := by decide +kernel
theorem dX10_back_4 : decode cX10_back 4 = .ok (.ifCond .ne 6, 3) := by decide +kernel
theorem dX10_back_7 : decode cX10_back 7 = .ok (.bipush (-2), 2) := by decide +kernel
theorem dX10_back_9 : decode cX10_back 9 = .ok (.ireturn, 1) := by decide +kernel
theorem dX10_back_10 : decode cX10_back 10 = .ok (.aload_n 0, 1) := by decide +kernel
theorem dX10_back_11 : decode cX10_back 11 = .ok (.dup, 1) := by decide +kernel
theorem dX10_back_12 : decode cX10_back 12 = .ok (.getfield 133, 3) := by decide +kernel
theorem dX10_back_15 : decode cX10_back 15 = .ok (.iconst 1, 1) := by decide +kernel
theorem dX10_back_16 : decode cX10_back 16 = .ok (.isub, 1) := by decide +kernel
theorem dX10_back_17 : decode cX10_back 17 = .ok (.putfield 133, 3) := by decide +kernel
theorem dX10_back_20 : decode cX10_back 20 = .ok (.aload_n 0, 1) := by decide +kernel
theorem dX10_back_21 : decode cX10_back 21 = .ok (.getfield 16, 3) := by decide +kernel
theorem dX10_back_24 : decode cX10_back 24 = .ok (.iconst 0, 1) := by decide +kernel
theorem dX10_back_25 : decode cX10_back 25 = .ok (.aload_n 0, 1) := by decide +kernel
theorem dX10_back_26 : decode cX10_back 26 = .ok (.getfield 22, 3) := by decide +kernel
theorem dX10_back_29 : decode cX10_back 29 = .ok (.bipush 21, 2) := by decide +kernel
theorem dX10_back_31 : decode cX10_back 31 = .ok (.aload_n 0, 1) := by decide +kernel
theorem dX10_back_32 : decode cX10_back 32 = .ok (.getfield 133, 3) := by decide +kernel
theorem dX10_back_35 : decode cX10_back 35 = .ok (.imul, 1) := by decide +kernel
theorem dX10_back_36 : decode cX10_back 36 = .ok (.bipush 21, 2) := by decide +kernel
theorem dX10_back_38 : decode cX10_back 38 = .ok (.invokestatic 123, 3) := by decide +kernel
theorem dX10_back_41 : decode cX10_back 41 = .ok (.aload_n 0, 1) := by decide +kernel
theorem dX10_back_42 : decode cX10_back 42 = .ok (.iconst 0, 1) := by decide +kernel
theorem dX10_back_43 : decode cX10_back 43 = .ok (.putfield 130, 3) := by decide +kernel
theorem dX10_back_46 : decode cX10_back 46 = .ok (.aload_n 0, 1) := by decide +kernel
theorem dX10_back_47 : decode cX10_back 47 = .ok (.getfield 133, 3) := by decide +kernel
theorem dX10_back_50 : decode cX10_back 50 = .ok (.ireturn, 1) := by decide +kernel
theorem dX10_count_0 : decode cX10_count 0 = .ok (.aload_n 0, 1) := by decide +kernel
theorem dX10_count_1 : decode cX10_count 1 = .ok (.invokevirtual 159, 3) := by decide +kernel
theorem dX10_count_4 : decode cX10_count 4 = .ok (.iload_n 1, 1) := by decide +kernel
theorem dX10_count_5 : decode cX10_count 5 = .ok (.tableswitch 124 0 10 #[59, 64, 69, 74, 81, 91, 99, 104, 109, 114, 119], 59) := by decide +kernel
theorem dX10_count_64 : decode cX10_count 64 = .ok (.aload_n 0, 1) := by decide +kernel
theorem dX10_count_65 : decode cX10_count 65 = .ok (.getfield 80, 3) := by decide +kernel
theorem dX10_count_68 : decode cX10_count 68 = .ok (.ireturn, 1) := by decide +kernel
theorem dX10_count_69 : decode cX10_count 69 = .ok (.aload_n 0, 1) := by decide +kernel
theorem dX10_count_70 : decode cX10_count 70 = .ok (.getfield 73, 3) := by decide +kernel
theorem dX10_count_73 : decode cX10_count 73 = .ok (.ireturn, 1) := by decide +kernel
theorem dX10_count_74 : decode cX10_count 74 = .ok (.aload_n 0, 1) := by decide +kernel
theorem dX10_count_75 : decode cX10_count 75 = .ok (.getfield 127, 3) := by decide +kernel
theorem dX10_count_78 : decode cX10_count 78 = .ok (.ireturn, 1) := by decide +kernel
theorem dX10_count_79 : decode cX10_count 79 = .ok (.aload_n 0, 1) := by decide +kernel
theorem dX10_count_80 : decode cX10_count 80 = .ok (.getfield 16, 3) := by decide +kernel
theorem dX10_count_83 : decode cX10_count 83 = .ok (.iconst 0, 1) := by decide +kernel
theorem dX10_count_84 : decode cX10_count 84 = .ok (.iaload, 1) := by decide +kernel
theorem dX10_count_85 : decode cX10_count 85 = .ok (.ireturn, 1) := by decide +kernel
theorem dX10_count_86 : decode cX10_count 86 = .ok (.aload_n 0, 1) := by decide +kernel
theorem dX10_count_87 : decode cX10_count 87 = .ok (.getfield 16, 3) := by decide +kernel
theorem dX10_count_90 : decode cX10_count 90 = .ok (.iconst 1, 1) := by decide +kernel
theorem dX10_count_91 : decode cX10_count 91 = .ok (.iaload, 1) := by decide +kernel
theorem dX10_count_92 : decode cX10_count 92 = .ok (.invokestatic 220, 3) := by decide +kernel
theorem dX10_count_95 : decode cX10_count 95 = .ok (.ireturn, 1) := by decide +kernel
theorem dX10_count_96 : decode cX10_count 96 = .ok (.aload_n 0, 1) := by decide +kernel
theorem dX10_count_97 : decode cX10_count 97 = .ok (.invokevirtual 150, 3) := by decide +kernel
theorem dX10_count_100 : decode cX10_count 100 = .ok (.invokestatic 220, 3) := by decide +kernel
theorem dX10_count_103 : decode cX10_count 103 = .ok (.ireturn, 1) := by decide +kernel
theorem dX10_count_104 : decode cX10_count 104 = .ok (.aload_n 0, 1) := by decide +kernel
theorem dX10_count_105 : decode cX10_count 105 = .ok (.invokevirtual 190, 3) := by decide +kernel
theorem dX10_count_108 : decode cX10_count 108 = .ok (.ireturn, 1) := by decide +kernel
theorem dX10_count_109 : decode cX10_count 109 = .ok (.aload_n 0, 1) := by decide +kernel
theorem dX10_count_110 : decode cX10_count 110 = .ok (.getfield 136, 3) := by decide +kernel
theorem dX10_count_113 : decode cX10_count 113 = .ok (.ireturn, 1) := by decide +kernel
theorem dX10_count_114 : decode cX10_count 114 = .ok (.aload_n 0, 1) := by decide +kernel
theorem dX10_count_115 : decode cX10_count 115 = .ok (.getfield 130, 3) := by decide +kernel
theorem dX10_count_118 : decode cX10_count 118 = .ok (.ireturn, 1) := by decide +kernel
theorem dX10_count_119 : decode cX10_count 119 = .ok (.aload_n 0, 1) := by decide +kernel
theorem dX10_count_120 : decode cX10_count 120 = .ok (.getfield 133, 3) := by decide +kernel
theorem dX10_count_123 : decode cX10_count 123 = .ok (.ireturn, 1) := by decide +kernel
theorem dX10_count_124 : decode cX10_count 124 = .ok (.aload_n 0, 1) := by decide +kernel
theorem dX10_count_125 : decode cX10_count 125 = .ok (.getfield 83, 3) := by decide +kernel
theorem dX10_count_128 : decode cX10_count 128 = .ok (.ireturn, 1) := by decide +kernel
theorem dX10_count_129 : decode cX10_count 129 = .ok (.iconst (-1), 1) := by decide +kernel
theorem dX10_count_130 : decode cX10_count 130 = .ok (.ireturn, 1) := by decide +kernel
theorem dJ6_bitCount_0f7a4_0 : decode cJ6_bitCount_0f7a4 0 = .ok (.iload_n 0, 1) := by decide +kernel
theorem dJ6_bitCount_0f7a4_1 : decode cJ6_bitCount_0f7a4 1 = .ok (.iload_n 0, 1) := by decide +kernel
theorem dJ6_bitCount_0f7a4_2 : decode cJ6_bitCount_0f7a4 2 = .ok (.iconst 1, 1) := by decide +kernel
theorem dJ6_bitCount_0f7a4_3 : decode cJ6_bitCount_0f7a4 3 = .ok (.iushr, 1) := by decide +kernel
theorem dJ6_bitCount_0f7a4_4 : decode cJ6_bitCount_0f7a4 4 = .ok (.ldc_w 265, 3) := by decide +kernel
theorem dJ6_bitCount_0f7a4_7 : decode cJ6_bitCount_0f7a4 7 = .ok (.iand, 1) := by decide +kernel
theorem dJ6_bitCount_0f7a4_8 : decode cJ6_bitCount_0f7a4 8 = .ok (.isub, 1) := by decide +kernel
theorem dJ6_bitCount_0f7a4_9 : decode cJ6_bitCount_0f7a4 9 = .ok (.istore_n 0, 1) := by decide +kernel
theorem dJ6_bitCount_0f7a4_10 : decode cJ6_bitCount_0f7a4 10 = .ok (.iload_n 0, 1) := by decide +kernel
theorem dJ6_bitCount_0f7a4_11 : decode cJ6_bitCount_0f7a4 11 = .ok (.ldc_w 266, 3) := by decide +kernel
theorem dJ6_bitCount_0f7a4_14 : decode cJ6_bitCount_0f7a4 14 = .ok (.iand, 1) := by decide +kernel
theorem dJ6_bitCount_0f7a4_15 : decode cJ6_bitCount_0f7a4 15 = .ok (.iload_n 0, 1) := by decide +kernel
theorem dJ6_bitCount_0f7a4_16 : decode cJ6_bitCount_0f7a4 16 = .ok (.iconst 2, 1) := by decide +kernel
theorem dJ6_bitCount_0f7a4_17 : decode cJ6_bitCount_0f7a4 17 = .ok (.iushr, 1) := by decide +kernel
theorem dJ6_bitCount_0f7a4_18 : decode cJ6_bitCount_0f7a4 18 = .ok (.ldc_w 266, 3) := by decide +kernel
theorem dJ6_bitCount_0f7a4_21 : decode cJ6_bitCount_0f7a4 21 = .ok (.iand, 1) := by decide +kernel
theorem dJ6_bitCount_0f7a4_22 : decode cJ6_bitCount_0f7a4 22 = .ok (.iadd, 1) := by decide +kernel
theorem dJ6_bitCount_0f7a4_23 : decode cJ6_bitCount_0f7a4 23 = .ok (.istore_n 0, 1) := by decide +kernel
theorem dJ6_bitCount_0f7a4_24 : decode cJ6_bitCount_0f7a4 24 = .ok (.iload_n 0, 1) := by decide +kernel
theorem dJ6_bitCount_0f7a4_25 : decode cJ6_bitCount_0f7a4 25 = .ok (.iload_n 0, 1) := by decide +kernel
theorem dJ6_bitCount_0f7a4_26 : decode cJ6_bitCount_0f7a4 26 = .ok (.iconst 4, 1) := by decide +kernel
theorem dJ6_bitCount_0f7a4_27 : decode cJ6_bitCount_0f7a4 27 = .ok (.iushr, 1) := by decide +kernel
theorem dJ6_bitCount_0f7a4_28 : decode cJ6_bitCount_0f7a4 28 = .ok (.iadd, 1) := by decide +kernel
theorem dJ6_bitCount_0f7a4_29 : decode cJ6_bitCount_0f7a4 29 = .ok (.ldc_w 267, 3) := by decide +kernel
theorem dJ6_bitCount_0f7a4_32 : decode cJ6_bitCount_0f7a4 32 = .ok (.iand, 1) := by decide +kernel
theorem dJ6_bitCount_0f7a4_33 : decode cJ6_bitCount_0f7a4 33 = .ok (.istore_n 0, 1) := by decide +kernel
theorem dJ6_bitCount_0f7a4_34 : decode cJ6_bitCount_0f7a4 34 = .ok (.iload_n 0, 1) := by decide +kernel
theorem dJ6_bitCount_0f7a4_35 : decode cJ6_bitCount_0f7a4 35 = .ok (.iload_n 0, 1) := by decide +kernel
theorem dJ6_bitCount_0f7a4_36 : decode cJ6_bitCount_0f7a4 36 = .ok (.bipush 8, 2) := by decide +kernel
theorem dJ6_bitCount_0f7a4_38 : decode cJ6_bitCount_0f7a4 38 = .ok (.iushr, 1) := by decide +kernel
theorem dJ6_bitCount_0f7a4_39 : decode cJ6_bitCount_0f7a4 39 = .ok (.iadd, 1) := by decide +kernel
theorem dJ6_bitCount_0f7a4_40 : decode cJ6_bitCount_0f7a4 40 = .ok (.istore_n 0, 1) := by decide +kernel
theorem dJ6_bitCount_0f7a4_41 : decode cJ6_bitCount_0f7a4 41 = .ok (.iload_n 0, 1) := by decide +kernel
theorem dJ6_bitCount_0f7a4_42 : decode cJ6_bitCount_0f7a4 42 = .ok (.iload_n 0, 1) := by decide +kernel
theorem dJ6_bitCount_0f7a4_43 : decode cJ6_bitCount_0f7a4 43 = .ok (.bipush 16, 2) := by decide +kernel
theorem dJ6_bitCount_0f7a4_45 : decode cJ6_bitCount_0f7a4 45 = .ok (.iushr, 1) := by decide +kernel
theorem dJ6_bitCount_0f7a4_46 : decode cJ6_bitCount_0f7a4 46 = .ok (.iadd, 1) := by decide +kernel
theorem dJ6_bitCount_0f7a4_47 : decode cJ6_bitCount_0f7a4 47 = .ok (.istore_n 0, 1) := by decide +kernel
theorem dJ6_bitCount_0f7a4_48 : decode cJ6_bitCount_0f7a4 48 = .ok (.iload_n 0, 1) := by decide +kernel
theorem dJ6_bitCount_0f7a4_49 : decode cJ6_bitCount_0f7a4 49 = .ok (.bipush 63, 2) := by decide +kernel
theorem dJ6_bitCount_0f7a4_51 : decode cJ6_bitCount_0f7a4 51 = .ok (.iand, 1) := by decide +kernel
theorem dJ6_bitCount_0f7a4_52 : decode cJ6_bitCount_0f7a4 52 = .ok (.ireturn, 1) := by decide +kernel
theorem dJ9_abs_0f7a4_0 : decode cJ9_abs_0f7a4 0 = .ok (.iload_n 0, 1) := by decide +kernel
theorem dJ9_abs_0f7a4_1 : decode cJ9_abs_0f7a4 1 = .ok (.ifCond .ge 8, 3) := by decide +kernel
theorem dJ9_abs_0f7a4_4 : decode cJ9_abs_0f7a4 4 = .ok (.iload_n 0, 1) := by decide +kernel
theorem dJ9_abs_0f7a4_5 : decode cJ9_abs_0f7a4 5 = .ok (.ineg, 1) := by decide +kernel
theorem dJ9_abs_0f7a4_6 : decode cJ9_abs_0f7a4 6 = .ok (.goto 4, 3) := by decide +kernel
theorem dJ9_abs_0f7a4_9 : decode cJ9_abs_0f7a4 9 = .ok (.iload_n 0, 1) := by decide +kernel
theorem dJ9_abs_0f7a4_10 : decode cJ9_abs_0f7a4 10 = .ok (.ireturn, 1) := by decide +kernel
theorem dJ9_max_7cf53_0 : decode cJ9_max_7cf53 0 = .ok (.iload_n 0, 1) := by decide +kernel
theorem dJ9_max_7cf53_1 : decode cJ9_max_7cf53 1 = .ok (.iload_n 1, 1) := by decide +kernel
theorem dJ9_max_7cf53_2 : decode cJ9_max_7cf53 2 = .ok (.if_icmp .lt 7, 3) := by decide +kernel
theorem dJ9_max_7cf53_5 : decode cJ9_max_7cf53 5 = .ok (.iload_n 0, 1) := by decide +kernel
theorem dJ9_max_7cf53_6 : decode cJ9_max_7cf53 6 = .ok (.goto 4, 3) := by decide +kernel
theorem dJ9_max_7cf53_9 : decode cJ9_max_7cf53 9 = .ok (.iload_n 1, 1) := by decide +kernel
theorem dJ9_max_7cf53_10 : decode cJ9_max_7cf53 10 = .ok (.ireturn, 1) := by decide +kernel
theorem dJ9_min_7cf53_0 : decode cJ9_min_7cf53 0 = .ok (.iload_n 0, 1) := by decide +kernel
theorem dJ9_min_7cf53_1 : decode cJ9_min_7cf53 1 = .ok (.iload_n 1, 1) := by decide +kernel
theorem dJ9_min_7cf53_2 : decode cJ9_min_7cf53 2 = .ok (.if_icmp .gt 7, 3) := by decide +kernel
theorem dJ9_min_7cf53_5 : decode cJ9_min_7cf53 5 = .ok (.iload_n 0, 1) := by decide +kernel
theorem dJ9_min_7cf53_6 : decode cJ9_min_7cf53 6 = .ok (.goto 4, 3) := by decide +kernel
theorem dJ9_min_7cf53_9 : decode cJ9_min_7cf53 9 = .ok (.iload_n 1, 1) := by decide +kernel
theorem dJ9_min_7cf53_10 : decode cJ9_min_7cf53 10 = .ok (.ireturn, 1) := by decide +kernel
theorem dJ0_length_8abf5_0 : decode cJ0_length_8abf5 0 = .ok (.aload_n 0, 1) := by decide +kernel
theorem dJ0_length_8abf5_1 : decode cJ0_length_8abf5 1 = .ok (.getfield 9, 3) := by decide +kernel
theorem dJ0_length_8abf5_4 : decode cJ0_length_8abf5 4 = .ok (.arraylength, 1) := by decide +kernel
theorem dJ0_length_8abf5_5 : decode cJ0_length_8abf5 5 = .ok (.aload_n 0, 1) := by decide +kernel
theorem dJ0_length_8abf5_6 : decode cJ0_length_8abf5 6 = .ok (.invokevirtual 335, 3) := by decide +kernel
theorem dJ0_length_8abf5_9 : decode cJ0_length_8abf5 9 = .ok (.ishr, 1) := by decide +kernel
theorem dJ0_length_8abf5_10 : decode cJ0_length_8abf5 10 = .ok (.ireturn, 1) := by decide +kernel
theorem dJ0_charAt_5068e_0 : decode cJ0_charAt_5068e 0 = .ok (.aload_n 0, 1) := by decide +kernel
theorem dJ0_charAt_5068e_1 : decode cJ0_charAt_5068e 1 = .ok (.invokevirtual 492, 3) := by decide +kernel
theorem dJ0_charAt_5068e_4 : decode cJ0_charAt_5068e 4 = .ok (.ifCond .eq 12, 3) := by decide +kernel
theorem dJ0_charAt_5068e_7 : decode cJ0_charAt_5068e 7 = .ok (.aload_n 0, 1) := by decide +kernel
theorem dJ0_charAt_5068e_8 : decode cJ0_charAt_5068e 8 = .ok (.getfield 9, 3) := by decide +kernel
theorem dJ0_charAt_5068e_11 : decode cJ0_charAt_5068e 11 = .ok (.iload_n 1, 1) := by decide +kernel
theorem dJ0_charAt_5068e_12 : decode cJ0_charAt_5068e 12 = .ok (.invokestatic 495, 3) := by decide +kernel
theorem dJ0_charAt_5068e_15 : decode cJ0_charAt_5068e 15 = .ok (.ireturn, 1) := by decide +kernel
theorem dJ0_charAt_5068e_16 : decode cJ0_charAt_5068e 16 = .ok (.aload_n 0, 1) := by decide +kernel
theorem dJ0_charAt_5068e_17 : decode cJ0_charAt_5068e 17 = .ok (.getfield 9, 3) := by decide +kernel
theorem dJ0_charAt_5068e_20 : decode cJ0_charAt_5068e 20 = .ok (.iload_n 1, 1) := by decide +kernel
theorem dJ0_charAt_5068e_21 : decode cJ0_charAt_5068e 21 = .ok (.invokestatic 498, 3) := by decide +kernel
theorem dJ0_charAt_5068e_24 : decode cJ0_charAt_5068e 24 = .ok (.ireturn, 1) := by decide +kernel
theorem dJ0_coder_7d493_0 : decode cJ0_coder_7d493 0 = .ok (.getstatic 38, 3) := by decide +kernel
theorem dJ0_coder_7d493_3 : decode cJ0_coder_7d493 3 = .ok (.ifCond .eq 10, 3) := by decide +kernel
theorem dJ0_coder_7d493_6 : decode cJ0_coder_7d493 6 = .ok (.aload_n 0, 1) := by decide +kernel
theorem dJ0_coder_7d493_7 : decode cJ0_coder_7d493 7 = .ok (.getfield 15, 3) := by decide +kernel
theorem dJ0_coder_7d493_10 : decode cJ0_coder_7d493 10 = .ok (.goto 4, 3) := by decide +kernel
theorem dJ0_coder_7d493_13 : decode cJ0_coder_7d493 13 = .ok (.iconst 1, 1) := by decide +kernel
theorem dJ0_coder_7d493_14 : decode cJ0_coder_7d493 14 = .ok (.ireturn, 1) := by decide +kernel
theorem dJ0_isLatin1_aae02_0 : decode cJ0_isLatin1_aae02 0 = .ok (.getstatic 38, 3) := by decide +kernel
theorem dJ0_isLatin1_aae02_3 : decode cJ0_isLatin1_aae02 3 = .ok (.ifCond .eq 14, 3) := by decide +kernel
theorem dJ0_isLatin1_aae02_6 : decode cJ0_isLatin1_aae02 6 = .ok (.aload_n 0, 1) := by decide +kernel
theorem dJ0_isLatin1_aae02_7 : decode cJ0_isLatin1_aae02 7 = .ok (.getfield 15, 3) := by decide +kernel
theorem dJ0_isLatin1_aae02_10 : decode cJ0_isLatin1_aae02 10 = .ok (.ifCond .ne 7, 3) := by decide +kernel
theorem dJ0_isLatin1_aae02_13 : decode cJ0_isLatin1_aae02 13 = .ok (.iconst 1, 1) := by decide +kernel
theorem dJ0_isLatin1_aae02_14 : decode cJ0_isLatin1_aae02 14 = .ok (.goto 4, 3) := by decide +kernel
theorem dJ0_isLatin1_aae02_17 : decode cJ0_isLatin1_aae02 17 = .ok (.iconst 0, 1) := by decide +kernel
theorem dJ0_isLatin1_aae02_18 : decode cJ0_isLatin1_aae02 18 = .ok (.ireturn, 1) := by decide +kernel
theorem dJ0_checkIndex_df160_0 : decode cJ0_checkIndex_df160 0 = .ok (.iload_n 0, 1) := by decide +kernel
theorem dJ0_checkIndex_df160_1 : decode cJ0_checkIndex_df160 1 = .ok (.iload_n 1, 1) := by decide +kernel
theorem dJ0_checkIndex_df160_2 : decode cJ0_checkIndex_df160 2 = .ok (.getstatic 1053, 3) := by decide +kernel
theorem dJ0_checkIndex_df160_5 : decode cJ0_checkIndex_df160 5 = .ok (.invokestatic 1059, 3) := by decide +kernel
theorem dJ0_checkIndex_df160_8 : decode cJ0_checkIndex_df160 8 = .ok (.pop, 1) := by decide +kernel
theorem dJ0_checkIndex_df160_9 : decode cJ0_checkIndex_df160 9 = .ok (.return_, 1) := by decide +kernel
theorem dJ1_charAt_3b067_0 : decode cJ1_charAt_3b067 0 = .ok (.iload_n 1, 1) := by decide +kernel
theorem dJ1_charAt_3b067_1 : decode cJ1_charAt_3b067 1 = .ok (.aload_n 0, 1) := by decide +kernel
theorem dJ1_charAt_3b067_2 : decode cJ1_charAt_3b067 2 = .ok (.arraylength, 1) := by decide +kernel
theorem dJ1_charAt_3b067_3 : decode cJ1_charAt_3b067 3 = .ok (.invokestatic 9, 3) := by decide +kernel
theorem dJ1_charAt_3b067_6 : decode cJ1_charAt_3b067 6 = .ok (.aload_n 0, 1) := by decide +kernel
theorem dJ1_charAt_3b067_7 : decode cJ1_charAt_3b067 7 = .ok (.iload_n 1, 1) := by decide +kernel
theorem dJ1_charAt_3b067_8 : decode cJ1_charAt_3b067 8 = .ok (.baload, 1) := by decide +kernel
theorem dJ1_charAt_3b067_9 : decode cJ1_charAt_3b067 9 = .ok (.sipush 255, 3) := by decide +kernel
theorem dJ1_charAt_3b067_12 : decode cJ1_charAt_3b067 12 = .ok (.iand, 1) := by decide +kernel
theorem dJ1_charAt_3b067_13 : decode cJ1_charAt_3b067 13 = .ok (.i2c, 1) := by decide +kernel
theorem dJ1_charAt_3b067_14 : decode cJ1_charAt_3b067 14 = .ok (.ireturn, 1) := by decide +kernel
theorem dJ2_getChar_3b067_0 : decode cJ2_getChar_3b067 0 = .ok (.getstatic 44, 3) := by decide +kernel
theorem dJ2_getChar_3b067_3 : decode cJ2_getChar_3b067 3 = .ok (.ifCond .ne 25, 3) := by decide +kernel
theorem dJ2_getChar_3b067_6 : decode cJ2_getChar_3b067 6 = .ok (.iload_n 1, 1) := by decide +kernel
theorem dJ2_getChar_3b067_7 : decode cJ2_getChar_3b067 7 = .ok (.ifCond .lt 11, 3) := by decide +kernel
theorem dJ2_getChar_3b067_10 : decode cJ2_getChar_3b067 10 = .ok (.iload_n 1, 1) := by decide +kernel
theorem dJ2_getChar_3b067_11 : decode cJ2_getChar_3b067 11 = .ok (.aload_n 0, 1) := by decide +kernel
theorem dJ2_getChar_3b067_12 : decode cJ2_getChar_3b067 12 = .ok (.invokestatic 48, 3) := by decide +kernel
theorem dJ2_getChar_3b067_15 : decode cJ2_getChar_3b067 15 = .ok (.if_icmp .lt 13, 3) := by decide +kernel
theorem dJ2_getChar_3b067_18 : decode cJ2_getChar_3b067 18 = .ok (.new 52, 3) := by decide +kernel
theorem dJ2_getChar_3b067_21 : decode cJ2_getChar_3b067 21 = .ok (.dup, 1) := by decide +kernel
theorem dJ2_getChar_3b067_22 : decode cJ2_getChar_3b067 22 = .ok (.ldc 54, 2) := by decide +kernel
theorem dJ2_getChar_3b067_24 : decode cJ2_getChar_3b067 24 = .ok (.invokespecial 56, 3) := by decide +kernel
theorem dJ2_getChar_3b067_27 : decode cJ2_getChar_3b067 27 = .ok (.athrow, 1) := by decide +kernel
theorem dJ2_getChar_3b067_28 : decode cJ2_getChar_3b067 28 = .ok (.iload_n 1, 1) := by decide +kernel
theorem dJ2_getChar_3b067_29 : decode cJ2_getChar_3b067 29 = .ok (.iconst 1, 1) := by decide +kernel
theorem dJ2_getChar_3b067_30 : decode cJ2_getChar_3b067 30 = .ok (.ishl, 1) := by decide +kernel
theorem dJ2_getChar_3b067_31 : decode cJ2_getChar_3b067 31 = .ok (.istore_n 1, 1) := by decide +kernel
theorem dJ2_getChar_3b067_32 : decode cJ2_getChar_3b067 32 = .ok (.aload_n 0, 1) := by decide +kernel
theorem dJ2_getChar_3b067_33 : decode cJ2_getChar_3b067 33 = .ok (.iload_n 1, 1) := by decide +kernel
theorem dJ2_getChar_3b067_34 : decode cJ2_getChar_3b067 34 = .ok (.iinc 1 1, 3) := by decide +kernel
theorem dJ2_getChar_3b067_37 : decode cJ2_getChar_3b067 37 = .ok (.baload, 1) := by decide +kernel
theorem dJ2_getChar_3b067_38 : decode cJ2_getChar_3b067 38 = .ok (.sipush 255, 3) := by decide +kernel
theorem dJ2_getChar_3b067_41 : decode cJ2_getChar_3b067 41 = .ok (.iand, 1) := by decide +kernel
theorem dJ2_getChar_3b067_42 : decode cJ2_getChar_3b067 42 = .ok (.getstatic 59, 3) := by decide +kernel
theorem dJ2_getChar_3b067_45 : decode cJ2_getChar_3b067 45 = .ok (.ishl, 1) := by decide +kernel
theorem dJ2_getChar_3b067_46 : decode cJ2_getChar_3b067 46 = .ok (.aload_n 0, 1) := by decide +kernel
theorem dJ2_getChar_3b067_47 : decode cJ2_getChar_3b067 47 = .ok (.iload_n 1, 1) := by decide +kernel
theorem dJ2_getChar_3b067_48 : decode cJ2_getChar_3b067 48 = .ok (.baload, 1) := by decide +kernel
theorem dJ2_getChar_3b067_49 : decode cJ2_getChar_3b067 49 = .ok (.sipush 255, 3) := by decide +kernel
theorem dJ2_getChar_3b067_52 : decode cJ2_getChar_3b067 52 = .ok (.iand, 1) := by decide +kernel
theorem dJ2_getChar_3b067_53 : decode cJ2_getChar_3b067 53 = .ok (.getstatic 63, 3) := by decide +kernel
theorem dJ2_getChar_3b067_56 : decode cJ2_getChar_3b067 56 = .ok (.ishl, 1) := by decide +kernel
theorem dJ2_getChar_3b067_57 : decode cJ2_getChar_3b067 57 = .ok (.ior, 1) := by decide +kernel
theorem dJ2_getChar_3b067_58 : decode cJ2_getChar_3b067 58 = .ok (.i2c, 1) := by decide +kernel
theorem dJ2_getChar_3b067_59 : decode cJ2_getChar_3b067 59 = .ok (.ireturn, 1) := by decide +kernel
theorem dJ2_length_9d52b_0 : decode cJ2_length_9d52b 0 = .ok (.aload_n 0, 1) := by decide +kernel
theorem dJ2_length_9d52b_1 : decode cJ2_length_9d52b 1 = .ok (.arraylength, 1) := by decide +kernel
theorem dJ2_length_9d52b_2 : decode cJ2_length_9d52b 2 = .ok (.iconst 1, 1) := by decide +kernel
theorem dJ2_length_9d52b_3 : decode cJ2_length_9d52b 3 = .ok (.ishr, 1) := by decide +kernel
theorem dJ2_length_9d52b_4 : decode cJ2_length_9d52b 4 = .ok (.ireturn, 1) := by decide +kernel
theorem dJ2_charAt_3b067_0 : decode cJ2_charAt_3b067 0 = .ok (.iload_n 1, 1) := by decide +kernel
theorem dJ2_charAt_3b067_1 : decode cJ2_charAt_3b067 1 = .ok (.aload_n 0, 1) := by decide +kernel
theorem dJ2_charAt_3b067_2 : decode cJ2_charAt_3b067 2 = .ok (.invokestatic 67, 3) := by decide +kernel
theorem dJ2_charAt_3b067_5 : decode cJ2_charAt_3b067 5 = .ok (.aload_n 0, 1) := by decide +kernel
theorem dJ2_charAt_3b067_6 : decode cJ2_charAt_3b067 6 = .ok (.iload_n 1, 1) := by decide +kernel
theorem dJ2_charAt_3b067_7 : decode cJ2_charAt_3b067 7 = .ok (.invokestatic 71, 3) := by decide +kernel
theorem dJ2_charAt_3b067_10 : decode cJ2_charAt_3b067 10 = .ok (.ireturn, 1) := by decide +kernel
theorem dJ2_checkIndex_2214a_0 : decode cJ2_checkIndex_2214a 0 = .ok (.iload_n 0, 1) := by decide +kernel
theorem dJ2_checkIndex_2214a_1 : decode cJ2_checkIndex_2214a 1 = .ok (.aload_n 1, 1) := by decide +kernel
theorem dJ2_checkIndex_2214a_2 : decode cJ2_checkIndex_2214a 2 = .ok (.invokestatic 48, 3) := by decide +kernel
theorem dJ2_checkIndex_2214a_5 : decode cJ2_checkIndex_2214a 5 = .ok (.invokestatic 414, 3) := by decide +kernel
theorem dJ2_checkIndex_2214a_8 : decode cJ2_checkIndex_2214a 8 = .ok (.return_, 1) := by decide +kernel
theorem dJ3_checkIndex_8e157_0 : decode cJ3_checkIndex_8e157 0 = .ok (.iload_n 0, 1) := by decide +kernel
theorem dJ3_checkIndex_8e157_1 : decode cJ3_checkIndex_8e157 1 = .ok (.ifCond .lt 8, 3) := by decide +kernel
theorem dJ3_checkIndex_8e157_4 : decode cJ3_checkIndex_8e157 4 = .ok (.iload_n 0, 1) := by decide +kernel
theorem dJ3_checkIndex_8e157_5 : decode cJ3_checkIndex_8e157 5 = .ok (.iload_n 1, 1) := by decide +kernel
theorem dJ3_checkIndex_8e157_6 : decode cJ3_checkIndex_8e157 6 = .ok (.if_icmp .lt 10, 3) := by decide +kernel
theorem dJ3_checkIndex_8e157_9 : decode cJ3_checkIndex_8e157 9 = .ok (.aload_n 2, 1) := by decide +kernel
theorem dJ3_checkIndex_8e157_10 : decode cJ3_checkIndex_8e157 10 = .ok (.iload_n 0, 1) := by decide +kernel
theorem dJ3_checkIndex_8e157_11 : decode cJ3_checkIndex_8e157 11 = .ok (.iload_n 1, 1) := by decide +kernel
theorem dJ3_checkIndex_8e157_12 : decode cJ3_checkIndex_8e157 12 = .ok (.invokestatic 95, 3) := by decide +kernel
theorem dJ3_checkIndex_8e157_15 : decode cJ3_checkIndex_8e157 15 = .ok (.athrow, 1) := by decide +kernel
theorem dJ3_checkIndex_8e157_16 : decode cJ3_checkIndex_8e157 16 = .ok (.iload_n 0, 1) := by decide +kernel
theorem dJ3_checkIndex_8e157_17 : decode cJ3_checkIndex_8e157 17 = .ok (.ireturn, 1) := by decide +kernel
theorem dL_law_0 : decode cL_law 0 = .ok (.new 7, 3) := by decide +kernel
theorem dL_law_3 : decode cL_law 3 = .ok (.dup, 1) := by decide +kernel
theorem dL_law_4 : decode cL_law 4 = .ok (.invokespecial 9, 3) := by decide +kernel
theorem dL_law_7 : decode cL_law 7 = .ok (.astore_n 1, 1) := by decide +kernel
theorem dL_law_8 : decode cL_law 8 = .ok (.new 10, 3) := by decide +kernel
theorem dL_law_11 : decode cL_law 11 = .ok (.dup, 1) := by decide +kernel
theorem dL_law_12 : decode cL_law 12 = .ok (.invokespecial 12, 3) := by decide +kernel
theorem dL_law_15 : decode cL_law 15 = .ok (.astore_n 2, 1) := by decide +kernel
theorem dL_law_16 : decode cL_law 16 = .ok (.iconst 0, 1) := by decide +kernel
theorem dL_law_17 : decode cL_law 17 = .ok (.istore_n 3, 1) := by decide +kernel
theorem dL_law_18 : decode cL_law 18 = .ok (.iload_n 3, 1) := by decide +kernel
theorem dL_law_19 : decode cL_law 19 = .ok (.aload_n 0, 1) := by decide +kernel
theorem dL_law_20 : decode cL_law 20 = .ok (.arraylength, 1) := by decide +kernel
theorem dL_law_21 : decode cL_law 21 = .ok (.iconst 4, 1) := by decide +kernel
theorem dL_law_22 : decode cL_law 22 = .ok (.isub, 1) := by decide +kernel
theorem dL_law_23 : decode cL_law 23 = .ok (.if_icmp .gt 840, 3) := by decide +kernel
theorem dL_law_26 : decode cL_law 26 = .ok (.aload_n 0, 1) := by decide +kernel
theorem dL_law_27 : decode cL_law 27 = .ok (.iload_n 3, 1) := by decide +kernel
theorem dL_law_28 : decode cL_law 28 = .ok (.iaload, 1) := by decide +kernel
theorem dL_law_29 : decode cL_law 29 = .ok (.bipush 31, 2) := by decide +kernel
theorem dL_law_31 : decode cL_law 31 = .ok (.iand, 1) := by decide +kernel
theorem dL_law_32 : decode cL_law 32 = .ok (.tableswitch 825 0 26 #[124, 147, 160, 173, 186, 219, 252, 285, 308, 331, 354, 377, 390, 433, 456, 479, 512, 535, 578, 621, 634, 667, 690, 733, 776, 789, 802], 124) := by decide +kernel
theorem dL_law_156 : decode cL_law 156 = .ok (.aload_n 1, 1) := by decide +kernel
theorem dL_law_157 : decode cL_law 157 = .ok (.aload_n 0, 1) := by decide +kernel
theorem dL_law_158 : decode cL_law 158 = .ok (.iload_n 3, 1) := by decide +kernel
theorem dL_law_159 : decode cL_law 159 = .ok (.iconst 1, 1) := by decide +kernel
theorem dL_law_160 : decode cL_law 160 = .ok (.iadd, 1) := by decide +kernel
theorem dL_law_161 : decode cL_law 161 = .ok (.iaload, 1) := by decide +kernel
theorem dL_law_162 : decode cL_law 162 = .ok (.invokevirtual 13, 3) := by decide +kernel
theorem dL_law_165 : decode cL_law 165 = .ok (.aload_n 2, 1) := by decide +kernel
theorem dL_law_166 : decode cL_law 166 = .ok (.aload_n 0, 1) := by decide +kernel
theorem dL_law_167 : decode cL_law 167 = .ok (.iload_n 3, 1) := by decide +kernel
theorem dL_law_168 : decode cL_law 168 = .ok (.iconst 1, 1) := by decide +kernel
theorem dL_law_169 : decode cL_law 169 = .ok (.iadd, 1) := by decide +kernel
theorem dL_law_170 : decode cL_law 170 = .ok (.iaload, 1) := by decide +kernel
theorem dL_law_171 : decode cL_law 171 = .ok (.invokevirtual 17, 3) := by decide +kernel
theorem dL_law_174 : decode cL_law 174 = .ok (.if_icmp .eq 683, 3) := by decide +kernel
theorem dL_law_177 : decode cL_law 177 = .ok (.iconst 0, 1) := by decide +kernel
theorem dL_law_178 : decode cL_law 178 = .ok (.ireturn, 1) := by decide +kernel
theorem dL_law_179 : decode cL_law 179 = .ok (.aload_n 1, 1) := by decide +kernel
theorem dL_law_180 : decode cL_law 180 = .ok (.invokevirtual 18, 3) := by decide +kernel
theorem dL_law_183 : decode cL_law 183 = .ok (.aload_n 2, 1) := by decide +kernel
theorem dL_law_184 : decode cL_law 184 = .ok (.invokevirtual 22, 3) := by decide +kernel
theorem dL_law_187 : decode cL_law 187 = .ok (.if_icmp .eq 670, 3) := by decide +kernel
theorem dL_law_190 : decode cL_law 190 = .ok (.iconst 0, 1) := by decide +kernel
theorem dL_law_191 : decode cL_law 191 = .ok (.ireturn, 1) := by decide +kernel
theorem dL_law_192 : decode cL_law 192 = .ok (.aload_n 1, 1) := by decide +kernel
theorem dL_law_193 : decode cL_law 193 = .ok (.invokevirtual 23, 3) := by decide +kernel
theorem dL_law_196 : decode cL_law 196 = .ok (.aload_n 2, 1) := by decide +kernel
theorem dL_law_197 : decode cL_law 197 = .ok (.invokevirtual 26, 3) := by decide +kernel
theorem dL_law_200 : decode cL_law 200 = .ok (.if_icmp .eq 657, 3) := by decide +kernel
theorem dL_law_203 : decode cL_law 203 = .ok (.iconst 0, 1) := by decide +kernel
theorem dL_law_204 : decode cL_law 204 = .ok (.ireturn, 1) := by decide +kernel
theorem dL_law_205 : decode cL_law 205 = .ok (.aload_n 1, 1) := by decide +kernel
theorem dL_law_206 : decode cL_law 206 = .ok (.invokevirtual 27, 3) := by decide +kernel
theorem dL_law_209 : decode cL_law 209 = .ok (.aload_n 2, 1) := by decide +kernel
theorem dL_law_210 : decode cL_law 210 = .ok (.invokevirtual 30, 3) := by decide +kernel
theorem dL_law_213 : decode cL_law 213 = .ok (.if_icmp .eq 644, 3) := by decide +kernel
theorem dL_law_216 : decode cL_law 216 = .ok (.iconst 0, 1) := by decide +kernel
theorem dL_law_217 : decode cL_law 217 = .ok (.ireturn, 1) := by decide +kernel
theorem dL_law_218 : decode cL_law 218 = .ok (.aload_n 1, 1) := by decide +kernel
theorem dL_law_219 : decode cL_law 219 = .ok (.aload_n 0, 1) := by decide +kernel
theorem dL_law_220 : decode cL_law 220 = .ok (.iload_n 3, 1) := by decide +kernel
theorem dL_law_221 : decode cL_law 221 = .ok (.iconst 1, 1) := by decide +kernel
theorem dL_law_222 : decode cL_law 222 = .ok (.iadd, 1) := by decide +kernel
theorem dL_law_223 : decode cL_law 223 = .ok (.iaload, 1) := by decide +kernel
theorem dL_law_224 : decode cL_law 224 = .ok (.aload_n 0, 1) := by decide +kernel
theorem dL_law_225 : decode cL_law 225 = .ok (.iload_n 3, 1) := by decide +kernel
theorem dL_law_226 : decode cL_law 226 = .ok (.iconst 2, 1) := by decide +kernel
theorem dL_law_227 : decode cL_law 227 = .ok (.iadd, 1) := by decide +kernel
theorem dL_law_228 : decode cL_law 228 = .ok (.iaload, 1) := by decide +kernel
theorem dL_law_229 : decode cL_law 229 = .ok (.invokevirtual 31, 3) := by decide +kernel
theorem dL_law_232 : decode cL_law 232 = .ok (.aload_n 2, 1) := by decide +kernel
theorem dL_law_233 : decode cL_law 233 = .ok (.aload_n 0, 1) := by decide +kernel
theorem dL_law_234 : decode cL_law 234 = .ok (.iload_n 3, 1) := by decide +kernel
theorem dL_law_235 : decode cL_law 235 = .ok (.iconst 1, 1) := by decide +kernel
theorem dL_law_236 : decode cL_law 236 = .ok (.iadd, 1) := by decide +kernel
theorem dL_law_237 : decode cL_law 237 = .ok (.iaload, 1) := by decide +kernel
theorem dL_law_238 : decode cL_law 238 = .ok (.aload_n 0, 1) := by decide +kernel
theorem dL_law_239 : decode cL_law 239 = .ok (.iload_n 3, 1) := by decide +kernel
theorem dL_law_240 : decode cL_law 240 = .ok (.iconst 2, 1) := by decide +kernel
theorem dL_law_241 : decode cL_law 241 = .ok (.iadd, 1) := by decide +kernel
theorem dL_law_242 : decode cL_law 242 = .ok (.iaload, 1) := by decide +kernel
theorem dL_law_243 : decode cL_law 243 = .ok (.invokevirtual 35, 3) := by decide +kernel
theorem dL_law_246 : decode cL_law 246 = .ok (.if_icmp .eq 611, 3) := by decide +kernel
theorem dL_law_249 : decode cL_law 249 = .ok (.iconst 0, 1) := by decide +kernel
theorem dL_law_250 : decode cL_law 250 = .ok (.ireturn, 1) := by decide +kernel
theorem dL_law_251 : decode cL_law 251 = .ok (.aload_n 1, 1) := by decide +kernel
theorem dL_law_252 : decode cL_law 252 = .ok (.aload_n 0, 1) := by decide +kernel
theorem dL_law_253 : decode cL_law 253 = .ok (.iload_n 3, 1) := by decide +kernel
theorem dL_law_254 : decode cL_law 254 = .ok (.iconst 1, 1) := by decide +kernel
theorem dL_law_255 : decode cL_law 255 = .ok (.iadd, 1) := by decide +kernel
theorem dL_law_256 : decode cL_law 256 = .ok (.iaload, 1) := by decide +kernel
theorem dL_law_257 : decode cL_law 257 = .ok (.aload_n 0, 1) := by decide +kernel
theorem dL_law_258 : decode cL_law 258 = .ok (.iload_n 3, 1) := by decide +kernel
theorem dL_law_259 : decode cL_law 259 = .ok (.iconst 2, 1) := by decide +kernel
theorem dL_law_260 : decode cL_law 260 = .ok (.iadd, 1) := by decide +kernel
theorem dL_law_261 : decode cL_law 261 = .ok (.iaload, 1) := by decide +kernel
theorem dL_law_262 : decode cL_law 262 = .ok (.invokevirtual 36, 3) := by decide +kernel
theorem dL_law_265 : decode cL_law 265 = .ok (.aload_n 2, 1) := by decide +kernel
theorem dL_law_266 : decode cL_law 266 = .ok (.aload_n 0, 1) := by decide +kernel
theorem dL_law_267 : decode cL_law 267 = .ok (.iload_n 3, 1) := by decide +kernel
theorem dL_law_268 : decode cL_law 268 = .ok (.iconst 1, 1) := by decide +kernel
theorem dL_law_269 : decode cL_law 269 = .ok (.iadd, 1) := by decide +kernel
theorem dL_law_270 : decode cL_law 270 = .ok (.iaload, 1) := by decide +kernel
theorem dL_law_271 : decode cL_law 271 = .ok (.aload_n 0, 1) := by decide +kernel
theorem dL_law_272 : decode cL_law 272 = .ok (.iload_n 3, 1) := by decide +kernel
theorem dL_law_273 : decode cL_law 273 = .ok (.iconst 2, 1) := by decide +kernel
theorem dL_law_274 : decode cL_law 274 = .ok (.iadd, 1) := by decide +kernel
theorem dL_law_275 : decode cL_law 275 = .ok (.iaload, 1) := by decide +kernel
theorem dL_law_276 : decode cL_law 276 = .ok (.invokevirtual 39, 3) := by decide +kernel
theorem dL_law_279 : decode cL_law 279 = .ok (.if_icmp .eq 578, 3) := by decide +kernel
theorem dL_law_282 : decode cL_law 282 = .ok (.iconst 0, 1) := by decide +kernel
theorem dL_law_283 : decode cL_law 283 = .ok (.ireturn, 1) := by decide +kernel
theorem dL_law_284 : decode cL_law 284 = .ok (.aload_n 1, 1) := by decide +kernel
theorem dL_law_285 : decode cL_law 285 = .ok (.aload_n 0, 1) := by decide +kernel
theorem dL_law_286 : decode cL_law 286 = .ok (.iload_n 3, 1) := by decide +kernel
theorem dL_law_287 : decode cL_law 287 = .ok (.iconst 1, 1) := by decide +kernel
theorem dL_law_288 : decode cL_law 288 = .ok (.iadd, 1) := by decide +kernel
theorem dL_law_289 : decode cL_law 289 = .ok (.iaload, 1) := by decide +kernel
theorem dL_law_290 : decode cL_law 290 = .ok (.aload_n 0, 1) := by decide +kernel
theorem dL_law_291 : decode cL_law 291 = .ok (.iload_n 3, 1) := by decide +kernel
theorem dL_law_292 : decode cL_law 292 = .ok (.iconst 2, 1) := by decide +kernel
theorem dL_law_293 : decode cL_law 293 = .ok (.iadd, 1) := by decide +kernel
theorem dL_law_294 : decode cL_law 294 = .ok (.iaload, 1) := by decide +kernel
theorem dL_law_295 : decode cL_law 295 = .ok (.invokevirtual 40, 3) := by decide +kernel
theorem dL_law_298 : decode cL_law 298 = .ok (.aload_n 2, 1) := by decide +kernel
theorem dL_law_299 : decode cL_law 299 = .ok (.aload_n 0, 1) := by decide +kernel
theorem dL_law_300 : decode cL_law 300 = .ok (.iload_n 3, 1) := by decide +kernel
theorem dL_law_301 : decode cL_law 301 = .ok (.iconst 1, 1) := by decide +kernel
theorem dL_law_302 : decode cL_law 302 = .ok (.iadd, 1) := by decide +kernel
theorem dL_law_303 : decode cL_law 303 = .ok (.iaload, 1) := by decide +kernel
theorem dL_law_304 : decode cL_law 304 = .ok (.aload_n 0, 1) := by decide +kernel
theorem dL_law_305 : decode cL_law 305 = .ok (.iload_n 3, 1) := by decide +kernel
theorem dL_law_306 : decode cL_law 306 = .ok (.iconst 2, 1) := by decide +kernel
theorem dL_law_307 : decode cL_law 307 = .ok (.iadd, 1) := by decide +kernel
theorem dL_law_308 : decode cL_law 308 = .ok (.iaload, 1) := by decide +kernel
theorem dL_law_309 : decode cL_law 309 = .ok (.invokevirtual 43, 3) := by decide +kernel
theorem dL_law_312 : decode cL_law 312 = .ok (.if_icmp .eq 545, 3) := by decide +kernel
theorem dL_law_315 : decode cL_law 315 = .ok (.iconst 0, 1) := by decide +kernel
theorem dL_law_316 : decode cL_law 316 = .ok (.ireturn, 1) := by decide +kernel
theorem dL_law_317 : decode cL_law 317 = .ok (.aload_n 1, 1) := by decide +kernel
theorem dL_law_318 : decode cL_law 318 = .ok (.aload_n 0, 1) := by decide +kernel
theorem dL_law_319 : decode cL_law 319 = .ok (.iload_n 3, 1) := by decide +kernel
theorem dL_law_320 : decode cL_law 320 = .ok (.iconst 1, 1) := by decide +kernel
theorem dL_law_321 : decode cL_law 321 = .ok (.iadd, 1) := by decide +kernel
theorem dL_law_322 : decode cL_law 322 = .ok (.iaload, 1) := by decide +kernel
theorem dL_law_323 : decode cL_law 323 = .ok (.invokevirtual 44, 3) := by decide +kernel
theorem dL_law_326 : decode cL_law 326 = .ok (.aload_n 2, 1) := by decide +kernel
theorem dL_law_327 : decode cL_law 327 = .ok (.aload_n 0, 1) := by decide +kernel
theorem dL_law_328 : decode cL_law 328 = .ok (.iload_n 3, 1) := by decide +kernel
theorem dL_law_329 : decode cL_law 329 = .ok (.iconst 1, 1) := by decide +kernel
theorem dL_law_330 : decode cL_law 330 = .ok (.iadd, 1) := by decide +kernel
theorem dL_law_331 : decode cL_law 331 = .ok (.iaload, 1) := by decide +kernel
theorem dL_law_332 : decode cL_law 332 = .ok (.invokevirtual 47, 3) := by decide +kernel
theorem dL_law_335 : decode cL_law 335 = .ok (.if_icmp .eq 522, 3) := by decide +kernel
theorem dL_law_338 : decode cL_law 338 = .ok (.iconst 0, 1) := by decide +kernel
theorem dL_law_339 : decode cL_law 339 = .ok (.ireturn, 1) := by decide +kernel
theorem dL_law_340 : decode cL_law 340 = .ok (.aload_n 1, 1) := by decide +kernel
theorem dL_law_341 : decode cL_law 341 = .ok (.aload_n 0, 1) := by decide +kernel
theorem dL_law_342 : decode cL_law 342 = .ok (.iload_n 3, 1) := by decide +kernel
theorem dL_law_343 : decode cL_law 343 = .ok (.iconst 1, 1) := by decide +kernel
theorem dL_law_344 : decode cL_law 344 = .ok (.iadd, 1) := by decide +kernel
theorem dL_law_345 : decode cL_law 345 = .ok (.iaload, 1) := by decide +kernel
theorem dL_law_346 : decode cL_law 346 = .ok (.invokevirtual 48, 3) := by decide +kernel
theorem dL_law_349 : decode cL_law 349 = .ok (.aload_n 2, 1) := by decide +kernel
theorem dL_law_350 : decode cL_law 350 = .ok (.aload_n 0, 1) := by decide +kernel
theorem dL_law_351 : decode cL_law 351 = .ok (.iload_n 3, 1) := by decide +kernel
theorem dL_law_352 : decode cL_law 352 = .ok (.iconst 1, 1) := by decide +kernel
theorem dL_law_353 : decode cL_law 353 = .ok (.iadd, 1) := by decide +kernel
theorem dL_law_354 : decode cL_law 354 = .ok (.iaload, 1) := by decide +kernel
theorem dL_law_355 : decode cL_law 355 = .ok (.invokevirtual 51, 3) := by decide +kernel
theorem dL_law_358 : decode cL_law 358 = .ok (.if_icmp .eq 499, 3) := by decide +kernel
theorem dL_law_361 : decode cL_law 361 = .ok (.iconst 0, 1) := by decide +kernel
theorem dL_law_362 : decode cL_law 362 = .ok (.ireturn, 1) := by decide +kernel
theorem dL_law_363 : decode cL_law 363 = .ok (.aload_n 1, 1) := by decide +kernel
theorem dL_law_364 : decode cL_law 364 = .ok (.aload_n 0, 1) := by decide +kernel
theorem dL_law_365 : decode cL_law 365 = .ok (.iload_n 3, 1) := by decide +kernel
theorem dL_law_366 : decode cL_law 366 = .ok (.iconst 1, 1) := by decide +kernel
theorem dL_law_367 : decode cL_law 367 = .ok (.iadd, 1) := by decide +kernel
theorem dL_law_368 : decode cL_law 368 = .ok (.iaload, 1) := by decide +kernel
theorem dL_law_369 : decode cL_law 369 = .ok (.invokevirtual 52, 3) := by decide +kernel
theorem dL_law_372 : decode cL_law 372 = .ok (.aload_n 2, 1) := by decide +kernel
theorem dL_law_373 : decode cL_law 373 = .ok (.aload_n 0, 1) := by decide +kernel
theorem dL_law_374 : decode cL_law 374 = .ok (.iload_n 3, 1) := by decide +kernel
theorem dL_law_375 : decode cL_law 375 = .ok (.iconst 1, 1) := by decide +kernel
theorem dL_law_376 : decode cL_law 376 = .ok (.iadd, 1) := by decide +kernel
theorem dL_law_377 : decode cL_law 377 = .ok (.iaload, 1) := by decide +kernel
theorem dL_law_378 : decode cL_law 378 = .ok (.invokevirtual 55, 3) := by decide +kernel
theorem dL_law_381 : decode cL_law 381 = .ok (.if_icmp .eq 476, 3) := by decide +kernel
theorem dL_law_384 : decode cL_law 384 = .ok (.iconst 0, 1) := by decide +kernel
theorem dL_law_385 : decode cL_law 385 = .ok (.ireturn, 1) := by decide +kernel
theorem dL_law_386 : decode cL_law 386 = .ok (.aload_n 1, 1) := by decide +kernel
theorem dL_law_387 : decode cL_law 387 = .ok (.aload_n 0, 1) := by decide +kernel
theorem dL_law_388 : decode cL_law 388 = .ok (.iload_n 3, 1) := by decide +kernel
theorem dL_law_389 : decode cL_law 389 = .ok (.iconst 1, 1) := by decide +kernel
theorem dL_law_390 : decode cL_law 390 = .ok (.iadd, 1) := by decide +kernel
theorem dL_law_391 : decode cL_law 391 = .ok (.iaload, 1) := by decide +kernel
theorem dL_law_392 : decode cL_law 392 = .ok (.invokevirtual 56, 3) := by decide +kernel
theorem dL_law_395 : decode cL_law 395 = .ok (.aload_n 2, 1) := by decide +kernel
theorem dL_law_396 : decode cL_law 396 = .ok (.aload_n 0, 1) := by decide +kernel
theorem dL_law_397 : decode cL_law 397 = .ok (.iload_n 3, 1) := by decide +kernel
theorem dL_law_398 : decode cL_law 398 = .ok (.iconst 1, 1) := by decide +kernel
theorem dL_law_399 : decode cL_law 399 = .ok (.iadd, 1) := by decide +kernel
theorem dL_law_400 : decode cL_law 400 = .ok (.iaload, 1) := by decide +kernel
theorem dL_law_401 : decode cL_law 401 = .ok (.invokevirtual 59, 3) := by decide +kernel
theorem dL_law_404 : decode cL_law 404 = .ok (.if_icmp .eq 453, 3) := by decide +kernel
theorem dL_law_407 : decode cL_law 407 = .ok (.iconst 0, 1) := by decide +kernel
theorem dL_law_408 : decode cL_law 408 = .ok (.ireturn, 1) := by decide +kernel
theorem dL_law_409 : decode cL_law 409 = .ok (.aload_n 1, 1) := by decide +kernel
theorem dL_law_410 : decode cL_law 410 = .ok (.invokevirtual 60, 3) := by decide +kernel
theorem dL_law_413 : decode cL_law 413 = .ok (.aload_n 2, 1) := by decide +kernel
theorem dL_law_414 : decode cL_law 414 = .ok (.invokevirtual 63, 3) := by decide +kernel
theorem dL_law_417 : decode cL_law 417 = .ok (.if_icmp .eq 440, 3) := by decide +kernel
theorem dL_law_420 : decode cL_law 420 = .ok (.iconst 0, 1) := by decide +kernel
theorem dL_law_421 : decode cL_law 421 = .ok (.ireturn, 1) := by decide +kernel
theorem dL_law_422 : decode cL_law 422 = .ok (.aload_n 1, 1) := by decide +kernel
theorem dL_law_423 : decode cL_law 423 = .ok (.aload_n 0, 1) := by decide +kernel
theorem dL_law_424 : decode cL_law 424 = .ok (.iload_n 3, 1) := by decide +kernel
theorem dL_law_425 : decode cL_law 425 = .ok (.iconst 1, 1) := by decide +kernel
theorem dL_law_426 : decode cL_law 426 = .ok (.iadd, 1) := by decide +kernel
theorem dL_law_427 : decode cL_law 427 = .ok (.iaload, 1) := by decide +kernel
theorem dL_law_428 : decode cL_law 428 = .ok (.aload_n 0, 1) := by decide +kernel
theorem dL_law_429 : decode cL_law 429 = .ok (.iload_n 3, 1) := by decide +kernel
theorem dL_law_430 : decode cL_law 430 = .ok (.iconst 2, 1) := by decide +kernel
theorem dL_law_431 : decode cL_law 431 = .ok (.iadd, 1) := by decide +kernel
theorem dL_law_432 : decode cL_law 432 = .ok (.iaload, 1) := by decide +kernel
theorem dL_law_433 : decode cL_law 433 = .ok (.aload_n 0, 1) := by decide +kernel
theorem dL_law_434 : decode cL_law 434 = .ok (.iload_n 3, 1) := by decide +kernel
theorem dL_law_435 : decode cL_law 435 = .ok (.iconst 3, 1) := by decide +kernel
theorem dL_law_436 : decode cL_law 436 = .ok (.iadd, 1) := by decide +kernel
theorem dL_law_437 : decode cL_law 437 = .ok (.iaload, 1) := by decide +kernel
theorem dL_law_438 : decode cL_law 438 = .ok (.invokevirtual 64, 3) := by decide +kernel
theorem dL_law_441 : decode cL_law 441 = .ok (.aload_n 2, 1) := by decide +kernel
theorem dL_law_442 : decode cL_law 442 = .ok (.aload_n 0, 1) := by decide +kernel
theorem dL_law_443 : decode cL_law 443 = .ok (.iload_n 3, 1) := by decide +kernel
theorem dL_law_444 : decode cL_law 444 = .ok (.iconst 1, 1) := by decide +kernel
theorem dL_law_445 : decode cL_law 445 = .ok (.iadd, 1) := by decide +kernel
theorem dL_law_446 : decode cL_law 446 = .ok (.iaload, 1) := by decide +kernel
theorem dL_law_447 : decode cL_law 447 = .ok (.aload_n 0, 1) := by decide +kernel
theorem dL_law_448 : decode cL_law 448 = .ok (.iload_n 3, 1) := by decide +kernel
theorem dL_law_449 : decode cL_law 449 = .ok (.iconst 2, 1) := by decide +kernel
theorem dL_law_450 : decode cL_law 450 = .ok (.iadd, 1) := by decide +kernel
theorem dL_law_451 : decode cL_law 451 = .ok (.iaload, 1) := by decide +kernel
theorem dL_law_452 : decode cL_law 452 = .ok (.aload_n 0, 1) := by decide +kernel
theorem dL_law_453 : decode cL_law 453 = .ok (.iload_n 3, 1) := by decide +kernel
theorem dL_law_454 : decode cL_law 454 = .ok (.iconst 3, 1) := by decide +kernel
theorem dL_law_455 : decode cL_law 455 = .ok (.iadd, 1) := by decide +kernel
theorem dL_law_456 : decode cL_law 456 = .ok (.iaload, 1) := by decide +kernel
theorem dL_law_457 : decode cL_law 457 = .ok (.invokevirtual 68, 3) := by decide +kernel
theorem dL_law_460 : decode cL_law 460 = .ok (.if_icmp .eq 397, 3) := by decide +kernel
theorem dL_law_463 : decode cL_law 463 = .ok (.iconst 0, 1) := by decide +kernel
theorem dL_law_464 : decode cL_law 464 = .ok (.ireturn, 1) := by decide +kernel
theorem dL_law_465 : decode cL_law 465 = .ok (.aload_n 1, 1) := by decide +kernel
theorem dL_law_466 : decode cL_law 466 = .ok (.aload_n 0, 1) := by decide +kernel
theorem dL_law_467 : decode cL_law 467 = .ok (.iload_n 3, 1) := by decide +kernel
theorem dL_law_468 : decode cL_law 468 = .ok (.iconst 1, 1) := by decide +kernel
theorem dL_law_469 : decode cL_law 469 = .ok (.iadd, 1) := by decide +kernel
theorem dL_law_470 : decode cL_law 470 = .ok (.iaload, 1) := by decide +kernel
theorem dL_law_471 : decode cL_law 471 = .ok (.invokevirtual 69, 3) := by decide +kernel
theorem dL_law_474 : decode cL_law 474 = .ok (.aload_n 2, 1) := by decide +kernel
theorem dL_law_475 : decode cL_law 475 = .ok (.aload_n 0, 1) := by decide +kernel
theorem dL_law_476 : decode cL_law 476 = .ok (.iload_n 3, 1) := by decide +kernel
theorem dL_law_477 : decode cL_law 477 = .ok (.iconst 1, 1) := by decide +kernel
theorem dL_law_478 : decode cL_law 478 = .ok (.iadd, 1) := by decide +kernel
theorem dL_law_479 : decode cL_law 479 = .ok (.iaload, 1) := by decide +kernel
theorem dL_law_480 : decode cL_law 480 = .ok (.invokevirtual 72, 3) := by decide +kernel
theorem dL_law_483 : decode cL_law 483 = .ok (.if_icmp .eq 374, 3) := by decide +kernel
theorem dL_law_486 : decode cL_law 486 = .ok (.iconst 0, 1) := by decide +kernel
theorem dL_law_487 : decode cL_law 487 = .ok (.ireturn, 1) := by decide +kernel
theorem dL_law_488 : decode cL_law 488 = .ok (.aload_n 1, 1) := by decide +kernel
theorem dL_law_489 : decode cL_law 489 = .ok (.aload_n 0, 1) := by decide +kernel
theorem dL_law_490 : decode cL_law 490 = .ok (.iload_n 3, 1) := by decide +kernel
theorem dL_law_491 : decode cL_law 491 = .ok (.iconst 1, 1) := by decide +kernel
theorem dL_law_492 : decode cL_law 492 = .ok (.iadd, 1) := by decide +kernel
theorem dL_law_493 : decode cL_law 493 = .ok (.iaload, 1) := by decide +kernel
theorem dL_law_494 : decode cL_law 494 = .ok (.invokevirtual 73, 3) := by decide +kernel
theorem dL_law_497 : decode cL_law 497 = .ok (.aload_n 2, 1) := by decide +kernel
theorem dL_law_498 : decode cL_law 498 = .ok (.aload_n 0, 1) := by decide +kernel
theorem dL_law_499 : decode cL_law 499 = .ok (.iload_n 3, 1) := by decide +kernel
theorem dL_law_500 : decode cL_law 500 = .ok (.iconst 1, 1) := by decide +kernel
theorem dL_law_501 : decode cL_law 501 = .ok (.iadd, 1) := by decide +kernel
theorem dL_law_502 : decode cL_law 502 = .ok (.iaload, 1) := by decide +kernel
theorem dL_law_503 : decode cL_law 503 = .ok (.invokevirtual 76, 3) := by decide +kernel
theorem dL_law_506 : decode cL_law 506 = .ok (.if_icmp .eq 351, 3) := by decide +kernel
theorem dL_law_509 : decode cL_law 509 = .ok (.iconst 0, 1) := by decide +kernel
theorem dL_law_510 : decode cL_law 510 = .ok (.ireturn, 1) := by decide +kernel
theorem dL_law_511 : decode cL_law 511 = .ok (.aload_n 1, 1) := by decide +kernel
theorem dL_law_512 : decode cL_law 512 = .ok (.aload_n 0, 1) := by decide +kernel
theorem dL_law_513 : decode cL_law 513 = .ok (.iload_n 3, 1) := by decide +kernel
theorem dL_law_514 : decode cL_law 514 = .ok (.iconst 1, 1) := by decide +kernel
theorem dL_law_515 : decode cL_law 515 = .ok (.iadd, 1) := by decide +kernel
theorem dL_law_516 : decode cL_law 516 = .ok (.iaload, 1) := by decide +kernel
theorem dL_law_517 : decode cL_law 517 = .ok (.aload_n 0, 1) := by decide +kernel
theorem dL_law_518 : decode cL_law 518 = .ok (.iload_n 3, 1) := by decide +kernel
theorem dL_law_519 : decode cL_law 519 = .ok (.iconst 2, 1) := by decide +kernel
theorem dL_law_520 : decode cL_law 520 = .ok (.iadd, 1) := by decide +kernel
theorem dL_law_521 : decode cL_law 521 = .ok (.iaload, 1) := by decide +kernel
theorem dL_law_522 : decode cL_law 522 = .ok (.invokevirtual 77, 3) := by decide +kernel
theorem dL_law_525 : decode cL_law 525 = .ok (.aload_n 2, 1) := by decide +kernel
theorem dL_law_526 : decode cL_law 526 = .ok (.aload_n 0, 1) := by decide +kernel
theorem dL_law_527 : decode cL_law 527 = .ok (.iload_n 3, 1) := by decide +kernel
theorem dL_law_528 : decode cL_law 528 = .ok (.iconst 1, 1) := by decide +kernel
theorem dL_law_529 : decode cL_law 529 = .ok (.iadd, 1) := by decide +kernel
theorem dL_law_530 : decode cL_law 530 = .ok (.iaload, 1) := by decide +kernel
theorem dL_law_531 : decode cL_law 531 = .ok (.aload_n 0, 1) := by decide +kernel
theorem dL_law_532 : decode cL_law 532 = .ok (.iload_n 3, 1) := by decide +kernel
theorem dL_law_533 : decode cL_law 533 = .ok (.iconst 2, 1) := by decide +kernel
theorem dL_law_534 : decode cL_law 534 = .ok (.iadd, 1) := by decide +kernel
theorem dL_law_535 : decode cL_law 535 = .ok (.iaload, 1) := by decide +kernel
theorem dL_law_536 : decode cL_law 536 = .ok (.invokevirtual 80, 3) := by decide +kernel
theorem dL_law_539 : decode cL_law 539 = .ok (.if_icmp .eq 318, 3) := by decide +kernel
theorem dL_law_542 : decode cL_law 542 = .ok (.iconst 0, 1) := by decide +kernel
theorem dL_law_543 : decode cL_law 543 = .ok (.ireturn, 1) := by decide +kernel
theorem dL_law_544 : decode cL_law 544 = .ok (.aload_n 1, 1) := by decide +kernel
theorem dL_law_545 : decode cL_law 545 = .ok (.aload_n 0, 1) := by decide +kernel
theorem dL_law_546 : decode cL_law 546 = .ok (.iload_n 3, 1) := by decide +kernel
theorem dL_law_547 : decode cL_law 547 = .ok (.iconst 1, 1) := by decide +kernel
theorem dL_law_548 : decode cL_law 548 = .ok (.iadd, 1) := by decide +kernel
theorem dL_law_549 : decode cL_law 549 = .ok (.iaload, 1) := by decide +kernel
theorem dL_law_550 : decode cL_law 550 = .ok (.invokevirtual 81, 3) := by decide +kernel
theorem dL_law_553 : decode cL_law 553 = .ok (.aload_n 2, 1) := by decide +kernel
theorem dL_law_554 : decode cL_law 554 = .ok (.aload_n 0, 1) := by decide +kernel
theorem dL_law_555 : decode cL_law 555 = .ok (.iload_n 3, 1) := by decide +kernel
theorem dL_law_556 : decode cL_law 556 = .ok (.iconst 1, 1) := by decide +kernel
theorem dL_law_557 : decode cL_law 557 = .ok (.iadd, 1) := by decide +kernel
theorem dL_law_558 : decode cL_law 558 = .ok (.iaload, 1) := by decide +kernel
theorem dL_law_559 : decode cL_law 559 = .ok (.invokevirtual 84, 3) := by decide +kernel
theorem dL_law_562 : decode cL_law 562 = .ok (.if_icmp .eq 295, 3) := by decide +kernel
theorem dL_law_565 : decode cL_law 565 = .ok (.iconst 0, 1) := by decide +kernel
theorem dL_law_566 : decode cL_law 566 = .ok (.ireturn, 1) := by decide +kernel
theorem dL_law_567 : decode cL_law 567 = .ok (.aload_n 1, 1) := by decide +kernel
theorem dL_law_568 : decode cL_law 568 = .ok (.aload_n 0, 1) := by decide +kernel
theorem dL_law_569 : decode cL_law 569 = .ok (.iload_n 3, 1) := by decide +kernel
theorem dL_law_570 : decode cL_law 570 = .ok (.iconst 1, 1) := by decide +kernel
theorem dL_law_571 : decode cL_law 571 = .ok (.iadd, 1) := by decide +kernel
theorem dL_law_572 : decode cL_law 572 = .ok (.iaload, 1) := by decide +kernel
theorem dL_law_573 : decode cL_law 573 = .ok (.aload_n 0, 1) := by decide +kernel
theorem dL_law_574 : decode cL_law 574 = .ok (.iload_n 3, 1) := by decide +kernel
theorem dL_law_575 : decode cL_law 575 = .ok (.iconst 2, 1) := by decide +kernel
theorem dL_law_576 : decode cL_law 576 = .ok (.iadd, 1) := by decide +kernel
theorem dL_law_577 : decode cL_law 577 = .ok (.iaload, 1) := by decide +kernel
theorem dL_law_578 : decode cL_law 578 = .ok (.aload_n 0, 1) := by decide +kernel
theorem dL_law_579 : decode cL_law 579 = .ok (.iload_n 3, 1) := by decide +kernel
theorem dL_law_580 : decode cL_law 580 = .ok (.iconst 3, 1) := by decide +kernel
theorem dL_law_581 : decode cL_law 581 = .ok (.iadd, 1) := by decide +kernel
theorem dL_law_582 : decode cL_law 582 = .ok (.iaload, 1) := by decide +kernel
theorem dL_law_583 : decode cL_law 583 = .ok (.invokevirtual 85, 3) := by decide +kernel
theorem dL_law_586 : decode cL_law 586 = .ok (.aload_n 2, 1) := by decide +kernel
theorem dL_law_587 : decode cL_law 587 = .ok (.aload_n 0, 1) := by decide +kernel
theorem dL_law_588 : decode cL_law 588 = .ok (.iload_n 3, 1) := by decide +kernel
theorem dL_law_589 : decode cL_law 589 = .ok (.iconst 1, 1) := by decide +kernel
theorem dL_law_590 : decode cL_law 590 = .ok (.iadd, 1) := by decide +kernel
theorem dL_law_591 : decode cL_law 591 = .ok (.iaload, 1) := by decide +kernel
theorem dL_law_592 : decode cL_law 592 = .ok (.aload_n 0, 1) := by decide +kernel
theorem dL_law_593 : decode cL_law 593 = .ok (.iload_n 3, 1) := by decide +kernel
theorem dL_law_594 : decode cL_law 594 = .ok (.iconst 2, 1) := by decide +kernel
theorem dL_law_595 : decode cL_law 595 = .ok (.iadd, 1) := by decide +kernel
theorem dL_law_596 : decode cL_law 596 = .ok (.iaload, 1) := by decide +kernel
theorem dL_law_597 : decode cL_law 597 = .ok (.aload_n 0, 1) := by decide +kernel
theorem dL_law_598 : decode cL_law 598 = .ok (.iload_n 3, 1) := by decide +kernel
theorem dL_law_599 : decode cL_law 599 = .ok (.iconst 3, 1) := by decide +kernel
theorem dL_law_600 : decode cL_law 600 = .ok (.iadd, 1) := by decide +kernel
theorem dL_law_601 : decode cL_law 601 = .ok (.iaload, 1) := by decide +kernel
theorem dL_law_602 : decode cL_law 602 = .ok (.invokevirtual 88, 3) := by decide +kernel
theorem dL_law_605 : decode cL_law 605 = .ok (.if_icmp .eq 252, 3) := by decide +kernel
theorem dL_law_608 : decode cL_law 608 = .ok (.iconst 0, 1) := by decide +kernel
theorem dL_law_609 : decode cL_law 609 = .ok (.ireturn, 1) := by decide +kernel
theorem dL_law_610 : decode cL_law 610 = .ok (.aload_n 1, 1) := by decide +kernel
theorem dL_law_611 : decode cL_law 611 = .ok (.aload_n 0, 1) := by decide +kernel
theorem dL_law_612 : decode cL_law 612 = .ok (.iload_n 3, 1) := by decide +kernel
theorem dL_law_613 : decode cL_law 613 = .ok (.iconst 1, 1) := by decide +kernel
theorem dL_law_614 : decode cL_law 614 = .ok (.iadd, 1) := by decide +kernel
theorem dL_law_615 : decode cL_law 615 = .ok (.iaload, 1) := by decide +kernel
theorem dL_law_616 : decode cL_law 616 = .ok (.aload_n 0, 1) := by decide +kernel
theorem dL_law_617 : decode cL_law 617 = .ok (.iload_n 3, 1) := by decide +kernel
theorem dL_law_618 : decode cL_law 618 = .ok (.iconst 2, 1) := by decide +kernel
theorem dL_law_619 : decode cL_law 619 = .ok (.iadd, 1) := by decide +kernel
theorem dL_law_620 : decode cL_law 620 = .ok (.iaload, 1) := by decide +kernel
theorem dL_law_621 : decode cL_law 621 = .ok (.aload_n 0, 1) := by decide +kernel
theorem dL_law_622 : decode cL_law 622 = .ok (.iload_n 3, 1) := by decide +kernel
theorem dL_law_623 : decode cL_law 623 = .ok (.iconst 3, 1) := by decide +kernel
theorem dL_law_624 : decode cL_law 624 = .ok (.iadd, 1) := by decide +kernel
theorem dL_law_625 : decode cL_law 625 = .ok (.iaload, 1) := by decide +kernel
theorem dL_law_626 : decode cL_law 626 = .ok (.invokevirtual 89, 3) := by decide +kernel
theorem dL_law_629 : decode cL_law 629 = .ok (.aload_n 2, 1) := by decide +kernel
theorem dL_law_630 : decode cL_law 630 = .ok (.aload_n 0, 1) := by decide +kernel
theorem dL_law_631 : decode cL_law 631 = .ok (.iload_n 3, 1) := by decide +kernel
theorem dL_law_632 : decode cL_law 632 = .ok (.iconst 1, 1) := by decide +kernel
theorem dL_law_633 : decode cL_law 633 = .ok (.iadd, 1) := by decide +kernel
theorem dL_law_634 : decode cL_law 634 = .ok (.iaload, 1) := by decide +kernel
theorem dL_law_635 : decode cL_law 635 = .ok (.aload_n 0, 1) := by decide +kernel
theorem dL_law_636 : decode cL_law 636 = .ok (.iload_n 3, 1) := by decide +kernel
theorem dL_law_637 : decode cL_law 637 = .ok (.iconst 2, 1) := by decide +kernel
theorem dL_law_638 : decode cL_law 638 = .ok (.iadd, 1) := by decide +kernel
theorem dL_law_639 : decode cL_law 639 = .ok (.iaload, 1) := by decide +kernel
theorem dL_law_640 : decode cL_law 640 = .ok (.aload_n 0, 1) := by decide +kernel
theorem dL_law_641 : decode cL_law 641 = .ok (.iload_n 3, 1) := by decide +kernel
theorem dL_law_642 : decode cL_law 642 = .ok (.iconst 3, 1) := by decide +kernel
theorem dL_law_643 : decode cL_law 643 = .ok (.iadd, 1) := by decide +kernel
theorem dL_law_644 : decode cL_law 644 = .ok (.iaload, 1) := by decide +kernel
theorem dL_law_645 : decode cL_law 645 = .ok (.invokevirtual 92, 3) := by decide +kernel
theorem dL_law_648 : decode cL_law 648 = .ok (.if_icmp .eq 209, 3) := by decide +kernel
theorem dL_law_651 : decode cL_law 651 = .ok (.iconst 0, 1) := by decide +kernel
theorem dL_law_652 : decode cL_law 652 = .ok (.ireturn, 1) := by decide +kernel
theorem dL_law_653 : decode cL_law 653 = .ok (.aload_n 1, 1) := by decide +kernel
theorem dL_law_654 : decode cL_law 654 = .ok (.invokevirtual 93, 3) := by decide +kernel
theorem dL_law_657 : decode cL_law 657 = .ok (.aload_n 2, 1) := by decide +kernel
theorem dL_law_658 : decode cL_law 658 = .ok (.invokevirtual 96, 3) := by decide +kernel
theorem dL_law_661 : decode cL_law 661 = .ok (.if_icmp .eq 196, 3) := by decide +kernel
theorem dL_law_664 : decode cL_law 664 = .ok (.iconst 0, 1) := by decide +kernel
theorem dL_law_665 : decode cL_law 665 = .ok (.ireturn, 1) := by decide +kernel
theorem dL_law_666 : decode cL_law 666 = .ok (.aload_n 1, 1) := by decide +kernel
theorem dL_law_667 : decode cL_law 667 = .ok (.aload_n 0, 1) := by decide +kernel
theorem dL_law_668 : decode cL_law 668 = .ok (.iload_n 3, 1) := by decide +kernel
theorem dL_law_669 : decode cL_law 669 = .ok (.iconst 1, 1) := by decide +kernel
theorem dL_law_670 : decode cL_law 670 = .ok (.iadd, 1) := by decide +kernel
theorem dL_law_671 : decode cL_law 671 = .ok (.iaload, 1) := by decide +kernel
theorem dL_law_672 : decode cL_law 672 = .ok (.aload_n 0, 1) := by decide +kernel
theorem dL_law_673 : decode cL_law 673 = .ok (.iload_n 3, 1) := by decide +kernel
theorem dL_law_674 : decode cL_law 674 = .ok (.iconst 2, 1) := by decide +kernel
theorem dL_law_675 : decode cL_law 675 = .ok (.iadd, 1) := by decide +kernel
theorem dL_law_676 : decode cL_law 676 = .ok (.iaload, 1) := by decide +kernel
theorem dL_law_677 : decode cL_law 677 = .ok (.invokevirtual 97, 3) := by decide +kernel
theorem dL_law_680 : decode cL_law 680 = .ok (.aload_n 2, 1) := by decide +kernel
theorem dL_law_681 : decode cL_law 681 = .ok (.aload_n 0, 1) := by decide +kernel
theorem dL_law_682 : decode cL_law 682 = .ok (.iload_n 3, 1) := by decide +kernel
theorem dL_law_683 : decode cL_law 683 = .ok (.iconst 1, 1) := by decide +kernel
theorem dL_law_684 : decode cL_law 684 = .ok (.iadd, 1) := by decide +kernel
theorem dL_law_685 : decode cL_law 685 = .ok (.iaload, 1) := by decide +kernel
theorem dL_law_686 : decode cL_law 686 = .ok (.aload_n 0, 1) := by decide +kernel
theorem dL_law_687 : decode cL_law 687 = .ok (.iload_n 3, 1) := by decide +kernel
theorem dL_law_688 : decode cL_law 688 = .ok (.iconst 2, 1) := by decide +kernel
theorem dL_law_689 : decode cL_law 689 = .ok (.iadd, 1) := by decide +kernel
theorem dL_law_690 : decode cL_law 690 = .ok (.iaload, 1) := by decide +kernel
theorem dL_law_691 : decode cL_law 691 = .ok (.invokevirtual 100, 3) := by decide +kernel
theorem dL_law_694 : decode cL_law 694 = .ok (.if_icmp .eq 163, 3) := by decide +kernel
theorem dL_law_697 : decode cL_law 697 = .ok (.iconst 0, 1) := by decide +kernel
theorem dL_law_698 : decode cL_law 698 = .ok (.ireturn, 1) := by decide +kernel
theorem dL_law_699 : decode cL_law 699 = .ok (.aload_n 1, 1) := by decide +kernel
theorem dL_law_700 : decode cL_law 700 = .ok (.aload_n 0, 1) := by decide +kernel
theorem dL_law_701 : decode cL_law 701 = .ok (.iload_n 3, 1) := by decide +kernel
theorem dL_law_702 : decode cL_law 702 = .ok (.iconst 1, 1) := by decide +kernel
theorem dL_law_703 : decode cL_law 703 = .ok (.iadd, 1) := by decide +kernel
theorem dL_law_704 : decode cL_law 704 = .ok (.iaload, 1) := by decide +kernel
theorem dL_law_705 : decode cL_law 705 = .ok (.invokevirtual 101, 3) := by decide +kernel
theorem dL_law_708 : decode cL_law 708 = .ok (.aload_n 2, 1) := by decide +kernel
theorem dL_law_709 : decode cL_law 709 = .ok (.aload_n 0, 1) := by decide +kernel
theorem dL_law_710 : decode cL_law 710 = .ok (.iload_n 3, 1) := by decide +kernel
theorem dL_law_711 : decode cL_law 711 = .ok (.iconst 1, 1) := by decide +kernel
theorem dL_law_712 : decode cL_law 712 = .ok (.iadd, 1) := by decide +kernel
theorem dL_law_713 : decode cL_law 713 = .ok (.iaload, 1) := by decide +kernel
theorem dL_law_714 : decode cL_law 714 = .ok (.invokevirtual 104, 3) := by decide +kernel
theorem dL_law_717 : decode cL_law 717 = .ok (.if_icmp .eq 140, 3) := by decide +kernel
theorem dL_law_720 : decode cL_law 720 = .ok (.iconst 0, 1) := by decide +kernel
theorem dL_law_721 : decode cL_law 721 = .ok (.ireturn, 1) := by decide +kernel
theorem dL_law_722 : decode cL_law 722 = .ok (.aload_n 1, 1) := by decide +kernel
theorem dL_law_723 : decode cL_law 723 = .ok (.aload_n 0, 1) := by decide +kernel
theorem dL_law_724 : decode cL_law 724 = .ok (.iload_n 3, 1) := by decide +kernel
theorem dL_law_725 : decode cL_law 725 = .ok (.iconst 1, 1) := by decide +kernel
theorem dL_law_726 : decode cL_law 726 = .ok (.iadd, 1) := by decide +kernel
theorem dL_law_727 : decode cL_law 727 = .ok (.iaload, 1) := by decide +kernel
theorem dL_law_728 : decode cL_law 728 = .ok (.aload_n 0, 1) := by decide +kernel
theorem dL_law_729 : decode cL_law 729 = .ok (.iload_n 3, 1) := by decide +kernel
theorem dL_law_730 : decode cL_law 730 = .ok (.iconst 2, 1) := by decide +kernel
theorem dL_law_731 : decode cL_law 731 = .ok (.iadd, 1) := by decide +kernel
theorem dL_law_732 : decode cL_law 732 = .ok (.iaload, 1) := by decide +kernel
theorem dL_law_733 : decode cL_law 733 = .ok (.aload_n 0, 1) := by decide +kernel
theorem dL_law_734 : decode cL_law 734 = .ok (.iload_n 3, 1) := by decide +kernel
theorem dL_law_735 : decode cL_law 735 = .ok (.iconst 3, 1) := by decide +kernel
theorem dL_law_736 : decode cL_law 736 = .ok (.iadd, 1) := by decide +kernel
theorem dL_law_737 : decode cL_law 737 = .ok (.iaload, 1) := by decide +kernel
theorem dL_law_738 : decode cL_law 738 = .ok (.invokevirtual 105, 3) := by decide +kernel
theorem dL_law_741 : decode cL_law 741 = .ok (.aload_n 2, 1) := by decide +kernel
theorem dL_law_742 : decode cL_law 742 = .ok (.aload_n 0, 1) := by decide +kernel
theorem dL_law_743 : decode cL_law 743 = .ok (.iload_n 3, 1) := by decide +kernel
theorem dL_law_744 : decode cL_law 744 = .ok (.iconst 1, 1) := by decide +kernel
theorem dL_law_745 : decode cL_law 745 = .ok (.iadd, 1) := by decide +kernel
theorem dL_law_746 : decode cL_law 746 = .ok (.iaload, 1) := by decide +kernel
theorem dL_law_747 : decode cL_law 747 = .ok (.aload_n 0, 1) := by decide +kernel
theorem dL_law_748 : decode cL_law 748 = .ok (.iload_n 3, 1) := by decide +kernel
theorem dL_law_749 : decode cL_law 749 = .ok (.iconst 2, 1) := by decide +kernel
theorem dL_law_750 : decode cL_law 750 = .ok (.iadd, 1) := by decide +kernel
theorem dL_law_751 : decode cL_law 751 = .ok (.iaload, 1) := by decide +kernel
theorem dL_law_752 : decode cL_law 752 = .ok (.aload_n 0, 1) := by decide +kernel
theorem dL_law_753 : decode cL_law 753 = .ok (.iload_n 3, 1) := by decide +kernel
theorem dL_law_754 : decode cL_law 754 = .ok (.iconst 3, 1) := by decide +kernel
theorem dL_law_755 : decode cL_law 755 = .ok (.iadd, 1) := by decide +kernel
theorem dL_law_756 : decode cL_law 756 = .ok (.iaload, 1) := by decide +kernel
theorem dL_law_757 : decode cL_law 757 = .ok (.invokevirtual 108, 3) := by decide +kernel
theorem dL_law_760 : decode cL_law 760 = .ok (.if_icmp .eq 97, 3) := by decide +kernel
theorem dL_law_763 : decode cL_law 763 = .ok (.iconst 0, 1) := by decide +kernel
theorem dL_law_764 : decode cL_law 764 = .ok (.ireturn, 1) := by decide +kernel
theorem dL_law_765 : decode cL_law 765 = .ok (.aload_n 1, 1) := by decide +kernel
theorem dL_law_766 : decode cL_law 766 = .ok (.aload_n 0, 1) := by decide +kernel
theorem dL_law_767 : decode cL_law 767 = .ok (.iload_n 3, 1) := by decide +kernel
theorem dL_law_768 : decode cL_law 768 = .ok (.iconst 1, 1) := by decide +kernel
theorem dL_law_769 : decode cL_law 769 = .ok (.iadd, 1) := by decide +kernel
theorem dL_law_770 : decode cL_law 770 = .ok (.iaload, 1) := by decide +kernel
theorem dL_law_771 : decode cL_law 771 = .ok (.aload_n 0, 1) := by decide +kernel
theorem dL_law_772 : decode cL_law 772 = .ok (.iload_n 3, 1) := by decide +kernel
theorem dL_law_773 : decode cL_law 773 = .ok (.iconst 2, 1) := by decide +kernel
theorem dL_law_774 : decode cL_law 774 = .ok (.iadd, 1) := by decide +kernel
theorem dL_law_775 : decode cL_law 775 = .ok (.iaload, 1) := by decide +kernel
theorem dL_law_776 : decode cL_law 776 = .ok (.aload_n 0, 1) := by decide +kernel
theorem dL_law_777 : decode cL_law 777 = .ok (.iload_n 3, 1) := by decide +kernel
theorem dL_law_778 : decode cL_law 778 = .ok (.iconst 3, 1) := by decide +kernel
theorem dL_law_779 : decode cL_law 779 = .ok (.iadd, 1) := by decide +kernel
theorem dL_law_780 : decode cL_law 780 = .ok (.iaload, 1) := by decide +kernel
theorem dL_law_781 : decode cL_law 781 = .ok (.invokevirtual 109, 3) := by decide +kernel
theorem dL_law_784 : decode cL_law 784 = .ok (.aload_n 2, 1) := by decide +kernel
theorem dL_law_785 : decode cL_law 785 = .ok (.aload_n 0, 1) := by decide +kernel
theorem dL_law_786 : decode cL_law 786 = .ok (.iload_n 3, 1) := by decide +kernel
theorem dL_law_787 : decode cL_law 787 = .ok (.iconst 1, 1) := by decide +kernel
theorem dL_law_788 : decode cL_law 788 = .ok (.iadd, 1) := by decide +kernel
theorem dL_law_789 : decode cL_law 789 = .ok (.iaload, 1) := by decide +kernel
theorem dL_law_790 : decode cL_law 790 = .ok (.aload_n 0, 1) := by decide +kernel
theorem dL_law_791 : decode cL_law 791 = .ok (.iload_n 3, 1) := by decide +kernel
theorem dL_law_792 : decode cL_law 792 = .ok (.iconst 2, 1) := by decide +kernel
theorem dL_law_793 : decode cL_law 793 = .ok (.iadd, 1) := by decide +kernel
theorem dL_law_794 : decode cL_law 794 = .ok (.iaload, 1) := by decide +kernel
theorem dL_law_795 : decode cL_law 795 = .ok (.aload_n 0, 1) := by decide +kernel
theorem dL_law_796 : decode cL_law 796 = .ok (.iload_n 3, 1) := by decide +kernel
theorem dL_law_797 : decode cL_law 797 = .ok (.iconst 3, 1) := by decide +kernel
theorem dL_law_798 : decode cL_law 798 = .ok (.iadd, 1) := by decide +kernel
theorem dL_law_799 : decode cL_law 799 = .ok (.iaload, 1) := by decide +kernel
theorem dL_law_800 : decode cL_law 800 = .ok (.invokevirtual 112, 3) := by decide +kernel
theorem dL_law_803 : decode cL_law 803 = .ok (.if_icmp .eq 54, 3) := by decide +kernel
theorem dL_law_806 : decode cL_law 806 = .ok (.iconst 0, 1) := by decide +kernel
theorem dL_law_807 : decode cL_law 807 = .ok (.ireturn, 1) := by decide +kernel
theorem dL_law_808 : decode cL_law 808 = .ok (.aload_n 1, 1) := by decide +kernel
theorem dL_law_809 : decode cL_law 809 = .ok (.invokevirtual 113, 3) := by decide +kernel
theorem dL_law_812 : decode cL_law 812 = .ok (.aload_n 2, 1) := by decide +kernel
theorem dL_law_813 : decode cL_law 813 = .ok (.invokevirtual 116, 3) := by decide +kernel
theorem dL_law_816 : decode cL_law 816 = .ok (.if_icmp .eq 41, 3) := by decide +kernel
theorem dL_law_819 : decode cL_law 819 = .ok (.iconst 0, 1) := by decide +kernel
theorem dL_law_820 : decode cL_law 820 = .ok (.ireturn, 1) := by decide +kernel
theorem dL_law_821 : decode cL_law 821 = .ok (.aload_n 1, 1) := by decide +kernel
theorem dL_law_822 : decode cL_law 822 = .ok (.invokevirtual 117, 3) := by decide +kernel
theorem dL_law_825 : decode cL_law 825 = .ok (.aload_n 2, 1) := by decide +kernel
theorem dL_law_826 : decode cL_law 826 = .ok (.invokevirtual 120, 3) := by decide +kernel
theorem dL_law_829 : decode cL_law 829 = .ok (.if_icmp .eq 28, 3) := by decide +kernel
theorem dL_law_832 : decode cL_law 832 = .ok (.iconst 0, 1) := by decide +kernel
theorem dL_law_833 : decode cL_law 833 = .ok (.ireturn, 1) := by decide +kernel
theorem dL_law_834 : decode cL_law 834 = .ok (.aload_n 1, 1) := by decide +kernel
theorem dL_law_835 : decode cL_law 835 = .ok (.aload_n 0, 1) := by decide +kernel
theorem dL_law_836 : decode cL_law 836 = .ok (.iload_n 3, 1) := by decide +kernel
theorem dL_law_837 : decode cL_law 837 = .ok (.iconst 1, 1) := by decide +kernel
theorem dL_law_838 : decode cL_law 838 = .ok (.iadd, 1) := by decide +kernel
theorem dL_law_839 : decode cL_law 839 = .ok (.iaload, 1) := by decide +kernel
theorem dL_law_840 : decode cL_law 840 = .ok (.invokevirtual 121, 3) := by decide +kernel
theorem dL_law_843 : decode cL_law 843 = .ok (.aload_n 2, 1) := by decide +kernel
theorem dL_law_844 : decode cL_law 844 = .ok (.aload_n 0, 1) := by decide +kernel
theorem dL_law_845 : decode cL_law 845 = .ok (.iload_n 3, 1) := by decide +kernel
theorem dL_law_846 : decode cL_law 846 = .ok (.iconst 1, 1) := by decide +kernel
theorem dL_law_847 : decode cL_law 847 = .ok (.iadd, 1) := by decide +kernel
theorem dL_law_848 : decode cL_law 848 = .ok (.iaload, 1) := by decide +kernel
theorem dL_law_849 : decode cL_law 849 = .ok (.invokevirtual 124, 3) := by decide +kernel
theorem dL_law_852 : decode cL_law 852 = .ok (.if_icmp .eq 5, 3) := by decide +kernel
theorem dL_law_855 : decode cL_law 855 = .ok (.iconst 0, 1) := by decide +kernel
theorem dL_law_856 : decode cL_law 856 = .ok (.ireturn, 1) := by decide +kernel
theorem dL_law_857 : decode cL_law 857 = .ok (.iinc 3 4, 3) := by decide +kernel
theorem dL_law_860 : decode cL_law 860 = .ok (.goto (-842), 3) := by decide +kernel
theorem dL_law_863 : decode cL_law 863 = .ok (.iconst 1, 1) := by decide +kernel
theorem dL_law_864 : decode cL_law 864 = .ok (.ireturn, 1) := by decide +kernel
end
section
/-- the words that all methods share: those of the tables that stay -/
def ts_TB : List Cond := lw_tbl.filter goodWord
theorem ts_mem {w : Cond} (i : Nat) (h : lw_tbl[i]? = some w) (hg : goodWord w = true) : w ∈ ts_TB := List.mem_filter.mpr ⟨List.mem_of_getElem? h, hg⟩
theorem ts_tbl : ∀ w ∈ ts_TB, w ∈ lw_tbl := fun _ h => (List.mem_filter.mp h).1
theorem ts_good : ∀ w ∈ ts_TB, ((w.onTables && w.keeps) = true ∨ ∃ ty, w = .arrayClass ty) := fun _ h => good_of_word (List.mem_filter.mp h).2
theorem kw_0 : Cond.selects RX6 yX6_readItem yX6_readItem ∈ ts_TB := ts_mem 0 (by decide +kernel) (by decide +kernel)
theorem kw_1 : Cond.selects RX6 yX6_readNumbers yX6_readNumbers ∈ ts_TB := ts_mem 1 (by decide +kernel) (by decide +kernel)
theorem kw_2 : Cond.selects RX6 yX6_readNumber yX6_readNumber ∈ ts_TB := ts_mem 2 (by decide +kernel) (by decide +kernel)
theorem kw_3 : Cond.selects RX6 yX6_figureAt yX6_figureAt ∈ ts_TB := ts_mem 3 (by decide +kernel) (by decide +kernel)
theorem kw_4 : Cond.selects RX6 yX6_takeSteps yX6_takeSteps ∈ ts_TB := ts_mem 4 (by decide +kernel) (by decide +kernel)
theorem kw_5 : Cond.selects RX6 yX6_takePerson yX6_takePerson ∈ ts_TB := ts_mem 5 (by decide +kernel) (by decide +kernel)
theorem kw_6 : Cond.selects RX6 yX6_takeWork yX6_takeWork ∈ ts_TB := ts_mem 6 (by decide +kernel) (by decide +kernel)
theorem kw_7 : Cond.selects RX9 yX9_takeDraft yX9_takeDraft ∈ ts_TB := ts_mem 7 (by decide +kernel) (by decide +kernel)
theorem kw_8 : Cond.selects RX9 yX9_isPerson yX9_isPerson ∈ ts_TB := ts_mem 8 (by decide +kernel) (by decide +kernel)
theorem kw_9 : Cond.selects RX9 yX9_isStep yX9_isStep ∈ ts_TB := ts_mem 9 (by decide +kernel) (by decide +kernel)
theorem kw_10 : Cond.selects RX3 yX3_needOfNextEasier yX3_needOfNextEasier ∈ ts_TB := ts_mem 10 (by decide +kernel) (by decide +kernel)
theorem kw_11 : Cond.selects RX3 yX3_isEasier yX3_isEasier ∈ ts_TB := ts_mem 11 (by decide +kernel) (by decide +kernel)
theorem kw_12 : Cond.selects RX3 yX3_placesOf yX3_placesOf ∈ ts_TB := ts_mem 12 (by decide +kernel) (by decide +kernel)
theorem kw_13 : Cond.selects RX3 yX3_isFrozenAmong yX3_isFrozenAmong ∈ ts_TB := ts_mem 13 (by decide +kernel) (by decide +kernel)
theorem kw_14 : Cond.selects RX3 yX3_putFrom yX3_putFrom ∈ ts_TB := ts_mem 14 (by decide +kernel) (by decide +kernel)
theorem kw_15 : Cond.selects RX3 yX3_mostInReach yX3_mostInReach ∈ ts_TB := ts_mem 15 (by decide +kernel) (by decide +kernel)
theorem kw_16 : Cond.selects RX3 yX3_priceOf yX3_priceOf ∈ ts_TB := ts_mem 16 (by decide +kernel) (by decide +kernel)
theorem kw_17 : Cond.selects RX3 yX3_isSurelyFrozenBefore yX3_isSurelyFrozenBefore ∈ ts_TB := ts_mem 17 (by decide +kernel) (by decide +kernel)
theorem kw_18 : Cond.selects RX3 yX3_takeIfBetter yX3_takeIfBetter ∈ ts_TB := ts_mem 18 (by decide +kernel) (by decide +kernel)
theorem kw_19 : Cond.selects RX3 yX3_put yX3_put ∈ ts_TB := ts_mem 19 (by decide +kernel) (by decide +kernel)
theorem kw_20 : Cond.selects RX7 yX7_chooseFrom yX7_chooseFrom ∈ ts_TB := ts_mem 20 (by decide +kernel) (by decide +kernel)
theorem kw_21 : Cond.selects RX7 yX7_takeIfBetter yX7_takeIfBetter ∈ ts_TB := ts_mem 21 (by decide +kernel) (by decide +kernel)
theorem kw_22 : Cond.selects RX7 yX7_choose yX7_choose ∈ ts_TB := ts_mem 22 (by decide +kernel) (by decide +kernel)
theorem kw_23 : Cond.selects RX5 yX5_takeIfBetter yX5_takeIfBetter ∈ ts_TB := ts_mem 23 (by decide +kernel) (by decide +kernel)
theorem kw_24 : Cond.selects RX5 yX5_changePlaces yX5_changePlaces ∈ ts_TB := ts_mem 24 (by decide +kernel) (by decide +kernel)
theorem kw_25 : Cond.selects RX0 yX0_countFrom yX0_countFrom ∈ ts_TB := ts_mem 25 (by decide +kernel) (by decide +kernel)
theorem kw_26 : Cond.selects RX0 yX0_reaches yX0_reaches ∈ ts_TB := ts_mem 26 (by decide +kernel) (by decide +kernel)
theorem kw_27 : Cond.selects RX9 yX9_doneIfTheseFall yX9_doneIfTheseFall ∈ ts_TB := ts_mem 27 (by decide +kernel) (by decide +kernel)
theorem kw_28 : Cond.selects RX10 yX10_clearTold yX10_clearTold ∈ ts_TB := ts_mem 28 (by decide +kernel) (by decide +kernel)
theorem kw_29 : Cond.selects RX10 yX10_tellsPerson yX10_tellsPerson ∈ ts_TB := ts_mem 29 (by decide +kernel) (by decide +kernel)
theorem kw_30 : Cond.selects RX10 yX10_tellsWork yX10_tellsWork ∈ ts_TB := ts_mem 30 (by decide +kernel) (by decide +kernel)
theorem kw_31 : Cond.selects RX10 yX10_settles yX10_settles ∈ ts_TB := ts_mem 31 (by decide +kernel) (by decide +kernel)
theorem kw_32 : Cond.selects RX10 yX10_readItem yX10_readItem ∈ ts_TB := ts_mem 32 (by decide +kernel) (by decide +kernel)
theorem kw_33 : Cond.selects RX10 yX10_letterAt yX10_letterAt ∈ ts_TB := ts_mem 33 (by decide +kernel) (by decide +kernel)
theorem kw_34 : Cond.selects RX10 yX10_readHeightOf yX10_readHeightOf ∈ ts_TB := ts_mem 34 (by decide +kernel) (by decide +kernel)
theorem kw_35 : Cond.selects RX10 yX10_readNumbers yX10_readNumbers ∈ ts_TB := ts_mem 35 (by decide +kernel) (by decide +kernel)
theorem kw_36 : Cond.selects RX10 yX10_isTold yX10_isTold ∈ ts_TB := ts_mem 36 (by decide +kernel) (by decide +kernel)
theorem kw_37 : Cond.selects RX10 yX10_readPersonItem yX10_readPersonItem ∈ ts_TB := ts_mem 37 (by decide +kernel) (by decide +kernel)
theorem kw_38 : Cond.selects RX10 yX10_readWorkItem yX10_readWorkItem ∈ ts_TB := ts_mem 38 (by decide +kernel) (by decide +kernel)
theorem kw_39 : Cond.selects RX10 yX10_isPerson yX10_isPerson ∈ ts_TB := ts_mem 39 (by decide +kernel) (by decide +kernel)
theorem kw_40 : Cond.selects RX10 yX10_asItIs yX10_asItIs ∈ ts_TB := ts_mem 40 (by decide +kernel) (by decide +kernel)
theorem kw_41 : Cond.selects RX10 yX10_fearOf yX10_fearOf ∈ ts_TB := ts_mem 41 (by decide +kernel) (by decide +kernel)
theorem kw_42 : Cond.selects RX10 yX10_fearAs yX10_fearAs ∈ ts_TB := ts_mem 42 (by decide +kernel) (by decide +kernel)
theorem kw_43 : Cond.selects RX10 yX10_frozen yX10_frozen ∈ ts_TB := ts_mem 43 (by decide +kernel) (by decide +kernel)
theorem kw_44 : Cond.selects RX10 yX10_canCall yX10_canCall ∈ ts_TB := ts_mem 44 (by decide +kernel) (by decide +kernel)
theorem kw_45 : Cond.selects RX10 yX10_isStep yX10_isStep ∈ ts_TB := ts_mem 45 (by decide +kernel) (by decide +kernel)
theorem kw_46 : Cond.selects RX10 yX10_isDone yX10_isDone ∈ ts_TB := ts_mem 46 (by decide +kernel) (by decide +kernel)
theorem kw_47 : Cond.selects RX10 yX10_goesBy yX10_goesBy ∈ ts_TB := ts_mem 47 (by decide +kernel) (by decide +kernel)
theorem kw_48 : Cond.selects RX10 yX10_becomes yX10_becomes ∈ ts_TB := ts_mem 48 (by decide +kernel) (by decide +kernel)
theorem kw_49 : Cond.selects RX10 yX10_canPromote yX10_canPromote ∈ ts_TB := ts_mem 49 (by decide +kernel) (by decide +kernel)
theorem kw_50 : Cond.selects RX10 yX10_canHoist yX10_canHoist ∈ ts_TB := ts_mem 50 (by decide +kernel) (by decide +kernel)
theorem kw_51 : Cond.selects RX10 yX10_calls yX10_calls ∈ ts_TB := ts_mem 51 (by decide +kernel) (by decide +kernel)
theorem kw_52 : Cond.selects RX10 yX10_mayBe yX10_mayBe ∈ ts_TB := ts_mem 52 (by decide +kernel) (by decide +kernel)
theorem kw_53 : Cond.selects RX10 yX10_done yX10_done ∈ ts_TB := ts_mem 53 (by decide +kernel) (by decide +kernel)
theorem kw_54 : Cond.selects RX10 yX10_putsNext yX10_putsNext ∈ ts_TB := ts_mem 54 (by decide +kernel) (by decide +kernel)
theorem kw_55 : Cond.selects RX10 yX10_doneBy yX10_doneBy ∈ ts_TB := ts_mem 55 (by decide +kernel) (by decide +kernel)
theorem kw_56 : Cond.selects RX10 yX10_isSo yX10_isSo ∈ ts_TB := ts_mem 56 (by decide +kernel) (by decide +kernel)
theorem kw_57 : Cond.selects RX10 yX10_turns yX10_turns ∈ ts_TB := ts_mem 57 (by decide +kernel) (by decide +kernel)
theorem kw_58 : Cond.initialized RL ∈ ts_TB := ts_mem 58 (by decide +kernel) (by decide +kernel)
theorem kw_59 : Cond.initialized RX9 ∈ ts_TB := ts_mem 59 (by decide +kernel) (by decide +kernel)
theorem kw_60 : Cond.initialized RX6 ∈ ts_TB := ts_mem 60 (by decide +kernel) (by decide +kernel)
theorem kw_61 : Cond.initialized RX8 ∈ ts_TB := ts_mem 61 (by decide +kernel) (by decide +kernel)
theorem kw_62 : Cond.initialized RX2 ∈ ts_TB := ts_mem 62 (by decide +kernel) (by decide +kernel)
theorem kw_63 : Cond.initialized RX1 ∈ ts_TB := ts_mem 63 (by decide +kernel) (by decide +kernel)
theorem kw_64 : Cond.initialized RJ9 ∈ ts_TB := ts_mem 64 (by decide +kernel) (by decide +kernel)
theorem kw_65 : Cond.initialized RX4 ∈ ts_TB := ts_mem 65 (by decide +kernel) (by decide +kernel)
theorem kw_66 : Cond.initialized RX3 ∈ ts_TB := ts_mem 66 (by decide +kernel) (by decide +kernel)
theorem kw_67 : Cond.initialized RX7 ∈ ts_TB := ts_mem 67 (by decide +kernel) (by decide +kernel)
theorem kw_68 : Cond.initialized RX5 ∈ ts_TB := ts_mem 68 (by decide +kernel) (by decide +kernel)
theorem kw_69 : Cond.initialized RX0 ∈ ts_TB := ts_mem 69 (by decide +kernel) (by decide +kernel)
theorem kw_70 : Cond.initialized RJ0 ∈ ts_TB := ts_mem 70 (by decide +kernel) (by decide +kernel)
theorem kw_71 : Cond.initialized RJ1 ∈ ts_TB := ts_mem 71 (by decide +kernel) (by decide +kernel)
theorem kw_72 : Cond.initialized RJ3 ∈ ts_TB := ts_mem 72 (by decide +kernel) (by decide +kernel)
theorem kw_73 : Cond.initialized RJ2 ∈ ts_TB := ts_mem 73 (by decide +kernel) (by decide +kernel)
theorem kw_74 : Cond.initialized RJ10 ∈ ts_TB := ts_mem 74 (by decide +kernel) (by decide +kernel)
theorem kw_75 : Cond.initialized RX10 ∈ ts_TB := ts_mem 75 (by decide +kernel) (by decide +kernel)
theorem kw_76 : Cond.initialized RJ6 ∈ ts_TB := ts_mem 76 (by decide +kernel) (by decide +kernel)
theorem kw_77 : Cond.classLink RL 7 RX9 ∈ ts_TB := ts_mem 77 (by decide +kernel) (by decide +kernel)
theorem kw_78 : Cond.instantiable RX9 12 ∈ ts_TB := ts_mem 78 (by decide +kernel) (by decide +kernel)
theorem kw_79 : Cond.methodLink RL 9 yX9_init ∈ ts_TB := ts_mem 79 (by decide +kernel) (by decide +kernel)
theorem kw_80 : Cond.instanceMethod yX9_init ∈ ts_TB := ts_mem 80 (by decide +kernel) (by decide +kernel)
theorem kw_81 : Cond.code yX9_init cX9_init 3 (Option.none : Option ClassFile.FieldType) ∈ ts_TB := ts_mem 81 (by decide +kernel) (by decide +kernel)
theorem kw_82 : Cond.methodLink RX9 1 objectInit ∈ ts_TB := ts_mem 82 (by decide +kernel) (by decide +kernel)
theorem kw_83 : Cond.instanceMethod objectInit ∈ ts_TB := ts_mem 83 (by decide +kernel) (by decide +kernel)
theorem kw_84 : Cond.code objectInit ⟨#[0xb1]⟩ 1 (Option.none : Option ClassFile.FieldType) ∈ ts_TB := ts_mem 84 (by decide +kernel) (by decide +kernel)
theorem kw_85 : Cond.classLink RX9 7 RX6 ∈ ts_TB := ts_mem 85 (by decide +kernel) (by decide +kernel)
theorem kw_86 : Cond.instantiable RX6 4 ∈ ts_TB := ts_mem 86 (by decide +kernel) (by decide +kernel)
theorem kw_88 : Cond.instanceMethod yX6_init ∈ ts_TB := ts_mem 88 (by decide +kernel) (by decide +kernel)
theorem kw_89 : Cond.code yX6_init cX6_init 1 (Option.none : Option ClassFile.FieldType) ∈ ts_TB := ts_mem 89 (by decide +kernel) (by decide +kernel)
theorem kw_90 : Cond.methodLink RX6 3 objectInit ∈ ts_TB := ts_mem 90 (by decide +kernel) (by decide +kernel)
theorem kw_91 : Cond.fieldLink RX6 9 "TowerService$Text" "letters" "[C" ∈ ts_TB := ts_mem 91 (by decide +kernel) (by decide +kernel)
theorem kw_92 : Cond.fieldLink RX6 19 "TowerService$Text" "length" "I" ∈ ts_TB := ts_mem 92 (by decide +kernel) (by decide +kernel)
theorem kw_93 : Cond.fieldLink RX9 116 "TowerService$Text" "length" "I" ∈ ts_TB := ts_mem 93 (by decide +kernel) (by decide +kernel)
theorem kw_94 : Cond.fieldLink RX6 37 "TowerService$Text" "at" "I" ∈ ts_TB := ts_mem 94 (by decide +kernel) (by decide +kernel)
theorem kw_95 : Cond.fieldLink RX6 15 "TowerService$Text" "numbers" "[I" ∈ ts_TB := ts_mem 95 (by decide +kernel) (by decide +kernel)
theorem kw_96 : Cond.laysFinal RX6 "TowerService$Text" "letters" "[C" ∈ ts_TB := ts_mem 96 (by decide +kernel) (by decide +kernel)
theorem kw_98 : Cond.lays RX6 "TowerService$Text" "length" "I" ∈ ts_TB := ts_mem 98 (by decide +kernel) (by decide +kernel)
theorem kw_100 : Cond.lays RX6 "TowerService$Text" "at" "I" ∈ ts_TB := ts_mem 100 (by decide +kernel) (by decide +kernel)
theorem kw_102 : Cond.laysFinal RX6 "TowerService$Text" "numbers" "[I" ∈ ts_TB := ts_mem 102 (by decide +kernel) (by decide +kernel)
theorem kw_105 : Cond.arrayClass FieldType.char ∈ ts_TB := ts_mem 105 (by decide +kernel) (by decide +kernel)
theorem kw_106 : Cond.arrayClass FieldType.int ∈ ts_TB := ts_mem 106 (by decide +kernel) (by decide +kernel)
theorem kw_107 : Cond.classLink RX9 16 RX8 ∈ ts_TB := ts_mem 107 (by decide +kernel) (by decide +kernel)
theorem kw_108 : Cond.instantiable RX8 7 ∈ ts_TB := ts_mem 108 (by decide +kernel) (by decide +kernel)
theorem kw_109 : Cond.classLink RX9 18 RX2 ∈ ts_TB := ts_mem 109 (by decide +kernel) (by decide +kernel)
theorem kw_110 : Cond.instantiable RX2 6 ∈ ts_TB := ts_mem 110 (by decide +kernel) (by decide +kernel)
theorem kw_112 : Cond.instanceMethod yX2_init ∈ ts_TB := ts_mem 112 (by decide +kernel) (by decide +kernel)
theorem kw_113 : Cond.code yX2_init cX2_init 1 (Option.none : Option ClassFile.FieldType) ∈ ts_TB := ts_mem 113 (by decide +kernel) (by decide +kernel)
theorem kw_114 : Cond.methodLink RX2 3 objectInit ∈ ts_TB := ts_mem 114 (by decide +kernel) (by decide +kernel)
theorem kw_115 : Cond.fieldLink RX2 9 "TowerService$Plan" "steps" "I" ∈ ts_TB := ts_mem 115 (by decide +kernel) (by decide +kernel)
theorem kw_116 : Cond.fieldLink RX3 78 "TowerService$Plan" "steps" "I" ∈ ts_TB := ts_mem 116 (by decide +kernel) (by decide +kernel)
theorem kw_117 : Cond.fieldLink RX8 58 "TowerService$Plan" "steps" "I" ∈ ts_TB := ts_mem 117 (by decide +kernel) (by decide +kernel)
theorem kw_118 : Cond.fieldLink RX6 66 "TowerService$Plan" "steps" "I" ∈ ts_TB := ts_mem 118 (by decide +kernel) (by decide +kernel)
theorem kw_119 : Cond.fieldLink RX9 297 "TowerService$Plan" "steps" "I" ∈ ts_TB := ts_mem 119 (by decide +kernel) (by decide +kernel)
theorem kw_120 : Cond.fieldLink RX2 25 "TowerService$Plan" "persons" "I" ∈ ts_TB := ts_mem 120 (by decide +kernel) (by decide +kernel)
theorem kw_121 : Cond.fieldLink RX3 42 "TowerService$Plan" "persons" "I" ∈ ts_TB := ts_mem 121 (by decide +kernel) (by decide +kernel)
theorem kw_122 : Cond.fieldLink RX5 27 "TowerService$Plan" "persons" "I" ∈ ts_TB := ts_mem 122 (by decide +kernel) (by decide +kernel)
theorem kw_123 : Cond.fieldLink RX0 32 "TowerService$Plan" "persons" "I" ∈ ts_TB := ts_mem 123 (by decide +kernel) (by decide +kernel)
theorem kw_124 : Cond.fieldLink RX7 64 "TowerService$Plan" "persons" "I" ∈ ts_TB := ts_mem 124 (by decide +kernel) (by decide +kernel)
theorem kw_125 : Cond.fieldLink RX8 51 "TowerService$Plan" "persons" "I" ∈ ts_TB := ts_mem 125 (by decide +kernel) (by decide +kernel)
theorem kw_126 : Cond.fieldLink RX9 123 "TowerService$Plan" "persons" "I" ∈ ts_TB := ts_mem 126 (by decide +kernel) (by decide +kernel)
theorem kw_127 : Cond.fieldLink RX6 73 "TowerService$Plan" "persons" "I" ∈ ts_TB := ts_mem 127 (by decide +kernel) (by decide +kernel)
theorem kw_128 : Cond.fieldLink RX2 28 "TowerService$Plan" "works" "I" ∈ ts_TB := ts_mem 128 (by decide +kernel) (by decide +kernel)
theorem kw_129 : Cond.fieldLink RX3 54 "TowerService$Plan" "works" "I" ∈ ts_TB := ts_mem 129 (by decide +kernel) (by decide +kernel)
theorem kw_130 : Cond.fieldLink RX7 69 "TowerService$Plan" "works" "I" ∈ ts_TB := ts_mem 130 (by decide +kernel) (by decide +kernel)
theorem kw_131 : Cond.fieldLink RX9 164 "TowerService$Plan" "works" "I" ∈ ts_TB := ts_mem 131 (by decide +kernel) (by decide +kernel)
theorem kw_132 : Cond.fieldLink RX6 95 "TowerService$Plan" "works" "I" ∈ ts_TB := ts_mem 132 (by decide +kernel) (by decide +kernel)
theorem kw_133 : Cond.fieldLink RX8 82 "TowerService$Plan" "works" "I" ∈ ts_TB := ts_mem 133 (by decide +kernel) (by decide +kernel)
theorem kw_134 : Cond.fieldLink RX2 15 "TowerService$Plan" "kind" "[I" ∈ ts_TB := ts_mem 134 (by decide +kernel) (by decide +kernel)
theorem kw_135 : Cond.fieldLink RX8 42 "TowerService$Plan" "kind" "[I" ∈ ts_TB := ts_mem 135 (by decide +kernel) (by decide +kernel)
theorem kw_136 : Cond.fieldLink RX3 85 "TowerService$Plan" "kind" "[I" ∈ ts_TB := ts_mem 136 (by decide +kernel) (by decide +kernel)
theorem kw_137 : Cond.fieldLink RX9 130 "TowerService$Plan" "kind" "[I" ∈ ts_TB := ts_mem 137 (by decide +kernel) (by decide +kernel)
theorem kw_138 : Cond.fieldLink RX6 76 "TowerService$Plan" "kind" "[I" ∈ ts_TB := ts_mem 138 (by decide +kernel) (by decide +kernel)
theorem kw_139 : Cond.fieldLink RX2 19 "TowerService$Plan" "workStep" "[I" ∈ ts_TB := ts_mem 139 (by decide +kernel) (by decide +kernel)
theorem kw_140 : Cond.fieldLink RX3 75 "TowerService$Plan" "workStep" "[I" ∈ ts_TB := ts_mem 140 (by decide +kernel) (by decide +kernel)
theorem kw_141 : Cond.fieldLink RX9 167 "TowerService$Plan" "workStep" "[I" ∈ ts_TB := ts_mem 141 (by decide +kernel) (by decide +kernel)
theorem kw_142 : Cond.fieldLink RX8 72 "TowerService$Plan" "workStep" "[I" ∈ ts_TB := ts_mem 142 (by decide +kernel) (by decide +kernel)
theorem kw_143 : Cond.fieldLink RX6 98 "TowerService$Plan" "workStep" "[I" ∈ ts_TB := ts_mem 143 (by decide +kernel) (by decide +kernel)
theorem kw_144 : Cond.fieldLink RX2 22 "TowerService$Plan" "workNeed" "[I" ∈ ts_TB := ts_mem 144 (by decide +kernel) (by decide +kernel)
theorem kw_145 : Cond.fieldLink RX3 102 "TowerService$Plan" "workNeed" "[I" ∈ ts_TB := ts_mem 145 (by decide +kernel) (by decide +kernel)
theorem kw_146 : Cond.fieldLink RX9 170 "TowerService$Plan" "workNeed" "[I" ∈ ts_TB := ts_mem 146 (by decide +kernel) (by decide +kernel)
theorem kw_147 : Cond.fieldLink RX8 75 "TowerService$Plan" "workNeed" "[I" ∈ ts_TB := ts_mem 147 (by decide +kernel) (by decide +kernel)
theorem kw_148 : Cond.fieldLink RX6 101 "TowerService$Plan" "workNeed" "[I" ∈ ts_TB := ts_mem 148 (by decide +kernel) (by decide +kernel)
theorem kw_149 : Cond.lays RX2 "TowerService$Plan" "steps" "I" ∈ ts_TB := ts_mem 149 (by decide +kernel) (by decide +kernel)
theorem kw_151 : Cond.lays RX2 "TowerService$Plan" "persons" "I" ∈ ts_TB := ts_mem 151 (by decide +kernel) (by decide +kernel)
theorem kw_153 : Cond.lays RX2 "TowerService$Plan" "works" "I" ∈ ts_TB := ts_mem 153 (by decide +kernel) (by decide +kernel)
theorem kw_155 : Cond.laysFinal RX2 "TowerService$Plan" "kind" "[I" ∈ ts_TB := ts_mem 155 (by decide +kernel) (by decide +kernel)
theorem kw_157 : Cond.laysFinal RX2 "TowerService$Plan" "workStep" "[I" ∈ ts_TB := ts_mem 157 (by decide +kernel) (by decide +kernel)
theorem kw_159 : Cond.laysFinal RX2 "TowerService$Plan" "workNeed" "[I" ∈ ts_TB := ts_mem 159 (by decide +kernel) (by decide +kernel)
theorem kw_162 : Cond.methodLink RX9 21 yX8_init ∈ ts_TB := ts_mem 162 (by decide +kernel) (by decide +kernel)
theorem kw_163 : Cond.instanceMethod yX8_init ∈ ts_TB := ts_mem 163 (by decide +kernel) (by decide +kernel)
theorem kw_164 : Cond.code yX8_init cX8_init 2 (Option.none : Option ClassFile.FieldType) ∈ ts_TB := ts_mem 164 (by decide +kernel) (by decide +kernel)
theorem kw_165 : Cond.methodLink RX8 3 objectInit ∈ ts_TB := ts_mem 165 (by decide +kernel) (by decide +kernel)
theorem kw_166 : Cond.fieldLink RX8 28 "TowerService$Tower" "plan" "LTowerService$Plan;" ∈ ts_TB := ts_mem 166 (by decide +kernel) (by decide +kernel)
theorem kw_167 : Cond.fieldLink RX3 38 "TowerService$Tower" "plan" "LTowerService$Plan;" ∈ ts_TB := ts_mem 167 (by decide +kernel) (by decide +kernel)
theorem kw_168 : Cond.fieldLink RX5 23 "TowerService$Tower" "plan" "LTowerService$Plan;" ∈ ts_TB := ts_mem 168 (by decide +kernel) (by decide +kernel)
theorem kw_169 : Cond.fieldLink RX0 26 "TowerService$Tower" "plan" "LTowerService$Plan;" ∈ ts_TB := ts_mem 169 (by decide +kernel) (by decide +kernel)
theorem kw_170 : Cond.fieldLink RX7 60 "TowerService$Tower" "plan" "LTowerService$Plan;" ∈ ts_TB := ts_mem 170 (by decide +kernel) (by decide +kernel)
theorem kw_171 : Cond.fieldLink RX6 23 "TowerService$Tower" "plan" "LTowerService$Plan;" ∈ ts_TB := ts_mem 171 (by decide +kernel) (by decide +kernel)
theorem kw_172 : Cond.fieldLink RX9 119 "TowerService$Tower" "plan" "LTowerService$Plan;" ∈ ts_TB := ts_mem 172 (by decide +kernel) (by decide +kernel)
theorem kw_173 : Cond.fieldLink RX8 9 "TowerService$Tower" "step" "[I" ∈ ts_TB := ts_mem 173 (by decide +kernel) (by decide +kernel)
theorem kw_174 : Cond.fieldLink RX0 36 "TowerService$Tower" "step" "[I" ∈ ts_TB := ts_mem 174 (by decide +kernel) (by decide +kernel)
theorem kw_175 : Cond.fieldLink RX5 36 "TowerService$Tower" "step" "[I" ∈ ts_TB := ts_mem 175 (by decide +kernel) (by decide +kernel)
theorem kw_176 : Cond.fieldLink RX3 72 "TowerService$Tower" "step" "[I" ∈ ts_TB := ts_mem 176 (by decide +kernel) (by decide +kernel)
theorem kw_177 : Cond.fieldLink RX9 134 "TowerService$Tower" "step" "[I" ∈ ts_TB := ts_mem 177 (by decide +kernel) (by decide +kernel)
theorem kw_178 : Cond.fieldLink RX6 79 "TowerService$Tower" "step" "[I" ∈ ts_TB := ts_mem 178 (by decide +kernel) (by decide +kernel)
theorem kw_179 : Cond.fieldLink RX8 15 "TowerService$Tower" "age" "[I" ∈ ts_TB := ts_mem 179 (by decide +kernel) (by decide +kernel)
theorem kw_180 : Cond.fieldLink RX3 88 "TowerService$Tower" "age" "[I" ∈ ts_TB := ts_mem 180 (by decide +kernel) (by decide +kernel)
theorem kw_181 : Cond.fieldLink RX9 137 "TowerService$Tower" "age" "[I" ∈ ts_TB := ts_mem 181 (by decide +kernel) (by decide +kernel)
theorem kw_182 : Cond.fieldLink RX6 82 "TowerService$Tower" "age" "[I" ∈ ts_TB := ts_mem 182 (by decide +kernel) (by decide +kernel)
theorem kw_183 : Cond.fieldLink RX8 18 "TowerService$Tower" "nerve" "[I" ∈ ts_TB := ts_mem 183 (by decide +kernel) (by decide +kernel)
theorem kw_184 : Cond.fieldLink RX3 95 "TowerService$Tower" "nerve" "[I" ∈ ts_TB := ts_mem 184 (by decide +kernel) (by decide +kernel)
theorem kw_185 : Cond.fieldLink RX9 140 "TowerService$Tower" "nerve" "[I" ∈ ts_TB := ts_mem 185 (by decide +kernel) (by decide +kernel)
theorem kw_186 : Cond.fieldLink RX6 85 "TowerService$Tower" "nerve" "[I" ∈ ts_TB := ts_mem 186 (by decide +kernel) (by decide +kernel)
theorem kw_187 : Cond.fieldLink RX8 21 "TowerService$Tower" "gone" "[Z" ∈ ts_TB := ts_mem 187 (by decide +kernel) (by decide +kernel)
theorem kw_188 : Cond.fieldLink RX5 32 "TowerService$Tower" "gone" "[Z" ∈ ts_TB := ts_mem 188 (by decide +kernel) (by decide +kernel)
theorem kw_189 : Cond.fieldLink RX3 64 "TowerService$Tower" "gone" "[Z" ∈ ts_TB := ts_mem 189 (by decide +kernel) (by decide +kernel)
theorem kw_190 : Cond.fieldLink RX9 154 "TowerService$Tower" "gone" "[Z" ∈ ts_TB := ts_mem 190 (by decide +kernel) (by decide +kernel)
theorem kw_191 : Cond.fieldLink RX6 88 "TowerService$Tower" "gone" "[Z" ∈ ts_TB := ts_mem 191 (by decide +kernel) (by decide +kernel)
theorem kw_192 : Cond.fieldLink RX8 25 "TowerService$Tower" "called" "[Z" ∈ ts_TB := ts_mem 192 (by decide +kernel) (by decide +kernel)
theorem kw_193 : Cond.fieldLink RX6 92 "TowerService$Tower" "called" "[Z" ∈ ts_TB := ts_mem 193 (by decide +kernel) (by decide +kernel)
theorem kw_194 : Cond.fieldLink RX8 38 "TowerService$Tower" "year" "I" ∈ ts_TB := ts_mem 194 (by decide +kernel) (by decide +kernel)
theorem kw_195 : Cond.fieldLink RX6 34 "TowerService$Tower" "year" "I" ∈ ts_TB := ts_mem 195 (by decide +kernel) (by decide +kernel)
theorem kw_196 : Cond.fieldLink RX9 180 "TowerService$Tower" "year" "I" ∈ ts_TB := ts_mem 196 (by decide +kernel) (by decide +kernel)
theorem kw_197 : Cond.laysFinal RX8 "TowerService$Tower" "plan" "LTowerService$Plan;" ∈ ts_TB := ts_mem 197 (by decide +kernel) (by decide +kernel)
theorem kw_199 : Cond.laysFinal RX8 "TowerService$Tower" "step" "[I" ∈ ts_TB := ts_mem 199 (by decide +kernel) (by decide +kernel)
theorem kw_201 : Cond.laysFinal RX8 "TowerService$Tower" "age" "[I" ∈ ts_TB := ts_mem 201 (by decide +kernel) (by decide +kernel)
theorem kw_203 : Cond.laysFinal RX8 "TowerService$Tower" "nerve" "[I" ∈ ts_TB := ts_mem 203 (by decide +kernel) (by decide +kernel)
theorem kw_205 : Cond.laysFinal RX8 "TowerService$Tower" "gone" "[Z" ∈ ts_TB := ts_mem 205 (by decide +kernel) (by decide +kernel)
theorem kw_207 : Cond.laysFinal RX8 "TowerService$Tower" "called" "[Z" ∈ ts_TB := ts_mem 207 (by decide +kernel) (by decide +kernel)
theorem kw_209 : Cond.lays RX8 "TowerService$Tower" "year" "I" ∈ ts_TB := ts_mem 209 (by decide +kernel) (by decide +kernel)
theorem kw_212 : Cond.arrayClass FieldType.boolean ∈ ts_TB := ts_mem 212 (by decide +kernel) (by decide +kernel)
theorem kw_213 : Cond.classLink RX9 34 RX1 ∈ ts_TB := ts_mem 213 (by decide +kernel) (by decide +kernel)
theorem kw_214 : Cond.instantiable RX1 3 ∈ ts_TB := ts_mem 214 (by decide +kernel) (by decide +kernel)
theorem kw_215 : Cond.methodLink RX9 36 yX1_init ∈ ts_TB := ts_mem 215 (by decide +kernel) (by decide +kernel)
theorem kw_216 : Cond.instanceMethod yX1_init ∈ ts_TB := ts_mem 216 (by decide +kernel) (by decide +kernel)
theorem kw_217 : Cond.code yX1_init cX1_init 2 (Option.none : Option ClassFile.FieldType) ∈ ts_TB := ts_mem 217 (by decide +kernel) (by decide +kernel)
theorem kw_218 : Cond.methodLink RX1 3 objectInit ∈ ts_TB := ts_mem 218 (by decide +kernel) (by decide +kernel)
theorem kw_220 : Cond.static yX9_towersOf ∈ ts_TB := ts_mem 220 (by decide +kernel) (by decide +kernel)
theorem kw_221 : Cond.code yX9_towersOf cX9_towersOf 4 (Option.some (FieldType.array (FieldType.object "TowerService$Tower"))) ∈ ts_TB := ts_mem 221 (by decide +kernel) (by decide +kernel)
theorem kw_222 : Cond.methodLink RX9 314 Lib.Math.max.name ∈ ts_TB := ts_mem 222 (by decide +kernel) (by decide +kernel)
theorem kw_223 : Cond.static Lib.Math.max.name ∈ ts_TB := ts_mem 223 (by decide +kernel) (by decide +kernel)
theorem kw_224 : Cond.code Lib.Math.max.name Lib.Math.max.code 2 (Option.some FieldType.int) ∈ ts_TB := ts_mem 224 (by decide +kernel) (by decide +kernel)
theorem kw_226 : Cond.fieldLink RX1 13 "TowerService$Past" "rows" "[LTowerService$Tower;" ∈ ts_TB := ts_mem 226 (by decide +kernel) (by decide +kernel)
theorem kw_227 : Cond.fieldLink RX1 19 "TowerService$Past" "oldest" "I" ∈ ts_TB := ts_mem 227 (by decide +kernel) (by decide +kernel)
theorem kw_228 : Cond.fieldLink RX1 23 "TowerService$Past" "many" "I" ∈ ts_TB := ts_mem 228 (by decide +kernel) (by decide +kernel)
theorem kw_229 : Cond.fieldLink RX9 204 "TowerService$Past" "many" "I" ∈ ts_TB := ts_mem 229 (by decide +kernel) (by decide +kernel)
theorem kw_230 : Cond.laysFinal RX1 "TowerService$Past" "rows" "[LTowerService$Tower;" ∈ ts_TB := ts_mem 230 (by decide +kernel) (by decide +kernel)
theorem kw_232 : Cond.lays RX1 "TowerService$Past" "oldest" "I" ∈ ts_TB := ts_mem 232 (by decide +kernel) (by decide +kernel)
theorem kw_234 : Cond.lays RX1 "TowerService$Past" "many" "I" ∈ ts_TB := ts_mem 234 (by decide +kernel) (by decide +kernel)
theorem kw_237 : Cond.methodLink RX9 41 yX9_towersOf ∈ ts_TB := ts_mem 237 (by decide +kernel) (by decide +kernel)
theorem kw_238 : Cond.classLink RX9 49 RX4 ∈ ts_TB := ts_mem 238 (by decide +kernel) (by decide +kernel)
theorem kw_239 : Cond.instantiable RX4 4 ∈ ts_TB := ts_mem 239 (by decide +kernel) (by decide +kernel)
theorem kw_241 : Cond.instanceMethod yX4_init ∈ ts_TB := ts_mem 241 (by decide +kernel) (by decide +kernel)
theorem kw_242 : Cond.code yX4_init cX4_init 1 (Option.none : Option ClassFile.FieldType) ∈ ts_TB := ts_mem 242 (by decide +kernel) (by decide +kernel)
theorem kw_243 : Cond.methodLink RX4 3 objectInit ∈ ts_TB := ts_mem 243 (by decide +kernel) (by decide +kernel)
theorem kw_244 : Cond.fieldLink RX4 9 "TowerService$Sights" "who" "[I" ∈ ts_TB := ts_mem 244 (by decide +kernel) (by decide +kernel)
theorem kw_245 : Cond.fieldLink RX4 15 "TowerService$Sights" "where" "[I" ∈ ts_TB := ts_mem 245 (by decide +kernel) (by decide +kernel)
theorem kw_246 : Cond.fieldLink RX4 18 "TowerService$Sights" "frozen" "[Z" ∈ ts_TB := ts_mem 246 (by decide +kernel) (by decide +kernel)
theorem kw_247 : Cond.fieldLink RX4 22 "TowerService$Sights" "many" "I" ∈ ts_TB := ts_mem 247 (by decide +kernel) (by decide +kernel)
theorem kw_248 : Cond.fieldLink RX9 247 "TowerService$Sights" "many" "I" ∈ ts_TB := ts_mem 248 (by decide +kernel) (by decide +kernel)
theorem kw_249 : Cond.laysFinal RX4 "TowerService$Sights" "who" "[I" ∈ ts_TB := ts_mem 249 (by decide +kernel) (by decide +kernel)
theorem kw_251 : Cond.laysFinal RX4 "TowerService$Sights" "where" "[I" ∈ ts_TB := ts_mem 251 (by decide +kernel) (by decide +kernel)
theorem kw_253 : Cond.laysFinal RX4 "TowerService$Sights" "frozen" "[Z" ∈ ts_TB := ts_mem 253 (by decide +kernel) (by decide +kernel)
theorem kw_255 : Cond.lays RX4 "TowerService$Sights" "many" "I" ∈ ts_TB := ts_mem 255 (by decide +kernel) (by decide +kernel)
theorem kw_258 : Cond.classLink RX9 56 RX3 ∈ ts_TB := ts_mem 258 (by decide +kernel) (by decide +kernel)
theorem kw_259 : Cond.instantiable RX3 7 ∈ ts_TB := ts_mem 259 (by decide +kernel) (by decide +kernel)
theorem kw_260 : Cond.methodLink RX9 58 yX3_init ∈ ts_TB := ts_mem 260 (by decide +kernel) (by decide +kernel)
theorem kw_261 : Cond.instanceMethod yX3_init ∈ ts_TB := ts_mem 261 (by decide +kernel) (by decide +kernel)
theorem kw_262 : Cond.code yX3_init cX3_init 2 (Option.none : Option ClassFile.FieldType) ∈ ts_TB := ts_mem 262 (by decide +kernel) (by decide +kernel)
theorem kw_263 : Cond.methodLink RX3 3 objectInit ∈ ts_TB := ts_mem 263 (by decide +kernel) (by decide +kernel)
theorem kw_264 : Cond.fieldLink RX3 24 "TowerService$Posting" "trial" "LTowerService$Tower;" ∈ ts_TB := ts_mem 264 (by decide +kernel) (by decide +kernel)
theorem kw_265 : Cond.fieldLink RX3 9 "TowerService$Posting" "places" "[I" ∈ ts_TB := ts_mem 265 (by decide +kernel) (by decide +kernel)
theorem kw_266 : Cond.fieldLink RX3 15 "TowerService$Posting" "easier" "[I" ∈ ts_TB := ts_mem 266 (by decide +kernel) (by decide +kernel)
theorem kw_267 : Cond.fieldLink RX3 18 "TowerService$Posting" "crowd" "[I" ∈ ts_TB := ts_mem 267 (by decide +kernel) (by decide +kernel)
theorem kw_268 : Cond.fieldLink RX3 51 "TowerService$Posting" "waiting" "I" ∈ ts_TB := ts_mem 268 (by decide +kernel) (by decide +kernel)
theorem kw_269 : Cond.fieldLink RX3 21 "TowerService$Posting" "best" "[I" ∈ ts_TB := ts_mem 269 (by decide +kernel) (by decide +kernel)
theorem kw_270 : Cond.fieldLink RX9 222 "TowerService$Posting" "best" "[I" ∈ ts_TB := ts_mem 270 (by decide +kernel) (by decide +kernel)
theorem kw_271 : Cond.fieldLink RX3 34 "TowerService$Posting" "most" "I" ∈ ts_TB := ts_mem 271 (by decide +kernel) (by decide +kernel)
theorem kw_272 : Cond.fieldLink RX9 219 "TowerService$Posting" "most" "I" ∈ ts_TB := ts_mem 272 (by decide +kernel) (by decide +kernel)
theorem kw_273 : Cond.laysFinal RX3 "TowerService$Posting" "trial" "LTowerService$Tower;" ∈ ts_TB := ts_mem 273 (by decide +kernel) (by decide +kernel)
theorem kw_275 : Cond.laysFinal RX3 "TowerService$Posting" "places" "[I" ∈ ts_TB := ts_mem 275 (by decide +kernel) (by decide +kernel)
theorem kw_277 : Cond.laysFinal RX3 "TowerService$Posting" "easier" "[I" ∈ ts_TB := ts_mem 277 (by decide +kernel) (by decide +kernel)
theorem kw_279 : Cond.laysFinal RX3 "TowerService$Posting" "crowd" "[I" ∈ ts_TB := ts_mem 279 (by decide +kernel) (by decide +kernel)
theorem kw_281 : Cond.lays RX3 "TowerService$Posting" "waiting" "I" ∈ ts_TB := ts_mem 281 (by decide +kernel) (by decide +kernel)
theorem kw_283 : Cond.laysFinal RX3 "TowerService$Posting" "best" "[I" ∈ ts_TB := ts_mem 283 (by decide +kernel) (by decide +kernel)
theorem kw_285 : Cond.lays RX3 "TowerService$Posting" "most" "I" ∈ ts_TB := ts_mem 285 (by decide +kernel) (by decide +kernel)
theorem kw_288 : Cond.classLink RX9 65 RX7 ∈ ts_TB := ts_mem 288 (by decide +kernel) (by decide +kernel)
theorem kw_289 : Cond.instantiable RX7 5 ∈ ts_TB := ts_mem 289 (by decide +kernel) (by decide +kernel)
theorem kw_290 : Cond.methodLink RX9 67 yX7_init ∈ ts_TB := ts_mem 290 (by decide +kernel) (by decide +kernel)
theorem kw_291 : Cond.instanceMethod yX7_init ∈ ts_TB := ts_mem 291 (by decide +kernel) (by decide +kernel)
theorem kw_292 : Cond.code yX7_init cX7_init 2 (Option.none : Option ClassFile.FieldType) ∈ ts_TB := ts_mem 292 (by decide +kernel) (by decide +kernel)
theorem kw_293 : Cond.methodLink RX7 3 objectInit ∈ ts_TB := ts_mem 293 (by decide +kernel) (by decide +kernel)
theorem kw_295 : Cond.fieldLink RX7 22 "TowerService$Timetable" "ahead" "[LTowerService$Tower;" ∈ ts_TB := ts_mem 295 (by decide +kernel) (by decide +kernel)
theorem kw_296 : Cond.fieldLink RX7 9 "TowerService$Timetable" "chosen" "[I" ∈ ts_TB := ts_mem 296 (by decide +kernel) (by decide +kernel)
theorem kw_297 : Cond.fieldLink RX7 32 "TowerService$Timetable" "years" "I" ∈ ts_TB := ts_mem 297 (by decide +kernel) (by decide +kernel)
theorem kw_298 : Cond.fieldLink RX7 15 "TowerService$Timetable" "best" "[I" ∈ ts_TB := ts_mem 298 (by decide +kernel) (by decide +kernel)
theorem kw_299 : Cond.fieldLink RX9 229 "TowerService$Timetable" "best" "[I" ∈ ts_TB := ts_mem 299 (by decide +kernel) (by decide +kernel)
theorem kw_300 : Cond.fieldLink RX7 36 "TowerService$Timetable" "most" "I" ∈ ts_TB := ts_mem 300 (by decide +kernel) (by decide +kernel)
theorem kw_301 : Cond.fieldLink RX9 228 "TowerService$Timetable" "most" "I" ∈ ts_TB := ts_mem 301 (by decide +kernel) (by decide +kernel)
theorem kw_302 : Cond.laysFinal RX7 "TowerService$Timetable" "ahead" "[LTowerService$Tower;" ∈ ts_TB := ts_mem 302 (by decide +kernel) (by decide +kernel)
theorem kw_304 : Cond.laysFinal RX7 "TowerService$Timetable" "chosen" "[I" ∈ ts_TB := ts_mem 304 (by decide +kernel) (by decide +kernel)
theorem kw_306 : Cond.lays RX7 "TowerService$Timetable" "years" "I" ∈ ts_TB := ts_mem 306 (by decide +kernel) (by decide +kernel)
theorem kw_308 : Cond.laysFinal RX7 "TowerService$Timetable" "best" "[I" ∈ ts_TB := ts_mem 308 (by decide +kernel) (by decide +kernel)
theorem kw_310 : Cond.lays RX7 "TowerService$Timetable" "most" "I" ∈ ts_TB := ts_mem 310 (by decide +kernel) (by decide +kernel)
theorem kw_313 : Cond.classLink RX9 72 RX5 ∈ ts_TB := ts_mem 313 (by decide +kernel) (by decide +kernel)
theorem kw_314 : Cond.instantiable RX5 3 ∈ ts_TB := ts_mem 314 (by decide +kernel) (by decide +kernel)
theorem kw_315 : Cond.methodLink RX9 74 yX5_init ∈ ts_TB := ts_mem 315 (by decide +kernel) (by decide +kernel)
theorem kw_316 : Cond.instanceMethod yX5_init ∈ ts_TB := ts_mem 316 (by decide +kernel) (by decide +kernel)
theorem kw_317 : Cond.code yX5_init cX5_init 2 (Option.none : Option ClassFile.FieldType) ∈ ts_TB := ts_mem 317 (by decide +kernel) (by decide +kernel)
theorem kw_318 : Cond.methodLink RX5 1 objectInit ∈ ts_TB := ts_mem 318 (by decide +kernel) (by decide +kernel)
theorem kw_319 : Cond.fieldLink RX5 7 "TowerService$Swap" "trial" "LTowerService$Tower;" ∈ ts_TB := ts_mem 319 (by decide +kernel) (by decide +kernel)
theorem kw_320 : Cond.fieldLink RX5 51 "TowerService$Swap" "pair" "I" ∈ ts_TB := ts_mem 320 (by decide +kernel) (by decide +kernel)
theorem kw_321 : Cond.fieldLink RX9 232 "TowerService$Swap" "pair" "I" ∈ ts_TB := ts_mem 321 (by decide +kernel) (by decide +kernel)
theorem kw_322 : Cond.fieldLink RX5 13 "TowerService$Swap" "most" "I" ∈ ts_TB := ts_mem 322 (by decide +kernel) (by decide +kernel)
theorem kw_323 : Cond.fieldLink RX9 231 "TowerService$Swap" "most" "I" ∈ ts_TB := ts_mem 323 (by decide +kernel) (by decide +kernel)
theorem kw_324 : Cond.laysFinal RX5 "TowerService$Swap" "trial" "LTowerService$Tower;" ∈ ts_TB := ts_mem 324 (by decide +kernel) (by decide +kernel)
theorem kw_326 : Cond.lays RX5 "TowerService$Swap" "pair" "I" ∈ ts_TB := ts_mem 326 (by decide +kernel) (by decide +kernel)
theorem kw_328 : Cond.lays RX5 "TowerService$Swap" "most" "I" ∈ ts_TB := ts_mem 328 (by decide +kernel) (by decide +kernel)
theorem kw_331 : Cond.classLink RX9 79 RX0 ∈ ts_TB := ts_mem 331 (by decide +kernel) (by decide +kernel)
theorem kw_332 : Cond.instantiable RX0 3 ∈ ts_TB := ts_mem 332 (by decide +kernel) (by decide +kernel)
theorem kw_334 : Cond.instanceMethod yX0_init ∈ ts_TB := ts_mem 334 (by decide +kernel) (by decide +kernel)
theorem kw_335 : Cond.code yX0_init cX0_init 1 (Option.none : Option ClassFile.FieldType) ∈ ts_TB := ts_mem 335 (by decide +kernel) (by decide +kernel)
theorem kw_336 : Cond.methodLink RX0 3 objectInit ∈ ts_TB := ts_mem 336 (by decide +kernel) (by decide +kernel)
theorem kw_337 : Cond.fieldLink RX0 9 "TowerService$Chain" "persons" "[I" ∈ ts_TB := ts_mem 337 (by decide +kernel) (by decide +kernel)
theorem kw_338 : Cond.fieldLink RX0 23 "TowerService$Chain" "fewest" "I" ∈ ts_TB := ts_mem 338 (by decide +kernel) (by decide +kernel)
theorem kw_339 : Cond.fieldLink RX9 241 "TowerService$Chain" "fewest" "I" ∈ ts_TB := ts_mem 339 (by decide +kernel) (by decide +kernel)
theorem kw_340 : Cond.fieldLink RX0 19 "TowerService$Chain" "first" "I" ∈ ts_TB := ts_mem 340 (by decide +kernel) (by decide +kernel)
theorem kw_341 : Cond.fieldLink RX9 238 "TowerService$Chain" "first" "I" ∈ ts_TB := ts_mem 341 (by decide +kernel) (by decide +kernel)
theorem kw_342 : Cond.laysFinal RX0 "TowerService$Chain" "persons" "[I" ∈ ts_TB := ts_mem 342 (by decide +kernel) (by decide +kernel)
theorem kw_344 : Cond.lays RX0 "TowerService$Chain" "fewest" "I" ∈ ts_TB := ts_mem 344 (by decide +kernel) (by decide +kernel)
theorem kw_346 : Cond.lays RX0 "TowerService$Chain" "first" "I" ∈ ts_TB := ts_mem 346 (by decide +kernel) (by decide +kernel)
theorem kw_350 : Cond.methodLink RX9 88 yJ0_length_8abf5 ∈ ts_TB := ts_mem 350 (by decide +kernel) (by decide +kernel)
theorem kw_351 : Cond.instanceMethod yJ0_length_8abf5 ∈ ts_TB := ts_mem 351 (by decide +kernel) (by decide +kernel)
theorem kw_352 : Cond.selects RJ0 yJ0_length_8abf5 yJ0_length_8abf5 ∈ ts_TB := ts_mem 352 (by decide +kernel) (by decide +kernel)
theorem kw_353 : Cond.code yJ0_length_8abf5 cJ0_length_8abf5 1 (Option.some FieldType.int) ∈ ts_TB := ts_mem 353 (by decide +kernel) (by decide +kernel)
theorem kw_354 : Cond.methodLink RJ0 335 yJ0_coder_7d493 ∈ ts_TB := ts_mem 354 (by decide +kernel) (by decide +kernel)
theorem kw_355 : Cond.instanceMethod yJ0_coder_7d493 ∈ ts_TB := ts_mem 355 (by decide +kernel) (by decide +kernel)
theorem kw_356 : Cond.selects RJ0 yJ0_coder_7d493 yJ0_coder_7d493 ∈ ts_TB := ts_mem 356 (by decide +kernel) (by decide +kernel)
theorem kw_357 : Cond.code yJ0_coder_7d493 cJ0_coder_7d493 1 (Option.some FieldType.byte) ∈ ts_TB := ts_mem 357 (by decide +kernel) (by decide +kernel)
theorem kw_358 : Cond.fieldLink RJ0 38 "java/lang/String" "COMPACT_STRINGS" "Z" ∈ ts_TB := ts_mem 358 (by decide +kernel) (by decide +kernel)
theorem kw_360 : Cond.methodLink RX9 94 yJ0_charAt_5068e ∈ ts_TB := ts_mem 360 (by decide +kernel) (by decide +kernel)
theorem kw_361 : Cond.instanceMethod yJ0_charAt_5068e ∈ ts_TB := ts_mem 361 (by decide +kernel) (by decide +kernel)
theorem kw_362 : Cond.selects RJ0 yJ0_charAt_5068e yJ0_charAt_5068e ∈ ts_TB := ts_mem 362 (by decide +kernel) (by decide +kernel)
theorem kw_363 : Cond.code yJ0_charAt_5068e cJ0_charAt_5068e 2 (Option.some FieldType.char) ∈ ts_TB := ts_mem 363 (by decide +kernel) (by decide +kernel)
theorem kw_364 : Cond.methodLink RJ0 492 yJ0_isLatin1_aae02 ∈ ts_TB := ts_mem 364 (by decide +kernel) (by decide +kernel)
theorem kw_365 : Cond.instanceMethod yJ0_isLatin1_aae02 ∈ ts_TB := ts_mem 365 (by decide +kernel) (by decide +kernel)
theorem kw_366 : Cond.selects RJ0 yJ0_isLatin1_aae02 yJ0_isLatin1_aae02 ∈ ts_TB := ts_mem 366 (by decide +kernel) (by decide +kernel)
theorem kw_367 : Cond.code yJ0_isLatin1_aae02 cJ0_isLatin1_aae02 1 (Option.some FieldType.boolean) ∈ ts_TB := ts_mem 367 (by decide +kernel) (by decide +kernel)
theorem kw_368 : Cond.methodLink RJ0 495 yJ1_charAt_3b067 ∈ ts_TB := ts_mem 368 (by decide +kernel) (by decide +kernel)
theorem kw_369 : Cond.static yJ1_charAt_3b067 ∈ ts_TB := ts_mem 369 (by decide +kernel) (by decide +kernel)
theorem kw_370 : Cond.code yJ1_charAt_3b067 cJ1_charAt_3b067 2 (Option.some FieldType.char) ∈ ts_TB := ts_mem 370 (by decide +kernel) (by decide +kernel)
theorem kw_371 : Cond.methodLink RJ1 9 yJ0_checkIndex_df160 ∈ ts_TB := ts_mem 371 (by decide +kernel) (by decide +kernel)
theorem kw_372 : Cond.static yJ0_checkIndex_df160 ∈ ts_TB := ts_mem 372 (by decide +kernel) (by decide +kernel)
theorem kw_373 : Cond.code yJ0_checkIndex_df160 cJ0_checkIndex_df160 2 (Option.none : Option ClassFile.FieldType) ∈ ts_TB := ts_mem 373 (by decide +kernel) (by decide +kernel)
theorem kw_374 : Cond.fieldLink RJ0 1053 "jdk/internal/util/Preconditions" "SIOOBE_FORMATTER" "Ljava/util/function/BiFunction;" ∈ ts_TB := ts_mem 374 (by decide +kernel) (by decide +kernel)
theorem kw_376 : Cond.methodLink RJ0 1059 yJ3_checkIndex_8e157 ∈ ts_TB := ts_mem 376 (by decide +kernel) (by decide +kernel)
theorem kw_377 : Cond.static yJ3_checkIndex_8e157 ∈ ts_TB := ts_mem 377 (by decide +kernel) (by decide +kernel)
theorem kw_378 : Cond.code yJ3_checkIndex_8e157 cJ3_checkIndex_8e157 3 (Option.some FieldType.int) ∈ ts_TB := ts_mem 378 (by decide +kernel) (by decide +kernel)
theorem kw_379 : Cond.methodLink RJ0 498 yJ2_charAt_3b067 ∈ ts_TB := ts_mem 379 (by decide +kernel) (by decide +kernel)
theorem kw_380 : Cond.static yJ2_charAt_3b067 ∈ ts_TB := ts_mem 380 (by decide +kernel) (by decide +kernel)
theorem kw_381 : Cond.code yJ2_charAt_3b067 cJ2_charAt_3b067 2 (Option.some FieldType.char) ∈ ts_TB := ts_mem 381 (by decide +kernel) (by decide +kernel)
theorem kw_382 : Cond.methodLink RJ2 67 yJ2_checkIndex_2214a ∈ ts_TB := ts_mem 382 (by decide +kernel) (by decide +kernel)
theorem kw_383 : Cond.static yJ2_checkIndex_2214a ∈ ts_TB := ts_mem 383 (by decide +kernel) (by decide +kernel)
theorem kw_384 : Cond.code yJ2_checkIndex_2214a cJ2_checkIndex_2214a 2 (Option.none : Option ClassFile.FieldType) ∈ ts_TB := ts_mem 384 (by decide +kernel) (by decide +kernel)
theorem kw_385 : Cond.methodLink RJ2 48 yJ2_length_9d52b ∈ ts_TB := ts_mem 385 (by decide +kernel) (by decide +kernel)
theorem kw_386 : Cond.static yJ2_length_9d52b ∈ ts_TB := ts_mem 386 (by decide +kernel) (by decide +kernel)
theorem kw_387 : Cond.code yJ2_length_9d52b cJ2_length_9d52b 1 (Option.some FieldType.int) ∈ ts_TB := ts_mem 387 (by decide +kernel) (by decide +kernel)
theorem kw_388 : Cond.methodLink RJ2 414 yJ0_checkIndex_df160 ∈ ts_TB := ts_mem 388 (by decide +kernel) (by decide +kernel)
theorem kw_389 : Cond.methodLink RJ2 71 yJ2_getChar_3b067 ∈ ts_TB := ts_mem 389 (by decide +kernel) (by decide +kernel)
theorem kw_390 : Cond.static yJ2_getChar_3b067 ∈ ts_TB := ts_mem 390 (by decide +kernel) (by decide +kernel)
theorem kw_391 : Cond.code yJ2_getChar_3b067 cJ2_getChar_3b067 2 (Option.some FieldType.char) ∈ ts_TB := ts_mem 391 (by decide +kernel) (by decide +kernel)
theorem kw_392 : Cond.fieldLink RJ2 44 "java/lang/StringUTF16" "$assertionsDisabled" "Z" ∈ ts_TB := ts_mem 392 (by decide +kernel) (by decide +kernel)
theorem kw_394 : Cond.fieldLink RJ2 59 "java/lang/StringUTF16" "HI_BYTE_SHIFT" "I" ∈ ts_TB := ts_mem 394 (by decide +kernel) (by decide +kernel)
theorem kw_396 : Cond.fieldLink RJ2 63 "java/lang/StringUTF16" "LO_BYTE_SHIFT" "I" ∈ ts_TB := ts_mem 396 (by decide +kernel) (by decide +kernel)
theorem kw_398 : Cond.methodLink RX9 98 yX6_add ∈ ts_TB := ts_mem 398 (by decide +kernel) (by decide +kernel)
theorem kw_399 : Cond.instanceMethod yX6_add ∈ ts_TB := ts_mem 399 (by decide +kernel) (by decide +kernel)
theorem kw_400 : Cond.selects RX6 yX6_add yX6_add ∈ ts_TB := ts_mem 400 (by decide +kernel) (by decide +kernel)
theorem kw_401 : Cond.code yX6_add cX6_add 2 (Option.some FieldType.boolean) ∈ ts_TB := ts_mem 401 (by decide +kernel) (by decide +kernel)
theorem kw_402 : Cond.methodLink RX9 102 yX6_readInto ∈ ts_TB := ts_mem 402 (by decide +kernel) (by decide +kernel)
theorem kw_403 : Cond.instanceMethod yX6_readInto ∈ ts_TB := ts_mem 403 (by decide +kernel) (by decide +kernel)
theorem kw_404 : Cond.selects RX6 yX6_readInto yX6_readInto ∈ ts_TB := ts_mem 404 (by decide +kernel) (by decide +kernel)
theorem kw_405 : Cond.code yX6_readInto cX6_readInto 4 (Option.some FieldType.int) ∈ ts_TB := ts_mem 405 (by decide +kernel) (by decide +kernel)
theorem kw_406 : Cond.methodLink RX6 29 yX2_clear ∈ ts_TB := ts_mem 406 (by decide +kernel) (by decide +kernel)
theorem kw_407 : Cond.instanceMethod yX2_clear ∈ ts_TB := ts_mem 407 (by decide +kernel) (by decide +kernel)
theorem kw_408 : Cond.selects RX2 yX2_clear yX2_clear ∈ ts_TB := ts_mem 408 (by decide +kernel) (by decide +kernel)
theorem kw_409 : Cond.code yX2_clear cX2_clear 1 (Option.none : Option ClassFile.FieldType) ∈ ts_TB := ts_mem 409 (by decide +kernel) (by decide +kernel)
theorem kw_410 : Cond.methodLink RX6 40 yX6_readItem ∈ ts_TB := ts_mem 410 (by decide +kernel) (by decide +kernel)
theorem kw_412 : Cond.instanceMethod yX6_readItem ∈ ts_TB := ts_mem 412 (by decide +kernel) (by decide +kernel)
theorem kw_413 : Cond.code yX6_readItem cX6_readItem 4 (Option.some FieldType.boolean) ∈ ts_TB := ts_mem 413 (by decide +kernel) (by decide +kernel)
theorem kw_414 : Cond.methodLink RX6 44 yX6_readNumbers ∈ ts_TB := ts_mem 414 (by decide +kernel) (by decide +kernel)
theorem kw_416 : Cond.instanceMethod yX6_readNumbers ∈ ts_TB := ts_mem 416 (by decide +kernel) (by decide +kernel)
theorem kw_417 : Cond.code yX6_readNumbers cX6_readNumbers 5 (Option.some FieldType.boolean) ∈ ts_TB := ts_mem 417 (by decide +kernel) (by decide +kernel)
theorem kw_418 : Cond.methodLink RX6 58 yX6_readNumber ∈ ts_TB := ts_mem 418 (by decide +kernel) (by decide +kernel)
theorem kw_420 : Cond.instanceMethod yX6_readNumber ∈ ts_TB := ts_mem 420 (by decide +kernel) (by decide +kernel)
theorem kw_421 : Cond.code yX6_readNumber cX6_readNumber 3 (Option.some FieldType.int) ∈ ts_TB := ts_mem 421 (by decide +kernel) (by decide +kernel)
theorem kw_422 : Cond.methodLink RX6 62 yX6_figureAt ∈ ts_TB := ts_mem 422 (by decide +kernel) (by decide +kernel)
theorem kw_424 : Cond.instanceMethod yX6_figureAt ∈ ts_TB := ts_mem 424 (by decide +kernel) (by decide +kernel)
theorem kw_425 : Cond.code yX6_figureAt cX6_figureAt 2 (Option.some FieldType.int) ∈ ts_TB := ts_mem 425 (by decide +kernel) (by decide +kernel)
theorem kw_426 : Cond.methodLink RX6 48 yX6_takeSteps ∈ ts_TB := ts_mem 426 (by decide +kernel) (by decide +kernel)
theorem kw_428 : Cond.instanceMethod yX6_takeSteps ∈ ts_TB := ts_mem 428 (by decide +kernel) (by decide +kernel)
theorem kw_429 : Cond.code yX6_takeSteps cX6_takeSteps 2 (Option.some FieldType.boolean) ∈ ts_TB := ts_mem 429 (by decide +kernel) (by decide +kernel)
theorem kw_431 : Cond.static yX9_within ∈ ts_TB := ts_mem 431 (by decide +kernel) (by decide +kernel)
theorem kw_432 : Cond.code yX9_within cX9_within 3 (Option.some FieldType.boolean) ∈ ts_TB := ts_mem 432 (by decide +kernel) (by decide +kernel)
theorem kw_433 : Cond.methodLink RX6 52 yX6_takePerson ∈ ts_TB := ts_mem 433 (by decide +kernel) (by decide +kernel)
theorem kw_435 : Cond.instanceMethod yX6_takePerson ∈ ts_TB := ts_mem 435 (by decide +kernel) (by decide +kernel)
theorem kw_436 : Cond.code yX6_takePerson cX6_takePerson 3 (Option.some FieldType.boolean) ∈ ts_TB := ts_mem 436 (by decide +kernel) (by decide +kernel)
theorem kw_437 : Cond.methodLink RX6 55 yX6_takeWork ∈ ts_TB := ts_mem 437 (by decide +kernel) (by decide +kernel)
theorem kw_439 : Cond.instanceMethod yX6_takeWork ∈ ts_TB := ts_mem 439 (by decide +kernel) (by decide +kernel)
theorem kw_440 : Cond.code yX6_takeWork cX6_takeWork 3 (Option.some FieldType.boolean) ∈ ts_TB := ts_mem 440 (by decide +kernel) (by decide +kernel)
theorem kw_441 : Cond.methodLink RX9 106 yX9_takeDraft ∈ ts_TB := ts_mem 441 (by decide +kernel) (by decide +kernel)
theorem kw_443 : Cond.instanceMethod yX9_takeDraft ∈ ts_TB := ts_mem 443 (by decide +kernel) (by decide +kernel)
theorem kw_444 : Cond.code yX9_takeDraft cX9_takeDraft 1 (Option.none : Option ClassFile.FieldType) ∈ ts_TB := ts_mem 444 (by decide +kernel) (by decide +kernel)
theorem kw_445 : Cond.methodLink RX9 300 yX2_copyFrom ∈ ts_TB := ts_mem 445 (by decide +kernel) (by decide +kernel)
theorem kw_446 : Cond.instanceMethod yX2_copyFrom ∈ ts_TB := ts_mem 446 (by decide +kernel) (by decide +kernel)
theorem kw_447 : Cond.selects RX2 yX2_copyFrom yX2_copyFrom ∈ ts_TB := ts_mem 447 (by decide +kernel) (by decide +kernel)
theorem kw_448 : Cond.code yX2_copyFrom cX2_copyFrom 2 (Option.none : Option ClassFile.FieldType) ∈ ts_TB := ts_mem 448 (by decide +kernel) (by decide +kernel)
theorem kw_449 : Cond.methodLink RX2 31 arraycopyName ∈ ts_TB := ts_mem 449 (by decide +kernel) (by decide +kernel)
theorem kw_450 : Cond.static arraycopyName ∈ ts_TB := ts_mem 450 (by decide +kernel) (by decide +kernel)
theorem kw_451 : Cond.native arraycopyName ∈ ts_TB := ts_mem 451 (by decide +kernel) (by decide +kernel)
theorem kw_452 : Cond.methodLink RX9 210 yX8_standAs ∈ ts_TB := ts_mem 452 (by decide +kernel) (by decide +kernel)
theorem kw_453 : Cond.instanceMethod yX8_standAs ∈ ts_TB := ts_mem 453 (by decide +kernel) (by decide +kernel)
theorem kw_454 : Cond.selects RX8 yX8_standAs yX8_standAs ∈ ts_TB := ts_mem 454 (by decide +kernel) (by decide +kernel)
theorem kw_455 : Cond.code yX8_standAs cX8_standAs 2 (Option.none : Option ClassFile.FieldType) ∈ ts_TB := ts_mem 455 (by decide +kernel) (by decide +kernel)
theorem kw_456 : Cond.methodLink RX8 32 arraycopyName ∈ ts_TB := ts_mem 456 (by decide +kernel) (by decide +kernel)
theorem kw_457 : Cond.methodLink RX9 296 yX1_clear ∈ ts_TB := ts_mem 457 (by decide +kernel) (by decide +kernel)
theorem kw_458 : Cond.instanceMethod yX1_clear ∈ ts_TB := ts_mem 458 (by decide +kernel) (by decide +kernel)
theorem kw_459 : Cond.selects RX1 yX1_clear yX1_clear ∈ ts_TB := ts_mem 459 (by decide +kernel) (by decide +kernel)
theorem kw_460 : Cond.code yX1_clear cX1_clear 1 (Option.none : Option ClassFile.FieldType) ∈ ts_TB := ts_mem 460 (by decide +kernel) (by decide +kernel)
theorem kw_461 : Cond.methodLink RX9 248 yX4_clear ∈ ts_TB := ts_mem 461 (by decide +kernel) (by decide +kernel)
theorem kw_462 : Cond.instanceMethod yX4_clear ∈ ts_TB := ts_mem 462 (by decide +kernel) (by decide +kernel)
theorem kw_463 : Cond.selects RX4 yX4_clear yX4_clear ∈ ts_TB := ts_mem 463 (by decide +kernel) (by decide +kernel)
theorem kw_464 : Cond.code yX4_clear cX4_clear 1 (Option.none : Option ClassFile.FieldType) ∈ ts_TB := ts_mem 464 (by decide +kernel) (by decide +kernel)
theorem kw_465 : Cond.methodLink RX9 109 yX6_clear ∈ ts_TB := ts_mem 465 (by decide +kernel) (by decide +kernel)
theorem kw_466 : Cond.instanceMethod yX6_clear ∈ ts_TB := ts_mem 466 (by decide +kernel) (by decide +kernel)
theorem kw_467 : Cond.selects RX6 yX6_clear yX6_clear ∈ ts_TB := ts_mem 467 (by decide +kernel) (by decide +kernel)
theorem kw_468 : Cond.code yX6_clear cX6_clear 1 (Option.none : Option ClassFile.FieldType) ∈ ts_TB := ts_mem 468 (by decide +kernel) (by decide +kernel)
theorem kw_469 : Cond.fieldLink RX9 10 "TowerService" "text" "LTowerService$Text;" ∈ ts_TB := ts_mem 469 (by decide +kernel) (by decide +kernel)
theorem kw_470 : Cond.fieldLink RX9 24 "TowerService" "draft" "LTowerService$Tower;" ∈ ts_TB := ts_mem 470 (by decide +kernel) (by decide +kernel)
theorem kw_471 : Cond.fieldLink RX9 28 "TowerService" "tower" "LTowerService$Tower;" ∈ ts_TB := ts_mem 471 (by decide +kernel) (by decide +kernel)
theorem kw_472 : Cond.fieldLink RX9 31 "TowerService" "trial" "LTowerService$Tower;" ∈ ts_TB := ts_mem 472 (by decide +kernel) (by decide +kernel)
theorem kw_473 : Cond.fieldLink RX9 37 "TowerService" "past" "LTowerService$Past;" ∈ ts_TB := ts_mem 473 (by decide +kernel) (by decide +kernel)
theorem kw_474 : Cond.fieldLink RX9 45 "TowerService" "kept" "[LTowerService$Tower;" ∈ ts_TB := ts_mem 474 (by decide +kernel) (by decide +kernel)
theorem kw_475 : Cond.fieldLink RX9 293 "TowerService" "keptMany" "I" ∈ ts_TB := ts_mem 475 (by decide +kernel) (by decide +kernel)
theorem kw_476 : Cond.fieldLink RX9 52 "TowerService" "sights" "LTowerService$Sights;" ∈ ts_TB := ts_mem 476 (by decide +kernel) (by decide +kernel)
theorem kw_477 : Cond.fieldLink RX9 61 "TowerService" "bestPosting" "LTowerService$Posting;" ∈ ts_TB := ts_mem 477 (by decide +kernel) (by decide +kernel)
theorem kw_478 : Cond.fieldLink RX9 68 "TowerService" "bestTimetable" "LTowerService$Timetable;" ∈ ts_TB := ts_mem 478 (by decide +kernel) (by decide +kernel)
theorem kw_479 : Cond.fieldLink RX9 75 "TowerService" "bestSwap" "LTowerService$Swap;" ∈ ts_TB := ts_mem 479 (by decide +kernel) (by decide +kernel)
theorem kw_480 : Cond.fieldLink RX9 82 "TowerService" "chain" "LTowerService$Chain;" ∈ ts_TB := ts_mem 480 (by decide +kernel) (by decide +kernel)
theorem kw_481 : Cond.laysFinal RX9 "TowerService" "text" "LTowerService$Text;" ∈ ts_TB := ts_mem 481 (by decide +kernel) (by decide +kernel)
theorem kw_483 : Cond.laysFinal RX9 "TowerService" "draft" "LTowerService$Tower;" ∈ ts_TB := ts_mem 483 (by decide +kernel) (by decide +kernel)
theorem kw_485 : Cond.laysFinal RX9 "TowerService" "tower" "LTowerService$Tower;" ∈ ts_TB := ts_mem 485 (by decide +kernel) (by decide +kernel)
theorem kw_487 : Cond.laysFinal RX9 "TowerService" "trial" "LTowerService$Tower;" ∈ ts_TB := ts_mem 487 (by decide +kernel) (by decide +kernel)
theorem kw_489 : Cond.laysFinal RX9 "TowerService" "past" "LTowerService$Past;" ∈ ts_TB := ts_mem 489 (by decide +kernel) (by decide +kernel)
theorem kw_491 : Cond.laysFinal RX9 "TowerService" "kept" "[LTowerService$Tower;" ∈ ts_TB := ts_mem 491 (by decide +kernel) (by decide +kernel)
theorem kw_493 : Cond.lays RX9 "TowerService" "keptMany" "I" ∈ ts_TB := ts_mem 493 (by decide +kernel) (by decide +kernel)
theorem kw_495 : Cond.laysFinal RX9 "TowerService" "sights" "LTowerService$Sights;" ∈ ts_TB := ts_mem 495 (by decide +kernel) (by decide +kernel)
theorem kw_497 : Cond.laysFinal RX9 "TowerService" "bestPosting" "LTowerService$Posting;" ∈ ts_TB := ts_mem 497 (by decide +kernel) (by decide +kernel)
theorem kw_499 : Cond.laysFinal RX9 "TowerService" "bestTimetable" "LTowerService$Timetable;" ∈ ts_TB := ts_mem 499 (by decide +kernel) (by decide +kernel)
theorem kw_501 : Cond.laysFinal RX9 "TowerService" "bestSwap" "LTowerService$Swap;" ∈ ts_TB := ts_mem 501 (by decide +kernel) (by decide +kernel)
theorem kw_503 : Cond.laysFinal RX9 "TowerService" "chain" "LTowerService$Chain;" ∈ ts_TB := ts_mem 503 (by decide +kernel) (by decide +kernel)
theorem kw_506 : Cond.arrayClass FieldType.byte ∈ ts_TB := ts_mem 506 (by decide +kernel) (by decide +kernel)
theorem kw_507 : Cond.methodLink RL 13 yX9_write ∈ ts_TB := ts_mem 507 (by decide +kernel) (by decide +kernel)
theorem kw_508 : Cond.instanceMethod yX9_write ∈ ts_TB := ts_mem 508 (by decide +kernel) (by decide +kernel)
theorem kw_509 : Cond.selects RX9 yX9_write yX9_write ∈ ts_TB := ts_mem 509 (by decide +kernel) (by decide +kernel)
theorem kw_510 : Cond.code yX9_write cX9_write 2 (Option.some FieldType.int) ∈ ts_TB := ts_mem 510 (by decide +kernel) (by decide +kernel)
theorem kw_511 : Cond.methodLink RX9 112 yX9_within ∈ ts_TB := ts_mem 511 (by decide +kernel) (by decide +kernel)
theorem kw_512 : Cond.methodLink RL 18 yX9_wipe ∈ ts_TB := ts_mem 512 (by decide +kernel) (by decide +kernel)
theorem kw_513 : Cond.instanceMethod yX9_wipe ∈ ts_TB := ts_mem 513 (by decide +kernel) (by decide +kernel)
theorem kw_514 : Cond.selects RX9 yX9_wipe yX9_wipe ∈ ts_TB := ts_mem 514 (by decide +kernel) (by decide +kernel)
theorem kw_515 : Cond.code yX9_wipe cX9_wipe 2 (Option.some FieldType.int) ∈ ts_TB := ts_mem 515 (by decide +kernel) (by decide +kernel)
theorem kw_516 : Cond.methodLink RL 23 yX9_fault ∈ ts_TB := ts_mem 516 (by decide +kernel) (by decide +kernel)
theorem kw_517 : Cond.instanceMethod yX9_fault ∈ ts_TB := ts_mem 517 (by decide +kernel) (by decide +kernel)
theorem kw_518 : Cond.selects RX9 yX9_fault yX9_fault ∈ ts_TB := ts_mem 518 (by decide +kernel) (by decide +kernel)
theorem kw_519 : Cond.code yX9_fault cX9_fault 1 (Option.some FieldType.int) ∈ ts_TB := ts_mem 519 (by decide +kernel) (by decide +kernel)
theorem kw_520 : Cond.methodLink RL 27 yX9_lay ∈ ts_TB := ts_mem 520 (by decide +kernel) (by decide +kernel)
theorem kw_521 : Cond.instanceMethod yX9_lay ∈ ts_TB := ts_mem 521 (by decide +kernel) (by decide +kernel)
theorem kw_522 : Cond.selects RX9 yX9_lay yX9_lay ∈ ts_TB := ts_mem 522 (by decide +kernel) (by decide +kernel)
theorem kw_523 : Cond.code yX9_lay cX9_lay 1 (Option.some FieldType.int) ∈ ts_TB := ts_mem 523 (by decide +kernel) (by decide +kernel)
theorem kw_524 : Cond.methodLink RL 31 yX9_person ∈ ts_TB := ts_mem 524 (by decide +kernel) (by decide +kernel)
theorem kw_525 : Cond.instanceMethod yX9_person ∈ ts_TB := ts_mem 525 (by decide +kernel) (by decide +kernel)
theorem kw_526 : Cond.selects RX9 yX9_person yX9_person ∈ ts_TB := ts_mem 526 (by decide +kernel) (by decide +kernel)
theorem kw_527 : Cond.code yX9_person cX9_person 3 (Option.some FieldType.int) ∈ ts_TB := ts_mem 527 (by decide +kernel) (by decide +kernel)
theorem kw_528 : Cond.methodLink RX9 126 yX9_isPerson ∈ ts_TB := ts_mem 528 (by decide +kernel) (by decide +kernel)
theorem kw_530 : Cond.instanceMethod yX9_isPerson ∈ ts_TB := ts_mem 530 (by decide +kernel) (by decide +kernel)
theorem kw_531 : Cond.code yX9_isPerson cX9_isPerson 2 (Option.some FieldType.boolean) ∈ ts_TB := ts_mem 531 (by decide +kernel) (by decide +kernel)
theorem kw_532 : Cond.methodLink RX9 143 yX8_fearOn ∈ ts_TB := ts_mem 532 (by decide +kernel) (by decide +kernel)
theorem kw_533 : Cond.instanceMethod yX8_fearOn ∈ ts_TB := ts_mem 533 (by decide +kernel) (by decide +kernel)
theorem kw_534 : Cond.selects RX8 yX8_fearOn yX8_fearOn ∈ ts_TB := ts_mem 534 (by decide +kernel) (by decide +kernel)
theorem kw_535 : Cond.code yX8_fearOn cX8_fearOn 3 (Option.some FieldType.int) ∈ ts_TB := ts_mem 535 (by decide +kernel) (by decide +kernel)
theorem kw_536 : Cond.methodLink RX8 47 yX8_fearAs ∈ ts_TB := ts_mem 536 (by decide +kernel) (by decide +kernel)
theorem kw_537 : Cond.instanceMethod yX8_fearAs ∈ ts_TB := ts_mem 537 (by decide +kernel) (by decide +kernel)
theorem kw_538 : Cond.selects RX8 yX8_fearAs yX8_fearAs ∈ ts_TB := ts_mem 538 (by decide +kernel) (by decide +kernel)
theorem kw_539 : Cond.code yX8_fearAs cX8_fearAs 6 (Option.some FieldType.int) ∈ ts_TB := ts_mem 539 (by decide +kernel) (by decide +kernel)
theorem kw_540 : Cond.methodLink RX8 54 yX8_fearAmong ∈ ts_TB := ts_mem 540 (by decide +kernel) (by decide +kernel)
theorem kw_541 : Cond.instanceMethod yX8_fearAmong ∈ ts_TB := ts_mem 541 (by decide +kernel) (by decide +kernel)
theorem kw_542 : Cond.selects RX8 yX8_fearAmong yX8_fearAmong ∈ ts_TB := ts_mem 542 (by decide +kernel) (by decide +kernel)
theorem kw_543 : Cond.code yX8_fearAmong cX8_fearAmong 6 (Option.some FieldType.int) ∈ ts_TB := ts_mem 543 (by decide +kernel) (by decide +kernel)
theorem kw_544 : Cond.methodLink RX9 147 yX8_isFrozen ∈ ts_TB := ts_mem 544 (by decide +kernel) (by decide +kernel)
theorem kw_545 : Cond.instanceMethod yX8_isFrozen ∈ ts_TB := ts_mem 545 (by decide +kernel) (by decide +kernel)
theorem kw_546 : Cond.selects RX8 yX8_isFrozen yX8_isFrozen ∈ ts_TB := ts_mem 546 (by decide +kernel) (by decide +kernel)
theorem kw_547 : Cond.code yX8_isFrozen cX8_isFrozen 2 (Option.some FieldType.boolean) ∈ ts_TB := ts_mem 547 (by decide +kernel) (by decide +kernel)
theorem kw_548 : Cond.methodLink RX9 150 yX9_asNumber ∈ ts_TB := ts_mem 548 (by decide +kernel) (by decide +kernel)
theorem kw_549 : Cond.static yX9_asNumber ∈ ts_TB := ts_mem 549 (by decide +kernel) (by decide +kernel)
theorem kw_550 : Cond.code yX9_asNumber cX9_asNumber 1 (Option.some FieldType.int) ∈ ts_TB := ts_mem 550 (by decide +kernel) (by decide +kernel)
theorem kw_551 : Cond.methodLink RX9 158 yX8_mayBeCalled ∈ ts_TB := ts_mem 551 (by decide +kernel) (by decide +kernel)
theorem kw_552 : Cond.instanceMethod yX8_mayBeCalled ∈ ts_TB := ts_mem 552 (by decide +kernel) (by decide +kernel)
theorem kw_553 : Cond.selects RX8 yX8_mayBeCalled yX8_mayBeCalled ∈ ts_TB := ts_mem 553 (by decide +kernel) (by decide +kernel)
theorem kw_554 : Cond.code yX8_mayBeCalled cX8_mayBeCalled 2 (Option.some FieldType.boolean) ∈ ts_TB := ts_mem 554 (by decide +kernel) (by decide +kernel)
theorem kw_555 : Cond.methodLink RL 36 yX9_fear ∈ ts_TB := ts_mem 555 (by decide +kernel) (by decide +kernel)
theorem kw_556 : Cond.instanceMethod yX9_fear ∈ ts_TB := ts_mem 556 (by decide +kernel) (by decide +kernel)
theorem kw_557 : Cond.selects RX9 yX9_fear yX9_fear ∈ ts_TB := ts_mem 557 (by decide +kernel) (by decide +kernel)
theorem kw_558 : Cond.code yX9_fear cX9_fear 3 (Option.some FieldType.int) ∈ ts_TB := ts_mem 558 (by decide +kernel) (by decide +kernel)
theorem kw_559 : Cond.methodLink RX9 161 yX9_isStep ∈ ts_TB := ts_mem 559 (by decide +kernel) (by decide +kernel)
theorem kw_561 : Cond.instanceMethod yX9_isStep ∈ ts_TB := ts_mem 561 (by decide +kernel) (by decide +kernel)
theorem kw_562 : Cond.code yX9_isStep cX9_isStep 2 (Option.some FieldType.boolean) ∈ ts_TB := ts_mem 562 (by decide +kernel) (by decide +kernel)
theorem kw_563 : Cond.methodLink RL 40 yX9_work ∈ ts_TB := ts_mem 563 (by decide +kernel) (by decide +kernel)
theorem kw_564 : Cond.instanceMethod yX9_work ∈ ts_TB := ts_mem 564 (by decide +kernel) (by decide +kernel)
theorem kw_565 : Cond.selects RX9 yX9_work yX9_work ∈ ts_TB := ts_mem 565 (by decide +kernel) (by decide +kernel)
theorem kw_566 : Cond.code yX9_work cX9_work 3 (Option.some FieldType.int) ∈ ts_TB := ts_mem 566 (by decide +kernel) (by decide +kernel)
theorem kw_567 : Cond.methodLink RX9 173 yX8_steadyBits ∈ ts_TB := ts_mem 567 (by decide +kernel) (by decide +kernel)
theorem kw_568 : Cond.instanceMethod yX8_steadyBits ∈ ts_TB := ts_mem 568 (by decide +kernel) (by decide +kernel)
theorem kw_569 : Cond.selects RX8 yX8_steadyBits yX8_steadyBits ∈ ts_TB := ts_mem 569 (by decide +kernel) (by decide +kernel)
theorem kw_570 : Cond.code yX8_steadyBits cX8_steadyBits 3 (Option.some FieldType.int) ∈ ts_TB := ts_mem 570 (by decide +kernel) (by decide +kernel)
theorem kw_571 : Cond.methodLink RX8 65 yX8_isSteady ∈ ts_TB := ts_mem 571 (by decide +kernel) (by decide +kernel)
theorem kw_572 : Cond.instanceMethod yX8_isSteady ∈ ts_TB := ts_mem 572 (by decide +kernel) (by decide +kernel)
theorem kw_573 : Cond.selects RX8 yX8_isSteady yX8_isSteady ∈ ts_TB := ts_mem 573 (by decide +kernel) (by decide +kernel)
theorem kw_574 : Cond.code yX8_isSteady cX8_isSteady 2 (Option.some FieldType.boolean) ∈ ts_TB := ts_mem 574 (by decide +kernel) (by decide +kernel)
theorem kw_575 : Cond.methodLink RX9 176 yX8_isDone ∈ ts_TB := ts_mem 575 (by decide +kernel) (by decide +kernel)
theorem kw_576 : Cond.instanceMethod yX8_isDone ∈ ts_TB := ts_mem 576 (by decide +kernel) (by decide +kernel)
theorem kw_577 : Cond.selects RX8 yX8_isDone yX8_isDone ∈ ts_TB := ts_mem 577 (by decide +kernel) (by decide +kernel)
theorem kw_578 : Cond.code yX8_isDone cX8_isDone 5 (Option.some FieldType.boolean) ∈ ts_TB := ts_mem 578 (by decide +kernel) (by decide +kernel)
theorem kw_580 : Cond.static yX9_hasBit ∈ ts_TB := ts_mem 580 (by decide +kernel) (by decide +kernel)
theorem kw_581 : Cond.code yX9_hasBit cX9_hasBit 2 (Option.some FieldType.boolean) ∈ ts_TB := ts_mem 581 (by decide +kernel) (by decide +kernel)
theorem kw_582 : Cond.methodLink RL 44 yX9_pass ∈ ts_TB := ts_mem 582 (by decide +kernel) (by decide +kernel)
theorem kw_583 : Cond.instanceMethod yX9_pass ∈ ts_TB := ts_mem 583 (by decide +kernel) (by decide +kernel)
theorem kw_584 : Cond.selects RX9 yX9_pass yX9_pass ∈ ts_TB := ts_mem 584 (by decide +kernel) (by decide +kernel)
theorem kw_585 : Cond.code yX9_pass cX9_pass 2 (Option.some FieldType.int) ∈ ts_TB := ts_mem 585 (by decide +kernel) (by decide +kernel)
theorem kw_586 : Cond.methodLink RX9 183 yX1_add ∈ ts_TB := ts_mem 586 (by decide +kernel) (by decide +kernel)
theorem kw_587 : Cond.instanceMethod yX1_add ∈ ts_TB := ts_mem 587 (by decide +kernel) (by decide +kernel)
theorem kw_588 : Cond.selects RX1 yX1_add yX1_add ∈ ts_TB := ts_mem 588 (by decide +kernel) (by decide +kernel)
theorem kw_589 : Cond.code yX1_add cX1_add 2 (Option.none : Option ClassFile.FieldType) ∈ ts_TB := ts_mem 589 (by decide +kernel) (by decide +kernel)
theorem kw_590 : Cond.methodLink RX1 26 yX8_standAs ∈ ts_TB := ts_mem 590 (by decide +kernel) (by decide +kernel)
theorem kw_591 : Cond.methodLink RX9 185 yX8_goYears ∈ ts_TB := ts_mem 591 (by decide +kernel) (by decide +kernel)
theorem kw_592 : Cond.instanceMethod yX8_goYears ∈ ts_TB := ts_mem 592 (by decide +kernel) (by decide +kernel)
theorem kw_593 : Cond.selects RX8 yX8_goYears yX8_goYears ∈ ts_TB := ts_mem 593 (by decide +kernel) (by decide +kernel)
theorem kw_594 : Cond.code yX8_goYears cX8_goYears 3 (Option.none : Option ClassFile.FieldType) ∈ ts_TB := ts_mem 594 (by decide +kernel) (by decide +kernel)
theorem kw_595 : Cond.methodLink RX8 92 yX8_goYear ∈ ts_TB := ts_mem 595 (by decide +kernel) (by decide +kernel)
theorem kw_596 : Cond.instanceMethod yX8_goYear ∈ ts_TB := ts_mem 596 (by decide +kernel) (by decide +kernel)
theorem kw_597 : Cond.selects RX8 yX8_goYear yX8_goYear ∈ ts_TB := ts_mem 597 (by decide +kernel) (by decide +kernel)
theorem kw_598 : Cond.code yX8_goYear cX8_goYear 5 (Option.none : Option ClassFile.FieldType) ∈ ts_TB := ts_mem 598 (by decide +kernel) (by decide +kernel)
theorem kw_599 : Cond.methodLink RX8 95 yX8_fearOn ∈ ts_TB := ts_mem 599 (by decide +kernel) (by decide +kernel)
theorem kw_600 : Cond.methodLink RX8 99 Lib.Math.max.name ∈ ts_TB := ts_mem 600 (by decide +kernel) (by decide +kernel)
theorem kw_601 : Cond.methodLink RX8 104 Lib.Math.min.name ∈ ts_TB := ts_mem 601 (by decide +kernel) (by decide +kernel)
theorem kw_602 : Cond.static Lib.Math.min.name ∈ ts_TB := ts_mem 602 (by decide +kernel) (by decide +kernel)
theorem kw_603 : Cond.code Lib.Math.min.name Lib.Math.min.code 2 (Option.some FieldType.int) ∈ ts_TB := ts_mem 603 (by decide +kernel) (by decide +kernel)
theorem kw_604 : Cond.methodLink RL 48 yX9_promote ∈ ts_TB := ts_mem 604 (by decide +kernel) (by decide +kernel)
theorem kw_605 : Cond.instanceMethod yX9_promote ∈ ts_TB := ts_mem 605 (by decide +kernel) (by decide +kernel)
theorem kw_606 : Cond.selects RX9 yX9_promote yX9_promote ∈ ts_TB := ts_mem 606 (by decide +kernel) (by decide +kernel)
theorem kw_607 : Cond.code yX9_promote cX9_promote 2 (Option.some FieldType.int) ∈ ts_TB := ts_mem 607 (by decide +kernel) (by decide +kernel)
theorem kw_608 : Cond.methodLink RX9 189 yX8_mayGoDown ∈ ts_TB := ts_mem 608 (by decide +kernel) (by decide +kernel)
theorem kw_609 : Cond.instanceMethod yX8_mayGoDown ∈ ts_TB := ts_mem 609 (by decide +kernel) (by decide +kernel)
theorem kw_610 : Cond.selects RX8 yX8_mayGoDown yX8_mayGoDown ∈ ts_TB := ts_mem 610 (by decide +kernel) (by decide +kernel)
theorem kw_611 : Cond.code yX8_mayGoDown cX8_mayGoDown 2 (Option.some FieldType.boolean) ∈ ts_TB := ts_mem 611 (by decide +kernel) (by decide +kernel)
theorem kw_612 : Cond.methodLink RX9 192 yX8_goDown ∈ ts_TB := ts_mem 612 (by decide +kernel) (by decide +kernel)
theorem kw_613 : Cond.instanceMethod yX8_goDown ∈ ts_TB := ts_mem 613 (by decide +kernel) (by decide +kernel)
theorem kw_614 : Cond.selects RX8 yX8_goDown yX8_goDown ∈ ts_TB := ts_mem 614 (by decide +kernel) (by decide +kernel)
theorem kw_615 : Cond.code yX8_goDown cX8_goDown 2 (Option.none : Option ClassFile.FieldType) ∈ ts_TB := ts_mem 615 (by decide +kernel) (by decide +kernel)
theorem kw_616 : Cond.methodLink RL 52 yX9_hoist ∈ ts_TB := ts_mem 616 (by decide +kernel) (by decide +kernel)
theorem kw_617 : Cond.instanceMethod yX9_hoist ∈ ts_TB := ts_mem 617 (by decide +kernel) (by decide +kernel)
theorem kw_618 : Cond.selects RX9 yX9_hoist yX9_hoist ∈ ts_TB := ts_mem 618 (by decide +kernel) (by decide +kernel)
theorem kw_619 : Cond.code yX9_hoist cX9_hoist 2 (Option.some FieldType.int) ∈ ts_TB := ts_mem 619 (by decide +kernel) (by decide +kernel)
theorem kw_620 : Cond.methodLink RX9 195 yX8_mayGoUp ∈ ts_TB := ts_mem 620 (by decide +kernel) (by decide +kernel)
theorem kw_621 : Cond.instanceMethod yX8_mayGoUp ∈ ts_TB := ts_mem 621 (by decide +kernel) (by decide +kernel)
theorem kw_622 : Cond.selects RX8 yX8_mayGoUp yX8_mayGoUp ∈ ts_TB := ts_mem 622 (by decide +kernel) (by decide +kernel)
theorem kw_623 : Cond.code yX8_mayGoUp cX8_mayGoUp 2 (Option.some FieldType.boolean) ∈ ts_TB := ts_mem 623 (by decide +kernel) (by decide +kernel)
theorem kw_624 : Cond.methodLink RX9 198 yX8_goUp ∈ ts_TB := ts_mem 624 (by decide +kernel) (by decide +kernel)
theorem kw_625 : Cond.instanceMethod yX8_goUp ∈ ts_TB := ts_mem 625 (by decide +kernel) (by decide +kernel)
theorem kw_626 : Cond.selects RX8 yX8_goUp yX8_goUp ∈ ts_TB := ts_mem 626 (by decide +kernel) (by decide +kernel)
theorem kw_627 : Cond.code yX8_goUp cX8_goUp 2 (Option.none : Option ClassFile.FieldType) ∈ ts_TB := ts_mem 627 (by decide +kernel) (by decide +kernel)
theorem kw_628 : Cond.methodLink RL 56 yX9_call ∈ ts_TB := ts_mem 628 (by decide +kernel) (by decide +kernel)
theorem kw_629 : Cond.instanceMethod yX9_call ∈ ts_TB := ts_mem 629 (by decide +kernel) (by decide +kernel)
theorem kw_630 : Cond.selects RX9 yX9_call yX9_call ∈ ts_TB := ts_mem 630 (by decide +kernel) (by decide +kernel)
theorem kw_631 : Cond.code yX9_call cX9_call 2 (Option.some FieldType.int) ∈ ts_TB := ts_mem 631 (by decide +kernel) (by decide +kernel)
theorem kw_632 : Cond.methodLink RX9 201 yX8_hearCall ∈ ts_TB := ts_mem 632 (by decide +kernel) (by decide +kernel)
theorem kw_633 : Cond.instanceMethod yX8_hearCall ∈ ts_TB := ts_mem 633 (by decide +kernel) (by decide +kernel)
theorem kw_634 : Cond.selects RX8 yX8_hearCall yX8_hearCall ∈ ts_TB := ts_mem 634 (by decide +kernel) (by decide +kernel)
theorem kw_635 : Cond.code yX8_hearCall cX8_hearCall 4 (Option.none : Option ClassFile.FieldType) ∈ ts_TB := ts_mem 635 (by decide +kernel) (by decide +kernel)
theorem kw_636 : Cond.methodLink RL 60 yX9_undo ∈ ts_TB := ts_mem 636 (by decide +kernel) (by decide +kernel)
theorem kw_637 : Cond.instanceMethod yX9_undo ∈ ts_TB := ts_mem 637 (by decide +kernel) (by decide +kernel)
theorem kw_638 : Cond.selects RX9 yX9_undo yX9_undo ∈ ts_TB := ts_mem 638 (by decide +kernel) (by decide +kernel)
theorem kw_639 : Cond.code yX9_undo cX9_undo 1 (Option.some FieldType.int) ∈ ts_TB := ts_mem 639 (by decide +kernel) (by decide +kernel)
theorem kw_640 : Cond.methodLink RX9 207 yX1_takeLastInto ∈ ts_TB := ts_mem 640 (by decide +kernel) (by decide +kernel)
theorem kw_641 : Cond.instanceMethod yX1_takeLastInto ∈ ts_TB := ts_mem 641 (by decide +kernel) (by decide +kernel)
theorem kw_642 : Cond.selects RX1 yX1_takeLastInto yX1_takeLastInto ∈ ts_TB := ts_mem 642 (by decide +kernel) (by decide +kernel)
theorem kw_643 : Cond.code yX1_takeLastInto cX1_takeLastInto 2 (Option.none : Option ClassFile.FieldType) ∈ ts_TB := ts_mem 643 (by decide +kernel) (by decide +kernel)
theorem kw_644 : Cond.methodLink RL 64 yX9_behind ∈ ts_TB := ts_mem 644 (by decide +kernel) (by decide +kernel)
theorem kw_645 : Cond.instanceMethod yX9_behind ∈ ts_TB := ts_mem 645 (by decide +kernel) (by decide +kernel)
theorem kw_646 : Cond.selects RX9 yX9_behind yX9_behind ∈ ts_TB := ts_mem 646 (by decide +kernel) (by decide +kernel)
theorem kw_647 : Cond.code yX9_behind cX9_behind 4 (Option.some FieldType.int) ∈ ts_TB := ts_mem 647 (by decide +kernel) (by decide +kernel)
theorem kw_648 : Cond.methodLink RL 69 yX9_lowest ∈ ts_TB := ts_mem 648 (by decide +kernel) (by decide +kernel)
theorem kw_649 : Cond.instanceMethod yX9_lowest ∈ ts_TB := ts_mem 649 (by decide +kernel) (by decide +kernel)
theorem kw_650 : Cond.selects RX9 yX9_lowest yX9_lowest ∈ ts_TB := ts_mem 650 (by decide +kernel) (by decide +kernel)
theorem kw_651 : Cond.code yX9_lowest cX9_lowest 3 (Option.some FieldType.int) ∈ ts_TB := ts_mem 651 (by decide +kernel) (by decide +kernel)
theorem kw_652 : Cond.methodLink RX9 213 yX8_isSteady ∈ ts_TB := ts_mem 652 (by decide +kernel) (by decide +kernel)
theorem kw_653 : Cond.methodLink RL 73 yX9_posting ∈ ts_TB := ts_mem 653 (by decide +kernel) (by decide +kernel)
theorem kw_654 : Cond.instanceMethod yX9_posting ∈ ts_TB := ts_mem 654 (by decide +kernel) (by decide +kernel)
theorem kw_655 : Cond.selects RX9 yX9_posting yX9_posting ∈ ts_TB := ts_mem 655 (by decide +kernel) (by decide +kernel)
theorem kw_656 : Cond.code yX9_posting cX9_posting 2 (Option.some FieldType.int) ∈ ts_TB := ts_mem 656 (by decide +kernel) (by decide +kernel)
theorem kw_657 : Cond.methodLink RX9 216 yX3_search ∈ ts_TB := ts_mem 657 (by decide +kernel) (by decide +kernel)
theorem kw_658 : Cond.instanceMethod yX3_search ∈ ts_TB := ts_mem 658 (by decide +kernel) (by decide +kernel)
theorem kw_659 : Cond.selects RX3 yX3_search yX3_search ∈ ts_TB := ts_mem 659 (by decide +kernel) (by decide +kernel)
theorem kw_660 : Cond.code yX3_search cX3_search 4 (Option.none : Option ClassFile.FieldType) ∈ ts_TB := ts_mem 660 (by decide +kernel) (by decide +kernel)
theorem kw_661 : Cond.methodLink RX3 28 yX8_standAs ∈ ts_TB := ts_mem 661 (by decide +kernel) (by decide +kernel)
theorem kw_662 : Cond.methodLink RX3 47 yX8_goneMany ∈ ts_TB := ts_mem 662 (by decide +kernel) (by decide +kernel)
theorem kw_663 : Cond.instanceMethod yX8_goneMany ∈ ts_TB := ts_mem 663 (by decide +kernel) (by decide +kernel)
theorem kw_664 : Cond.selects RX8 yX8_goneMany yX8_goneMany ∈ ts_TB := ts_mem 664 (by decide +kernel) (by decide +kernel)
theorem kw_665 : Cond.code yX8_goneMany cX8_goneMany 3 (Option.some FieldType.int) ∈ ts_TB := ts_mem 665 (by decide +kernel) (by decide +kernel)
theorem kw_667 : Cond.methodLink RX3 57 yX3_needOfNextEasier ∈ ts_TB := ts_mem 667 (by decide +kernel) (by decide +kernel)
theorem kw_669 : Cond.instanceMethod yX3_needOfNextEasier ∈ ts_TB := ts_mem 669 (by decide +kernel) (by decide +kernel)
theorem kw_670 : Cond.code yX3_needOfNextEasier cX3_needOfNextEasier 4 (Option.some FieldType.int) ∈ ts_TB := ts_mem 670 (by decide +kernel) (by decide +kernel)
theorem kw_671 : Cond.methodLink RX3 98 yX3_isEasier ∈ ts_TB := ts_mem 671 (by decide +kernel) (by decide +kernel)
theorem kw_673 : Cond.instanceMethod yX3_isEasier ∈ ts_TB := ts_mem 673 (by decide +kernel) (by decide +kernel)
theorem kw_674 : Cond.code yX3_isEasier cX3_isEasier 4 (Option.some FieldType.boolean) ∈ ts_TB := ts_mem 674 (by decide +kernel) (by decide +kernel)
theorem kw_675 : Cond.methodLink RX3 105 Lib.Math.max.name ∈ ts_TB := ts_mem 675 (by decide +kernel) (by decide +kernel)
theorem kw_676 : Cond.methodLink RX3 61 yX3_placesOf ∈ ts_TB := ts_mem 676 (by decide +kernel) (by decide +kernel)
theorem kw_678 : Cond.instanceMethod yX3_placesOf ∈ ts_TB := ts_mem 678 (by decide +kernel) (by decide +kernel)
theorem kw_679 : Cond.code yX3_placesOf cX3_placesOf 4 (Option.some FieldType.int) ∈ ts_TB := ts_mem 679 (by decide +kernel) (by decide +kernel)
theorem kw_680 : Cond.methodLink RX3 81 yX3_isFrozenAmong ∈ ts_TB := ts_mem 680 (by decide +kernel) (by decide +kernel)
theorem kw_682 : Cond.instanceMethod yX3_isFrozenAmong ∈ ts_TB := ts_mem 682 (by decide +kernel) (by decide +kernel)
theorem kw_683 : Cond.code yX3_isFrozenAmong cX3_isFrozenAmong 4 (Option.some FieldType.boolean) ∈ ts_TB := ts_mem 683 (by decide +kernel) (by decide +kernel)
theorem kw_684 : Cond.methodLink RX3 91 yX8_fearAmong ∈ ts_TB := ts_mem 684 (by decide +kernel) (by decide +kernel)
theorem kw_685 : Cond.methodLink RX3 68 yX3_putFrom ∈ ts_TB := ts_mem 685 (by decide +kernel) (by decide +kernel)
theorem kw_687 : Cond.instanceMethod yX3_putFrom ∈ ts_TB := ts_mem 687 (by decide +kernel) (by decide +kernel)
theorem kw_688 : Cond.code yX3_putFrom cX3_putFrom 3 (Option.none : Option ClassFile.FieldType) ∈ ts_TB := ts_mem 688 (by decide +kernel) (by decide +kernel)
theorem kw_689 : Cond.methodLink RX3 111 yX3_mostInReach ∈ ts_TB := ts_mem 689 (by decide +kernel) (by decide +kernel)
theorem kw_691 : Cond.instanceMethod yX3_mostInReach ∈ ts_TB := ts_mem 691 (by decide +kernel) (by decide +kernel)
theorem kw_692 : Cond.code yX3_mostInReach cX3_mostInReach 5 (Option.some FieldType.int) ∈ ts_TB := ts_mem 692 (by decide +kernel) (by decide +kernel)
theorem kw_693 : Cond.methodLink RX3 128 yX3_priceOf ∈ ts_TB := ts_mem 693 (by decide +kernel) (by decide +kernel)
theorem kw_695 : Cond.instanceMethod yX3_priceOf ∈ ts_TB := ts_mem 695 (by decide +kernel) (by decide +kernel)
theorem kw_696 : Cond.code yX3_priceOf cX3_priceOf 3 (Option.some FieldType.int) ∈ ts_TB := ts_mem 696 (by decide +kernel) (by decide +kernel)
theorem kw_697 : Cond.methodLink RX3 114 yX3_isSurelyFrozenBefore ∈ ts_TB := ts_mem 697 (by decide +kernel) (by decide +kernel)
theorem kw_699 : Cond.instanceMethod yX3_isSurelyFrozenBefore ∈ ts_TB := ts_mem 699 (by decide +kernel) (by decide +kernel)
theorem kw_700 : Cond.code yX3_isSurelyFrozenBefore cX3_isSurelyFrozenBefore 4 (Option.some FieldType.boolean) ∈ ts_TB := ts_mem 700 (by decide +kernel) (by decide +kernel)
theorem kw_701 : Cond.methodLink RX3 118 yX3_takeIfBetter ∈ ts_TB := ts_mem 701 (by decide +kernel) (by decide +kernel)
theorem kw_703 : Cond.instanceMethod yX3_takeIfBetter ∈ ts_TB := ts_mem 703 (by decide +kernel) (by decide +kernel)
theorem kw_704 : Cond.code yX3_takeIfBetter cX3_takeIfBetter 3 (Option.none : Option ClassFile.FieldType) ∈ ts_TB := ts_mem 704 (by decide +kernel) (by decide +kernel)
theorem kw_707 : Cond.methodLink RX3 124 yX3_put ∈ ts_TB := ts_mem 707 (by decide +kernel) (by decide +kernel)
theorem kw_709 : Cond.instanceMethod yX3_put ∈ ts_TB := ts_mem 709 (by decide +kernel) (by decide +kernel)
theorem kw_710 : Cond.code yX3_put cX3_put 3 (Option.none : Option ClassFile.FieldType) ∈ ts_TB := ts_mem 710 (by decide +kernel) (by decide +kernel)
theorem kw_711 : Cond.methodLink RL 77 yX9_timetable ∈ ts_TB := ts_mem 711 (by decide +kernel) (by decide +kernel)
theorem kw_712 : Cond.instanceMethod yX9_timetable ∈ ts_TB := ts_mem 712 (by decide +kernel) (by decide +kernel)
theorem kw_713 : Cond.selects RX9 yX9_timetable yX9_timetable ∈ ts_TB := ts_mem 713 (by decide +kernel) (by decide +kernel)
theorem kw_714 : Cond.code yX9_timetable cX9_timetable 3 (Option.some FieldType.int) ∈ ts_TB := ts_mem 714 (by decide +kernel) (by decide +kernel)
theorem kw_715 : Cond.methodLink RX9 225 yX7_search ∈ ts_TB := ts_mem 715 (by decide +kernel) (by decide +kernel)
theorem kw_716 : Cond.instanceMethod yX7_search ∈ ts_TB := ts_mem 716 (by decide +kernel) (by decide +kernel)
theorem kw_717 : Cond.selects RX7 yX7_search yX7_search ∈ ts_TB := ts_mem 717 (by decide +kernel) (by decide +kernel)
theorem kw_718 : Cond.code yX7_search cX7_search 3 (Option.none : Option ClassFile.FieldType) ∈ ts_TB := ts_mem 718 (by decide +kernel) (by decide +kernel)
theorem kw_719 : Cond.methodLink RX7 26 Lib.Math.min.name ∈ ts_TB := ts_mem 719 (by decide +kernel) (by decide +kernel)
theorem kw_720 : Cond.methodLink RX7 39 yX8_standAs ∈ ts_TB := ts_mem 720 (by decide +kernel) (by decide +kernel)
theorem kw_721 : Cond.methodLink RX7 45 yX7_chooseFrom ∈ ts_TB := ts_mem 721 (by decide +kernel) (by decide +kernel)
theorem kw_723 : Cond.instanceMethod yX7_chooseFrom ∈ ts_TB := ts_mem 723 (by decide +kernel) (by decide +kernel)
theorem kw_724 : Cond.code yX7_chooseFrom cX7_chooseFrom 4 (Option.none : Option ClassFile.FieldType) ∈ ts_TB := ts_mem 724 (by decide +kernel) (by decide +kernel)
theorem kw_725 : Cond.methodLink RX7 49 yX8_doneMany ∈ ts_TB := ts_mem 725 (by decide +kernel) (by decide +kernel)
theorem kw_726 : Cond.instanceMethod yX8_doneMany ∈ ts_TB := ts_mem 726 (by decide +kernel) (by decide +kernel)
theorem kw_727 : Cond.selects RX8 yX8_doneMany yX8_doneMany ∈ ts_TB := ts_mem 727 (by decide +kernel) (by decide +kernel)
theorem kw_728 : Cond.code yX8_doneMany cX8_doneMany 4 (Option.some FieldType.int) ∈ ts_TB := ts_mem 728 (by decide +kernel) (by decide +kernel)
theorem kw_729 : Cond.methodLink RX8 78 yX8_steadyBits ∈ ts_TB := ts_mem 729 (by decide +kernel) (by decide +kernel)
theorem kw_730 : Cond.methodLink RX8 85 yX8_isDone ∈ ts_TB := ts_mem 730 (by decide +kernel) (by decide +kernel)
theorem kw_731 : Cond.methodLink RX7 53 yX7_takeIfBetter ∈ ts_TB := ts_mem 731 (by decide +kernel) (by decide +kernel)
theorem kw_733 : Cond.instanceMethod yX7_takeIfBetter ∈ ts_TB := ts_mem 733 (by decide +kernel) (by decide +kernel)
theorem kw_734 : Cond.code yX7_takeIfBetter cX7_takeIfBetter 2 (Option.none : Option ClassFile.FieldType) ∈ ts_TB := ts_mem 734 (by decide +kernel) (by decide +kernel)
theorem kw_735 : Cond.methodLink RX7 82 arraycopyName ∈ ts_TB := ts_mem 735 (by decide +kernel) (by decide +kernel)
theorem kw_736 : Cond.methodLink RX7 56 yX7_choose ∈ ts_TB := ts_mem 736 (by decide +kernel) (by decide +kernel)
theorem kw_738 : Cond.instanceMethod yX7_choose ∈ ts_TB := ts_mem 738 (by decide +kernel) (by decide +kernel)
theorem kw_739 : Cond.code yX7_choose cX7_choose 4 (Option.none : Option ClassFile.FieldType) ∈ ts_TB := ts_mem 739 (by decide +kernel) (by decide +kernel)
theorem kw_740 : Cond.methodLink RX7 76 yX8_goDown ∈ ts_TB := ts_mem 740 (by decide +kernel) (by decide +kernel)
theorem kw_741 : Cond.methodLink RX7 79 yX8_goYear ∈ ts_TB := ts_mem 741 (by decide +kernel) (by decide +kernel)
theorem kw_742 : Cond.methodLink RX7 72 yX8_mayGoDown ∈ ts_TB := ts_mem 742 (by decide +kernel) (by decide +kernel)
theorem kw_743 : Cond.methodLink RL 81 yX9_swap ∈ ts_TB := ts_mem 743 (by decide +kernel) (by decide +kernel)
theorem kw_744 : Cond.instanceMethod yX9_swap ∈ ts_TB := ts_mem 744 (by decide +kernel) (by decide +kernel)
theorem kw_745 : Cond.selects RX9 yX9_swap yX9_swap ∈ ts_TB := ts_mem 745 (by decide +kernel) (by decide +kernel)
theorem kw_746 : Cond.code yX9_swap cX9_swap 2 (Option.some FieldType.int) ∈ ts_TB := ts_mem 746 (by decide +kernel) (by decide +kernel)
theorem kw_747 : Cond.methodLink RX9 230 yX5_search ∈ ts_TB := ts_mem 747 (by decide +kernel) (by decide +kernel)
theorem kw_748 : Cond.instanceMethod yX5_search ∈ ts_TB := ts_mem 748 (by decide +kernel) (by decide +kernel)
theorem kw_749 : Cond.selects RX5 yX5_search yX5_search ∈ ts_TB := ts_mem 749 (by decide +kernel) (by decide +kernel)
theorem kw_750 : Cond.code yX5_search cX5_search 4 (Option.none : Option ClassFile.FieldType) ∈ ts_TB := ts_mem 750 (by decide +kernel) (by decide +kernel)
theorem kw_751 : Cond.methodLink RX5 17 yX8_standAs ∈ ts_TB := ts_mem 751 (by decide +kernel) (by decide +kernel)
theorem kw_752 : Cond.methodLink RX5 40 yX5_takeIfBetter ∈ ts_TB := ts_mem 752 (by decide +kernel) (by decide +kernel)
theorem kw_754 : Cond.instanceMethod yX5_takeIfBetter ∈ ts_TB := ts_mem 754 (by decide +kernel) (by decide +kernel)
theorem kw_755 : Cond.code yX5_takeIfBetter cX5_takeIfBetter 4 (Option.none : Option ClassFile.FieldType) ∈ ts_TB := ts_mem 755 (by decide +kernel) (by decide +kernel)
theorem kw_756 : Cond.methodLink RX5 44 yX5_changePlaces ∈ ts_TB := ts_mem 756 (by decide +kernel) (by decide +kernel)
theorem kw_758 : Cond.instanceMethod yX5_changePlaces ∈ ts_TB := ts_mem 758 (by decide +kernel) (by decide +kernel)
theorem kw_759 : Cond.code yX5_changePlaces cX5_changePlaces 4 (Option.none : Option ClassFile.FieldType) ∈ ts_TB := ts_mem 759 (by decide +kernel) (by decide +kernel)
theorem kw_760 : Cond.methodLink RX5 47 yX8_doneMany ∈ ts_TB := ts_mem 760 (by decide +kernel) (by decide +kernel)
theorem kw_761 : Cond.methodLink RL 85 yX9_can ∈ ts_TB := ts_mem 761 (by decide +kernel) (by decide +kernel)
theorem kw_762 : Cond.instanceMethod yX9_can ∈ ts_TB := ts_mem 762 (by decide +kernel) (by decide +kernel)
theorem kw_763 : Cond.selects RX9 yX9_can yX9_can ∈ ts_TB := ts_mem 763 (by decide +kernel) (by decide +kernel)
theorem kw_764 : Cond.code yX9_can cX9_can 4 (Option.some FieldType.int) ∈ ts_TB := ts_mem 764 (by decide +kernel) (by decide +kernel)
theorem kw_765 : Cond.methodLink RX9 235 yX0_search ∈ ts_TB := ts_mem 765 (by decide +kernel) (by decide +kernel)
theorem kw_766 : Cond.instanceMethod yX0_search ∈ ts_TB := ts_mem 766 (by decide +kernel) (by decide +kernel)
theorem kw_767 : Cond.selects RX0 yX0_search yX0_search ∈ ts_TB := ts_mem 767 (by decide +kernel) (by decide +kernel)
theorem kw_768 : Cond.code yX0_search cX0_search 5 (Option.none : Option ClassFile.FieldType) ∈ ts_TB := ts_mem 768 (by decide +kernel) (by decide +kernel)
theorem kw_769 : Cond.methodLink RX0 15 yX0_countFrom ∈ ts_TB := ts_mem 769 (by decide +kernel) (by decide +kernel)
theorem kw_771 : Cond.instanceMethod yX0_countFrom ∈ ts_TB := ts_mem 771 (by decide +kernel) (by decide +kernel)
theorem kw_772 : Cond.code yX0_countFrom cX0_countFrom 6 (Option.none : Option ClassFile.FieldType) ∈ ts_TB := ts_mem 772 (by decide +kernel) (by decide +kernel)
theorem kw_773 : Cond.methodLink RX0 39 yX8_steadyBits ∈ ts_TB := ts_mem 773 (by decide +kernel) (by decide +kernel)
theorem kw_775 : Cond.methodLink RX0 47 yX0_reaches ∈ ts_TB := ts_mem 775 (by decide +kernel) (by decide +kernel)
theorem kw_777 : Cond.instanceMethod yX0_reaches ∈ ts_TB := ts_mem 777 (by decide +kernel) (by decide +kernel)
theorem kw_778 : Cond.code yX0_reaches cX0_reaches 5 (Option.some FieldType.boolean) ∈ ts_TB := ts_mem 778 (by decide +kernel) (by decide +kernel)
theorem kw_779 : Cond.methodLink RX0 51 Lib.Math.abs.name ∈ ts_TB := ts_mem 779 (by decide +kernel) (by decide +kernel)
theorem kw_780 : Cond.static Lib.Math.abs.name ∈ ts_TB := ts_mem 780 (by decide +kernel) (by decide +kernel)
theorem kw_781 : Cond.code Lib.Math.abs.name Lib.Math.abs.code 1 (Option.some FieldType.int) ∈ ts_TB := ts_mem 781 (by decide +kernel) (by decide +kernel)
theorem kw_782 : Cond.methodLink RL 89 yX9_seen ∈ ts_TB := ts_mem 782 (by decide +kernel) (by decide +kernel)
theorem kw_783 : Cond.instanceMethod yX9_seen ∈ ts_TB := ts_mem 783 (by decide +kernel) (by decide +kernel)
theorem kw_784 : Cond.selects RX9 yX9_seen yX9_seen ∈ ts_TB := ts_mem 784 (by decide +kernel) (by decide +kernel)
theorem kw_785 : Cond.code yX9_seen cX9_seen 4 (Option.some FieldType.int) ∈ ts_TB := ts_mem 785 (by decide +kernel) (by decide +kernel)
theorem kw_786 : Cond.methodLink RX9 244 yX4_add ∈ ts_TB := ts_mem 786 (by decide +kernel) (by decide +kernel)
theorem kw_787 : Cond.instanceMethod yX4_add ∈ ts_TB := ts_mem 787 (by decide +kernel) (by decide +kernel)
theorem kw_788 : Cond.selects RX4 yX4_add yX4_add ∈ ts_TB := ts_mem 788 (by decide +kernel) (by decide +kernel)
theorem kw_789 : Cond.code yX4_add cX4_add 4 (Option.some FieldType.boolean) ∈ ts_TB := ts_mem 789 (by decide +kernel) (by decide +kernel)
theorem kw_790 : Cond.methodLink RL 93 yX9_forget ∈ ts_TB := ts_mem 790 (by decide +kernel) (by decide +kernel)
theorem kw_791 : Cond.instanceMethod yX9_forget ∈ ts_TB := ts_mem 791 (by decide +kernel) (by decide +kernel)
theorem kw_792 : Cond.selects RX9 yX9_forget yX9_forget ∈ ts_TB := ts_mem 792 (by decide +kernel) (by decide +kernel)
theorem kw_793 : Cond.code yX9_forget cX9_forget 2 (Option.some FieldType.int) ∈ ts_TB := ts_mem 793 (by decide +kernel) (by decide +kernel)
theorem kw_794 : Cond.methodLink RL 97 yX9_nerves ∈ ts_TB := ts_mem 794 (by decide +kernel) (by decide +kernel)
theorem kw_795 : Cond.instanceMethod yX9_nerves ∈ ts_TB := ts_mem 795 (by decide +kernel) (by decide +kernel)
theorem kw_796 : Cond.selects RX9 yX9_nerves yX9_nerves ∈ ts_TB := ts_mem 796 (by decide +kernel) (by decide +kernel)
theorem kw_797 : Cond.code yX9_nerves cX9_nerves 6 (Option.some FieldType.int) ∈ ts_TB := ts_mem 797 (by decide +kernel) (by decide +kernel)
theorem kw_798 : Cond.methodLink RX9 249 yX4_wouldHold ∈ ts_TB := ts_mem 798 (by decide +kernel) (by decide +kernel)
theorem kw_799 : Cond.instanceMethod yX4_wouldHold ∈ ts_TB := ts_mem 799 (by decide +kernel) (by decide +kernel)
theorem kw_800 : Cond.selects RX4 yX4_wouldHold yX4_wouldHold ∈ ts_TB := ts_mem 800 (by decide +kernel) (by decide +kernel)
theorem kw_801 : Cond.code yX4_wouldHold cX4_wouldHold 6 (Option.some FieldType.boolean) ∈ ts_TB := ts_mem 801 (by decide +kernel) (by decide +kernel)
theorem kw_802 : Cond.methodLink RX4 26 yX8_fearAs ∈ ts_TB := ts_mem 802 (by decide +kernel) (by decide +kernel)
theorem kw_803 : Cond.methodLink RL 101 yX9_kinds ∈ ts_TB := ts_mem 803 (by decide +kernel) (by decide +kernel)
theorem kw_804 : Cond.instanceMethod yX9_kinds ∈ ts_TB := ts_mem 804 (by decide +kernel) (by decide +kernel)
theorem kw_805 : Cond.selects RX9 yX9_kinds yX9_kinds ∈ ts_TB := ts_mem 805 (by decide +kernel) (by decide +kernel)
theorem kw_806 : Cond.code yX9_kinds cX9_kinds 4 (Option.some FieldType.int) ∈ ts_TB := ts_mem 806 (by decide +kernel) (by decide +kernel)
theorem kw_807 : Cond.methodLink RL 105 yX9_likely ∈ ts_TB := ts_mem 807 (by decide +kernel) (by decide +kernel)
theorem kw_808 : Cond.instanceMethod yX9_likely ∈ ts_TB := ts_mem 808 (by decide +kernel) (by decide +kernel)
theorem kw_809 : Cond.selects RX9 yX9_likely yX9_likely ∈ ts_TB := ts_mem 809 (by decide +kernel) (by decide +kernel)
theorem kw_810 : Cond.code yX9_likely cX9_likely 8 (Option.some FieldType.int) ∈ ts_TB := ts_mem 810 (by decide +kernel) (by decide +kernel)
theorem kw_811 : Cond.methodLink RX9 253 yX8_frozenBits ∈ ts_TB := ts_mem 811 (by decide +kernel) (by decide +kernel)
theorem kw_812 : Cond.instanceMethod yX8_frozenBits ∈ ts_TB := ts_mem 812 (by decide +kernel) (by decide +kernel)
theorem kw_813 : Cond.selects RX8 yX8_frozenBits yX8_frozenBits ∈ ts_TB := ts_mem 813 (by decide +kernel) (by decide +kernel)
theorem kw_814 : Cond.code yX8_frozenBits cX8_frozenBits 3 (Option.some FieldType.int) ∈ ts_TB := ts_mem 814 (by decide +kernel) (by decide +kernel)
theorem kw_815 : Cond.methodLink RX8 61 yX8_isFrozen ∈ ts_TB := ts_mem 815 (by decide +kernel) (by decide +kernel)
theorem kw_816 : Cond.methodLink RX9 256 yX9_doneIfTheseFall ∈ ts_TB := ts_mem 816 (by decide +kernel) (by decide +kernel)
theorem kw_818 : Cond.instanceMethod yX9_doneIfTheseFall ∈ ts_TB := ts_mem 818 (by decide +kernel) (by decide +kernel)
theorem kw_819 : Cond.code yX9_doneIfTheseFall cX9_doneIfTheseFall 3 (Option.some FieldType.int) ∈ ts_TB := ts_mem 819 (by decide +kernel) (by decide +kernel)
theorem kw_820 : Cond.methodLink RX9 303 yX9_hasBit ∈ ts_TB := ts_mem 820 (by decide +kernel) (by decide +kernel)
theorem kw_821 : Cond.methodLink RX9 287 yX8_doneMany ∈ ts_TB := ts_mem 821 (by decide +kernel) (by decide +kernel)
theorem kw_822 : Cond.methodLink RX9 260 yX9_waysOfTen ∈ ts_TB := ts_mem 822 (by decide +kernel) (by decide +kernel)
theorem kw_823 : Cond.static yX9_waysOfTen ∈ ts_TB := ts_mem 823 (by decide +kernel) (by decide +kernel)
theorem kw_824 : Cond.code yX9_waysOfTen cX9_waysOfTen 5 (Option.some FieldType.int) ∈ ts_TB := ts_mem 824 (by decide +kernel) (by decide +kernel)
theorem kw_825 : Cond.methodLink RX9 264 yJ6_bitCount_0f7a4 ∈ ts_TB := ts_mem 825 (by decide +kernel) (by decide +kernel)
theorem kw_826 : Cond.static yJ6_bitCount_0f7a4 ∈ ts_TB := ts_mem 826 (by decide +kernel) (by decide +kernel)
theorem kw_827 : Cond.code yJ6_bitCount_0f7a4 cJ6_bitCount_0f7a4 1 (Option.some FieldType.int) ∈ ts_TB := ts_mem 827 (by decide +kernel) (by decide +kernel)
theorem kw_828 : Cond.constant RJ6 265 1431655765 ∈ ts_TB := ts_mem 828 (by decide +kernel) (by decide +kernel)
theorem kw_829 : Cond.constant RJ6 266 858993459 ∈ ts_TB := ts_mem 829 (by decide +kernel) (by decide +kernel)
theorem kw_830 : Cond.constant RJ6 267 252645135 ∈ ts_TB := ts_mem 830 (by decide +kernel) (by decide +kernel)
theorem kw_831 : Cond.methodLink RX9 269 yX9_power ∈ ts_TB := ts_mem 831 (by decide +kernel) (by decide +kernel)
theorem kw_832 : Cond.static yX9_power ∈ ts_TB := ts_mem 832 (by decide +kernel) (by decide +kernel)
theorem kw_833 : Cond.code yX9_power cX9_power 4 (Option.some FieldType.int) ∈ ts_TB := ts_mem 833 (by decide +kernel) (by decide +kernel)
theorem kw_834 : Cond.methodLink RX9 272 yX9_commonDivisor ∈ ts_TB := ts_mem 834 (by decide +kernel) (by decide +kernel)
theorem kw_835 : Cond.static yX9_commonDivisor ∈ ts_TB := ts_mem 835 (by decide +kernel) (by decide +kernel)
theorem kw_836 : Cond.code yX9_commonDivisor cX9_commonDivisor 4 (Option.some FieldType.int) ∈ ts_TB := ts_mem 836 (by decide +kernel) (by decide +kernel)
theorem kw_837 : Cond.methodLink RL 109 yX9_decade ∈ ts_TB := ts_mem 837 (by decide +kernel) (by decide +kernel)
theorem kw_838 : Cond.instanceMethod yX9_decade ∈ ts_TB := ts_mem 838 (by decide +kernel) (by decide +kernel)
theorem kw_839 : Cond.selects RX9 yX9_decade yX9_decade ∈ ts_TB := ts_mem 839 (by decide +kernel) (by decide +kernel)
theorem kw_840 : Cond.code yX9_decade cX9_decade 5 (Option.some FieldType.int) ∈ ts_TB := ts_mem 840 (by decide +kernel) (by decide +kernel)
theorem kw_841 : Cond.methodLink RX9 275 yX9_drawOf ∈ ts_TB := ts_mem 841 (by decide +kernel) (by decide +kernel)
theorem kw_842 : Cond.static yX9_drawOf ∈ ts_TB := ts_mem 842 (by decide +kernel) (by decide +kernel)
theorem kw_843 : Cond.code yX9_drawOf cX9_drawOf 4 (Option.some FieldType.int) ∈ ts_TB := ts_mem 843 (by decide +kernel) (by decide +kernel)
theorem kw_844 : Cond.constantLong RX9 306 7919 ∈ ts_TB := ts_mem 844 (by decide +kernel) (by decide +kernel)
theorem kw_845 : Cond.constantLong RX9 308 6151 ∈ ts_TB := ts_mem 845 (by decide +kernel) (by decide +kernel)
theorem kw_846 : Cond.constantLong RX9 310 65521 ∈ ts_TB := ts_mem 846 (by decide +kernel) (by decide +kernel)
theorem kw_847 : Cond.constantLong RX9 312 2 ∈ ts_TB := ts_mem 847 (by decide +kernel) (by decide +kernel)
theorem kw_848 : Cond.methodLink RX9 278 yX8_actBy ∈ ts_TB := ts_mem 848 (by decide +kernel) (by decide +kernel)
theorem kw_849 : Cond.instanceMethod yX8_actBy ∈ ts_TB := ts_mem 849 (by decide +kernel) (by decide +kernel)
theorem kw_850 : Cond.selects RX8 yX8_actBy yX8_actBy ∈ ts_TB := ts_mem 850 (by decide +kernel) (by decide +kernel)
theorem kw_851 : Cond.code yX8_actBy cX8_actBy 4 (Option.none : Option ClassFile.FieldType) ∈ ts_TB := ts_mem 851 (by decide +kernel) (by decide +kernel)
theorem kw_852 : Cond.methodLink RX8 107 yX8_mayGoDown ∈ ts_TB := ts_mem 852 (by decide +kernel) (by decide +kernel)
theorem kw_853 : Cond.methodLink RX8 110 yX8_goDown ∈ ts_TB := ts_mem 853 (by decide +kernel) (by decide +kernel)
theorem kw_854 : Cond.methodLink RX8 114 yX8_mayGoUp ∈ ts_TB := ts_mem 854 (by decide +kernel) (by decide +kernel)
theorem kw_855 : Cond.methodLink RX8 117 yX8_goUp ∈ ts_TB := ts_mem 855 (by decide +kernel) (by decide +kernel)
theorem kw_856 : Cond.methodLink RX8 120 yX8_mayBeCalled ∈ ts_TB := ts_mem 856 (by decide +kernel) (by decide +kernel)
theorem kw_857 : Cond.methodLink RX8 123 yX8_hearCall ∈ ts_TB := ts_mem 857 (by decide +kernel) (by decide +kernel)
theorem kw_858 : Cond.methodLink RX9 281 yX8_goYear ∈ ts_TB := ts_mem 858 (by decide +kernel) (by decide +kernel)
theorem kw_859 : Cond.methodLink RX9 284 yX8_goneMany ∈ ts_TB := ts_mem 859 (by decide +kernel) (by decide +kernel)
theorem kw_860 : Cond.methodLink RX9 290 yX8_stepsTogether ∈ ts_TB := ts_mem 860 (by decide +kernel) (by decide +kernel)
theorem kw_861 : Cond.instanceMethod yX8_stepsTogether ∈ ts_TB := ts_mem 861 (by decide +kernel) (by decide +kernel)
theorem kw_862 : Cond.selects RX8 yX8_stepsTogether yX8_stepsTogether ∈ ts_TB := ts_mem 862 (by decide +kernel) (by decide +kernel)
theorem kw_863 : Cond.code yX8_stepsTogether cX8_stepsTogether 3 (Option.some FieldType.int) ∈ ts_TB := ts_mem 863 (by decide +kernel) (by decide +kernel)
theorem kw_864 : Cond.methodLink RL 113 yX9_keep ∈ ts_TB := ts_mem 864 (by decide +kernel) (by decide +kernel)
theorem kw_865 : Cond.instanceMethod yX9_keep ∈ ts_TB := ts_mem 865 (by decide +kernel) (by decide +kernel)
theorem kw_866 : Cond.selects RX9 yX9_keep yX9_keep ∈ ts_TB := ts_mem 866 (by decide +kernel) (by decide +kernel)
theorem kw_867 : Cond.code yX9_keep cX9_keep 1 (Option.some FieldType.int) ∈ ts_TB := ts_mem 867 (by decide +kernel) (by decide +kernel)
theorem kw_868 : Cond.methodLink RL 117 yX9_back ∈ ts_TB := ts_mem 868 (by decide +kernel) (by decide +kernel)
theorem kw_869 : Cond.instanceMethod yX9_back ∈ ts_TB := ts_mem 869 (by decide +kernel) (by decide +kernel)
theorem kw_870 : Cond.selects RX9 yX9_back yX9_back ∈ ts_TB := ts_mem 870 (by decide +kernel) (by decide +kernel)
theorem kw_871 : Cond.code yX9_back cX9_back 1 (Option.some FieldType.int) ∈ ts_TB := ts_mem 871 (by decide +kernel) (by decide +kernel)
theorem kw_872 : Cond.methodLink RL 121 yX9_count ∈ ts_TB := ts_mem 872 (by decide +kernel) (by decide +kernel)
theorem kw_873 : Cond.instanceMethod yX9_count ∈ ts_TB := ts_mem 873 (by decide +kernel) (by decide +kernel)
theorem kw_874 : Cond.selects RX9 yX9_count yX9_count ∈ ts_TB := ts_mem 874 (by decide +kernel) (by decide +kernel)
theorem kw_875 : Cond.code yX9_count cX9_count 2 (Option.some FieldType.int) ∈ ts_TB := ts_mem 875 (by decide +kernel) (by decide +kernel)
theorem kw_876 : Cond.classLink RL 10 RX10 ∈ ts_TB := ts_mem 876 (by decide +kernel) (by decide +kernel)
theorem kw_877 : Cond.instantiable RX10 25 ∈ ts_TB := ts_mem 877 (by decide +kernel) (by decide +kernel)
theorem kw_878 : Cond.methodLink RL 12 yX10_init ∈ ts_TB := ts_mem 878 (by decide +kernel) (by decide +kernel)
theorem kw_879 : Cond.instanceMethod yX10_init ∈ ts_TB := ts_mem 879 (by decide +kernel) (by decide +kernel)
theorem kw_880 : Cond.code yX10_init cX10_init 1 (Option.none : Option ClassFile.FieldType) ∈ ts_TB := ts_mem 880 (by decide +kernel) (by decide +kernel)
theorem kw_881 : Cond.methodLink RX10 1 objectInit ∈ ts_TB := ts_mem 881 (by decide +kernel) (by decide +kernel)
theorem kw_882 : Cond.methodLink RX10 52 yX10_clearTold ∈ ts_TB := ts_mem 882 (by decide +kernel) (by decide +kernel)
theorem kw_884 : Cond.instanceMethod yX10_clearTold ∈ ts_TB := ts_mem 884 (by decide +kernel) (by decide +kernel)
theorem kw_885 : Cond.code yX10_clearTold cX10_clearTold 2 (Option.none : Option ClassFile.FieldType) ∈ ts_TB := ts_mem 885 (by decide +kernel) (by decide +kernel)
theorem kw_886 : Cond.methodLink RX10 55 yX10_tellsPerson ∈ ts_TB := ts_mem 886 (by decide +kernel) (by decide +kernel)
theorem kw_888 : Cond.instanceMethod yX10_tellsPerson ∈ ts_TB := ts_mem 888 (by decide +kernel) (by decide +kernel)
theorem kw_889 : Cond.code yX10_tellsPerson cX10_tellsPerson 5 (Option.none : Option ClassFile.FieldType) ∈ ts_TB := ts_mem 889 (by decide +kernel) (by decide +kernel)
theorem kw_890 : Cond.methodLink RX10 59 yX10_tellsWork ∈ ts_TB := ts_mem 890 (by decide +kernel) (by decide +kernel)
theorem kw_892 : Cond.instanceMethod yX10_tellsWork ∈ ts_TB := ts_mem 892 (by decide +kernel) (by decide +kernel)
theorem kw_893 : Cond.code yX10_tellsWork cX10_tellsWork 3 (Option.none : Option ClassFile.FieldType) ∈ ts_TB := ts_mem 893 (by decide +kernel) (by decide +kernel)
theorem kw_894 : Cond.methodLink RX10 63 yX10_settles ∈ ts_TB := ts_mem 894 (by decide +kernel) (by decide +kernel)
theorem kw_896 : Cond.instanceMethod yX10_settles ∈ ts_TB := ts_mem 896 (by decide +kernel) (by decide +kernel)
theorem kw_897 : Cond.code yX10_settles cX10_settles 1 (Option.none : Option ClassFile.FieldType) ∈ ts_TB := ts_mem 897 (by decide +kernel) (by decide +kernel)
theorem kw_898 : Cond.methodLink RX10 123 yX10_copies ∈ ts_TB := ts_mem 898 (by decide +kernel) (by decide +kernel)
theorem kw_899 : Cond.static yX10_copies ∈ ts_TB := ts_mem 899 (by decide +kernel) (by decide +kernel)
theorem kw_900 : Cond.code yX10_copies cX10_copies 6 (Option.none : Option ClassFile.FieldType) ∈ ts_TB := ts_mem 900 (by decide +kernel) (by decide +kernel)
theorem kw_901 : Cond.fieldLink RX10 80 "TowerServiceModel" "height" "I" ∈ ts_TB := ts_mem 901 (by decide +kernel) (by decide +kernel)
theorem kw_902 : Cond.fieldLink RX10 73 "TowerServiceModel" "persons" "I" ∈ ts_TB := ts_mem 902 (by decide +kernel) (by decide +kernel)
theorem kw_903 : Cond.fieldLink RX10 7 "TowerServiceModel" "kinds" "[I" ∈ ts_TB := ts_mem 903 (by decide +kernel) (by decide +kernel)
theorem kw_904 : Cond.fieldLink RX10 127 "TowerServiceModel" "works" "I" ∈ ts_TB := ts_mem 904 (by decide +kernel) (by decide +kernel)
theorem kw_905 : Cond.fieldLink RX10 13 "TowerServiceModel" "work" "[I" ∈ ts_TB := ts_mem 905 (by decide +kernel) (by decide +kernel)
theorem kw_906 : Cond.fieldLink RX10 16 "TowerServiceModel" "st" "[I" ∈ ts_TB := ts_mem 906 (by decide +kernel) (by decide +kernel)
theorem kw_907 : Cond.fieldLink RX10 130 "TowerServiceModel" "acts" "I" ∈ ts_TB := ts_mem 907 (by decide +kernel) (by decide +kernel)
theorem kw_908 : Cond.fieldLink RX10 19 "TowerServiceModel" "was" "[I" ∈ ts_TB := ts_mem 908 (by decide +kernel) (by decide +kernel)
theorem kw_909 : Cond.fieldLink RX10 133 "TowerServiceModel" "keeps" "I" ∈ ts_TB := ts_mem 909 (by decide +kernel) (by decide +kernel)
theorem kw_910 : Cond.fieldLink RX10 22 "TowerServiceModel" "kept" "[I" ∈ ts_TB := ts_mem 910 (by decide +kernel) (by decide +kernel)
theorem kw_911 : Cond.fieldLink RX10 136 "TowerServiceModel" "sees" "I" ∈ ts_TB := ts_mem 911 (by decide +kernel) (by decide +kernel)
theorem kw_912 : Cond.fieldLink RX10 25 "TowerServiceModel" "seen" "[I" ∈ ts_TB := ts_mem 912 (by decide +kernel) (by decide +kernel)
theorem kw_913 : Cond.fieldLink RX10 28 "TowerServiceModel" "text" "[I" ∈ ts_TB := ts_mem 913 (by decide +kernel) (by decide +kernel)
theorem kw_914 : Cond.fieldLink RX10 83 "TowerServiceModel" "texted" "I" ∈ ts_TB := ts_mem 914 (by decide +kernel) (by decide +kernel)
theorem kw_915 : Cond.fieldLink RX10 86 "TowerServiceModel" "at" "I" ∈ ts_TB := ts_mem 915 (by decide +kernel) (by decide +kernel)
theorem kw_916 : Cond.fieldLink RX10 31 "TowerServiceModel" "told" "[I" ∈ ts_TB := ts_mem 916 (by decide +kernel) (by decide +kernel)
theorem kw_917 : Cond.fieldLink RX10 97 "TowerServiceModel" "readHeight" "I" ∈ ts_TB := ts_mem 917 (by decide +kernel) (by decide +kernel)
theorem kw_918 : Cond.fieldLink RX10 66 "TowerServiceModel" "readPersons" "I" ∈ ts_TB := ts_mem 918 (by decide +kernel) (by decide +kernel)
theorem kw_919 : Cond.fieldLink RX10 34 "TowerServiceModel" "readKind" "[I" ∈ ts_TB := ts_mem 919 (by decide +kernel) (by decide +kernel)
theorem kw_920 : Cond.fieldLink RX10 37 "TowerServiceModel" "read" "[I" ∈ ts_TB := ts_mem 920 (by decide +kernel) (by decide +kernel)
theorem kw_921 : Cond.fieldLink RX10 70 "TowerServiceModel" "readWorks" "I" ∈ ts_TB := ts_mem 921 (by decide +kernel) (by decide +kernel)
theorem kw_922 : Cond.fieldLink RX10 40 "TowerServiceModel" "readWork" "[I" ∈ ts_TB := ts_mem 922 (by decide +kernel) (by decide +kernel)
theorem kw_923 : Cond.fieldLink RX10 43 "TowerServiceModel" "now" "[I" ∈ ts_TB := ts_mem 923 (by decide +kernel) (by decide +kernel)
theorem kw_924 : Cond.fieldLink RX10 46 "TowerServiceModel" "best" "[I" ∈ ts_TB := ts_mem 924 (by decide +kernel) (by decide +kernel)
theorem kw_925 : Cond.fieldLink RX10 49 "TowerServiceModel" "by" "[I" ∈ ts_TB := ts_mem 925 (by decide +kernel) (by decide +kernel)
theorem kw_926 : Cond.lays RX10 "TowerServiceModel" "height" "I" ∈ ts_TB := ts_mem 926 (by decide +kernel) (by decide +kernel)
theorem kw_928 : Cond.lays RX10 "TowerServiceModel" "persons" "I" ∈ ts_TB := ts_mem 928 (by decide +kernel) (by decide +kernel)
theorem kw_930 : Cond.laysFinal RX10 "TowerServiceModel" "kinds" "[I" ∈ ts_TB := ts_mem 930 (by decide +kernel) (by decide +kernel)
theorem kw_932 : Cond.lays RX10 "TowerServiceModel" "works" "I" ∈ ts_TB := ts_mem 932 (by decide +kernel) (by decide +kernel)
theorem kw_934 : Cond.laysFinal RX10 "TowerServiceModel" "work" "[I" ∈ ts_TB := ts_mem 934 (by decide +kernel) (by decide +kernel)
theorem kw_936 : Cond.laysFinal RX10 "TowerServiceModel" "st" "[I" ∈ ts_TB := ts_mem 936 (by decide +kernel) (by decide +kernel)
theorem kw_938 : Cond.lays RX10 "TowerServiceModel" "acts" "I" ∈ ts_TB := ts_mem 938 (by decide +kernel) (by decide +kernel)
theorem kw_940 : Cond.laysFinal RX10 "TowerServiceModel" "was" "[I" ∈ ts_TB := ts_mem 940 (by decide +kernel) (by decide +kernel)
theorem kw_942 : Cond.lays RX10 "TowerServiceModel" "keeps" "I" ∈ ts_TB := ts_mem 942 (by decide +kernel) (by decide +kernel)
theorem kw_944 : Cond.laysFinal RX10 "TowerServiceModel" "kept" "[I" ∈ ts_TB := ts_mem 944 (by decide +kernel) (by decide +kernel)
theorem kw_946 : Cond.lays RX10 "TowerServiceModel" "sees" "I" ∈ ts_TB := ts_mem 946 (by decide +kernel) (by decide +kernel)
theorem kw_948 : Cond.laysFinal RX10 "TowerServiceModel" "seen" "[I" ∈ ts_TB := ts_mem 948 (by decide +kernel) (by decide +kernel)
theorem kw_950 : Cond.laysFinal RX10 "TowerServiceModel" "text" "[I" ∈ ts_TB := ts_mem 950 (by decide +kernel) (by decide +kernel)
theorem kw_952 : Cond.lays RX10 "TowerServiceModel" "texted" "I" ∈ ts_TB := ts_mem 952 (by decide +kernel) (by decide +kernel)
theorem kw_954 : Cond.lays RX10 "TowerServiceModel" "at" "I" ∈ ts_TB := ts_mem 954 (by decide +kernel) (by decide +kernel)
theorem kw_956 : Cond.laysFinal RX10 "TowerServiceModel" "told" "[I" ∈ ts_TB := ts_mem 956 (by decide +kernel) (by decide +kernel)
theorem kw_958 : Cond.lays RX10 "TowerServiceModel" "readHeight" "I" ∈ ts_TB := ts_mem 958 (by decide +kernel) (by decide +kernel)
theorem kw_960 : Cond.lays RX10 "TowerServiceModel" "readPersons" "I" ∈ ts_TB := ts_mem 960 (by decide +kernel) (by decide +kernel)
theorem kw_962 : Cond.laysFinal RX10 "TowerServiceModel" "readKind" "[I" ∈ ts_TB := ts_mem 962 (by decide +kernel) (by decide +kernel)
theorem kw_964 : Cond.laysFinal RX10 "TowerServiceModel" "read" "[I" ∈ ts_TB := ts_mem 964 (by decide +kernel) (by decide +kernel)
theorem kw_966 : Cond.lays RX10 "TowerServiceModel" "readWorks" "I" ∈ ts_TB := ts_mem 966 (by decide +kernel) (by decide +kernel)
theorem kw_968 : Cond.laysFinal RX10 "TowerServiceModel" "readWork" "[I" ∈ ts_TB := ts_mem 968 (by decide +kernel) (by decide +kernel)
theorem kw_970 : Cond.laysFinal RX10 "TowerServiceModel" "now" "[I" ∈ ts_TB := ts_mem 970 (by decide +kernel) (by decide +kernel)
theorem kw_972 : Cond.laysFinal RX10 "TowerServiceModel" "best" "[I" ∈ ts_TB := ts_mem 972 (by decide +kernel) (by decide +kernel)
theorem kw_974 : Cond.laysFinal RX10 "TowerServiceModel" "by" "[I" ∈ ts_TB := ts_mem 974 (by decide +kernel) (by decide +kernel)
theorem kw_977 : Cond.methodLink RL 17 yX10_write ∈ ts_TB := ts_mem 977 (by decide +kernel) (by decide +kernel)
theorem kw_978 : Cond.instanceMethod yX10_write ∈ ts_TB := ts_mem 978 (by decide +kernel) (by decide +kernel)
theorem kw_979 : Cond.selects RX10 yX10_write yX10_write ∈ ts_TB := ts_mem 979 (by decide +kernel) (by decide +kernel)
theorem kw_980 : Cond.code yX10_write cX10_write 2 (Option.some FieldType.int) ∈ ts_TB := ts_mem 980 (by decide +kernel) (by decide +kernel)
theorem kw_981 : Cond.methodLink RX10 76 yX10_in ∈ ts_TB := ts_mem 981 (by decide +kernel) (by decide +kernel)
theorem kw_982 : Cond.static yX10_in ∈ ts_TB := ts_mem 982 (by decide +kernel) (by decide +kernel)
theorem kw_983 : Cond.code yX10_in cX10_in 3 (Option.some FieldType.boolean) ∈ ts_TB := ts_mem 983 (by decide +kernel) (by decide +kernel)
theorem kw_984 : Cond.methodLink RL 22 yX10_wipe ∈ ts_TB := ts_mem 984 (by decide +kernel) (by decide +kernel)
theorem kw_985 : Cond.instanceMethod yX10_wipe ∈ ts_TB := ts_mem 985 (by decide +kernel) (by decide +kernel)
theorem kw_986 : Cond.selects RX10 yX10_wipe yX10_wipe ∈ ts_TB := ts_mem 986 (by decide +kernel) (by decide +kernel)
theorem kw_987 : Cond.code yX10_wipe cX10_wipe 2 (Option.some FieldType.int) ∈ ts_TB := ts_mem 987 (by decide +kernel) (by decide +kernel)
theorem kw_988 : Cond.methodLink RL 26 yX10_fault ∈ ts_TB := ts_mem 988 (by decide +kernel) (by decide +kernel)
theorem kw_989 : Cond.instanceMethod yX10_fault ∈ ts_TB := ts_mem 989 (by decide +kernel) (by decide +kernel)
theorem kw_990 : Cond.selects RX10 yX10_fault yX10_fault ∈ ts_TB := ts_mem 990 (by decide +kernel) (by decide +kernel)
theorem kw_991 : Cond.code yX10_fault cX10_fault 2 (Option.some FieldType.int) ∈ ts_TB := ts_mem 991 (by decide +kernel) (by decide +kernel)
theorem kw_992 : Cond.methodLink RX10 116 yX10_readItem ∈ ts_TB := ts_mem 992 (by decide +kernel) (by decide +kernel)
theorem kw_994 : Cond.instanceMethod yX10_readItem ∈ ts_TB := ts_mem 994 (by decide +kernel) (by decide +kernel)
theorem kw_995 : Cond.code yX10_readItem cX10_readItem 3 (Option.some FieldType.boolean) ∈ ts_TB := ts_mem 995 (by decide +kernel) (by decide +kernel)
theorem kw_996 : Cond.methodLink RX10 89 yX10_letterAt ∈ ts_TB := ts_mem 996 (by decide +kernel) (by decide +kernel)
theorem kw_998 : Cond.instanceMethod yX10_letterAt ∈ ts_TB := ts_mem 998 (by decide +kernel) (by decide +kernel)
theorem kw_999 : Cond.code yX10_letterAt cX10_letterAt 2 (Option.some FieldType.int) ∈ ts_TB := ts_mem 999 (by decide +kernel) (by decide +kernel)
theorem kw_1000 : Cond.methodLink RX10 106 yX10_readHeightOf ∈ ts_TB := ts_mem 1000 (by decide +kernel) (by decide +kernel)
theorem kw_1002 : Cond.instanceMethod yX10_readHeightOf ∈ ts_TB := ts_mem 1002 (by decide +kernel) (by decide +kernel)
theorem kw_1003 : Cond.code yX10_readHeightOf cX10_readHeightOf 2 (Option.some FieldType.boolean) ∈ ts_TB := ts_mem 1003 (by decide +kernel) (by decide +kernel)
theorem kw_1004 : Cond.methodLink RX10 100 yX10_readNumbers ∈ ts_TB := ts_mem 1004 (by decide +kernel) (by decide +kernel)
theorem kw_1006 : Cond.instanceMethod yX10_readNumbers ∈ ts_TB := ts_mem 1006 (by decide +kernel) (by decide +kernel)
theorem kw_1007 : Cond.code yX10_readNumbers cX10_readNumbers 3 (Option.some FieldType.boolean) ∈ ts_TB := ts_mem 1007 (by decide +kernel) (by decide +kernel)
theorem kw_1008 : Cond.methodLink RX10 93 yX10_isFigure ∈ ts_TB := ts_mem 1008 (by decide +kernel) (by decide +kernel)
theorem kw_1009 : Cond.static yX10_isFigure ∈ ts_TB := ts_mem 1009 (by decide +kernel) (by decide +kernel)
theorem kw_1010 : Cond.code yX10_isFigure cX10_isFigure 1 (Option.some FieldType.boolean) ∈ ts_TB := ts_mem 1010 (by decide +kernel) (by decide +kernel)
theorem kw_1011 : Cond.methodLink RX10 103 yX10_isTold ∈ ts_TB := ts_mem 1011 (by decide +kernel) (by decide +kernel)
theorem kw_1013 : Cond.instanceMethod yX10_isTold ∈ ts_TB := ts_mem 1013 (by decide +kernel) (by decide +kernel)
theorem kw_1014 : Cond.code yX10_isTold cX10_isTold 4 (Option.some FieldType.boolean) ∈ ts_TB := ts_mem 1014 (by decide +kernel) (by decide +kernel)
theorem kw_1015 : Cond.methodLink RX10 110 yX10_readPersonItem ∈ ts_TB := ts_mem 1015 (by decide +kernel) (by decide +kernel)
theorem kw_1017 : Cond.instanceMethod yX10_readPersonItem ∈ ts_TB := ts_mem 1017 (by decide +kernel) (by decide +kernel)
theorem kw_1018 : Cond.code yX10_readPersonItem cX10_readPersonItem 1 (Option.some FieldType.boolean) ∈ ts_TB := ts_mem 1018 (by decide +kernel) (by decide +kernel)
theorem kw_1019 : Cond.methodLink RX10 113 yX10_readWorkItem ∈ ts_TB := ts_mem 1019 (by decide +kernel) (by decide +kernel)
theorem kw_1021 : Cond.instanceMethod yX10_readWorkItem ∈ ts_TB := ts_mem 1021 (by decide +kernel) (by decide +kernel)
theorem kw_1022 : Cond.code yX10_readWorkItem cX10_readWorkItem 1 (Option.some FieldType.boolean) ∈ ts_TB := ts_mem 1022 (by decide +kernel) (by decide +kernel)
theorem kw_1023 : Cond.methodLink RL 30 yX10_lay ∈ ts_TB := ts_mem 1023 (by decide +kernel) (by decide +kernel)
theorem kw_1024 : Cond.instanceMethod yX10_lay ∈ ts_TB := ts_mem 1024 (by decide +kernel) (by decide +kernel)
theorem kw_1025 : Cond.selects RX10 yX10_lay yX10_lay ∈ ts_TB := ts_mem 1025 (by decide +kernel) (by decide +kernel)
theorem kw_1026 : Cond.code yX10_lay cX10_lay 1 (Option.some FieldType.int) ∈ ts_TB := ts_mem 1026 (by decide +kernel) (by decide +kernel)
theorem kw_1027 : Cond.methodLink RX10 119 yX10_fault ∈ ts_TB := ts_mem 1027 (by decide +kernel) (by decide +kernel)
theorem kw_1028 : Cond.methodLink RL 35 yX10_person ∈ ts_TB := ts_mem 1028 (by decide +kernel) (by decide +kernel)
theorem kw_1029 : Cond.instanceMethod yX10_person ∈ ts_TB := ts_mem 1029 (by decide +kernel) (by decide +kernel)
theorem kw_1030 : Cond.selects RX10 yX10_person yX10_person ∈ ts_TB := ts_mem 1030 (by decide +kernel) (by decide +kernel)
theorem kw_1031 : Cond.code yX10_person cX10_person 3 (Option.some FieldType.int) ∈ ts_TB := ts_mem 1031 (by decide +kernel) (by decide +kernel)
theorem kw_1032 : Cond.methodLink RX10 156 yX10_isPerson ∈ ts_TB := ts_mem 1032 (by decide +kernel) (by decide +kernel)
theorem kw_1034 : Cond.instanceMethod yX10_isPerson ∈ ts_TB := ts_mem 1034 (by decide +kernel) (by decide +kernel)
theorem kw_1035 : Cond.code yX10_isPerson cX10_isPerson 2 (Option.some FieldType.boolean) ∈ ts_TB := ts_mem 1035 (by decide +kernel) (by decide +kernel)
theorem kw_1036 : Cond.methodLink RX10 159 yX10_asItIs ∈ ts_TB := ts_mem 1036 (by decide +kernel) (by decide +kernel)
theorem kw_1038 : Cond.instanceMethod yX10_asItIs ∈ ts_TB := ts_mem 1038 (by decide +kernel) (by decide +kernel)
theorem kw_1039 : Cond.code yX10_asItIs cX10_asItIs 1 (Option.none : Option ClassFile.FieldType) ∈ ts_TB := ts_mem 1039 (by decide +kernel) (by decide +kernel)
theorem kw_1040 : Cond.methodLink RX10 147 yX10_fearOf ∈ ts_TB := ts_mem 1040 (by decide +kernel) (by decide +kernel)
theorem kw_1042 : Cond.instanceMethod yX10_fearOf ∈ ts_TB := ts_mem 1042 (by decide +kernel) (by decide +kernel)
theorem kw_1043 : Cond.code yX10_fearOf cX10_fearOf 2 (Option.some FieldType.int) ∈ ts_TB := ts_mem 1043 (by decide +kernel) (by decide +kernel)
theorem kw_1044 : Cond.methodLink RX10 143 yX10_fearAs ∈ ts_TB := ts_mem 1044 (by decide +kernel) (by decide +kernel)
theorem kw_1046 : Cond.instanceMethod yX10_fearAs ∈ ts_TB := ts_mem 1046 (by decide +kernel) (by decide +kernel)
theorem kw_1047 : Cond.code yX10_fearAs cX10_fearAs 6 (Option.some FieldType.int) ∈ ts_TB := ts_mem 1047 (by decide +kernel) (by decide +kernel)
theorem kw_1048 : Cond.methodLink RX10 139 yX10_has ∈ ts_TB := ts_mem 1048 (by decide +kernel) (by decide +kernel)
theorem kw_1049 : Cond.static yX10_has ∈ ts_TB := ts_mem 1049 (by decide +kernel) (by decide +kernel)
theorem kw_1050 : Cond.code yX10_has cX10_has 2 (Option.some FieldType.boolean) ∈ ts_TB := ts_mem 1050 (by decide +kernel) (by decide +kernel)
theorem kw_1051 : Cond.methodLink RX10 150 yX10_frozen ∈ ts_TB := ts_mem 1051 (by decide +kernel) (by decide +kernel)
theorem kw_1053 : Cond.instanceMethod yX10_frozen ∈ ts_TB := ts_mem 1053 (by decide +kernel) (by decide +kernel)
theorem kw_1054 : Cond.code yX10_frozen cX10_frozen 3 (Option.some FieldType.int) ∈ ts_TB := ts_mem 1054 (by decide +kernel) (by decide +kernel)
theorem kw_1055 : Cond.methodLink RX10 162 yX10_canCall ∈ ts_TB := ts_mem 1055 (by decide +kernel) (by decide +kernel)
theorem kw_1057 : Cond.instanceMethod yX10_canCall ∈ ts_TB := ts_mem 1057 (by decide +kernel) (by decide +kernel)
theorem kw_1058 : Cond.code yX10_canCall cX10_canCall 2 (Option.some FieldType.boolean) ∈ ts_TB := ts_mem 1058 (by decide +kernel) (by decide +kernel)
theorem kw_1059 : Cond.methodLink RL 39 yX10_fear ∈ ts_TB := ts_mem 1059 (by decide +kernel) (by decide +kernel)
theorem kw_1060 : Cond.instanceMethod yX10_fear ∈ ts_TB := ts_mem 1060 (by decide +kernel) (by decide +kernel)
theorem kw_1061 : Cond.selects RX10 yX10_fear yX10_fear ∈ ts_TB := ts_mem 1061 (by decide +kernel) (by decide +kernel)
theorem kw_1062 : Cond.code yX10_fear cX10_fear 3 (Option.some FieldType.int) ∈ ts_TB := ts_mem 1062 (by decide +kernel) (by decide +kernel)
theorem kw_1063 : Cond.methodLink RX10 165 yX10_isStep ∈ ts_TB := ts_mem 1063 (by decide +kernel) (by decide +kernel)
theorem kw_1065 : Cond.instanceMethod yX10_isStep ∈ ts_TB := ts_mem 1065 (by decide +kernel) (by decide +kernel)
theorem kw_1066 : Cond.code yX10_isStep cX10_isStep 2 (Option.some FieldType.boolean) ∈ ts_TB := ts_mem 1066 (by decide +kernel) (by decide +kernel)
theorem kw_1067 : Cond.methodLink RL 43 yX10_work ∈ ts_TB := ts_mem 1067 (by decide +kernel) (by decide +kernel)
theorem kw_1068 : Cond.instanceMethod yX10_work ∈ ts_TB := ts_mem 1068 (by decide +kernel) (by decide +kernel)
theorem kw_1069 : Cond.selects RX10 yX10_work yX10_work ∈ ts_TB := ts_mem 1069 (by decide +kernel) (by decide +kernel)
theorem kw_1070 : Cond.code yX10_work cX10_work 3 (Option.some FieldType.int) ∈ ts_TB := ts_mem 1070 (by decide +kernel) (by decide +kernel)
theorem kw_1071 : Cond.methodLink RX10 153 yX10_isDone ∈ ts_TB := ts_mem 1071 (by decide +kernel) (by decide +kernel)
theorem kw_1073 : Cond.instanceMethod yX10_isDone ∈ ts_TB := ts_mem 1073 (by decide +kernel) (by decide +kernel)
theorem kw_1074 : Cond.code yX10_isDone cX10_isDone 5 (Option.some FieldType.boolean) ∈ ts_TB := ts_mem 1074 (by decide +kernel) (by decide +kernel)
theorem kw_1075 : Cond.methodLink RL 47 yX10_pass ∈ ts_TB := ts_mem 1075 (by decide +kernel) (by decide +kernel)
theorem kw_1076 : Cond.instanceMethod yX10_pass ∈ ts_TB := ts_mem 1076 (by decide +kernel) (by decide +kernel)
theorem kw_1077 : Cond.selects RX10 yX10_pass yX10_pass ∈ ts_TB := ts_mem 1077 (by decide +kernel) (by decide +kernel)
theorem kw_1078 : Cond.code yX10_pass cX10_pass 3 (Option.some FieldType.int) ∈ ts_TB := ts_mem 1078 (by decide +kernel) (by decide +kernel)
theorem kw_1079 : Cond.methodLink RX10 168 yX10_goesBy ∈ ts_TB := ts_mem 1079 (by decide +kernel) (by decide +kernel)
theorem kw_1081 : Cond.instanceMethod yX10_goesBy ∈ ts_TB := ts_mem 1081 (by decide +kernel) (by decide +kernel)
theorem kw_1082 : Cond.code yX10_goesBy cX10_goesBy 5 (Option.none : Option ClassFile.FieldType) ∈ ts_TB := ts_mem 1082 (by decide +kernel) (by decide +kernel)
theorem kw_1083 : Cond.methodLink RX10 171 yX10_becomes ∈ ts_TB := ts_mem 1083 (by decide +kernel) (by decide +kernel)
theorem kw_1085 : Cond.instanceMethod yX10_becomes ∈ ts_TB := ts_mem 1085 (by decide +kernel) (by decide +kernel)
theorem kw_1086 : Cond.code yX10_becomes cX10_becomes 2 (Option.none : Option ClassFile.FieldType) ∈ ts_TB := ts_mem 1086 (by decide +kernel) (by decide +kernel)
theorem kw_1087 : Cond.methodLink RL 51 yX10_promote ∈ ts_TB := ts_mem 1087 (by decide +kernel) (by decide +kernel)
theorem kw_1088 : Cond.instanceMethod yX10_promote ∈ ts_TB := ts_mem 1088 (by decide +kernel) (by decide +kernel)
theorem kw_1089 : Cond.selects RX10 yX10_promote yX10_promote ∈ ts_TB := ts_mem 1089 (by decide +kernel) (by decide +kernel)
theorem kw_1090 : Cond.code yX10_promote cX10_promote 2 (Option.some FieldType.int) ∈ ts_TB := ts_mem 1090 (by decide +kernel) (by decide +kernel)
theorem kw_1091 : Cond.methodLink RX10 174 yX10_canPromote ∈ ts_TB := ts_mem 1091 (by decide +kernel) (by decide +kernel)
theorem kw_1093 : Cond.instanceMethod yX10_canPromote ∈ ts_TB := ts_mem 1093 (by decide +kernel) (by decide +kernel)
theorem kw_1094 : Cond.code yX10_canPromote cX10_canPromote 2 (Option.some FieldType.boolean) ∈ ts_TB := ts_mem 1094 (by decide +kernel) (by decide +kernel)
theorem kw_1095 : Cond.methodLink RL 55 yX10_hoist ∈ ts_TB := ts_mem 1095 (by decide +kernel) (by decide +kernel)
theorem kw_1096 : Cond.instanceMethod yX10_hoist ∈ ts_TB := ts_mem 1096 (by decide +kernel) (by decide +kernel)
theorem kw_1097 : Cond.selects RX10 yX10_hoist yX10_hoist ∈ ts_TB := ts_mem 1097 (by decide +kernel) (by decide +kernel)
theorem kw_1098 : Cond.code yX10_hoist cX10_hoist 2 (Option.some FieldType.int) ∈ ts_TB := ts_mem 1098 (by decide +kernel) (by decide +kernel)
theorem kw_1099 : Cond.methodLink RX10 177 yX10_canHoist ∈ ts_TB := ts_mem 1099 (by decide +kernel) (by decide +kernel)
theorem kw_1101 : Cond.instanceMethod yX10_canHoist ∈ ts_TB := ts_mem 1101 (by decide +kernel) (by decide +kernel)
theorem kw_1102 : Cond.code yX10_canHoist cX10_canHoist 2 (Option.some FieldType.boolean) ∈ ts_TB := ts_mem 1102 (by decide +kernel) (by decide +kernel)
theorem kw_1103 : Cond.methodLink RL 59 yX10_call ∈ ts_TB := ts_mem 1103 (by decide +kernel) (by decide +kernel)
theorem kw_1104 : Cond.instanceMethod yX10_call ∈ ts_TB := ts_mem 1104 (by decide +kernel) (by decide +kernel)
theorem kw_1105 : Cond.selects RX10 yX10_call yX10_call ∈ ts_TB := ts_mem 1105 (by decide +kernel) (by decide +kernel)
theorem kw_1106 : Cond.code yX10_call cX10_call 2 (Option.some FieldType.int) ∈ ts_TB := ts_mem 1106 (by decide +kernel) (by decide +kernel)
theorem kw_1107 : Cond.methodLink RX10 180 yX10_calls ∈ ts_TB := ts_mem 1107 (by decide +kernel) (by decide +kernel)
theorem kw_1109 : Cond.instanceMethod yX10_calls ∈ ts_TB := ts_mem 1109 (by decide +kernel) (by decide +kernel)
theorem kw_1110 : Cond.code yX10_calls cX10_calls 4 (Option.none : Option ClassFile.FieldType) ∈ ts_TB := ts_mem 1110 (by decide +kernel) (by decide +kernel)
theorem kw_1111 : Cond.methodLink RL 63 yX10_undo ∈ ts_TB := ts_mem 1111 (by decide +kernel) (by decide +kernel)
theorem kw_1112 : Cond.instanceMethod yX10_undo ∈ ts_TB := ts_mem 1112 (by decide +kernel) (by decide +kernel)
theorem kw_1113 : Cond.selects RX10 yX10_undo yX10_undo ∈ ts_TB := ts_mem 1113 (by decide +kernel) (by decide +kernel)
theorem kw_1114 : Cond.code yX10_undo cX10_undo 1 (Option.some FieldType.int) ∈ ts_TB := ts_mem 1114 (by decide +kernel) (by decide +kernel)
theorem kw_1115 : Cond.methodLink RL 68 yX10_behind ∈ ts_TB := ts_mem 1115 (by decide +kernel) (by decide +kernel)
theorem kw_1116 : Cond.instanceMethod yX10_behind ∈ ts_TB := ts_mem 1116 (by decide +kernel) (by decide +kernel)
theorem kw_1117 : Cond.selects RX10 yX10_behind yX10_behind ∈ ts_TB := ts_mem 1117 (by decide +kernel) (by decide +kernel)
theorem kw_1118 : Cond.code yX10_behind cX10_behind 5 (Option.some FieldType.int) ∈ ts_TB := ts_mem 1118 (by decide +kernel) (by decide +kernel)
theorem kw_1119 : Cond.methodLink RL 72 yX10_lowest ∈ ts_TB := ts_mem 1119 (by decide +kernel) (by decide +kernel)
theorem kw_1120 : Cond.instanceMethod yX10_lowest ∈ ts_TB := ts_mem 1120 (by decide +kernel) (by decide +kernel)
theorem kw_1121 : Cond.selects RX10 yX10_lowest yX10_lowest ∈ ts_TB := ts_mem 1121 (by decide +kernel) (by decide +kernel)
theorem kw_1122 : Cond.code yX10_lowest cX10_lowest 3 (Option.some FieldType.int) ∈ ts_TB := ts_mem 1122 (by decide +kernel) (by decide +kernel)
theorem kw_1123 : Cond.methodLink RL 76 yX10_posting ∈ ts_TB := ts_mem 1123 (by decide +kernel) (by decide +kernel)
theorem kw_1124 : Cond.instanceMethod yX10_posting ∈ ts_TB := ts_mem 1124 (by decide +kernel) (by decide +kernel)
theorem kw_1125 : Cond.selects RX10 yX10_posting yX10_posting ∈ ts_TB := ts_mem 1125 (by decide +kernel) (by decide +kernel)
theorem kw_1126 : Cond.code yX10_posting cX10_posting 5 (Option.some FieldType.int) ∈ ts_TB := ts_mem 1126 (by decide +kernel) (by decide +kernel)
theorem kw_1127 : Cond.methodLink RX10 184 yX10_mayBe ∈ ts_TB := ts_mem 1127 (by decide +kernel) (by decide +kernel)
theorem kw_1129 : Cond.instanceMethod yX10_mayBe ∈ ts_TB := ts_mem 1129 (by decide +kernel) (by decide +kernel)
theorem kw_1130 : Cond.code yX10_mayBe cX10_mayBe 4 (Option.some FieldType.int) ∈ ts_TB := ts_mem 1130 (by decide +kernel) (by decide +kernel)
theorem kw_1131 : Cond.methodLink RX10 187 yX10_leastOf ∈ ts_TB := ts_mem 1131 (by decide +kernel) (by decide +kernel)
theorem kw_1132 : Cond.static yX10_leastOf ∈ ts_TB := ts_mem 1132 (by decide +kernel) (by decide +kernel)
theorem kw_1133 : Cond.code yX10_leastOf cX10_leastOf 2 (Option.some FieldType.int) ∈ ts_TB := ts_mem 1133 (by decide +kernel) (by decide +kernel)
theorem kw_1134 : Cond.methodLink RX10 190 yX10_done ∈ ts_TB := ts_mem 1134 (by decide +kernel) (by decide +kernel)
theorem kw_1136 : Cond.instanceMethod yX10_done ∈ ts_TB := ts_mem 1136 (by decide +kernel) (by decide +kernel)
theorem kw_1137 : Cond.code yX10_done cX10_done 4 (Option.some FieldType.int) ∈ ts_TB := ts_mem 1137 (by decide +kernel) (by decide +kernel)
theorem kw_1138 : Cond.methodLink RX10 193 yX10_putsNext ∈ ts_TB := ts_mem 1138 (by decide +kernel) (by decide +kernel)
theorem kw_1140 : Cond.instanceMethod yX10_putsNext ∈ ts_TB := ts_mem 1140 (by decide +kernel) (by decide +kernel)
theorem kw_1141 : Cond.code yX10_putsNext cX10_putsNext 4 (Option.some FieldType.boolean) ∈ ts_TB := ts_mem 1141 (by decide +kernel) (by decide +kernel)
theorem kw_1142 : Cond.methodLink RL 80 yX10_timetable ∈ ts_TB := ts_mem 1142 (by decide +kernel) (by decide +kernel)
theorem kw_1143 : Cond.instanceMethod yX10_timetable ∈ ts_TB := ts_mem 1143 (by decide +kernel) (by decide +kernel)
theorem kw_1144 : Cond.selects RX10 yX10_timetable yX10_timetable ∈ ts_TB := ts_mem 1144 (by decide +kernel) (by decide +kernel)
theorem kw_1145 : Cond.code yX10_timetable cX10_timetable 7 (Option.some FieldType.int) ∈ ts_TB := ts_mem 1145 (by decide +kernel) (by decide +kernel)
theorem kw_1146 : Cond.methodLink RX10 196 yX10_sevens ∈ ts_TB := ts_mem 1146 (by decide +kernel) (by decide +kernel)
theorem kw_1147 : Cond.static yX10_sevens ∈ ts_TB := ts_mem 1147 (by decide +kernel) (by decide +kernel)
theorem kw_1148 : Cond.code yX10_sevens cX10_sevens 3 (Option.some FieldType.int) ∈ ts_TB := ts_mem 1148 (by decide +kernel) (by decide +kernel)
theorem kw_1149 : Cond.methodLink RX10 199 yX10_doneBy ∈ ts_TB := ts_mem 1149 (by decide +kernel) (by decide +kernel)
theorem kw_1151 : Cond.instanceMethod yX10_doneBy ∈ ts_TB := ts_mem 1151 (by decide +kernel) (by decide +kernel)
theorem kw_1152 : Cond.code yX10_doneBy cX10_doneBy 5 (Option.some FieldType.int) ∈ ts_TB := ts_mem 1152 (by decide +kernel) (by decide +kernel)
theorem kw_1153 : Cond.methodLink RL 84 yX10_swap ∈ ts_TB := ts_mem 1153 (by decide +kernel) (by decide +kernel)
theorem kw_1154 : Cond.instanceMethod yX10_swap ∈ ts_TB := ts_mem 1154 (by decide +kernel) (by decide +kernel)
theorem kw_1155 : Cond.selects RX10 yX10_swap yX10_swap ∈ ts_TB := ts_mem 1155 (by decide +kernel) (by decide +kernel)
theorem kw_1156 : Cond.code yX10_swap cX10_swap 7 (Option.some FieldType.int) ∈ ts_TB := ts_mem 1156 (by decide +kernel) (by decide +kernel)
theorem kw_1157 : Cond.methodLink RL 88 yX10_can ∈ ts_TB := ts_mem 1157 (by decide +kernel) (by decide +kernel)
theorem kw_1158 : Cond.instanceMethod yX10_can ∈ ts_TB := ts_mem 1158 (by decide +kernel) (by decide +kernel)
theorem kw_1159 : Cond.selects RX10 yX10_can yX10_can ∈ ts_TB := ts_mem 1159 (by decide +kernel) (by decide +kernel)
theorem kw_1160 : Cond.code yX10_can cX10_can 10 (Option.some FieldType.int) ∈ ts_TB := ts_mem 1160 (by decide +kernel) (by decide +kernel)
theorem kw_1161 : Cond.methodLink RL 92 yX10_seen ∈ ts_TB := ts_mem 1161 (by decide +kernel) (by decide +kernel)
theorem kw_1162 : Cond.instanceMethod yX10_seen ∈ ts_TB := ts_mem 1162 (by decide +kernel) (by decide +kernel)
theorem kw_1163 : Cond.selects RX10 yX10_seen yX10_seen ∈ ts_TB := ts_mem 1163 (by decide +kernel) (by decide +kernel)
theorem kw_1164 : Cond.code yX10_seen cX10_seen 4 (Option.some FieldType.int) ∈ ts_TB := ts_mem 1164 (by decide +kernel) (by decide +kernel)
theorem kw_1165 : Cond.methodLink RL 96 yX10_forget ∈ ts_TB := ts_mem 1165 (by decide +kernel) (by decide +kernel)
theorem kw_1166 : Cond.instanceMethod yX10_forget ∈ ts_TB := ts_mem 1166 (by decide +kernel) (by decide +kernel)
theorem kw_1167 : Cond.selects RX10 yX10_forget yX10_forget ∈ ts_TB := ts_mem 1167 (by decide +kernel) (by decide +kernel)
theorem kw_1168 : Cond.code yX10_forget cX10_forget 2 (Option.some FieldType.int) ∈ ts_TB := ts_mem 1168 (by decide +kernel) (by decide +kernel)
theorem kw_1169 : Cond.methodLink RL 100 yX10_nerves ∈ ts_TB := ts_mem 1169 (by decide +kernel) (by decide +kernel)
theorem kw_1170 : Cond.instanceMethod yX10_nerves ∈ ts_TB := ts_mem 1170 (by decide +kernel) (by decide +kernel)
theorem kw_1171 : Cond.selects RX10 yX10_nerves yX10_nerves ∈ ts_TB := ts_mem 1171 (by decide +kernel) (by decide +kernel)
theorem kw_1172 : Cond.code yX10_nerves cX10_nerves 7 (Option.some FieldType.int) ∈ ts_TB := ts_mem 1172 (by decide +kernel) (by decide +kernel)
theorem kw_1173 : Cond.methodLink RX10 203 yX10_isSo ∈ ts_TB := ts_mem 1173 (by decide +kernel) (by decide +kernel)
theorem kw_1175 : Cond.instanceMethod yX10_isSo ∈ ts_TB := ts_mem 1175 (by decide +kernel) (by decide +kernel)
theorem kw_1176 : Cond.code yX10_isSo cX10_isSo 7 (Option.some FieldType.boolean) ∈ ts_TB := ts_mem 1176 (by decide +kernel) (by decide +kernel)
theorem kw_1177 : Cond.methodLink RL 104 yX10_kinds ∈ ts_TB := ts_mem 1177 (by decide +kernel) (by decide +kernel)
theorem kw_1178 : Cond.instanceMethod yX10_kinds ∈ ts_TB := ts_mem 1178 (by decide +kernel) (by decide +kernel)
theorem kw_1179 : Cond.selects RX10 yX10_kinds yX10_kinds ∈ ts_TB := ts_mem 1179 (by decide +kernel) (by decide +kernel)
theorem kw_1180 : Cond.code yX10_kinds cX10_kinds 4 (Option.some FieldType.int) ∈ ts_TB := ts_mem 1180 (by decide +kernel) (by decide +kernel)
theorem kw_1181 : Cond.methodLink RL 108 yX10_likely ∈ ts_TB := ts_mem 1181 (by decide +kernel) (by decide +kernel)
theorem kw_1182 : Cond.instanceMethod yX10_likely ∈ ts_TB := ts_mem 1182 (by decide +kernel) (by decide +kernel)
theorem kw_1183 : Cond.selects RX10 yX10_likely yX10_likely ∈ ts_TB := ts_mem 1183 (by decide +kernel) (by decide +kernel)
theorem kw_1184 : Cond.code yX10_likely cX10_likely 10 (Option.some FieldType.int) ∈ ts_TB := ts_mem 1184 (by decide +kernel) (by decide +kernel)
theorem kw_1185 : Cond.methodLink RX10 206 yX10_least ∈ ts_TB := ts_mem 1185 (by decide +kernel) (by decide +kernel)
theorem kw_1186 : Cond.static yX10_least ∈ ts_TB := ts_mem 1186 (by decide +kernel) (by decide +kernel)
theorem kw_1187 : Cond.code yX10_least cX10_least 6 (Option.some FieldType.int) ∈ ts_TB := ts_mem 1187 (by decide +kernel) (by decide +kernel)
theorem kw_1188 : Cond.methodLink RL 112 yX10_decade ∈ ts_TB := ts_mem 1188 (by decide +kernel) (by decide +kernel)
theorem kw_1189 : Cond.instanceMethod yX10_decade ∈ ts_TB := ts_mem 1189 (by decide +kernel) (by decide +kernel)
theorem kw_1190 : Cond.selects RX10 yX10_decade yX10_decade ∈ ts_TB := ts_mem 1190 (by decide +kernel) (by decide +kernel)
theorem kw_1191 : Cond.code yX10_decade cX10_decade 7 (Option.some FieldType.int) ∈ ts_TB := ts_mem 1191 (by decide +kernel) (by decide +kernel)
theorem kw_1192 : Cond.constantLong RX10 209 7919 ∈ ts_TB := ts_mem 1192 (by decide +kernel) (by decide +kernel)
theorem kw_1193 : Cond.constantLong RX10 211 6151 ∈ ts_TB := ts_mem 1193 (by decide +kernel) (by decide +kernel)
theorem kw_1194 : Cond.constantLong RX10 213 65521 ∈ ts_TB := ts_mem 1194 (by decide +kernel) (by decide +kernel)
theorem kw_1195 : Cond.constantLong RX10 215 2 ∈ ts_TB := ts_mem 1195 (by decide +kernel) (by decide +kernel)
theorem kw_1196 : Cond.methodLink RX10 217 yX10_turns ∈ ts_TB := ts_mem 1196 (by decide +kernel) (by decide +kernel)
theorem kw_1198 : Cond.instanceMethod yX10_turns ∈ ts_TB := ts_mem 1198 (by decide +kernel) (by decide +kernel)
theorem kw_1199 : Cond.code yX10_turns cX10_turns 4 (Option.none : Option ClassFile.FieldType) ∈ ts_TB := ts_mem 1199 (by decide +kernel) (by decide +kernel)
theorem kw_1200 : Cond.methodLink RX10 220 yX10_bits ∈ ts_TB := ts_mem 1200 (by decide +kernel) (by decide +kernel)
theorem kw_1201 : Cond.static yX10_bits ∈ ts_TB := ts_mem 1201 (by decide +kernel) (by decide +kernel)
theorem kw_1202 : Cond.code yX10_bits cX10_bits 3 (Option.some FieldType.int) ∈ ts_TB := ts_mem 1202 (by decide +kernel) (by decide +kernel)
theorem kw_1203 : Cond.methodLink RL 116 yX10_keep ∈ ts_TB := ts_mem 1203 (by decide +kernel) (by decide +kernel)
theorem kw_1204 : Cond.instanceMethod yX10_keep ∈ ts_TB := ts_mem 1204 (by decide +kernel) (by decide +kernel)
theorem kw_1205 : Cond.selects RX10 yX10_keep yX10_keep ∈ ts_TB := ts_mem 1205 (by decide +kernel) (by decide +kernel)
theorem kw_1206 : Cond.code yX10_keep cX10_keep 1 (Option.some FieldType.int) ∈ ts_TB := ts_mem 1206 (by decide +kernel) (by decide +kernel)
theorem kw_1207 : Cond.methodLink RL 120 yX10_back ∈ ts_TB := ts_mem 1207 (by decide +kernel) (by decide +kernel)
theorem kw_1208 : Cond.instanceMethod yX10_back ∈ ts_TB := ts_mem 1208 (by decide +kernel) (by decide +kernel)
theorem kw_1209 : Cond.selects RX10 yX10_back yX10_back ∈ ts_TB := ts_mem 1209 (by decide +kernel) (by decide +kernel)
theorem kw_1210 : Cond.code yX10_back cX10_back 1 (Option.some FieldType.int) ∈ ts_TB := ts_mem 1210 (by decide +kernel) (by decide +kernel)
theorem kw_1211 : Cond.methodLink RL 124 yX10_count ∈ ts_TB := ts_mem 1211 (by decide +kernel) (by decide +kernel)
theorem kw_1212 : Cond.instanceMethod yX10_count ∈ ts_TB := ts_mem 1212 (by decide +kernel) (by decide +kernel)
theorem kw_1213 : Cond.selects RX10 yX10_count yX10_count ∈ ts_TB := ts_mem 1213 (by decide +kernel) (by decide +kernel)
theorem kw_1214 : Cond.code yX10_count cX10_count 2 (Option.some FieldType.int) ∈ ts_TB := ts_mem 1214 (by decide +kernel) (by decide +kernel)
theorem kw_1215 : Cond.fieldLink RJ0 9 "java/lang/String" "value" "[B" ∈ ts_TB := ts_mem 1215 (by decide +kernel) (by decide +kernel)
theorem kw_1216 : Cond.fieldLink RJ0 15 "java/lang/String" "coder" "B" ∈ ts_TB := ts_mem 1216 (by decide +kernel) (by decide +kernel)
end
section
/-! The store: the cells of a world are numbered; what changes in them is a number by cell and place; all references stay -/
abbrev ts_S : Type := Nat → Nat → Int32
def ts_w (N : Nat) (E : Nat → (Nat → Int32) → va_E) (ad : Nat → Nat) (σ : ts_S) : va_W := (List.range N).map fun k => (ad k, E k (σ k))
theorem ts_w_get {N : Nat} {E : Nat → (Nat → Int32) → va_E} {ad : Nat → Nat} {σ : ts_S} {k : Nat} (h : k < N) : (ts_w N E ad σ)[k]? = some (ad k, E k (σ k)) := by simp [ts_w, h]
def ts_u (σ : ts_S) (k j : Nat) (x : Int32) : ts_S := va_up σ k (upd (σ k) j x)
theorem ts_w_set {N : Nat} {E : Nat → (Nat → Int32) → va_E} {ad : Nat → Nat} {σ : ts_S} {k : Nat} (f : Nat → Int32) : (ts_w N E ad σ).set k (ad k, E k f) = ts_w N E ad (va_up σ k f) := by
  apply List.ext_getElem?
  intro j
  by_cases hj : j < N
  · by_cases hk : k = j
    · subst hk
      rw [List.getElem?_set_self (by simpa [ts_w] using hj), ts_w_get hj]
      simp [va_up]
    · rw [List.getElem?_set_ne hk, ts_w_get hj, ts_w_get hj]
      have : ¬ j = k := fun h => hk h.symm
      simp [va_up, this]
  · have h1 : (ts_w N E ad (va_up σ k f))[j]? = none := by simp [ts_w]; omega
    have h2 : ((ts_w N E ad σ).set k (ad k, E k f))[j]? = none := by
      rw [List.getElem?_eq_none_iff, List.length_set]
      simp [ts_w]; omega
    rw [h1, h2]
def ts_A (N : Nat) (ad : Nat → Nat) : Nat → Prop := fun q => ∃ k, k < N ∧ q = ad k
def ts_inj (N : Nat) (ad : Nat → Nat) : Prop := ∀ i j, i < N → j < N → ad i = ad j → i = j
theorem ts_w_some {N : Nat} {E : Nat → (Nat → Int32) → va_E} {ad : Nat → Nat} {σ : ts_S} {k : Nat} {q : Nat × va_E} (h : (ts_w N E ad σ)[k]? = some q) : k < N ∧ q = (ad k, E k (σ k)) := by
  have hk : k < N := by
    have := (List.getElem?_eq_some_iff.mp h).1
    simpa [ts_w] using this
  rw [ts_w_get hk] at h
  exact ⟨hk, (Option.some.inj h).symm⟩
theorem ts_D {N : Nat} {E : Nat → (Nat → Int32) → va_E} {ad : Nat → Nat} {σ : ts_S} (h : ts_inj N ad) : va_D (ts_A N ad) (ts_w N E ad σ) := by
  refine ⟨fun i j p q hi hj hpq => ?_, fun k q hk => ?_⟩
  · obtain ⟨h1, rfl⟩ := ts_w_some hi
    obtain ⟨h2, rfl⟩ := ts_w_some hj
    exact h i j h1 h2 hpq
  · obtain ⟨h1, rfl⟩ := ts_w_some hk
    exact ⟨k, h1, rfl⟩
end
section
/-! links to private members of nest mates: they are carried beside the words -/
def ts_NW : List Cond := [Cond.methodLinkNest RX9 9 yX6_init RX9, Cond.methodLinkNest RX9 20 yX2_init RX9, Cond.methodLinkNest RX1 9 yX9_towersOf RX9, Cond.methodLinkNest RX9 51 yX4_init RX9, Cond.methodLinkNest RX7 18 yX9_towersOf RX9, Cond.methodLinkNest RX9 81 yX0_init RX9, Cond.methodLinkNest RX6 69 yX9_within RX9, Cond.methodLinkNest RX8 68 yX9_hasBit RX9, Cond.methodLinkNest RX8 88 yX9_asNumber RX9, Cond.methodLinkNest RX3 131 yX9_asNumber RX9, Cond.methodLinkNest RX3 121 yX9_hasBit RX9, Cond.methodLinkNest RX0 43 yX9_hasBit RX9]
theorem ts_NW_in : ∀ w ∈ ts_NW, w ∈ lw_tbl := by
  intro w h
  simp only [ts_NW, List.mem_cons, List.not_mem_nil, or_false] at h
  rcases h with rfl | rfl | rfl | rfl | rfl | rfl | rfl | rfl | rfl | rfl | rfl | rfl
  · exact List.mem_of_getElem? (i := 87) (by decide +kernel)
  · exact List.mem_of_getElem? (i := 111) (by decide +kernel)
  · exact List.mem_of_getElem? (i := 219) (by decide +kernel)
  · exact List.mem_of_getElem? (i := 240) (by decide +kernel)
  · exact List.mem_of_getElem? (i := 294) (by decide +kernel)
  · exact List.mem_of_getElem? (i := 333) (by decide +kernel)
  · exact List.mem_of_getElem? (i := 430) (by decide +kernel)
  · exact List.mem_of_getElem? (i := 579) (by decide +kernel)
  · exact List.mem_of_getElem? (i := 666) (by decide +kernel)
  · exact List.mem_of_getElem? (i := 705) (by decide +kernel)
  · exact List.mem_of_getElem? (i := 706) (by decide +kernel)
  · exact List.mem_of_getElem? (i := 774) (by decide +kernel)
theorem ts_NW_warm {s U : State} (hW : s.WarmedH U.vm) (h : ∀ w ∈ ts_NW, va_Nw w s) : ∀ w ∈ ts_NW, va_Nw w U := by
  intro w hw
  have h1 := h w hw
  simp only [ts_NW, List.mem_cons, List.not_mem_nil, or_false] at hw
  rcases hw with rfl | rfl | rfl | rfl | rfl | rfl | rfl | rfl | rfl | rfl | rfl | rfl <;> exact va_Nw.warmM hW h1
theorem ts_NW_same {s U : State} (hW : s.vm = U.vm) (h : ∀ w ∈ ts_NW, va_Nw w s) : ∀ w ∈ ts_NW, va_Nw w U := by
  intro w hw
  have h1 := h w hw
  simp only [ts_NW, List.mem_cons, List.not_mem_nil, or_false] at hw
  rcases hw with rfl | rfl | rfl | rfl | rfl | rfl | rfl | rfl | rfl | rfl | rfl | rfl <;> exact va_Nw.same rfl hW h1
end
section
/-! What holds all along a walk; contracts over the store; rows of instructions in these words -/
abbrev ts_Ctx : Type := Program × Launch × Env × Nat × State × MethodId × Array Value × List Frame × Method × Code × (State → Prop)
abbrev ts_Wd : Type := va_G × List (ClassId × FieldType) × Nat × (Nat → (Nat → Int32) → va_E) × (Nat → Nat)
def ts_wd (w : ts_Wd) (σ : ts_S) : va_W := ts_w w.2.2.1 w.2.2.2.1 w.2.2.2.2 σ
def ts_wA (w : ts_Wd) : Nat → Prop := ts_A w.2.2.1 w.2.2.2.2
def ts_At (w : ts_Wd) (σ : ts_S) (U : State) : Prop := va_P w.1 vwCl (ts_wd w σ) U.heap ∧ va_K w.1 vwCl w.2.1 U ∧ ∀ q ∈ ts_NW, va_Nw q U
def ts_rm (n : Nat) : Room := { frames := n, cells := 0, slots := 0, locals := 40 * n }
/-- the machine in the midst of a method: store, place, locals, stack -/
def ts_G (g : ts_Ctx) (w : ts_Wd) (nL : Nat) (σ : ts_S) (pc : Nat) (lv : List (Nat × Value)) (st : List Value) : Prop :=
  ∀ (H : Heap) (locs : List Loc) (ls : Array Slot), va_P w.1 vwCl (ts_wd w σ) H → va_S (ts_wA w) g.2.2.2.2.1.heap H locs → lv_has ls nL lv →
    W g.1 g.2.1 g.2.2.1 (ts_rm g.2.2.2.1) g.2.2.2.2.1 g.2.2.2.2.2.1 g.2.2.2.2.2.2.1 g.2.2.2.2.2.2.2.1 g.2.2.2.2.2.2.2.2.1 g.2.2.2.2.2.2.2.2.2.1 H locs 0 0 g.2.2.2.2.2.2.2.2.2.2 (F0 g.2.2.2.2.2.1 pc ls st)
/-- what is known of a method all along -/
def ts_X (g : ts_Ctx) (w : ts_Wd) (cc : ByteArray) (nL : Nat) (own : String) : Prop :=
  g.1.tables.exec = Jvm.exec ∧ g.2.2.2.2.2.2.2.2.2.1.code = cc ∧ g.2.2.2.2.2.2.2.2.2.1.maxLocals = nL ∧ g.2.2.2.2.1.vm.findClass own = some g.2.2.2.2.2.1.cls ∧ (∀ q ∈ ts_TB, q.before g.2.2.2.2.2.2.1 g.2.2.2.2.1 = true) ∧ va_K w.1 vwCl w.2.1 g.2.2.2.2.1 ∧ (∀ q ∈ ts_NW, va_Nw q g.2.2.2.2.1) ∧ ts_inj w.2.2.1 w.2.2.2.2
def ts_Mi (l : Launch) (y : MethodName) (w0 : Cond) (n : Nat) (w : ts_Wd) (av : List Value) (σ : ts_S) (K : Int32 → ts_S → Prop) : Prop :=
  Met l y (w0 :: ts_TB) (ts_rm n) (va_Pc av (ts_At w σ)) (va_Qi K (fun u t => ts_At w u t) (ts_wA w)) 0 0 (ts_wA w)
def ts_Mv (l : Launch) (y : MethodName) (w0 : Cond) (n : Nat) (w : ts_Wd) (av : List Value) (σ : ts_S) (K : ts_S → Prop) : Prop :=
  Met l y (w0 :: ts_TB) (ts_rm n) (va_Pc av (ts_At w σ)) (va_Qv K (fun u t => ts_At w u t) (ts_wA w)) 0 0 (ts_wA w)
/-- a method's own facts for a call -/
def ts_ok (y : MethodName) (n : Nat) : Prop := y.cls ≠ "java/lang/invoke/MethodHandle" ∧ y.cls ≠ "java/lang/invoke/VarHandle" ∧ (parseMethodDescriptor y.desc).map (fun d => d.parameters.length) = some n
/-- the words of a call on an object, of a static call, of a static call in the nest -/
def ts_cV (own : String) (idx : Nat) (y : MethodName) (w0 : Cond) : Prop := Cond.methodLink own idx y ∈ ts_TB ∧ Cond.instanceMethod y ∈ ts_TB ∧ Cond.selects y.cls y y ∈ ts_TB ∧ Cond.initialized y.cls ∈ ts_TB ∧ w0 ∈ ts_TB
def ts_cS (own : String) (idx : Nat) (y : MethodName) (w0 : Cond) : Prop := Cond.methodLink own idx y ∈ ts_TB ∧ Cond.static y ∈ ts_TB ∧ Cond.initialized y.cls ∈ ts_TB ∧ w0 ∈ ts_TB
def ts_cN (own : String) (idx : Nat) (y : MethodName) (w0 : Cond) : Prop := (∃ host : String, Cond.methodLinkNest own idx y host ∈ ts_NW) ∧ Cond.static y ∈ ts_TB ∧ Cond.initialized y.cls ∈ ts_TB ∧ w0 ∈ ts_TB
theorem ts_goodIn' {w1 : Cond} (h : w1 ∈ ts_TB) : GoodIn ts_TB (w1 :: ts_TB) := by
  intro w hw
  rcases List.mem_cons.mp hw with rfl | hw
  · exact ⟨h, ts_good _ h⟩
  · exact ⟨hw, ts_good _ hw⟩
theorem ts_At.blind {w : ts_Wd} {σ : ts_S} {av : List Value} : FrameBlind (va_Pc av (ts_At w σ)) := by
  intro a U g mk q
  exact ⟨q.1, q.2.1, va_K.moved (u := U) (U := U.calling g mk a) (Vm.Alike.refl U.vm) q.2.2.1, ts_NW_same (s := U) (U := U.calling g mk a) rfl q.2.2.2⟩
def ts_zb (v : Int32) : Prop := narrow .boolean (.int v) = .int v
section TSR
variable {g : ts_Ctx} {w : ts_Wd} {cc : ByteArray} {nL : Nat} {own : String} {σ : ts_S} {pc : Nat} {lv lv' : List (Nat × Value)} {st : List Value}
theorem ts_X.hx (X : ts_X g w cc nL own) : g.1.tables.exec = Jvm.exec := X.1
theorem ts_X.hb (X : ts_X g w cc nL own) : g.2.2.2.2.2.2.2.2.2.1.code = cc := X.2.1
theorem ts_X.hml (X : ts_X g w cc nL own) : g.2.2.2.2.2.2.2.2.2.1.maxLocals = nL := X.2.2.1
theorem ts_X.hown (X : ts_X g w cc nL own) : g.2.2.2.2.1.vm.findClass own = some g.2.2.2.2.2.1.cls := X.2.2.2.1
theorem ts_X.hts (X : ts_X g w cc nL own) : ∀ q ∈ ts_TB, q.before g.2.2.2.2.2.2.1 g.2.2.2.2.1 = true := X.2.2.2.2.1
theorem ts_X.hK (X : ts_X g w cc nL own) : va_K w.1 vwCl w.2.1 g.2.2.2.2.1 := X.2.2.2.2.2.1
theorem ts_X.hN (X : ts_X g w cc nL own) : ∀ q ∈ ts_NW, va_Nw q g.2.2.2.2.1 := X.2.2.2.2.2.2.1
theorem ts_X.hi (X : ts_X g w cc nL own) : ts_inj w.2.2.1 w.2.2.2.2 := X.2.2.2.2.2.2.2
theorem ts_X.at (X : ts_X g w cc nL own) {H : Heap} {U : State} (hU : U.heap = H) (hW : g.2.2.2.2.1.WarmedH U.vm) (hP : va_P w.1 vwCl (ts_wd w σ) H) : ts_At w σ U :=
  ⟨by rw [hU]; exact hP, va_K.moved hW.alike X.hK, ts_NW_warm hW X.hN⟩
theorem ts_sub (ks : List Nat) (hl : lv_pick lv ks = lv') (k : ts_G g w nL σ pc lv' st) : ts_G g w nL σ pc lv st :=
  fun H locs ls hP hS hl0 => k H locs ls hP hS (lv_sub hl0 ks hl)
theorem ts_iconst {n : Int} {v : Int32} (X : ts_X g w cc nL own) (d : decode cc pc = .ok (.iconst n, 1)) (hv : Int32.ofInt n = v) (k : ts_G g w nL σ (pc + 1) lv (.int v :: st)) : ts_G g w nL σ pc lv (st) :=
  fun H locs ls hP hS hl => lv_iconst X.hx X.hb d hv (k H locs ls hP hS hl)
theorem ts_bipush {n : Int} {v : Int32} (X : ts_X g w cc nL own) (d : decode cc pc = .ok (.bipush n, 2)) (hv : (Int8.ofInt n).toInt32 = v) (k : ts_G g w nL σ (pc + 2) lv (.int v :: st)) : ts_G g w nL σ pc lv (st) :=
  fun H locs ls hP hS hl => lv_bipush X.hx X.hb d hv (k H locs ls hP hS hl)
theorem ts_sipush {n : Int} {v : Int32} (X : ts_X g w cc nL own) (d : decode cc pc = .ok (.sipush n, 3)) (hv : (Int16.ofInt n).toInt32 = v) (k : ts_G g w nL σ (pc + 3) lv (.int v :: st)) : ts_G g w nL σ pc lv (st) :=
  fun H locs ls hP hS hl => lv_sipush X.hx X.hb d hv (k H locs ls hP hS hl)
theorem ts_lconst {n : Fin 2} {v : Int64} (X : ts_X g w cc nL own) (d : decode cc pc = .ok (.lconst n, 1)) (hv : Int64.ofNat (n : Nat) = v) (k : ts_G g w nL σ (pc + 1) lv (.long v :: st)) : ts_G g w nL σ pc lv (st) :=
  fun H locs ls hP hS hl => lv_lconst X.hx X.hb d hv (k H locs ls hP hS hl)
theorem ts_iload_n {k0 : Fin 4} {x : Int32} (X : ts_X g w cc nL own) (d : decode cc pc = .ok (.iload_n k0, 1)) (j : Nat) (h : lv[j]? = some ((k0 : Nat), .int x)) (k : ts_G g w nL σ (pc + 1) lv (.int x :: st)) : ts_G g w nL σ pc lv (st) :=
  fun H locs ls hP hS hl => lv_iload_n X.hx X.hb d rfl (lv_at hl j h) (k H locs ls hP hS hl)
theorem ts_iload {i : Nat} {x : Int32} (X : ts_X g w cc nL own) (d : decode cc pc = .ok (.iload i, 2)) (j : Nat) (h : lv[j]? = some (i, .int x)) (k : ts_G g w nL σ (pc + 2) lv (.int x :: st)) : ts_G g w nL σ pc lv (st) :=
  fun H locs ls hP hS hl => lv_iload X.hx X.hb d (lv_at hl j h) (k H locs ls hP hS hl)
theorem ts_lload_n {k0 : Fin 4} {x : Int64} (X : ts_X g w cc nL own) (d : decode cc pc = .ok (.lload_n k0, 1)) (j : Nat) (h : lv[j]? = some ((k0 : Nat), .long x)) (k : ts_G g w nL σ (pc + 1) lv (.long x :: st)) : ts_G g w nL σ pc lv (st) :=
  fun H locs ls hP hS hl => lv_lload_n X.hx X.hb d rfl (lv_at hl j h) (k H locs ls hP hS hl)
theorem ts_lload {i : Nat} {x : Int64} (X : ts_X g w cc nL own) (d : decode cc pc = .ok (.lload i, 2)) (j : Nat) (h : lv[j]? = some (i, .long x)) (k : ts_G g w nL σ (pc + 2) lv (.long x :: st)) : ts_G g w nL σ pc lv (st) :=
  fun H locs ls hP hS hl => lv_lload X.hx X.hb d (lv_at hl j h) (k H locs ls hP hS hl)
theorem ts_aload_n {k0 : Fin 4} {x : Nat} (X : ts_X g w cc nL own) (d : decode cc pc = .ok (.aload_n k0, 1)) (j : Nat) (h : lv[j]? = some ((k0 : Nat), .ref x)) (k : ts_G g w nL σ (pc + 1) lv (.ref x :: st)) : ts_G g w nL σ pc lv (st) :=
  fun H locs ls hP hS hl => lv_aload_n X.hx X.hb d rfl (lv_at hl j h) (k H locs ls hP hS hl)
theorem ts_aload {i : Nat} {x : Nat} (X : ts_X g w cc nL own) (d : decode cc pc = .ok (.aload i, 2)) (j : Nat) (h : lv[j]? = some (i, .ref x)) (k : ts_G g w nL σ (pc + 2) lv (.ref x :: st)) : ts_G g w nL σ pc lv (st) :=
  fun H locs ls hP hS hl => lv_aload X.hx X.hb d (lv_at hl j h) (k H locs ls hP hS hl)
theorem ts_istore_n {k0 : Fin 4} {x : Int32} (X : ts_X g w cc nL own) (d : decode cc pc = .ok (.istore_n k0, 1)) (hn : (k0 : Nat) < nL) (hl : ((k0 : Nat), Value.int x) :: lv.filter (fun q => !(q.1 == (k0 : Nat)) && !(q.1 + 1 == (k0 : Nat) && q.2.category == 2)) = lv') (k : ts_G g w nL σ (pc + 1) lv' st) : ts_G g w nL σ pc lv (.int x :: st) :=
  fun H locs ls hP hS hl0 => lv_istore_n X.hx X.hb d rfl hl0 hn hl (fun ls' hl' => k H locs ls' hP hS hl')
theorem ts_istore {i : Nat} {x : Int32} (X : ts_X g w cc nL own) (d : decode cc pc = .ok (.istore i, 2)) (hn : i < nL) (hl : (i, Value.int x) :: lv.filter (fun q => !(q.1 == i) && !(q.1 + 1 == i && q.2.category == 2)) = lv') (k : ts_G g w nL σ (pc + 2) lv' st) : ts_G g w nL σ pc lv (.int x :: st) :=
  fun H locs ls hP hS hl0 => lv_istore X.hx X.hb d hl0 hn hl (fun ls' hl' => k H locs ls' hP hS hl')
theorem ts_lstore_n {k0 : Fin 4} {x : Int64} (X : ts_X g w cc nL own) (d : decode cc pc = .ok (.lstore_n k0, 1)) (hn : (k0 : Nat) + 1 < nL) (hl : ((k0 : Nat), Value.long x) :: lv.filter (fun q => !(q.1 == (k0 : Nat)) && (!(q.1 == (k0 : Nat) + 1) && !(q.1 + 1 == (k0 : Nat) && q.2.category == 2))) = lv') (k : ts_G g w nL σ (pc + 1) lv' st) : ts_G g w nL σ pc lv (.long x :: st) :=
  fun H locs ls hP hS hl0 => lv_lstore_n X.hx X.hb d rfl hl0 hn hl (fun ls' hl' => k H locs ls' hP hS hl')
theorem ts_lstore {i : Nat} {x : Int64} (X : ts_X g w cc nL own) (d : decode cc pc = .ok (.lstore i, 2)) (hn : i + 1 < nL) (hl : (i, Value.long x) :: lv.filter (fun q => !(q.1 == i) && (!(q.1 == i + 1) && !(q.1 + 1 == i && q.2.category == 2))) = lv') (k : ts_G g w nL σ (pc + 2) lv' st) : ts_G g w nL σ pc lv (.long x :: st) :=
  fun H locs ls hP hS hl0 => lv_lstore X.hx X.hb d hl0 hn hl (fun ls' hl' => k H locs ls' hP hS hl')
theorem ts_astore_n {k0 : Fin 4} {x : Nat} (X : ts_X g w cc nL own) (d : decode cc pc = .ok (.astore_n k0, 1)) (hn : (k0 : Nat) < nL) (hl : ((k0 : Nat), Value.ref x) :: lv.filter (fun q => !(q.1 == (k0 : Nat)) && !(q.1 + 1 == (k0 : Nat) && q.2.category == 2)) = lv') (k : ts_G g w nL σ (pc + 1) lv' st) : ts_G g w nL σ pc lv (.ref x :: st) :=
  fun H locs ls hP hS hl0 => lv_astore_n X.hx X.hb d rfl hl0 hn hl (fun ls' hl' => k H locs ls' hP hS hl')
theorem ts_astore {i : Nat} {x : Nat} (X : ts_X g w cc nL own) (d : decode cc pc = .ok (.astore i, 2)) (hn : i < nL) (hl : (i, Value.ref x) :: lv.filter (fun q => !(q.1 == i) && !(q.1 + 1 == i && q.2.category == 2)) = lv') (k : ts_G g w nL σ (pc + 2) lv' st) : ts_G g w nL σ pc lv (.ref x :: st) :=
  fun H locs ls hP hS hl0 => lv_astore X.hx X.hb d hl0 hn hl (fun ls' hl' => k H locs ls' hP hS hl')
theorem ts_iinc {i : Nat} {n : Int} {x v : Int32} (X : ts_X g w cc nL own) (d : decode cc pc = .ok (.iinc i n, 3)) (j : Nat) (hk : lv[j]? = some (i, .int x)) (hv : x + Int32.ofInt n = v) (hn : i < nL) (hl : (i, Value.int v) :: lv.filter (fun q => !(q.1 == i) && !(q.1 + 1 == i && q.2.category == 2)) = lv') (k : ts_G g w nL σ (pc + 3) lv' st) : ts_G g w nL σ pc lv st :=
  fun H locs ls hP hS hl0 => lv_iinc X.hx X.hb d hl0 hk hv hn hl (fun ls' hl' => k H locs ls' hP hS hl')
theorem ts_iadd {x y : Int32} (X : ts_X g w cc nL own) (d : decode cc pc = .ok (.iadd, 1)) (k : ts_G g w nL σ (pc + 1) lv (.int (x + y) :: st)) : ts_G g w nL σ pc lv (.int y :: .int x :: st) :=
  fun H locs ls hP hS hl => lv_iadd X.hx X.hb d (k H locs ls hP hS hl)
theorem ts_isub {x y : Int32} (X : ts_X g w cc nL own) (d : decode cc pc = .ok (.isub, 1)) (k : ts_G g w nL σ (pc + 1) lv (.int (x - y) :: st)) : ts_G g w nL σ pc lv (.int y :: .int x :: st) :=
  fun H locs ls hP hS hl => lv_isub X.hx X.hb d (k H locs ls hP hS hl)
theorem ts_imul {x y : Int32} (X : ts_X g w cc nL own) (d : decode cc pc = .ok (.imul, 1)) (k : ts_G g w nL σ (pc + 1) lv (.int (x * y) :: st)) : ts_G g w nL σ pc lv (.int y :: .int x :: st) :=
  fun H locs ls hP hS hl => lv_imul X.hx X.hb d (k H locs ls hP hS hl)
theorem ts_iand {x y : Int32} (X : ts_X g w cc nL own) (d : decode cc pc = .ok (.iand, 1)) (k : ts_G g w nL σ (pc + 1) lv (.int (x &&& y) :: st)) : ts_G g w nL σ pc lv (.int y :: .int x :: st) :=
  fun H locs ls hP hS hl => lv_iand X.hx X.hb d (k H locs ls hP hS hl)
theorem ts_ior {x y : Int32} (X : ts_X g w cc nL own) (d : decode cc pc = .ok (.ior, 1)) (k : ts_G g w nL σ (pc + 1) lv (.int (x ||| y) :: st)) : ts_G g w nL σ pc lv (.int y :: .int x :: st) :=
  fun H locs ls hP hS hl => lv_ior X.hx X.hb d (k H locs ls hP hS hl)
theorem ts_ixor {x y : Int32} (X : ts_X g w cc nL own) (d : decode cc pc = .ok (.ixor, 1)) (k : ts_G g w nL σ (pc + 1) lv (.int (x ^^^ y) :: st)) : ts_G g w nL σ pc lv (.int y :: .int x :: st) :=
  fun H locs ls hP hS hl => lv_ixor X.hx X.hb d (k H locs ls hP hS hl)
theorem ts_ishl {x y : Int32} (X : ts_X g w cc nL own) (d : decode cc pc = .ok (.ishl, 1)) (k : ts_G g w nL σ (pc + 1) lv (.int (x <<< (y &&& 31)) :: st)) : ts_G g w nL σ pc lv (.int y :: .int x :: st) :=
  fun H locs ls hP hS hl => lv_ishl X.hx X.hb d (k H locs ls hP hS hl)
theorem ts_ishr {x y : Int32} (X : ts_X g w cc nL own) (d : decode cc pc = .ok (.ishr, 1)) (k : ts_G g w nL σ (pc + 1) lv (.int (x >>> (y &&& 31)) :: st)) : ts_G g w nL σ pc lv (.int y :: .int x :: st) :=
  fun H locs ls hP hS hl => lv_ishr X.hx X.hb d (k H locs ls hP hS hl)
theorem ts_iushr {x y : Int32} (X : ts_X g w cc nL own) (d : decode cc pc = .ok (.iushr, 1)) (k : ts_G g w nL σ (pc + 1) lv (.int ((x.toUInt32 >>> (y.toUInt32 &&& Int32.toUInt32 31)).toInt32) :: st)) : ts_G g w nL σ pc lv (.int y :: .int x :: st) :=
  fun H locs ls hP hS hl => lv_iushr X.hx X.hb d rfl (k H locs ls hP hS hl)
theorem ts_idiv {x y : Int32} (X : ts_X g w cc nL own) (d : decode cc pc = .ok (.idiv, 1)) (hne : ¬ y = 0) (k : ts_G g w nL σ (pc + 1) lv (.int (x / y) :: st)) : ts_G g w nL σ pc lv (.int y :: .int x :: st) :=
  fun H locs ls hP hS hl => lv_idiv X.hx X.hb d hne (k H locs ls hP hS hl)
theorem ts_irem {x y : Int32} (X : ts_X g w cc nL own) (d : decode cc pc = .ok (.irem, 1)) (hne : ¬ y = 0) (k : ts_G g w nL σ (pc + 1) lv (.int (x - x / y * y) :: st)) : ts_G g w nL σ pc lv (.int y :: .int x :: st) :=
  fun H locs ls hP hS hl => lv_irem X.hx X.hb d hne (k H locs ls hP hS hl)
theorem ts_ladd {x y : Int64} (X : ts_X g w cc nL own) (d : decode cc pc = .ok (.ladd, 1)) (k : ts_G g w nL σ (pc + 1) lv (.long (x + y) :: st)) : ts_G g w nL σ pc lv (.long y :: .long x :: st) :=
  fun H locs ls hP hS hl => lv_ladd X.hx X.hb d (k H locs ls hP hS hl)
theorem ts_lmul {x y : Int64} (X : ts_X g w cc nL own) (d : decode cc pc = .ok (.lmul, 1)) (k : ts_G g w nL σ (pc + 1) lv (.long (x * y) :: st)) : ts_G g w nL σ pc lv (.long y :: .long x :: st) :=
  fun H locs ls hP hS hl => lv_lmul X.hx X.hb d (k H locs ls hP hS hl)
theorem ts_ldiv {x y : Int64} (X : ts_X g w cc nL own) (d : decode cc pc = .ok (.ldiv, 1)) (hne : ¬ y = 0) (k : ts_G g w nL σ (pc + 1) lv (.long (x / y) :: st)) : ts_G g w nL σ pc lv (.long y :: .long x :: st) :=
  fun H locs ls hP hS hl => lv_ldiv X.hx X.hb d hne (k H locs ls hP hS hl)
theorem ts_lrem {x y : Int64} (X : ts_X g w cc nL own) (d : decode cc pc = .ok (.lrem, 1)) (hne : ¬ y = 0) (k : ts_G g w nL σ (pc + 1) lv (.long (x - x / y * y) :: st)) : ts_G g w nL σ pc lv (.long y :: .long x :: st) :=
  fun H locs ls hP hS hl => lv_lrem X.hx X.hb d hne (k H locs ls hP hS hl)
theorem ts_i2c {x : Int32} (X : ts_X g w cc nL own) (d : decode cc pc = .ok (.i2c, 1)) (k : ts_G g w nL σ (pc + 1) lv (.int ((x.toUInt32 % 65536).toInt32) :: st)) : ts_G g w nL σ pc lv (.int x :: st) :=
  fun H locs ls hP hS hl => lv_i2c X.hx X.hb d rfl (k H locs ls hP hS hl)
theorem ts_i2l {x : Int32} (X : ts_X g w cc nL own) (d : decode cc pc = .ok (.i2l, 1)) (k : ts_G g w nL σ (pc + 1) lv (.long x.toInt64 :: st)) : ts_G g w nL σ pc lv (.int x :: st) :=
  fun H locs ls hP hS hl => lv_i2l X.hx X.hb d rfl (k H locs ls hP hS hl)
theorem ts_l2i {x : Int64} (X : ts_X g w cc nL own) (d : decode cc pc = .ok (.l2i, 1)) (k : ts_G g w nL σ (pc + 1) lv (.int x.toInt32 :: st)) : ts_G g w nL σ pc lv (.long x :: st) :=
  fun H locs ls hP hS hl => lv_l2i X.hx X.hb d rfl (k H locs ls hP hS hl)
theorem ts_ldc2 {index : Nat} {v : Int64} (X : ts_X g w cc nL own) (h : Cond.constantLong own index v ∈ ts_TB) (d : decode cc pc = .ok (.ldc2_w index, 3)) (k : ts_G g w nL σ (pc + 3) lv (.long v :: st)) : ts_G g w nL σ pc lv st :=
  fun H locs ls hP hS hl => lv_ldc2 X.hx X.hb X.hown (X.hts _ h) d (k H locs ls hP hS hl)
theorem ts_ldcw {index : Nat} {v : Int32} (X : ts_X g w cc nL own) (h : Cond.constant own index v ∈ ts_TB) (d : decode cc pc = .ok (.ldc_w index, 3)) (k : ts_G g w nL σ (pc + 3) lv (.int v :: st)) : ts_G g w nL σ pc lv st :=
  fun H locs ls hP hS hl => lv_ldcw X.hx X.hb X.hown (X.hts _ h) d (k H locs ls hP hS hl)
theorem ts_dup {va : Value} (X : ts_X g w cc nL own) (d : decode cc pc = .ok (.dup, 1)) (h : va.category = 1) (k : ts_G g w nL σ (pc + 1) lv (va :: va :: st)) : ts_G g w nL σ pc lv (va :: st) :=
  fun H locs ls hP hS hl => lv_dup X.hx X.hb d h (k H locs ls hP hS hl)
theorem ts_dup2 {va vb : Value} (X : ts_X g w cc nL own) (d : decode cc pc = .ok (.dup2, 1)) (h : va.category = 1) (h2 : vb.category = 1) (k : ts_G g w nL σ (pc + 1) lv (va :: vb :: va :: vb :: st)) : ts_G g w nL σ pc lv (va :: vb :: st) :=
  fun H locs ls hP hS hl => lv_dup2_11 X.hx X.hb d h h2 (k H locs ls hP hS hl)
theorem ts_pop {va : Value} (X : ts_X g w cc nL own) (d : decode cc pc = .ok (.pop, 1)) (h : va.category = 1) (k : ts_G g w nL σ (pc + 1) lv (st)) : ts_G g w nL σ pc lv (va :: st) :=
  fun H locs ls hP hS hl => lv_pop X.hx X.hb d h (k H locs ls hP hS hl)
theorem ts_goto {off : Int} (tgt : Nat) (X : ts_X g w cc nL own) (d : decode cc pc = .ok (.goto off, 3)) (ht : (pc : Int) + off = (tgt : Int)) (k : ts_G g w nL σ tgt lv st) : ts_G g w nL σ pc lv st :=
  fun H locs ls hP hS hl => lv_goto X.hx X.hb d ht (k H locs ls hP hS hl)
theorem ts_if_eq {off : Int} {x : Int32} (tgt : Nat) (X : ts_X g w cc nL own) (d : decode cc pc = .ok (.ifCond .eq off, 3)) (ht : (pc : Int) + off = (tgt : Int)) (kt : x = 0 → ts_G g w nL σ tgt lv st) (kf : ¬ x = 0 → ts_G g w nL σ (pc + 3) lv st) : ts_G g w nL σ pc lv (.int x :: st) :=
  fun H locs ls hP hS hl => lv_if_eq X.hx X.hb d ht (fun c => kt c H locs ls hP hS hl) (fun c => kf c H locs ls hP hS hl)
theorem ts_icmp_eq {off : Int} {x y : Int32} (tgt : Nat) (X : ts_X g w cc nL own) (d : decode cc pc = .ok (.if_icmp .eq off, 3)) (ht : (pc : Int) + off = (tgt : Int)) (kt : x = y → ts_G g w nL σ tgt lv st) (kf : ¬ x = y → ts_G g w nL σ (pc + 3) lv st) : ts_G g w nL σ pc lv (.int y :: .int x :: st) :=
  fun H locs ls hP hS hl => lv_icmp_eq X.hx X.hb d ht (fun c => kt c H locs ls hP hS hl) (fun c => kf c H locs ls hP hS hl)
theorem ts_if_ne {off : Int} {x : Int32} (tgt : Nat) (X : ts_X g w cc nL own) (d : decode cc pc = .ok (.ifCond .ne off, 3)) (ht : (pc : Int) + off = (tgt : Int)) (kt : ¬ x = 0 → ts_G g w nL σ tgt lv st) (kf : x = 0 → ts_G g w nL σ (pc + 3) lv st) : ts_G g w nL σ pc lv (.int x :: st) :=
  fun H locs ls hP hS hl => lv_if_ne X.hx X.hb d ht (fun c => kt c H locs ls hP hS hl) (fun c => kf c H locs ls hP hS hl)
theorem ts_icmp_ne {off : Int} {x y : Int32} (tgt : Nat) (X : ts_X g w cc nL own) (d : decode cc pc = .ok (.if_icmp .ne off, 3)) (ht : (pc : Int) + off = (tgt : Int)) (kt : ¬ x = y → ts_G g w nL σ tgt lv st) (kf : x = y → ts_G g w nL σ (pc + 3) lv st) : ts_G g w nL σ pc lv (.int y :: .int x :: st) :=
  fun H locs ls hP hS hl => lv_icmp_ne X.hx X.hb d ht (fun c => kt c H locs ls hP hS hl) (fun c => kf c H locs ls hP hS hl)
theorem ts_if_lt {off : Int} {x : Int32} (tgt : Nat) (X : ts_X g w cc nL own) (d : decode cc pc = .ok (.ifCond .lt off, 3)) (ht : (pc : Int) + off = (tgt : Int)) (kt : x < 0 → ts_G g w nL σ tgt lv st) (kf : ¬ x < 0 → ts_G g w nL σ (pc + 3) lv st) : ts_G g w nL σ pc lv (.int x :: st) :=
  fun H locs ls hP hS hl => lv_if_lt X.hx X.hb d ht (fun c => kt c H locs ls hP hS hl) (fun c => kf c H locs ls hP hS hl)
theorem ts_icmp_lt {off : Int} {x y : Int32} (tgt : Nat) (X : ts_X g w cc nL own) (d : decode cc pc = .ok (.if_icmp .lt off, 3)) (ht : (pc : Int) + off = (tgt : Int)) (kt : x < y → ts_G g w nL σ tgt lv st) (kf : ¬ x < y → ts_G g w nL σ (pc + 3) lv st) : ts_G g w nL σ pc lv (.int y :: .int x :: st) :=
  fun H locs ls hP hS hl => lv_icmp_lt X.hx X.hb d ht (fun c => kt c H locs ls hP hS hl) (fun c => kf c H locs ls hP hS hl)
theorem ts_if_ge {off : Int} {x : Int32} (tgt : Nat) (X : ts_X g w cc nL own) (d : decode cc pc = .ok (.ifCond .ge off, 3)) (ht : (pc : Int) + off = (tgt : Int)) (kt : 0 ≤ x → ts_G g w nL σ tgt lv st) (kf : ¬ 0 ≤ x → ts_G g w nL σ (pc + 3) lv st) : ts_G g w nL σ pc lv (.int x :: st) :=
  fun H locs ls hP hS hl => lv_if_ge X.hx X.hb d ht (fun c => kt c H locs ls hP hS hl) (fun c => kf c H locs ls hP hS hl)
theorem ts_icmp_ge {off : Int} {x y : Int32} (tgt : Nat) (X : ts_X g w cc nL own) (d : decode cc pc = .ok (.if_icmp .ge off, 3)) (ht : (pc : Int) + off = (tgt : Int)) (kt : y ≤ x → ts_G g w nL σ tgt lv st) (kf : ¬ y ≤ x → ts_G g w nL σ (pc + 3) lv st) : ts_G g w nL σ pc lv (.int y :: .int x :: st) :=
  fun H locs ls hP hS hl => lv_icmp_ge X.hx X.hb d ht (fun c => kt c H locs ls hP hS hl) (fun c => kf c H locs ls hP hS hl)
theorem ts_if_gt {off : Int} {x : Int32} (tgt : Nat) (X : ts_X g w cc nL own) (d : decode cc pc = .ok (.ifCond .gt off, 3)) (ht : (pc : Int) + off = (tgt : Int)) (kt : 0 < x → ts_G g w nL σ tgt lv st) (kf : ¬ 0 < x → ts_G g w nL σ (pc + 3) lv st) : ts_G g w nL σ pc lv (.int x :: st) :=
  fun H locs ls hP hS hl => lv_if_gt X.hx X.hb d ht (fun c => kt c H locs ls hP hS hl) (fun c => kf c H locs ls hP hS hl)
theorem ts_icmp_gt {off : Int} {x y : Int32} (tgt : Nat) (X : ts_X g w cc nL own) (d : decode cc pc = .ok (.if_icmp .gt off, 3)) (ht : (pc : Int) + off = (tgt : Int)) (kt : y < x → ts_G g w nL σ tgt lv st) (kf : ¬ y < x → ts_G g w nL σ (pc + 3) lv st) : ts_G g w nL σ pc lv (.int y :: .int x :: st) :=
  fun H locs ls hP hS hl => lv_icmp_gt X.hx X.hb d ht (fun c => kt c H locs ls hP hS hl) (fun c => kf c H locs ls hP hS hl)
theorem ts_if_le {off : Int} {x : Int32} (tgt : Nat) (X : ts_X g w cc nL own) (d : decode cc pc = .ok (.ifCond .le off, 3)) (ht : (pc : Int) + off = (tgt : Int)) (kt : x ≤ 0 → ts_G g w nL σ tgt lv st) (kf : ¬ x ≤ 0 → ts_G g w nL σ (pc + 3) lv st) : ts_G g w nL σ pc lv (.int x :: st) :=
  fun H locs ls hP hS hl => lv_if_le X.hx X.hb d ht (fun c => kt c H locs ls hP hS hl) (fun c => kf c H locs ls hP hS hl)
theorem ts_icmp_le {off : Int} {x y : Int32} (tgt : Nat) (X : ts_X g w cc nL own) (d : decode cc pc = .ok (.if_icmp .le off, 3)) (ht : (pc : Int) + off = (tgt : Int)) (kt : x ≤ y → ts_G g w nL σ tgt lv st) (kf : ¬ x ≤ y → ts_G g w nL σ (pc + 3) lv st) : ts_G g w nL σ pc lv (.int y :: .int x :: st) :=
  fun H locs ls hP hS hl => lv_icmp_le X.hx X.hb d ht (fun c => kt c H locs ls hP hS hl) (fun c => kf c H locs ls hP hS hl)
theorem ts_tableIn {dflt lo hi : Int} {offs : Array Int} {len : Nat} {x k0 : Int32} {off : Int} (tgt : Nat) (X : ts_X g w cc nL own) (d : decode cc pc = .ok (.tableswitch dflt lo hi offs, len)) (c : x = k0) (h1 : ¬ k0.toInt < lo) (h2 : ¬ hi < k0.toInt) (ho : offs[(k0.toInt - lo).toNat]? = some off) (ht : (pc : Int) + off = (tgt : Int)) (k : ts_G g w nL σ tgt lv st) : ts_G g w nL σ pc lv (.int x :: st) :=
  fun H locs ls hP hS hl => by subst c; exact lv_tableIn X.hx X.hb d h1 h2 ho ht (k H locs ls hP hS hl)
theorem ts_tableOut {dflt lo hi : Int} {offs : Array Int} {len : Nat} {x : Int32} (tgt : Nat) (X : ts_X g w cc nL own) (d : decode cc pc = .ok (.tableswitch dflt lo hi offs, len)) (h : x.toInt < lo ∨ hi < x.toInt) (ht : (pc : Int) + dflt = (tgt : Int)) (k : ts_G g w nL σ tgt lv st) : ts_G g w nL σ pc lv (.int x :: st) :=
  fun H locs ls hP hS hl => lv_tableOut X.hx X.hb d h ht (k H locs ls hP hS hl)
theorem ts_lookup {dflt : Int} {ps : Array (Int × Int)} {len : Nat} {x : Int32} {off : Int} (tgt : Nat) (X : ts_X g w cc nL own) (d : decode cc pc = .ok (.lookupswitch dflt ps, len)) (hp : (ps.toList.zip (ps.toList.drop 1)).all (fun (a, next) => a.1 < next.1) = true) (ho : Op.lookupswitch.offset ps.toList dflt x.toInt = off) (ht : (pc : Int) + off = (tgt : Int)) (k : ts_G g w nL σ tgt lv st) : ts_G g w nL σ pc lv (.int x :: st) :=
  fun H locs ls hP hS hl => lv_lookup X.hx X.hb d hp ho ht (k H locs ls hP hS hl)
theorem ts_itp {c A B : Prop} {dc : Decidable c} (h : @ite Prop c dc A B) (hc : c) : A := by rw [if_pos hc] at h; exact h
theorem ts_itn {c A B : Prop} {dc : Decidable c} (h : @ite Prop c dc A B) (hc : ¬ c) : B := by rw [if_neg hc] at h; exact h
/-- getfield -/
theorem ts_get {k ci n : Nat} {fs : List Value} {C ref : String} {T : u_T} {index : Nat} (X : ts_X g w cc nL own) (hk : k < w.2.2.1) (hE : w.2.2.2.1 k (σ k) = .inr (ci, fs)) (hc : vwCl[ci]? = some (C, T, n)) (hin : ∀ q ∈ u_ws C T n, q ∈ ts_TB) (j : Nat) (hj : j < n) (hl : Cond.fieldLink own index ref (T j).2.1 (T j).2.2.1 ∈ ts_TB) (href : (T j).1 = ref) {v : Value} (hv : fs[j]? = some v) (d : decode cc pc = .ok (.getfield index, 3))
    (kk : ts_G g w nL σ (pc + 3) lv (v :: st)) : ts_G g w nL σ pc lv (.ref (w.2.2.2.2 k) :: st) :=
  fun H locs ls hP hS hl0 => va_get X.hx X.hb X.hts hin X.hown X.hK hP k ((ts_w_get hk).trans (by rw [hE])) hc j hj (X.hts _ hl) (fun x h => by rw [← href]; exact h) hv d (kk H locs ls hP hS hl0)
/-- putfield of a number -/
theorem ts_put {k ci n : Nat} {fs : List Value} {C ref : String} {T : u_T} {index : Nat} (X : ts_X g w cc nL own) (hk : k < w.2.2.1) {x : Int32} (hE : w.2.2.2.1 k (σ k) = .inr (ci, fs)) (hc : vwCl[ci]? = some (C, T, n)) (hin : ∀ q ∈ u_ws C T n, q ∈ ts_TB) (ty : Nat → FieldType) (hty : ∀ j, j < n → parseFieldDescriptor (T j).2.2.1 = some (ty j)) (hnm : ∀ a, a < n → ∀ b, b < n → a ≠ b → (T a).2.1 ≠ (T b).2.1) (j : Nat) (hj : j < n) (hl : Cond.fieldLink own index ref (T j).2.1 (T j).2.2.1 ∈ ts_TB) (href : (T j).1 = ref) (hfin : (T j).2.2.2 = false) (hd : parseFieldDescriptor (T j).2.2.1 = some .int) (hlen : j < fs.length) (hE2 : w.2.2.2.1 k (upd (σ k) j x) = .inr (ci, fs.set j (.int x))) (d : decode cc pc = .ok (.putfield index, 3))
    (kk : ∀ σ1 : ts_S, σ1 = ts_u σ k j x → ts_G g w nL σ1 (pc + 3) lv st) : ts_G g w nL σ pc lv (.int x :: .ref (w.2.2.2.2 k) :: st) := by
  intro H locs ls hP hS hl0
  refine va_put X.hx X.hb X.hts hin ty hty hnm X.hown X.hK hP (ts_D X.hi) hS k ((ts_w_get hk).trans (by rw [hE])) hc j hj (X.hts _ hl) (fun x h => by rw [← href]; exact h) hfin hd (vp_nar_int x) rfl hlen d (fun H1 locs1 hP1 hD1 hS1 => ?_)
  rw [← hE2, ts_wd, ts_w_set] at hP1
  exact kk _ rfl H1 locs1 ls hP1 hS1 hl0
theorem ts_iald {k n : Nat} {cA : ClassId} {i : Int32} (X : ts_X g w cc nL own) (hk : k < w.2.2.1) (hE : ∀ f, w.2.2.2.1 k f = .inl (cA, n, .inl f)) (t0 : Nat) (ht : w.2.1[t0]? = some (cA, .int)) (hin : vp_in i n) (d : decode cc pc = .ok (.iaload, 1)) (kk : ts_G g w nL σ (pc + 1) lv (.int (σ k i.toNatClampNeg) :: st)) : ts_G g w nL σ pc lv (.int i :: .ref (w.2.2.2.2 k) :: st) :=
  fun H locs ls hP hS hl => va_iald X.hx X.hb X.hK hP k t0 ((ts_w_get hk).trans (by rw [hE])) ht hin d (kk H locs ls hP hS hl)
theorem ts_zald {k n : Nat} {cA : ClassId} {i : Int32} (X : ts_X g w cc nL own) (hk : k < w.2.2.1) (hE : ∀ f, w.2.2.2.1 k f = .inl (cA, n, .inl f)) (t0 : Nat) (ht : w.2.1[t0]? = some (cA, .boolean)) (hin : vp_in i n) (d : decode cc pc = .ok (.baload, 1)) (kk : ts_G g w nL σ (pc + 1) lv (.int (σ k i.toNatClampNeg) :: st)) : ts_G g w nL σ pc lv (.int i :: .ref (w.2.2.2.2 k) :: st) :=
  fun H locs ls hP hS hl => va_zald X.hx X.hb X.hK hP k t0 ((ts_w_get hk).trans (by rw [hE])) ht hin d (kk H locs ls hP hS hl)
theorem ts_cald {k n : Nat} {cA : ClassId} {i : Int32} (X : ts_X g w cc nL own) (hk : k < w.2.2.1) (hE : ∀ f, w.2.2.2.1 k f = .inl (cA, n, .inl f)) (t0 : Nat) (ht : w.2.1[t0]? = some (cA, .char)) (hin : vp_in i n) (d : decode cc pc = .ok (.caload, 1)) (kk : ts_G g w nL σ (pc + 1) lv (.int (σ k i.toNatClampNeg) :: st)) : ts_G g w nL σ pc lv (.int i :: .ref (w.2.2.2.2 k) :: st) :=
  fun H locs ls hP hS hl => va_cald X.hx X.hb X.hK hP k t0 ((ts_w_get hk).trans (by rw [hE])) ht hin d (kk H locs ls hP hS hl)
theorem ts_aald {k n a : Nat} {cA : ClassId} {C : String} {i : Int32} {f : Nat → Option Nat} (X : ts_X g w cc nL own) (hk : k < w.2.2.1) (hE : w.2.2.2.1 k (σ k) = .inl (cA, n, .inr (.inr (.inr (.inr f))))) (t0 : Nat) (ht : w.2.1[t0]? = some (cA, .object C)) (hin : vp_in i n) (hf : f i.toNatClampNeg = some a) (d : decode cc pc = .ok (.aaload, 1)) (kk : ts_G g w nL σ (pc + 1) lv (.ref a :: st)) : ts_G g w nL σ pc lv (.int i :: .ref (w.2.2.2.2 k) :: st) :=
  fun H locs ls hP hS hl => va_aldq X.hx X.hb X.hK hP k t0 ((ts_w_get hk).trans (by rw [hE])) ht hin d (by rw [hf]; exact kk H locs ls hP hS hl)
theorem ts_iast {k n : Nat} {cA : ClassId} {i x : Int32} (X : ts_X g w cc nL own) (hk : k < w.2.2.1) (hE : ∀ f, w.2.2.2.1 k f = .inl (cA, n, .inl f)) (t0 : Nat) (ht : w.2.1[t0]? = some (cA, .int)) (hin : vp_in i n) (d : decode cc pc = .ok (.iastore, 1)) (kk : ∀ σ1 : ts_S, σ1 = ts_u σ k i.toNatClampNeg x → ts_G g w nL σ1 (pc + 1) lv st) : ts_G g w nL σ pc lv (.int x :: .int i :: .ref (w.2.2.2.2 k) :: st) := by
  intro H locs ls hP hS hl0
  refine va_iast X.hx X.hb X.hK hP (ts_D X.hi) hS k t0 ((ts_w_get hk).trans (by rw [hE])) ht hin d (fun H1 locs1 hP1 hD1 hS1 => ?_)
  rw [← hE, ts_wd, ts_w_set] at hP1
  exact kk _ rfl H1 locs1 ls hP1 hS1 hl0
theorem ts_zast {k n : Nat} {cA : ClassId} {i x : Int32} (X : ts_X g w cc nL own) (hk : k < w.2.2.1) (hE : ∀ f, w.2.2.2.1 k f = .inl (cA, n, .inl f)) (t0 : Nat) (ht : w.2.1[t0]? = some (cA, .boolean)) (hin : vp_in i n) (d : decode cc pc = .ok (.bastore, 1)) (kk : ∀ σ1 : ts_S, σ1 = ts_u σ k i.toNatClampNeg (vp_nar .boolean x) → ts_G g w nL σ1 (pc + 1) lv st) : ts_G g w nL σ pc lv (.int x :: .int i :: .ref (w.2.2.2.2 k) :: st) := by
  intro H locs ls hP hS hl0
  refine va_zast X.hx X.hb X.hK hP (ts_D X.hi) hS k t0 ((ts_w_get hk).trans (by rw [hE])) ht hin d (fun H1 locs1 hP1 hD1 hS1 => ?_)
  rw [← hE, ts_wd, ts_w_set] at hP1
  exact kk _ rfl H1 locs1 ls hP1 hS1 hl0
theorem ts_cast {k n : Nat} {cA : ClassId} {i x : Int32} (X : ts_X g w cc nL own) (hk : k < w.2.2.1) (hE : ∀ f, w.2.2.2.1 k f = .inl (cA, n, .inl f)) (t0 : Nat) (ht : w.2.1[t0]? = some (cA, .char)) (hin : vp_in i n) (d : decode cc pc = .ok (.castore, 1)) (kk : ∀ σ1 : ts_S, σ1 = ts_u σ k i.toNatClampNeg (vp_nar .char x) → ts_G g w nL σ1 (pc + 1) lv st) : ts_G g w nL σ pc lv (.int x :: .int i :: .ref (w.2.2.2.2 k) :: st) := by
  intro H locs ls hP hS hl0
  refine va_cast X.hx X.hb X.hK hP (ts_D X.hi) hS k t0 ((ts_w_get hk).trans (by rw [hE])) ht hin d (fun H1 locs1 hP1 hD1 hS1 => ?_)
  rw [← hE, ts_wd, ts_w_set] at hP1
  exact kk _ rfl H1 locs1 ls hP1 hS1 hl0
end TSR
end
section
section TSC
variable {g : ts_Ctx} {w : ts_Wd} {cc : ByteArray} {nL : Nat} {own : String} {σ : ts_S} {pc : Nat} {lv lv' : List (Nat × Value)} {st st0 As : List Value}
variable {y : MethodName} {cy : ByteArray} {ny n' index na : Nat} {ry : Option FieldType}
theorem ts_room {n : Nat} (h : n' + 1 ≤ n) (h2 : ny ≤ 21) : (ts_rm n').frames + 1 ≤ (ts_rm n).frames ∧ 8 + (ny + 11) + (ts_rm n').locals ≤ (ts_rm n).locals := by
  refine ⟨h, ?_⟩
  show 8 + (ny + 11) + 40 * n' ≤ 40 * n
  omega
theorem ts_cwB (X : ts_X g w cc nL own) (ho : ts_ok y na) (h1 : Cond.methodLink own index y ∈ ts_TB) (h2 : Cond.initialized y.cls ∈ ts_TB) (h3 : Cond.code y cy ny ry ∈ ts_TB) (hR : n' + 1 ≤ g.2.2.2.1) (hn : ny ≤ 21) : CallB (ts_rm g.2.2.2.1) g.2.2.2.2.1 g.2.2.2.2.2.2.1 own index y cy ny ry (Cond.code y cy ny ry :: ts_TB) (ts_rm n') 0 0 na :=
  callB_of na X.hts (ts_goodIn' h3) rfl rfl rfl (X.hts _ h2) (X.hts _ h1) ho (ts_room hR hn)
theorem ts_callVi {K : Int32 → ts_S → Prop} {k ci : Nat} {fs : List Value} {q : vw_C} (X : ts_X g w cc nL own) (hk : k < w.2.2.1) (hE : w.2.2.2.1 k (σ k) = .inr (ci, fs)) (hc : vwCl[ci]? = some q) (hq : q.1 = y.cls) (hM : ts_Mi g.2.1 y (Cond.code y cy ny ry) n' w (.ref (w.2.2.2.2 k) :: As) σ K) (ho : ts_ok y na) (cw : ts_cV own index y (Cond.code y cy ny ry)) (hR : n' + 1 ≤ g.2.2.2.1) (hn : ny ≤ 21) (hna : As.length = na) (hst : st0 = As.reverse ++ .ref (w.2.2.2.2 k) :: st) (hw : (st.map fun v => v.category).sum ≤ 8) (d : decode cc pc = .ok (.invokevirtual index, 3))
    (kk : ∀ (r : Int32) (σ : ts_S), K r σ → ts_G g w nL σ (pc + 3) lv (.int r :: st)) : ts_G g w nL σ pc lv st0 := by
  intro H locs ls hP hS hl
  subst hst
  have hrc := va_recv X.hK hP (ci := ci) (q0 := k) (q := q) hc ((ts_w_get hk).trans (by rw [hE]))
  rw [hq] at hrc
  refine va_calli (va_runV (As := As) (rest := st) (C := y.cls) (n := na) (bytes := cy) (maxL := ny) (ret := ry) (Ts := ts_TB) (nL := nL) ⟨X.hx, X.hb, X.hml, X.hown, X.hts⟩ hM ⟨ts_cwB X ho cw.1 cw.2.2.2.1 cw.2.2.2.2 hR hn, X.hts _ cw.2.1, X.hts _ cw.2.2.1⟩ ⟨ts_At.blind, hrc, fun U hU hW => ⟨rfl, X.at hU hW hP⟩⟩ rfl hna hl.1 rfl (lv_room hw) d ⟨Nat.zero_le _, Nat.zero_le _⟩) hS (fun q _ h => h) (fun q h => h) (fun r u t H1 locs1 ht hvm hw hB hz1 hk1 hS1 => ?_)
  exact kk r u hw H1 locs1 ls (by rw [← ht]; exact hB.1) hS1 hl
theorem ts_callVv {K : ts_S → Prop} {k ci : Nat} {fs : List Value} {q : vw_C} (X : ts_X g w cc nL own) (hk : k < w.2.2.1) (hE : w.2.2.2.1 k (σ k) = .inr (ci, fs)) (hc : vwCl[ci]? = some q) (hq : q.1 = y.cls) (hM : ts_Mv g.2.1 y (Cond.code y cy ny ry) n' w (.ref (w.2.2.2.2 k) :: As) σ K) (ho : ts_ok y na) (cw : ts_cV own index y (Cond.code y cy ny ry)) (hR : n' + 1 ≤ g.2.2.2.1) (hn : ny ≤ 21) (hna : As.length = na) (hst : st0 = As.reverse ++ .ref (w.2.2.2.2 k) :: st) (hw : (st.map fun v => v.category).sum ≤ 8) (d : decode cc pc = .ok (.invokevirtual index, 3))
    (kk : ∀ (σ : ts_S), K σ → ts_G g w nL σ (pc + 3) lv st) : ts_G g w nL σ pc lv st0 := by
  intro H locs ls hP hS hl
  subst hst
  have hrc := va_recv X.hK hP (ci := ci) (q0 := k) (q := q) hc ((ts_w_get hk).trans (by rw [hE]))
  rw [hq] at hrc
  refine va_callv (va_runV (As := As) (rest := st) (C := y.cls) (n := na) (bytes := cy) (maxL := ny) (ret := ry) (Ts := ts_TB) (nL := nL) ⟨X.hx, X.hb, X.hml, X.hown, X.hts⟩ hM ⟨ts_cwB X ho cw.1 cw.2.2.2.1 cw.2.2.2.2 hR hn, X.hts _ cw.2.1, X.hts _ cw.2.2.1⟩ ⟨ts_At.blind, hrc, fun U hU hW => ⟨rfl, X.at hU hW hP⟩⟩ rfl hna hl.1 rfl (lv_room hw) d ⟨Nat.zero_le _, Nat.zero_le _⟩) hS (fun q _ h => h) (fun q h => h) (fun u t H1 locs1 ht hvm hw hB hz1 hk1 hS1 => ?_)
  exact kk u hw H1 locs1 ls (by rw [← ht]; exact hB.1) hS1 hl
theorem ts_callSi {K : Int32 → ts_S → Prop} (X : ts_X g w cc nL own) (hM : ts_Mi g.2.1 y (Cond.code y cy ny ry) n' w As σ K) (ho : ts_ok y na) (cw : ts_cS own index y (Cond.code y cy ny ry)) (hR : n' + 1 ≤ g.2.2.2.1) (hn : ny ≤ 21) (hna : As.length = na) (hst : st0 = As.reverse ++ st) (hw : (st.map fun v => v.category).sum ≤ 8) (d : decode cc pc = .ok (.invokestatic index, 3))
    (kk : ∀ (r : Int32) (σ : ts_S), K r σ → ts_G g w nL σ (pc + 3) lv (.int r :: st)) : ts_G g w nL σ pc lv st0 := by
  intro H locs ls hP hS hl
  subst hst
  refine va_calli (va_runS (As := As) (rest := st) (n := na) (bytes := cy) (maxL := ny) (ret := ry) (Ts := ts_TB) (nL := nL) ⟨X.hx, X.hb, X.hml, X.hown, X.hts⟩ hM ⟨ts_cwB X ho cw.1 cw.2.2.1 cw.2.2.2 hR hn, X.hts _ cw.2.1⟩ ⟨ts_At.blind, fun U hU hW => ⟨rfl, X.at hU hW hP⟩⟩ rfl hna hl.1 rfl (lv_room hw) d ⟨Nat.zero_le _, Nat.zero_le _⟩) hS (fun q _ h => h) (fun q h => h) (fun r u t H1 locs1 ht hvm hw hB hz1 hk1 hS1 => ?_)
  exact kk r u hw H1 locs1 ls (by rw [← ht]; exact hB.1) hS1 hl
theorem ts_callSv {K : ts_S → Prop} (X : ts_X g w cc nL own) (hM : ts_Mv g.2.1 y (Cond.code y cy ny ry) n' w As σ K) (ho : ts_ok y na) (cw : ts_cS own index y (Cond.code y cy ny ry)) (hR : n' + 1 ≤ g.2.2.2.1) (hn : ny ≤ 21) (hna : As.length = na) (hst : st0 = As.reverse ++ st) (hw : (st.map fun v => v.category).sum ≤ 8) (d : decode cc pc = .ok (.invokestatic index, 3))
    (kk : ∀ (σ : ts_S), K σ → ts_G g w nL σ (pc + 3) lv st) : ts_G g w nL σ pc lv st0 := by
  intro H locs ls hP hS hl
  subst hst
  refine va_callv (va_runS (As := As) (rest := st) (n := na) (bytes := cy) (maxL := ny) (ret := ry) (Ts := ts_TB) (nL := nL) ⟨X.hx, X.hb, X.hml, X.hown, X.hts⟩ hM ⟨ts_cwB X ho cw.1 cw.2.2.1 cw.2.2.2 hR hn, X.hts _ cw.2.1⟩ ⟨ts_At.blind, fun U hU hW => ⟨rfl, X.at hU hW hP⟩⟩ rfl hna hl.1 rfl (lv_room hw) d ⟨Nat.zero_le _, Nat.zero_le _⟩) hS (fun q _ h => h) (fun q h => h) (fun u t H1 locs1 ht hvm hw hB hz1 hk1 hS1 => ?_)
  exact kk u hw H1 locs1 ls (by rw [← ht]; exact hB.1) hS1 hl
theorem ts_callNi {K : Int32 → ts_S → Prop} (X : ts_X g w cc nL own) (hM : ts_Mi g.2.1 y (Cond.code y cy ny ry) n' w As σ K) (ho : ts_ok y na) (cw : ts_cN own index y (Cond.code y cy ny ry)) (hR : n' + 1 ≤ g.2.2.2.1) (hn : ny ≤ 21) (hna : As.length = na) (hst : st0 = As.reverse ++ st) (hw : (st.map fun v => v.category).sum ≤ 8) (d : decode cc pc = .ok (.invokestatic index, 3))
    (kk : ∀ (r : Int32) (σ : ts_S), K r σ → ts_G g w nL σ (pc + 3) lv (.int r :: st)) : ts_G g w nL σ pc lv st0 := by
  intro H locs ls hP hS hl
  subst hst
  obtain ⟨⟨host, cw0⟩, cw1⟩ := cw
  refine va_calli (va_runSN (As := As) (rest := st) (n := na) (bytes := cy) (maxL := ny) (ret := ry) (host := host) (Ts := ts_TB) (nL := nL) ⟨X.hx, X.hb, X.hml, X.hown, X.hts⟩ hM ⟨va_cnB na X.hts (ts_goodIn' cw1.2.2) rfl rfl rfl (X.hN _ cw0) (X.hts _ cw1.2.1) ho (ts_room hR hn), X.hts _ cw1.1, trivial⟩ ⟨ts_At.blind, fun U hU hW => ⟨rfl, X.at hU hW hP⟩⟩ rfl hna hl.1 rfl (lv_room hw) d ⟨Nat.zero_le _, Nat.zero_le _⟩) hS (fun q _ h => h) (fun q h => h) (fun r u t H1 locs1 ht hvm hw hB hz1 hk1 hS1 => ?_)
  exact kk r u hw H1 locs1 ls (by rw [← ht]; exact hB.1) hS1 hl
theorem ts_mmax {x y : Int32} (X : ts_X g w cc nL own) (hl : Cond.methodLink own index Lib.Math.max.name ∈ ts_TB) (h2 : Cond.static Lib.Math.max.name ∈ ts_TB) (h3 : Cond.initialized "java/lang/Math" ∈ ts_TB) (h4 : Cond.code Lib.Math.max.name Lib.Math.max.code 2 (some .int) ∈ ts_TB) (hR : 1 ≤ g.2.2.2.1) (hw : (st.map fun v => v.category).sum ≤ 8) (d : decode cc pc = .ok (.invokestatic index, 3)) (k : ts_G g w nL σ (pc + 3) lv (.int (if x < y then y else x) :: st)) : ts_G g w nL σ pc lv (.int y :: .int x :: st) := by
  intro H locs ls hP hS hl0
  refine va_mmax X.hx X.hb (X.hml.trans hl0.1.symm) X.hown (X.hts _ hl) (X.hts _ h2) (X.hts _ h3) (X.hts _ h4) hR ?_ (Nat.zero_le _) (Nat.zero_le _) d (k H locs ls hP hS hl0)
  show _ ≤ 40 * g.2.2.2.1
  omega
theorem ts_mmin {x y : Int32} (X : ts_X g w cc nL own) (hl : Cond.methodLink own index Lib.Math.min.name ∈ ts_TB) (h2 : Cond.static Lib.Math.min.name ∈ ts_TB) (h3 : Cond.initialized "java/lang/Math" ∈ ts_TB) (h4 : Cond.code Lib.Math.min.name Lib.Math.min.code 2 (some .int) ∈ ts_TB) (hR : 1 ≤ g.2.2.2.1) (hw : (st.map fun v => v.category).sum ≤ 8) (d : decode cc pc = .ok (.invokestatic index, 3)) (k : ts_G g w nL σ (pc + 3) lv (.int (if y < x then y else x) :: st)) : ts_G g w nL σ pc lv (.int y :: .int x :: st) := by
  intro H locs ls hP hS hl0
  refine va_mmin X.hx X.hb (X.hml.trans hl0.1.symm) X.hown (X.hts _ hl) (X.hts _ h2) (X.hts _ h3) (X.hts _ h4) hR ?_ (Nat.zero_le _) (Nat.zero_le _) d (k H locs ls hP hS hl0)
  show _ ≤ 40 * g.2.2.2.1
  omega
theorem ts_mabs {x : Int32} (X : ts_X g w cc nL own) (hl : Cond.methodLink own index Lib.Math.abs.name ∈ ts_TB) (h2 : Cond.static Lib.Math.abs.name ∈ ts_TB) (h3 : Cond.initialized "java/lang/Math" ∈ ts_TB) (h4 : Cond.code Lib.Math.abs.name Lib.Math.abs.code 1 (some .int) ∈ ts_TB) (hR : 1 ≤ g.2.2.2.1) (hw : (st.map fun v => v.category).sum ≤ 8) (d : decode cc pc = .ok (.invokestatic index, 3)) (k : ts_G g w nL σ (pc + 3) lv (.int (if 0 ≤ x then x else 0 - x) :: st)) : ts_G g w nL σ pc lv (.int x :: st) := by
  intro H locs ls hP hS hl0
  refine va_mabs X.hx X.hb (X.hml.trans hl0.1.symm) X.hown (X.hts _ hl) (X.hts _ h2) (X.hts _ h3) (X.hts _ h4) hR ?_ (Nat.zero_le _) (Nat.zero_le _) d (k H locs ls hP hS hl0)
  show _ ≤ 40 * g.2.2.2.1
  omega
theorem ts_copy {k0 k1 n0 n1 : Nat} {c0 c1 : ClassId} {ty : FieldType} {sp dp n : Int32} (X : ts_X g w cc nL own) (hl : Cond.methodLink own index arraycopyName ∈ ts_TB) (hnat : Cond.native arraycopyName ∈ ts_TB) (hstat : Cond.static arraycopyName ∈ ts_TB) (hini : Cond.initialized "java/lang/System" ∈ ts_TB) (hk0 : k0 < w.2.2.1) (hk1 : k1 < w.2.2.1) (hE0 : ∀ f, w.2.2.2.1 k0 f = .inl (c0, n0, .inl f)) (hE1 : ∀ f, w.2.2.2.1 k1 f = .inl (c1, n1, .inl f)) (t0 t1 : Nat) (ht0 : w.2.1[t0]? = some (c0, ty)) (ht1 : w.2.1[t1]? = some (c1, ty)) (hprim : refKind ty = false)
    (h1 : ¬ sp < 0) (h2 : ¬ dp < 0) (h3 : ¬ n < 0) (h4 : sp.toNatClampNeg + n.toNatClampNeg ≤ n0) (h5 : dp.toNatClampNeg + n.toNatClampNeg ≤ n1) (hfit : ∀ i, i < n.toNatClampNeg → fits ty (.int (σ k0 (sp.toNatClampNeg + i))) = true) (hR : 1 ≤ g.2.2.2.1) (hw : (st.map fun v => v.category).sum ≤ 8) (d : decode cc pc = .ok (.invokestatic index, 3))
    (kk : ∀ σ1 : ts_S, σ1 = va_up σ k1 (va_cpy (σ k0) (σ k1) sp.toNatClampNeg dp.toNatClampNeg n.toNatClampNeg) → ts_G g w nL σ1 (pc + 3) lv st) : ts_G g w nL σ pc lv (.int n :: .int dp :: .ref (w.2.2.2.2 k1) :: .int sp :: .ref (w.2.2.2.2 k0) :: st) := by
  intro H locs ls hP hS hl0
  refine va_copyi X.hx X.hb (X.hml.trans hl0.1.symm) X.hown (X.hts _ hl) (X.hts _ hnat) (X.hts _ hstat) (X.hts _ hini) X.hK hP (ts_D X.hi) hS k0 k1 t0 t1 ((ts_w_get hk0).trans (by rw [hE0])) ((ts_w_get hk1).trans (by rw [hE1])) ht0 ht1 hprim h1 h2 h3 h4 h5 hfit hR ?_ d (fun H1 locs1 hP1 hD1 hS1 => ?_)
  · have : nativeFrameWords "java/lang/System" "arraycopy" 5 ≤ 20 := by decide
    show _ ≤ 40 * g.2.2.2.1
    omega
  · rw [← hE1, ts_wd, ts_w_set] at hP1
    exact kk _ rfl H1 locs1 ls hP1 hS1 hl0
theorem ts_Mi.of_i {l : Launch} {n : Nat} {av : List Value} {K : Int32 → ts_S → Prop} (hi : ts_inj w.2.2.1 w.2.2.2.2) (hy : plainName y.cls = true) (hlen : (lg_sl av).length ≤ ny) (body : ∀ g : ts_Ctx, g.2.1 = l → g.2.2.2.1 = n → ts_X g w cy ny y.cls → (∀ (σ : ts_S) (pc : Nat) (lv : List (Nat × Value)) (v : Int32), K v σ → decode cy pc = .ok (.ireturn, 1) → ts_G g w ny σ pc lv [.int v]) → ts_G g w ny σ 0 (lv_args 0 av) []) : ts_Mi l y (Cond.code y cy ny (some .int)) n w av σ K := by
  refine Met.ofW (cc := cy) (maxL := ny) (ret := some .int) hy rfl ?_
  intro p e s m args below meth c s₁ B hml hv
  obtain ⟨rfl, hP, hK, hN⟩ := hv
  rw [lg_entry_eq]
  have hr := B.returns
  have hlk := B.notSynchronized
  have X : ts_X (p, l, e, n, s, m, av.toArray, below, meth, c, MQ below (va_Qi K (fun u t => ts_At w u t) (ts_wA w)) av.toArray s 0 0 (ts_wA w)) w cy ny y.cls := ⟨B.exec, B.bytes, hml, findClass_of_methodNamed B.named, fun q hq => atoms_spec (ws := Cond.code y cy ny (some .int) :: ts_TB) B.pre q (List.mem_cons_of_mem _ hq), hK, hN, hi⟩
  refine body (p, l, e, n, s, m, av.toArray, below, meth, c, MQ below (va_Qi K (fun u t => ts_At w u t) (ts_wA w)) av.toArray s 0 0 (ts_wA w)) rfl rfl X ?_ _ [] _ hP va_S.rf (lv_entry av hlen)
  intro σ pc lv v hK d H locs ls hP hS hl
  exact W.iret X.hx X.hb hr (fun t ht hW => ⟨⟨v, σ, rfl, hK, X.at ht hW hP⟩, hS.F ht⟩) hS.2.2 d hlk
theorem ts_Mi.of_z {l : Launch} {n : Nat} {av : List Value} {K : Int32 → ts_S → Prop} (hi : ts_inj w.2.2.1 w.2.2.2.2) (hy : plainName y.cls = true) (hlen : (lg_sl av).length ≤ ny) (body : ∀ g : ts_Ctx, g.2.1 = l → g.2.2.2.1 = n → ts_X g w cy ny y.cls → (∀ (σ : ts_S) (pc : Nat) (lv : List (Nat × Value)) (v : Int32), ts_zb v ∧ K v σ → decode cy pc = .ok (.ireturn, 1) → ts_G g w ny σ pc lv [.int v]) → ts_G g w ny σ 0 (lv_args 0 av) []) : ts_Mi l y (Cond.code y cy ny (some .boolean)) n w av σ K := by
  refine Met.ofW (cc := cy) (maxL := ny) (ret := some .boolean) hy rfl ?_
  intro p e s m args below meth c s₁ B hml hv
  obtain ⟨rfl, hP, hK, hN⟩ := hv
  rw [lg_entry_eq]
  have hr := B.returns
  have hlk := B.notSynchronized
  have X : ts_X (p, l, e, n, s, m, av.toArray, below, meth, c, MQ below (va_Qi K (fun u t => ts_At w u t) (ts_wA w)) av.toArray s 0 0 (ts_wA w)) w cy ny y.cls := ⟨B.exec, B.bytes, hml, findClass_of_methodNamed B.named, fun q hq => atoms_spec (ws := Cond.code y cy ny (some .boolean) :: ts_TB) B.pre q (List.mem_cons_of_mem _ hq), hK, hN, hi⟩
  refine body (p, l, e, n, s, m, av.toArray, below, meth, c, MQ below (va_Qi K (fun u t => ts_At w u t) (ts_wA w)) av.toArray s 0 0 (ts_wA w)) rfl rfl X ?_ _ [] _ hP va_S.rf (lv_entry av hlen)
  intro σ pc lv v hK d H locs ls hP hS hl
  exact W.zret X.hx X.hb hr hK.1 (fun t ht hW => ⟨⟨v, σ, rfl, hK.2, X.at ht hW hP⟩, hS.F ht⟩) hS.2.2 d hlk
theorem ts_Mv.of_v {l : Launch} {n : Nat} {av : List Value} {K : ts_S → Prop} (hi : ts_inj w.2.2.1 w.2.2.2.2) (hy : plainName y.cls = true) (hlen : (lg_sl av).length ≤ ny) (body : ∀ g : ts_Ctx, g.2.1 = l → g.2.2.2.1 = n → ts_X g w cy ny y.cls → (∀ (σ : ts_S) (pc : Nat) (lv : List (Nat × Value)), K σ → decode cy pc = .ok (.return_, 1) → ts_G g w ny σ pc lv []) → ts_G g w ny σ 0 (lv_args 0 av) []) : ts_Mv l y (Cond.code y cy ny (none)) n w av σ K := by
  refine Met.ofW (cc := cy) (maxL := ny) (ret := none) hy rfl ?_
  intro p e s m args below meth c s₁ B hml hv
  obtain ⟨rfl, hP, hK, hN⟩ := hv
  rw [lg_entry_eq]
  have hr := B.returns
  have hlk := B.notSynchronized
  have X : ts_X (p, l, e, n, s, m, av.toArray, below, meth, c, MQ below (va_Qv K (fun u t => ts_At w u t) (ts_wA w)) av.toArray s 0 0 (ts_wA w)) w cy ny y.cls := ⟨B.exec, B.bytes, hml, findClass_of_methodNamed B.named, fun q hq => atoms_spec (ws := Cond.code y cy ny (none) :: ts_TB) B.pre q (List.mem_cons_of_mem _ hq), hK, hN, hi⟩
  refine body (p, l, e, n, s, m, av.toArray, below, meth, c, MQ below (va_Qv K (fun u t => ts_At w u t) (ts_wA w)) av.toArray s 0 0 (ts_wA w)) rfl rfl X ?_ _ [] _ hP va_S.rf (lv_entry av hlen)
  intro σ pc lv hK d H locs ls hP hS hl
  exact W.vret X.hx X.hb hr (fun t ht hW => ⟨⟨σ, rfl, hK, X.at ht hW hP⟩, hS.F ht⟩) hS.2.2 d hlk
end TSC
end
section
theorem tw_X0 : ∀ q ∈ u_ws RX0 TX0 3, q ∈ ts_TB := by
  intro q hq
  obtain ⟨k, hk, rfl⟩ := List.mem_map.mp hq
  have hk := List.mem_range.mp hk
  match k, hk with
  | 0, _ => exact kw_342
  | 1, _ => exact kw_344
  | 2, _ => exact kw_346
  | k + 3, hk => omega
theorem tw_X1 : ∀ q ∈ u_ws RX1 TX1 3, q ∈ ts_TB := by
  intro q hq
  obtain ⟨k, hk, rfl⟩ := List.mem_map.mp hq
  have hk := List.mem_range.mp hk
  match k, hk with
  | 0, _ => exact kw_230
  | 1, _ => exact kw_232
  | 2, _ => exact kw_234
  | k + 3, hk => omega
theorem tw_X2 : ∀ q ∈ u_ws RX2 TX2 6, q ∈ ts_TB := by
  intro q hq
  obtain ⟨k, hk, rfl⟩ := List.mem_map.mp hq
  have hk := List.mem_range.mp hk
  match k, hk with
  | 0, _ => exact kw_149
  | 1, _ => exact kw_151
  | 2, _ => exact kw_153
  | 3, _ => exact kw_155
  | 4, _ => exact kw_157
  | 5, _ => exact kw_159
  | k + 6, hk => omega
theorem tw_X3 : ∀ q ∈ u_ws RX3 TX3 7, q ∈ ts_TB := by
  intro q hq
  obtain ⟨k, hk, rfl⟩ := List.mem_map.mp hq
  have hk := List.mem_range.mp hk
  match k, hk with
  | 0, _ => exact kw_273
  | 1, _ => exact kw_275
  | 2, _ => exact kw_277
  | 3, _ => exact kw_279
  | 4, _ => exact kw_281
  | 5, _ => exact kw_283
  | 6, _ => exact kw_285
  | k + 7, hk => omega
theorem tw_X4 : ∀ q ∈ u_ws RX4 TX4 4, q ∈ ts_TB := by
  intro q hq
  obtain ⟨k, hk, rfl⟩ := List.mem_map.mp hq
  have hk := List.mem_range.mp hk
  match k, hk with
  | 0, _ => exact kw_249
  | 1, _ => exact kw_251
  | 2, _ => exact kw_253
  | 3, _ => exact kw_255
  | k + 4, hk => omega
theorem tw_X5 : ∀ q ∈ u_ws RX5 TX5 3, q ∈ ts_TB := by
  intro q hq
  obtain ⟨k, hk, rfl⟩ := List.mem_map.mp hq
  have hk := List.mem_range.mp hk
  match k, hk with
  | 0, _ => exact kw_324
  | 1, _ => exact kw_326
  | 2, _ => exact kw_328
  | k + 3, hk => omega
theorem tw_X6 : ∀ q ∈ u_ws RX6 TX6 4, q ∈ ts_TB := by
  intro q hq
  obtain ⟨k, hk, rfl⟩ := List.mem_map.mp hq
  have hk := List.mem_range.mp hk
  match k, hk with
  | 0, _ => exact kw_96
  | 1, _ => exact kw_98
  | 2, _ => exact kw_100
  | 3, _ => exact kw_102
  | k + 4, hk => omega
theorem tw_X7 : ∀ q ∈ u_ws RX7 TX7 5, q ∈ ts_TB := by
  intro q hq
  obtain ⟨k, hk, rfl⟩ := List.mem_map.mp hq
  have hk := List.mem_range.mp hk
  match k, hk with
  | 0, _ => exact kw_302
  | 1, _ => exact kw_304
  | 2, _ => exact kw_306
  | 3, _ => exact kw_308
  | 4, _ => exact kw_310
  | k + 5, hk => omega
theorem tw_X8 : ∀ q ∈ u_ws RX8 TX8 7, q ∈ ts_TB := by
  intro q hq
  obtain ⟨k, hk, rfl⟩ := List.mem_map.mp hq
  have hk := List.mem_range.mp hk
  match k, hk with
  | 0, _ => exact kw_197
  | 1, _ => exact kw_199
  | 2, _ => exact kw_201
  | 3, _ => exact kw_203
  | 4, _ => exact kw_205
  | 5, _ => exact kw_207
  | 6, _ => exact kw_209
  | k + 7, hk => omega
theorem tw_X9 : ∀ q ∈ u_ws RX9 TX9 12, q ∈ ts_TB := by
  intro q hq
  obtain ⟨k, hk, rfl⟩ := List.mem_map.mp hq
  have hk := List.mem_range.mp hk
  match k, hk with
  | 0, _ => exact kw_481
  | 1, _ => exact kw_483
  | 2, _ => exact kw_485
  | 3, _ => exact kw_487
  | 4, _ => exact kw_489
  | 5, _ => exact kw_491
  | 6, _ => exact kw_493
  | 7, _ => exact kw_495
  | 8, _ => exact kw_497
  | 9, _ => exact kw_499
  | 10, _ => exact kw_501
  | 11, _ => exact kw_503
  | k + 12, hk => omega
theorem tw_X10 : ∀ q ∈ u_ws RX10 TX10 25, q ∈ ts_TB := by
  intro q hq
  obtain ⟨k, hk, rfl⟩ := List.mem_map.mp hq
  have hk := List.mem_range.mp hk
  match k, hk with
  | 0, _ => exact kw_926
  | 1, _ => exact kw_928
  | 2, _ => exact kw_930
  | 3, _ => exact kw_932
  | 4, _ => exact kw_934
  | 5, _ => exact kw_936
  | 6, _ => exact kw_938
  | 7, _ => exact kw_940
  | 8, _ => exact kw_942
  | 9, _ => exact kw_944
  | 10, _ => exact kw_946
  | 11, _ => exact kw_948
  | 12, _ => exact kw_950
  | 13, _ => exact kw_952
  | 14, _ => exact kw_954
  | 15, _ => exact kw_956
  | 16, _ => exact kw_958
  | 17, _ => exact kw_960
  | 18, _ => exact kw_962
  | 19, _ => exact kw_964
  | 20, _ => exact kw_966
  | 21, _ => exact kw_968
  | 22, _ => exact kw_970
  | 23, _ => exact kw_972
  | 24, _ => exact kw_974
  | k + 25, hk => omega
/-! the world of the class: 151 cells; v: the classes, where the cells lie -/
abbrev tX_V : Type := va_G × ClassId × ClassId × ClassId × ClassId × (Nat → Nat)
abbrev tX_ad (v : tX_V) : Nat → Nat := v.2.2.2.2.2
def tX_pl (t : Nat) : Nat := if t = 37 then 27 else 23
def tX_E1 (v : tX_V) (k : Nat) (f : Nat → Int32) : va_E := match k with
  | 0 => .inr (9, [.ref (tX_ad v 1), .ref (tX_ad v 37), .ref (tX_ad v 31), .ref (tX_ad v 43), .ref (tX_ad v 4), .ref (tX_ad v 6), .int (f 6), .ref (tX_ad v 7), .ref (tX_ad v 11), .ref (tX_ad v 16), .ref (tX_ad v 20), .ref (tX_ad v 21)])
  | 1 => .inr (6, [.ref (tX_ad v 2), .int (f 1), .int (f 2), .ref (tX_ad v 3)])
  | 2 => .inl (v.2.2.2.1, 200, .inl f)
  | 3 => .inl (v.2.1, 4, .inl f)
  | 4 => .inr (1, [.ref (tX_ad v 5), .int (f 1), .int (f 2)])
  | 5 => .inl (v.2.2.2.2.1, 8, .inr (.inr (.inr (.inr (fun i => some (tX_ad v (73 + 6 * i)))))))
  | 6 => .inl (v.2.2.2.2.1, 2, .inr (.inr (.inr (.inr (fun i => some (tX_ad v (61 + 6 * i)))))))
  | 7 => .inr (4, [.ref (tX_ad v 8), .ref (tX_ad v 9), .ref (tX_ad v 10), .int (f 3)])
  | 8 => .inl (v.2.1, 6, .inl f)
  | 9 => .inl (v.2.1, 6, .inl f)
  | 10 => .inl (v.2.2.1, 6, .inl f)
  | 11 => .inr (3, [.ref (tX_ad v 49), .ref (tX_ad v 12), .ref (tX_ad v 13), .ref (tX_ad v 14), .int (f 4), .ref (tX_ad v 15), .int (f 6)])
  | 12 => .inl (v.2.1, 6, .inl f)
  | 13 => .inl (v.2.1, 5, .inl f)
  | 14 => .inl (v.2.1, 10, .inl f)
  | 15 => .inl (v.2.1, 6, .inl f)
  | 16 => .inr (7, [.ref (tX_ad v 17), .ref (tX_ad v 18), .int (f 2), .ref (tX_ad v 19), .int (f 4)])
  | 17 => .inl (v.2.2.2.2.1, 5, .inr (.inr (.inr (.inr (fun i => some (tX_ad v (121 + 6 * i)))))))
  | 18 => .inl (v.2.1, 4, .inl f)
  | 19 => .inl (v.2.1, 4, .inl f)
  | 20 => .inr (5, [.ref (tX_ad v 55), .int (f 1), .int (f 2)])
  | 21 => .inr (0, [.ref (tX_ad v 22), .int (f 1), .int (f 2)])
  | 22 => .inl (v.2.1, 6, .inl f)
  | 23 => .inr (2, [.int (f 0), .int (f 1), .int (f 2), .ref (tX_ad v 24), .ref (tX_ad v 25), .ref (tX_ad v 26)])
  | 24 => .inl (v.2.1, 6, .inl f)
  | 25 => .inl (v.2.1, 5, .inl f)
  | 26 => .inl (v.2.1, 5, .inl f)
  | 27 => .inr (2, [.int (f 0), .int (f 1), .int (f 2), .ref (tX_ad v 28), .ref (tX_ad v 29), .ref (tX_ad v 30)])
  | 28 => .inl (v.2.1, 6, .inl f)
  | 29 => .inl (v.2.1, 5, .inl f)
  | _ => .inl (v.2.1, 5, .inl f)
def tX_E2 (v : tX_V) (t j : Nat) (f : Nat → Int32) : va_E := match j with
  | 0 => .inr (8, [.ref (tX_ad v (tX_pl t)), .ref (tX_ad v (t + 1)), .ref (tX_ad v (t + 2)), .ref (tX_ad v (t + 3)), .ref (tX_ad v (t + 4)), .ref (tX_ad v (t + 5)), .int (f 6)])
  | 1 => .inl (v.2.1, 6, .inl f)
  | 2 => .inl (v.2.1, 6, .inl f)
  | 3 => .inl (v.2.1, 6, .inl f)
  | _ => .inl (v.2.2.1, 6, .inl f)
def tX_E (v : tX_V) (k : Nat) (f : Nat → Int32) : va_E := if k < 31 then tX_E1 v k f else tX_E2 v k ((k - 31) % 6) f
def tX_ty (v : tX_V) : List (ClassId × FieldType) := [(v.2.1, .int), (v.2.2.1, .boolean), (v.2.2.2.1, .char), (v.2.2.2.2.1, .object "TowerService$Tower")]
def tX_w (v : tX_V) : ts_Wd := (v.1, tX_ty v, 151, tX_E v, tX_ad v)
/-- a tower's cell, a plan's cell -/
def tX_T (t : Nat) : Prop := ∃ i, i < 20 ∧ t = 31 + 6 * i
def tX_L (k : Nat) : Prop := k = 23 ∨ k = 27
theorem tX_T.lt {t : Nat} (h : tX_T t) : t < 151 := by obtain ⟨i, h, rfl⟩ := h; omega
theorem tX_L.lt {t : Nat} (h : tX_L t) : t < 151 := by rcases h with rfl | rfl <;> omega
theorem tX_Lp (t : Nat) : tX_L (tX_pl t) := by unfold tX_pl; split; exact Or.inr rfl; exact Or.inl rfl
theorem tX_Tc (i : Nat) (h : i < 20) {t : Nat} (ht : 31 + 6 * i = t) : tX_T t := ⟨i, h, ht.symm⟩
theorem tX_Tr {i : Int32} {n b : Nat} (h : vp_in i n) (hb : ∃ j, b = 31 + 6 * j ∧ j + n ≤ 20) : tX_T (b + 6 * i.toNatClampNeg) := by
  obtain ⟨j, rfl, hj⟩ := hb
  have : i.toNatClampNeg < n := Nat.not_le.mp fun q => h (Or.inr q)
  exact ⟨j + i.toNatClampNeg, by omega, by omega⟩
theorem tX_eT {v : tX_V} {t : Nat} (h : tX_T t) (f : Nat → Int32) : tX_E v t f = .inr (8, [.ref (tX_ad v (tX_pl t)), .ref (tX_ad v (t + 1)), .ref (tX_ad v (t + 2)), .ref (tX_ad v (t + 3)), .ref (tX_ad v (t + 4)), .ref (tX_ad v (t + 5)), .int (f 6)]) := by
  obtain ⟨i, hi, rfl⟩ := h
  have h1 : ¬ 31 + 6 * i < 31 := by omega
  have h2 : (31 + 6 * i - 31) % 6 = 0 := by omega
  rw [tX_E, if_neg h1, h2]
  rfl
theorem tX_eL {v : tX_V} {k : Nat} (h : tX_L k) (f : Nat → Int32) : tX_E v k f = .inr (2, [.int (f 0), .int (f 1), .int (f 2), .ref (tX_ad v (k + 1)), .ref (tX_ad v (k + 2)), .ref (tX_ad v (k + 3))]) := by
  rcases h with rfl | rfl <;> rfl
/-- arrays by their cells: of numbers, of marks, of letters -/
def tX_A (q n z : Nat) (c : tX_V → ClassId) : Prop := q < 151 ∧ z = z ∧ ∀ (v : tX_V) (f : Nat → Int32), tX_E v q f = .inl (c v, n, .inl f)
abbrev tX_IA (q n : Nat) : Prop := tX_A q n 0 (fun v => v.2.1)
abbrev tX_ZA (q n : Nat) : Prop := tX_A q n 1 (fun v => v.2.2.1)
abbrev tX_CA (q n : Nat) : Prop := tX_A q n 2 (fun v => v.2.2.2.1)
theorem tX_a1 {t : Nat} (h : tX_T t) {q : Nat} (hq : t + 1 = q) : tX_IA q 6 := by
  subst hq
  obtain ⟨i, hi, rfl⟩ := h
  have h1 : ¬ 31 + 6 * i + 1 < 31 := by omega
  have h2 : (31 + 6 * i + 1 - 31) % 6 = 1 := by omega
  exact ⟨by omega, rfl, fun v f => by rw [tX_E, if_neg h1, h2]; rfl⟩
theorem tX_a2 {t : Nat} (h : tX_T t) {q : Nat} (hq : t + 2 = q) : tX_IA q 6 := by
  subst hq
  obtain ⟨i, hi, rfl⟩ := h
  have h1 : ¬ 31 + 6 * i + 2 < 31 := by omega
  have h2 : (31 + 6 * i + 2 - 31) % 6 = 2 := by omega
  exact ⟨by omega, rfl, fun v f => by rw [tX_E, if_neg h1, h2]; rfl⟩
theorem tX_a3 {t : Nat} (h : tX_T t) {q : Nat} (hq : t + 3 = q) : tX_IA q 6 := by
  subst hq
  obtain ⟨i, hi, rfl⟩ := h
  have h1 : ¬ 31 + 6 * i + 3 < 31 := by omega
  have h2 : (31 + 6 * i + 3 - 31) % 6 = 3 := by omega
  exact ⟨by omega, rfl, fun v f => by rw [tX_E, if_neg h1, h2]; rfl⟩
theorem tX_a4 {t : Nat} (h : tX_T t) {q : Nat} (hq : t + 4 = q) : tX_ZA q 6 := by
  subst hq
  obtain ⟨i, hi, rfl⟩ := h
  have h1 : ¬ 31 + 6 * i + 4 < 31 := by omega
  have h2 : (31 + 6 * i + 4 - 31) % 6 = 4 := by omega
  exact ⟨by omega, rfl, fun v f => by rw [tX_E, if_neg h1, h2]; rfl⟩
theorem tX_a5 {t : Nat} (h : tX_T t) {q : Nat} (hq : t + 5 = q) : tX_ZA q 6 := by
  subst hq
  obtain ⟨i, hi, rfl⟩ := h
  have h1 : ¬ 31 + 6 * i + 5 < 31 := by omega
  have h2 : (31 + 6 * i + 5 - 31) % 6 = 5 := by omega
  exact ⟨by omega, rfl, fun v f => by rw [tX_E, if_neg h1, h2]; rfl⟩
theorem tX_b1 {k : Nat} (h : tX_L k) {q : Nat} (hq : k + 1 = q) : tX_IA q 6 := by
  subst hq
  rcases h with rfl | rfl <;> exact ⟨by omega, rfl, fun v f => rfl⟩
theorem tX_b2 {k : Nat} (h : tX_L k) {q : Nat} (hq : k + 2 = q) : tX_IA q 5 := by
  subst hq
  rcases h with rfl | rfl <;> exact ⟨by omega, rfl, fun v f => rfl⟩
theorem tX_b3 {k : Nat} (h : tX_L k) {q : Nat} (hq : k + 3 = q) : tX_IA q 5 := by
  subst hq
  rcases h with rfl | rfl <;> exact ⟨by omega, rfl, fun v f => rfl⟩
theorem tX_c2 : tX_CA 2 200 := ⟨by omega, rfl, fun v f => rfl⟩
theorem tX_c3 : tX_IA 3 4 := ⟨by omega, rfl, fun v f => rfl⟩
theorem tX_c8 : tX_IA 8 6 := ⟨by omega, rfl, fun v f => rfl⟩
theorem tX_c9 : tX_IA 9 6 := ⟨by omega, rfl, fun v f => rfl⟩
theorem tX_c10 : tX_ZA 10 6 := ⟨by omega, rfl, fun v f => rfl⟩
theorem tX_c12 : tX_IA 12 6 := ⟨by omega, rfl, fun v f => rfl⟩
theorem tX_c13 : tX_IA 13 5 := ⟨by omega, rfl, fun v f => rfl⟩
theorem tX_c14 : tX_IA 14 10 := ⟨by omega, rfl, fun v f => rfl⟩
theorem tX_c15 : tX_IA 15 6 := ⟨by omega, rfl, fun v f => rfl⟩
theorem tX_c18 : tX_IA 18 4 := ⟨by omega, rfl, fun v f => rfl⟩
theorem tX_c19 : tX_IA 19 4 := ⟨by omega, rfl, fun v f => rfl⟩
theorem tX_c22 : tX_IA 22 6 := ⟨by omega, rfl, fun v f => rfl⟩
theorem tX_c24 : tX_IA 24 6 := ⟨by omega, rfl, fun v f => rfl⟩
theorem tX_c25 : tX_IA 25 5 := ⟨by omega, rfl, fun v f => rfl⟩
theorem tX_c26 : tX_IA 26 5 := ⟨by omega, rfl, fun v f => rfl⟩
theorem tX_c28 : tX_IA 28 6 := ⟨by omega, rfl, fun v f => rfl⟩
theorem tX_c29 : tX_IA 29 5 := ⟨by omega, rfl, fun v f => rfl⟩
theorem tX_c30 : tX_IA 30 5 := ⟨by omega, rfl, fun v f => rfl⟩
/-! the world of the reference: 15 cells -/
def tM_len (k : Nat) : Nat := match k with
  | 1 => 6
  | 2 => 10
  | 3 => 21
  | 4 => 168
  | 5 => 42
  | 6 => 18
  | 7 => 200
  | 8 => 4
  | 9 => 6
  | 10 => 21
  | 11 => 10
  | 12 => 21
  | 13 => 6
  | 14 => 6
  | _ => 0
def tM_E (v : tX_V) (k : Nat) (f : Nat → Int32) : va_E := match k with
  | 0 => .inr (10, [.int (f 0), .int (f 1), .ref (tX_ad v 1), .int (f 3), .ref (tX_ad v 2), .ref (tX_ad v 3), .int (f 6), .ref (tX_ad v 4), .int (f 8), .ref (tX_ad v 5), .int (f 10), .ref (tX_ad v 6), .ref (tX_ad v 7), .int (f 13), .int (f 14), .ref (tX_ad v 8), .int (f 16), .int (f 17), .ref (tX_ad v 9), .ref (tX_ad v 10), .int (f 20), .ref (tX_ad v 11), .ref (tX_ad v 12), .ref (tX_ad v 13), .ref (tX_ad v 14)])
  | k => .inl (v.2.1, tM_len k, .inl f)
def tM_w (v : tX_V) : ts_Wd := (v.1, tX_ty v, 15, tM_E v, tX_ad v)
def tM_A (k n : Nat) : Prop := k < 15 ∧ tM_len k = n ∧ ∀ (v : tX_V) (f : Nat → Int32), tM_E v k f = .inl (v.2.1, n, .inl f)
theorem tM_c1 : tM_A 1 6 := ⟨by omega, rfl, fun v f => rfl⟩
theorem tM_c2 : tM_A 2 10 := ⟨by omega, rfl, fun v f => rfl⟩
theorem tM_c3 : tM_A 3 21 := ⟨by omega, rfl, fun v f => rfl⟩
theorem tM_c4 : tM_A 4 168 := ⟨by omega, rfl, fun v f => rfl⟩
theorem tM_c5 : tM_A 5 42 := ⟨by omega, rfl, fun v f => rfl⟩
theorem tM_c6 : tM_A 6 18 := ⟨by omega, rfl, fun v f => rfl⟩
theorem tM_c7 : tM_A 7 200 := ⟨by omega, rfl, fun v f => rfl⟩
theorem tM_c8 : tM_A 8 4 := ⟨by omega, rfl, fun v f => rfl⟩
theorem tM_c9 : tM_A 9 6 := ⟨by omega, rfl, fun v f => rfl⟩
theorem tM_c10 : tM_A 10 21 := ⟨by omega, rfl, fun v f => rfl⟩
theorem tM_c11 : tM_A 11 10 := ⟨by omega, rfl, fun v f => rfl⟩
theorem tM_c12 : tM_A 12 21 := ⟨by omega, rfl, fun v f => rfl⟩
theorem tM_c13 : tM_A 13 6 := ⟨by omega, rfl, fun v f => rfl⟩
theorem tM_c14 : tM_A 14 6 := ⟨by omega, rfl, fun v f => rfl⟩
end
section
theorem gf_X6_9 {g : ts_Ctx} {v : tX_V} {cc : ByteArray} {nL : Nat} {σ : ts_S} {pc : Nat} {lv : List (Nat × Value)} {st : List Value} (X : ts_X g (tX_w v) cc nL RX6) (d : decode cc pc = .ok (.getfield 9, 3)) (k : ts_G g (tX_w v) nL σ (pc + 3) lv (.ref (tX_ad v 2) :: st)) : ts_G g (tX_w v) nL σ pc lv (.ref (tX_ad v 1) :: st) :=
  ts_get (w := tX_w v) X (by omega : 1 < 151) rfl rfl tw_X6 0 (by decide) kw_91 rfl rfl d k
theorem gf_X6_19 {g : ts_Ctx} {v : tX_V} {cc : ByteArray} {nL : Nat} {σ : ts_S} {pc : Nat} {lv : List (Nat × Value)} {st : List Value} (X : ts_X g (tX_w v) cc nL RX6) (d : decode cc pc = .ok (.getfield 19, 3)) (k : ts_G g (tX_w v) nL σ (pc + 3) lv (.int (σ 1 1) :: st)) : ts_G g (tX_w v) nL σ pc lv (.ref (tX_ad v 1) :: st) :=
  ts_get (w := tX_w v) X (by omega : 1 < 151) rfl rfl tw_X6 1 (by decide) kw_92 rfl rfl d k
theorem pf_X6_19 {g : ts_Ctx} {v : tX_V} {cc : ByteArray} {nL : Nat} {σ : ts_S} {pc : Nat} {lv : List (Nat × Value)} {st : List Value} {x : Int32} (X : ts_X g (tX_w v) cc nL RX6) (d : decode cc pc = .ok (.putfield 19, 3)) (k : ∀ σ1 : ts_S, σ1 = ts_u σ 1 1 x → ts_G g (tX_w v) nL σ1 (pc + 3) lv st) : ts_G g (tX_w v) nL σ pc lv (.int x :: .ref (tX_ad v 1) :: st) :=
  ts_put (w := tX_w v) X (by omega : 1 < 151) rfl rfl tw_X6 tyX6 tyX6_ok nmX6 1 (by decide) kw_92 rfl rfl (by decide +kernel) (Nat.le_of_ble_eq_true rfl) rfl d k
theorem gf_X9_116 {g : ts_Ctx} {v : tX_V} {cc : ByteArray} {nL : Nat} {σ : ts_S} {pc : Nat} {lv : List (Nat × Value)} {st : List Value} (X : ts_X g (tX_w v) cc nL RX9) (d : decode cc pc = .ok (.getfield 116, 3)) (k : ts_G g (tX_w v) nL σ (pc + 3) lv (.int (σ 1 1) :: st)) : ts_G g (tX_w v) nL σ pc lv (.ref (tX_ad v 1) :: st) :=
  ts_get (w := tX_w v) X (by omega : 1 < 151) rfl rfl tw_X6 1 (by decide) kw_93 rfl rfl d k
theorem pf_X9_116 {g : ts_Ctx} {v : tX_V} {cc : ByteArray} {nL : Nat} {σ : ts_S} {pc : Nat} {lv : List (Nat × Value)} {st : List Value} {x : Int32} (X : ts_X g (tX_w v) cc nL RX9) (d : decode cc pc = .ok (.putfield 116, 3)) (k : ∀ σ1 : ts_S, σ1 = ts_u σ 1 1 x → ts_G g (tX_w v) nL σ1 (pc + 3) lv st) : ts_G g (tX_w v) nL σ pc lv (.int x :: .ref (tX_ad v 1) :: st) :=
  ts_put (w := tX_w v) X (by omega : 1 < 151) rfl rfl tw_X6 tyX6 tyX6_ok nmX6 1 (by decide) kw_93 rfl rfl (by decide +kernel) (Nat.le_of_ble_eq_true rfl) rfl d k
theorem gf_X6_37 {g : ts_Ctx} {v : tX_V} {cc : ByteArray} {nL : Nat} {σ : ts_S} {pc : Nat} {lv : List (Nat × Value)} {st : List Value} (X : ts_X g (tX_w v) cc nL RX6) (d : decode cc pc = .ok (.getfield 37, 3)) (k : ts_G g (tX_w v) nL σ (pc + 3) lv (.int (σ 1 2) :: st)) : ts_G g (tX_w v) nL σ pc lv (.ref (tX_ad v 1) :: st) :=
  ts_get (w := tX_w v) X (by omega : 1 < 151) rfl rfl tw_X6 2 (by decide) kw_94 rfl rfl d k
theorem pf_X6_37 {g : ts_Ctx} {v : tX_V} {cc : ByteArray} {nL : Nat} {σ : ts_S} {pc : Nat} {lv : List (Nat × Value)} {st : List Value} {x : Int32} (X : ts_X g (tX_w v) cc nL RX6) (d : decode cc pc = .ok (.putfield 37, 3)) (k : ∀ σ1 : ts_S, σ1 = ts_u σ 1 2 x → ts_G g (tX_w v) nL σ1 (pc + 3) lv st) : ts_G g (tX_w v) nL σ pc lv (.int x :: .ref (tX_ad v 1) :: st) :=
  ts_put (w := tX_w v) X (by omega : 1 < 151) rfl rfl tw_X6 tyX6 tyX6_ok nmX6 2 (by decide) kw_94 rfl rfl (by decide +kernel) (Nat.le_of_ble_eq_true rfl) rfl d k
theorem gf_X6_15 {g : ts_Ctx} {v : tX_V} {cc : ByteArray} {nL : Nat} {σ : ts_S} {pc : Nat} {lv : List (Nat × Value)} {st : List Value} (X : ts_X g (tX_w v) cc nL RX6) (d : decode cc pc = .ok (.getfield 15, 3)) (k : ts_G g (tX_w v) nL σ (pc + 3) lv (.ref (tX_ad v 3) :: st)) : ts_G g (tX_w v) nL σ pc lv (.ref (tX_ad v 1) :: st) :=
  ts_get (w := tX_w v) X (by omega : 1 < 151) rfl rfl tw_X6 3 (by decide) kw_95 rfl rfl d k
theorem gf_X2_9 {g : ts_Ctx} {v : tX_V} {cc : ByteArray} {nL : Nat} {σ : ts_S} {pc : Nat} {lv : List (Nat × Value)} {st : List Value} (X : ts_X g (tX_w v) cc nL RX2) {t : Nat} (ht : tX_L t) (d : decode cc pc = .ok (.getfield 9, 3)) (k : ts_G g (tX_w v) nL σ (pc + 3) lv (.int (σ t 0) :: st)) : ts_G g (tX_w v) nL σ pc lv (.ref (tX_ad v t) :: st) :=
  ts_get (w := tX_w v) X ht.lt (tX_eL ht _) rfl tw_X2 0 (by decide) kw_115 rfl rfl d k
theorem pf_X2_9 {g : ts_Ctx} {v : tX_V} {cc : ByteArray} {nL : Nat} {σ : ts_S} {pc : Nat} {lv : List (Nat × Value)} {st : List Value} {x : Int32} (X : ts_X g (tX_w v) cc nL RX2) {t : Nat} (ht : tX_L t) (d : decode cc pc = .ok (.putfield 9, 3)) (k : ∀ σ1 : ts_S, σ1 = ts_u σ t 0 x → ts_G g (tX_w v) nL σ1 (pc + 3) lv st) : ts_G g (tX_w v) nL σ pc lv (.int x :: .ref (tX_ad v t) :: st) :=
  ts_put (w := tX_w v) X ht.lt (tX_eL ht _) rfl tw_X2 tyX2 tyX2_ok nmX2 0 (by decide) kw_115 rfl rfl (by decide +kernel) (Nat.le_of_ble_eq_true rfl) (tX_eL ht _) d k
theorem gf_X3_78 {g : ts_Ctx} {v : tX_V} {cc : ByteArray} {nL : Nat} {σ : ts_S} {pc : Nat} {lv : List (Nat × Value)} {st : List Value} (X : ts_X g (tX_w v) cc nL RX3) {t : Nat} (ht : tX_L t) (d : decode cc pc = .ok (.getfield 78, 3)) (k : ts_G g (tX_w v) nL σ (pc + 3) lv (.int (σ t 0) :: st)) : ts_G g (tX_w v) nL σ pc lv (.ref (tX_ad v t) :: st) :=
  ts_get (w := tX_w v) X ht.lt (tX_eL ht _) rfl tw_X2 0 (by decide) kw_116 rfl rfl d k
theorem pf_X3_78 {g : ts_Ctx} {v : tX_V} {cc : ByteArray} {nL : Nat} {σ : ts_S} {pc : Nat} {lv : List (Nat × Value)} {st : List Value} {x : Int32} (X : ts_X g (tX_w v) cc nL RX3) {t : Nat} (ht : tX_L t) (d : decode cc pc = .ok (.putfield 78, 3)) (k : ∀ σ1 : ts_S, σ1 = ts_u σ t 0 x → ts_G g (tX_w v) nL σ1 (pc + 3) lv st) : ts_G g (tX_w v) nL σ pc lv (.int x :: .ref (tX_ad v t) :: st) :=
  ts_put (w := tX_w v) X ht.lt (tX_eL ht _) rfl tw_X2 tyX2 tyX2_ok nmX2 0 (by decide) kw_116 rfl rfl (by decide +kernel) (Nat.le_of_ble_eq_true rfl) (tX_eL ht _) d k
theorem gf_X8_58 {g : ts_Ctx} {v : tX_V} {cc : ByteArray} {nL : Nat} {σ : ts_S} {pc : Nat} {lv : List (Nat × Value)} {st : List Value} (X : ts_X g (tX_w v) cc nL RX8) {t : Nat} (ht : tX_L t) (d : decode cc pc = .ok (.getfield 58, 3)) (k : ts_G g (tX_w v) nL σ (pc + 3) lv (.int (σ t 0) :: st)) : ts_G g (tX_w v) nL σ pc lv (.ref (tX_ad v t) :: st) :=
  ts_get (w := tX_w v) X ht.lt (tX_eL ht _) rfl tw_X2 0 (by decide) kw_117 rfl rfl d k
theorem pf_X8_58 {g : ts_Ctx} {v : tX_V} {cc : ByteArray} {nL : Nat} {σ : ts_S} {pc : Nat} {lv : List (Nat × Value)} {st : List Value} {x : Int32} (X : ts_X g (tX_w v) cc nL RX8) {t : Nat} (ht : tX_L t) (d : decode cc pc = .ok (.putfield 58, 3)) (k : ∀ σ1 : ts_S, σ1 = ts_u σ t 0 x → ts_G g (tX_w v) nL σ1 (pc + 3) lv st) : ts_G g (tX_w v) nL σ pc lv (.int x :: .ref (tX_ad v t) :: st) :=
  ts_put (w := tX_w v) X ht.lt (tX_eL ht _) rfl tw_X2 tyX2 tyX2_ok nmX2 0 (by decide) kw_117 rfl rfl (by decide +kernel) (Nat.le_of_ble_eq_true rfl) (tX_eL ht _) d k
theorem gf_X6_66 {g : ts_Ctx} {v : tX_V} {cc : ByteArray} {nL : Nat} {σ : ts_S} {pc : Nat} {lv : List (Nat × Value)} {st : List Value} (X : ts_X g (tX_w v) cc nL RX6) {t : Nat} (ht : tX_L t) (d : decode cc pc = .ok (.getfield 66, 3)) (k : ts_G g (tX_w v) nL σ (pc + 3) lv (.int (σ t 0) :: st)) : ts_G g (tX_w v) nL σ pc lv (.ref (tX_ad v t) :: st) :=
  ts_get (w := tX_w v) X ht.lt (tX_eL ht _) rfl tw_X2 0 (by decide) kw_118 rfl rfl d k
theorem pf_X6_66 {g : ts_Ctx} {v : tX_V} {cc : ByteArray} {nL : Nat} {σ : ts_S} {pc : Nat} {lv : List (Nat × Value)} {st : List Value} {x : Int32} (X : ts_X g (tX_w v) cc nL RX6) {t : Nat} (ht : tX_L t) (d : decode cc pc = .ok (.putfield 66, 3)) (k : ∀ σ1 : ts_S, σ1 = ts_u σ t 0 x → ts_G g (tX_w v) nL σ1 (pc + 3) lv st) : ts_G g (tX_w v) nL σ pc lv (.int x :: .ref (tX_ad v t) :: st) :=
  ts_put (w := tX_w v) X ht.lt (tX_eL ht _) rfl tw_X2 tyX2 tyX2_ok nmX2 0 (by decide) kw_118 rfl rfl (by decide +kernel) (Nat.le_of_ble_eq_true rfl) (tX_eL ht _) d k
theorem gf_X9_297 {g : ts_Ctx} {v : tX_V} {cc : ByteArray} {nL : Nat} {σ : ts_S} {pc : Nat} {lv : List (Nat × Value)} {st : List Value} (X : ts_X g (tX_w v) cc nL RX9) {t : Nat} (ht : tX_L t) (d : decode cc pc = .ok (.getfield 297, 3)) (k : ts_G g (tX_w v) nL σ (pc + 3) lv (.int (σ t 0) :: st)) : ts_G g (tX_w v) nL σ pc lv (.ref (tX_ad v t) :: st) :=
  ts_get (w := tX_w v) X ht.lt (tX_eL ht _) rfl tw_X2 0 (by decide) kw_119 rfl rfl d k
theorem pf_X9_297 {g : ts_Ctx} {v : tX_V} {cc : ByteArray} {nL : Nat} {σ : ts_S} {pc : Nat} {lv : List (Nat × Value)} {st : List Value} {x : Int32} (X : ts_X g (tX_w v) cc nL RX9) {t : Nat} (ht : tX_L t) (d : decode cc pc = .ok (.putfield 297, 3)) (k : ∀ σ1 : ts_S, σ1 = ts_u σ t 0 x → ts_G g (tX_w v) nL σ1 (pc + 3) lv st) : ts_G g (tX_w v) nL σ pc lv (.int x :: .ref (tX_ad v t) :: st) :=
  ts_put (w := tX_w v) X ht.lt (tX_eL ht _) rfl tw_X2 tyX2 tyX2_ok nmX2 0 (by decide) kw_119 rfl rfl (by decide +kernel) (Nat.le_of_ble_eq_true rfl) (tX_eL ht _) d k
theorem gf_X2_25 {g : ts_Ctx} {v : tX_V} {cc : ByteArray} {nL : Nat} {σ : ts_S} {pc : Nat} {lv : List (Nat × Value)} {st : List Value} (X : ts_X g (tX_w v) cc nL RX2) {t : Nat} (ht : tX_L t) (d : decode cc pc = .ok (.getfield 25, 3)) (k : ts_G g (tX_w v) nL σ (pc + 3) lv (.int (σ t 1) :: st)) : ts_G g (tX_w v) nL σ pc lv (.ref (tX_ad v t) :: st) :=
  ts_get (w := tX_w v) X ht.lt (tX_eL ht _) rfl tw_X2 1 (by decide) kw_120 rfl rfl d k
theorem pf_X2_25 {g : ts_Ctx} {v : tX_V} {cc : ByteArray} {nL : Nat} {σ : ts_S} {pc : Nat} {lv : List (Nat × Value)} {st : List Value} {x : Int32} (X : ts_X g (tX_w v) cc nL RX2) {t : Nat} (ht : tX_L t) (d : decode cc pc = .ok (.putfield 25, 3)) (k : ∀ σ1 : ts_S, σ1 = ts_u σ t 1 x → ts_G g (tX_w v) nL σ1 (pc + 3) lv st) : ts_G g (tX_w v) nL σ pc lv (.int x :: .ref (tX_ad v t) :: st) :=
  ts_put (w := tX_w v) X ht.lt (tX_eL ht _) rfl tw_X2 tyX2 tyX2_ok nmX2 1 (by decide) kw_120 rfl rfl (by decide +kernel) (Nat.le_of_ble_eq_true rfl) (tX_eL ht _) d k
theorem gf_X3_42 {g : ts_Ctx} {v : tX_V} {cc : ByteArray} {nL : Nat} {σ : ts_S} {pc : Nat} {lv : List (Nat × Value)} {st : List Value} (X : ts_X g (tX_w v) cc nL RX3) {t : Nat} (ht : tX_L t) (d : decode cc pc = .ok (.getfield 42, 3)) (k : ts_G g (tX_w v) nL σ (pc + 3) lv (.int (σ t 1) :: st)) : ts_G g (tX_w v) nL σ pc lv (.ref (tX_ad v t) :: st) :=
  ts_get (w := tX_w v) X ht.lt (tX_eL ht _) rfl tw_X2 1 (by decide) kw_121 rfl rfl d k
theorem pf_X3_42 {g : ts_Ctx} {v : tX_V} {cc : ByteArray} {nL : Nat} {σ : ts_S} {pc : Nat} {lv : List (Nat × Value)} {st : List Value} {x : Int32} (X : ts_X g (tX_w v) cc nL RX3) {t : Nat} (ht : tX_L t) (d : decode cc pc = .ok (.putfield 42, 3)) (k : ∀ σ1 : ts_S, σ1 = ts_u σ t 1 x → ts_G g (tX_w v) nL σ1 (pc + 3) lv st) : ts_G g (tX_w v) nL σ pc lv (.int x :: .ref (tX_ad v t) :: st) :=
  ts_put (w := tX_w v) X ht.lt (tX_eL ht _) rfl tw_X2 tyX2 tyX2_ok nmX2 1 (by decide) kw_121 rfl rfl (by decide +kernel) (Nat.le_of_ble_eq_true rfl) (tX_eL ht _) d k
theorem gf_X5_27 {g : ts_Ctx} {v : tX_V} {cc : ByteArray} {nL : Nat} {σ : ts_S} {pc : Nat} {lv : List (Nat × Value)} {st : List Value} (X : ts_X g (tX_w v) cc nL RX5) {t : Nat} (ht : tX_L t) (d : decode cc pc = .ok (.getfield 27, 3)) (k : ts_G g (tX_w v) nL σ (pc + 3) lv (.int (σ t 1) :: st)) : ts_G g (tX_w v) nL σ pc lv (.ref (tX_ad v t) :: st) :=
  ts_get (w := tX_w v) X ht.lt (tX_eL ht _) rfl tw_X2 1 (by decide) kw_122 rfl rfl d k
theorem pf_X5_27 {g : ts_Ctx} {v : tX_V} {cc : ByteArray} {nL : Nat} {σ : ts_S} {pc : Nat} {lv : List (Nat × Value)} {st : List Value} {x : Int32} (X : ts_X g (tX_w v) cc nL RX5) {t : Nat} (ht : tX_L t) (d : decode cc pc = .ok (.putfield 27, 3)) (k : ∀ σ1 : ts_S, σ1 = ts_u σ t 1 x → ts_G g (tX_w v) nL σ1 (pc + 3) lv st) : ts_G g (tX_w v) nL σ pc lv (.int x :: .ref (tX_ad v t) :: st) :=
  ts_put (w := tX_w v) X ht.lt (tX_eL ht _) rfl tw_X2 tyX2 tyX2_ok nmX2 1 (by decide) kw_122 rfl rfl (by decide +kernel) (Nat.le_of_ble_eq_true rfl) (tX_eL ht _) d k
theorem gf_X0_32 {g : ts_Ctx} {v : tX_V} {cc : ByteArray} {nL : Nat} {σ : ts_S} {pc : Nat} {lv : List (Nat × Value)} {st : List Value} (X : ts_X g (tX_w v) cc nL RX0) {t : Nat} (ht : tX_L t) (d : decode cc pc = .ok (.getfield 32, 3)) (k : ts_G g (tX_w v) nL σ (pc + 3) lv (.int (σ t 1) :: st)) : ts_G g (tX_w v) nL σ pc lv (.ref (tX_ad v t) :: st) :=
  ts_get (w := tX_w v) X ht.lt (tX_eL ht _) rfl tw_X2 1 (by decide) kw_123 rfl rfl d k
theorem pf_X0_32 {g : ts_Ctx} {v : tX_V} {cc : ByteArray} {nL : Nat} {σ : ts_S} {pc : Nat} {lv : List (Nat × Value)} {st : List Value} {x : Int32} (X : ts_X g (tX_w v) cc nL RX0) {t : Nat} (ht : tX_L t) (d : decode cc pc = .ok (.putfield 32, 3)) (k : ∀ σ1 : ts_S, σ1 = ts_u σ t 1 x → ts_G g (tX_w v) nL σ1 (pc + 3) lv st) : ts_G g (tX_w v) nL σ pc lv (.int x :: .ref (tX_ad v t) :: st) :=
  ts_put (w := tX_w v) X ht.lt (tX_eL ht _) rfl tw_X2 tyX2 tyX2_ok nmX2 1 (by decide) kw_123 rfl rfl (by decide +kernel) (Nat.le_of_ble_eq_true rfl) (tX_eL ht _) d k
theorem gf_X7_64 {g : ts_Ctx} {v : tX_V} {cc : ByteArray} {nL : Nat} {σ : ts_S} {pc : Nat} {lv : List (Nat × Value)} {st : List Value} (X : ts_X g (tX_w v) cc nL RX7) {t : Nat} (ht : tX_L t) (d : decode cc pc = .ok (.getfield 64, 3)) (k : ts_G g (tX_w v) nL σ (pc + 3) lv (.int (σ t 1) :: st)) : ts_G g (tX_w v) nL σ pc lv (.ref (tX_ad v t) :: st) :=
  ts_get (w := tX_w v) X ht.lt (tX_eL ht _) rfl tw_X2 1 (by decide) kw_124 rfl rfl d k
theorem pf_X7_64 {g : ts_Ctx} {v : tX_V} {cc : ByteArray} {nL : Nat} {σ : ts_S} {pc : Nat} {lv : List (Nat × Value)} {st : List Value} {x : Int32} (X : ts_X g (tX_w v) cc nL RX7) {t : Nat} (ht : tX_L t) (d : decode cc pc = .ok (.putfield 64, 3)) (k : ∀ σ1 : ts_S, σ1 = ts_u σ t 1 x → ts_G g (tX_w v) nL σ1 (pc + 3) lv st) : ts_G g (tX_w v) nL σ pc lv (.int x :: .ref (tX_ad v t) :: st) :=
  ts_put (w := tX_w v) X ht.lt (tX_eL ht _) rfl tw_X2 tyX2 tyX2_ok nmX2 1 (by decide) kw_124 rfl rfl (by decide +kernel) (Nat.le_of_ble_eq_true rfl) (tX_eL ht _) d k
theorem gf_X8_51 {g : ts_Ctx} {v : tX_V} {cc : ByteArray} {nL : Nat} {σ : ts_S} {pc : Nat} {lv : List (Nat × Value)} {st : List Value} (X : ts_X g (tX_w v) cc nL RX8) {t : Nat} (ht : tX_L t) (d : decode cc pc = .ok (.getfield 51, 3)) (k : ts_G g (tX_w v) nL σ (pc + 3) lv (.int (σ t 1) :: st)) : ts_G g (tX_w v) nL σ pc lv (.ref (tX_ad v t) :: st) :=
  ts_get (w := tX_w v) X ht.lt (tX_eL ht _) rfl tw_X2 1 (by decide) kw_125 rfl rfl d k
theorem pf_X8_51 {g : ts_Ctx} {v : tX_V} {cc : ByteArray} {nL : Nat} {σ : ts_S} {pc : Nat} {lv : List (Nat × Value)} {st : List Value} {x : Int32} (X : ts_X g (tX_w v) cc nL RX8) {t : Nat} (ht : tX_L t) (d : decode cc pc = .ok (.putfield 51, 3)) (k : ∀ σ1 : ts_S, σ1 = ts_u σ t 1 x → ts_G g (tX_w v) nL σ1 (pc + 3) lv st) : ts_G g (tX_w v) nL σ pc lv (.int x :: .ref (tX_ad v t) :: st) :=
  ts_put (w := tX_w v) X ht.lt (tX_eL ht _) rfl tw_X2 tyX2 tyX2_ok nmX2 1 (by decide) kw_125 rfl rfl (by decide +kernel) (Nat.le_of_ble_eq_true rfl) (tX_eL ht _) d k
theorem gf_X9_123 {g : ts_Ctx} {v : tX_V} {cc : ByteArray} {nL : Nat} {σ : ts_S} {pc : Nat} {lv : List (Nat × Value)} {st : List Value} (X : ts_X g (tX_w v) cc nL RX9) {t : Nat} (ht : tX_L t) (d : decode cc pc = .ok (.getfield 123, 3)) (k : ts_G g (tX_w v) nL σ (pc + 3) lv (.int (σ t 1) :: st)) : ts_G g (tX_w v) nL σ pc lv (.ref (tX_ad v t) :: st) :=
  ts_get (w := tX_w v) X ht.lt (tX_eL ht _) rfl tw_X2 1 (by decide) kw_126 rfl rfl d k
theorem pf_X9_123 {g : ts_Ctx} {v : tX_V} {cc : ByteArray} {nL : Nat} {σ : ts_S} {pc : Nat} {lv : List (Nat × Value)} {st : List Value} {x : Int32} (X : ts_X g (tX_w v) cc nL RX9) {t : Nat} (ht : tX_L t) (d : decode cc pc = .ok (.putfield 123, 3)) (k : ∀ σ1 : ts_S, σ1 = ts_u σ t 1 x → ts_G g (tX_w v) nL σ1 (pc + 3) lv st) : ts_G g (tX_w v) nL σ pc lv (.int x :: .ref (tX_ad v t) :: st) :=
  ts_put (w := tX_w v) X ht.lt (tX_eL ht _) rfl tw_X2 tyX2 tyX2_ok nmX2 1 (by decide) kw_126 rfl rfl (by decide +kernel) (Nat.le_of_ble_eq_true rfl) (tX_eL ht _) d k
theorem gf_X6_73 {g : ts_Ctx} {v : tX_V} {cc : ByteArray} {nL : Nat} {σ : ts_S} {pc : Nat} {lv : List (Nat × Value)} {st : List Value} (X : ts_X g (tX_w v) cc nL RX6) {t : Nat} (ht : tX_L t) (d : decode cc pc = .ok (.getfield 73, 3)) (k : ts_G g (tX_w v) nL σ (pc + 3) lv (.int (σ t 1) :: st)) : ts_G g (tX_w v) nL σ pc lv (.ref (tX_ad v t) :: st) :=
  ts_get (w := tX_w v) X ht.lt (tX_eL ht _) rfl tw_X2 1 (by decide) kw_127 rfl rfl d k
theorem pf_X6_73 {g : ts_Ctx} {v : tX_V} {cc : ByteArray} {nL : Nat} {σ : ts_S} {pc : Nat} {lv : List (Nat × Value)} {st : List Value} {x : Int32} (X : ts_X g (tX_w v) cc nL RX6) {t : Nat} (ht : tX_L t) (d : decode cc pc = .ok (.putfield 73, 3)) (k : ∀ σ1 : ts_S, σ1 = ts_u σ t 1 x → ts_G g (tX_w v) nL σ1 (pc + 3) lv st) : ts_G g (tX_w v) nL σ pc lv (.int x :: .ref (tX_ad v t) :: st) :=
  ts_put (w := tX_w v) X ht.lt (tX_eL ht _) rfl tw_X2 tyX2 tyX2_ok nmX2 1 (by decide) kw_127 rfl rfl (by decide +kernel) (Nat.le_of_ble_eq_true rfl) (tX_eL ht _) d k
theorem gf_X2_28 {g : ts_Ctx} {v : tX_V} {cc : ByteArray} {nL : Nat} {σ : ts_S} {pc : Nat} {lv : List (Nat × Value)} {st : List Value} (X : ts_X g (tX_w v) cc nL RX2) {t : Nat} (ht : tX_L t) (d : decode cc pc = .ok (.getfield 28, 3)) (k : ts_G g (tX_w v) nL σ (pc + 3) lv (.int (σ t 2) :: st)) : ts_G g (tX_w v) nL σ pc lv (.ref (tX_ad v t) :: st) :=
  ts_get (w := tX_w v) X ht.lt (tX_eL ht _) rfl tw_X2 2 (by decide) kw_128 rfl rfl d k
theorem pf_X2_28 {g : ts_Ctx} {v : tX_V} {cc : ByteArray} {nL : Nat} {σ : ts_S} {pc : Nat} {lv : List (Nat × Value)} {st : List Value} {x : Int32} (X : ts_X g (tX_w v) cc nL RX2) {t : Nat} (ht : tX_L t) (d : decode cc pc = .ok (.putfield 28, 3)) (k : ∀ σ1 : ts_S, σ1 = ts_u σ t 2 x → ts_G g (tX_w v) nL σ1 (pc + 3) lv st) : ts_G g (tX_w v) nL σ pc lv (.int x :: .ref (tX_ad v t) :: st) :=
  ts_put (w := tX_w v) X ht.lt (tX_eL ht _) rfl tw_X2 tyX2 tyX2_ok nmX2 2 (by decide) kw_128 rfl rfl (by decide +kernel) (Nat.le_of_ble_eq_true rfl) (tX_eL ht _) d k
theorem gf_X3_54 {g : ts_Ctx} {v : tX_V} {cc : ByteArray} {nL : Nat} {σ : ts_S} {pc : Nat} {lv : List (Nat × Value)} {st : List Value} (X : ts_X g (tX_w v) cc nL RX3) {t : Nat} (ht : tX_L t) (d : decode cc pc = .ok (.getfield 54, 3)) (k : ts_G g (tX_w v) nL σ (pc + 3) lv (.int (σ t 2) :: st)) : ts_G g (tX_w v) nL σ pc lv (.ref (tX_ad v t) :: st) :=
  ts_get (w := tX_w v) X ht.lt (tX_eL ht _) rfl tw_X2 2 (by decide) kw_129 rfl rfl d k
theorem pf_X3_54 {g : ts_Ctx} {v : tX_V} {cc : ByteArray} {nL : Nat} {σ : ts_S} {pc : Nat} {lv : List (Nat × Value)} {st : List Value} {x : Int32} (X : ts_X g (tX_w v) cc nL RX3) {t : Nat} (ht : tX_L t) (d : decode cc pc = .ok (.putfield 54, 3)) (k : ∀ σ1 : ts_S, σ1 = ts_u σ t 2 x → ts_G g (tX_w v) nL σ1 (pc + 3) lv st) : ts_G g (tX_w v) nL σ pc lv (.int x :: .ref (tX_ad v t) :: st) :=
  ts_put (w := tX_w v) X ht.lt (tX_eL ht _) rfl tw_X2 tyX2 tyX2_ok nmX2 2 (by decide) kw_129 rfl rfl (by decide +kernel) (Nat.le_of_ble_eq_true rfl) (tX_eL ht _) d k
theorem gf_X7_69 {g : ts_Ctx} {v : tX_V} {cc : ByteArray} {nL : Nat} {σ : ts_S} {pc : Nat} {lv : List (Nat × Value)} {st : List Value} (X : ts_X g (tX_w v) cc nL RX7) {t : Nat} (ht : tX_L t) (d : decode cc pc = .ok (.getfield 69, 3)) (k : ts_G g (tX_w v) nL σ (pc + 3) lv (.int (σ t 2) :: st)) : ts_G g (tX_w v) nL σ pc lv (.ref (tX_ad v t) :: st) :=
  ts_get (w := tX_w v) X ht.lt (tX_eL ht _) rfl tw_X2 2 (by decide) kw_130 rfl rfl d k
theorem pf_X7_69 {g : ts_Ctx} {v : tX_V} {cc : ByteArray} {nL : Nat} {σ : ts_S} {pc : Nat} {lv : List (Nat × Value)} {st : List Value} {x : Int32} (X : ts_X g (tX_w v) cc nL RX7) {t : Nat} (ht : tX_L t) (d : decode cc pc = .ok (.putfield 69, 3)) (k : ∀ σ1 : ts_S, σ1 = ts_u σ t 2 x → ts_G g (tX_w v) nL σ1 (pc + 3) lv st) : ts_G g (tX_w v) nL σ pc lv (.int x :: .ref (tX_ad v t) :: st) :=
  ts_put (w := tX_w v) X ht.lt (tX_eL ht _) rfl tw_X2 tyX2 tyX2_ok nmX2 2 (by decide) kw_130 rfl rfl (by decide +kernel) (Nat.le_of_ble_eq_true rfl) (tX_eL ht _) d k
theorem gf_X9_164 {g : ts_Ctx} {v : tX_V} {cc : ByteArray} {nL : Nat} {σ : ts_S} {pc : Nat} {lv : List (Nat × Value)} {st : List Value} (X : ts_X g (tX_w v) cc nL RX9) {t : Nat} (ht : tX_L t) (d : decode cc pc = .ok (.getfield 164, 3)) (k : ts_G g (tX_w v) nL σ (pc + 3) lv (.int (σ t 2) :: st)) : ts_G g (tX_w v) nL σ pc lv (.ref (tX_ad v t) :: st) :=
  ts_get (w := tX_w v) X ht.lt (tX_eL ht _) rfl tw_X2 2 (by decide) kw_131 rfl rfl d k
theorem pf_X9_164 {g : ts_Ctx} {v : tX_V} {cc : ByteArray} {nL : Nat} {σ : ts_S} {pc : Nat} {lv : List (Nat × Value)} {st : List Value} {x : Int32} (X : ts_X g (tX_w v) cc nL RX9) {t : Nat} (ht : tX_L t) (d : decode cc pc = .ok (.putfield 164, 3)) (k : ∀ σ1 : ts_S, σ1 = ts_u σ t 2 x → ts_G g (tX_w v) nL σ1 (pc + 3) lv st) : ts_G g (tX_w v) nL σ pc lv (.int x :: .ref (tX_ad v t) :: st) :=
  ts_put (w := tX_w v) X ht.lt (tX_eL ht _) rfl tw_X2 tyX2 tyX2_ok nmX2 2 (by decide) kw_131 rfl rfl (by decide +kernel) (Nat.le_of_ble_eq_true rfl) (tX_eL ht _) d k
theorem gf_X6_95 {g : ts_Ctx} {v : tX_V} {cc : ByteArray} {nL : Nat} {σ : ts_S} {pc : Nat} {lv : List (Nat × Value)} {st : List Value} (X : ts_X g (tX_w v) cc nL RX6) {t : Nat} (ht : tX_L t) (d : decode cc pc = .ok (.getfield 95, 3)) (k : ts_G g (tX_w v) nL σ (pc + 3) lv (.int (σ t 2) :: st)) : ts_G g (tX_w v) nL σ pc lv (.ref (tX_ad v t) :: st) :=
  ts_get (w := tX_w v) X ht.lt (tX_eL ht _) rfl tw_X2 2 (by decide) kw_132 rfl rfl d k
theorem pf_X6_95 {g : ts_Ctx} {v : tX_V} {cc : ByteArray} {nL : Nat} {σ : ts_S} {pc : Nat} {lv : List (Nat × Value)} {st : List Value} {x : Int32} (X : ts_X g (tX_w v) cc nL RX6) {t : Nat} (ht : tX_L t) (d : decode cc pc = .ok (.putfield 95, 3)) (k : ∀ σ1 : ts_S, σ1 = ts_u σ t 2 x → ts_G g (tX_w v) nL σ1 (pc + 3) lv st) : ts_G g (tX_w v) nL σ pc lv (.int x :: .ref (tX_ad v t) :: st) :=
  ts_put (w := tX_w v) X ht.lt (tX_eL ht _) rfl tw_X2 tyX2 tyX2_ok nmX2 2 (by decide) kw_132 rfl rfl (by decide +kernel) (Nat.le_of_ble_eq_true rfl) (tX_eL ht _) d k
theorem gf_X8_82 {g : ts_Ctx} {v : tX_V} {cc : ByteArray} {nL : Nat} {σ : ts_S} {pc : Nat} {lv : List (Nat × Value)} {st : List Value} (X : ts_X g (tX_w v) cc nL RX8) {t : Nat} (ht : tX_L t) (d : decode cc pc = .ok (.getfield 82, 3)) (k : ts_G g (tX_w v) nL σ (pc + 3) lv (.int (σ t 2) :: st)) : ts_G g (tX_w v) nL σ pc lv (.ref (tX_ad v t) :: st) :=
  ts_get (w := tX_w v) X ht.lt (tX_eL ht _) rfl tw_X2 2 (by decide) kw_133 rfl rfl d k
theorem pf_X8_82 {g : ts_Ctx} {v : tX_V} {cc : ByteArray} {nL : Nat} {σ : ts_S} {pc : Nat} {lv : List (Nat × Value)} {st : List Value} {x : Int32} (X : ts_X g (tX_w v) cc nL RX8) {t : Nat} (ht : tX_L t) (d : decode cc pc = .ok (.putfield 82, 3)) (k : ∀ σ1 : ts_S, σ1 = ts_u σ t 2 x → ts_G g (tX_w v) nL σ1 (pc + 3) lv st) : ts_G g (tX_w v) nL σ pc lv (.int x :: .ref (tX_ad v t) :: st) :=
  ts_put (w := tX_w v) X ht.lt (tX_eL ht _) rfl tw_X2 tyX2 tyX2_ok nmX2 2 (by decide) kw_133 rfl rfl (by decide +kernel) (Nat.le_of_ble_eq_true rfl) (tX_eL ht _) d k
theorem gf_X2_15 {g : ts_Ctx} {v : tX_V} {cc : ByteArray} {nL : Nat} {σ : ts_S} {pc : Nat} {lv : List (Nat × Value)} {st : List Value} (X : ts_X g (tX_w v) cc nL RX2) {t : Nat} (ht : tX_L t) {q : Nat} (hq : t + 1 = q) (d : decode cc pc = .ok (.getfield 15, 3)) (k : ts_G g (tX_w v) nL σ (pc + 3) lv (.ref (tX_ad v q) :: st)) : ts_G g (tX_w v) nL σ pc lv (.ref (tX_ad v t) :: st) := by
  subst hq
  exact ts_get (w := tX_w v) X ht.lt (tX_eL ht _) rfl tw_X2 3 (by decide) kw_134 rfl rfl d k
theorem gf_X8_42 {g : ts_Ctx} {v : tX_V} {cc : ByteArray} {nL : Nat} {σ : ts_S} {pc : Nat} {lv : List (Nat × Value)} {st : List Value} (X : ts_X g (tX_w v) cc nL RX8) {t : Nat} (ht : tX_L t) {q : Nat} (hq : t + 1 = q) (d : decode cc pc = .ok (.getfield 42, 3)) (k : ts_G g (tX_w v) nL σ (pc + 3) lv (.ref (tX_ad v q) :: st)) : ts_G g (tX_w v) nL σ pc lv (.ref (tX_ad v t) :: st) := by
  subst hq
  exact ts_get (w := tX_w v) X ht.lt (tX_eL ht _) rfl tw_X2 3 (by decide) kw_135 rfl rfl d k
theorem gf_X3_85 {g : ts_Ctx} {v : tX_V} {cc : ByteArray} {nL : Nat} {σ : ts_S} {pc : Nat} {lv : List (Nat × Value)} {st : List Value} (X : ts_X g (tX_w v) cc nL RX3) {t : Nat} (ht : tX_L t) {q : Nat} (hq : t + 1 = q) (d : decode cc pc = .ok (.getfield 85, 3)) (k : ts_G g (tX_w v) nL σ (pc + 3) lv (.ref (tX_ad v q) :: st)) : ts_G g (tX_w v) nL σ pc lv (.ref (tX_ad v t) :: st) := by
  subst hq
  exact ts_get (w := tX_w v) X ht.lt (tX_eL ht _) rfl tw_X2 3 (by decide) kw_136 rfl rfl d k
theorem gf_X9_130 {g : ts_Ctx} {v : tX_V} {cc : ByteArray} {nL : Nat} {σ : ts_S} {pc : Nat} {lv : List (Nat × Value)} {st : List Value} (X : ts_X g (tX_w v) cc nL RX9) {t : Nat} (ht : tX_L t) {q : Nat} (hq : t + 1 = q) (d : decode cc pc = .ok (.getfield 130, 3)) (k : ts_G g (tX_w v) nL σ (pc + 3) lv (.ref (tX_ad v q) :: st)) : ts_G g (tX_w v) nL σ pc lv (.ref (tX_ad v t) :: st) := by
  subst hq
  exact ts_get (w := tX_w v) X ht.lt (tX_eL ht _) rfl tw_X2 3 (by decide) kw_137 rfl rfl d k
theorem gf_X6_76 {g : ts_Ctx} {v : tX_V} {cc : ByteArray} {nL : Nat} {σ : ts_S} {pc : Nat} {lv : List (Nat × Value)} {st : List Value} (X : ts_X g (tX_w v) cc nL RX6) {t : Nat} (ht : tX_L t) {q : Nat} (hq : t + 1 = q) (d : decode cc pc = .ok (.getfield 76, 3)) (k : ts_G g (tX_w v) nL σ (pc + 3) lv (.ref (tX_ad v q) :: st)) : ts_G g (tX_w v) nL σ pc lv (.ref (tX_ad v t) :: st) := by
  subst hq
  exact ts_get (w := tX_w v) X ht.lt (tX_eL ht _) rfl tw_X2 3 (by decide) kw_138 rfl rfl d k
theorem gf_X2_19 {g : ts_Ctx} {v : tX_V} {cc : ByteArray} {nL : Nat} {σ : ts_S} {pc : Nat} {lv : List (Nat × Value)} {st : List Value} (X : ts_X g (tX_w v) cc nL RX2) {t : Nat} (ht : tX_L t) {q : Nat} (hq : t + 2 = q) (d : decode cc pc = .ok (.getfield 19, 3)) (k : ts_G g (tX_w v) nL σ (pc + 3) lv (.ref (tX_ad v q) :: st)) : ts_G g (tX_w v) nL σ pc lv (.ref (tX_ad v t) :: st) := by
  subst hq
  exact ts_get (w := tX_w v) X ht.lt (tX_eL ht _) rfl tw_X2 4 (by decide) kw_139 rfl rfl d k
theorem gf_X3_75 {g : ts_Ctx} {v : tX_V} {cc : ByteArray} {nL : Nat} {σ : ts_S} {pc : Nat} {lv : List (Nat × Value)} {st : List Value} (X : ts_X g (tX_w v) cc nL RX3) {t : Nat} (ht : tX_L t) {q : Nat} (hq : t + 2 = q) (d : decode cc pc = .ok (.getfield 75, 3)) (k : ts_G g (tX_w v) nL σ (pc + 3) lv (.ref (tX_ad v q) :: st)) : ts_G g (tX_w v) nL σ pc lv (.ref (tX_ad v t) :: st) := by
  subst hq
  exact ts_get (w := tX_w v) X ht.lt (tX_eL ht _) rfl tw_X2 4 (by decide) kw_140 rfl rfl d k
theorem gf_X9_167 {g : ts_Ctx} {v : tX_V} {cc : ByteArray} {nL : Nat} {σ : ts_S} {pc : Nat} {lv : List (Nat × Value)} {st : List Value} (X : ts_X g (tX_w v) cc nL RX9) {t : Nat} (ht : tX_L t) {q : Nat} (hq : t + 2 = q) (d : decode cc pc = .ok (.getfield 167, 3)) (k : ts_G g (tX_w v) nL σ (pc + 3) lv (.ref (tX_ad v q) :: st)) : ts_G g (tX_w v) nL σ pc lv (.ref (tX_ad v t) :: st) := by
  subst hq
  exact ts_get (w := tX_w v) X ht.lt (tX_eL ht _) rfl tw_X2 4 (by decide) kw_141 rfl rfl d k
theorem gf_X8_72 {g : ts_Ctx} {v : tX_V} {cc : ByteArray} {nL : Nat} {σ : ts_S} {pc : Nat} {lv : List (Nat × Value)} {st : List Value} (X : ts_X g (tX_w v) cc nL RX8) {t : Nat} (ht : tX_L t) {q : Nat} (hq : t + 2 = q) (d : decode cc pc = .ok (.getfield 72, 3)) (k : ts_G g (tX_w v) nL σ (pc + 3) lv (.ref (tX_ad v q) :: st)) : ts_G g (tX_w v) nL σ pc lv (.ref (tX_ad v t) :: st) := by
  subst hq
  exact ts_get (w := tX_w v) X ht.lt (tX_eL ht _) rfl tw_X2 4 (by decide) kw_142 rfl rfl d k
theorem gf_X6_98 {g : ts_Ctx} {v : tX_V} {cc : ByteArray} {nL : Nat} {σ : ts_S} {pc : Nat} {lv : List (Nat × Value)} {st : List Value} (X : ts_X g (tX_w v) cc nL RX6) {t : Nat} (ht : tX_L t) {q : Nat} (hq : t + 2 = q) (d : decode cc pc = .ok (.getfield 98, 3)) (k : ts_G g (tX_w v) nL σ (pc + 3) lv (.ref (tX_ad v q) :: st)) : ts_G g (tX_w v) nL σ pc lv (.ref (tX_ad v t) :: st) := by
  subst hq
  exact ts_get (w := tX_w v) X ht.lt (tX_eL ht _) rfl tw_X2 4 (by decide) kw_143 rfl rfl d k
theorem gf_X2_22 {g : ts_Ctx} {v : tX_V} {cc : ByteArray} {nL : Nat} {σ : ts_S} {pc : Nat} {lv : List (Nat × Value)} {st : List Value} (X : ts_X g (tX_w v) cc nL RX2) {t : Nat} (ht : tX_L t) {q : Nat} (hq : t + 3 = q) (d : decode cc pc = .ok (.getfield 22, 3)) (k : ts_G g (tX_w v) nL σ (pc + 3) lv (.ref (tX_ad v q) :: st)) : ts_G g (tX_w v) nL σ pc lv (.ref (tX_ad v t) :: st) := by
  subst hq
  exact ts_get (w := tX_w v) X ht.lt (tX_eL ht _) rfl tw_X2 5 (by decide) kw_144 rfl rfl d k
theorem gf_X3_102 {g : ts_Ctx} {v : tX_V} {cc : ByteArray} {nL : Nat} {σ : ts_S} {pc : Nat} {lv : List (Nat × Value)} {st : List Value} (X : ts_X g (tX_w v) cc nL RX3) {t : Nat} (ht : tX_L t) {q : Nat} (hq : t + 3 = q) (d : decode cc pc = .ok (.getfield 102, 3)) (k : ts_G g (tX_w v) nL σ (pc + 3) lv (.ref (tX_ad v q) :: st)) : ts_G g (tX_w v) nL σ pc lv (.ref (tX_ad v t) :: st) := by
  subst hq
  exact ts_get (w := tX_w v) X ht.lt (tX_eL ht _) rfl tw_X2 5 (by decide) kw_145 rfl rfl d k
theorem gf_X9_170 {g : ts_Ctx} {v : tX_V} {cc : ByteArray} {nL : Nat} {σ : ts_S} {pc : Nat} {lv : List (Nat × Value)} {st : List Value} (X : ts_X g (tX_w v) cc nL RX9) {t : Nat} (ht : tX_L t) {q : Nat} (hq : t + 3 = q) (d : decode cc pc = .ok (.getfield 170, 3)) (k : ts_G g (tX_w v) nL σ (pc + 3) lv (.ref (tX_ad v q) :: st)) : ts_G g (tX_w v) nL σ pc lv (.ref (tX_ad v t) :: st) := by
  subst hq
  exact ts_get (w := tX_w v) X ht.lt (tX_eL ht _) rfl tw_X2 5 (by decide) kw_146 rfl rfl d k
theorem gf_X8_75 {g : ts_Ctx} {v : tX_V} {cc : ByteArray} {nL : Nat} {σ : ts_S} {pc : Nat} {lv : List (Nat × Value)} {st : List Value} (X : ts_X g (tX_w v) cc nL RX8) {t : Nat} (ht : tX_L t) {q : Nat} (hq : t + 3 = q) (d : decode cc pc = .ok (.getfield 75, 3)) (k : ts_G g (tX_w v) nL σ (pc + 3) lv (.ref (tX_ad v q) :: st)) : ts_G g (tX_w v) nL σ pc lv (.ref (tX_ad v t) :: st) := by
  subst hq
  exact ts_get (w := tX_w v) X ht.lt (tX_eL ht _) rfl tw_X2 5 (by decide) kw_147 rfl rfl d k
theorem gf_X6_101 {g : ts_Ctx} {v : tX_V} {cc : ByteArray} {nL : Nat} {σ : ts_S} {pc : Nat} {lv : List (Nat × Value)} {st : List Value} (X : ts_X g (tX_w v) cc nL RX6) {t : Nat} (ht : tX_L t) {q : Nat} (hq : t + 3 = q) (d : decode cc pc = .ok (.getfield 101, 3)) (k : ts_G g (tX_w v) nL σ (pc + 3) lv (.ref (tX_ad v q) :: st)) : ts_G g (tX_w v) nL σ pc lv (.ref (tX_ad v t) :: st) := by
  subst hq
  exact ts_get (w := tX_w v) X ht.lt (tX_eL ht _) rfl tw_X2 5 (by decide) kw_148 rfl rfl d k
theorem gf_X8_28 {g : ts_Ctx} {v : tX_V} {cc : ByteArray} {nL : Nat} {σ : ts_S} {pc : Nat} {lv : List (Nat × Value)} {st : List Value} (X : ts_X g (tX_w v) cc nL RX8) {t : Nat} (ht : tX_T t) {q : Nat} (hq : tX_pl t = q) (d : decode cc pc = .ok (.getfield 28, 3)) (k : ts_G g (tX_w v) nL σ (pc + 3) lv (.ref (tX_ad v q) :: st)) : ts_G g (tX_w v) nL σ pc lv (.ref (tX_ad v t) :: st) := by
  subst hq
  exact ts_get (w := tX_w v) X ht.lt (tX_eT ht _) rfl tw_X8 0 (by decide) kw_166 rfl rfl d k
theorem gf_X3_38 {g : ts_Ctx} {v : tX_V} {cc : ByteArray} {nL : Nat} {σ : ts_S} {pc : Nat} {lv : List (Nat × Value)} {st : List Value} (X : ts_X g (tX_w v) cc nL RX3) {t : Nat} (ht : tX_T t) {q : Nat} (hq : tX_pl t = q) (d : decode cc pc = .ok (.getfield 38, 3)) (k : ts_G g (tX_w v) nL σ (pc + 3) lv (.ref (tX_ad v q) :: st)) : ts_G g (tX_w v) nL σ pc lv (.ref (tX_ad v t) :: st) := by
  subst hq
  exact ts_get (w := tX_w v) X ht.lt (tX_eT ht _) rfl tw_X8 0 (by decide) kw_167 rfl rfl d k
theorem gf_X5_23 {g : ts_Ctx} {v : tX_V} {cc : ByteArray} {nL : Nat} {σ : ts_S} {pc : Nat} {lv : List (Nat × Value)} {st : List Value} (X : ts_X g (tX_w v) cc nL RX5) {t : Nat} (ht : tX_T t) {q : Nat} (hq : tX_pl t = q) (d : decode cc pc = .ok (.getfield 23, 3)) (k : ts_G g (tX_w v) nL σ (pc + 3) lv (.ref (tX_ad v q) :: st)) : ts_G g (tX_w v) nL σ pc lv (.ref (tX_ad v t) :: st) := by
  subst hq
  exact ts_get (w := tX_w v) X ht.lt (tX_eT ht _) rfl tw_X8 0 (by decide) kw_168 rfl rfl d k
theorem gf_X0_26 {g : ts_Ctx} {v : tX_V} {cc : ByteArray} {nL : Nat} {σ : ts_S} {pc : Nat} {lv : List (Nat × Value)} {st : List Value} (X : ts_X g (tX_w v) cc nL RX0) {t : Nat} (ht : tX_T t) {q : Nat} (hq : tX_pl t = q) (d : decode cc pc = .ok (.getfield 26, 3)) (k : ts_G g (tX_w v) nL σ (pc + 3) lv (.ref (tX_ad v q) :: st)) : ts_G g (tX_w v) nL σ pc lv (.ref (tX_ad v t) :: st) := by
  subst hq
  exact ts_get (w := tX_w v) X ht.lt (tX_eT ht _) rfl tw_X8 0 (by decide) kw_169 rfl rfl d k
theorem gf_X7_60 {g : ts_Ctx} {v : tX_V} {cc : ByteArray} {nL : Nat} {σ : ts_S} {pc : Nat} {lv : List (Nat × Value)} {st : List Value} (X : ts_X g (tX_w v) cc nL RX7) {t : Nat} (ht : tX_T t) {q : Nat} (hq : tX_pl t = q) (d : decode cc pc = .ok (.getfield 60, 3)) (k : ts_G g (tX_w v) nL σ (pc + 3) lv (.ref (tX_ad v q) :: st)) : ts_G g (tX_w v) nL σ pc lv (.ref (tX_ad v t) :: st) := by
  subst hq
  exact ts_get (w := tX_w v) X ht.lt (tX_eT ht _) rfl tw_X8 0 (by decide) kw_170 rfl rfl d k
theorem gf_X6_23 {g : ts_Ctx} {v : tX_V} {cc : ByteArray} {nL : Nat} {σ : ts_S} {pc : Nat} {lv : List (Nat × Value)} {st : List Value} (X : ts_X g (tX_w v) cc nL RX6) {t : Nat} (ht : tX_T t) {q : Nat} (hq : tX_pl t = q) (d : decode cc pc = .ok (.getfield 23, 3)) (k : ts_G g (tX_w v) nL σ (pc + 3) lv (.ref (tX_ad v q) :: st)) : ts_G g (tX_w v) nL σ pc lv (.ref (tX_ad v t) :: st) := by
  subst hq
  exact ts_get (w := tX_w v) X ht.lt (tX_eT ht _) rfl tw_X8 0 (by decide) kw_171 rfl rfl d k
theorem gf_X9_119 {g : ts_Ctx} {v : tX_V} {cc : ByteArray} {nL : Nat} {σ : ts_S} {pc : Nat} {lv : List (Nat × Value)} {st : List Value} (X : ts_X g (tX_w v) cc nL RX9) {t : Nat} (ht : tX_T t) {q : Nat} (hq : tX_pl t = q) (d : decode cc pc = .ok (.getfield 119, 3)) (k : ts_G g (tX_w v) nL σ (pc + 3) lv (.ref (tX_ad v q) :: st)) : ts_G g (tX_w v) nL σ pc lv (.ref (tX_ad v t) :: st) := by
  subst hq
  exact ts_get (w := tX_w v) X ht.lt (tX_eT ht _) rfl tw_X8 0 (by decide) kw_172 rfl rfl d k
theorem gf_X8_9 {g : ts_Ctx} {v : tX_V} {cc : ByteArray} {nL : Nat} {σ : ts_S} {pc : Nat} {lv : List (Nat × Value)} {st : List Value} (X : ts_X g (tX_w v) cc nL RX8) {t : Nat} (ht : tX_T t) {q : Nat} (hq : t + 1 = q) (d : decode cc pc = .ok (.getfield 9, 3)) (k : ts_G g (tX_w v) nL σ (pc + 3) lv (.ref (tX_ad v q) :: st)) : ts_G g (tX_w v) nL σ pc lv (.ref (tX_ad v t) :: st) := by
  subst hq
  exact ts_get (w := tX_w v) X ht.lt (tX_eT ht _) rfl tw_X8 1 (by decide) kw_173 rfl rfl d k
theorem gf_X0_36 {g : ts_Ctx} {v : tX_V} {cc : ByteArray} {nL : Nat} {σ : ts_S} {pc : Nat} {lv : List (Nat × Value)} {st : List Value} (X : ts_X g (tX_w v) cc nL RX0) {t : Nat} (ht : tX_T t) {q : Nat} (hq : t + 1 = q) (d : decode cc pc = .ok (.getfield 36, 3)) (k : ts_G g (tX_w v) nL σ (pc + 3) lv (.ref (tX_ad v q) :: st)) : ts_G g (tX_w v) nL σ pc lv (.ref (tX_ad v t) :: st) := by
  subst hq
  exact ts_get (w := tX_w v) X ht.lt (tX_eT ht _) rfl tw_X8 1 (by decide) kw_174 rfl rfl d k
theorem gf_X5_36 {g : ts_Ctx} {v : tX_V} {cc : ByteArray} {nL : Nat} {σ : ts_S} {pc : Nat} {lv : List (Nat × Value)} {st : List Value} (X : ts_X g (tX_w v) cc nL RX5) {t : Nat} (ht : tX_T t) {q : Nat} (hq : t + 1 = q) (d : decode cc pc = .ok (.getfield 36, 3)) (k : ts_G g (tX_w v) nL σ (pc + 3) lv (.ref (tX_ad v q) :: st)) : ts_G g (tX_w v) nL σ pc lv (.ref (tX_ad v t) :: st) := by
  subst hq
  exact ts_get (w := tX_w v) X ht.lt (tX_eT ht _) rfl tw_X8 1 (by decide) kw_175 rfl rfl d k
theorem gf_X3_72 {g : ts_Ctx} {v : tX_V} {cc : ByteArray} {nL : Nat} {σ : ts_S} {pc : Nat} {lv : List (Nat × Value)} {st : List Value} (X : ts_X g (tX_w v) cc nL RX3) {t : Nat} (ht : tX_T t) {q : Nat} (hq : t + 1 = q) (d : decode cc pc = .ok (.getfield 72, 3)) (k : ts_G g (tX_w v) nL σ (pc + 3) lv (.ref (tX_ad v q) :: st)) : ts_G g (tX_w v) nL σ pc lv (.ref (tX_ad v t) :: st) := by
  subst hq
  exact ts_get (w := tX_w v) X ht.lt (tX_eT ht _) rfl tw_X8 1 (by decide) kw_176 rfl rfl d k
theorem gf_X9_134 {g : ts_Ctx} {v : tX_V} {cc : ByteArray} {nL : Nat} {σ : ts_S} {pc : Nat} {lv : List (Nat × Value)} {st : List Value} (X : ts_X g (tX_w v) cc nL RX9) {t : Nat} (ht : tX_T t) {q : Nat} (hq : t + 1 = q) (d : decode cc pc = .ok (.getfield 134, 3)) (k : ts_G g (tX_w v) nL σ (pc + 3) lv (.ref (tX_ad v q) :: st)) : ts_G g (tX_w v) nL σ pc lv (.ref (tX_ad v t) :: st) := by
  subst hq
  exact ts_get (w := tX_w v) X ht.lt (tX_eT ht _) rfl tw_X8 1 (by decide) kw_177 rfl rfl d k
theorem gf_X6_79 {g : ts_Ctx} {v : tX_V} {cc : ByteArray} {nL : Nat} {σ : ts_S} {pc : Nat} {lv : List (Nat × Value)} {st : List Value} (X : ts_X g (tX_w v) cc nL RX6) {t : Nat} (ht : tX_T t) {q : Nat} (hq : t + 1 = q) (d : decode cc pc = .ok (.getfield 79, 3)) (k : ts_G g (tX_w v) nL σ (pc + 3) lv (.ref (tX_ad v q) :: st)) : ts_G g (tX_w v) nL σ pc lv (.ref (tX_ad v t) :: st) := by
  subst hq
  exact ts_get (w := tX_w v) X ht.lt (tX_eT ht _) rfl tw_X8 1 (by decide) kw_178 rfl rfl d k
theorem gf_X8_15 {g : ts_Ctx} {v : tX_V} {cc : ByteArray} {nL : Nat} {σ : ts_S} {pc : Nat} {lv : List (Nat × Value)} {st : List Value} (X : ts_X g (tX_w v) cc nL RX8) {t : Nat} (ht : tX_T t) {q : Nat} (hq : t + 2 = q) (d : decode cc pc = .ok (.getfield 15, 3)) (k : ts_G g (tX_w v) nL σ (pc + 3) lv (.ref (tX_ad v q) :: st)) : ts_G g (tX_w v) nL σ pc lv (.ref (tX_ad v t) :: st) := by
  subst hq
  exact ts_get (w := tX_w v) X ht.lt (tX_eT ht _) rfl tw_X8 2 (by decide) kw_179 rfl rfl d k
theorem gf_X3_88 {g : ts_Ctx} {v : tX_V} {cc : ByteArray} {nL : Nat} {σ : ts_S} {pc : Nat} {lv : List (Nat × Value)} {st : List Value} (X : ts_X g (tX_w v) cc nL RX3) {t : Nat} (ht : tX_T t) {q : Nat} (hq : t + 2 = q) (d : decode cc pc = .ok (.getfield 88, 3)) (k : ts_G g (tX_w v) nL σ (pc + 3) lv (.ref (tX_ad v q) :: st)) : ts_G g (tX_w v) nL σ pc lv (.ref (tX_ad v t) :: st) := by
  subst hq
  exact ts_get (w := tX_w v) X ht.lt (tX_eT ht _) rfl tw_X8 2 (by decide) kw_180 rfl rfl d k
theorem gf_X9_137 {g : ts_Ctx} {v : tX_V} {cc : ByteArray} {nL : Nat} {σ : ts_S} {pc : Nat} {lv : List (Nat × Value)} {st : List Value} (X : ts_X g (tX_w v) cc nL RX9) {t : Nat} (ht : tX_T t) {q : Nat} (hq : t + 2 = q) (d : decode cc pc = .ok (.getfield 137, 3)) (k : ts_G g (tX_w v) nL σ (pc + 3) lv (.ref (tX_ad v q) :: st)) : ts_G g (tX_w v) nL σ pc lv (.ref (tX_ad v t) :: st) := by
  subst hq
  exact ts_get (w := tX_w v) X ht.lt (tX_eT ht _) rfl tw_X8 2 (by decide) kw_181 rfl rfl d k
theorem gf_X6_82 {g : ts_Ctx} {v : tX_V} {cc : ByteArray} {nL : Nat} {σ : ts_S} {pc : Nat} {lv : List (Nat × Value)} {st : List Value} (X : ts_X g (tX_w v) cc nL RX6) {t : Nat} (ht : tX_T t) {q : Nat} (hq : t + 2 = q) (d : decode cc pc = .ok (.getfield 82, 3)) (k : ts_G g (tX_w v) nL σ (pc + 3) lv (.ref (tX_ad v q) :: st)) : ts_G g (tX_w v) nL σ pc lv (.ref (tX_ad v t) :: st) := by
  subst hq
  exact ts_get (w := tX_w v) X ht.lt (tX_eT ht _) rfl tw_X8 2 (by decide) kw_182 rfl rfl d k
theorem gf_X8_18 {g : ts_Ctx} {v : tX_V} {cc : ByteArray} {nL : Nat} {σ : ts_S} {pc : Nat} {lv : List (Nat × Value)} {st : List Value} (X : ts_X g (tX_w v) cc nL RX8) {t : Nat} (ht : tX_T t) {q : Nat} (hq : t + 3 = q) (d : decode cc pc = .ok (.getfield 18, 3)) (k : ts_G g (tX_w v) nL σ (pc + 3) lv (.ref (tX_ad v q) :: st)) : ts_G g (tX_w v) nL σ pc lv (.ref (tX_ad v t) :: st) := by
  subst hq
  exact ts_get (w := tX_w v) X ht.lt (tX_eT ht _) rfl tw_X8 3 (by decide) kw_183 rfl rfl d k
theorem gf_X3_95 {g : ts_Ctx} {v : tX_V} {cc : ByteArray} {nL : Nat} {σ : ts_S} {pc : Nat} {lv : List (Nat × Value)} {st : List Value} (X : ts_X g (tX_w v) cc nL RX3) {t : Nat} (ht : tX_T t) {q : Nat} (hq : t + 3 = q) (d : decode cc pc = .ok (.getfield 95, 3)) (k : ts_G g (tX_w v) nL σ (pc + 3) lv (.ref (tX_ad v q) :: st)) : ts_G g (tX_w v) nL σ pc lv (.ref (tX_ad v t) :: st) := by
  subst hq
  exact ts_get (w := tX_w v) X ht.lt (tX_eT ht _) rfl tw_X8 3 (by decide) kw_184 rfl rfl d k
theorem gf_X9_140 {g : ts_Ctx} {v : tX_V} {cc : ByteArray} {nL : Nat} {σ : ts_S} {pc : Nat} {lv : List (Nat × Value)} {st : List Value} (X : ts_X g (tX_w v) cc nL RX9) {t : Nat} (ht : tX_T t) {q : Nat} (hq : t + 3 = q) (d : decode cc pc = .ok (.getfield 140, 3)) (k : ts_G g (tX_w v) nL σ (pc + 3) lv (.ref (tX_ad v q) :: st)) : ts_G g (tX_w v) nL σ pc lv (.ref (tX_ad v t) :: st) := by
  subst hq
  exact ts_get (w := tX_w v) X ht.lt (tX_eT ht _) rfl tw_X8 3 (by decide) kw_185 rfl rfl d k
theorem gf_X6_85 {g : ts_Ctx} {v : tX_V} {cc : ByteArray} {nL : Nat} {σ : ts_S} {pc : Nat} {lv : List (Nat × Value)} {st : List Value} (X : ts_X g (tX_w v) cc nL RX6) {t : Nat} (ht : tX_T t) {q : Nat} (hq : t + 3 = q) (d : decode cc pc = .ok (.getfield 85, 3)) (k : ts_G g (tX_w v) nL σ (pc + 3) lv (.ref (tX_ad v q) :: st)) : ts_G g (tX_w v) nL σ pc lv (.ref (tX_ad v t) :: st) := by
  subst hq
  exact ts_get (w := tX_w v) X ht.lt (tX_eT ht _) rfl tw_X8 3 (by decide) kw_186 rfl rfl d k
theorem gf_X8_21 {g : ts_Ctx} {v : tX_V} {cc : ByteArray} {nL : Nat} {σ : ts_S} {pc : Nat} {lv : List (Nat × Value)} {st : List Value} (X : ts_X g (tX_w v) cc nL RX8) {t : Nat} (ht : tX_T t) {q : Nat} (hq : t + 4 = q) (d : decode cc pc = .ok (.getfield 21, 3)) (k : ts_G g (tX_w v) nL σ (pc + 3) lv (.ref (tX_ad v q) :: st)) : ts_G g (tX_w v) nL σ pc lv (.ref (tX_ad v t) :: st) := by
  subst hq
  exact ts_get (w := tX_w v) X ht.lt (tX_eT ht _) rfl tw_X8 4 (by decide) kw_187 rfl rfl d k
theorem gf_X5_32 {g : ts_Ctx} {v : tX_V} {cc : ByteArray} {nL : Nat} {σ : ts_S} {pc : Nat} {lv : List (Nat × Value)} {st : List Value} (X : ts_X g (tX_w v) cc nL RX5) {t : Nat} (ht : tX_T t) {q : Nat} (hq : t + 4 = q) (d : decode cc pc = .ok (.getfield 32, 3)) (k : ts_G g (tX_w v) nL σ (pc + 3) lv (.ref (tX_ad v q) :: st)) : ts_G g (tX_w v) nL σ pc lv (.ref (tX_ad v t) :: st) := by
  subst hq
  exact ts_get (w := tX_w v) X ht.lt (tX_eT ht _) rfl tw_X8 4 (by decide) kw_188 rfl rfl d k
theorem gf_X3_64 {g : ts_Ctx} {v : tX_V} {cc : ByteArray} {nL : Nat} {σ : ts_S} {pc : Nat} {lv : List (Nat × Value)} {st : List Value} (X : ts_X g (tX_w v) cc nL RX3) {t : Nat} (ht : tX_T t) {q : Nat} (hq : t + 4 = q) (d : decode cc pc = .ok (.getfield 64, 3)) (k : ts_G g (tX_w v) nL σ (pc + 3) lv (.ref (tX_ad v q) :: st)) : ts_G g (tX_w v) nL σ pc lv (.ref (tX_ad v t) :: st) := by
  subst hq
  exact ts_get (w := tX_w v) X ht.lt (tX_eT ht _) rfl tw_X8 4 (by decide) kw_189 rfl rfl d k
theorem gf_X9_154 {g : ts_Ctx} {v : tX_V} {cc : ByteArray} {nL : Nat} {σ : ts_S} {pc : Nat} {lv : List (Nat × Value)} {st : List Value} (X : ts_X g (tX_w v) cc nL RX9) {t : Nat} (ht : tX_T t) {q : Nat} (hq : t + 4 = q) (d : decode cc pc = .ok (.getfield 154, 3)) (k : ts_G g (tX_w v) nL σ (pc + 3) lv (.ref (tX_ad v q) :: st)) : ts_G g (tX_w v) nL σ pc lv (.ref (tX_ad v t) :: st) := by
  subst hq
  exact ts_get (w := tX_w v) X ht.lt (tX_eT ht _) rfl tw_X8 4 (by decide) kw_190 rfl rfl d k
theorem gf_X6_88 {g : ts_Ctx} {v : tX_V} {cc : ByteArray} {nL : Nat} {σ : ts_S} {pc : Nat} {lv : List (Nat × Value)} {st : List Value} (X : ts_X g (tX_w v) cc nL RX6) {t : Nat} (ht : tX_T t) {q : Nat} (hq : t + 4 = q) (d : decode cc pc = .ok (.getfield 88, 3)) (k : ts_G g (tX_w v) nL σ (pc + 3) lv (.ref (tX_ad v q) :: st)) : ts_G g (tX_w v) nL σ pc lv (.ref (tX_ad v t) :: st) := by
  subst hq
  exact ts_get (w := tX_w v) X ht.lt (tX_eT ht _) rfl tw_X8 4 (by decide) kw_191 rfl rfl d k
theorem gf_X8_25 {g : ts_Ctx} {v : tX_V} {cc : ByteArray} {nL : Nat} {σ : ts_S} {pc : Nat} {lv : List (Nat × Value)} {st : List Value} (X : ts_X g (tX_w v) cc nL RX8) {t : Nat} (ht : tX_T t) {q : Nat} (hq : t + 5 = q) (d : decode cc pc = .ok (.getfield 25, 3)) (k : ts_G g (tX_w v) nL σ (pc + 3) lv (.ref (tX_ad v q) :: st)) : ts_G g (tX_w v) nL σ pc lv (.ref (tX_ad v t) :: st) := by
  subst hq
  exact ts_get (w := tX_w v) X ht.lt (tX_eT ht _) rfl tw_X8 5 (by decide) kw_192 rfl rfl d k
theorem gf_X6_92 {g : ts_Ctx} {v : tX_V} {cc : ByteArray} {nL : Nat} {σ : ts_S} {pc : Nat} {lv : List (Nat × Value)} {st : List Value} (X : ts_X g (tX_w v) cc nL RX6) {t : Nat} (ht : tX_T t) {q : Nat} (hq : t + 5 = q) (d : decode cc pc = .ok (.getfield 92, 3)) (k : ts_G g (tX_w v) nL σ (pc + 3) lv (.ref (tX_ad v q) :: st)) : ts_G g (tX_w v) nL σ pc lv (.ref (tX_ad v t) :: st) := by
  subst hq
  exact ts_get (w := tX_w v) X ht.lt (tX_eT ht _) rfl tw_X8 5 (by decide) kw_193 rfl rfl d k
theorem gf_X8_38 {g : ts_Ctx} {v : tX_V} {cc : ByteArray} {nL : Nat} {σ : ts_S} {pc : Nat} {lv : List (Nat × Value)} {st : List Value} (X : ts_X g (tX_w v) cc nL RX8) {t : Nat} (ht : tX_T t) (d : decode cc pc = .ok (.getfield 38, 3)) (k : ts_G g (tX_w v) nL σ (pc + 3) lv (.int (σ t 6) :: st)) : ts_G g (tX_w v) nL σ pc lv (.ref (tX_ad v t) :: st) :=
  ts_get (w := tX_w v) X ht.lt (tX_eT ht _) rfl tw_X8 6 (by decide) kw_194 rfl rfl d k
theorem pf_X8_38 {g : ts_Ctx} {v : tX_V} {cc : ByteArray} {nL : Nat} {σ : ts_S} {pc : Nat} {lv : List (Nat × Value)} {st : List Value} {x : Int32} (X : ts_X g (tX_w v) cc nL RX8) {t : Nat} (ht : tX_T t) (d : decode cc pc = .ok (.putfield 38, 3)) (k : ∀ σ1 : ts_S, σ1 = ts_u σ t 6 x → ts_G g (tX_w v) nL σ1 (pc + 3) lv st) : ts_G g (tX_w v) nL σ pc lv (.int x :: .ref (tX_ad v t) :: st) :=
  ts_put (w := tX_w v) X ht.lt (tX_eT ht _) rfl tw_X8 tyX8 tyX8_ok nmX8 6 (by decide) kw_194 rfl rfl (by decide +kernel) (Nat.le_of_ble_eq_true rfl) (tX_eT ht _) d k
theorem gf_X6_34 {g : ts_Ctx} {v : tX_V} {cc : ByteArray} {nL : Nat} {σ : ts_S} {pc : Nat} {lv : List (Nat × Value)} {st : List Value} (X : ts_X g (tX_w v) cc nL RX6) {t : Nat} (ht : tX_T t) (d : decode cc pc = .ok (.getfield 34, 3)) (k : ts_G g (tX_w v) nL σ (pc + 3) lv (.int (σ t 6) :: st)) : ts_G g (tX_w v) nL σ pc lv (.ref (tX_ad v t) :: st) :=
  ts_get (w := tX_w v) X ht.lt (tX_eT ht _) rfl tw_X8 6 (by decide) kw_195 rfl rfl d k
theorem pf_X6_34 {g : ts_Ctx} {v : tX_V} {cc : ByteArray} {nL : Nat} {σ : ts_S} {pc : Nat} {lv : List (Nat × Value)} {st : List Value} {x : Int32} (X : ts_X g (tX_w v) cc nL RX6) {t : Nat} (ht : tX_T t) (d : decode cc pc = .ok (.putfield 34, 3)) (k : ∀ σ1 : ts_S, σ1 = ts_u σ t 6 x → ts_G g (tX_w v) nL σ1 (pc + 3) lv st) : ts_G g (tX_w v) nL σ pc lv (.int x :: .ref (tX_ad v t) :: st) :=
  ts_put (w := tX_w v) X ht.lt (tX_eT ht _) rfl tw_X8 tyX8 tyX8_ok nmX8 6 (by decide) kw_195 rfl rfl (by decide +kernel) (Nat.le_of_ble_eq_true rfl) (tX_eT ht _) d k
theorem gf_X9_180 {g : ts_Ctx} {v : tX_V} {cc : ByteArray} {nL : Nat} {σ : ts_S} {pc : Nat} {lv : List (Nat × Value)} {st : List Value} (X : ts_X g (tX_w v) cc nL RX9) {t : Nat} (ht : tX_T t) (d : decode cc pc = .ok (.getfield 180, 3)) (k : ts_G g (tX_w v) nL σ (pc + 3) lv (.int (σ t 6) :: st)) : ts_G g (tX_w v) nL σ pc lv (.ref (tX_ad v t) :: st) :=
  ts_get (w := tX_w v) X ht.lt (tX_eT ht _) rfl tw_X8 6 (by decide) kw_196 rfl rfl d k
theorem pf_X9_180 {g : ts_Ctx} {v : tX_V} {cc : ByteArray} {nL : Nat} {σ : ts_S} {pc : Nat} {lv : List (Nat × Value)} {st : List Value} {x : Int32} (X : ts_X g (tX_w v) cc nL RX9) {t : Nat} (ht : tX_T t) (d : decode cc pc = .ok (.putfield 180, 3)) (k : ∀ σ1 : ts_S, σ1 = ts_u σ t 6 x → ts_G g (tX_w v) nL σ1 (pc + 3) lv st) : ts_G g (tX_w v) nL σ pc lv (.int x :: .ref (tX_ad v t) :: st) :=
  ts_put (w := tX_w v) X ht.lt (tX_eT ht _) rfl tw_X8 tyX8 tyX8_ok nmX8 6 (by decide) kw_196 rfl rfl (by decide +kernel) (Nat.le_of_ble_eq_true rfl) (tX_eT ht _) d k
theorem gf_X1_13 {g : ts_Ctx} {v : tX_V} {cc : ByteArray} {nL : Nat} {σ : ts_S} {pc : Nat} {lv : List (Nat × Value)} {st : List Value} (X : ts_X g (tX_w v) cc nL RX1) (d : decode cc pc = .ok (.getfield 13, 3)) (k : ts_G g (tX_w v) nL σ (pc + 3) lv (.ref (tX_ad v 5) :: st)) : ts_G g (tX_w v) nL σ pc lv (.ref (tX_ad v 4) :: st) :=
  ts_get (w := tX_w v) X (by omega : 4 < 151) rfl rfl tw_X1 0 (by decide) kw_226 rfl rfl d k
theorem gf_X1_19 {g : ts_Ctx} {v : tX_V} {cc : ByteArray} {nL : Nat} {σ : ts_S} {pc : Nat} {lv : List (Nat × Value)} {st : List Value} (X : ts_X g (tX_w v) cc nL RX1) (d : decode cc pc = .ok (.getfield 19, 3)) (k : ts_G g (tX_w v) nL σ (pc + 3) lv (.int (σ 4 1) :: st)) : ts_G g (tX_w v) nL σ pc lv (.ref (tX_ad v 4) :: st) :=
  ts_get (w := tX_w v) X (by omega : 4 < 151) rfl rfl tw_X1 1 (by decide) kw_227 rfl rfl d k
theorem pf_X1_19 {g : ts_Ctx} {v : tX_V} {cc : ByteArray} {nL : Nat} {σ : ts_S} {pc : Nat} {lv : List (Nat × Value)} {st : List Value} {x : Int32} (X : ts_X g (tX_w v) cc nL RX1) (d : decode cc pc = .ok (.putfield 19, 3)) (k : ∀ σ1 : ts_S, σ1 = ts_u σ 4 1 x → ts_G g (tX_w v) nL σ1 (pc + 3) lv st) : ts_G g (tX_w v) nL σ pc lv (.int x :: .ref (tX_ad v 4) :: st) :=
  ts_put (w := tX_w v) X (by omega : 4 < 151) rfl rfl tw_X1 tyX1 tyX1_ok nmX1 1 (by decide) kw_227 rfl rfl (by decide +kernel) (Nat.le_of_ble_eq_true rfl) rfl d k
theorem gf_X1_23 {g : ts_Ctx} {v : tX_V} {cc : ByteArray} {nL : Nat} {σ : ts_S} {pc : Nat} {lv : List (Nat × Value)} {st : List Value} (X : ts_X g (tX_w v) cc nL RX1) (d : decode cc pc = .ok (.getfield 23, 3)) (k : ts_G g (tX_w v) nL σ (pc + 3) lv (.int (σ 4 2) :: st)) : ts_G g (tX_w v) nL σ pc lv (.ref (tX_ad v 4) :: st) :=
  ts_get (w := tX_w v) X (by omega : 4 < 151) rfl rfl tw_X1 2 (by decide) kw_228 rfl rfl d k
theorem pf_X1_23 {g : ts_Ctx} {v : tX_V} {cc : ByteArray} {nL : Nat} {σ : ts_S} {pc : Nat} {lv : List (Nat × Value)} {st : List Value} {x : Int32} (X : ts_X g (tX_w v) cc nL RX1) (d : decode cc pc = .ok (.putfield 23, 3)) (k : ∀ σ1 : ts_S, σ1 = ts_u σ 4 2 x → ts_G g (tX_w v) nL σ1 (pc + 3) lv st) : ts_G g (tX_w v) nL σ pc lv (.int x :: .ref (tX_ad v 4) :: st) :=
  ts_put (w := tX_w v) X (by omega : 4 < 151) rfl rfl tw_X1 tyX1 tyX1_ok nmX1 2 (by decide) kw_228 rfl rfl (by decide +kernel) (Nat.le_of_ble_eq_true rfl) rfl d k
theorem gf_X9_204 {g : ts_Ctx} {v : tX_V} {cc : ByteArray} {nL : Nat} {σ : ts_S} {pc : Nat} {lv : List (Nat × Value)} {st : List Value} (X : ts_X g (tX_w v) cc nL RX9) (d : decode cc pc = .ok (.getfield 204, 3)) (k : ts_G g (tX_w v) nL σ (pc + 3) lv (.int (σ 4 2) :: st)) : ts_G g (tX_w v) nL σ pc lv (.ref (tX_ad v 4) :: st) :=
  ts_get (w := tX_w v) X (by omega : 4 < 151) rfl rfl tw_X1 2 (by decide) kw_229 rfl rfl d k
theorem pf_X9_204 {g : ts_Ctx} {v : tX_V} {cc : ByteArray} {nL : Nat} {σ : ts_S} {pc : Nat} {lv : List (Nat × Value)} {st : List Value} {x : Int32} (X : ts_X g (tX_w v) cc nL RX9) (d : decode cc pc = .ok (.putfield 204, 3)) (k : ∀ σ1 : ts_S, σ1 = ts_u σ 4 2 x → ts_G g (tX_w v) nL σ1 (pc + 3) lv st) : ts_G g (tX_w v) nL σ pc lv (.int x :: .ref (tX_ad v 4) :: st) :=
  ts_put (w := tX_w v) X (by omega : 4 < 151) rfl rfl tw_X1 tyX1 tyX1_ok nmX1 2 (by decide) kw_229 rfl rfl (by decide +kernel) (Nat.le_of_ble_eq_true rfl) rfl d k
theorem gf_X4_9 {g : ts_Ctx} {v : tX_V} {cc : ByteArray} {nL : Nat} {σ : ts_S} {pc : Nat} {lv : List (Nat × Value)} {st : List Value} (X : ts_X g (tX_w v) cc nL RX4) (d : decode cc pc = .ok (.getfield 9, 3)) (k : ts_G g (tX_w v) nL σ (pc + 3) lv (.ref (tX_ad v 8) :: st)) : ts_G g (tX_w v) nL σ pc lv (.ref (tX_ad v 7) :: st) :=
  ts_get (w := tX_w v) X (by omega : 7 < 151) rfl rfl tw_X4 0 (by decide) kw_244 rfl rfl d k
theorem gf_X4_15 {g : ts_Ctx} {v : tX_V} {cc : ByteArray} {nL : Nat} {σ : ts_S} {pc : Nat} {lv : List (Nat × Value)} {st : List Value} (X : ts_X g (tX_w v) cc nL RX4) (d : decode cc pc = .ok (.getfield 15, 3)) (k : ts_G g (tX_w v) nL σ (pc + 3) lv (.ref (tX_ad v 9) :: st)) : ts_G g (tX_w v) nL σ pc lv (.ref (tX_ad v 7) :: st) :=
  ts_get (w := tX_w v) X (by omega : 7 < 151) rfl rfl tw_X4 1 (by decide) kw_245 rfl rfl d k
theorem gf_X4_18 {g : ts_Ctx} {v : tX_V} {cc : ByteArray} {nL : Nat} {σ : ts_S} {pc : Nat} {lv : List (Nat × Value)} {st : List Value} (X : ts_X g (tX_w v) cc nL RX4) (d : decode cc pc = .ok (.getfield 18, 3)) (k : ts_G g (tX_w v) nL σ (pc + 3) lv (.ref (tX_ad v 10) :: st)) : ts_G g (tX_w v) nL σ pc lv (.ref (tX_ad v 7) :: st) :=
  ts_get (w := tX_w v) X (by omega : 7 < 151) rfl rfl tw_X4 2 (by decide) kw_246 rfl rfl d k
theorem gf_X4_22 {g : ts_Ctx} {v : tX_V} {cc : ByteArray} {nL : Nat} {σ : ts_S} {pc : Nat} {lv : List (Nat × Value)} {st : List Value} (X : ts_X g (tX_w v) cc nL RX4) (d : decode cc pc = .ok (.getfield 22, 3)) (k : ts_G g (tX_w v) nL σ (pc + 3) lv (.int (σ 7 3) :: st)) : ts_G g (tX_w v) nL σ pc lv (.ref (tX_ad v 7) :: st) :=
  ts_get (w := tX_w v) X (by omega : 7 < 151) rfl rfl tw_X4 3 (by decide) kw_247 rfl rfl d k
theorem pf_X4_22 {g : ts_Ctx} {v : tX_V} {cc : ByteArray} {nL : Nat} {σ : ts_S} {pc : Nat} {lv : List (Nat × Value)} {st : List Value} {x : Int32} (X : ts_X g (tX_w v) cc nL RX4) (d : decode cc pc = .ok (.putfield 22, 3)) (k : ∀ σ1 : ts_S, σ1 = ts_u σ 7 3 x → ts_G g (tX_w v) nL σ1 (pc + 3) lv st) : ts_G g (tX_w v) nL σ pc lv (.int x :: .ref (tX_ad v 7) :: st) :=
  ts_put (w := tX_w v) X (by omega : 7 < 151) rfl rfl tw_X4 tyX4 tyX4_ok nmX4 3 (by decide) kw_247 rfl rfl (by decide +kernel) (Nat.le_of_ble_eq_true rfl) rfl d k
theorem gf_X9_247 {g : ts_Ctx} {v : tX_V} {cc : ByteArray} {nL : Nat} {σ : ts_S} {pc : Nat} {lv : List (Nat × Value)} {st : List Value} (X : ts_X g (tX_w v) cc nL RX9) (d : decode cc pc = .ok (.getfield 247, 3)) (k : ts_G g (tX_w v) nL σ (pc + 3) lv (.int (σ 7 3) :: st)) : ts_G g (tX_w v) nL σ pc lv (.ref (tX_ad v 7) :: st) :=
  ts_get (w := tX_w v) X (by omega : 7 < 151) rfl rfl tw_X4 3 (by decide) kw_248 rfl rfl d k
theorem pf_X9_247 {g : ts_Ctx} {v : tX_V} {cc : ByteArray} {nL : Nat} {σ : ts_S} {pc : Nat} {lv : List (Nat × Value)} {st : List Value} {x : Int32} (X : ts_X g (tX_w v) cc nL RX9) (d : decode cc pc = .ok (.putfield 247, 3)) (k : ∀ σ1 : ts_S, σ1 = ts_u σ 7 3 x → ts_G g (tX_w v) nL σ1 (pc + 3) lv st) : ts_G g (tX_w v) nL σ pc lv (.int x :: .ref (tX_ad v 7) :: st) :=
  ts_put (w := tX_w v) X (by omega : 7 < 151) rfl rfl tw_X4 tyX4 tyX4_ok nmX4 3 (by decide) kw_248 rfl rfl (by decide +kernel) (Nat.le_of_ble_eq_true rfl) rfl d k
theorem gf_X3_24 {g : ts_Ctx} {v : tX_V} {cc : ByteArray} {nL : Nat} {σ : ts_S} {pc : Nat} {lv : List (Nat × Value)} {st : List Value} (X : ts_X g (tX_w v) cc nL RX3) (d : decode cc pc = .ok (.getfield 24, 3)) (k : ts_G g (tX_w v) nL σ (pc + 3) lv (.ref (tX_ad v 49) :: st)) : ts_G g (tX_w v) nL σ pc lv (.ref (tX_ad v 11) :: st) :=
  ts_get (w := tX_w v) X (by omega : 11 < 151) rfl rfl tw_X3 0 (by decide) kw_264 rfl rfl d k
theorem gf_X3_9 {g : ts_Ctx} {v : tX_V} {cc : ByteArray} {nL : Nat} {σ : ts_S} {pc : Nat} {lv : List (Nat × Value)} {st : List Value} (X : ts_X g (tX_w v) cc nL RX3) (d : decode cc pc = .ok (.getfield 9, 3)) (k : ts_G g (tX_w v) nL σ (pc + 3) lv (.ref (tX_ad v 12) :: st)) : ts_G g (tX_w v) nL σ pc lv (.ref (tX_ad v 11) :: st) :=
  ts_get (w := tX_w v) X (by omega : 11 < 151) rfl rfl tw_X3 1 (by decide) kw_265 rfl rfl d k
theorem gf_X3_15 {g : ts_Ctx} {v : tX_V} {cc : ByteArray} {nL : Nat} {σ : ts_S} {pc : Nat} {lv : List (Nat × Value)} {st : List Value} (X : ts_X g (tX_w v) cc nL RX3) (d : decode cc pc = .ok (.getfield 15, 3)) (k : ts_G g (tX_w v) nL σ (pc + 3) lv (.ref (tX_ad v 13) :: st)) : ts_G g (tX_w v) nL σ pc lv (.ref (tX_ad v 11) :: st) :=
  ts_get (w := tX_w v) X (by omega : 11 < 151) rfl rfl tw_X3 2 (by decide) kw_266 rfl rfl d k
theorem gf_X3_18 {g : ts_Ctx} {v : tX_V} {cc : ByteArray} {nL : Nat} {σ : ts_S} {pc : Nat} {lv : List (Nat × Value)} {st : List Value} (X : ts_X g (tX_w v) cc nL RX3) (d : decode cc pc = .ok (.getfield 18, 3)) (k : ts_G g (tX_w v) nL σ (pc + 3) lv (.ref (tX_ad v 14) :: st)) : ts_G g (tX_w v) nL σ pc lv (.ref (tX_ad v 11) :: st) :=
  ts_get (w := tX_w v) X (by omega : 11 < 151) rfl rfl tw_X3 3 (by decide) kw_267 rfl rfl d k
theorem gf_X3_51 {g : ts_Ctx} {v : tX_V} {cc : ByteArray} {nL : Nat} {σ : ts_S} {pc : Nat} {lv : List (Nat × Value)} {st : List Value} (X : ts_X g (tX_w v) cc nL RX3) (d : decode cc pc = .ok (.getfield 51, 3)) (k : ts_G g (tX_w v) nL σ (pc + 3) lv (.int (σ 11 4) :: st)) : ts_G g (tX_w v) nL σ pc lv (.ref (tX_ad v 11) :: st) :=
  ts_get (w := tX_w v) X (by omega : 11 < 151) rfl rfl tw_X3 4 (by decide) kw_268 rfl rfl d k
theorem pf_X3_51 {g : ts_Ctx} {v : tX_V} {cc : ByteArray} {nL : Nat} {σ : ts_S} {pc : Nat} {lv : List (Nat × Value)} {st : List Value} {x : Int32} (X : ts_X g (tX_w v) cc nL RX3) (d : decode cc pc = .ok (.putfield 51, 3)) (k : ∀ σ1 : ts_S, σ1 = ts_u σ 11 4 x → ts_G g (tX_w v) nL σ1 (pc + 3) lv st) : ts_G g (tX_w v) nL σ pc lv (.int x :: .ref (tX_ad v 11) :: st) :=
  ts_put (w := tX_w v) X (by omega : 11 < 151) rfl rfl tw_X3 tyX3 tyX3_ok nmX3 4 (by decide) kw_268 rfl rfl (by decide +kernel) (Nat.le_of_ble_eq_true rfl) rfl d k
theorem gf_X3_21 {g : ts_Ctx} {v : tX_V} {cc : ByteArray} {nL : Nat} {σ : ts_S} {pc : Nat} {lv : List (Nat × Value)} {st : List Value} (X : ts_X g (tX_w v) cc nL RX3) (d : decode cc pc = .ok (.getfield 21, 3)) (k : ts_G g (tX_w v) nL σ (pc + 3) lv (.ref (tX_ad v 15) :: st)) : ts_G g (tX_w v) nL σ pc lv (.ref (tX_ad v 11) :: st) :=
  ts_get (w := tX_w v) X (by omega : 11 < 151) rfl rfl tw_X3 5 (by decide) kw_269 rfl rfl d k
theorem gf_X9_222 {g : ts_Ctx} {v : tX_V} {cc : ByteArray} {nL : Nat} {σ : ts_S} {pc : Nat} {lv : List (Nat × Value)} {st : List Value} (X : ts_X g (tX_w v) cc nL RX9) (d : decode cc pc = .ok (.getfield 222, 3)) (k : ts_G g (tX_w v) nL σ (pc + 3) lv (.ref (tX_ad v 15) :: st)) : ts_G g (tX_w v) nL σ pc lv (.ref (tX_ad v 11) :: st) :=
  ts_get (w := tX_w v) X (by omega : 11 < 151) rfl rfl tw_X3 5 (by decide) kw_270 rfl rfl d k
theorem gf_X3_34 {g : ts_Ctx} {v : tX_V} {cc : ByteArray} {nL : Nat} {σ : ts_S} {pc : Nat} {lv : List (Nat × Value)} {st : List Value} (X : ts_X g (tX_w v) cc nL RX3) (d : decode cc pc = .ok (.getfield 34, 3)) (k : ts_G g (tX_w v) nL σ (pc + 3) lv (.int (σ 11 6) :: st)) : ts_G g (tX_w v) nL σ pc lv (.ref (tX_ad v 11) :: st) :=
  ts_get (w := tX_w v) X (by omega : 11 < 151) rfl rfl tw_X3 6 (by decide) kw_271 rfl rfl d k
theorem pf_X3_34 {g : ts_Ctx} {v : tX_V} {cc : ByteArray} {nL : Nat} {σ : ts_S} {pc : Nat} {lv : List (Nat × Value)} {st : List Value} {x : Int32} (X : ts_X g (tX_w v) cc nL RX3) (d : decode cc pc = .ok (.putfield 34, 3)) (k : ∀ σ1 : ts_S, σ1 = ts_u σ 11 6 x → ts_G g (tX_w v) nL σ1 (pc + 3) lv st) : ts_G g (tX_w v) nL σ pc lv (.int x :: .ref (tX_ad v 11) :: st) :=
  ts_put (w := tX_w v) X (by omega : 11 < 151) rfl rfl tw_X3 tyX3 tyX3_ok nmX3 6 (by decide) kw_271 rfl rfl (by decide +kernel) (Nat.le_of_ble_eq_true rfl) rfl d k
theorem gf_X9_219 {g : ts_Ctx} {v : tX_V} {cc : ByteArray} {nL : Nat} {σ : ts_S} {pc : Nat} {lv : List (Nat × Value)} {st : List Value} (X : ts_X g (tX_w v) cc nL RX9) (d : decode cc pc = .ok (.getfield 219, 3)) (k : ts_G g (tX_w v) nL σ (pc + 3) lv (.int (σ 11 6) :: st)) : ts_G g (tX_w v) nL σ pc lv (.ref (tX_ad v 11) :: st) :=
  ts_get (w := tX_w v) X (by omega : 11 < 151) rfl rfl tw_X3 6 (by decide) kw_272 rfl rfl d k
theorem pf_X9_219 {g : ts_Ctx} {v : tX_V} {cc : ByteArray} {nL : Nat} {σ : ts_S} {pc : Nat} {lv : List (Nat × Value)} {st : List Value} {x : Int32} (X : ts_X g (tX_w v) cc nL RX9) (d : decode cc pc = .ok (.putfield 219, 3)) (k : ∀ σ1 : ts_S, σ1 = ts_u σ 11 6 x → ts_G g (tX_w v) nL σ1 (pc + 3) lv st) : ts_G g (tX_w v) nL σ pc lv (.int x :: .ref (tX_ad v 11) :: st) :=
  ts_put (w := tX_w v) X (by omega : 11 < 151) rfl rfl tw_X3 tyX3 tyX3_ok nmX3 6 (by decide) kw_272 rfl rfl (by decide +kernel) (Nat.le_of_ble_eq_true rfl) rfl d k
theorem gf_X7_22 {g : ts_Ctx} {v : tX_V} {cc : ByteArray} {nL : Nat} {σ : ts_S} {pc : Nat} {lv : List (Nat × Value)} {st : List Value} (X : ts_X g (tX_w v) cc nL RX7) (d : decode cc pc = .ok (.getfield 22, 3)) (k : ts_G g (tX_w v) nL σ (pc + 3) lv (.ref (tX_ad v 17) :: st)) : ts_G g (tX_w v) nL σ pc lv (.ref (tX_ad v 16) :: st) :=
  ts_get (w := tX_w v) X (by omega : 16 < 151) rfl rfl tw_X7 0 (by decide) kw_295 rfl rfl d k
theorem gf_X7_9 {g : ts_Ctx} {v : tX_V} {cc : ByteArray} {nL : Nat} {σ : ts_S} {pc : Nat} {lv : List (Nat × Value)} {st : List Value} (X : ts_X g (tX_w v) cc nL RX7) (d : decode cc pc = .ok (.getfield 9, 3)) (k : ts_G g (tX_w v) nL σ (pc + 3) lv (.ref (tX_ad v 18) :: st)) : ts_G g (tX_w v) nL σ pc lv (.ref (tX_ad v 16) :: st) :=
  ts_get (w := tX_w v) X (by omega : 16 < 151) rfl rfl tw_X7 1 (by decide) kw_296 rfl rfl d k
theorem gf_X7_32 {g : ts_Ctx} {v : tX_V} {cc : ByteArray} {nL : Nat} {σ : ts_S} {pc : Nat} {lv : List (Nat × Value)} {st : List Value} (X : ts_X g (tX_w v) cc nL RX7) (d : decode cc pc = .ok (.getfield 32, 3)) (k : ts_G g (tX_w v) nL σ (pc + 3) lv (.int (σ 16 2) :: st)) : ts_G g (tX_w v) nL σ pc lv (.ref (tX_ad v 16) :: st) :=
  ts_get (w := tX_w v) X (by omega : 16 < 151) rfl rfl tw_X7 2 (by decide) kw_297 rfl rfl d k
theorem pf_X7_32 {g : ts_Ctx} {v : tX_V} {cc : ByteArray} {nL : Nat} {σ : ts_S} {pc : Nat} {lv : List (Nat × Value)} {st : List Value} {x : Int32} (X : ts_X g (tX_w v) cc nL RX7) (d : decode cc pc = .ok (.putfield 32, 3)) (k : ∀ σ1 : ts_S, σ1 = ts_u σ 16 2 x → ts_G g (tX_w v) nL σ1 (pc + 3) lv st) : ts_G g (tX_w v) nL σ pc lv (.int x :: .ref (tX_ad v 16) :: st) :=
  ts_put (w := tX_w v) X (by omega : 16 < 151) rfl rfl tw_X7 tyX7 tyX7_ok nmX7 2 (by decide) kw_297 rfl rfl (by decide +kernel) (Nat.le_of_ble_eq_true rfl) rfl d k
theorem gf_X7_15 {g : ts_Ctx} {v : tX_V} {cc : ByteArray} {nL : Nat} {σ : ts_S} {pc : Nat} {lv : List (Nat × Value)} {st : List Value} (X : ts_X g (tX_w v) cc nL RX7) (d : decode cc pc = .ok (.getfield 15, 3)) (k : ts_G g (tX_w v) nL σ (pc + 3) lv (.ref (tX_ad v 19) :: st)) : ts_G g (tX_w v) nL σ pc lv (.ref (tX_ad v 16) :: st) :=
  ts_get (w := tX_w v) X (by omega : 16 < 151) rfl rfl tw_X7 3 (by decide) kw_298 rfl rfl d k
theorem gf_X9_229 {g : ts_Ctx} {v : tX_V} {cc : ByteArray} {nL : Nat} {σ : ts_S} {pc : Nat} {lv : List (Nat × Value)} {st : List Value} (X : ts_X g (tX_w v) cc nL RX9) (d : decode cc pc = .ok (.getfield 229, 3)) (k : ts_G g (tX_w v) nL σ (pc + 3) lv (.ref (tX_ad v 19) :: st)) : ts_G g (tX_w v) nL σ pc lv (.ref (tX_ad v 16) :: st) :=
  ts_get (w := tX_w v) X (by omega : 16 < 151) rfl rfl tw_X7 3 (by decide) kw_299 rfl rfl d k
theorem gf_X7_36 {g : ts_Ctx} {v : tX_V} {cc : ByteArray} {nL : Nat} {σ : ts_S} {pc : Nat} {lv : List (Nat × Value)} {st : List Value} (X : ts_X g (tX_w v) cc nL RX7) (d : decode cc pc = .ok (.getfield 36, 3)) (k : ts_G g (tX_w v) nL σ (pc + 3) lv (.int (σ 16 4) :: st)) : ts_G g (tX_w v) nL σ pc lv (.ref (tX_ad v 16) :: st) :=
  ts_get (w := tX_w v) X (by omega : 16 < 151) rfl rfl tw_X7 4 (by decide) kw_300 rfl rfl d k
theorem pf_X7_36 {g : ts_Ctx} {v : tX_V} {cc : ByteArray} {nL : Nat} {σ : ts_S} {pc : Nat} {lv : List (Nat × Value)} {st : List Value} {x : Int32} (X : ts_X g (tX_w v) cc nL RX7) (d : decode cc pc = .ok (.putfield 36, 3)) (k : ∀ σ1 : ts_S, σ1 = ts_u σ 16 4 x → ts_G g (tX_w v) nL σ1 (pc + 3) lv st) : ts_G g (tX_w v) nL σ pc lv (.int x :: .ref (tX_ad v 16) :: st) :=
  ts_put (w := tX_w v) X (by omega : 16 < 151) rfl rfl tw_X7 tyX7 tyX7_ok nmX7 4 (by decide) kw_300 rfl rfl (by decide +kernel) (Nat.le_of_ble_eq_true rfl) rfl d k
theorem gf_X9_228 {g : ts_Ctx} {v : tX_V} {cc : ByteArray} {nL : Nat} {σ : ts_S} {pc : Nat} {lv : List (Nat × Value)} {st : List Value} (X : ts_X g (tX_w v) cc nL RX9) (d : decode cc pc = .ok (.getfield 228, 3)) (k : ts_G g (tX_w v) nL σ (pc + 3) lv (.int (σ 16 4) :: st)) : ts_G g (tX_w v) nL σ pc lv (.ref (tX_ad v 16) :: st) :=
  ts_get (w := tX_w v) X (by omega : 16 < 151) rfl rfl tw_X7 4 (by decide) kw_301 rfl rfl d k
theorem pf_X9_228 {g : ts_Ctx} {v : tX_V} {cc : ByteArray} {nL : Nat} {σ : ts_S} {pc : Nat} {lv : List (Nat × Value)} {st : List Value} {x : Int32} (X : ts_X g (tX_w v) cc nL RX9) (d : decode cc pc = .ok (.putfield 228, 3)) (k : ∀ σ1 : ts_S, σ1 = ts_u σ 16 4 x → ts_G g (tX_w v) nL σ1 (pc + 3) lv st) : ts_G g (tX_w v) nL σ pc lv (.int x :: .ref (tX_ad v 16) :: st) :=
  ts_put (w := tX_w v) X (by omega : 16 < 151) rfl rfl tw_X7 tyX7 tyX7_ok nmX7 4 (by decide) kw_301 rfl rfl (by decide +kernel) (Nat.le_of_ble_eq_true rfl) rfl d k
theorem gf_X5_7 {g : ts_Ctx} {v : tX_V} {cc : ByteArray} {nL : Nat} {σ : ts_S} {pc : Nat} {lv : List (Nat × Value)} {st : List Value} (X : ts_X g (tX_w v) cc nL RX5) (d : decode cc pc = .ok (.getfield 7, 3)) (k : ts_G g (tX_w v) nL σ (pc + 3) lv (.ref (tX_ad v 55) :: st)) : ts_G g (tX_w v) nL σ pc lv (.ref (tX_ad v 20) :: st) :=
  ts_get (w := tX_w v) X (by omega : 20 < 151) rfl rfl tw_X5 0 (by decide) kw_319 rfl rfl d k
theorem gf_X5_51 {g : ts_Ctx} {v : tX_V} {cc : ByteArray} {nL : Nat} {σ : ts_S} {pc : Nat} {lv : List (Nat × Value)} {st : List Value} (X : ts_X g (tX_w v) cc nL RX5) (d : decode cc pc = .ok (.getfield 51, 3)) (k : ts_G g (tX_w v) nL σ (pc + 3) lv (.int (σ 20 1) :: st)) : ts_G g (tX_w v) nL σ pc lv (.ref (tX_ad v 20) :: st) :=
  ts_get (w := tX_w v) X (by omega : 20 < 151) rfl rfl tw_X5 1 (by decide) kw_320 rfl rfl d k
theorem pf_X5_51 {g : ts_Ctx} {v : tX_V} {cc : ByteArray} {nL : Nat} {σ : ts_S} {pc : Nat} {lv : List (Nat × Value)} {st : List Value} {x : Int32} (X : ts_X g (tX_w v) cc nL RX5) (d : decode cc pc = .ok (.putfield 51, 3)) (k : ∀ σ1 : ts_S, σ1 = ts_u σ 20 1 x → ts_G g (tX_w v) nL σ1 (pc + 3) lv st) : ts_G g (tX_w v) nL σ pc lv (.int x :: .ref (tX_ad v 20) :: st) :=
  ts_put (w := tX_w v) X (by omega : 20 < 151) rfl rfl tw_X5 tyX5 tyX5_ok nmX5 1 (by decide) kw_320 rfl rfl (by decide +kernel) (Nat.le_of_ble_eq_true rfl) rfl d k
theorem gf_X9_232 {g : ts_Ctx} {v : tX_V} {cc : ByteArray} {nL : Nat} {σ : ts_S} {pc : Nat} {lv : List (Nat × Value)} {st : List Value} (X : ts_X g (tX_w v) cc nL RX9) (d : decode cc pc = .ok (.getfield 232, 3)) (k : ts_G g (tX_w v) nL σ (pc + 3) lv (.int (σ 20 1) :: st)) : ts_G g (tX_w v) nL σ pc lv (.ref (tX_ad v 20) :: st) :=
  ts_get (w := tX_w v) X (by omega : 20 < 151) rfl rfl tw_X5 1 (by decide) kw_321 rfl rfl d k
theorem pf_X9_232 {g : ts_Ctx} {v : tX_V} {cc : ByteArray} {nL : Nat} {σ : ts_S} {pc : Nat} {lv : List (Nat × Value)} {st : List Value} {x : Int32} (X : ts_X g (tX_w v) cc nL RX9) (d : decode cc pc = .ok (.putfield 232, 3)) (k : ∀ σ1 : ts_S, σ1 = ts_u σ 20 1 x → ts_G g (tX_w v) nL σ1 (pc + 3) lv st) : ts_G g (tX_w v) nL σ pc lv (.int x :: .ref (tX_ad v 20) :: st) :=
  ts_put (w := tX_w v) X (by omega : 20 < 151) rfl rfl tw_X5 tyX5 tyX5_ok nmX5 1 (by decide) kw_321 rfl rfl (by decide +kernel) (Nat.le_of_ble_eq_true rfl) rfl d k
theorem gf_X5_13 {g : ts_Ctx} {v : tX_V} {cc : ByteArray} {nL : Nat} {σ : ts_S} {pc : Nat} {lv : List (Nat × Value)} {st : List Value} (X : ts_X g (tX_w v) cc nL RX5) (d : decode cc pc = .ok (.getfield 13, 3)) (k : ts_G g (tX_w v) nL σ (pc + 3) lv (.int (σ 20 2) :: st)) : ts_G g (tX_w v) nL σ pc lv (.ref (tX_ad v 20) :: st) :=
  ts_get (w := tX_w v) X (by omega : 20 < 151) rfl rfl tw_X5 2 (by decide) kw_322 rfl rfl d k
theorem pf_X5_13 {g : ts_Ctx} {v : tX_V} {cc : ByteArray} {nL : Nat} {σ : ts_S} {pc : Nat} {lv : List (Nat × Value)} {st : List Value} {x : Int32} (X : ts_X g (tX_w v) cc nL RX5) (d : decode cc pc = .ok (.putfield 13, 3)) (k : ∀ σ1 : ts_S, σ1 = ts_u σ 20 2 x → ts_G g (tX_w v) nL σ1 (pc + 3) lv st) : ts_G g (tX_w v) nL σ pc lv (.int x :: .ref (tX_ad v 20) :: st) :=
  ts_put (w := tX_w v) X (by omega : 20 < 151) rfl rfl tw_X5 tyX5 tyX5_ok nmX5 2 (by decide) kw_322 rfl rfl (by decide +kernel) (Nat.le_of_ble_eq_true rfl) rfl d k
theorem gf_X9_231 {g : ts_Ctx} {v : tX_V} {cc : ByteArray} {nL : Nat} {σ : ts_S} {pc : Nat} {lv : List (Nat × Value)} {st : List Value} (X : ts_X g (tX_w v) cc nL RX9) (d : decode cc pc = .ok (.getfield 231, 3)) (k : ts_G g (tX_w v) nL σ (pc + 3) lv (.int (σ 20 2) :: st)) : ts_G g (tX_w v) nL σ pc lv (.ref (tX_ad v 20) :: st) :=
  ts_get (w := tX_w v) X (by omega : 20 < 151) rfl rfl tw_X5 2 (by decide) kw_323 rfl rfl d k
theorem pf_X9_231 {g : ts_Ctx} {v : tX_V} {cc : ByteArray} {nL : Nat} {σ : ts_S} {pc : Nat} {lv : List (Nat × Value)} {st : List Value} {x : Int32} (X : ts_X g (tX_w v) cc nL RX9) (d : decode cc pc = .ok (.putfield 231, 3)) (k : ∀ σ1 : ts_S, σ1 = ts_u σ 20 2 x → ts_G g (tX_w v) nL σ1 (pc + 3) lv st) : ts_G g (tX_w v) nL σ pc lv (.int x :: .ref (tX_ad v 20) :: st) :=
  ts_put (w := tX_w v) X (by omega : 20 < 151) rfl rfl tw_X5 tyX5 tyX5_ok nmX5 2 (by decide) kw_323 rfl rfl (by decide +kernel) (Nat.le_of_ble_eq_true rfl) rfl d k
theorem gf_X0_9 {g : ts_Ctx} {v : tX_V} {cc : ByteArray} {nL : Nat} {σ : ts_S} {pc : Nat} {lv : List (Nat × Value)} {st : List Value} (X : ts_X g (tX_w v) cc nL RX0) (d : decode cc pc = .ok (.getfield 9, 3)) (k : ts_G g (tX_w v) nL σ (pc + 3) lv (.ref (tX_ad v 22) :: st)) : ts_G g (tX_w v) nL σ pc lv (.ref (tX_ad v 21) :: st) :=
  ts_get (w := tX_w v) X (by omega : 21 < 151) rfl rfl tw_X0 0 (by decide) kw_337 rfl rfl d k
theorem gf_X0_23 {g : ts_Ctx} {v : tX_V} {cc : ByteArray} {nL : Nat} {σ : ts_S} {pc : Nat} {lv : List (Nat × Value)} {st : List Value} (X : ts_X g (tX_w v) cc nL RX0) (d : decode cc pc = .ok (.getfield 23, 3)) (k : ts_G g (tX_w v) nL σ (pc + 3) lv (.int (σ 21 1) :: st)) : ts_G g (tX_w v) nL σ pc lv (.ref (tX_ad v 21) :: st) :=
  ts_get (w := tX_w v) X (by omega : 21 < 151) rfl rfl tw_X0 1 (by decide) kw_338 rfl rfl d k
theorem pf_X0_23 {g : ts_Ctx} {v : tX_V} {cc : ByteArray} {nL : Nat} {σ : ts_S} {pc : Nat} {lv : List (Nat × Value)} {st : List Value} {x : Int32} (X : ts_X g (tX_w v) cc nL RX0) (d : decode cc pc = .ok (.putfield 23, 3)) (k : ∀ σ1 : ts_S, σ1 = ts_u σ 21 1 x → ts_G g (tX_w v) nL σ1 (pc + 3) lv st) : ts_G g (tX_w v) nL σ pc lv (.int x :: .ref (tX_ad v 21) :: st) :=
  ts_put (w := tX_w v) X (by omega : 21 < 151) rfl rfl tw_X0 tyX0 tyX0_ok nmX0 1 (by decide) kw_338 rfl rfl (by decide +kernel) (Nat.le_of_ble_eq_true rfl) rfl d k
theorem gf_X9_241 {g : ts_Ctx} {v : tX_V} {cc : ByteArray} {nL : Nat} {σ : ts_S} {pc : Nat} {lv : List (Nat × Value)} {st : List Value} (X : ts_X g (tX_w v) cc nL RX9) (d : decode cc pc = .ok (.getfield 241, 3)) (k : ts_G g (tX_w v) nL σ (pc + 3) lv (.int (σ 21 1) :: st)) : ts_G g (tX_w v) nL σ pc lv (.ref (tX_ad v 21) :: st) :=
  ts_get (w := tX_w v) X (by omega : 21 < 151) rfl rfl tw_X0 1 (by decide) kw_339 rfl rfl d k
theorem pf_X9_241 {g : ts_Ctx} {v : tX_V} {cc : ByteArray} {nL : Nat} {σ : ts_S} {pc : Nat} {lv : List (Nat × Value)} {st : List Value} {x : Int32} (X : ts_X g (tX_w v) cc nL RX9) (d : decode cc pc = .ok (.putfield 241, 3)) (k : ∀ σ1 : ts_S, σ1 = ts_u σ 21 1 x → ts_G g (tX_w v) nL σ1 (pc + 3) lv st) : ts_G g (tX_w v) nL σ pc lv (.int x :: .ref (tX_ad v 21) :: st) :=
  ts_put (w := tX_w v) X (by omega : 21 < 151) rfl rfl tw_X0 tyX0 tyX0_ok nmX0 1 (by decide) kw_339 rfl rfl (by decide +kernel) (Nat.le_of_ble_eq_true rfl) rfl d k
theorem gf_X0_19 {g : ts_Ctx} {v : tX_V} {cc : ByteArray} {nL : Nat} {σ : ts_S} {pc : Nat} {lv : List (Nat × Value)} {st : List Value} (X : ts_X g (tX_w v) cc nL RX0) (d : decode cc pc = .ok (.getfield 19, 3)) (k : ts_G g (tX_w v) nL σ (pc + 3) lv (.int (σ 21 2) :: st)) : ts_G g (tX_w v) nL σ pc lv (.ref (tX_ad v 21) :: st) :=
  ts_get (w := tX_w v) X (by omega : 21 < 151) rfl rfl tw_X0 2 (by decide) kw_340 rfl rfl d k
theorem pf_X0_19 {g : ts_Ctx} {v : tX_V} {cc : ByteArray} {nL : Nat} {σ : ts_S} {pc : Nat} {lv : List (Nat × Value)} {st : List Value} {x : Int32} (X : ts_X g (tX_w v) cc nL RX0) (d : decode cc pc = .ok (.putfield 19, 3)) (k : ∀ σ1 : ts_S, σ1 = ts_u σ 21 2 x → ts_G g (tX_w v) nL σ1 (pc + 3) lv st) : ts_G g (tX_w v) nL σ pc lv (.int x :: .ref (tX_ad v 21) :: st) :=
  ts_put (w := tX_w v) X (by omega : 21 < 151) rfl rfl tw_X0 tyX0 tyX0_ok nmX0 2 (by decide) kw_340 rfl rfl (by decide +kernel) (Nat.le_of_ble_eq_true rfl) rfl d k
theorem gf_X9_238 {g : ts_Ctx} {v : tX_V} {cc : ByteArray} {nL : Nat} {σ : ts_S} {pc : Nat} {lv : List (Nat × Value)} {st : List Value} (X : ts_X g (tX_w v) cc nL RX9) (d : decode cc pc = .ok (.getfield 238, 3)) (k : ts_G g (tX_w v) nL σ (pc + 3) lv (.int (σ 21 2) :: st)) : ts_G g (tX_w v) nL σ pc lv (.ref (tX_ad v 21) :: st) :=
  ts_get (w := tX_w v) X (by omega : 21 < 151) rfl rfl tw_X0 2 (by decide) kw_341 rfl rfl d k
theorem pf_X9_238 {g : ts_Ctx} {v : tX_V} {cc : ByteArray} {nL : Nat} {σ : ts_S} {pc : Nat} {lv : List (Nat × Value)} {st : List Value} {x : Int32} (X : ts_X g (tX_w v) cc nL RX9) (d : decode cc pc = .ok (.putfield 238, 3)) (k : ∀ σ1 : ts_S, σ1 = ts_u σ 21 2 x → ts_G g (tX_w v) nL σ1 (pc + 3) lv st) : ts_G g (tX_w v) nL σ pc lv (.int x :: .ref (tX_ad v 21) :: st) :=
  ts_put (w := tX_w v) X (by omega : 21 < 151) rfl rfl tw_X0 tyX0 tyX0_ok nmX0 2 (by decide) kw_341 rfl rfl (by decide +kernel) (Nat.le_of_ble_eq_true rfl) rfl d k
theorem gf_X9_10 {g : ts_Ctx} {v : tX_V} {cc : ByteArray} {nL : Nat} {σ : ts_S} {pc : Nat} {lv : List (Nat × Value)} {st : List Value} (X : ts_X g (tX_w v) cc nL RX9) (d : decode cc pc = .ok (.getfield 10, 3)) (k : ts_G g (tX_w v) nL σ (pc + 3) lv (.ref (tX_ad v 1) :: st)) : ts_G g (tX_w v) nL σ pc lv (.ref (tX_ad v 0) :: st) :=
  ts_get (w := tX_w v) X (by omega : 0 < 151) rfl rfl tw_X9 0 (by decide) kw_469 rfl rfl d k
theorem gf_X9_24 {g : ts_Ctx} {v : tX_V} {cc : ByteArray} {nL : Nat} {σ : ts_S} {pc : Nat} {lv : List (Nat × Value)} {st : List Value} (X : ts_X g (tX_w v) cc nL RX9) (d : decode cc pc = .ok (.getfield 24, 3)) (k : ts_G g (tX_w v) nL σ (pc + 3) lv (.ref (tX_ad v 37) :: st)) : ts_G g (tX_w v) nL σ pc lv (.ref (tX_ad v 0) :: st) :=
  ts_get (w := tX_w v) X (by omega : 0 < 151) rfl rfl tw_X9 1 (by decide) kw_470 rfl rfl d k
theorem gf_X9_28 {g : ts_Ctx} {v : tX_V} {cc : ByteArray} {nL : Nat} {σ : ts_S} {pc : Nat} {lv : List (Nat × Value)} {st : List Value} (X : ts_X g (tX_w v) cc nL RX9) (d : decode cc pc = .ok (.getfield 28, 3)) (k : ts_G g (tX_w v) nL σ (pc + 3) lv (.ref (tX_ad v 31) :: st)) : ts_G g (tX_w v) nL σ pc lv (.ref (tX_ad v 0) :: st) :=
  ts_get (w := tX_w v) X (by omega : 0 < 151) rfl rfl tw_X9 2 (by decide) kw_471 rfl rfl d k
theorem gf_X9_31 {g : ts_Ctx} {v : tX_V} {cc : ByteArray} {nL : Nat} {σ : ts_S} {pc : Nat} {lv : List (Nat × Value)} {st : List Value} (X : ts_X g (tX_w v) cc nL RX9) (d : decode cc pc = .ok (.getfield 31, 3)) (k : ts_G g (tX_w v) nL σ (pc + 3) lv (.ref (tX_ad v 43) :: st)) : ts_G g (tX_w v) nL σ pc lv (.ref (tX_ad v 0) :: st) :=
  ts_get (w := tX_w v) X (by omega : 0 < 151) rfl rfl tw_X9 3 (by decide) kw_472 rfl rfl d k
theorem gf_X9_37 {g : ts_Ctx} {v : tX_V} {cc : ByteArray} {nL : Nat} {σ : ts_S} {pc : Nat} {lv : List (Nat × Value)} {st : List Value} (X : ts_X g (tX_w v) cc nL RX9) (d : decode cc pc = .ok (.getfield 37, 3)) (k : ts_G g (tX_w v) nL σ (pc + 3) lv (.ref (tX_ad v 4) :: st)) : ts_G g (tX_w v) nL σ pc lv (.ref (tX_ad v 0) :: st) :=
  ts_get (w := tX_w v) X (by omega : 0 < 151) rfl rfl tw_X9 4 (by decide) kw_473 rfl rfl d k
theorem gf_X9_45 {g : ts_Ctx} {v : tX_V} {cc : ByteArray} {nL : Nat} {σ : ts_S} {pc : Nat} {lv : List (Nat × Value)} {st : List Value} (X : ts_X g (tX_w v) cc nL RX9) (d : decode cc pc = .ok (.getfield 45, 3)) (k : ts_G g (tX_w v) nL σ (pc + 3) lv (.ref (tX_ad v 6) :: st)) : ts_G g (tX_w v) nL σ pc lv (.ref (tX_ad v 0) :: st) :=
  ts_get (w := tX_w v) X (by omega : 0 < 151) rfl rfl tw_X9 5 (by decide) kw_474 rfl rfl d k
theorem gf_X9_293 {g : ts_Ctx} {v : tX_V} {cc : ByteArray} {nL : Nat} {σ : ts_S} {pc : Nat} {lv : List (Nat × Value)} {st : List Value} (X : ts_X g (tX_w v) cc nL RX9) (d : decode cc pc = .ok (.getfield 293, 3)) (k : ts_G g (tX_w v) nL σ (pc + 3) lv (.int (σ 0 6) :: st)) : ts_G g (tX_w v) nL σ pc lv (.ref (tX_ad v 0) :: st) :=
  ts_get (w := tX_w v) X (by omega : 0 < 151) rfl rfl tw_X9 6 (by decide) kw_475 rfl rfl d k
theorem pf_X9_293 {g : ts_Ctx} {v : tX_V} {cc : ByteArray} {nL : Nat} {σ : ts_S} {pc : Nat} {lv : List (Nat × Value)} {st : List Value} {x : Int32} (X : ts_X g (tX_w v) cc nL RX9) (d : decode cc pc = .ok (.putfield 293, 3)) (k : ∀ σ1 : ts_S, σ1 = ts_u σ 0 6 x → ts_G g (tX_w v) nL σ1 (pc + 3) lv st) : ts_G g (tX_w v) nL σ pc lv (.int x :: .ref (tX_ad v 0) :: st) :=
  ts_put (w := tX_w v) X (by omega : 0 < 151) rfl rfl tw_X9 tyX9 tyX9_ok nmX9 6 (by decide) kw_475 rfl rfl (by decide +kernel) (Nat.le_of_ble_eq_true rfl) rfl d k
theorem gf_X9_52 {g : ts_Ctx} {v : tX_V} {cc : ByteArray} {nL : Nat} {σ : ts_S} {pc : Nat} {lv : List (Nat × Value)} {st : List Value} (X : ts_X g (tX_w v) cc nL RX9) (d : decode cc pc = .ok (.getfield 52, 3)) (k : ts_G g (tX_w v) nL σ (pc + 3) lv (.ref (tX_ad v 7) :: st)) : ts_G g (tX_w v) nL σ pc lv (.ref (tX_ad v 0) :: st) :=
  ts_get (w := tX_w v) X (by omega : 0 < 151) rfl rfl tw_X9 7 (by decide) kw_476 rfl rfl d k
theorem gf_X9_61 {g : ts_Ctx} {v : tX_V} {cc : ByteArray} {nL : Nat} {σ : ts_S} {pc : Nat} {lv : List (Nat × Value)} {st : List Value} (X : ts_X g (tX_w v) cc nL RX9) (d : decode cc pc = .ok (.getfield 61, 3)) (k : ts_G g (tX_w v) nL σ (pc + 3) lv (.ref (tX_ad v 11) :: st)) : ts_G g (tX_w v) nL σ pc lv (.ref (tX_ad v 0) :: st) :=
  ts_get (w := tX_w v) X (by omega : 0 < 151) rfl rfl tw_X9 8 (by decide) kw_477 rfl rfl d k
theorem gf_X9_68 {g : ts_Ctx} {v : tX_V} {cc : ByteArray} {nL : Nat} {σ : ts_S} {pc : Nat} {lv : List (Nat × Value)} {st : List Value} (X : ts_X g (tX_w v) cc nL RX9) (d : decode cc pc = .ok (.getfield 68, 3)) (k : ts_G g (tX_w v) nL σ (pc + 3) lv (.ref (tX_ad v 16) :: st)) : ts_G g (tX_w v) nL σ pc lv (.ref (tX_ad v 0) :: st) :=
  ts_get (w := tX_w v) X (by omega : 0 < 151) rfl rfl tw_X9 9 (by decide) kw_478 rfl rfl d k
theorem gf_X9_75 {g : ts_Ctx} {v : tX_V} {cc : ByteArray} {nL : Nat} {σ : ts_S} {pc : Nat} {lv : List (Nat × Value)} {st : List Value} (X : ts_X g (tX_w v) cc nL RX9) (d : decode cc pc = .ok (.getfield 75, 3)) (k : ts_G g (tX_w v) nL σ (pc + 3) lv (.ref (tX_ad v 20) :: st)) : ts_G g (tX_w v) nL σ pc lv (.ref (tX_ad v 0) :: st) :=
  ts_get (w := tX_w v) X (by omega : 0 < 151) rfl rfl tw_X9 10 (by decide) kw_479 rfl rfl d k
theorem gf_X9_82 {g : ts_Ctx} {v : tX_V} {cc : ByteArray} {nL : Nat} {σ : ts_S} {pc : Nat} {lv : List (Nat × Value)} {st : List Value} (X : ts_X g (tX_w v) cc nL RX9) (d : decode cc pc = .ok (.getfield 82, 3)) (k : ts_G g (tX_w v) nL σ (pc + 3) lv (.ref (tX_ad v 21) :: st)) : ts_G g (tX_w v) nL σ pc lv (.ref (tX_ad v 0) :: st) :=
  ts_get (w := tX_w v) X (by omega : 0 < 151) rfl rfl tw_X9 11 (by decide) kw_480 rfl rfl d k
theorem gf_X10_80 {g : ts_Ctx} {v : tX_V} {cc : ByteArray} {nL : Nat} {σ : ts_S} {pc : Nat} {lv : List (Nat × Value)} {st : List Value} (X : ts_X g (tM_w v) cc nL RX10) (d : decode cc pc = .ok (.getfield 80, 3)) (k : ts_G g (tM_w v) nL σ (pc + 3) lv (.int (σ 0 0) :: st)) : ts_G g (tM_w v) nL σ pc lv (.ref (tX_ad v 0) :: st) :=
  ts_get (w := tM_w v) X (by omega : 0 < 15) rfl rfl tw_X10 0 (by decide) kw_901 rfl rfl d k
theorem pf_X10_80 {g : ts_Ctx} {v : tX_V} {cc : ByteArray} {nL : Nat} {σ : ts_S} {pc : Nat} {lv : List (Nat × Value)} {st : List Value} {x : Int32} (X : ts_X g (tM_w v) cc nL RX10) (d : decode cc pc = .ok (.putfield 80, 3)) (k : ∀ σ1 : ts_S, σ1 = ts_u σ 0 0 x → ts_G g (tM_w v) nL σ1 (pc + 3) lv st) : ts_G g (tM_w v) nL σ pc lv (.int x :: .ref (tX_ad v 0) :: st) :=
  ts_put (w := tM_w v) X (by omega : 0 < 15) rfl rfl tw_X10 tyX10 tyX10_ok nmX10 0 (by decide) kw_901 rfl rfl (by decide +kernel) (Nat.le_of_ble_eq_true rfl) rfl d k
theorem gf_X10_73 {g : ts_Ctx} {v : tX_V} {cc : ByteArray} {nL : Nat} {σ : ts_S} {pc : Nat} {lv : List (Nat × Value)} {st : List Value} (X : ts_X g (tM_w v) cc nL RX10) (d : decode cc pc = .ok (.getfield 73, 3)) (k : ts_G g (tM_w v) nL σ (pc + 3) lv (.int (σ 0 1) :: st)) : ts_G g (tM_w v) nL σ pc lv (.ref (tX_ad v 0) :: st) :=
  ts_get (w := tM_w v) X (by omega : 0 < 15) rfl rfl tw_X10 1 (by decide) kw_902 rfl rfl d k
theorem pf_X10_73 {g : ts_Ctx} {v : tX_V} {cc : ByteArray} {nL : Nat} {σ : ts_S} {pc : Nat} {lv : List (Nat × Value)} {st : List Value} {x : Int32} (X : ts_X g (tM_w v) cc nL RX10) (d : decode cc pc = .ok (.putfield 73, 3)) (k : ∀ σ1 : ts_S, σ1 = ts_u σ 0 1 x → ts_G g (tM_w v) nL σ1 (pc + 3) lv st) : ts_G g (tM_w v) nL σ pc lv (.int x :: .ref (tX_ad v 0) :: st) :=
  ts_put (w := tM_w v) X (by omega : 0 < 15) rfl rfl tw_X10 tyX10 tyX10_ok nmX10 1 (by decide) kw_902 rfl rfl (by decide +kernel) (Nat.le_of_ble_eq_true rfl) rfl d k
theorem gf_X10_7 {g : ts_Ctx} {v : tX_V} {cc : ByteArray} {nL : Nat} {σ : ts_S} {pc : Nat} {lv : List (Nat × Value)} {st : List Value} (X : ts_X g (tM_w v) cc nL RX10) (d : decode cc pc = .ok (.getfield 7, 3)) (k : ts_G g (tM_w v) nL σ (pc + 3) lv (.ref (tX_ad v 1) :: st)) : ts_G g (tM_w v) nL σ pc lv (.ref (tX_ad v 0) :: st) :=
  ts_get (w := tM_w v) X (by omega : 0 < 15) rfl rfl tw_X10 2 (by decide) kw_903 rfl rfl d k
theorem gf_X10_127 {g : ts_Ctx} {v : tX_V} {cc : ByteArray} {nL : Nat} {σ : ts_S} {pc : Nat} {lv : List (Nat × Value)} {st : List Value} (X : ts_X g (tM_w v) cc nL RX10) (d : decode cc pc = .ok (.getfield 127, 3)) (k : ts_G g (tM_w v) nL σ (pc + 3) lv (.int (σ 0 3) :: st)) : ts_G g (tM_w v) nL σ pc lv (.ref (tX_ad v 0) :: st) :=
  ts_get (w := tM_w v) X (by omega : 0 < 15) rfl rfl tw_X10 3 (by decide) kw_904 rfl rfl d k
theorem pf_X10_127 {g : ts_Ctx} {v : tX_V} {cc : ByteArray} {nL : Nat} {σ : ts_S} {pc : Nat} {lv : List (Nat × Value)} {st : List Value} {x : Int32} (X : ts_X g (tM_w v) cc nL RX10) (d : decode cc pc = .ok (.putfield 127, 3)) (k : ∀ σ1 : ts_S, σ1 = ts_u σ 0 3 x → ts_G g (tM_w v) nL σ1 (pc + 3) lv st) : ts_G g (tM_w v) nL σ pc lv (.int x :: .ref (tX_ad v 0) :: st) :=
  ts_put (w := tM_w v) X (by omega : 0 < 15) rfl rfl tw_X10 tyX10 tyX10_ok nmX10 3 (by decide) kw_904 rfl rfl (by decide +kernel) (Nat.le_of_ble_eq_true rfl) rfl d k
theorem gf_X10_13 {g : ts_Ctx} {v : tX_V} {cc : ByteArray} {nL : Nat} {σ : ts_S} {pc : Nat} {lv : List (Nat × Value)} {st : List Value} (X : ts_X g (tM_w v) cc nL RX10) (d : decode cc pc = .ok (.getfield 13, 3)) (k : ts_G g (tM_w v) nL σ (pc + 3) lv (.ref (tX_ad v 2) :: st)) : ts_G g (tM_w v) nL σ pc lv (.ref (tX_ad v 0) :: st) :=
  ts_get (w := tM_w v) X (by omega : 0 < 15) rfl rfl tw_X10 4 (by decide) kw_905 rfl rfl d k
theorem gf_X10_16 {g : ts_Ctx} {v : tX_V} {cc : ByteArray} {nL : Nat} {σ : ts_S} {pc : Nat} {lv : List (Nat × Value)} {st : List Value} (X : ts_X g (tM_w v) cc nL RX10) (d : decode cc pc = .ok (.getfield 16, 3)) (k : ts_G g (tM_w v) nL σ (pc + 3) lv (.ref (tX_ad v 3) :: st)) : ts_G g (tM_w v) nL σ pc lv (.ref (tX_ad v 0) :: st) :=
  ts_get (w := tM_w v) X (by omega : 0 < 15) rfl rfl tw_X10 5 (by decide) kw_906 rfl rfl d k
theorem gf_X10_130 {g : ts_Ctx} {v : tX_V} {cc : ByteArray} {nL : Nat} {σ : ts_S} {pc : Nat} {lv : List (Nat × Value)} {st : List Value} (X : ts_X g (tM_w v) cc nL RX10) (d : decode cc pc = .ok (.getfield 130, 3)) (k : ts_G g (tM_w v) nL σ (pc + 3) lv (.int (σ 0 6) :: st)) : ts_G g (tM_w v) nL σ pc lv (.ref (tX_ad v 0) :: st) :=
  ts_get (w := tM_w v) X (by omega : 0 < 15) rfl rfl tw_X10 6 (by decide) kw_907 rfl rfl d k
theorem pf_X10_130 {g : ts_Ctx} {v : tX_V} {cc : ByteArray} {nL : Nat} {σ : ts_S} {pc : Nat} {lv : List (Nat × Value)} {st : List Value} {x : Int32} (X : ts_X g (tM_w v) cc nL RX10) (d : decode cc pc = .ok (.putfield 130, 3)) (k : ∀ σ1 : ts_S, σ1 = ts_u σ 0 6 x → ts_G g (tM_w v) nL σ1 (pc + 3) lv st) : ts_G g (tM_w v) nL σ pc lv (.int x :: .ref (tX_ad v 0) :: st) :=
  ts_put (w := tM_w v) X (by omega : 0 < 15) rfl rfl tw_X10 tyX10 tyX10_ok nmX10 6 (by decide) kw_907 rfl rfl (by decide +kernel) (Nat.le_of_ble_eq_true rfl) rfl d k
theorem gf_X10_19 {g : ts_Ctx} {v : tX_V} {cc : ByteArray} {nL : Nat} {σ : ts_S} {pc : Nat} {lv : List (Nat × Value)} {st : List Value} (X : ts_X g (tM_w v) cc nL RX10) (d : decode cc pc = .ok (.getfield 19, 3)) (k : ts_G g (tM_w v) nL σ (pc + 3) lv (.ref (tX_ad v 4) :: st)) : ts_G g (tM_w v) nL σ pc lv (.ref (tX_ad v 0) :: st) :=
  ts_get (w := tM_w v) X (by omega : 0 < 15) rfl rfl tw_X10 7 (by decide) kw_908 rfl rfl d k
theorem gf_X10_133 {g : ts_Ctx} {v : tX_V} {cc : ByteArray} {nL : Nat} {σ : ts_S} {pc : Nat} {lv : List (Nat × Value)} {st : List Value} (X : ts_X g (tM_w v) cc nL RX10) (d : decode cc pc = .ok (.getfield 133, 3)) (k : ts_G g (tM_w v) nL σ (pc + 3) lv (.int (σ 0 8) :: st)) : ts_G g (tM_w v) nL σ pc lv (.ref (tX_ad v 0) :: st) :=
  ts_get (w := tM_w v) X (by omega : 0 < 15) rfl rfl tw_X10 8 (by decide) kw_909 rfl rfl d k
theorem pf_X10_133 {g : ts_Ctx} {v : tX_V} {cc : ByteArray} {nL : Nat} {σ : ts_S} {pc : Nat} {lv : List (Nat × Value)} {st : List Value} {x : Int32} (X : ts_X g (tM_w v) cc nL RX10) (d : decode cc pc = .ok (.putfield 133, 3)) (k : ∀ σ1 : ts_S, σ1 = ts_u σ 0 8 x → ts_G g (tM_w v) nL σ1 (pc + 3) lv st) : ts_G g (tM_w v) nL σ pc lv (.int x :: .ref (tX_ad v 0) :: st) :=
  ts_put (w := tM_w v) X (by omega : 0 < 15) rfl rfl tw_X10 tyX10 tyX10_ok nmX10 8 (by decide) kw_909 rfl rfl (by decide +kernel) (Nat.le_of_ble_eq_true rfl) rfl d k
theorem gf_X10_22 {g : ts_Ctx} {v : tX_V} {cc : ByteArray} {nL : Nat} {σ : ts_S} {pc : Nat} {lv : List (Nat × Value)} {st : List Value} (X : ts_X g (tM_w v) cc nL RX10) (d : decode cc pc = .ok (.getfield 22, 3)) (k : ts_G g (tM_w v) nL σ (pc + 3) lv (.ref (tX_ad v 5) :: st)) : ts_G g (tM_w v) nL σ pc lv (.ref (tX_ad v 0) :: st) :=
  ts_get (w := tM_w v) X (by omega : 0 < 15) rfl rfl tw_X10 9 (by decide) kw_910 rfl rfl d k
theorem gf_X10_136 {g : ts_Ctx} {v : tX_V} {cc : ByteArray} {nL : Nat} {σ : ts_S} {pc : Nat} {lv : List (Nat × Value)} {st : List Value} (X : ts_X g (tM_w v) cc nL RX10) (d : decode cc pc = .ok (.getfield 136, 3)) (k : ts_G g (tM_w v) nL σ (pc + 3) lv (.int (σ 0 10) :: st)) : ts_G g (tM_w v) nL σ pc lv (.ref (tX_ad v 0) :: st) :=
  ts_get (w := tM_w v) X (by omega : 0 < 15) rfl rfl tw_X10 10 (by decide) kw_911 rfl rfl d k
theorem pf_X10_136 {g : ts_Ctx} {v : tX_V} {cc : ByteArray} {nL : Nat} {σ : ts_S} {pc : Nat} {lv : List (Nat × Value)} {st : List Value} {x : Int32} (X : ts_X g (tM_w v) cc nL RX10) (d : decode cc pc = .ok (.putfield 136, 3)) (k : ∀ σ1 : ts_S, σ1 = ts_u σ 0 10 x → ts_G g (tM_w v) nL σ1 (pc + 3) lv st) : ts_G g (tM_w v) nL σ pc lv (.int x :: .ref (tX_ad v 0) :: st) :=
  ts_put (w := tM_w v) X (by omega : 0 < 15) rfl rfl tw_X10 tyX10 tyX10_ok nmX10 10 (by decide) kw_911 rfl rfl (by decide +kernel) (Nat.le_of_ble_eq_true rfl) rfl d k
theorem gf_X10_25 {g : ts_Ctx} {v : tX_V} {cc : ByteArray} {nL : Nat} {σ : ts_S} {pc : Nat} {lv : List (Nat × Value)} {st : List Value} (X : ts_X g (tM_w v) cc nL RX10) (d : decode cc pc = .ok (.getfield 25, 3)) (k : ts_G g (tM_w v) nL σ (pc + 3) lv (.ref (tX_ad v 6) :: st)) : ts_G g (tM_w v) nL σ pc lv (.ref (tX_ad v 0) :: st) :=
  ts_get (w := tM_w v) X (by omega : 0 < 15) rfl rfl tw_X10 11 (by decide) kw_912 rfl rfl d k
theorem gf_X10_28 {g : ts_Ctx} {v : tX_V} {cc : ByteArray} {nL : Nat} {σ : ts_S} {pc : Nat} {lv : List (Nat × Value)} {st : List Value} (X : ts_X g (tM_w v) cc nL RX10) (d : decode cc pc = .ok (.getfield 28, 3)) (k : ts_G g (tM_w v) nL σ (pc + 3) lv (.ref (tX_ad v 7) :: st)) : ts_G g (tM_w v) nL σ pc lv (.ref (tX_ad v 0) :: st) :=
  ts_get (w := tM_w v) X (by omega : 0 < 15) rfl rfl tw_X10 12 (by decide) kw_913 rfl rfl d k
theorem gf_X10_83 {g : ts_Ctx} {v : tX_V} {cc : ByteArray} {nL : Nat} {σ : ts_S} {pc : Nat} {lv : List (Nat × Value)} {st : List Value} (X : ts_X g (tM_w v) cc nL RX10) (d : decode cc pc = .ok (.getfield 83, 3)) (k : ts_G g (tM_w v) nL σ (pc + 3) lv (.int (σ 0 13) :: st)) : ts_G g (tM_w v) nL σ pc lv (.ref (tX_ad v 0) :: st) :=
  ts_get (w := tM_w v) X (by omega : 0 < 15) rfl rfl tw_X10 13 (by decide) kw_914 rfl rfl d k
theorem pf_X10_83 {g : ts_Ctx} {v : tX_V} {cc : ByteArray} {nL : Nat} {σ : ts_S} {pc : Nat} {lv : List (Nat × Value)} {st : List Value} {x : Int32} (X : ts_X g (tM_w v) cc nL RX10) (d : decode cc pc = .ok (.putfield 83, 3)) (k : ∀ σ1 : ts_S, σ1 = ts_u σ 0 13 x → ts_G g (tM_w v) nL σ1 (pc + 3) lv st) : ts_G g (tM_w v) nL σ pc lv (.int x :: .ref (tX_ad v 0) :: st) :=
  ts_put (w := tM_w v) X (by omega : 0 < 15) rfl rfl tw_X10 tyX10 tyX10_ok nmX10 13 (by decide) kw_914 rfl rfl (by decide +kernel) (Nat.le_of_ble_eq_true rfl) rfl d k
theorem gf_X10_86 {g : ts_Ctx} {v : tX_V} {cc : ByteArray} {nL : Nat} {σ : ts_S} {pc : Nat} {lv : List (Nat × Value)} {st : List Value} (X : ts_X g (tM_w v) cc nL RX10) (d : decode cc pc = .ok (.getfield 86, 3)) (k : ts_G g (tM_w v) nL σ (pc + 3) lv (.int (σ 0 14) :: st)) : ts_G g (tM_w v) nL σ pc lv (.ref (tX_ad v 0) :: st) :=
  ts_get (w := tM_w v) X (by omega : 0 < 15) rfl rfl tw_X10 14 (by decide) kw_915 rfl rfl d k
theorem pf_X10_86 {g : ts_Ctx} {v : tX_V} {cc : ByteArray} {nL : Nat} {σ : ts_S} {pc : Nat} {lv : List (Nat × Value)} {st : List Value} {x : Int32} (X : ts_X g (tM_w v) cc nL RX10) (d : decode cc pc = .ok (.putfield 86, 3)) (k : ∀ σ1 : ts_S, σ1 = ts_u σ 0 14 x → ts_G g (tM_w v) nL σ1 (pc + 3) lv st) : ts_G g (tM_w v) nL σ pc lv (.int x :: .ref (tX_ad v 0) :: st) :=
  ts_put (w := tM_w v) X (by omega : 0 < 15) rfl rfl tw_X10 tyX10 tyX10_ok nmX10 14 (by decide) kw_915 rfl rfl (by decide +kernel) (Nat.le_of_ble_eq_true rfl) rfl d k
theorem gf_X10_31 {g : ts_Ctx} {v : tX_V} {cc : ByteArray} {nL : Nat} {σ : ts_S} {pc : Nat} {lv : List (Nat × Value)} {st : List Value} (X : ts_X g (tM_w v) cc nL RX10) (d : decode cc pc = .ok (.getfield 31, 3)) (k : ts_G g (tM_w v) nL σ (pc + 3) lv (.ref (tX_ad v 8) :: st)) : ts_G g (tM_w v) nL σ pc lv (.ref (tX_ad v 0) :: st) :=
  ts_get (w := tM_w v) X (by omega : 0 < 15) rfl rfl tw_X10 15 (by decide) kw_916 rfl rfl d k
theorem gf_X10_97 {g : ts_Ctx} {v : tX_V} {cc : ByteArray} {nL : Nat} {σ : ts_S} {pc : Nat} {lv : List (Nat × Value)} {st : List Value} (X : ts_X g (tM_w v) cc nL RX10) (d : decode cc pc = .ok (.getfield 97, 3)) (k : ts_G g (tM_w v) nL σ (pc + 3) lv (.int (σ 0 16) :: st)) : ts_G g (tM_w v) nL σ pc lv (.ref (tX_ad v 0) :: st) :=
  ts_get (w := tM_w v) X (by omega : 0 < 15) rfl rfl tw_X10 16 (by decide) kw_917 rfl rfl d k
theorem pf_X10_97 {g : ts_Ctx} {v : tX_V} {cc : ByteArray} {nL : Nat} {σ : ts_S} {pc : Nat} {lv : List (Nat × Value)} {st : List Value} {x : Int32} (X : ts_X g (tM_w v) cc nL RX10) (d : decode cc pc = .ok (.putfield 97, 3)) (k : ∀ σ1 : ts_S, σ1 = ts_u σ 0 16 x → ts_G g (tM_w v) nL σ1 (pc + 3) lv st) : ts_G g (tM_w v) nL σ pc lv (.int x :: .ref (tX_ad v 0) :: st) :=
  ts_put (w := tM_w v) X (by omega : 0 < 15) rfl rfl tw_X10 tyX10 tyX10_ok nmX10 16 (by decide) kw_917 rfl rfl (by decide +kernel) (Nat.le_of_ble_eq_true rfl) rfl d k
theorem gf_X10_66 {g : ts_Ctx} {v : tX_V} {cc : ByteArray} {nL : Nat} {σ : ts_S} {pc : Nat} {lv : List (Nat × Value)} {st : List Value} (X : ts_X g (tM_w v) cc nL RX10) (d : decode cc pc = .ok (.getfield 66, 3)) (k : ts_G g (tM_w v) nL σ (pc + 3) lv (.int (σ 0 17) :: st)) : ts_G g (tM_w v) nL σ pc lv (.ref (tX_ad v 0) :: st) :=
  ts_get (w := tM_w v) X (by omega : 0 < 15) rfl rfl tw_X10 17 (by decide) kw_918 rfl rfl d k
theorem pf_X10_66 {g : ts_Ctx} {v : tX_V} {cc : ByteArray} {nL : Nat} {σ : ts_S} {pc : Nat} {lv : List (Nat × Value)} {st : List Value} {x : Int32} (X : ts_X g (tM_w v) cc nL RX10) (d : decode cc pc = .ok (.putfield 66, 3)) (k : ∀ σ1 : ts_S, σ1 = ts_u σ 0 17 x → ts_G g (tM_w v) nL σ1 (pc + 3) lv st) : ts_G g (tM_w v) nL σ pc lv (.int x :: .ref (tX_ad v 0) :: st) :=
  ts_put (w := tM_w v) X (by omega : 0 < 15) rfl rfl tw_X10 tyX10 tyX10_ok nmX10 17 (by decide) kw_918 rfl rfl (by decide +kernel) (Nat.le_of_ble_eq_true rfl) rfl d k
theorem gf_X10_34 {g : ts_Ctx} {v : tX_V} {cc : ByteArray} {nL : Nat} {σ : ts_S} {pc : Nat} {lv : List (Nat × Value)} {st : List Value} (X : ts_X g (tM_w v) cc nL RX10) (d : decode cc pc = .ok (.getfield 34, 3)) (k : ts_G g (tM_w v) nL σ (pc + 3) lv (.ref (tX_ad v 9) :: st)) : ts_G g (tM_w v) nL σ pc lv (.ref (tX_ad v 0) :: st) :=
  ts_get (w := tM_w v) X (by omega : 0 < 15) rfl rfl tw_X10 18 (by decide) kw_919 rfl rfl d k
theorem gf_X10_37 {g : ts_Ctx} {v : tX_V} {cc : ByteArray} {nL : Nat} {σ : ts_S} {pc : Nat} {lv : List (Nat × Value)} {st : List Value} (X : ts_X g (tM_w v) cc nL RX10) (d : decode cc pc = .ok (.getfield 37, 3)) (k : ts_G g (tM_w v) nL σ (pc + 3) lv (.ref (tX_ad v 10) :: st)) : ts_G g (tM_w v) nL σ pc lv (.ref (tX_ad v 0) :: st) :=
  ts_get (w := tM_w v) X (by omega : 0 < 15) rfl rfl tw_X10 19 (by decide) kw_920 rfl rfl d k
theorem gf_X10_70 {g : ts_Ctx} {v : tX_V} {cc : ByteArray} {nL : Nat} {σ : ts_S} {pc : Nat} {lv : List (Nat × Value)} {st : List Value} (X : ts_X g (tM_w v) cc nL RX10) (d : decode cc pc = .ok (.getfield 70, 3)) (k : ts_G g (tM_w v) nL σ (pc + 3) lv (.int (σ 0 20) :: st)) : ts_G g (tM_w v) nL σ pc lv (.ref (tX_ad v 0) :: st) :=
  ts_get (w := tM_w v) X (by omega : 0 < 15) rfl rfl tw_X10 20 (by decide) kw_921 rfl rfl d k
theorem pf_X10_70 {g : ts_Ctx} {v : tX_V} {cc : ByteArray} {nL : Nat} {σ : ts_S} {pc : Nat} {lv : List (Nat × Value)} {st : List Value} {x : Int32} (X : ts_X g (tM_w v) cc nL RX10) (d : decode cc pc = .ok (.putfield 70, 3)) (k : ∀ σ1 : ts_S, σ1 = ts_u σ 0 20 x → ts_G g (tM_w v) nL σ1 (pc + 3) lv st) : ts_G g (tM_w v) nL σ pc lv (.int x :: .ref (tX_ad v 0) :: st) :=
  ts_put (w := tM_w v) X (by omega : 0 < 15) rfl rfl tw_X10 tyX10 tyX10_ok nmX10 20 (by decide) kw_921 rfl rfl (by decide +kernel) (Nat.le_of_ble_eq_true rfl) rfl d k
theorem gf_X10_40 {g : ts_Ctx} {v : tX_V} {cc : ByteArray} {nL : Nat} {σ : ts_S} {pc : Nat} {lv : List (Nat × Value)} {st : List Value} (X : ts_X g (tM_w v) cc nL RX10) (d : decode cc pc = .ok (.getfield 40, 3)) (k : ts_G g (tM_w v) nL σ (pc + 3) lv (.ref (tX_ad v 11) :: st)) : ts_G g (tM_w v) nL σ pc lv (.ref (tX_ad v 0) :: st) :=
  ts_get (w := tM_w v) X (by omega : 0 < 15) rfl rfl tw_X10 21 (by decide) kw_922 rfl rfl d k
theorem gf_X10_43 {g : ts_Ctx} {v : tX_V} {cc : ByteArray} {nL : Nat} {σ : ts_S} {pc : Nat} {lv : List (Nat × Value)} {st : List Value} (X : ts_X g (tM_w v) cc nL RX10) (d : decode cc pc = .ok (.getfield 43, 3)) (k : ts_G g (tM_w v) nL σ (pc + 3) lv (.ref (tX_ad v 12) :: st)) : ts_G g (tM_w v) nL σ pc lv (.ref (tX_ad v 0) :: st) :=
  ts_get (w := tM_w v) X (by omega : 0 < 15) rfl rfl tw_X10 22 (by decide) kw_923 rfl rfl d k
theorem gf_X10_46 {g : ts_Ctx} {v : tX_V} {cc : ByteArray} {nL : Nat} {σ : ts_S} {pc : Nat} {lv : List (Nat × Value)} {st : List Value} (X : ts_X g (tM_w v) cc nL RX10) (d : decode cc pc = .ok (.getfield 46, 3)) (k : ts_G g (tM_w v) nL σ (pc + 3) lv (.ref (tX_ad v 13) :: st)) : ts_G g (tM_w v) nL σ pc lv (.ref (tX_ad v 0) :: st) :=
  ts_get (w := tM_w v) X (by omega : 0 < 15) rfl rfl tw_X10 23 (by decide) kw_924 rfl rfl d k
theorem gf_X10_49 {g : ts_Ctx} {v : tX_V} {cc : ByteArray} {nL : Nat} {σ : ts_S} {pc : Nat} {lv : List (Nat × Value)} {st : List Value} (X : ts_X g (tM_w v) cc nL RX10) (d : decode cc pc = .ok (.getfield 49, 3)) (k : ts_G g (tM_w v) nL σ (pc + 3) lv (.ref (tX_ad v 14) :: st)) : ts_G g (tM_w v) nL σ pc lv (.ref (tX_ad v 0) :: st) :=
  ts_get (w := tM_w v) X (by omega : 0 < 15) rfl rfl tw_X10 24 (by decide) kw_925 rfl rfl d k
theorem xi_ald {g : ts_Ctx} {v : tX_V} {cc : ByteArray} {nL : Nat} {σ : ts_S} {pc : Nat} {lv : List (Nat × Value)} {st : List Value} {own : String} {k n : Nat} {i : Int32} (X : ts_X g (tX_w v) cc nL own) (hA : tX_IA k n) (hin : vp_in i n) (d : decode cc pc = .ok (.iaload, 1)) (kk : ts_G g (tX_w v) nL σ (pc + 1) lv (.int (σ k i.toNatClampNeg) :: st)) : ts_G g (tX_w v) nL σ pc lv (.int i :: .ref (tX_ad v k) :: st) :=
  ts_iald (w := tX_w v) X hA.1 (hA.2.2 v) 0 rfl hin d kk
theorem xz_ald {g : ts_Ctx} {v : tX_V} {cc : ByteArray} {nL : Nat} {σ : ts_S} {pc : Nat} {lv : List (Nat × Value)} {st : List Value} {own : String} {k n : Nat} {i : Int32} (X : ts_X g (tX_w v) cc nL own) (hA : tX_ZA k n) (hin : vp_in i n) (d : decode cc pc = .ok (.baload, 1)) (kk : ts_G g (tX_w v) nL σ (pc + 1) lv (.int (σ k i.toNatClampNeg) :: st)) : ts_G g (tX_w v) nL σ pc lv (.int i :: .ref (tX_ad v k) :: st) :=
  ts_zald (w := tX_w v) X hA.1 (hA.2.2 v) 1 rfl hin d kk
theorem xc_ald {g : ts_Ctx} {v : tX_V} {cc : ByteArray} {nL : Nat} {σ : ts_S} {pc : Nat} {lv : List (Nat × Value)} {st : List Value} {own : String} {k n : Nat} {i : Int32} (X : ts_X g (tX_w v) cc nL own) (hA : tX_CA k n) (hin : vp_in i n) (d : decode cc pc = .ok (.caload, 1)) (kk : ts_G g (tX_w v) nL σ (pc + 1) lv (.int (σ k i.toNatClampNeg) :: st)) : ts_G g (tX_w v) nL σ pc lv (.int i :: .ref (tX_ad v k) :: st) :=
  ts_cald (w := tX_w v) X hA.1 (hA.2.2 v) 2 rfl hin d kk
theorem xi_ast {g : ts_Ctx} {v : tX_V} {cc : ByteArray} {nL : Nat} {σ : ts_S} {pc : Nat} {lv : List (Nat × Value)} {st : List Value} {own : String} {k n : Nat} {i x : Int32} (X : ts_X g (tX_w v) cc nL own) (hA : tX_IA k n) (hin : vp_in i n) (d : decode cc pc = .ok (.iastore, 1)) (kk : ∀ σ1 : ts_S, σ1 = ts_u σ k i.toNatClampNeg x → ts_G g (tX_w v) nL σ1 (pc + 1) lv st) : ts_G g (tX_w v) nL σ pc lv (.int x :: .int i :: .ref (tX_ad v k) :: st) :=
  ts_iast (w := tX_w v) X hA.1 (hA.2.2 v) 0 rfl hin d kk
theorem xz_ast {g : ts_Ctx} {v : tX_V} {cc : ByteArray} {nL : Nat} {σ : ts_S} {pc : Nat} {lv : List (Nat × Value)} {st : List Value} {own : String} {k n : Nat} {i x : Int32} (X : ts_X g (tX_w v) cc nL own) (hA : tX_ZA k n) (hin : vp_in i n) (d : decode cc pc = .ok (.bastore, 1)) (kk : ∀ σ1 : ts_S, σ1 = ts_u σ k i.toNatClampNeg (vp_nar .boolean x) → ts_G g (tX_w v) nL σ1 (pc + 1) lv st) : ts_G g (tX_w v) nL σ pc lv (.int x :: .int i :: .ref (tX_ad v k) :: st) :=
  ts_zast (w := tX_w v) X hA.1 (hA.2.2 v) 1 rfl hin d kk
theorem xc_ast {g : ts_Ctx} {v : tX_V} {cc : ByteArray} {nL : Nat} {σ : ts_S} {pc : Nat} {lv : List (Nat × Value)} {st : List Value} {own : String} {k n : Nat} {i x : Int32} (X : ts_X g (tX_w v) cc nL own) (hA : tX_CA k n) (hin : vp_in i n) (d : decode cc pc = .ok (.castore, 1)) (kk : ∀ σ1 : ts_S, σ1 = ts_u σ k i.toNatClampNeg (vp_nar .char x) → ts_G g (tX_w v) nL σ1 (pc + 1) lv st) : ts_G g (tX_w v) nL σ pc lv (.int x :: .int i :: .ref (tX_ad v k) :: st) :=
  ts_cast (w := tX_w v) X hA.1 (hA.2.2 v) 2 rfl hin d kk
theorem mi_ald {g : ts_Ctx} {v : tX_V} {cc : ByteArray} {nL : Nat} {σ : ts_S} {pc : Nat} {lv : List (Nat × Value)} {st : List Value} {own : String} {k n : Nat} {i : Int32} (X : ts_X g (tM_w v) cc nL own) (hA : tM_A k n) (hin : vp_in i n) (d : decode cc pc = .ok (.iaload, 1)) (kk : ts_G g (tM_w v) nL σ (pc + 1) lv (.int (σ k i.toNatClampNeg) :: st)) : ts_G g (tM_w v) nL σ pc lv (.int i :: .ref (tX_ad v k) :: st) :=
  ts_iald (w := tM_w v) X hA.1 (hA.2.2 v) 0 rfl hin d kk
theorem mi_ast {g : ts_Ctx} {v : tX_V} {cc : ByteArray} {nL : Nat} {σ : ts_S} {pc : Nat} {lv : List (Nat × Value)} {st : List Value} {own : String} {k n : Nat} {i x : Int32} (X : ts_X g (tM_w v) cc nL own) (hA : tM_A k n) (hin : vp_in i n) (d : decode cc pc = .ok (.iastore, 1)) (kk : ∀ σ1 : ts_S, σ1 = ts_u σ k i.toNatClampNeg x → ts_G g (tM_w v) nL σ1 (pc + 1) lv st) : ts_G g (tM_w v) nL σ pc lv (.int x :: .int i :: .ref (tX_ad v k) :: st) :=
  ts_iast (w := tM_w v) X hA.1 (hA.2.2 v) 0 rfl hin d kk
theorem xa_ald5 {g : ts_Ctx} {v : tX_V} {cc : ByteArray} {nL : Nat} {σ : ts_S} {pc : Nat} {lv : List (Nat × Value)} {st : List Value} {own : String} {i : Int32} (X : ts_X g (tX_w v) cc nL own) (hin : vp_in i 8) (d : decode cc pc = .ok (.aaload, 1)) (kk : ts_G g (tX_w v) nL σ (pc + 1) lv (.ref (tX_ad v (73 + 6 * i.toNatClampNeg)) :: st)) : ts_G g (tX_w v) nL σ pc lv (.int i :: .ref (tX_ad v 5) :: st) :=
  ts_aald (w := tX_w v) X (by omega : 5 < 151) rfl 3 rfl hin rfl d kk
theorem xa_ald6 {g : ts_Ctx} {v : tX_V} {cc : ByteArray} {nL : Nat} {σ : ts_S} {pc : Nat} {lv : List (Nat × Value)} {st : List Value} {own : String} {i : Int32} (X : ts_X g (tX_w v) cc nL own) (hin : vp_in i 2) (d : decode cc pc = .ok (.aaload, 1)) (kk : ts_G g (tX_w v) nL σ (pc + 1) lv (.ref (tX_ad v (61 + 6 * i.toNatClampNeg)) :: st)) : ts_G g (tX_w v) nL σ pc lv (.int i :: .ref (tX_ad v 6) :: st) :=
  ts_aald (w := tX_w v) X (by omega : 6 < 151) rfl 3 rfl hin rfl d kk
theorem xa_ald17 {g : ts_Ctx} {v : tX_V} {cc : ByteArray} {nL : Nat} {σ : ts_S} {pc : Nat} {lv : List (Nat × Value)} {st : List Value} {own : String} {i : Int32} (X : ts_X g (tX_w v) cc nL own) (hin : vp_in i 5) (d : decode cc pc = .ok (.aaload, 1)) (kk : ts_G g (tX_w v) nL σ (pc + 1) lv (.ref (tX_ad v (121 + 6 * i.toNatClampNeg)) :: st)) : ts_G g (tX_w v) nL σ pc lv (.int i :: .ref (tX_ad v 17) :: st) :=
  ts_aald (w := tX_w v) X (by omega : 17 < 151) rfl 3 rfl hin rfl d kk
end
section
theorem ts_le {a b n : Nat} (h : b = n) (h2 : a ≤ n) : a ≤ b := by omega
def ts_fz (f : Nat → Int32) (n : Nat) : Prop := ∀ i, i < n → fits .boolean (.int (f i)) = true
def ts_nes (x : Int32) : List Int32 → Prop
  | [] => True
  | k :: ks => (¬ x = k) ∧ ts_nes x ks
theorem ts_nes_mem {x : Int32} : ∀ {ks : List Int32}, ts_nes x ks → ∀ k ∈ ks, ¬ x = k
  | [], _, k, hk => by cases hk
  | a :: ks, h, k, hk => by
    rcases List.mem_cons.mp hk with rfl | hk
    · exact h.1
    · exact ts_nes_mem h.2 k hk
theorem ts_out {x : Int32} {lo hi : Int} (ks : List Int32) (h : ts_nes x ks) (hk : ks.map Int32.toInt = (List.range ks.length).map (fun i : Nat => lo + (i : Int)) ∧ lo + ks.length = hi + 1) : x.toInt < lo ∨ hi < x.toInt := by
  rcases Int.lt_or_le x.toInt lo with h1 | h1
  · exact Or.inl h1
  rcases Int.lt_or_le hi x.toInt with h2 | h2
  · exact Or.inr h2
  exfalso
  obtain ⟨i, hi0⟩ : ∃ i : Nat, x.toInt = lo + (i : Int) := ⟨(x.toInt - lo).toNat, by omega⟩
  have hlt : i < ks.length := by omega
  have e := congrArg (fun l => l[i]?) hk.1
  simp only [List.getElem?_map] at e
  rw [List.getElem?_eq_getElem hlt, List.getElem?_range hlt] at e
  simp only [Option.map_some, Option.some.injEq] at e
  exact ts_nes_mem h _ (List.getElem_mem hlt) (Int32.toInt_inj.mp (by rw [e, hi0]))
theorem xcp_I {g : ts_Ctx} {v : tX_V} {cc : ByteArray} {nL : Nat} {own : String} {σ : ts_S} {pc index : Nat} {lv : List (Nat × Value)} {st : List Value} {k0 k1 n0 n1 m : Nat} {n : Int32} (X : ts_X g (tX_w v) cc nL own) (hl : Cond.methodLink own index arraycopyName ∈ ts_TB) (hnat : Cond.native arraycopyName ∈ ts_TB) (hstat : Cond.static arraycopyName ∈ ts_TB) (hini : Cond.initialized "java/lang/System" ∈ ts_TB) (hA0 : tX_IA k0 n0) (hA1 : tX_IA k1 n1) (hm : n.toNatClampNeg = m) (h3 : ¬ n < 0) (h4 : m ≤ n0) (h5 : m ≤ n1) (hR : 1 ≤ g.2.2.2.1) (hw : (st.map fun v => v.category).sum ≤ 8) (d : decode cc pc = .ok (.invokestatic index, 3))
    (kk : ∀ σ1 : ts_S, σ1 = va_up σ k1 (va_cpy (σ k0) (σ k1) 0 0 m) → ts_G g (tX_w v) nL σ1 (pc + 3) lv st) : ts_G g (tX_w v) nL σ pc lv (.int n :: .int 0 :: .ref (tX_ad v k1) :: .int 0 :: .ref (tX_ad v k0) :: st) := by
  subst hm
  have z : (0 : Int32).toNatClampNeg = 0 := rfl
  exact ts_copy (w := tX_w v) (sp := 0) (dp := 0) X hl hnat hstat hini hA0.1 hA1.1 (hA0.2.2 v) (hA1.2.2 v) 0 0 rfl rfl rfl (by decide) (by decide) h3 (by rw [z]; omega) (by rw [z]; omega) (fun _ _ => rfl) hR hw d kk
theorem xcp_Z {g : ts_Ctx} {v : tX_V} {cc : ByteArray} {nL : Nat} {own : String} {σ : ts_S} {pc index : Nat} {lv : List (Nat × Value)} {st : List Value} {k0 k1 n0 n1 m : Nat} {n : Int32} (X : ts_X g (tX_w v) cc nL own) (hl : Cond.methodLink own index arraycopyName ∈ ts_TB) (hnat : Cond.native arraycopyName ∈ ts_TB) (hstat : Cond.static arraycopyName ∈ ts_TB) (hini : Cond.initialized "java/lang/System" ∈ ts_TB) (hA0 : tX_ZA k0 n0) (hA1 : tX_ZA k1 n1) (hm : n.toNatClampNeg = m) (h3 : ¬ n < 0) (h4 : m ≤ n0) (h5 : m ≤ n1) (hz : ts_fz (σ k0) m) (hR : 1 ≤ g.2.2.2.1) (hw : (st.map fun v => v.category).sum ≤ 8) (d : decode cc pc = .ok (.invokestatic index, 3))
    (kk : ∀ σ1 : ts_S, σ1 = va_up σ k1 (va_cpy (σ k0) (σ k1) 0 0 m) → ts_G g (tX_w v) nL σ1 (pc + 3) lv st) : ts_G g (tX_w v) nL σ pc lv (.int n :: .int 0 :: .ref (tX_ad v k1) :: .int 0 :: .ref (tX_ad v k0) :: st) := by
  subst hm
  have z : (0 : Int32).toNatClampNeg = 0 := rfl
  exact ts_copy (w := tX_w v) (sp := 0) (dp := 0) X hl hnat hstat hini hA0.1 hA1.1 (hA0.2.2 v) (hA1.2.2 v) 1 1 rfl rfl rfl (by decide) (by decide) h3 (by rw [z]; omega) (by rw [z]; omega) (fun i h => by rw [z, Nat.zero_add]; exact hz i h) hR hw d kk
end
