section
-- ===== PART A: goes FIRST, ahead of the names: the tables' words, and 'selects' of the private methods out of them =====
/-- a private method of a class that the tables say can be made, by its rows of tables_1 -/
def lw_okq (q : MethodName × Nat) : Prop := (q.1.cls ≠ "java/lang/invoke/MethodHandle" ∧ q.1.cls ≠ "java/lang/invoke/VarHandle") ∧ Cond.instantiable q.1.cls q.2 ∈ tables_1 ∧ Cond.privateMethod q.1 ∈ tables_1 ∧ Cond.instanceMethod q.1 ∈ tables_1
theorem lw_p0 : lw_okq (⟨"SwissRounds$Table", "wipe", "()V"⟩, 10) := ⟨⟨by decide +kernel, by decide +kernel⟩, List.mem_of_getElem? (i := 108) (by decide +kernel), List.mem_of_getElem? (i := 266) (by decide +kernel), List.mem_of_getElem? (i := 267) (by decide +kernel)⟩
theorem lw_p1 : lw_okq (⟨"SwissRounds$Table", "countRound", "(I)V"⟩, 10) := ⟨⟨by decide +kernel, by decide +kernel⟩, List.mem_of_getElem? (i := 108) (by decide +kernel), List.mem_of_getElem? (i := 275) (by decide +kernel), List.mem_of_getElem? (i := 276) (by decide +kernel)⟩
theorem lw_p2 : lw_okq (⟨"SwissRounds$Table", "countSide", "(III)V"⟩, 10) := ⟨⟨by decide +kernel, by decide +kernel⟩, List.mem_of_getElem? (i := 108) (by decide +kernel), List.mem_of_getElem? (i := 286) (by decide +kernel), List.mem_of_getElem? (i := 287) (by decide +kernel)⟩
theorem lw_p3 : lw_okq (⟨"SwissRounds$Table", "addTie", "(III)V"⟩, 10) := ⟨⟨by decide +kernel, by decide +kernel⟩, List.mem_of_getElem? (i := 108) (by decide +kernel), List.mem_of_getElem? (i := 306) (by decide +kernel), List.mem_of_getElem? (i := 307) (by decide +kernel)⟩
theorem lw_p4 : lw_okq (⟨"SwissRounds$Table", "countPlayed", "(III)V"⟩, 10) := ⟨⟨by decide +kernel, by decide +kernel⟩, List.mem_of_getElem? (i := 108) (by decide +kernel), List.mem_of_getElem? (i := 317) (by decide +kernel), List.mem_of_getElem? (i := 318) (by decide +kernel)⟩
theorem lw_p5 : lw_okq (⟨"SwissRounds$Table", "compareWithOpponents", "(I)V"⟩, 10) := ⟨⟨by decide +kernel, by decide +kernel⟩, List.mem_of_getElem? (i := 108) (by decide +kernel), List.mem_of_getElem? (i := 334) (by decide +kernel), List.mem_of_getElem? (i := 335) (by decide +kernel)⟩
theorem lw_p6 : lw_okq (⟨"SwissRounds$Table", "stand", "()V"⟩, 10) := ⟨⟨by decide +kernel, by decide +kernel⟩, List.mem_of_getElem? (i := 108) (by decide +kernel), List.mem_of_getElem? (i := 354) (by decide +kernel), List.mem_of_getElem? (i := 355) (by decide +kernel)⟩
theorem lw_p7 : lw_okq (⟨"SwissRounds$Table", "isAhead", "(II)Z"⟩, 10) := ⟨⟨by decide +kernel, by decide +kernel⟩, List.mem_of_getElem? (i := 108) (by decide +kernel), List.mem_of_getElem? (i := 358) (by decide +kernel), List.mem_of_getElem? (i := 359) (by decide +kernel)⟩
theorem lw_p8 : lw_okq (⟨"SwissRounds", "move", "(II)I"⟩, 8) := ⟨⟨by decide +kernel, by decide +kernel⟩, List.mem_of_getElem? (i := 17) (by decide +kernel), List.mem_of_getElem? (i := 370) (by decide +kernel), List.mem_of_getElem? (i := 371) (by decide +kernel)⟩
theorem lw_p9 : lw_okq (⟨"SwissRounds", "isPlayer", "(I)Z"⟩, 8) := ⟨⟨by decide +kernel, by decide +kernel⟩, List.mem_of_getElem? (i := 17) (by decide +kernel), List.mem_of_getElem? (i := 374) (by decide +kernel), List.mem_of_getElem? (i := 375) (by decide +kernel)⟩
theorem lw_p10 : lw_okq (⟨"SwissRounds", "areTwo", "(II)Z"⟩, 8) := ⟨⟨by decide +kernel, by decide +kernel⟩, List.mem_of_getElem? (i := 17) (by decide +kernel), List.mem_of_getElem? (i := 421) (by decide +kernel), List.mem_of_getElem? (i := 422) (by decide +kernel)⟩
theorem lw_p11 : lw_okq (⟨"SwissRounds$Pairing", "seatAll", "()V"⟩, 8) := ⟨⟨by decide +kernel, by decide +kernel⟩, List.mem_of_getElem? (i := 158) (by decide +kernel), List.mem_of_getElem? (i := 466) (by decide +kernel), List.mem_of_getElem? (i := 467) (by decide +kernel)⟩
theorem lw_p12 : lw_okq (⟨"SwissRounds$Pairing", "giveBye", "()V"⟩, 8) := ⟨⟨by decide +kernel, by decide +kernel⟩, List.mem_of_getElem? (i := 158) (by decide +kernel), List.mem_of_getElem? (i := 472) (by decide +kernel), List.mem_of_getElem? (i := 473) (by decide +kernel)⟩
theorem lw_p13 : lw_okq (⟨"SwissRounds$Pairing", "seatOfBye", "()I"⟩, 8) := ⟨⟨by decide +kernel, by decide +kernel⟩, List.mem_of_getElem? (i := 158) (by decide +kernel), List.mem_of_getElem? (i := 476) (by decide +kernel), List.mem_of_getElem? (i := 477) (by decide +kernel)⟩
theorem lw_p14 : lw_okq (⟨"SwissRounds$Pairing", "noteCosts", "()V"⟩, 8) := ⟨⟨by decide +kernel, by decide +kernel⟩, List.mem_of_getElem? (i := 158) (by decide +kernel), List.mem_of_getElem? (i := 480) (by decide +kernel), List.mem_of_getElem? (i := 481) (by decide +kernel)⟩
theorem lw_p15 : lw_okq (⟨"SwissRounds$Pairing", "wholeSet", "()I"⟩, 8) := ⟨⟨by decide +kernel, by decide +kernel⟩, List.mem_of_getElem? (i := 158) (by decide +kernel), List.mem_of_getElem? (i := 485) (by decide +kernel), List.mem_of_getElem? (i := 486) (by decide +kernel)⟩
def lw_privs_1 : List (MethodName × Nat) := [(⟨"SwissRounds$Table", "wipe", "()V"⟩, 10), (⟨"SwissRounds$Table", "countRound", "(I)V"⟩, 10), (⟨"SwissRounds$Table", "countSide", "(III)V"⟩, 10), (⟨"SwissRounds$Table", "addTie", "(III)V"⟩, 10), (⟨"SwissRounds$Table", "countPlayed", "(III)V"⟩, 10), (⟨"SwissRounds$Table", "compareWithOpponents", "(I)V"⟩, 10), (⟨"SwissRounds$Table", "stand", "()V"⟩, 10), (⟨"SwissRounds$Table", "isAhead", "(II)Z"⟩, 10), (⟨"SwissRounds", "move", "(II)I"⟩, 8), (⟨"SwissRounds", "isPlayer", "(I)Z"⟩, 8), (⟨"SwissRounds", "areTwo", "(II)Z"⟩, 8), (⟨"SwissRounds$Pairing", "seatAll", "()V"⟩, 8), (⟨"SwissRounds$Pairing", "giveBye", "()V"⟩, 8), (⟨"SwissRounds$Pairing", "seatOfBye", "()I"⟩, 8), (⟨"SwissRounds$Pairing", "noteCosts", "()V"⟩, 8), (⟨"SwissRounds$Pairing", "wholeSet", "()I"⟩, 8)]
theorem lw_r1 : ∀ q ∈ lw_privs_1, lw_okq q := List.forall_mem_cons.mpr ⟨lw_p0, List.forall_mem_cons.mpr ⟨lw_p1, List.forall_mem_cons.mpr ⟨lw_p2, List.forall_mem_cons.mpr ⟨lw_p3, List.forall_mem_cons.mpr ⟨lw_p4, List.forall_mem_cons.mpr ⟨lw_p5, List.forall_mem_cons.mpr ⟨lw_p6, List.forall_mem_cons.mpr ⟨lw_p7, List.forall_mem_cons.mpr ⟨lw_p8, List.forall_mem_cons.mpr ⟨lw_p9, List.forall_mem_cons.mpr ⟨lw_p10, List.forall_mem_cons.mpr ⟨lw_p11, List.forall_mem_cons.mpr ⟨lw_p12, List.forall_mem_cons.mpr ⟨lw_p13, List.forall_mem_cons.mpr ⟨lw_p14, List.forall_mem_cons.mpr ⟨lw_p15, fun _ h => absurd h List.not_mem_nil⟩⟩⟩⟩⟩⟩⟩⟩⟩⟩⟩⟩⟩⟩⟩⟩
theorem lw_p16 : lw_okq (⟨"SwissRounds$Pairing", "isReached", "(I)Z"⟩, 8) := ⟨⟨by decide +kernel, by decide +kernel⟩, List.mem_of_getElem? (i := 158) (by decide +kernel), List.mem_of_getElem? (i := 489) (by decide +kernel), List.mem_of_getElem? (i := 490) (by decide +kernel)⟩
theorem lw_p17 : lw_okq (⟨"SwissRounds$Pairing", "weigh", "(I)V"⟩, 8) := ⟨⟨by decide +kernel, by decide +kernel⟩, List.mem_of_getElem? (i := 158) (by decide +kernel), List.mem_of_getElem? (i := 502) (by decide +kernel), List.mem_of_getElem? (i := 503) (by decide +kernel)⟩
theorem lw_p18 : lw_okq (⟨"SwissRounds$Pairing", "sumWith", "(III)I"⟩, 8) := ⟨⟨by decide +kernel, by decide +kernel⟩, List.mem_of_getElem? (i := 158) (by decide +kernel), List.mem_of_getElem? (i := 506) (by decide +kernel), List.mem_of_getElem? (i := 507) (by decide +kernel)⟩
theorem lw_p19 : lw_okq (⟨"SwissRounds$Pairing", "earliestMate", "(I)I"⟩, 8) := ⟨⟨by decide +kernel, by decide +kernel⟩, List.mem_of_getElem? (i := 158) (by decide +kernel), List.mem_of_getElem? (i := 526) (by decide +kernel), List.mem_of_getElem? (i := 527) (by decide +kernel)⟩
theorem lw_p20 : lw_okq (⟨"SwissRounds$Pairing", "seatBoard", "(III)V"⟩, 8) := ⟨⟨by decide +kernel, by decide +kernel⟩, List.mem_of_getElem? (i := 158) (by decide +kernel), List.mem_of_getElem? (i := 530) (by decide +kernel), List.mem_of_getElem? (i := 531) (by decide +kernel)⟩
theorem lw_p21 : lw_okq (⟨"SwissRounds$Pairing", "hasWhite", "(III)Z"⟩, 8) := ⟨⟨by decide +kernel, by decide +kernel⟩, List.mem_of_getElem? (i := 158) (by decide +kernel), List.mem_of_getElem? (i := 534) (by decide +kernel), List.mem_of_getElem? (i := 535) (by decide +kernel)⟩
theorem lw_p22 : lw_okq (⟨"SwissRounds", "isRound", "(I)Z"⟩, 8) := ⟨⟨by decide +kernel, by decide +kernel⟩, List.mem_of_getElem? (i := 17) (by decide +kernel), List.mem_of_getElem? (i := 559) (by decide +kernel), List.mem_of_getElem? (i := 560) (by decide +kernel)⟩
theorem lw_p23 : lw_okq (⟨"SwissRounds", "pointsMade", "(III)I"⟩, 8) := ⟨⟨by decide +kernel, by decide +kernel⟩, List.mem_of_getElem? (i := 17) (by decide +kernel), List.mem_of_getElem? (i := 595) (by decide +kernel), List.mem_of_getElem? (i := 596) (by decide +kernel)⟩
theorem lw_p24 : lw_okq (⟨"SwissRounds", "readResults", "()I"⟩, 8) := ⟨⟨by decide +kernel, by decide +kernel⟩, List.mem_of_getElem? (i := 17) (by decide +kernel), List.mem_of_getElem? (i := 629) (by decide +kernel), List.mem_of_getElem? (i := 630) (by decide +kernel)⟩
theorem lw_p25 : lw_okq (⟨"SwissRounds", "faultOfResults", "(I)I"⟩, 8) := ⟨⟨by decide +kernel, by decide +kernel⟩, List.mem_of_getElem? (i := 17) (by decide +kernel), List.mem_of_getElem? (i := 633) (by decide +kernel), List.mem_of_getElem? (i := 634) (by decide +kernel)⟩
theorem lw_p26 : lw_okq (⟨"SwissRounds", "faultOfOrder", "()I"⟩, 8) := ⟨⟨by decide +kernel, by decide +kernel⟩, List.mem_of_getElem? (i := 17) (by decide +kernel), List.mem_of_getElem? (i := 730) (by decide +kernel), List.mem_of_getElem? (i := 731) (by decide +kernel)⟩
theorem lw_p27 : lw_okq (⟨"SwissRounds", "readOrder", "()V"⟩, 8) := ⟨⟨by decide +kernel, by decide +kernel⟩, List.mem_of_getElem? (i := 17) (by decide +kernel), List.mem_of_getElem? (i := 735) (by decide +kernel), List.mem_of_getElem? (i := 736) (by decide +kernel)⟩
theorem lw_p28 : lw_okq (⟨"SwissRounds", "writeHalved", "(I)V"⟩, 8) := ⟨⟨by decide +kernel, by decide +kernel⟩, List.mem_of_getElem? (i := 17) (by decide +kernel), List.mem_of_getElem? (i := 752) (by decide +kernel), List.mem_of_getElem? (i := 753) (by decide +kernel)⟩
theorem lw_p29 : lw_okq (⟨"SwissRounds", "writeRound", "(II)V"⟩, 8) := ⟨⟨by decide +kernel, by decide +kernel⟩, List.mem_of_getElem? (i := 17) (by decide +kernel), List.mem_of_getElem? (i := 756) (by decide +kernel), List.mem_of_getElem? (i := 757) (by decide +kernel)⟩
theorem lw_p30 : lw_okq (⟨"SwissRounds", "refusalOfList", "(I)I"⟩, 8) := ⟨⟨by decide +kernel, by decide +kernel⟩, List.mem_of_getElem? (i := 17) (by decide +kernel), List.mem_of_getElem? (i := 800) (by decide +kernel), List.mem_of_getElem? (i := 801) (by decide +kernel)⟩
theorem lw_p31 : lw_okq (⟨"SwissRoundsModel", "wrongPairing", "()I"⟩, 33) := ⟨⟨by decide +kernel, by decide +kernel⟩, List.mem_of_getElem? (i := 848) (by decide +kernel), List.mem_of_getElem? (i := 959) (by decide +kernel), List.mem_of_getElem? (i := 960) (by decide +kernel)⟩
def lw_privs_2 : List (MethodName × Nat) := [(⟨"SwissRounds$Pairing", "isReached", "(I)Z"⟩, 8), (⟨"SwissRounds$Pairing", "weigh", "(I)V"⟩, 8), (⟨"SwissRounds$Pairing", "sumWith", "(III)I"⟩, 8), (⟨"SwissRounds$Pairing", "earliestMate", "(I)I"⟩, 8), (⟨"SwissRounds$Pairing", "seatBoard", "(III)V"⟩, 8), (⟨"SwissRounds$Pairing", "hasWhite", "(III)Z"⟩, 8), (⟨"SwissRounds", "isRound", "(I)Z"⟩, 8), (⟨"SwissRounds", "pointsMade", "(III)I"⟩, 8), (⟨"SwissRounds", "readResults", "()I"⟩, 8), (⟨"SwissRounds", "faultOfResults", "(I)I"⟩, 8), (⟨"SwissRounds", "faultOfOrder", "()I"⟩, 8), (⟨"SwissRounds", "readOrder", "()V"⟩, 8), (⟨"SwissRounds", "writeHalved", "(I)V"⟩, 8), (⟨"SwissRounds", "writeRound", "(II)V"⟩, 8), (⟨"SwissRounds", "refusalOfList", "(I)I"⟩, 8), (⟨"SwissRoundsModel", "wrongPairing", "()I"⟩, 33)]
theorem lw_r2 : ∀ q ∈ lw_privs_2, lw_okq q := List.forall_mem_cons.mpr ⟨lw_p16, List.forall_mem_cons.mpr ⟨lw_p17, List.forall_mem_cons.mpr ⟨lw_p18, List.forall_mem_cons.mpr ⟨lw_p19, List.forall_mem_cons.mpr ⟨lw_p20, List.forall_mem_cons.mpr ⟨lw_p21, List.forall_mem_cons.mpr ⟨lw_p22, List.forall_mem_cons.mpr ⟨lw_p23, List.forall_mem_cons.mpr ⟨lw_p24, List.forall_mem_cons.mpr ⟨lw_p25, List.forall_mem_cons.mpr ⟨lw_p26, List.forall_mem_cons.mpr ⟨lw_p27, List.forall_mem_cons.mpr ⟨lw_p28, List.forall_mem_cons.mpr ⟨lw_p29, List.forall_mem_cons.mpr ⟨lw_p30, List.forall_mem_cons.mpr ⟨lw_p31, fun _ h => absurd h List.not_mem_nil⟩⟩⟩⟩⟩⟩⟩⟩⟩⟩⟩⟩⟩⟩⟩⟩
theorem lw_p32 : lw_okq (⟨"SwissRoundsModel", "manyIn", "()I"⟩, 33) := ⟨⟨by decide +kernel, by decide +kernel⟩, List.mem_of_getElem? (i := 848) (by decide +kernel), List.mem_of_getElem? (i := 963) (by decide +kernel), List.mem_of_getElem? (i := 964) (by decide +kernel)⟩
theorem lw_p33 : lw_okq (⟨"SwissRoundsModel", "layBests", "()V"⟩, 33) := ⟨⟨by decide +kernel, by decide +kernel⟩, List.mem_of_getElem? (i := 848) (by decide +kernel), List.mem_of_getElem? (i := 967) (by decide +kernel), List.mem_of_getElem? (i := 968) (by decide +kernel)⟩
theorem lw_p34 : lw_okq (⟨"SwissRoundsModel", "layPlaces", "()V"⟩, 33) := ⟨⟨by decide +kernel, by decide +kernel⟩, List.mem_of_getElem? (i := 848) (by decide +kernel), List.mem_of_getElem? (i := 971) (by decide +kernel), List.mem_of_getElem? (i := 972) (by decide +kernel)⟩
theorem lw_p35 : lw_okq (⟨"SwissRoundsModel", "layStanding", "()V"⟩, 33) := ⟨⟨by decide +kernel, by decide +kernel⟩, List.mem_of_getElem? (i := 848) (by decide +kernel), List.mem_of_getElem? (i := 975) (by decide +kernel), List.mem_of_getElem? (i := 976) (by decide +kernel)⟩
theorem lw_p36 : lw_okq (⟨"SwissRoundsModel", "tieOf", "(II)I"⟩, 33) := ⟨⟨by decide +kernel, by decide +kernel⟩, List.mem_of_getElem? (i := 848) (by decide +kernel), List.mem_of_getElem? (i := 979) (by decide +kernel), List.mem_of_getElem? (i := 980) (by decide +kernel)⟩
theorem lw_p37 : lw_okq (⟨"SwissRoundsModel", "pointsOf", "(I)I"⟩, 33) := ⟨⟨by decide +kernel, by decide +kernel⟩, List.mem_of_getElem? (i := 848) (by decide +kernel), List.mem_of_getElem? (i := 983) (by decide +kernel), List.mem_of_getElem? (i := 984) (by decide +kernel)⟩
theorem lw_p38 : lw_okq (⟨"SwissRoundsModel", "done", "()I"⟩, 33) := ⟨⟨by decide +kernel, by decide +kernel⟩, List.mem_of_getElem? (i := 848) (by decide +kernel), List.mem_of_getElem? (i := 987) (by decide +kernel), List.mem_of_getElem? (i := 988) (by decide +kernel)⟩
theorem lw_p39 : lw_okq (⟨"SwissRoundsModel", "pointsBehind", "(II)I"⟩, 33) := ⟨⟨by decide +kernel, by decide +kernel⟩, List.mem_of_getElem? (i := 848) (by decide +kernel), List.mem_of_getElem? (i := 991) (by decide +kernel), List.mem_of_getElem? (i := 992) (by decide +kernel)⟩
theorem lw_p40 : lw_okq (⟨"SwissRoundsModel", "madeIn", "(II)I"⟩, 33) := ⟨⟨by decide +kernel, by decide +kernel⟩, List.mem_of_getElem? (i := 848) (by decide +kernel), List.mem_of_getElem? (i := 995) (by decide +kernel), List.mem_of_getElem? (i := 996) (by decide +kernel)⟩
theorem lw_p41 : lw_okq (⟨"SwissRoundsModel", "boardOf", "(II)I"⟩, 33) := ⟨⟨by decide +kernel, by decide +kernel⟩, List.mem_of_getElem? (i := 848) (by decide +kernel), List.mem_of_getElem? (i := 999) (by decide +kernel), List.mem_of_getElem? (i := 1000) (by decide +kernel)⟩
theorem lw_p42 : lw_okq (⟨"SwissRoundsModel", "madeOn", "(II)I"⟩, 33) := ⟨⟨by decide +kernel, by decide +kernel⟩, List.mem_of_getElem? (i := 848) (by decide +kernel), List.mem_of_getElem? (i := 1003) (by decide +kernel), List.mem_of_getElem? (i := 1004) (by decide +kernel)⟩
theorem lw_p43 : lw_okq (⟨"SwissRoundsModel", "opponentsOf", "(IZ)I"⟩, 33) := ⟨⟨by decide +kernel, by decide +kernel⟩, List.mem_of_getElem? (i := 848) (by decide +kernel), List.mem_of_getElem? (i := 1007) (by decide +kernel), List.mem_of_getElem? (i := 1008) (by decide +kernel)⟩
theorem lw_p44 : lw_okq (⟨"SwissRoundsModel", "playedIn", "(II)I"⟩, 33) := ⟨⟨by decide +kernel, by decide +kernel⟩, List.mem_of_getElem? (i := 848) (by decide +kernel), List.mem_of_getElem? (i := 1012) (by decide +kernel), List.mem_of_getElem? (i := 1013) (by decide +kernel)⟩
theorem lw_p45 : lw_okq (⟨"SwissRoundsModel", "otherOn", "(II)I"⟩, 33) := ⟨⟨by decide +kernel, by decide +kernel⟩, List.mem_of_getElem? (i := 848) (by decide +kernel), List.mem_of_getElem? (i := 1020) (by decide +kernel), List.mem_of_getElem? (i := 1021) (by decide +kernel)⟩
theorem lw_p46 : lw_okq (⟨"SwissRoundsModel", "beatenOf", "(I)I"⟩, 33) := ⟨⟨by decide +kernel, by decide +kernel⟩, List.mem_of_getElem? (i := 848) (by decide +kernel), List.mem_of_getElem? (i := 1024) (by decide +kernel), List.mem_of_getElem? (i := 1025) (by decide +kernel)⟩
theorem lw_p47 : lw_okq (⟨"SwissRoundsModel", "winsOf", "(I)I"⟩, 33) := ⟨⟨by decide +kernel, by decide +kernel⟩, List.mem_of_getElem? (i := 848) (by decide +kernel), List.mem_of_getElem? (i := 1028) (by decide +kernel), List.mem_of_getElem? (i := 1029) (by decide +kernel)⟩
def lw_privs_3 : List (MethodName × Nat) := [(⟨"SwissRoundsModel", "manyIn", "()I"⟩, 33), (⟨"SwissRoundsModel", "layBests", "()V"⟩, 33), (⟨"SwissRoundsModel", "layPlaces", "()V"⟩, 33), (⟨"SwissRoundsModel", "layStanding", "()V"⟩, 33), (⟨"SwissRoundsModel", "tieOf", "(II)I"⟩, 33), (⟨"SwissRoundsModel", "pointsOf", "(I)I"⟩, 33), (⟨"SwissRoundsModel", "done", "()I"⟩, 33), (⟨"SwissRoundsModel", "pointsBehind", "(II)I"⟩, 33), (⟨"SwissRoundsModel", "madeIn", "(II)I"⟩, 33), (⟨"SwissRoundsModel", "boardOf", "(II)I"⟩, 33), (⟨"SwissRoundsModel", "madeOn", "(II)I"⟩, 33), (⟨"SwissRoundsModel", "opponentsOf", "(IZ)I"⟩, 33), (⟨"SwissRoundsModel", "playedIn", "(II)I"⟩, 33), (⟨"SwissRoundsModel", "otherOn", "(II)I"⟩, 33), (⟨"SwissRoundsModel", "beatenOf", "(I)I"⟩, 33), (⟨"SwissRoundsModel", "winsOf", "(I)I"⟩, 33)]
theorem lw_r3 : ∀ q ∈ lw_privs_3, lw_okq q := List.forall_mem_cons.mpr ⟨lw_p32, List.forall_mem_cons.mpr ⟨lw_p33, List.forall_mem_cons.mpr ⟨lw_p34, List.forall_mem_cons.mpr ⟨lw_p35, List.forall_mem_cons.mpr ⟨lw_p36, List.forall_mem_cons.mpr ⟨lw_p37, List.forall_mem_cons.mpr ⟨lw_p38, List.forall_mem_cons.mpr ⟨lw_p39, List.forall_mem_cons.mpr ⟨lw_p40, List.forall_mem_cons.mpr ⟨lw_p41, List.forall_mem_cons.mpr ⟨lw_p42, List.forall_mem_cons.mpr ⟨lw_p43, List.forall_mem_cons.mpr ⟨lw_p44, List.forall_mem_cons.mpr ⟨lw_p45, List.forall_mem_cons.mpr ⟨lw_p46, List.forall_mem_cons.mpr ⟨lw_p47, fun _ h => absurd h List.not_mem_nil⟩⟩⟩⟩⟩⟩⟩⟩⟩⟩⟩⟩⟩⟩⟩⟩
theorem lw_p48 : lw_okq (⟨"SwissRoundsModel", "blacksOf", "(I)I"⟩, 33) := ⟨⟨by decide +kernel, by decide +kernel⟩, List.mem_of_getElem? (i := 848) (by decide +kernel), List.mem_of_getElem? (i := 1032) (by decide +kernel), List.mem_of_getElem? (i := 1033) (by decide +kernel)⟩
theorem lw_p49 : lw_okq (⟨"SwissRoundsModel", "growthOf", "(I)I"⟩, 33) := ⟨⟨by decide +kernel, by decide +kernel⟩, List.mem_of_getElem? (i := 848) (by decide +kernel), List.mem_of_getElem? (i := 1036) (by decide +kernel), List.mem_of_getElem? (i := 1037) (by decide +kernel)⟩
theorem lw_p50 : lw_okq (⟨"SwissRoundsModel", "directOf", "(I)I"⟩, 33) := ⟨⟨by decide +kernel, by decide +kernel⟩, List.mem_of_getElem? (i := 848) (by decide +kernel), List.mem_of_getElem? (i := 1040) (by decide +kernel), List.mem_of_getElem? (i := 1041) (by decide +kernel)⟩
theorem lw_p51 : lw_okq (⟨"SwissRoundsModel", "aheadOf", "(I)I"⟩, 33) := ⟨⟨by decide +kernel, by decide +kernel⟩, List.mem_of_getElem? (i := 848) (by decide +kernel), List.mem_of_getElem? (i := 1044) (by decide +kernel), List.mem_of_getElem? (i := 1045) (by decide +kernel)⟩
theorem lw_p52 : lw_okq (⟨"SwissRoundsModel", "isAhead", "(II)Z"⟩, 33) := ⟨⟨by decide +kernel, by decide +kernel⟩, List.mem_of_getElem? (i := 848) (by decide +kernel), List.mem_of_getElem? (i := 1048) (by decide +kernel), List.mem_of_getElem? (i := 1049) (by decide +kernel)⟩
theorem lw_p53 : lw_okq (⟨"SwissRoundsModel", "differsIn", "(II)I"⟩, 33) := ⟨⟨by decide +kernel, by decide +kernel⟩, List.mem_of_getElem? (i := 848) (by decide +kernel), List.mem_of_getElem? (i := 1052) (by decide +kernel), List.mem_of_getElem? (i := 1053) (by decide +kernel)⟩
theorem lw_p54 : lw_okq (⟨"SwissRoundsModel", "layBye", "()V"⟩, 33) := ⟨⟨by decide +kernel, by decide +kernel⟩, List.mem_of_getElem? (i := 848) (by decide +kernel), List.mem_of_getElem? (i := 1056) (by decide +kernel), List.mem_of_getElem? (i := 1057) (by decide +kernel)⟩
theorem lw_p55 : lw_okq (⟨"SwissRoundsModel", "byesOf", "(I)I"⟩, 33) := ⟨⟨by decide +kernel, by decide +kernel⟩, List.mem_of_getElem? (i := 848) (by decide +kernel), List.mem_of_getElem? (i := 1060) (by decide +kernel), List.mem_of_getElem? (i := 1061) (by decide +kernel)⟩
theorem lw_p56 : lw_okq (⟨"SwissRoundsModel", "forfeitsOf", "(I)I"⟩, 33) := ⟨⟨by decide +kernel, by decide +kernel⟩, List.mem_of_getElem? (i := 848) (by decide +kernel), List.mem_of_getElem? (i := 1064) (by decide +kernel), List.mem_of_getElem? (i := 1065) (by decide +kernel)⟩
theorem lw_p57 : lw_okq (⟨"SwissRoundsModel", "metIn", "(II)I"⟩, 33) := ⟨⟨by decide +kernel, by decide +kernel⟩, List.mem_of_getElem? (i := 848) (by decide +kernel), List.mem_of_getElem? (i := 1068) (by decide +kernel), List.mem_of_getElem? (i := 1069) (by decide +kernel)⟩
theorem lw_p58 : lw_okq (⟨"SwissRoundsModel", "costOf", "(II)I"⟩, 33) := ⟨⟨by decide +kernel, by decide +kernel⟩, List.mem_of_getElem? (i := 848) (by decide +kernel), List.mem_of_getElem? (i := 1072) (by decide +kernel), List.mem_of_getElem? (i := 1073) (by decide +kernel)⟩
theorem lw_p59 : lw_okq (⟨"SwissRoundsModel", "balanceOf", "(I)I"⟩, 33) := ⟨⟨by decide +kernel, by decide +kernel⟩, List.mem_of_getElem? (i := 848) (by decide +kernel), List.mem_of_getElem? (i := 1076) (by decide +kernel), List.mem_of_getElem? (i := 1077) (by decide +kernel)⟩
theorem lw_p60 : lw_okq (⟨"SwissRoundsModel", "playedMany", "(I)I"⟩, 33) := ⟨⟨by decide +kernel, by decide +kernel⟩, List.mem_of_getElem? (i := 848) (by decide +kernel), List.mem_of_getElem? (i := 1080) (by decide +kernel), List.mem_of_getElem? (i := 1081) (by decide +kernel)⟩
theorem lw_p61 : lw_okq (⟨"SwissRoundsModel", "latestOf", "(I)I"⟩, 33) := ⟨⟨by decide +kernel, by decide +kernel⟩, List.mem_of_getElem? (i := 848) (by decide +kernel), List.mem_of_getElem? (i := 1084) (by decide +kernel), List.mem_of_getElem? (i := 1085) (by decide +kernel)⟩
theorem lw_p62 : lw_okq (⟨"SwissRoundsModel", "earliestWith", "(I)I"⟩, 33) := ⟨⟨by decide +kernel, by decide +kernel⟩, List.mem_of_getElem? (i := 848) (by decide +kernel), List.mem_of_getElem? (i := 1091) (by decide +kernel), List.mem_of_getElem? (i := 1092) (by decide +kernel)⟩
theorem lw_p63 : lw_okq (⟨"SwissRoundsModel", "putBoard", "(III)V"⟩, 33) := ⟨⟨by decide +kernel, by decide +kernel⟩, List.mem_of_getElem? (i := 848) (by decide +kernel), List.mem_of_getElem? (i := 1095) (by decide +kernel), List.mem_of_getElem? (i := 1096) (by decide +kernel)⟩
def lw_privs_4 : List (MethodName × Nat) := [(⟨"SwissRoundsModel", "blacksOf", "(I)I"⟩, 33), (⟨"SwissRoundsModel", "growthOf", "(I)I"⟩, 33), (⟨"SwissRoundsModel", "directOf", "(I)I"⟩, 33), (⟨"SwissRoundsModel", "aheadOf", "(I)I"⟩, 33), (⟨"SwissRoundsModel", "isAhead", "(II)Z"⟩, 33), (⟨"SwissRoundsModel", "differsIn", "(II)I"⟩, 33), (⟨"SwissRoundsModel", "layBye", "()V"⟩, 33), (⟨"SwissRoundsModel", "byesOf", "(I)I"⟩, 33), (⟨"SwissRoundsModel", "forfeitsOf", "(I)I"⟩, 33), (⟨"SwissRoundsModel", "metIn", "(II)I"⟩, 33), (⟨"SwissRoundsModel", "costOf", "(II)I"⟩, 33), (⟨"SwissRoundsModel", "balanceOf", "(I)I"⟩, 33), (⟨"SwissRoundsModel", "playedMany", "(I)I"⟩, 33), (⟨"SwissRoundsModel", "latestOf", "(I)I"⟩, 33), (⟨"SwissRoundsModel", "earliestWith", "(I)I"⟩, 33), (⟨"SwissRoundsModel", "putBoard", "(III)V"⟩, 33)]
theorem lw_r4 : ∀ q ∈ lw_privs_4, lw_okq q := List.forall_mem_cons.mpr ⟨lw_p48, List.forall_mem_cons.mpr ⟨lw_p49, List.forall_mem_cons.mpr ⟨lw_p50, List.forall_mem_cons.mpr ⟨lw_p51, List.forall_mem_cons.mpr ⟨lw_p52, List.forall_mem_cons.mpr ⟨lw_p53, List.forall_mem_cons.mpr ⟨lw_p54, List.forall_mem_cons.mpr ⟨lw_p55, List.forall_mem_cons.mpr ⟨lw_p56, List.forall_mem_cons.mpr ⟨lw_p57, List.forall_mem_cons.mpr ⟨lw_p58, List.forall_mem_cons.mpr ⟨lw_p59, List.forall_mem_cons.mpr ⟨lw_p60, List.forall_mem_cons.mpr ⟨lw_p61, List.forall_mem_cons.mpr ⟨lw_p62, List.forall_mem_cons.mpr ⟨lw_p63, fun _ h => absurd h List.not_mem_nil⟩⟩⟩⟩⟩⟩⟩⟩⟩⟩⟩⟩⟩⟩⟩⟩
theorem lw_p64 : lw_okq (⟨"SwissRoundsModel", "isWhite", "(III)Z"⟩, 33) := ⟨⟨by decide +kernel, by decide +kernel⟩, List.mem_of_getElem? (i := 848) (by decide +kernel), List.mem_of_getElem? (i := 1099) (by decide +kernel), List.mem_of_getElem? (i := 1100) (by decide +kernel)⟩
theorem lw_p65 : lw_okq (⟨"SwissRoundsModel", "isPlayer", "(I)Z"⟩, 33) := ⟨⟨by decide +kernel, by decide +kernel⟩, List.mem_of_getElem? (i := 848) (by decide +kernel), List.mem_of_getElem? (i := 1120) (by decide +kernel), List.mem_of_getElem? (i := 1121) (by decide +kernel)⟩
theorem lw_p66 : lw_okq (⟨"SwissRoundsModel", "areTwo", "(II)Z"⟩, 33) := ⟨⟨by decide +kernel, by decide +kernel⟩, List.mem_of_getElem? (i := 848) (by decide +kernel), List.mem_of_getElem? (i := 1153) (by decide +kernel), List.mem_of_getElem? (i := 1154) (by decide +kernel)⟩
theorem lw_p67 : lw_okq (⟨"SwissRoundsModel", "withResult", "()I"⟩, 33) := ⟨⟨by decide +kernel, by decide +kernel⟩, List.mem_of_getElem? (i := 848) (by decide +kernel), List.mem_of_getElem? (i := 1202) (by decide +kernel), List.mem_of_getElem? (i := 1203) (by decide +kernel)⟩
theorem lw_p68 : lw_okq (⟨"SwissRoundsModel", "isAgain", "(I)Z"⟩, 33) := ⟨⟨by decide +kernel, by decide +kernel⟩, List.mem_of_getElem? (i := 848) (by decide +kernel), List.mem_of_getElem? (i := 1237) (by decide +kernel), List.mem_of_getElem? (i := 1238) (by decide +kernel)⟩
theorem lw_p69 : lw_okq (⟨"SwissRoundsModel", "writesNumber", "(I)V"⟩, 33) := ⟨⟨by decide +kernel, by decide +kernel⟩, List.mem_of_getElem? (i := 848) (by decide +kernel), List.mem_of_getElem? (i := 1249) (by decide +kernel), List.mem_of_getElem? (i := 1250) (by decide +kernel)⟩
theorem lw_p70 : lw_okq (⟨"SwissRoundsModel", "writes", "(I)V"⟩, 33) := ⟨⟨by decide +kernel, by decide +kernel⟩, List.mem_of_getElem? (i := 848) (by decide +kernel), List.mem_of_getElem? (i := 1253) (by decide +kernel), List.mem_of_getElem? (i := 1254) (by decide +kernel)⟩
theorem lw_p71 : lw_okq (⟨"SwissRoundsModel", "writesRound", "(II)V"⟩, 33) := ⟨⟨by decide +kernel, by decide +kernel⟩, List.mem_of_getElem? (i := 848) (by decide +kernel), List.mem_of_getElem? (i := 1257) (by decide +kernel), List.mem_of_getElem? (i := 1258) (by decide +kernel)⟩
theorem lw_p72 : lw_okq (⟨"SwissRoundsModel", "metTwos", "()I"⟩, 33) := ⟨⟨by decide +kernel, by decide +kernel⟩, List.mem_of_getElem? (i := 848) (by decide +kernel), List.mem_of_getElem? (i := 1269) (by decide +kernel), List.mem_of_getElem? (i := 1270) (by decide +kernel)⟩
theorem lw_p73 : lw_okq (⟨"SwissRoundsModel", "allPoints", "()I"⟩, 33) := ⟨⟨by decide +kernel, by decide +kernel⟩, List.mem_of_getElem? (i := 848) (by decide +kernel), List.mem_of_getElem? (i := 1273) (by decide +kernel), List.mem_of_getElem? (i := 1274) (by decide +kernel)⟩
theorem lw_p74 : lw_okq (⟨"SwissRoundsModel", "carryAll", "(Z)V"⟩, 33) := ⟨⟨by decide +kernel, by decide +kernel⟩, List.mem_of_getElem? (i := 848) (by decide +kernel), List.mem_of_getElem? (i := 1305) (by decide +kernel), List.mem_of_getElem? (i := 1306) (by decide +kernel)⟩
theorem lw_p75 : lw_okq (⟨"SwissRoundsModel", "carry", "(I)I"⟩, 33) := ⟨⟨by decide +kernel, by decide +kernel⟩, List.mem_of_getElem? (i := 848) (by decide +kernel), List.mem_of_getElem? (i := 1309) (by decide +kernel), List.mem_of_getElem? (i := 1310) (by decide +kernel)⟩
def lw_privs_5 : List (MethodName × Nat) := [(⟨"SwissRoundsModel", "isWhite", "(III)Z"⟩, 33), (⟨"SwissRoundsModel", "isPlayer", "(I)Z"⟩, 33), (⟨"SwissRoundsModel", "areTwo", "(II)Z"⟩, 33), (⟨"SwissRoundsModel", "withResult", "()I"⟩, 33), (⟨"SwissRoundsModel", "isAgain", "(I)Z"⟩, 33), (⟨"SwissRoundsModel", "writesNumber", "(I)V"⟩, 33), (⟨"SwissRoundsModel", "writes", "(I)V"⟩, 33), (⟨"SwissRoundsModel", "writesRound", "(II)V"⟩, 33), (⟨"SwissRoundsModel", "metTwos", "()I"⟩, 33), (⟨"SwissRoundsModel", "allPoints", "()I"⟩, 33), (⟨"SwissRoundsModel", "carryAll", "(Z)V"⟩, 33), (⟨"SwissRoundsModel", "carry", "(I)I"⟩, 33)]
theorem lw_r5 : ∀ q ∈ lw_privs_5, lw_okq q := List.forall_mem_cons.mpr ⟨lw_p64, List.forall_mem_cons.mpr ⟨lw_p65, List.forall_mem_cons.mpr ⟨lw_p66, List.forall_mem_cons.mpr ⟨lw_p67, List.forall_mem_cons.mpr ⟨lw_p68, List.forall_mem_cons.mpr ⟨lw_p69, List.forall_mem_cons.mpr ⟨lw_p70, List.forall_mem_cons.mpr ⟨lw_p71, List.forall_mem_cons.mpr ⟨lw_p72, List.forall_mem_cons.mpr ⟨lw_p73, List.forall_mem_cons.mpr ⟨lw_p74, List.forall_mem_cons.mpr ⟨lw_p75, fun _ h => absurd h List.not_mem_nil⟩⟩⟩⟩⟩⟩⟩⟩⟩⟩⟩⟩
def lw_privs : List (MethodName × Nat) := lw_privs_1 ++ (lw_privs_2 ++ (lw_privs_3 ++ (lw_privs_4 ++ (lw_privs_5))))
def lw_tbl : List Cond := k2_sels lw_privs ++ tables_1
theorem lw_privs_ok : ∀ q ∈ lw_privs, lw_okq q := by
  show ∀ q ∈ lw_privs_1 ++ (lw_privs_2 ++ (lw_privs_3 ++ (lw_privs_4 ++ (lw_privs_5)))), lw_okq q
  exact List.forall_mem_append.mpr ⟨lw_r1, List.forall_mem_append.mpr ⟨lw_r2, List.forall_mem_append.mpr ⟨lw_r3, List.forall_mem_append.mpr ⟨lw_r4, lw_r5⟩⟩⟩⟩
end
section
theorem goodIn_r {big : List Cond} (ws : List Cond) (ps : List Nat) (hp : ws = ps.filterMap (fun i => big[i]?)) (h : ws.all goodWord = true) : GoodIn big ws := by
  intro w hw
  have h1 := List.all_eq_true.mp h w hw
  rw [hp] at hw
  obtain ⟨i, -, hi⟩ := List.mem_filterMap.mp hw
  have hm : w ∈ big := by first | exact List.mem_of_getElem? hi | exact List.getElem?_mem hi
  exact ⟨hm, good_of_word h1⟩
theorem goodIn_app {big a b : List Cond} (ha : GoodIn big a) (hb : GoodIn big b) : GoodIn big (a ++ b) := fun w h => (List.mem_append.mp h).elim (ha w) (hb w)
theorem goodIn_ca {big a b : List Cond} {c : Cond} (ha : GoodIn big (c :: a)) (hb : GoodIn big b) : GoodIn big (c :: (a ++ b)) := fun w h => (List.mem_cons.mp h).elim (fun e => ha w (List.mem_cons.mpr (Or.inl e))) (fun h => (List.mem_append.mp h).elim (fun h => ha w (List.mem_cons.mpr (Or.inr h))) (hb w))
theorem goodIn_sub {big ws : List Cond} (hm : ∀ w ∈ ws, w ∈ big) (h : ws.all goodWord = true) : GoodIn big ws := fun w hw => ⟨hm w hw, good_of_word (List.all_eq_true.mp h w hw)⟩
def RX0 : String := "SwissRounds$Book"
def TX0 : u_T := fun k => match k with
  | 0 => ("SwissRounds$Book", "players", "I", false)
  | 1 => ("SwissRounds$Book", "ratings", "LSwissRounds$Row;", true)
  | 2 => ("SwissRounds$Book", "inside", "LSwissRounds$Row;", true)
  | 3 => ("SwissRounds$Book", "rounds", "I", false)
  | 4 => ("SwissRounds$Book", "open", "Z", false)
  | 5 => ("SwissRounds$Book", "boards", "LSwissRounds$Row;", true)
  | 6 => ("SwissRounds$Book", "byes", "LSwissRounds$Row;", true)
  | 7 => ("SwissRounds$Book", "whites", "LSwissRounds$Row;", true)
  | 8 => ("SwissRounds$Book", "blacks", "LSwissRounds$Row;", true)
  | 9 => ("SwissRounds$Book", "outcomes", "LSwissRounds$Row;", true)
  | 10 => ("SwissRounds$Book", "breaks", "I", false)
  | _ => ("SwissRounds$Book", "breakOrder", "LSwissRounds$Row;", true)
def tyX0 : Nat → FieldType := fun k => match k with
  | 0 => .int
  | 1 => .object "SwissRounds$Row"
  | 2 => .object "SwissRounds$Row"
  | 3 => .int
  | 4 => .boolean
  | 5 => .object "SwissRounds$Row"
  | 6 => .object "SwissRounds$Row"
  | 7 => .object "SwissRounds$Row"
  | 8 => .object "SwissRounds$Row"
  | 9 => .object "SwissRounds$Row"
  | 10 => .int
  | _ => .object "SwissRounds$Row"
abbrev wsX00 : List Cond := u_ws RX0 TX0 12
theorem nmX0 : ∀ a, a < 12 → ∀ b, b < 12 → a ≠ b → (TX0 a).2.1 ≠ (TX0 b).2.1 := by decide +kernel
theorem tyX0_ok : ∀ k, k < 12 → parseFieldDescriptor (TX0 k).2.2.1 = some (tyX0 k) := by decide +kernel
abbrev cX0_init : ByteArray := prog_2_method_1_code
def yX0_init : MethodName := ⟨RX0, "<init>", "()V"⟩
abbrev cX0_copy : ByteArray := prog_2_method_2_code
def yX0_copy : MethodName := ⟨RX0, "copy", "(LSwissRounds$Book;)V"⟩
abbrev cX0_enter : ByteArray := prog_2_method_3_code
def yX0_enter : MethodName := ⟨RX0, "enter", "(I)I"⟩
abbrev cX0_countInside : ByteArray := prog_2_method_4_code
def yX0_countInside : MethodName := ⟨RX0, "countInside", "()I"⟩
abbrev cX0_countDone : ByteArray := prog_2_method_5_code
def yX0_countDone : MethodName := ⟨RX0, "countDone", "()I"⟩
abbrev cX0_boardCell : ByteArray := prog_2_method_6_code
def yX0_boardCell : MethodName := ⟨RX0, "boardCell", "(II)I"⟩
abbrev cX0_countOutcomes : ByteArray := prog_2_method_7_code
def yX0_countOutcomes : MethodName := ⟨RX0, "countOutcomes", "(I)I"⟩
abbrev cX0_startRound : ByteArray := prog_2_method_8_code
def yX0_startRound : MethodName := ⟨RX0, "startRound", "(I)V"⟩
abbrev cX0_addBoard : ByteArray := prog_2_method_9_code
def yX0_addBoard : MethodName := ⟨RX0, "addBoard", "(II)V"⟩
abbrev cX0_boardWith : ByteArray := prog_2_method_10_code
def yX0_boardWith : MethodName := ⟨RX0, "boardWith", "(II)I"⟩
abbrev cX0_colourAt : ByteArray := prog_2_method_11_code
def yX0_colourAt : MethodName := ⟨RX0, "colourAt", "(III)I"⟩
abbrev cX0_otherAt : ByteArray := prog_2_method_12_code
def yX0_otherAt : MethodName := ⟨RX0, "otherAt", "(III)I"⟩
abbrev cX0_outcomeFor : ByteArray := prog_2_method_13_code
def yX0_outcomeFor : MethodName := ⟨RX0, "outcomeFor", "(III)I"⟩
def RX1 : String := "SwissRounds$Pairing"
def TX1 : u_T := fun k => match k with
  | 0 => ("SwissRounds$Pairing", "book", "LSwissRounds$Book;", true)
  | 1 => ("SwissRounds$Pairing", "table", "LSwissRounds$Table;", true)
  | 2 => ("SwissRounds$Pairing", "seats", "LSwissRounds$Row;", true)
  | 3 => ("SwissRounds$Pairing", "count", "I", false)
  | 4 => ("SwissRounds$Pairing", "resting", "I", false)
  | 5 => ("SwissRounds$Pairing", "costs", "LSwissRounds$Row;", true)
  | 6 => ("SwissRounds$Pairing", "sums", "LSwissRounds$Row;", true)
  | _ => ("SwissRounds$Pairing", "numbers", "LSwissRounds$Row;", true)
def tyX1 : Nat → FieldType := fun k => match k with
  | 0 => .object "SwissRounds$Book"
  | 1 => .object "SwissRounds$Table"
  | 2 => .object "SwissRounds$Row"
  | 3 => .int
  | 4 => .int
  | 5 => .object "SwissRounds$Row"
  | 6 => .object "SwissRounds$Row"
  | _ => .object "SwissRounds$Row"
abbrev wsX10 : List Cond := u_ws RX1 TX1 8
theorem nmX1 : ∀ a, a < 8 → ∀ b, b < 8 → a ≠ b → (TX1 a).2.1 ≠ (TX1 b).2.1 := by decide +kernel
theorem tyX1_ok : ∀ k, k < 8 → parseFieldDescriptor (TX1 k).2.2.1 = some (tyX1 k) := by decide +kernel
abbrev cX1_init : ByteArray := prog_3_method_1_code
def yX1_init : MethodName := ⟨RX1, "<init>", "(LSwissRounds$Book;LSwissRounds$Table;)V"⟩
abbrev cX1_arrange : ByteArray := prog_3_method_2_code
def yX1_arrange : MethodName := ⟨RX1, "arrange", "()V"⟩
abbrev cX1_leastCost : ByteArray := prog_3_method_3_code
def yX1_leastCost : MethodName := ⟨RX1, "leastCost", "()I"⟩
abbrev cX1_countWays : ByteArray := prog_3_method_4_code
def yX1_countWays : MethodName := ⟨RX1, "countWays", "()I"⟩
abbrev cX1_openRound : ByteArray := prog_3_method_5_code
def yX1_openRound : MethodName := ⟨RX1, "openRound", "()V"⟩
abbrev cX1_wholeSet : ByteArray := prog_3_method_6_code
def yX1_wholeSet : MethodName := ⟨RX1, "wholeSet", "()I"⟩
abbrev cX1_firstSeat : ByteArray := prog_3_method_7_code
def yX1_firstSeat : MethodName := ⟨RX1, "firstSeat", "(I)I"⟩
abbrev cX1_without : ByteArray := prog_3_method_8_code
def yX1_without : MethodName := ⟨RX1, "without", "(III)I"⟩
abbrev cX1_seatAll : ByteArray := prog_3_method_9_code
def yX1_seatAll : MethodName := ⟨RX1, "seatAll", "()V"⟩
abbrev cX1_giveBye : ByteArray := prog_3_method_10_code
def yX1_giveBye : MethodName := ⟨RX1, "giveBye", "()V"⟩
abbrev cX1_seatOfBye : ByteArray := prog_3_method_11_code
def yX1_seatOfBye : MethodName := ⟨RX1, "seatOfBye", "()I"⟩
abbrev cX1_noteCosts : ByteArray := prog_3_method_12_code
def yX1_noteCosts : MethodName := ⟨RX1, "noteCosts", "()V"⟩
abbrev cX1_isReached : ByteArray := prog_3_method_13_code
def yX1_isReached : MethodName := ⟨RX1, "isReached", "(I)Z"⟩
abbrev cX1_weigh : ByteArray := prog_3_method_14_code
def yX1_weigh : MethodName := ⟨RX1, "weigh", "(I)V"⟩
abbrev cX1_sumWith : ByteArray := prog_3_method_15_code
def yX1_sumWith : MethodName := ⟨RX1, "sumWith", "(III)I"⟩
abbrev cX1_earliestMate : ByteArray := prog_3_method_16_code
def yX1_earliestMate : MethodName := ⟨RX1, "earliestMate", "(I)I"⟩
abbrev cX1_seatBoard : ByteArray := prog_3_method_17_code
def yX1_seatBoard : MethodName := ⟨RX1, "seatBoard", "(III)V"⟩
abbrev cX1_hasWhite : ByteArray := prog_3_method_18_code
def yX1_hasWhite : MethodName := ⟨RX1, "hasWhite", "(III)Z"⟩
def RX2 : String := "SwissRounds$Row"
def TX2 : u_T := fun k => match k with
  | _ => ("SwissRounds$Row", "cells", "[I", true)
def tyX2 : Nat → FieldType := fun k => match k with
  | _ => .array .int
abbrev wsX20 : List Cond := u_ws RX2 TX2 1
theorem nmX2 : ∀ a, a < 1 → ∀ b, b < 1 → a ≠ b → (TX2 a).2.1 ≠ (TX2 b).2.1 := by decide +kernel
theorem tyX2_ok : ∀ k, k < 1 → parseFieldDescriptor (TX2 k).2.2.1 = some (tyX2 k) := by decide +kernel
abbrev cX2_init : ByteArray := prog_4_method_1_code
def yX2_init : MethodName := ⟨RX2, "<init>", "(I)V"⟩
abbrev cX2_at : ByteArray := prog_4_method_2_code
def yX2_at : MethodName := ⟨RX2, "at", "(I)I"⟩
abbrev cX2_put : ByteArray := prog_4_method_3_code
def yX2_put : MethodName := ⟨RX2, "put", "(II)V"⟩
abbrev cX2_add : ByteArray := prog_4_method_4_code
def yX2_add : MethodName := ⟨RX2, "add", "(II)V"⟩
abbrev cX2_fill : ByteArray := prog_4_method_5_code
def yX2_fill : MethodName := ⟨RX2, "fill", "(I)V"⟩
abbrev cX2_copy : ByteArray := prog_4_method_6_code
def yX2_copy : MethodName := ⟨RX2, "copy", "(LSwissRounds$Row;)V"⟩
def RX3 : String := "SwissRounds$Shelf"
def TX3 : u_T := fun k => match k with
  | 0 => ("SwissRounds$Shelf", "sizes", "LSwissRounds$Row;", true)
  | _ => ("SwissRounds$Shelf", "cells", "LSwissRounds$Row;", true)
def tyX3 : Nat → FieldType := fun k => match k with
  | 0 => .object "SwissRounds$Row"
  | _ => .object "SwissRounds$Row"
abbrev wsX30 : List Cond := u_ws RX3 TX3 2
theorem nmX3 : ∀ a, a < 2 → ∀ b, b < 2 → a ≠ b → (TX3 a).2.1 ≠ (TX3 b).2.1 := by decide +kernel
theorem tyX3_ok : ∀ k, k < 2 → parseFieldDescriptor (TX3 k).2.2.1 = some (tyX3 k) := by decide +kernel
abbrev cX3_init : ByteArray := prog_5_method_1_code
def yX3_init : MethodName := ⟨RX3, "<init>", "()V"⟩
abbrev cX3_isList : ByteArray := prog_5_method_2_code
def yX3_isList : MethodName := ⟨RX3, "isList", "(I)Z"⟩
abbrev cX3_isHeld : ByteArray := prog_5_method_3_code
def yX3_isHeld : MethodName := ⟨RX3, "isHeld", "(I)Z"⟩
abbrev cX3_hasPlace : ByteArray := prog_5_method_4_code
def yX3_hasPlace : MethodName := ⟨RX3, "hasPlace", "(II)Z"⟩
abbrev cX3_hold : ByteArray := prog_5_method_5_code
def yX3_hold : MethodName := ⟨RX3, "hold", "(II)V"⟩
abbrev cX3_valueAt : ByteArray := prog_5_method_6_code
def yX3_valueAt : MethodName := ⟨RX3, "valueAt", "(II)I"⟩
abbrev cX3_putAt : ByteArray := prog_5_method_7_code
def yX3_putAt : MethodName := ⟨RX3, "putAt", "(III)V"⟩
def RX4 : String := "SwissRounds$Table"
def TX4 : u_T := fun k => match k with
  | 0 => ("SwissRounds$Table", "book", "LSwissRounds$Book;", true)
  | 1 => ("SwissRounds$Table", "ties", "LSwissRounds$Row;", true)
  | 2 => ("SwissRounds$Table", "played", "LSwissRounds$Row;", true)
  | 3 => ("SwissRounds$Table", "balances", "LSwissRounds$Row;", true)
  | 4 => ("SwissRounds$Table", "latest", "LSwissRounds$Row;", true)
  | 5 => ("SwissRounds$Table", "byes", "LSwissRounds$Row;", true)
  | 6 => ("SwissRounds$Table", "forfeits", "LSwissRounds$Row;", true)
  | 7 => ("SwissRounds$Table", "meetings", "LSwissRounds$Row;", true)
  | 8 => ("SwissRounds$Table", "made", "LSwissRounds$Row;", true)
  | _ => ("SwissRounds$Table", "standing", "LSwissRounds$Row;", true)
def tyX4 : Nat → FieldType := fun k => match k with
  | 0 => .object "SwissRounds$Book"
  | 1 => .object "SwissRounds$Row"
  | 2 => .object "SwissRounds$Row"
  | 3 => .object "SwissRounds$Row"
  | 4 => .object "SwissRounds$Row"
  | 5 => .object "SwissRounds$Row"
  | 6 => .object "SwissRounds$Row"
  | 7 => .object "SwissRounds$Row"
  | 8 => .object "SwissRounds$Row"
  | _ => .object "SwissRounds$Row"
abbrev wsX40 : List Cond := u_ws RX4 TX4 10
theorem nmX4 : ∀ a, a < 10 → ∀ b, b < 10 → a ≠ b → (TX4 a).2.1 ≠ (TX4 b).2.1 := by decide +kernel
theorem tyX4_ok : ∀ k, k < 10 → parseFieldDescriptor (TX4 k).2.2.1 = some (tyX4 k) := by decide +kernel
abbrev cX4_init : ByteArray := prog_6_method_1_code
def yX4_init : MethodName := ⟨RX4, "<init>", "(LSwissRounds$Book;)V"⟩
abbrev cX4_tieOf : ByteArray := prog_6_method_2_code
def yX4_tieOf : MethodName := ⟨RX4, "tieOf", "(II)I"⟩
abbrev cX4_addTie : ByteArray := prog_6_method_3_code
def yX4_addTie : MethodName := ⟨RX4, "addTie", "(III)V"⟩
abbrev cX4_twoCell : ByteArray := prog_6_method_4_code
def yX4_twoCell : MethodName := ⟨RX4, "twoCell", "(II)I"⟩
abbrev cX4_meetingOf : ByteArray := prog_6_method_5_code
def yX4_meetingOf : MethodName := ⟨RX4, "meetingOf", "(II)I"⟩
abbrev cX4_haveMet : ByteArray := prog_6_method_6_code
def yX4_haveMet : MethodName := ⟨RX4, "haveMet", "(II)Z"⟩
abbrev cX4_madeAgainst : ByteArray := prog_6_method_7_code
def yX4_madeAgainst : MethodName := ⟨RX4, "madeAgainst", "(II)I"⟩
abbrev cX4_reckon : ByteArray := prog_6_method_8_code
def yX4_reckon : MethodName := ⟨RX4, "reckon", "()V"⟩
abbrev cX4_wipe : ByteArray := prog_6_method_9_code
def yX4_wipe : MethodName := ⟨RX4, "wipe", "()V"⟩
abbrev cX4_countRound : ByteArray := prog_6_method_10_code
def yX4_countRound : MethodName := ⟨RX4, "countRound", "(I)V"⟩
abbrev cX4_countSide : ByteArray := prog_6_method_11_code
def yX4_countSide : MethodName := ⟨RX4, "countSide", "(III)V"⟩
abbrev cX4_countPlayed : ByteArray := prog_6_method_12_code
def yX4_countPlayed : MethodName := ⟨RX4, "countPlayed", "(III)V"⟩
abbrev cX4_compareWithOpponents : ByteArray := prog_6_method_13_code
def yX4_compareWithOpponents : MethodName := ⟨RX4, "compareWithOpponents", "(I)V"⟩
abbrev cX4_stand : ByteArray := prog_6_method_14_code
def yX4_stand : MethodName := ⟨RX4, "stand", "()V"⟩
abbrev cX4_isAhead : ByteArray := prog_6_method_15_code
def yX4_isAhead : MethodName := ⟨RX4, "isAhead", "(II)Z"⟩
abbrev cX4_firstDifference : ByteArray := prog_6_method_16_code
def yX4_firstDifference : MethodName := ⟨RX4, "firstDifference", "(II)I"⟩
abbrev cX4_placeOf : ByteArray := prog_6_method_17_code
def yX4_placeOf : MethodName := ⟨RX4, "placeOf", "(I)I"⟩
abbrev cX4_countMet : ByteArray := prog_6_method_18_code
def yX4_countMet : MethodName := ⟨RX4, "countMet", "(I)I"⟩
abbrev cX4_countMeetings : ByteArray := prog_6_method_19_code
def yX4_countMeetings : MethodName := ⟨RX4, "countMeetings", "()I"⟩
abbrev cX4_sumPoints : ByteArray := prog_6_method_20_code
def yX4_sumPoints : MethodName := ⟨RX4, "sumPoints", "()I"⟩
abbrev cX4_sumRatings : ByteArray := prog_6_method_21_code
def yX4_sumRatings : MethodName := ⟨RX4, "sumRatings", "(I)I"⟩
abbrev cX4_costOf : ByteArray := prog_6_method_22_code
def yX4_costOf : MethodName := ⟨RX4, "costOf", "(II)I"⟩
def RX5 : String := "SwissRounds$Text"
def TX5 : u_T := fun k => match k with
  | 0 => ("SwissRounds$Text", "bytes", "LSwissRounds$Row;", true)
  | _ => ("SwissRounds$Text", "length", "I", false)
def tyX5 : Nat → FieldType := fun k => match k with
  | 0 => .object "SwissRounds$Row"
  | _ => .int
abbrev wsX50 : List Cond := u_ws RX5 TX5 2
theorem nmX5 : ∀ a, a < 2 → ∀ b, b < 2 → a ≠ b → (TX5 a).2.1 ≠ (TX5 b).2.1 := by decide +kernel
theorem tyX5_ok : ∀ k, k < 2 → parseFieldDescriptor (TX5 k).2.2.1 = some (tyX5 k) := by decide +kernel
abbrev cX5_init : ByteArray := prog_7_method_1_code
def yX5_init : MethodName := ⟨RX5, "<init>", "(I)V"⟩
abbrev cX5_byteAt : ByteArray := prog_7_method_2_code
def yX5_byteAt : MethodName := ⟨RX5, "byteAt", "(I)I"⟩
abbrev cX5_append : ByteArray := prog_7_method_3_code
def yX5_append : MethodName := ⟨RX5, "append", "(I)V"⟩
abbrev cX5_appendNumber : ByteArray := prog_7_method_4_code
def yX5_appendNumber : MethodName := ⟨RX5, "appendNumber", "(I)V"⟩
def RX6 : String := "SwissRounds"
def TX6 : u_T := fun k => match k with
  | 0 => ("SwissRounds", "book", "LSwissRounds$Book;", true)
  | 1 => ("SwissRounds", "saved", "LSwissRounds$Book;", true)
  | 2 => ("SwissRounds", "isSaved", "Z", false)
  | 3 => ("SwissRounds", "table", "LSwissRounds$Table;", true)
  | 4 => ("SwissRounds", "pairing", "LSwissRounds$Pairing;", true)
  | 5 => ("SwissRounds", "tape", "LSwissRounds$Text;", true)
  | 6 => ("SwissRounds", "sheet", "LSwissRounds$Text;", true)
  | _ => ("SwissRounds", "shelf", "LSwissRounds$Shelf;", true)
def tyX6 : Nat → FieldType := fun k => match k with
  | 0 => .object "SwissRounds$Book"
  | 1 => .object "SwissRounds$Book"
  | 2 => .boolean
  | 3 => .object "SwissRounds$Table"
  | 4 => .object "SwissRounds$Pairing"
  | 5 => .object "SwissRounds$Text"
  | 6 => .object "SwissRounds$Text"
  | _ => .object "SwissRounds$Shelf"
abbrev wsX60 : List Cond := u_ws RX6 TX6 8
theorem nmX6 : ∀ a, a < 8 → ∀ b, b < 8 → a ≠ b → (TX6 a).2.1 ≠ (TX6 b).2.1 := by decide +kernel
theorem tyX6_ok : ∀ k, k < 8 → parseFieldDescriptor (TX6 k).2.2.1 = some (tyX6 k) := by decide +kernel
abbrev cX6_init : ByteArray := prog_1_method_1_code
def yX6_init : MethodName := ⟨RX6, "<init>", "()V"⟩
abbrev cX6_join : ByteArray := prog_1_method_2_code
def yX6_join : MethodName := ⟨RX6, "join", "(I)I"⟩
abbrev cX6_leave : ByteArray := prog_1_method_3_code
def yX6_leave : MethodName := ⟨RX6, "leave", "(I)I"⟩
abbrev cX6_back : ByteArray := prog_1_method_4_code
def yX6_back : MethodName := ⟨RX6, "back", "(I)I"⟩
abbrev cX6_move : ByteArray := prog_1_method_5_code
def yX6_move : MethodName := ⟨RX6, "move", "(II)I"⟩
abbrev cX6_rate : ByteArray := prog_1_method_6_code
def yX6_rate : MethodName := ⟨RX6, "rate", "(II)I"⟩
abbrev cX6_of : ByteArray := prog_1_method_7_code
def yX6_of : MethodName := ⟨RX6, "of", "(II)I"⟩
abbrev cX6_tie : ByteArray := prog_1_method_8_code
def yX6_tie : MethodName := ⟨RX6, "tie", "(II)I"⟩
abbrev cX6_rank : ByteArray := prog_1_method_9_code
def yX6_rank : MethodName := ⟨RX6, "rank", "(I)I"⟩
abbrev cX6_nth : ByteArray := prog_1_method_10_code
def yX6_nth : MethodName := ⟨RX6, "nth", "(I)I"⟩
abbrev cX6_explain : ByteArray := prog_1_method_11_code
def yX6_explain : MethodName := ⟨RX6, "explain", "(III)I"⟩
abbrev cX6_alike : ByteArray := prog_1_method_12_code
def yX6_alike : MethodName := ⟨RX6, "alike", "(I)I"⟩
abbrev cX6_colours : ByteArray := prog_1_method_13_code
def yX6_colours : MethodName := ⟨RX6, "colours", "(I)I"⟩
abbrev cX6_isBalance : ByteArray := prog_1_method_14_code
def yX6_isBalance : MethodName := ⟨RX6, "isBalance", "(II)Z"⟩
abbrev cX6_met : ByteArray := prog_1_method_15_code
def yX6_met : MethodName := ⟨RX6, "met", "(II)I"⟩
abbrev cX6_cost : ByteArray := prog_1_method_16_code
def yX6_cost : MethodName := ⟨RX6, "cost", "(II)I"⟩
abbrev cX6_direct : ByteArray := prog_1_method_17_code
def yX6_direct : MethodName := ⟨RX6, "direct", "(II)I"⟩
abbrev cX6_pair : ByteArray := prog_1_method_18_code
def yX6_pair : MethodName := ⟨RX6, "pair", "()I"⟩
abbrev cX6_least : ByteArray := prog_1_method_19_code
def yX6_least : MethodName := ⟨RX6, "least", "()I"⟩
abbrev cX6_ways : ByteArray := prog_1_method_20_code
def yX6_ways : MethodName := ⟨RX6, "ways", "()I"⟩
abbrev cX6_board : ByteArray := prog_1_method_21_code
def yX6_board : MethodName := ⟨RX6, "board", "(III)I"⟩
abbrev cX6_bye : ByteArray := prog_1_method_22_code
def yX6_bye : MethodName := ⟨RX6, "bye", "(I)I"⟩
abbrev cX6_result : ByteArray := prog_1_method_23_code
def yX6_result : MethodName := ⟨RX6, "result", "(II)I"⟩
abbrev cX6_close : ByteArray := prog_1_method_24_code
def yX6_close : MethodName := ⟨RX6, "close", "()I"⟩
abbrev cX6_drop : ByteArray := prog_1_method_25_code
def yX6_drop : MethodName := ⟨RX6, "drop", "()I"⟩
abbrev cX6_game : ByteArray := prog_1_method_26_code
def yX6_game : MethodName := ⟨RX6, "game", "(III)I"⟩
abbrev cX6_pointsMade : ByteArray := prog_1_method_27_code
def yX6_pointsMade : MethodName := ⟨RX6, "pointsMade", "(III)I"⟩
abbrev cX6_average : ByteArray := prog_1_method_28_code
def yX6_average : MethodName := ⟨RX6, "average", "(II)I"⟩
abbrev cX6_commonDivisor : ByteArray := prog_1_method_29_code
def yX6_commonDivisor : MethodName := ⟨RX6, "commonDivisor", "(II)I"⟩
abbrev cX6_feed : ByteArray := prog_1_method_30_code
def yX6_feed : MethodName := ⟨RX6, "feed", "(I)I"⟩
abbrev cX6_clear : ByteArray := prog_1_method_31_code
def yX6_clear : MethodName := ⟨RX6, "clear", "()I"⟩
abbrev cX6_results : ByteArray := prog_1_method_32_code
def yX6_results : MethodName := ⟨RX6, "results", "()I"⟩
abbrev cX6_readResults : ByteArray := prog_1_method_33_code
def yX6_readResults : MethodName := ⟨RX6, "readResults", "()I"⟩
abbrev cX6_faultOfResults : ByteArray := prog_1_method_34_code
def yX6_faultOfResults : MethodName := ⟨RX6, "faultOfResults", "(I)I"⟩
abbrev cX6_order : ByteArray := prog_1_method_35_code
def yX6_order : MethodName := ⟨RX6, "order", "()I"⟩
abbrev cX6_faultOfOrder : ByteArray := prog_1_method_36_code
def yX6_faultOfOrder : MethodName := ⟨RX6, "faultOfOrder", "()I"⟩
abbrev cX6_readOrder : ByteArray := prog_1_method_37_code
def yX6_readOrder : MethodName := ⟨RX6, "readOrder", "()V"⟩
abbrev cX6_ordered : ByteArray := prog_1_method_38_code
def yX6_ordered : MethodName := ⟨RX6, "ordered", "(I)I"⟩
abbrev cX6_line : ByteArray := prog_1_method_39_code
def yX6_line : MethodName := ⟨RX6, "line", "(I)I"⟩
abbrev cX6_writeHalved : ByteArray := prog_1_method_40_code
def yX6_writeHalved : MethodName := ⟨RX6, "writeHalved", "(I)V"⟩
abbrev cX6_writeRound : ByteArray := prog_1_method_41_code
def yX6_writeRound : MethodName := ⟨RX6, "writeRound", "(II)V"⟩
abbrev cX6_markFor : ByteArray := prog_1_method_42_code
def yX6_markFor : MethodName := ⟨RX6, "markFor", "(I)C"⟩
abbrev cX6_paper : ByteArray := prog_1_method_43_code
def yX6_paper : MethodName := ⟨RX6, "paper", "(I)I"⟩
abbrev cX6_told : ByteArray := prog_1_method_44_code
def yX6_told : MethodName := ⟨RX6, "told", "(I)I"⟩
abbrev cX6_list : ByteArray := prog_1_method_45_code
def yX6_list : MethodName := ⟨RX6, "list", "(II)I"⟩
abbrev cX6_set : ByteArray := prog_1_method_46_code
def yX6_set : MethodName := ⟨RX6, "set", "(III)I"⟩
abbrev cX6_get : ByteArray := prog_1_method_47_code
def yX6_get : MethodName := ⟨RX6, "get", "(II)I"⟩
abbrev cX6_lay : ByteArray := prog_1_method_48_code
def yX6_lay : MethodName := ⟨RX6, "lay", "(II)I"⟩
abbrev cX6_judge : ByteArray := prog_1_method_49_code
def yX6_judge : MethodName := ⟨RX6, "judge", "(II)I"⟩
abbrev cX6_refusalOfList : ByteArray := prog_1_method_50_code
def yX6_refusalOfList : MethodName := ⟨RX6, "refusalOfList", "(I)I"⟩
abbrev cX6_image : ByteArray := prog_1_method_51_code
def yX6_image : MethodName := ⟨RX6, "image", "()I"⟩
abbrev cX6_undo : ByteArray := prog_1_method_52_code
def yX6_undo : MethodName := ⟨RX6, "undo", "()I"⟩
abbrev cX6_isRating : ByteArray := prog_1_method_53_code
def yX6_isRating : MethodName := ⟨RX6, "isRating", "(I)Z"⟩
abbrev cX6_isPlayer : ByteArray := prog_1_method_54_code
def yX6_isPlayer : MethodName := ⟨RX6, "isPlayer", "(I)Z"⟩
abbrev cX6_areTwo : ByteArray := prog_1_method_55_code
def yX6_areTwo : MethodName := ⟨RX6, "areTwo", "(II)Z"⟩
abbrev cX6_isRound : ByteArray := prog_1_method_56_code
def yX6_isRound : MethodName := ⟨RX6, "isRound", "(I)Z"⟩
abbrev cX6_mirrored : ByteArray := prog_1_method_57_code
def yX6_mirrored : MethodName := ⟨RX6, "mirrored", "(I)I"⟩
abbrev cX6_pointsFor : ByteArray := prog_1_method_58_code
def yX6_pointsFor : MethodName := ⟨RX6, "pointsFor", "(I)I"⟩
abbrev cX6_isOverTheBoard : ByteArray := prog_1_method_59_code
def yX6_isOverTheBoard : MethodName := ⟨RX6, "isOverTheBoard", "(I)Z"⟩
def RX7 : String := "SwissRoundsModel"
def TX7 : u_T := fun k => match k with
  | 0 => ("SwissRoundsModel", "players", "I", false)
  | 1 => ("SwissRoundsModel", "ratings", "[I", true)
  | 2 => ("SwissRoundsModel", "isIn", "[I", true)
  | 3 => ("SwissRoundsModel", "rounds", "I", false)
  | 4 => ("SwissRoundsModel", "isOpen", "I", false)
  | 5 => ("SwissRoundsModel", "boardMany", "[I", true)
  | 6 => ("SwissRoundsModel", "byes", "[I", true)
  | 7 => ("SwissRoundsModel", "whites", "[I", true)
  | 8 => ("SwissRoundsModel", "blacks", "[I", true)
  | 9 => ("SwissRoundsModel", "results0", "[I", true)
  | 10 => ("SwissRoundsModel", "tieMany", "I", false)
  | 11 => ("SwissRoundsModel", "ties", "[I", true)
  | 12 => ("SwissRoundsModel", "thrown", "I", false)
  | 13 => ("SwissRoundsModel", "tiesOf", "[I", true)
  | 14 => ("SwissRoundsModel", "standing", "[I", true)
  | 15 => ("SwissRoundsModel", "paired", "I", false)
  | 16 => ("SwissRoundsModel", "atPlace", "[I", true)
  | 17 => ("SwissRoundsModel", "byeNow", "I", false)
  | 18 => ("SwissRoundsModel", "costs", "[I", true)
  | 19 => ("SwissRoundsModel", "bests", "[I", true)
  | 20 => ("SwissRoundsModel", "manyWays", "[I", true)
  | 21 => ("SwissRoundsModel", "tape", "[I", true)
  | 22 => ("SwissRoundsModel", "size", "I", false)
  | 23 => ("SwissRoundsModel", "paper0", "[I", true)
  | 24 => ("SwissRoundsModel", "paperSize", "I", false)
  | 25 => ("SwissRoundsModel", "holdsList", "[Z", true)
  | 26 => ("SwissRoundsModel", "listMany", "[I", true)
  | 27 => ("SwissRoundsModel", "listed", "[I", true)
  | 28 => ("SwissRoundsModel", "hasImage", "Z", false)
  | 29 => ("SwissRoundsModel", "imaged", "[I", true)
  | 30 => ("SwissRoundsModel", "place0", "I", false)
  | 31 => ("SwissRoundsModel", "isTaking", "Z", false)
  | _ => ("SwissRoundsModel", "keptIn", "[I", false)
def tyX7 : Nat → FieldType := fun k => match k with
  | 0 => .int
  | 1 => .array .int
  | 2 => .array .int
  | 3 => .int
  | 4 => .int
  | 5 => .array .int
  | 6 => .array .int
  | 7 => .array .int
  | 8 => .array .int
  | 9 => .array .int
  | 10 => .int
  | 11 => .array .int
  | 12 => .int
  | 13 => .array .int
  | 14 => .array .int
  | 15 => .int
  | 16 => .array .int
  | 17 => .int
  | 18 => .array .int
  | 19 => .array .int
  | 20 => .array .int
  | 21 => .array .int
  | 22 => .int
  | 23 => .array .int
  | 24 => .int
  | 25 => .array .boolean
  | 26 => .array .int
  | 27 => .array .int
  | 28 => .boolean
  | 29 => .array .int
  | 30 => .int
  | 31 => .boolean
  | _ => .array .int
abbrev wsX70 : List Cond := u_ws RX7 TX7 33
theorem nmX7 : ∀ a, a < 33 → ∀ b, b < 33 → a ≠ b → (TX7 a).2.1 ≠ (TX7 b).2.1 := by decide +kernel
theorem tyX7_ok : ∀ k, k < 33 → parseFieldDescriptor (TX7 k).2.2.1 = some (tyX7 k) := by decide +kernel
abbrev cX7_init : ByteArray := prog_9_method_1_code
def yX7_init : MethodName := ⟨RX7, "<init>", "()V"⟩
abbrev cX7_in : ByteArray := prog_9_method_3_code
def yX7_in : MethodName := ⟨RX7, "in", "(JJJ)Z"⟩
abbrev cX7_isPlayer : ByteArray := prog_9_method_4_code
def yX7_isPlayer : MethodName := ⟨RX7, "isPlayer", "(I)Z"⟩
abbrev cX7_areTwo : ByteArray := prog_9_method_5_code
def yX7_areTwo : MethodName := ⟨RX7, "areTwo", "(II)Z"⟩
abbrev cX7_manyIn : ByteArray := prog_9_method_6_code
def yX7_manyIn : MethodName := ⟨RX7, "manyIn", "()I"⟩
abbrev cX7_done : ByteArray := prog_9_method_7_code
def yX7_done : MethodName := ⟨RX7, "done", "()I"⟩
abbrev cX7_boardOf : ByteArray := prog_9_method_8_code
def yX7_boardOf : MethodName := ⟨RX7, "boardOf", "(II)I"⟩
abbrev cX7_otherOn : ByteArray := prog_9_method_9_code
def yX7_otherOn : MethodName := ⟨RX7, "otherOn", "(II)I"⟩
abbrev cX7_madeOn : ByteArray := prog_9_method_10_code
def yX7_madeOn : MethodName := ⟨RX7, "madeOn", "(II)I"⟩
abbrev cX7_playedIn : ByteArray := prog_9_method_11_code
def yX7_playedIn : MethodName := ⟨RX7, "playedIn", "(II)I"⟩
abbrev cX7_madeIn : ByteArray := prog_9_method_12_code
def yX7_madeIn : MethodName := ⟨RX7, "madeIn", "(II)I"⟩
abbrev cX7_pointsBehind : ByteArray := prog_9_method_13_code
def yX7_pointsBehind : MethodName := ⟨RX7, "pointsBehind", "(II)I"⟩
abbrev cX7_pointsOf : ByteArray := prog_9_method_14_code
def yX7_pointsOf : MethodName := ⟨RX7, "pointsOf", "(I)I"⟩
abbrev cX7_metIn : ByteArray := prog_9_method_15_code
def yX7_metIn : MethodName := ⟨RX7, "metIn", "(II)I"⟩
abbrev cX7_playedMany : ByteArray := prog_9_method_16_code
def yX7_playedMany : MethodName := ⟨RX7, "playedMany", "(I)I"⟩
abbrev cX7_blacksOf : ByteArray := prog_9_method_17_code
def yX7_blacksOf : MethodName := ⟨RX7, "blacksOf", "(I)I"⟩
abbrev cX7_balanceOf : ByteArray := prog_9_method_18_code
def yX7_balanceOf : MethodName := ⟨RX7, "balanceOf", "(I)I"⟩
abbrev cX7_latestOf : ByteArray := prog_9_method_19_code
def yX7_latestOf : MethodName := ⟨RX7, "latestOf", "(I)I"⟩
abbrev cX7_byesOf : ByteArray := prog_9_method_20_code
def yX7_byesOf : MethodName := ⟨RX7, "byesOf", "(I)I"⟩
abbrev cX7_forfeitsOf : ByteArray := prog_9_method_21_code
def yX7_forfeitsOf : MethodName := ⟨RX7, "forfeitsOf", "(I)I"⟩
abbrev cX7_opponentsOf : ByteArray := prog_9_method_22_code
def yX7_opponentsOf : MethodName := ⟨RX7, "opponentsOf", "(IZ)I"⟩
abbrev cX7_beatenOf : ByteArray := prog_9_method_23_code
def yX7_beatenOf : MethodName := ⟨RX7, "beatenOf", "(I)I"⟩
abbrev cX7_winsOf : ByteArray := prog_9_method_24_code
def yX7_winsOf : MethodName := ⟨RX7, "winsOf", "(I)I"⟩
abbrev cX7_growthOf : ByteArray := prog_9_method_25_code
def yX7_growthOf : MethodName := ⟨RX7, "growthOf", "(I)I"⟩
abbrev cX7_directOf : ByteArray := prog_9_method_26_code
def yX7_directOf : MethodName := ⟨RX7, "directOf", "(I)I"⟩
abbrev cX7_tieOf : ByteArray := prog_9_method_27_code
def yX7_tieOf : MethodName := ⟨RX7, "tieOf", "(II)I"⟩
abbrev cX7_differsIn : ByteArray := prog_9_method_28_code
def yX7_differsIn : MethodName := ⟨RX7, "differsIn", "(II)I"⟩
abbrev cX7_isAhead : ByteArray := prog_9_method_29_code
def yX7_isAhead : MethodName := ⟨RX7, "isAhead", "(II)Z"⟩
abbrev cX7_aheadOf : ByteArray := prog_9_method_30_code
def yX7_aheadOf : MethodName := ⟨RX7, "aheadOf", "(I)I"⟩
abbrev cX7_layStanding : ByteArray := prog_9_method_31_code
def yX7_layStanding : MethodName := ⟨RX7, "layStanding", "()V"⟩
abbrev cX7_costOf : ByteArray := prog_9_method_32_code
def yX7_costOf : MethodName := ⟨RX7, "costOf", "(II)I"⟩
abbrev cX7_layBye : ByteArray := prog_9_method_33_code
def yX7_layBye : MethodName := ⟨RX7, "layBye", "()V"⟩
abbrev cX7_layPlaces : ByteArray := prog_9_method_34_code
def yX7_layPlaces : MethodName := ⟨RX7, "layPlaces", "()V"⟩
abbrev cX7_leastBit : ByteArray := prog_9_method_35_code
def yX7_leastBit : MethodName := ⟨RX7, "leastBit", "(I)I"⟩
abbrev cX7_layBests : ByteArray := prog_9_method_36_code
def yX7_layBests : MethodName := ⟨RX7, "layBests", "()V"⟩
abbrev cX7_isWhite : ByteArray := prog_9_method_37_code
def yX7_isWhite : MethodName := ⟨RX7, "isWhite", "(III)Z"⟩
abbrev cX7_putBoard : ByteArray := prog_9_method_38_code
def yX7_putBoard : MethodName := ⟨RX7, "putBoard", "(III)V"⟩
abbrev cX7_earliestWith : ByteArray := prog_9_method_39_code
def yX7_earliestWith : MethodName := ⟨RX7, "earliestWith", "(I)I"⟩
abbrev cX7_wrongPairing : ByteArray := prog_9_method_40_code
def yX7_wrongPairing : MethodName := ⟨RX7, "wrongPairing", "()I"⟩
abbrev cX7_pair : ByteArray := prog_9_method_41_code
def yX7_pair : MethodName := ⟨RX7, "pair", "()I"⟩
abbrev cX7_least : ByteArray := prog_9_method_42_code
def yX7_least : MethodName := ⟨RX7, "least", "()I"⟩
abbrev cX7_ways : ByteArray := prog_9_method_43_code
def yX7_ways : MethodName := ⟨RX7, "ways", "()I"⟩
abbrev cX7_join : ByteArray := prog_9_method_44_code
def yX7_join : MethodName := ⟨RX7, "join", "(I)I"⟩
abbrev cX7_leave : ByteArray := prog_9_method_45_code
def yX7_leave : MethodName := ⟨RX7, "leave", "(I)I"⟩
abbrev cX7_back : ByteArray := prog_9_method_46_code
def yX7_back : MethodName := ⟨RX7, "back", "(I)I"⟩
abbrev cX7_rate : ByteArray := prog_9_method_47_code
def yX7_rate : MethodName := ⟨RX7, "rate", "(II)I"⟩
abbrev cX7_of : ByteArray := prog_9_method_48_code
def yX7_of : MethodName := ⟨RX7, "of", "(II)I"⟩
abbrev cX7_tie : ByteArray := prog_9_method_49_code
def yX7_tie : MethodName := ⟨RX7, "tie", "(II)I"⟩
abbrev cX7_rank : ByteArray := prog_9_method_50_code
def yX7_rank : MethodName := ⟨RX7, "rank", "(I)I"⟩
abbrev cX7_nth : ByteArray := prog_9_method_51_code
def yX7_nth : MethodName := ⟨RX7, "nth", "(I)I"⟩
abbrev cX7_explain : ByteArray := prog_9_method_52_code
def yX7_explain : MethodName := ⟨RX7, "explain", "(III)I"⟩
abbrev cX7_met : ByteArray := prog_9_method_53_code
def yX7_met : MethodName := ⟨RX7, "met", "(II)I"⟩
abbrev cX7_cost : ByteArray := prog_9_method_54_code
def yX7_cost : MethodName := ⟨RX7, "cost", "(II)I"⟩
abbrev cX7_direct : ByteArray := prog_9_method_55_code
def yX7_direct : MethodName := ⟨RX7, "direct", "(II)I"⟩
abbrev cX7_divisor : ByteArray := prog_9_method_56_code
def yX7_divisor : MethodName := ⟨RX7, "divisor", "(II)I"⟩
abbrev cX7_average : ByteArray := prog_9_method_57_code
def yX7_average : MethodName := ⟨RX7, "average", "(II)I"⟩
abbrev cX7_alike : ByteArray := prog_9_method_58_code
def yX7_alike : MethodName := ⟨RX7, "alike", "(I)I"⟩
abbrev cX7_colours : ByteArray := prog_9_method_59_code
def yX7_colours : MethodName := ⟨RX7, "colours", "(I)I"⟩
abbrev cX7_board : ByteArray := prog_9_method_60_code
def yX7_board : MethodName := ⟨RX7, "board", "(III)I"⟩
abbrev cX7_bye : ByteArray := prog_9_method_61_code
def yX7_bye : MethodName := ⟨RX7, "bye", "(I)I"⟩
abbrev cX7_result : ByteArray := prog_9_method_62_code
def yX7_result : MethodName := ⟨RX7, "result", "(II)I"⟩
abbrev cX7_withResult : ByteArray := prog_9_method_63_code
def yX7_withResult : MethodName := ⟨RX7, "withResult", "()I"⟩
abbrev cX7_close : ByteArray := prog_9_method_64_code
def yX7_close : MethodName := ⟨RX7, "close", "()I"⟩
abbrev cX7_drop : ByteArray := prog_9_method_65_code
def yX7_drop : MethodName := ⟨RX7, "drop", "()I"⟩
abbrev cX7_game : ByteArray := prog_9_method_66_code
def yX7_game : MethodName := ⟨RX7, "game", "(III)I"⟩
abbrev cX7_feed : ByteArray := prog_9_method_67_code
def yX7_feed : MethodName := ⟨RX7, "feed", "(I)I"⟩
abbrev cX7_clear : ByteArray := prog_9_method_68_code
def yX7_clear : MethodName := ⟨RX7, "clear", "()I"⟩
abbrev cX7_resultOf : ByteArray := prog_9_method_69_code
def yX7_resultOf : MethodName := ⟨RX7, "resultOf", "(I)I"⟩
abbrev cX7_results : ByteArray := prog_9_method_70_code
def yX7_results : MethodName := ⟨RX7, "results", "()I"⟩
abbrev cX7_tieBy : ByteArray := prog_9_method_71_code
def yX7_tieBy : MethodName := ⟨RX7, "tieBy", "(I)I"⟩
abbrev cX7_isAgain : ByteArray := prog_9_method_72_code
def yX7_isAgain : MethodName := ⟨RX7, "isAgain", "(I)Z"⟩
abbrev cX7_order : ByteArray := prog_9_method_73_code
def yX7_order : MethodName := ⟨RX7, "order", "()I"⟩
abbrev cX7_ordered : ByteArray := prog_9_method_74_code
def yX7_ordered : MethodName := ⟨RX7, "ordered", "(I)I"⟩
abbrev cX7_writes : ByteArray := prog_9_method_75_code
def yX7_writes : MethodName := ⟨RX7, "writes", "(I)V"⟩
abbrev cX7_writesNumber : ByteArray := prog_9_method_76_code
def yX7_writesNumber : MethodName := ⟨RX7, "writesNumber", "(I)V"⟩
abbrev cX7_writesRound : ByteArray := prog_9_method_77_code
def yX7_writesRound : MethodName := ⟨RX7, "writesRound", "(II)V"⟩
abbrev cX7_line : ByteArray := prog_9_method_78_code
def yX7_line : MethodName := ⟨RX7, "line", "(I)I"⟩
abbrev cX7_paper : ByteArray := prog_9_method_79_code
def yX7_paper : MethodName := ⟨RX7, "paper", "(I)I"⟩
abbrev cX7_metTwos : ByteArray := prog_9_method_80_code
def yX7_metTwos : MethodName := ⟨RX7, "metTwos", "()I"⟩
abbrev cX7_allPoints : ByteArray := prog_9_method_81_code
def yX7_allPoints : MethodName := ⟨RX7, "allPoints", "()I"⟩
abbrev cX7_told : ByteArray := prog_9_method_82_code
def yX7_told : MethodName := ⟨RX7, "told", "(I)I"⟩
abbrev cX7_isList : ByteArray := prog_9_method_83_code
def yX7_isList : MethodName := ⟨RX7, "isList", "(I)Z"⟩
abbrev cX7_list : ByteArray := prog_9_method_84_code
def yX7_list : MethodName := ⟨RX7, "list", "(II)I"⟩
abbrev cX7_set : ByteArray := prog_9_method_85_code
def yX7_set : MethodName := ⟨RX7, "set", "(III)I"⟩
abbrev cX7_get : ByteArray := prog_9_method_86_code
def yX7_get : MethodName := ⟨RX7, "get", "(II)I"⟩
abbrev cX7_lay : ByteArray := prog_9_method_87_code
def yX7_lay : MethodName := ⟨RX7, "lay", "(II)I"⟩
abbrev cX7_judge : ByteArray := prog_9_method_88_code
def yX7_judge : MethodName := ⟨RX7, "judge", "(II)I"⟩
abbrev cX7_carry : ByteArray := prog_9_method_89_code
def yX7_carry : MethodName := ⟨RX7, "carry", "(I)I"⟩
abbrev cX7_carryAll : ByteArray := prog_9_method_90_code
def yX7_carryAll : MethodName := ⟨RX7, "carryAll", "(Z)V"⟩
abbrev cX7_image : ByteArray := prog_9_method_91_code
def yX7_image : MethodName := ⟨RX7, "image", "()I"⟩
abbrev cX7_undo : ByteArray := prog_9_method_92_code
def yX7_undo : MethodName := ⟨RX7, "undo", "()I"⟩
def RJ11 : String := "java/lang/Character"
def TJ11 : u_T := fun k => match k with
  | _ => ("", "", "", false)
def tyJ11 : Nat → FieldType := fun k => match k with
  | _ => .int
abbrev cJ11_isValidCodePoint_9a6ad : ByteArray := prog_10_method_11_code
def yJ11_isValidCodePoint_9a6ad : MethodName := ⟨RJ11, "isValidCodePoint", "(I)Z"⟩
abbrev cJ11_highSurrogate_5068e : ByteArray := prog_10_method_28_code
def yJ11_highSurrogate_5068e : MethodName := ⟨RJ11, "highSurrogate", "(I)C"⟩
abbrev cJ11_lowSurrogate_5068e : ByteArray := prog_10_method_29_code
def yJ11_lowSurrogate_5068e : MethodName := ⟨RJ11, "lowSurrogate", "(I)C"⟩
def RJ6 : String := "java/lang/Integer"
def TJ6 : u_T := fun k => match k with
  | _ => ("", "", "", false)
def tyJ6 : Nat → FieldType := fun k => match k with
  | _ => .int
abbrev cJ6_bitCount_0f7a4 : ByteArray := prog_11_method_49_code
def yJ6_bitCount_0f7a4 : MethodName := ⟨RJ6, "bitCount", "(I)I"⟩
def RJ9 : String := "java/lang/Math"
def TJ9 : u_T := fun k => match k with
  | _ => ("", "", "", false)
def tyJ9 : Nat → FieldType := fun k => match k with
  | _ => .int
abbrev cJ9_abs_0f7a4 : ByteArray := prog_12_method_59_code
def yJ9_abs_0f7a4 : MethodName := ⟨RJ9, "abs", "(I)I"⟩
abbrev cJ9_max_7cf53 : ByteArray := prog_12_method_65_code
def yJ9_max_7cf53 : MethodName := ⟨RJ9, "max", "(II)I"⟩
abbrev cJ9_min_7cf53 : ByteArray := prog_12_method_69_code
def yJ9_min_7cf53 : MethodName := ⟨RJ9, "min", "(II)I"⟩
def RJ0 : String := "java/lang/String"
def TJ0 : u_T := fun k => match k with
  | _ => ("", "", "", false)
def tyJ0 : Nat → FieldType := fun k => match k with
  | _ => .int
abbrev cJ0_length_8abf5 : ByteArray := prog_13_method_54_code
def yJ0_length_8abf5 : MethodName := ⟨RJ0, "length", "()I"⟩
abbrev cJ0_indexOf_0f7a4 : ByteArray := prog_13_method_79_code
def yJ0_indexOf_0f7a4 : MethodName := ⟨RJ0, "indexOf", "(I)I"⟩
abbrev cJ0_indexOf_7cf53 : ByteArray := prog_13_method_80_code
def yJ0_indexOf_7cf53 : MethodName := ⟨RJ0, "indexOf", "(II)I"⟩
abbrev cJ0_coder_7d493 : ByteArray := prog_13_method_152_code
def yJ0_coder_7d493 : MethodName := ⟨RJ0, "coder", "()B"⟩
abbrev cJ0_isLatin1_aae02 : ByteArray := prog_13_method_154_code
def yJ0_isLatin1_aae02 : MethodName := ⟨RJ0, "isLatin1", "()Z"⟩
abbrev cJ0_checkBoundsBeginEnd_23922 : ByteArray := prog_13_method_158_code
def yJ0_checkBoundsBeginEnd_23922 : MethodName := ⟨RJ0, "checkBoundsBeginEnd", "(III)V"⟩
def RJ1 : String := "java/lang/StringLatin1"
def TJ1 : u_T := fun k => match k with
  | _ => ("", "", "", false)
def tyJ1 : Nat → FieldType := fun k => match k with
  | _ => .int
abbrev cJ1_canEncode_9a6ad : ByteArray := prog_14_method_4_code
def yJ1_canEncode_9a6ad : MethodName := ⟨RJ1, "canEncode", "(I)Z"⟩
abbrev cJ1_indexOf_4cfef : ByteArray := prog_14_method_22_code
def yJ1_indexOf_4cfef : MethodName := ⟨RJ1, "indexOf", "([BIII)I"⟩
abbrev cJ1_indexOfChar_4cfef : ByteArray := prog_14_method_23_code
def yJ1_indexOfChar_4cfef : MethodName := ⟨RJ1, "indexOfChar", "([BIII)I"⟩
def RJ2 : String := "java/lang/StringUTF16"
def TJ2 : u_T := fun k => match k with
  | _ => ("", "", "", false)
def tyJ2 : Nat → FieldType := fun k => match k with
  | _ => .int
abbrev cJ2_getChar_3b067 : ByteArray := prog_15_method_5_code
def yJ2_getChar_3b067 : MethodName := ⟨RJ2, "getChar", "([BI)C"⟩
abbrev cJ2_length_9d52b : ByteArray := prog_15_method_6_code
def yJ2_length_9d52b : MethodName := ⟨RJ2, "length", "([B)I"⟩
abbrev cJ2_indexOf_4cfef : ByteArray := prog_15_method_40_code
def yJ2_indexOf_4cfef : MethodName := ⟨RJ2, "indexOf", "([BIII)I"⟩
abbrev cJ2_indexOfChar_4cfef : ByteArray := prog_15_method_47_code
def yJ2_indexOfChar_4cfef : MethodName := ⟨RJ2, "indexOfChar", "([BIII)I"⟩
abbrev cJ2_indexOfCharUnsafe_4cfef : ByteArray := prog_15_method_48_code
def yJ2_indexOfCharUnsafe_4cfef : MethodName := ⟨RJ2, "indexOfCharUnsafe", "([BIII)I"⟩
abbrev cJ2_indexOfSupplementary_4cfef : ByteArray := prog_15_method_49_code
def yJ2_indexOfSupplementary_4cfef : MethodName := ⟨RJ2, "indexOfSupplementary", "([BIII)I"⟩
abbrev cJ2_checkBoundsBeginEnd_d044e : ByteArray := prog_15_method_93_code
def yJ2_checkBoundsBeginEnd_d044e : MethodName := ⟨RJ2, "checkBoundsBeginEnd", "(II[B)V"⟩
def RJ3 : String := "jdk/internal/util/Preconditions"
def TJ3 : u_T := fun k => match k with
  | _ => ("", "", "", false)
def tyJ3 : Nat → FieldType := fun k => match k with
  | _ => .int
abbrev cJ3_checkFromToIndex_8c36e : ByteArray := prog_16_method_12_code
def yJ3_checkFromToIndex_8c36e : MethodName := ⟨RJ3, "checkFromToIndex", "(IIILjava/util/function/BiFunction;)I"⟩
def RL : String := "SwissRoundsLaw"
abbrev cL_law : ByteArray := code
abbrev vwCl : List vw_C := [(RX0, TX0, 12), (RX1, TX1, 8), (RX2, TX2, 1), (RX3, TX3, 2), (RX4, TX4, 10), (RX5, TX5, 2), (RX6, TX6, 8), (RX7, TX7, 33)]
end
section
theorem dX0_init_0 : decode cX0_init 0 = .ok (.aload_n 0, 1) := by decide +kernel
theorem dX0_init_1 : decode cX0_init 1 = .ok (.invokespecial 3, 3) := by decide +kernel
theorem dX0_init_4 : decode cX0_init 4 = .ok (.aload_n 0, 1) := by decide +kernel
theorem dX0_init_5 : decode cX0_init 5 = .ok (.new 9, 3) := by decide +kernel
theorem dX0_init_8 : decode cX0_init 8 = .ok (.dup, 1) := by decide +kernel
theorem dX0_init_9 : decode cX0_init 9 = .ok (.bipush 12, 2) := by decide +kernel
theorem dX0_init_11 : decode cX0_init 11 = .ok (.invokespecial 11, 3) := by decide +kernel
theorem dX0_init_14 : decode cX0_init 14 = .ok (.putfield 14, 3) := by decide +kernel
theorem dX0_init_17 : decode cX0_init 17 = .ok (.aload_n 0, 1) := by decide +kernel
theorem dX0_init_18 : decode cX0_init 18 = .ok (.new 9, 3) := by decide +kernel
theorem dX0_init_21 : decode cX0_init 21 = .ok (.dup, 1) := by decide +kernel
theorem dX0_init_22 : decode cX0_init 22 = .ok (.bipush 12, 2) := by decide +kernel
theorem dX0_init_24 : decode cX0_init 24 = .ok (.invokespecial 11, 3) := by decide +kernel
theorem dX0_init_27 : decode cX0_init 27 = .ok (.putfield 20, 3) := by decide +kernel
theorem dX0_init_30 : decode cX0_init 30 = .ok (.aload_n 0, 1) := by decide +kernel
theorem dX0_init_31 : decode cX0_init 31 = .ok (.new 9, 3) := by decide +kernel
theorem dX0_init_34 : decode cX0_init 34 = .ok (.dup, 1) := by decide +kernel
theorem dX0_init_35 : decode cX0_init 35 = .ok (.bipush 20, 2) := by decide +kernel
theorem dX0_init_37 : decode cX0_init 37 = .ok (.invokespecial 11, 3) := by decide +kernel
theorem dX0_init_40 : decode cX0_init 40 = .ok (.putfield 23, 3) := by decide +kernel
theorem dX0_init_43 : decode cX0_init 43 = .ok (.aload_n 0, 1) := by decide +kernel
theorem dX0_init_44 : decode cX0_init 44 = .ok (.new 9, 3) := by decide +kernel
theorem dX0_init_47 : decode cX0_init 47 = .ok (.dup, 1) := by decide +kernel
theorem dX0_init_48 : decode cX0_init 48 = .ok (.bipush 20, 2) := by decide +kernel
theorem dX0_init_50 : decode cX0_init 50 = .ok (.invokespecial 11, 3) := by decide +kernel
theorem dX0_init_53 : decode cX0_init 53 = .ok (.putfield 26, 3) := by decide +kernel
theorem dX0_init_56 : decode cX0_init 56 = .ok (.aload_n 0, 1) := by decide +kernel
theorem dX0_init_57 : decode cX0_init 57 = .ok (.new 9, 3) := by decide +kernel
theorem dX0_init_60 : decode cX0_init 60 = .ok (.dup, 1) := by decide +kernel
theorem dX0_init_61 : decode cX0_init 61 = .ok (.bipush 120, 2) := by decide +kernel
theorem dX0_init_63 : decode cX0_init 63 = .ok (.invokespecial 11, 3) := by decide +kernel
theorem dX0_init_66 : decode cX0_init 66 = .ok (.putfield 29, 3) := by decide +kernel
theorem dX0_init_69 : decode cX0_init 69 = .ok (.aload_n 0, 1) := by decide +kernel
theorem dX0_init_70 : decode cX0_init 70 = .ok (.new 9, 3) := by decide +kernel
theorem dX0_init_73 : decode cX0_init 73 = .ok (.dup, 1) := by decide +kernel
theorem dX0_init_74 : decode cX0_init 74 = .ok (.bipush 120, 2) := by decide +kernel
theorem dX0_init_76 : decode cX0_init 76 = .ok (.invokespecial 11, 3) := by decide +kernel
theorem dX0_init_79 : decode cX0_init 79 = .ok (.putfield 32, 3) := by decide +kernel
theorem dX0_init_82 : decode cX0_init 82 = .ok (.aload_n 0, 1) := by decide +kernel
theorem dX0_init_83 : decode cX0_init 83 = .ok (.new 9, 3) := by decide +kernel
theorem dX0_init_86 : decode cX0_init 86 = .ok (.dup, 1) := by decide +kernel
theorem dX0_init_87 : decode cX0_init 87 = .ok (.bipush 120, 2) := by decide +kernel
theorem dX0_init_89 : decode cX0_init 89 = .ok (.invokespecial 11, 3) := by decide +kernel
theorem dX0_init_92 : decode cX0_init 92 = .ok (.putfield 35, 3) := by decide +kernel
theorem dX0_init_95 : decode cX0_init 95 = .ok (.aload_n 0, 1) := by decide +kernel
theorem dX0_init_96 : decode cX0_init 96 = .ok (.iconst 5, 1) := by decide +kernel
theorem dX0_init_97 : decode cX0_init 97 = .ok (.putfield 38, 3) := by decide +kernel
theorem dX0_init_100 : decode cX0_init 100 = .ok (.aload_n 0, 1) := by decide +kernel
theorem dX0_init_101 : decode cX0_init 101 = .ok (.new 9, 3) := by decide +kernel
theorem dX0_init_104 : decode cX0_init 104 = .ok (.dup, 1) := by decide +kernel
theorem dX0_init_105 : decode cX0_init 105 = .ok (.bipush 9, 2) := by decide +kernel
theorem dX0_init_107 : decode cX0_init 107 = .ok (.invokespecial 11, 3) := by decide +kernel
theorem dX0_init_110 : decode cX0_init 110 = .ok (.putfield 42, 3) := by decide +kernel
theorem dX0_init_113 : decode cX0_init 113 = .ok (.aload_n 0, 1) := by decide +kernel
theorem dX0_init_114 : decode cX0_init 114 = .ok (.getfield 42, 3) := by decide +kernel
theorem dX0_init_117 : decode cX0_init 117 = .ok (.iconst 0, 1) := by decide +kernel
theorem dX0_init_118 : decode cX0_init 118 = .ok (.iconst 0, 1) := by decide +kernel
theorem dX0_init_119 : decode cX0_init 119 = .ok (.invokevirtual 45, 3) := by decide +kernel
theorem dX0_init_122 : decode cX0_init 122 = .ok (.aload_n 0, 1) := by decide +kernel
theorem dX0_init_123 : decode cX0_init 123 = .ok (.getfield 42, 3) := by decide +kernel
theorem dX0_init_126 : decode cX0_init 126 = .ok (.iconst 1, 1) := by decide +kernel
theorem dX0_init_127 : decode cX0_init 127 = .ok (.iconst 1, 1) := by decide +kernel
theorem dX0_init_128 : decode cX0_init 128 = .ok (.invokevirtual 45, 3) := by decide +kernel
theorem dX0_init_131 : decode cX0_init 131 = .ok (.aload_n 0, 1) := by decide +kernel
theorem dX0_init_132 : decode cX0_init 132 = .ok (.getfield 42, 3) := by decide +kernel
theorem dX0_init_135 : decode cX0_init 135 = .ok (.iconst 2, 1) := by decide +kernel
theorem dX0_init_136 : decode cX0_init 136 = .ok (.iconst 3, 1) := by decide +kernel
theorem dX0_init_137 : decode cX0_init 137 = .ok (.invokevirtual 45, 3) := by decide +kernel
theorem dX0_init_140 : decode cX0_init 140 = .ok (.aload_n 0, 1) := by decide +kernel
theorem dX0_init_141 : decode cX0_init 141 = .ok (.getfield 42, 3) := by decide +kernel
theorem dX0_init_144 : decode cX0_init 144 = .ok (.iconst 3, 1) := by decide +kernel
theorem dX0_init_145 : decode cX0_init 145 = .ok (.iconst 4, 1) := by decide +kernel
theorem dX0_init_146 : decode cX0_init 146 = .ok (.invokevirtual 45, 3) := by decide +kernel
theorem dX0_init_149 : decode cX0_init 149 = .ok (.aload_n 0, 1) := by decide +kernel
theorem dX0_init_150 : decode cX0_init 150 = .ok (.getfield 42, 3) := by decide +kernel
theorem dX0_init_153 : decode cX0_init 153 = .ok (.iconst 4, 1) := by decide +kernel
theorem dX0_init_154 : decode cX0_init 154 = .ok (.bipush 8, 2) := by decide +kernel
theorem dX0_init_156 : decode cX0_init 156 = .ok (.invokevirtual 45, 3) := by decide +kernel
theorem dX0_init_159 : decode cX0_init 159 = .ok (.return_, 1) := by decide +kernel
theorem dX0_copy_0 : decode cX0_copy 0 = .ok (.aload_n 0, 1) := by decide +kernel
theorem dX0_copy_1 : decode cX0_copy 1 = .ok (.aload_n 1, 1) := by decide +kernel
theorem dX0_copy_2 : decode cX0_copy 2 = .ok (.getfield 49, 3) := by decide +kernel
theorem dX0_copy_5 : decode cX0_copy 5 = .ok (.putfield 49, 3) := by decide +kernel
theorem dX0_copy_8 : decode cX0_copy 8 = .ok (.aload_n 0, 1) := by decide +kernel
theorem dX0_copy_9 : decode cX0_copy 9 = .ok (.getfield 14, 3) := by decide +kernel
theorem dX0_copy_12 : decode cX0_copy 12 = .ok (.aload_n 1, 1) := by decide +kernel
theorem dX0_copy_13 : decode cX0_copy 13 = .ok (.getfield 14, 3) := by decide +kernel
theorem dX0_copy_16 : decode cX0_copy 16 = .ok (.invokevirtual 52, 3) := by decide +kernel
theorem dX0_copy_19 : decode cX0_copy 19 = .ok (.aload_n 0, 1) := by decide +kernel
theorem dX0_copy_20 : decode cX0_copy 20 = .ok (.getfield 20, 3) := by decide +kernel
theorem dX0_copy_23 : decode cX0_copy 23 = .ok (.aload_n 1, 1) := by decide +kernel
theorem dX0_copy_24 : decode cX0_copy 24 = .ok (.getfield 20, 3) := by decide +kernel
theorem dX0_copy_27 : decode cX0_copy 27 = .ok (.invokevirtual 52, 3) := by decide +kernel
theorem dX0_copy_30 : decode cX0_copy 30 = .ok (.aload_n 0, 1) := by decide +kernel
theorem dX0_copy_31 : decode cX0_copy 31 = .ok (.aload_n 1, 1) := by decide +kernel
theorem dX0_copy_32 : decode cX0_copy 32 = .ok (.getfield 56, 3) := by decide +kernel
theorem dX0_copy_35 : decode cX0_copy 35 = .ok (.putfield 56, 3) := by decide +kernel
theorem dX0_copy_38 : decode cX0_copy 38 = .ok (.aload_n 0, 1) := by decide +kernel
theorem dX0_copy_39 : decode cX0_copy 39 = .ok (.aload_n 1, 1) := by decide +kernel
theorem dX0_copy_40 : decode cX0_copy 40 = .ok (.getfield 59, 3) := by decide +kernel
theorem dX0_copy_43 : decode cX0_copy 43 = .ok (.putfield 59, 3) := by decide +kernel
theorem dX0_copy_46 : decode cX0_copy 46 = .ok (.aload_n 0, 1) := by decide +kernel
theorem dX0_copy_47 : decode cX0_copy 47 = .ok (.getfield 23, 3) := by decide +kernel
theorem dX0_copy_50 : decode cX0_copy 50 = .ok (.aload_n 1, 1) := by decide +kernel
theorem dX0_copy_51 : decode cX0_copy 51 = .ok (.getfield 23, 3) := by decide +kernel
theorem dX0_copy_54 : decode cX0_copy 54 = .ok (.invokevirtual 52, 3) := by decide +kernel
theorem dX0_copy_57 : decode cX0_copy 57 = .ok (.aload_n 0, 1) := by decide +kernel
theorem dX0_copy_58 : decode cX0_copy 58 = .ok (.getfield 26, 3) := by decide +kernel
theorem dX0_copy_61 : decode cX0_copy 61 = .ok (.aload_n 1, 1) := by decide +kernel
theorem dX0_copy_62 : decode cX0_copy 62 = .ok (.getfield 26, 3) := by decide +kernel
theorem dX0_copy_65 : decode cX0_copy 65 = .ok (.invokevirtual 52, 3) := by decide +kernel
theorem dX0_copy_68 : decode cX0_copy 68 = .ok (.aload_n 0, 1) := by decide +kernel
theorem dX0_copy_69 : decode cX0_copy 69 = .ok (.getfield 29, 3) := by decide +kernel
theorem dX0_copy_72 : decode cX0_copy 72 = .ok (.aload_n 1, 1) := by decide +kernel
theorem dX0_copy_73 : decode cX0_copy 73 = .ok (.getfield 29, 3) := by decide +kernel
theorem dX0_copy_76 : decode cX0_copy 76 = .ok (.invokevirtual 52, 3) := by decide +kernel
theorem dX0_copy_79 : decode cX0_copy 79 = .ok (.aload_n 0, 1) := by decide +kernel
theorem dX0_copy_80 : decode cX0_copy 80 = .ok (.getfield 32, 3) := by decide +kernel
theorem dX0_copy_83 : decode cX0_copy 83 = .ok (.aload_n 1, 1) := by decide +kernel
theorem dX0_copy_84 : decode cX0_copy 84 = .ok (.getfield 32, 3) := by decide +kernel
theorem dX0_copy_87 : decode cX0_copy 87 = .ok (.invokevirtual 52, 3) := by decide +kernel
theorem dX0_copy_90 : decode cX0_copy 90 = .ok (.aload_n 0, 1) := by decide +kernel
theorem dX0_copy_91 : decode cX0_copy 91 = .ok (.getfield 35, 3) := by decide +kernel
theorem dX0_copy_94 : decode cX0_copy 94 = .ok (.aload_n 1, 1) := by decide +kernel
theorem dX0_copy_95 : decode cX0_copy 95 = .ok (.getfield 35, 3) := by decide +kernel
theorem dX0_copy_98 : decode cX0_copy 98 = .ok (.invokevirtual 52, 3) := by decide +kernel
theorem dX0_copy_101 : decode cX0_copy 101 = .ok (.aload_n 0, 1) := by decide +kernel
theorem dX0_copy_102 : decode cX0_copy 102 = .ok (.aload_n 1, 1) := by decide +kernel
theorem dX0_copy_103 : decode cX0_copy 103 = .ok (.getfield 38, 3) := by decide +kernel
theorem dX0_copy_106 : decode cX0_copy 106 = .ok (.putfield 38, 3) := by decide +kernel
theorem dX0_copy_109 : decode cX0_copy 109 = .ok (.aload_n 0, 1) := by decide +kernel
theorem dX0_copy_110 : decode cX0_copy 110 = .ok (.getfield 42, 3) := by decide +kernel
theorem dX0_copy_113 : decode cX0_copy 113 = .ok (.aload_n 1, 1) := by decide +kernel
theorem dX0_copy_114 : decode cX0_copy 114 = .ok (.getfield 42, 3) := by decide +kernel
theorem dX0_copy_117 : decode cX0_copy 117 = .ok (.invokevirtual 52, 3) := by decide +kernel
theorem dX0_copy_120 : decode cX0_copy 120 = .ok (.return_, 1) := by decide +kernel
theorem dX0_enter_0 : decode cX0_enter 0 = .ok (.aload_n 0, 1) := by decide +kernel
theorem dX0_enter_1 : decode cX0_enter 1 = .ok (.getfield 49, 3) := by decide +kernel
theorem dX0_enter_4 : decode cX0_enter 4 = .ok (.istore_n 2, 1) := by decide +kernel
theorem dX0_enter_5 : decode cX0_enter 5 = .ok (.aload_n 0, 1) := by decide +kernel
theorem dX0_enter_6 : decode cX0_enter 6 = .ok (.getfield 14, 3) := by decide +kernel
theorem dX0_enter_9 : decode cX0_enter 9 = .ok (.iload_n 2, 1) := by decide +kernel
theorem dX0_enter_10 : decode cX0_enter 10 = .ok (.iload_n 1, 1) := by decide +kernel
theorem dX0_enter_11 : decode cX0_enter 11 = .ok (.invokevirtual 45, 3) := by decide +kernel
theorem dX0_enter_14 : decode cX0_enter 14 = .ok (.aload_n 0, 1) := by decide +kernel
theorem dX0_enter_15 : decode cX0_enter 15 = .ok (.getfield 20, 3) := by decide +kernel
theorem dX0_enter_18 : decode cX0_enter 18 = .ok (.iload_n 2, 1) := by decide +kernel
theorem dX0_enter_19 : decode cX0_enter 19 = .ok (.iconst 1, 1) := by decide +kernel
theorem dX0_enter_20 : decode cX0_enter 20 = .ok (.invokevirtual 45, 3) := by decide +kernel
theorem dX0_enter_23 : decode cX0_enter 23 = .ok (.aload_n 0, 1) := by decide +kernel
theorem dX0_enter_24 : decode cX0_enter 24 = .ok (.dup, 1) := by decide +kernel
theorem dX0_enter_25 : decode cX0_enter 25 = .ok (.getfield 49, 3) := by decide +kernel
theorem dX0_enter_28 : decode cX0_enter 28 = .ok (.iconst 1, 1) := by decide +kernel
theorem dX0_enter_29 : decode cX0_enter 29 = .ok (.iadd, 1) := by decide +kernel
theorem dX0_enter_30 : decode cX0_enter 30 = .ok (.putfield 49, 3) := by decide +kernel
theorem dX0_enter_33 : decode cX0_enter 33 = .ok (.iload_n 2, 1) := by decide +kernel
theorem dX0_enter_34 : decode cX0_enter 34 = .ok (.ireturn, 1) := by decide +kernel
theorem dX0_countInside_0 : decode cX0_countInside 0 = .ok (.iconst 0, 1) := by decide +kernel
theorem dX0_countInside_1 : decode cX0_countInside 1 = .ok (.istore_n 1, 1) := by decide +kernel
theorem dX0_countInside_2 : decode cX0_countInside 2 = .ok (.iconst 0, 1) := by decide +kernel
theorem dX0_countInside_3 : decode cX0_countInside 3 = .ok (.istore_n 2, 1) := by decide +kernel
theorem dX0_countInside_4 : decode cX0_countInside 4 = .ok (.iload_n 2, 1) := by decide +kernel
theorem dX0_countInside_5 : decode cX0_countInside 5 = .ok (.aload_n 0, 1) := by decide +kernel
theorem dX0_countInside_6 : decode cX0_countInside 6 = .ok (.getfield 49, 3) := by decide +kernel
theorem dX0_countInside_9 : decode cX0_countInside 9 = .ok (.if_icmp .ge 20, 3) := by decide +kernel
theorem dX0_countInside_12 : decode cX0_countInside 12 = .ok (.iload_n 1, 1) := by decide +kernel
theorem dX0_countInside_13 : decode cX0_countInside 13 = .ok (.aload_n 0, 1) := by decide +kernel
theorem dX0_countInside_14 : decode cX0_countInside 14 = .ok (.getfield 20, 3) := by decide +kernel
theorem dX0_countInside_17 : decode cX0_countInside 17 = .ok (.iload_n 2, 1) := by decide +kernel
theorem dX0_countInside_18 : decode cX0_countInside 18 = .ok (.invokevirtual 63, 3) := by decide +kernel
theorem dX0_countInside_21 : decode cX0_countInside 21 = .ok (.iadd, 1) := by decide +kernel
theorem dX0_countInside_22 : decode cX0_countInside 22 = .ok (.istore_n 1, 1) := by decide +kernel
theorem dX0_countInside_23 : decode cX0_countInside 23 = .ok (.iinc 2 1, 3) := by decide +kernel
theorem dX0_countInside_26 : decode cX0_countInside 26 = .ok (.goto (-22), 3) := by decide +kernel
theorem dX0_countInside_29 : decode cX0_countInside 29 = .ok (.iload_n 1, 1) := by decide +kernel
theorem dX0_countInside_30 : decode cX0_countInside 30 = .ok (.ireturn, 1) := by decide +kernel
theorem dX0_countDone_0 : decode cX0_countDone 0 = .ok (.aload_n 0, 1) := by decide +kernel
theorem dX0_countDone_1 : decode cX0_countDone 1 = .ok (.getfield 59, 3) := by decide +kernel
theorem dX0_countDone_4 : decode cX0_countDone 4 = .ok (.ifCond .eq 12, 3) := by decide +kernel
theorem dX0_countDone_7 : decode cX0_countDone 7 = .ok (.aload_n 0, 1) := by decide +kernel
theorem dX0_countDone_8 : decode cX0_countDone 8 = .ok (.getfield 56, 3) := by decide +kernel
theorem dX0_countDone_11 : decode cX0_countDone 11 = .ok (.iconst 1, 1) := by decide +kernel
theorem dX0_countDone_12 : decode cX0_countDone 12 = .ok (.isub, 1) := by decide +kernel
theorem dX0_countDone_13 : decode cX0_countDone 13 = .ok (.goto 7, 3) := by decide +kernel
theorem dX0_countDone_16 : decode cX0_countDone 16 = .ok (.aload_n 0, 1) := by decide +kernel
theorem dX0_countDone_17 : decode cX0_countDone 17 = .ok (.getfield 56, 3) := by decide +kernel
theorem dX0_countDone_20 : decode cX0_countDone 20 = .ok (.ireturn, 1) := by decide +kernel
theorem dX0_boardCell_0 : decode cX0_boardCell 0 = .ok (.iload_n 0, 1) := by decide +kernel
theorem dX0_boardCell_1 : decode cX0_boardCell 1 = .ok (.bipush 6, 2) := by decide +kernel
theorem dX0_boardCell_3 : decode cX0_boardCell 3 = .ok (.imul, 1) := by decide +kernel
theorem dX0_boardCell_4 : decode cX0_boardCell 4 = .ok (.iload_n 1, 1) := by decide +kernel
theorem dX0_boardCell_5 : decode cX0_boardCell 5 = .ok (.iadd, 1) := by decide +kernel
theorem dX0_boardCell_6 : decode cX0_boardCell 6 = .ok (.ireturn, 1) := by decide +kernel
theorem dX0_countOutcomes_0 : decode cX0_countOutcomes 0 = .ok (.iconst 0, 1) := by decide +kernel
theorem dX0_countOutcomes_1 : decode cX0_countOutcomes 1 = .ok (.istore_n 2, 1) := by decide +kernel
theorem dX0_countOutcomes_2 : decode cX0_countOutcomes 2 = .ok (.iconst 0, 1) := by decide +kernel
theorem dX0_countOutcomes_3 : decode cX0_countOutcomes 3 = .ok (.istore_n 3, 1) := by decide +kernel
theorem dX0_countOutcomes_4 : decode cX0_countOutcomes 4 = .ok (.iload_n 3, 1) := by decide +kernel
theorem dX0_countOutcomes_5 : decode cX0_countOutcomes 5 = .ok (.aload_n 0, 1) := by decide +kernel
theorem dX0_countOutcomes_6 : decode cX0_countOutcomes 6 = .ok (.getfield 23, 3) := by decide +kernel
theorem dX0_countOutcomes_9 : decode cX0_countOutcomes 9 = .ok (.iload_n 1, 1) := by decide +kernel
theorem dX0_countOutcomes_10 : decode cX0_countOutcomes 10 = .ok (.invokevirtual 63, 3) := by decide +kernel
theorem dX0_countOutcomes_13 : decode cX0_countOutcomes 13 = .ok (.if_icmp .ge 27, 3) := by decide +kernel
theorem dX0_countOutcomes_16 : decode cX0_countOutcomes 16 = .ok (.aload_n 0, 1) := by decide +kernel
theorem dX0_countOutcomes_17 : decode cX0_countOutcomes 17 = .ok (.getfield 35, 3) := by decide +kernel
theorem dX0_countOutcomes_20 : decode cX0_countOutcomes 20 = .ok (.iload_n 1, 1) := by decide +kernel
theorem dX0_countOutcomes_21 : decode cX0_countOutcomes 21 = .ok (.iload_n 3, 1) := by decide +kernel
theorem dX0_countOutcomes_22 : decode cX0_countOutcomes 22 = .ok (.invokestatic 67, 3) := by decide +kernel
theorem dX0_countOutcomes_25 : decode cX0_countOutcomes 25 = .ok (.invokevirtual 63, 3) := by decide +kernel
theorem dX0_countOutcomes_28 : decode cX0_countOutcomes 28 = .ok (.ifCond .eq 6, 3) := by decide +kernel
theorem dX0_countOutcomes_31 : decode cX0_countOutcomes 31 = .ok (.iinc 2 1, 3) := by decide +kernel
theorem dX0_countOutcomes_34 : decode cX0_countOutcomes 34 = .ok (.iinc 3 1, 3) := by decide +kernel
theorem dX0_countOutcomes_37 : decode cX0_countOutcomes 37 = .ok (.goto (-33), 3) := by decide +kernel
theorem dX0_countOutcomes_40 : decode cX0_countOutcomes 40 = .ok (.iload_n 2, 1) := by decide +kernel
theorem dX0_countOutcomes_41 : decode cX0_countOutcomes 41 = .ok (.ireturn, 1) := by decide +kernel
theorem dX0_startRound_0 : decode cX0_startRound 0 = .ok (.aload_n 0, 1) := by decide +kernel
theorem dX0_startRound_1 : decode cX0_startRound 1 = .ok (.getfield 23, 3) := by decide +kernel
theorem dX0_startRound_4 : decode cX0_startRound 4 = .ok (.aload_n 0, 1) := by decide +kernel
theorem dX0_startRound_5 : decode cX0_startRound 5 = .ok (.getfield 56, 3) := by decide +kernel
theorem dX0_startRound_8 : decode cX0_startRound 8 = .ok (.iconst 0, 1) := by decide +kernel
theorem dX0_startRound_9 : decode cX0_startRound 9 = .ok (.invokevirtual 45, 3) := by decide +kernel
theorem dX0_startRound_12 : decode cX0_startRound 12 = .ok (.aload_n 0, 1) := by decide +kernel
theorem dX0_startRound_13 : decode cX0_startRound 13 = .ok (.getfield 26, 3) := by decide +kernel
theorem dX0_startRound_16 : decode cX0_startRound 16 = .ok (.aload_n 0, 1) := by decide +kernel
theorem dX0_startRound_17 : decode cX0_startRound 17 = .ok (.getfield 56, 3) := by decide +kernel
theorem dX0_startRound_20 : decode cX0_startRound 20 = .ok (.iload_n 1, 1) := by decide +kernel
theorem dX0_startRound_21 : decode cX0_startRound 21 = .ok (.invokevirtual 45, 3) := by decide +kernel
theorem dX0_startRound_24 : decode cX0_startRound 24 = .ok (.aload_n 0, 1) := by decide +kernel
theorem dX0_startRound_25 : decode cX0_startRound 25 = .ok (.dup, 1) := by decide +kernel
theorem dX0_startRound_26 : decode cX0_startRound 26 = .ok (.getfield 56, 3) := by decide +kernel
theorem dX0_startRound_29 : decode cX0_startRound 29 = .ok (.iconst 1, 1) := by decide +kernel
theorem dX0_startRound_30 : decode cX0_startRound 30 = .ok (.iadd, 1) := by decide +kernel
theorem dX0_startRound_31 : decode cX0_startRound 31 = .ok (.putfield 56, 3) := by decide +kernel
theorem dX0_startRound_34 : decode cX0_startRound 34 = .ok (.aload_n 0, 1) := by decide +kernel
theorem dX0_startRound_35 : decode cX0_startRound 35 = .ok (.iconst 1, 1) := by decide +kernel
theorem dX0_startRound_36 : decode cX0_startRound 36 = .ok (.putfield 59, 3) := by decide +kernel
theorem dX0_startRound_39 : decode cX0_startRound 39 = .ok (.return_, 1) := by decide +kernel
theorem dX0_addBoard_0 : decode cX0_addBoard 0 = .ok (.aload_n 0, 1) := by decide +kernel
theorem dX0_addBoard_1 : decode cX0_addBoard 1 = .ok (.getfield 56, 3) := by decide +kernel
theorem dX0_addBoard_4 : decode cX0_addBoard 4 = .ok (.iconst 1, 1) := by decide +kernel
theorem dX0_addBoard_5 : decode cX0_addBoard 5 = .ok (.isub, 1) := by decide +kernel
theorem dX0_addBoard_6 : decode cX0_addBoard 6 = .ok (.istore_n 3, 1) := by decide +kernel
theorem dX0_addBoard_7 : decode cX0_addBoard 7 = .ok (.iload_n 3, 1) := by decide +kernel
theorem dX0_addBoard_8 : decode cX0_addBoard 8 = .ok (.aload_n 0, 1) := by decide +kernel
theorem dX0_addBoard_9 : decode cX0_addBoard 9 = .ok (.getfield 23, 3) := by decide +kernel
theorem dX0_addBoard_12 : decode cX0_addBoard 12 = .ok (.iload_n 3, 1) := by decide +kernel
theorem dX0_addBoard_13 : decode cX0_addBoard 13 = .ok (.invokevirtual 63, 3) := by decide +kernel
theorem dX0_addBoard_16 : decode cX0_addBoard 16 = .ok (.invokestatic 67, 3) := by decide +kernel
theorem dX0_addBoard_19 : decode cX0_addBoard 19 = .ok (.istore 4, 2) := by decide +kernel
theorem dX0_addBoard_21 : decode cX0_addBoard 21 = .ok (.aload_n 0, 1) := by decide +kernel
theorem dX0_addBoard_22 : decode cX0_addBoard 22 = .ok (.getfield 29, 3) := by decide +kernel
theorem dX0_addBoard_25 : decode cX0_addBoard 25 = .ok (.iload 4, 2) := by decide +kernel
theorem dX0_addBoard_27 : decode cX0_addBoard 27 = .ok (.iload_n 1, 1) := by decide +kernel
theorem dX0_addBoard_28 : decode cX0_addBoard 28 = .ok (.invokevirtual 45, 3) := by decide +kernel
theorem dX0_addBoard_31 : decode cX0_addBoard 31 = .ok (.aload_n 0, 1) := by decide +kernel
theorem dX0_addBoard_32 : decode cX0_addBoard 32 = .ok (.getfield 32, 3) := by decide +kernel
theorem dX0_addBoard_35 : decode cX0_addBoard 35 = .ok (.iload 4, 2) := by decide +kernel
theorem dX0_addBoard_37 : decode cX0_addBoard 37 = .ok (.iload_n 2, 1) := by decide +kernel
theorem dX0_addBoard_38 : decode cX0_addBoard 38 = .ok (.invokevirtual 45, 3) := by decide +kernel
theorem dX0_addBoard_41 : decode cX0_addBoard 41 = .ok (.aload_n 0, 1) := by decide +kernel
theorem dX0_addBoard_42 : decode cX0_addBoard 42 = .ok (.getfield 35, 3) := by decide +kernel
theorem dX0_addBoard_45 : decode cX0_addBoard 45 = .ok (.iload 4, 2) := by decide +kernel
theorem dX0_addBoard_47 : decode cX0_addBoard 47 = .ok (.iconst 0, 1) := by decide +kernel
theorem dX0_addBoard_48 : decode cX0_addBoard 48 = .ok (.invokevirtual 45, 3) := by decide +kernel
theorem dX0_addBoard_51 : decode cX0_addBoard 51 = .ok (.aload_n 0, 1) := by decide +kernel
theorem dX0_addBoard_52 : decode cX0_addBoard 52 = .ok (.getfield 23, 3) := by decide +kernel
theorem dX0_addBoard_55 : decode cX0_addBoard 55 = .ok (.iload_n 3, 1) := by decide +kernel
theorem dX0_addBoard_56 : decode cX0_addBoard 56 = .ok (.iconst 1, 1) := by decide +kernel
theorem dX0_addBoard_57 : decode cX0_addBoard 57 = .ok (.invokevirtual 71, 3) := by decide +kernel
theorem dX0_addBoard_60 : decode cX0_addBoard 60 = .ok (.return_, 1) := by decide +kernel
theorem dX0_boardWith_0 : decode cX0_boardWith 0 = .ok (.iconst 0, 1) := by decide +kernel
theorem dX0_boardWith_1 : decode cX0_boardWith 1 = .ok (.istore_n 3, 1) := by decide +kernel
theorem dX0_boardWith_2 : decode cX0_boardWith 2 = .ok (.iload_n 3, 1) := by decide +kernel
theorem dX0_boardWith_3 : decode cX0_boardWith 3 = .ok (.aload_n 0, 1) := by decide +kernel
theorem dX0_boardWith_4 : decode cX0_boardWith 4 = .ok (.getfield 23, 3) := by decide +kernel
theorem dX0_boardWith_7 : decode cX0_boardWith 7 = .ok (.iload_n 1, 1) := by decide +kernel
theorem dX0_boardWith_8 : decode cX0_boardWith 8 = .ok (.invokevirtual 63, 3) := by decide +kernel
theorem dX0_boardWith_11 : decode cX0_boardWith 11 = .ok (.if_icmp .ge 44, 3) := by decide +kernel
theorem dX0_boardWith_14 : decode cX0_boardWith 14 = .ok (.iload_n 1, 1) := by decide +kernel
theorem dX0_boardWith_15 : decode cX0_boardWith 15 = .ok (.iload_n 3, 1) := by decide +kernel
theorem dX0_boardWith_16 : decode cX0_boardWith 16 = .ok (.invokestatic 67, 3) := by decide +kernel
theorem dX0_boardWith_19 : decode cX0_boardWith 19 = .ok (.istore 4, 2) := by decide +kernel
theorem dX0_boardWith_21 : decode cX0_boardWith 21 = .ok (.aload_n 0, 1) := by decide +kernel
theorem dX0_boardWith_22 : decode cX0_boardWith 22 = .ok (.getfield 29, 3) := by decide +kernel
theorem dX0_boardWith_25 : decode cX0_boardWith 25 = .ok (.iload 4, 2) := by decide +kernel
theorem dX0_boardWith_27 : decode cX0_boardWith 27 = .ok (.invokevirtual 63, 3) := by decide +kernel
theorem dX0_boardWith_30 : decode cX0_boardWith 30 = .ok (.iload_n 2, 1) := by decide +kernel
theorem dX0_boardWith_31 : decode cX0_boardWith 31 = .ok (.if_icmp .eq 16, 3) := by decide +kernel
theorem dX0_boardWith_34 : decode cX0_boardWith 34 = .ok (.aload_n 0, 1) := by decide +kernel
theorem dX0_boardWith_35 : decode cX0_boardWith 35 = .ok (.getfield 32, 3) := by decide +kernel
theorem dX0_boardWith_38 : decode cX0_boardWith 38 = .ok (.iload 4, 2) := by decide +kernel
theorem dX0_boardWith_40 : decode cX0_boardWith 40 = .ok (.invokevirtual 63, 3) := by decide +kernel
theorem dX0_boardWith_43 : decode cX0_boardWith 43 = .ok (.iload_n 2, 1) := by decide +kernel
theorem dX0_boardWith_44 : decode cX0_boardWith 44 = .ok (.if_icmp .ne 5, 3) := by decide +kernel
theorem dX0_boardWith_47 : decode cX0_boardWith 47 = .ok (.iload_n 3, 1) := by decide +kernel
theorem dX0_boardWith_48 : decode cX0_boardWith 48 = .ok (.ireturn, 1) := by decide +kernel
theorem dX0_boardWith_49 : decode cX0_boardWith 49 = .ok (.iinc 3 1, 3) := by decide +kernel
theorem dX0_boardWith_52 : decode cX0_boardWith 52 = .ok (.goto (-50), 3) := by decide +kernel
theorem dX0_boardWith_55 : decode cX0_boardWith 55 = .ok (.bipush (-5), 2) := by decide +kernel
theorem dX0_boardWith_57 : decode cX0_boardWith 57 = .ok (.ireturn, 1) := by decide +kernel
theorem dX0_colourAt_0 : decode cX0_colourAt 0 = .ok (.aload_n 0, 1) := by decide +kernel
theorem dX0_colourAt_1 : decode cX0_colourAt 1 = .ok (.getfield 29, 3) := by decide +kernel
theorem dX0_colourAt_4 : decode cX0_colourAt 4 = .ok (.iload_n 1, 1) := by decide +kernel
theorem dX0_colourAt_5 : decode cX0_colourAt 5 = .ok (.iload_n 2, 1) := by decide +kernel
theorem dX0_colourAt_6 : decode cX0_colourAt 6 = .ok (.invokestatic 67, 3) := by decide +kernel
theorem dX0_colourAt_9 : decode cX0_colourAt 9 = .ok (.invokevirtual 63, 3) := by decide +kernel
theorem dX0_colourAt_12 : decode cX0_colourAt 12 = .ok (.iload_n 3, 1) := by decide +kernel
theorem dX0_colourAt_13 : decode cX0_colourAt 13 = .ok (.if_icmp .ne 7, 3) := by decide +kernel
theorem dX0_colourAt_16 : decode cX0_colourAt 16 = .ok (.iconst 0, 1) := by decide +kernel
theorem dX0_colourAt_17 : decode cX0_colourAt 17 = .ok (.goto 4, 3) := by decide +kernel
theorem dX0_colourAt_20 : decode cX0_colourAt 20 = .ok (.iconst 1, 1) := by decide +kernel
theorem dX0_colourAt_21 : decode cX0_colourAt 21 = .ok (.ireturn, 1) := by decide +kernel
theorem dX0_otherAt_0 : decode cX0_otherAt 0 = .ok (.iload_n 1, 1) := by decide +kernel
theorem dX0_otherAt_1 : decode cX0_otherAt 1 = .ok (.iload_n 2, 1) := by decide +kernel
theorem dX0_otherAt_2 : decode cX0_otherAt 2 = .ok (.invokestatic 67, 3) := by decide +kernel
theorem dX0_otherAt_5 : decode cX0_otherAt 5 = .ok (.istore 4, 2) := by decide +kernel
theorem dX0_otherAt_7 : decode cX0_otherAt 7 = .ok (.aload_n 0, 1) := by decide +kernel
theorem dX0_otherAt_8 : decode cX0_otherAt 8 = .ok (.getfield 29, 3) := by decide +kernel
theorem dX0_otherAt_11 : decode cX0_otherAt 11 = .ok (.iload 4, 2) := by decide +kernel
theorem dX0_otherAt_13 : decode cX0_otherAt 13 = .ok (.invokevirtual 63, 3) := by decide +kernel
theorem dX0_otherAt_16 : decode cX0_otherAt 16 = .ok (.iload_n 3, 1) := by decide +kernel
theorem dX0_otherAt_17 : decode cX0_otherAt 17 = .ok (.if_icmp .ne 15, 3) := by decide +kernel
theorem dX0_otherAt_20 : decode cX0_otherAt 20 = .ok (.aload_n 0, 1) := by decide +kernel
theorem dX0_otherAt_21 : decode cX0_otherAt 21 = .ok (.getfield 32, 3) := by decide +kernel
theorem dX0_otherAt_24 : decode cX0_otherAt 24 = .ok (.iload 4, 2) := by decide +kernel
theorem dX0_otherAt_26 : decode cX0_otherAt 26 = .ok (.invokevirtual 63, 3) := by decide +kernel
theorem dX0_otherAt_29 : decode cX0_otherAt 29 = .ok (.goto 12, 3) := by decide +kernel
theorem dX0_otherAt_32 : decode cX0_otherAt 32 = .ok (.aload_n 0, 1) := by decide +kernel
theorem dX0_otherAt_33 : decode cX0_otherAt 33 = .ok (.getfield 29, 3) := by decide +kernel
theorem dX0_otherAt_36 : decode cX0_otherAt 36 = .ok (.iload 4, 2) := by decide +kernel
theorem dX0_otherAt_38 : decode cX0_otherAt 38 = .ok (.invokevirtual 63, 3) := by decide +kernel
theorem dX0_otherAt_41 : decode cX0_otherAt 41 = .ok (.ireturn, 1) := by decide +kernel
theorem dX0_outcomeFor_0 : decode cX0_outcomeFor 0 = .ok (.aload_n 0, 1) := by decide +kernel
theorem dX0_outcomeFor_1 : decode cX0_outcomeFor 1 = .ok (.getfield 35, 3) := by decide +kernel
theorem dX0_outcomeFor_4 : decode cX0_outcomeFor 4 = .ok (.iload_n 1, 1) := by decide +kernel
theorem dX0_outcomeFor_5 : decode cX0_outcomeFor 5 = .ok (.iload_n 2, 1) := by decide +kernel
theorem dX0_outcomeFor_6 : decode cX0_outcomeFor 6 = .ok (.invokestatic 67, 3) := by decide +kernel
theorem dX0_outcomeFor_9 : decode cX0_outcomeFor 9 = .ok (.invokevirtual 63, 3) := by decide +kernel
theorem dX0_outcomeFor_12 : decode cX0_outcomeFor 12 = .ok (.istore 4, 2) := by decide +kernel
theorem dX0_outcomeFor_14 : decode cX0_outcomeFor 14 = .ok (.aload_n 0, 1) := by decide +kernel
theorem dX0_outcomeFor_15 : decode cX0_outcomeFor 15 = .ok (.iload_n 1, 1) := by decide +kernel
theorem dX0_outcomeFor_16 : decode cX0_outcomeFor 16 = .ok (.iload_n 2, 1) := by decide +kernel
theorem dX0_outcomeFor_17 : decode cX0_outcomeFor 17 = .ok (.iload_n 3, 1) := by decide +kernel
theorem dX0_outcomeFor_18 : decode cX0_outcomeFor 18 = .ok (.invokevirtual 74, 3) := by decide +kernel
theorem dX0_outcomeFor_21 : decode cX0_outcomeFor 21 = .ok (.ifCond .ne 8, 3) := by decide +kernel
theorem dX0_outcomeFor_24 : decode cX0_outcomeFor 24 = .ok (.iload 4, 2) := by decide +kernel
theorem dX0_outcomeFor_26 : decode cX0_outcomeFor 26 = .ok (.goto 8, 3) := by decide +kernel
theorem dX0_outcomeFor_29 : decode cX0_outcomeFor 29 = .ok (.iload 4, 2) := by decide +kernel
theorem dX0_outcomeFor_31 : decode cX0_outcomeFor 31 = .ok (.invokestatic 78, 3) := by decide +kernel
theorem dX0_outcomeFor_34 : decode cX0_outcomeFor 34 = .ok (.ireturn, 1) := by decide +kernel
theorem dX1_init_0 : decode cX1_init 0 = .ok (.aload_n 0, 1) := by decide +kernel
theorem dX1_init_1 : decode cX1_init 1 = .ok (.invokespecial 3, 3) := by decide +kernel
theorem dX1_init_4 : decode cX1_init 4 = .ok (.aload_n 0, 1) := by decide +kernel
theorem dX1_init_5 : decode cX1_init 5 = .ok (.new 9, 3) := by decide +kernel
theorem dX1_init_8 : decode cX1_init 8 = .ok (.dup, 1) := by decide +kernel
theorem dX1_init_9 : decode cX1_init 9 = .ok (.bipush 12, 2) := by decide +kernel
theorem dX1_init_11 : decode cX1_init 11 = .ok (.invokespecial 11, 3) := by decide +kernel
theorem dX1_init_14 : decode cX1_init 14 = .ok (.putfield 14, 3) := by decide +kernel
theorem dX1_init_17 : decode cX1_init 17 = .ok (.aload_n 0, 1) := by decide +kernel
theorem dX1_init_18 : decode cX1_init 18 = .ok (.new 9, 3) := by decide +kernel
theorem dX1_init_21 : decode cX1_init 21 = .ok (.dup, 1) := by decide +kernel
theorem dX1_init_22 : decode cX1_init 22 = .ok (.sipush 144, 3) := by decide +kernel
theorem dX1_init_25 : decode cX1_init 25 = .ok (.invokespecial 11, 3) := by decide +kernel
theorem dX1_init_28 : decode cX1_init 28 = .ok (.putfield 20, 3) := by decide +kernel
theorem dX1_init_31 : decode cX1_init 31 = .ok (.aload_n 0, 1) := by decide +kernel
theorem dX1_init_32 : decode cX1_init 32 = .ok (.new 9, 3) := by decide +kernel
theorem dX1_init_35 : decode cX1_init 35 = .ok (.dup, 1) := by decide +kernel
theorem dX1_init_36 : decode cX1_init 36 = .ok (.sipush 4096, 3) := by decide +kernel
theorem dX1_init_39 : decode cX1_init 39 = .ok (.invokespecial 11, 3) := by decide +kernel
theorem dX1_init_42 : decode cX1_init 42 = .ok (.putfield 23, 3) := by decide +kernel
theorem dX1_init_45 : decode cX1_init 45 = .ok (.aload_n 0, 1) := by decide +kernel
theorem dX1_init_46 : decode cX1_init 46 = .ok (.new 9, 3) := by decide +kernel
theorem dX1_init_49 : decode cX1_init 49 = .ok (.dup, 1) := by decide +kernel
theorem dX1_init_50 : decode cX1_init 50 = .ok (.sipush 4096, 3) := by decide +kernel
theorem dX1_init_53 : decode cX1_init 53 = .ok (.invokespecial 11, 3) := by decide +kernel
theorem dX1_init_56 : decode cX1_init 56 = .ok (.putfield 26, 3) := by decide +kernel
theorem dX1_init_59 : decode cX1_init 59 = .ok (.aload_n 0, 1) := by decide +kernel
theorem dX1_init_60 : decode cX1_init 60 = .ok (.aload_n 1, 1) := by decide +kernel
theorem dX1_init_61 : decode cX1_init 61 = .ok (.putfield 29, 3) := by decide +kernel
theorem dX1_init_64 : decode cX1_init 64 = .ok (.aload_n 0, 1) := by decide +kernel
theorem dX1_init_65 : decode cX1_init 65 = .ok (.aload_n 2, 1) := by decide +kernel
theorem dX1_init_66 : decode cX1_init 66 = .ok (.putfield 33, 3) := by decide +kernel
theorem dX1_init_69 : decode cX1_init 69 = .ok (.return_, 1) := by decide +kernel
theorem dX1_arrange_0 : decode cX1_arrange 0 = .ok (.aload_n 0, 1) := by decide +kernel
theorem dX1_arrange_1 : decode cX1_arrange 1 = .ok (.invokevirtual 37, 3) := by decide +kernel
theorem dX1_arrange_4 : decode cX1_arrange 4 = .ok (.aload_n 0, 1) := by decide +kernel
theorem dX1_arrange_5 : decode cX1_arrange 5 = .ok (.invokevirtual 40, 3) := by decide +kernel
theorem dX1_arrange_8 : decode cX1_arrange 8 = .ok (.aload_n 0, 1) := by decide +kernel
theorem dX1_arrange_9 : decode cX1_arrange 9 = .ok (.invokevirtual 43, 3) := by decide +kernel
theorem dX1_arrange_12 : decode cX1_arrange 12 = .ok (.aload_n 0, 1) := by decide +kernel
theorem dX1_arrange_13 : decode cX1_arrange 13 = .ok (.getfield 26, 3) := by decide +kernel
theorem dX1_arrange_16 : decode cX1_arrange 16 = .ok (.iconst 0, 1) := by decide +kernel
theorem dX1_arrange_17 : decode cX1_arrange 17 = .ok (.iconst 1, 1) := by decide +kernel
theorem dX1_arrange_18 : decode cX1_arrange 18 = .ok (.invokevirtual 46, 3) := by decide +kernel
theorem dX1_arrange_21 : decode cX1_arrange 21 = .ok (.aload_n 0, 1) := by decide +kernel
theorem dX1_arrange_22 : decode cX1_arrange 22 = .ok (.invokevirtual 50, 3) := by decide +kernel
theorem dX1_arrange_25 : decode cX1_arrange 25 = .ok (.istore_n 1, 1) := by decide +kernel
theorem dX1_arrange_26 : decode cX1_arrange 26 = .ok (.iconst 1, 1) := by decide +kernel
theorem dX1_arrange_27 : decode cX1_arrange 27 = .ok (.istore_n 2, 1) := by decide +kernel
theorem dX1_arrange_28 : decode cX1_arrange 28 = .ok (.iload_n 2, 1) := by decide +kernel
theorem dX1_arrange_29 : decode cX1_arrange 29 = .ok (.iload_n 1, 1) := by decide +kernel
theorem dX1_arrange_30 : decode cX1_arrange 30 = .ok (.if_icmp .gt 22, 3) := by decide +kernel
theorem dX1_arrange_33 : decode cX1_arrange 33 = .ok (.aload_n 0, 1) := by decide +kernel
theorem dX1_arrange_34 : decode cX1_arrange 34 = .ok (.iload_n 2, 1) := by decide +kernel
theorem dX1_arrange_35 : decode cX1_arrange 35 = .ok (.invokevirtual 54, 3) := by decide +kernel
theorem dX1_arrange_38 : decode cX1_arrange 38 = .ok (.ifCond .eq 8, 3) := by decide +kernel
theorem dX1_arrange_41 : decode cX1_arrange 41 = .ok (.aload_n 0, 1) := by decide +kernel
theorem dX1_arrange_42 : decode cX1_arrange 42 = .ok (.iload_n 2, 1) := by decide +kernel
theorem dX1_arrange_43 : decode cX1_arrange 43 = .ok (.invokevirtual 58, 3) := by decide +kernel
theorem dX1_arrange_46 : decode cX1_arrange 46 = .ok (.iinc 2 1, 3) := by decide +kernel
theorem dX1_arrange_49 : decode cX1_arrange 49 = .ok (.goto (-21), 3) := by decide +kernel
theorem dX1_arrange_52 : decode cX1_arrange 52 = .ok (.return_, 1) := by decide +kernel
theorem dX1_leastCost_0 : decode cX1_leastCost 0 = .ok (.aload_n 0, 1) := by decide +kernel
theorem dX1_leastCost_1 : decode cX1_leastCost 1 = .ok (.getfield 23, 3) := by decide +kernel
theorem dX1_leastCost_4 : decode cX1_leastCost 4 = .ok (.aload_n 0, 1) := by decide +kernel
theorem dX1_leastCost_5 : decode cX1_leastCost 5 = .ok (.invokevirtual 50, 3) := by decide +kernel
theorem dX1_leastCost_8 : decode cX1_leastCost 8 = .ok (.invokevirtual 61, 3) := by decide +kernel
theorem dX1_leastCost_11 : decode cX1_leastCost 11 = .ok (.ireturn, 1) := by decide +kernel
theorem dX1_countWays_0 : decode cX1_countWays 0 = .ok (.aload_n 0, 1) := by decide +kernel
theorem dX1_countWays_1 : decode cX1_countWays 1 = .ok (.getfield 26, 3) := by decide +kernel
theorem dX1_countWays_4 : decode cX1_countWays 4 = .ok (.aload_n 0, 1) := by decide +kernel
theorem dX1_countWays_5 : decode cX1_countWays 5 = .ok (.invokevirtual 50, 3) := by decide +kernel
theorem dX1_countWays_8 : decode cX1_countWays 8 = .ok (.invokevirtual 61, 3) := by decide +kernel
theorem dX1_countWays_11 : decode cX1_countWays 11 = .ok (.ireturn, 1) := by decide +kernel
theorem dX1_openRound_0 : decode cX1_openRound 0 = .ok (.aload_n 0, 1) := by decide +kernel
theorem dX1_openRound_1 : decode cX1_openRound 1 = .ok (.getfield 29, 3) := by decide +kernel
theorem dX1_openRound_4 : decode cX1_openRound 4 = .ok (.aload_n 0, 1) := by decide +kernel
theorem dX1_openRound_5 : decode cX1_openRound 5 = .ok (.getfield 65, 3) := by decide +kernel
theorem dX1_openRound_8 : decode cX1_openRound 8 = .ok (.invokevirtual 69, 3) := by decide +kernel
theorem dX1_openRound_11 : decode cX1_openRound 11 = .ok (.aload_n 0, 1) := by decide +kernel
theorem dX1_openRound_12 : decode cX1_openRound 12 = .ok (.invokevirtual 50, 3) := by decide +kernel
theorem dX1_openRound_15 : decode cX1_openRound 15 = .ok (.istore_n 1, 1) := by decide +kernel
theorem dX1_openRound_16 : decode cX1_openRound 16 = .ok (.iconst 0, 1) := by decide +kernel
theorem dX1_openRound_17 : decode cX1_openRound 17 = .ok (.istore_n 2, 1) := by decide +kernel
theorem dX1_openRound_18 : decode cX1_openRound 18 = .ok (.iload_n 2, 1) := by decide +kernel
theorem dX1_openRound_19 : decode cX1_openRound 19 = .ok (.aload_n 0, 1) := by decide +kernel
theorem dX1_openRound_20 : decode cX1_openRound 20 = .ok (.getfield 74, 3) := by decide +kernel
theorem dX1_openRound_23 : decode cX1_openRound 23 = .ok (.iconst 2, 1) := by decide +kernel
theorem dX1_openRound_24 : decode cX1_openRound 24 = .ok (.idiv, 1) := by decide +kernel
theorem dX1_openRound_25 : decode cX1_openRound 25 = .ok (.if_icmp .ge 51, 3) := by decide +kernel
theorem dX1_openRound_28 : decode cX1_openRound 28 = .ok (.iload_n 1, 1) := by decide +kernel
theorem dX1_openRound_29 : decode cX1_openRound 29 = .ok (.invokestatic 77, 3) := by decide +kernel
theorem dX1_openRound_32 : decode cX1_openRound 32 = .ok (.istore_n 3, 1) := by decide +kernel
theorem dX1_openRound_33 : decode cX1_openRound 33 = .ok (.aload_n 0, 1) := by decide +kernel
theorem dX1_openRound_34 : decode cX1_openRound 34 = .ok (.iload_n 1, 1) := by decide +kernel
theorem dX1_openRound_35 : decode cX1_openRound 35 = .ok (.invokevirtual 80, 3) := by decide +kernel
theorem dX1_openRound_38 : decode cX1_openRound 38 = .ok (.istore 4, 2) := by decide +kernel
theorem dX1_openRound_40 : decode cX1_openRound 40 = .ok (.aload_n 0, 1) := by decide +kernel
theorem dX1_openRound_41 : decode cX1_openRound 41 = .ok (.iload_n 2, 1) := by decide +kernel
theorem dX1_openRound_42 : decode cX1_openRound 42 = .ok (.aload_n 0, 1) := by decide +kernel
theorem dX1_openRound_43 : decode cX1_openRound 43 = .ok (.getfield 14, 3) := by decide +kernel
theorem dX1_openRound_46 : decode cX1_openRound 46 = .ok (.iload_n 3, 1) := by decide +kernel
theorem dX1_openRound_47 : decode cX1_openRound 47 = .ok (.invokevirtual 61, 3) := by decide +kernel
theorem dX1_openRound_50 : decode cX1_openRound 50 = .ok (.aload_n 0, 1) := by decide +kernel
theorem dX1_openRound_51 : decode cX1_openRound 51 = .ok (.getfield 14, 3) := by decide +kernel
theorem dX1_openRound_54 : decode cX1_openRound 54 = .ok (.iload 4, 2) := by decide +kernel
theorem dX1_openRound_56 : decode cX1_openRound 56 = .ok (.invokevirtual 61, 3) := by decide +kernel
theorem dX1_openRound_59 : decode cX1_openRound 59 = .ok (.invokevirtual 83, 3) := by decide +kernel
theorem dX1_openRound_62 : decode cX1_openRound 62 = .ok (.iload_n 1, 1) := by decide +kernel
theorem dX1_openRound_63 : decode cX1_openRound 63 = .ok (.iload_n 3, 1) := by decide +kernel
theorem dX1_openRound_64 : decode cX1_openRound 64 = .ok (.iload 4, 2) := by decide +kernel
theorem dX1_openRound_66 : decode cX1_openRound 66 = .ok (.invokestatic 87, 3) := by decide +kernel
theorem dX1_openRound_69 : decode cX1_openRound 69 = .ok (.istore_n 1, 1) := by decide +kernel
theorem dX1_openRound_70 : decode cX1_openRound 70 = .ok (.iinc 2 1, 3) := by decide +kernel
theorem dX1_openRound_73 : decode cX1_openRound 73 = .ok (.goto (-55), 3) := by decide +kernel
theorem dX1_openRound_76 : decode cX1_openRound 76 = .ok (.return_, 1) := by decide +kernel
theorem dX1_wholeSet_0 : decode cX1_wholeSet 0 = .ok (.iconst 1, 1) := by decide +kernel
theorem dX1_wholeSet_1 : decode cX1_wholeSet 1 = .ok (.aload_n 0, 1) := by decide +kernel
theorem dX1_wholeSet_2 : decode cX1_wholeSet 2 = .ok (.getfield 74, 3) := by decide +kernel
theorem dX1_wholeSet_5 : decode cX1_wholeSet 5 = .ok (.ishl, 1) := by decide +kernel
theorem dX1_wholeSet_6 : decode cX1_wholeSet 6 = .ok (.iconst 1, 1) := by decide +kernel
theorem dX1_wholeSet_7 : decode cX1_wholeSet 7 = .ok (.isub, 1) := by decide +kernel
theorem dX1_wholeSet_8 : decode cX1_wholeSet 8 = .ok (.ireturn, 1) := by decide +kernel
theorem dX1_firstSeat_0 : decode cX1_firstSeat 0 = .ok (.iload_n 0, 1) := by decide +kernel
theorem dX1_firstSeat_1 : decode cX1_firstSeat 1 = .ok (.iload_n 0, 1) := by decide +kernel
theorem dX1_firstSeat_2 : decode cX1_firstSeat 2 = .ok (.ineg, 1) := by decide +kernel
theorem dX1_firstSeat_3 : decode cX1_firstSeat 3 = .ok (.iand, 1) := by decide +kernel
theorem dX1_firstSeat_4 : decode cX1_firstSeat 4 = .ok (.iconst 1, 1) := by decide +kernel
theorem dX1_firstSeat_5 : decode cX1_firstSeat 5 = .ok (.isub, 1) := by decide +kernel
theorem dX1_firstSeat_6 : decode cX1_firstSeat 6 = .ok (.invokestatic 91, 3) := by decide +kernel
theorem dX1_firstSeat_9 : decode cX1_firstSeat 9 = .ok (.ireturn, 1) := by decide +kernel
theorem dX1_without_0 : decode cX1_without 0 = .ok (.iload_n 0, 1) := by decide +kernel
theorem dX1_without_1 : decode cX1_without 1 = .ok (.iconst 1, 1) := by decide +kernel
theorem dX1_without_2 : decode cX1_without 2 = .ok (.iload_n 1, 1) := by decide +kernel
theorem dX1_without_3 : decode cX1_without 3 = .ok (.ishl, 1) := by decide +kernel
theorem dX1_without_4 : decode cX1_without 4 = .ok (.iconst (-1), 1) := by decide +kernel
theorem dX1_without_5 : decode cX1_without 5 = .ok (.ixor, 1) := by decide +kernel
theorem dX1_without_6 : decode cX1_without 6 = .ok (.iand, 1) := by decide +kernel
theorem dX1_without_7 : decode cX1_without 7 = .ok (.iconst 1, 1) := by decide +kernel
theorem dX1_without_8 : decode cX1_without 8 = .ok (.iload_n 2, 1) := by decide +kernel
theorem dX1_without_9 : decode cX1_without 9 = .ok (.ishl, 1) := by decide +kernel
theorem dX1_without_10 : decode cX1_without 10 = .ok (.iconst (-1), 1) := by decide +kernel
theorem dX1_without_11 : decode cX1_without 11 = .ok (.ixor, 1) := by decide +kernel
theorem dX1_without_12 : decode cX1_without 12 = .ok (.iand, 1) := by decide +kernel
theorem dX1_without_13 : decode cX1_without 13 = .ok (.ireturn, 1) := by decide +kernel
theorem dX1_seatAll_0 : decode cX1_seatAll 0 = .ok (.aload_n 0, 1) := by decide +kernel
theorem dX1_seatAll_1 : decode cX1_seatAll 1 = .ok (.iconst 0, 1) := by decide +kernel
theorem dX1_seatAll_2 : decode cX1_seatAll 2 = .ok (.putfield 74, 3) := by decide +kernel
theorem dX1_seatAll_5 : decode cX1_seatAll 5 = .ok (.iconst 0, 1) := by decide +kernel
theorem dX1_seatAll_6 : decode cX1_seatAll 6 = .ok (.istore_n 1, 1) := by decide +kernel
theorem dX1_seatAll_7 : decode cX1_seatAll 7 = .ok (.iload_n 1, 1) := by decide +kernel
theorem dX1_seatAll_8 : decode cX1_seatAll 8 = .ok (.aload_n 0, 1) := by decide +kernel
theorem dX1_seatAll_9 : decode cX1_seatAll 9 = .ok (.getfield 29, 3) := by decide +kernel
theorem dX1_seatAll_12 : decode cX1_seatAll 12 = .ok (.getfield 96, 3) := by decide +kernel
theorem dX1_seatAll_15 : decode cX1_seatAll 15 = .ok (.if_icmp .ge 58, 3) := by decide +kernel
theorem dX1_seatAll_18 : decode cX1_seatAll 18 = .ok (.aload_n 0, 1) := by decide +kernel
theorem dX1_seatAll_19 : decode cX1_seatAll 19 = .ok (.getfield 33, 3) := by decide +kernel
theorem dX1_seatAll_22 : decode cX1_seatAll 22 = .ok (.getfield 99, 3) := by decide +kernel
theorem dX1_seatAll_25 : decode cX1_seatAll 25 = .ok (.iload_n 1, 1) := by decide +kernel
theorem dX1_seatAll_26 : decode cX1_seatAll 26 = .ok (.invokevirtual 61, 3) := by decide +kernel
theorem dX1_seatAll_29 : decode cX1_seatAll 29 = .ok (.istore_n 2, 1) := by decide +kernel
theorem dX1_seatAll_30 : decode cX1_seatAll 30 = .ok (.aload_n 0, 1) := by decide +kernel
theorem dX1_seatAll_31 : decode cX1_seatAll 31 = .ok (.getfield 29, 3) := by decide +kernel
theorem dX1_seatAll_34 : decode cX1_seatAll 34 = .ok (.getfield 104, 3) := by decide +kernel
theorem dX1_seatAll_37 : decode cX1_seatAll 37 = .ok (.iload_n 2, 1) := by decide +kernel
theorem dX1_seatAll_38 : decode cX1_seatAll 38 = .ok (.invokevirtual 61, 3) := by decide +kernel
theorem dX1_seatAll_41 : decode cX1_seatAll 41 = .ok (.iconst 1, 1) := by decide +kernel
theorem dX1_seatAll_42 : decode cX1_seatAll 42 = .ok (.if_icmp .ne 25, 3) := by decide +kernel
theorem dX1_seatAll_45 : decode cX1_seatAll 45 = .ok (.aload_n 0, 1) := by decide +kernel
theorem dX1_seatAll_46 : decode cX1_seatAll 46 = .ok (.getfield 14, 3) := by decide +kernel
theorem dX1_seatAll_49 : decode cX1_seatAll 49 = .ok (.aload_n 0, 1) := by decide +kernel
theorem dX1_seatAll_50 : decode cX1_seatAll 50 = .ok (.getfield 74, 3) := by decide +kernel
theorem dX1_seatAll_53 : decode cX1_seatAll 53 = .ok (.iload_n 2, 1) := by decide +kernel
theorem dX1_seatAll_54 : decode cX1_seatAll 54 = .ok (.invokevirtual 46, 3) := by decide +kernel
theorem dX1_seatAll_57 : decode cX1_seatAll 57 = .ok (.aload_n 0, 1) := by decide +kernel
theorem dX1_seatAll_58 : decode cX1_seatAll 58 = .ok (.dup, 1) := by decide +kernel
theorem dX1_seatAll_59 : decode cX1_seatAll 59 = .ok (.getfield 74, 3) := by decide +kernel
theorem dX1_seatAll_62 : decode cX1_seatAll 62 = .ok (.iconst 1, 1) := by decide +kernel
theorem dX1_seatAll_63 : decode cX1_seatAll 63 = .ok (.iadd, 1) := by decide +kernel
theorem dX1_seatAll_64 : decode cX1_seatAll 64 = .ok (.putfield 74, 3) := by decide +kernel
theorem dX1_seatAll_67 : decode cX1_seatAll 67 = .ok (.iinc 1 1, 3) := by decide +kernel
theorem dX1_seatAll_70 : decode cX1_seatAll 70 = .ok (.goto (-63), 3) := by decide +kernel
theorem dX1_seatAll_73 : decode cX1_seatAll 73 = .ok (.return_, 1) := by decide +kernel
theorem dX1_giveBye_0 : decode cX1_giveBye 0 = .ok (.aload_n 0, 1) := by decide +kernel
theorem dX1_giveBye_1 : decode cX1_giveBye 1 = .ok (.bipush (-5), 2) := by decide +kernel
theorem dX1_giveBye_3 : decode cX1_giveBye 3 = .ok (.putfield 65, 3) := by decide +kernel
theorem dX1_giveBye_6 : decode cX1_giveBye 6 = .ok (.aload_n 0, 1) := by decide +kernel
theorem dX1_giveBye_7 : decode cX1_giveBye 7 = .ok (.getfield 74, 3) := by decide +kernel
theorem dX1_giveBye_10 : decode cX1_giveBye 10 = .ok (.iconst 2, 1) := by decide +kernel
theorem dX1_giveBye_11 : decode cX1_giveBye 11 = .ok (.irem, 1) := by decide +kernel
theorem dX1_giveBye_12 : decode cX1_giveBye 12 = .ok (.ifCond .ne 4, 3) := by decide +kernel
theorem dX1_giveBye_15 : decode cX1_giveBye 15 = .ok (.return_, 1) := by decide +kernel
theorem dX1_giveBye_16 : decode cX1_giveBye 16 = .ok (.aload_n 0, 1) := by decide +kernel
theorem dX1_giveBye_17 : decode cX1_giveBye 17 = .ok (.invokevirtual 107, 3) := by decide +kernel
theorem dX1_giveBye_20 : decode cX1_giveBye 20 = .ok (.istore_n 1, 1) := by decide +kernel
theorem dX1_giveBye_21 : decode cX1_giveBye 21 = .ok (.aload_n 0, 1) := by decide +kernel
theorem dX1_giveBye_22 : decode cX1_giveBye 22 = .ok (.aload_n 0, 1) := by decide +kernel
theorem dX1_giveBye_23 : decode cX1_giveBye 23 = .ok (.getfield 14, 3) := by decide +kernel
theorem dX1_giveBye_26 : decode cX1_giveBye 26 = .ok (.iload_n 1, 1) := by decide +kernel
theorem dX1_giveBye_27 : decode cX1_giveBye 27 = .ok (.invokevirtual 61, 3) := by decide +kernel
theorem dX1_giveBye_30 : decode cX1_giveBye 30 = .ok (.putfield 65, 3) := by decide +kernel
theorem dX1_giveBye_33 : decode cX1_giveBye 33 = .ok (.aload_n 0, 1) := by decide +kernel
theorem dX1_giveBye_34 : decode cX1_giveBye 34 = .ok (.dup, 1) := by decide +kernel
theorem dX1_giveBye_35 : decode cX1_giveBye 35 = .ok (.getfield 74, 3) := by decide +kernel
theorem dX1_giveBye_38 : decode cX1_giveBye 38 = .ok (.iconst 1, 1) := by decide +kernel
theorem dX1_giveBye_39 : decode cX1_giveBye 39 = .ok (.isub, 1) := by decide +kernel
theorem dX1_giveBye_40 : decode cX1_giveBye 40 = .ok (.putfield 74, 3) := by decide +kernel
theorem dX1_giveBye_43 : decode cX1_giveBye 43 = .ok (.iload_n 1, 1) := by decide +kernel
theorem dX1_giveBye_44 : decode cX1_giveBye 44 = .ok (.istore_n 2, 1) := by decide +kernel
theorem dX1_giveBye_45 : decode cX1_giveBye 45 = .ok (.iload_n 2, 1) := by decide +kernel
theorem dX1_giveBye_46 : decode cX1_giveBye 46 = .ok (.aload_n 0, 1) := by decide +kernel
theorem dX1_giveBye_47 : decode cX1_giveBye 47 = .ok (.getfield 74, 3) := by decide +kernel
theorem dX1_giveBye_50 : decode cX1_giveBye 50 = .ok (.if_icmp .ge 27, 3) := by decide +kernel
theorem dX1_giveBye_53 : decode cX1_giveBye 53 = .ok (.aload_n 0, 1) := by decide +kernel
theorem dX1_giveBye_54 : decode cX1_giveBye 54 = .ok (.getfield 14, 3) := by decide +kernel
theorem dX1_giveBye_57 : decode cX1_giveBye 57 = .ok (.iload_n 2, 1) := by decide +kernel
theorem dX1_giveBye_58 : decode cX1_giveBye 58 = .ok (.aload_n 0, 1) := by decide +kernel
theorem dX1_giveBye_59 : decode cX1_giveBye 59 = .ok (.getfield 14, 3) := by decide +kernel
theorem dX1_giveBye_62 : decode cX1_giveBye 62 = .ok (.iload_n 2, 1) := by decide +kernel
theorem dX1_giveBye_63 : decode cX1_giveBye 63 = .ok (.iconst 1, 1) := by decide +kernel
theorem dX1_giveBye_64 : decode cX1_giveBye 64 = .ok (.iadd, 1) := by decide +kernel
theorem dX1_giveBye_65 : decode cX1_giveBye 65 = .ok (.invokevirtual 61, 3) := by decide +kernel
theorem dX1_giveBye_68 : decode cX1_giveBye 68 = .ok (.invokevirtual 46, 3) := by decide +kernel
theorem dX1_giveBye_71 : decode cX1_giveBye 71 = .ok (.iinc 2 1, 3) := by decide +kernel
theorem dX1_giveBye_74 : decode cX1_giveBye 74 = .ok (.goto (-29), 3) := by decide +kernel
theorem dX1_giveBye_77 : decode cX1_giveBye 77 = .ok (.return_, 1) := by decide +kernel
theorem dX1_seatOfBye_0 : decode cX1_seatOfBye 0 = .ok (.aload_n 0, 1) := by decide +kernel
theorem dX1_seatOfBye_1 : decode cX1_seatOfBye 1 = .ok (.getfield 74, 3) := by decide +kernel
theorem dX1_seatOfBye_4 : decode cX1_seatOfBye 4 = .ok (.iconst 1, 1) := by decide +kernel
theorem dX1_seatOfBye_5 : decode cX1_seatOfBye 5 = .ok (.isub, 1) := by decide +kernel
theorem dX1_seatOfBye_6 : decode cX1_seatOfBye 6 = .ok (.istore_n 1, 1) := by decide +kernel
theorem dX1_seatOfBye_7 : decode cX1_seatOfBye 7 = .ok (.iload_n 1, 1) := by decide +kernel
theorem dX1_seatOfBye_8 : decode cX1_seatOfBye 8 = .ok (.ifCond .lt 48, 3) := by decide +kernel
theorem dX1_seatOfBye_11 : decode cX1_seatOfBye 11 = .ok (.aload_n 0, 1) := by decide +kernel
theorem dX1_seatOfBye_12 : decode cX1_seatOfBye 12 = .ok (.getfield 14, 3) := by decide +kernel
theorem dX1_seatOfBye_15 : decode cX1_seatOfBye 15 = .ok (.iload_n 1, 1) := by decide +kernel
theorem dX1_seatOfBye_16 : decode cX1_seatOfBye 16 = .ok (.invokevirtual 61, 3) := by decide +kernel
theorem dX1_seatOfBye_19 : decode cX1_seatOfBye 19 = .ok (.istore_n 2, 1) := by decide +kernel
theorem dX1_seatOfBye_20 : decode cX1_seatOfBye 20 = .ok (.aload_n 0, 1) := by decide +kernel
theorem dX1_seatOfBye_21 : decode cX1_seatOfBye 21 = .ok (.getfield 33, 3) := by decide +kernel
theorem dX1_seatOfBye_24 : decode cX1_seatOfBye 24 = .ok (.getfield 110, 3) := by decide +kernel
theorem dX1_seatOfBye_27 : decode cX1_seatOfBye 27 = .ok (.iload_n 2, 1) := by decide +kernel
theorem dX1_seatOfBye_28 : decode cX1_seatOfBye 28 = .ok (.invokevirtual 61, 3) := by decide +kernel
theorem dX1_seatOfBye_31 : decode cX1_seatOfBye 31 = .ok (.ifCond .ne 19, 3) := by decide +kernel
theorem dX1_seatOfBye_34 : decode cX1_seatOfBye 34 = .ok (.aload_n 0, 1) := by decide +kernel
theorem dX1_seatOfBye_35 : decode cX1_seatOfBye 35 = .ok (.getfield 33, 3) := by decide +kernel
theorem dX1_seatOfBye_38 : decode cX1_seatOfBye 38 = .ok (.getfield 113, 3) := by decide +kernel
theorem dX1_seatOfBye_41 : decode cX1_seatOfBye 41 = .ok (.iload_n 2, 1) := by decide +kernel
theorem dX1_seatOfBye_42 : decode cX1_seatOfBye 42 = .ok (.invokevirtual 61, 3) := by decide +kernel
theorem dX1_seatOfBye_45 : decode cX1_seatOfBye 45 = .ok (.ifCond .ne 5, 3) := by decide +kernel
theorem dX1_seatOfBye_48 : decode cX1_seatOfBye 48 = .ok (.iload_n 1, 1) := by decide +kernel
theorem dX1_seatOfBye_49 : decode cX1_seatOfBye 49 = .ok (.ireturn, 1) := by decide +kernel
theorem dX1_seatOfBye_50 : decode cX1_seatOfBye 50 = .ok (.iinc 1 (-1), 3) := by decide +kernel
theorem dX1_seatOfBye_53 : decode cX1_seatOfBye 53 = .ok (.goto (-46), 3) := by decide +kernel
theorem dX1_seatOfBye_56 : decode cX1_seatOfBye 56 = .ok (.aload_n 0, 1) := by decide +kernel
theorem dX1_seatOfBye_57 : decode cX1_seatOfBye 57 = .ok (.getfield 74, 3) := by decide +kernel
theorem dX1_seatOfBye_60 : decode cX1_seatOfBye 60 = .ok (.iconst 1, 1) := by decide +kernel
theorem dX1_seatOfBye_61 : decode cX1_seatOfBye 61 = .ok (.isub, 1) := by decide +kernel
theorem dX1_seatOfBye_62 : decode cX1_seatOfBye 62 = .ok (.ireturn, 1) := by decide +kernel
theorem dX1_noteCosts_0 : decode cX1_noteCosts 0 = .ok (.iconst 0, 1) := by decide +kernel
theorem dX1_noteCosts_1 : decode cX1_noteCosts 1 = .ok (.istore_n 1, 1) := by decide +kernel
theorem dX1_noteCosts_2 : decode cX1_noteCosts 2 = .ok (.iload_n 1, 1) := by decide +kernel
theorem dX1_noteCosts_3 : decode cX1_noteCosts 3 = .ok (.aload_n 0, 1) := by decide +kernel
theorem dX1_noteCosts_4 : decode cX1_noteCosts 4 = .ok (.getfield 74, 3) := by decide +kernel
theorem dX1_noteCosts_7 : decode cX1_noteCosts 7 = .ok (.if_icmp .ge 63, 3) := by decide +kernel
theorem dX1_noteCosts_10 : decode cX1_noteCosts 10 = .ok (.iload_n 1, 1) := by decide +kernel
theorem dX1_noteCosts_11 : decode cX1_noteCosts 11 = .ok (.iconst 1, 1) := by decide +kernel
theorem dX1_noteCosts_12 : decode cX1_noteCosts 12 = .ok (.iadd, 1) := by decide +kernel
theorem dX1_noteCosts_13 : decode cX1_noteCosts 13 = .ok (.istore_n 2, 1) := by decide +kernel
theorem dX1_noteCosts_14 : decode cX1_noteCosts 14 = .ok (.iload_n 2, 1) := by decide +kernel
theorem dX1_noteCosts_15 : decode cX1_noteCosts 15 = .ok (.aload_n 0, 1) := by decide +kernel
theorem dX1_noteCosts_16 : decode cX1_noteCosts 16 = .ok (.getfield 74, 3) := by decide +kernel
theorem dX1_noteCosts_19 : decode cX1_noteCosts 19 = .ok (.if_icmp .ge 45, 3) := by decide +kernel
theorem dX1_noteCosts_22 : decode cX1_noteCosts 22 = .ok (.aload_n 0, 1) := by decide +kernel
theorem dX1_noteCosts_23 : decode cX1_noteCosts 23 = .ok (.getfield 20, 3) := by decide +kernel
theorem dX1_noteCosts_26 : decode cX1_noteCosts 26 = .ok (.iload_n 1, 1) := by decide +kernel
theorem dX1_noteCosts_27 : decode cX1_noteCosts 27 = .ok (.bipush 12, 2) := by decide +kernel
theorem dX1_noteCosts_29 : decode cX1_noteCosts 29 = .ok (.imul, 1) := by decide +kernel
theorem dX1_noteCosts_30 : decode cX1_noteCosts 30 = .ok (.iload_n 2, 1) := by decide +kernel
theorem dX1_noteCosts_31 : decode cX1_noteCosts 31 = .ok (.iadd, 1) := by decide +kernel
theorem dX1_noteCosts_32 : decode cX1_noteCosts 32 = .ok (.aload_n 0, 1) := by decide +kernel
theorem dX1_noteCosts_33 : decode cX1_noteCosts 33 = .ok (.getfield 33, 3) := by decide +kernel
theorem dX1_noteCosts_36 : decode cX1_noteCosts 36 = .ok (.aload_n 0, 1) := by decide +kernel
theorem dX1_noteCosts_37 : decode cX1_noteCosts 37 = .ok (.getfield 14, 3) := by decide +kernel
theorem dX1_noteCosts_40 : decode cX1_noteCosts 40 = .ok (.iload_n 1, 1) := by decide +kernel
theorem dX1_noteCosts_41 : decode cX1_noteCosts 41 = .ok (.invokevirtual 61, 3) := by decide +kernel
theorem dX1_noteCosts_44 : decode cX1_noteCosts 44 = .ok (.aload_n 0, 1) := by decide +kernel
theorem dX1_noteCosts_45 : decode cX1_noteCosts 45 = .ok (.getfield 14, 3) := by decide +kernel
theorem dX1_noteCosts_48 : decode cX1_noteCosts 48 = .ok (.iload_n 2, 1) := by decide +kernel
theorem dX1_noteCosts_49 : decode cX1_noteCosts 49 = .ok (.invokevirtual 61, 3) := by decide +kernel
theorem dX1_noteCosts_52 : decode cX1_noteCosts 52 = .ok (.invokevirtual 116, 3) := by decide +kernel
theorem dX1_noteCosts_55 : decode cX1_noteCosts 55 = .ok (.invokevirtual 46, 3) := by decide +kernel
theorem dX1_noteCosts_58 : decode cX1_noteCosts 58 = .ok (.iinc 2 1, 3) := by decide +kernel
theorem dX1_noteCosts_61 : decode cX1_noteCosts 61 = .ok (.goto (-47), 3) := by decide +kernel
theorem dX1_noteCosts_64 : decode cX1_noteCosts 64 = .ok (.iinc 1 1, 3) := by decide +kernel
theorem dX1_noteCosts_67 : decode cX1_noteCosts 67 = .ok (.goto (-65), 3) := by decide +kernel
theorem dX1_noteCosts_70 : decode cX1_noteCosts 70 = .ok (.return_, 1) := by decide +kernel
theorem dX1_isReached_0 : decode cX1_isReached 0 = .ok (.aload_n 0, 1) := by decide +kernel
theorem dX1_isReached_1 : decode cX1_isReached 1 = .ok (.getfield 74, 3) := by decide +kernel
theorem dX1_isReached_4 : decode cX1_isReached 4 = .ok (.iload_n 1, 1) := by decide +kernel
theorem dX1_isReached_5 : decode cX1_isReached 5 = .ok (.invokestatic 91, 3) := by decide +kernel
theorem dX1_isReached_8 : decode cX1_isReached 8 = .ok (.isub, 1) := by decide +kernel
theorem dX1_isReached_9 : decode cX1_isReached 9 = .ok (.istore_n 2, 1) := by decide +kernel
theorem dX1_isReached_10 : decode cX1_isReached 10 = .ok (.iload_n 2, 1) := by decide +kernel
theorem dX1_isReached_11 : decode cX1_isReached 11 = .ok (.iconst 2, 1) := by decide +kernel
theorem dX1_isReached_12 : decode cX1_isReached 12 = .ok (.irem, 1) := by decide +kernel
theorem dX1_isReached_13 : decode cX1_isReached 13 = .ok (.ifCond .ne 17, 3) := by decide +kernel
theorem dX1_isReached_16 : decode cX1_isReached 16 = .ok (.iload_n 1, 1) := by decide +kernel
theorem dX1_isReached_17 : decode cX1_isReached 17 = .ok (.invokestatic 77, 3) := by decide +kernel
theorem dX1_isReached_20 : decode cX1_isReached 20 = .ok (.iload_n 2, 1) := by decide +kernel
theorem dX1_isReached_21 : decode cX1_isReached 21 = .ok (.iconst 2, 1) := by decide +kernel
theorem dX1_isReached_22 : decode cX1_isReached 22 = .ok (.idiv, 1) := by decide +kernel
theorem dX1_isReached_23 : decode cX1_isReached 23 = .ok (.if_icmp .lt 7, 3) := by decide +kernel
theorem dX1_isReached_26 : decode cX1_isReached 26 = .ok (.iconst 1, 1) := by decide +kernel
theorem dX1_isReached_27 : decode cX1_isReached 27 = .ok (.goto 4, 3) := by decide +kernel
theorem dX1_isReached_30 : decode cX1_isReached 30 = .ok (.iconst 0, 1) := by decide +kernel
theorem dX1_isReached_31 : decode cX1_isReached 31 = .ok (.ireturn, 1) := by decide +kernel
theorem dX1_weigh_0 : decode cX1_weigh 0 = .ok (.iload_n 1, 1) := by decide +kernel
theorem dX1_weigh_1 : decode cX1_weigh 1 = .ok (.invokestatic 77, 3) := by decide +kernel
theorem dX1_weigh_4 : decode cX1_weigh 4 = .ok (.istore_n 2, 1) := by decide +kernel
theorem dX1_weigh_5 : decode cX1_weigh 5 = .ok (.bipush (-9), 2) := by decide +kernel
theorem dX1_weigh_7 : decode cX1_weigh 7 = .ok (.istore_n 3, 1) := by decide +kernel
theorem dX1_weigh_8 : decode cX1_weigh 8 = .ok (.iconst 0, 1) := by decide +kernel
theorem dX1_weigh_9 : decode cX1_weigh 9 = .ok (.istore 4, 2) := by decide +kernel
theorem dX1_weigh_11 : decode cX1_weigh 11 = .ok (.iload_n 2, 1) := by decide +kernel
theorem dX1_weigh_12 : decode cX1_weigh 12 = .ok (.iconst 1, 1) := by decide +kernel
theorem dX1_weigh_13 : decode cX1_weigh 13 = .ok (.iadd, 1) := by decide +kernel
theorem dX1_weigh_14 : decode cX1_weigh 14 = .ok (.istore 5, 2) := by decide +kernel
theorem dX1_weigh_16 : decode cX1_weigh 16 = .ok (.iload 5, 2) := by decide +kernel
theorem dX1_weigh_18 : decode cX1_weigh 18 = .ok (.aload_n 0, 1) := by decide +kernel
theorem dX1_weigh_19 : decode cX1_weigh 19 = .ok (.getfield 74, 3) := by decide +kernel
theorem dX1_weigh_22 : decode cX1_weigh 22 = .ok (.if_icmp .ge 63, 3) := by decide +kernel
theorem dX1_weigh_25 : decode cX1_weigh 25 = .ok (.aload_n 0, 1) := by decide +kernel
theorem dX1_weigh_26 : decode cX1_weigh 26 = .ok (.iload_n 1, 1) := by decide +kernel
theorem dX1_weigh_27 : decode cX1_weigh 27 = .ok (.iload_n 2, 1) := by decide +kernel
theorem dX1_weigh_28 : decode cX1_weigh 28 = .ok (.iload 5, 2) := by decide +kernel
theorem dX1_weigh_30 : decode cX1_weigh 30 = .ok (.invokevirtual 120, 3) := by decide +kernel
theorem dX1_weigh_33 : decode cX1_weigh 33 = .ok (.istore 6, 2) := by decide +kernel
theorem dX1_weigh_35 : decode cX1_weigh 35 = .ok (.iload 6, 2) := by decide +kernel
theorem dX1_weigh_37 : decode cX1_weigh 37 = .ok (.bipush (-9), 2) := by decide +kernel
theorem dX1_weigh_39 : decode cX1_weigh 39 = .ok (.if_icmp .eq 40, 3) := by decide +kernel
theorem dX1_weigh_42 : decode cX1_weigh 42 = .ok (.iload 4, 2) := by decide +kernel
theorem dX1_weigh_44 : decode cX1_weigh 44 = .ok (.aload_n 0, 1) := by decide +kernel
theorem dX1_weigh_45 : decode cX1_weigh 45 = .ok (.getfield 26, 3) := by decide +kernel
theorem dX1_weigh_48 : decode cX1_weigh 48 = .ok (.iload_n 1, 1) := by decide +kernel
theorem dX1_weigh_49 : decode cX1_weigh 49 = .ok (.iload_n 2, 1) := by decide +kernel
theorem dX1_weigh_50 : decode cX1_weigh 50 = .ok (.iload 5, 2) := by decide +kernel
theorem dX1_weigh_52 : decode cX1_weigh 52 = .ok (.invokestatic 87, 3) := by decide +kernel
theorem dX1_weigh_55 : decode cX1_weigh 55 = .ok (.invokevirtual 61, 3) := by decide +kernel
theorem dX1_weigh_58 : decode cX1_weigh 58 = .ok (.iadd, 1) := by decide +kernel
theorem dX1_weigh_59 : decode cX1_weigh 59 = .ok (.istore 4, 2) := by decide +kernel
theorem dX1_weigh_61 : decode cX1_weigh 61 = .ok (.iload_n 3, 1) := by decide +kernel
theorem dX1_weigh_62 : decode cX1_weigh 62 = .ok (.bipush (-9), 2) := by decide +kernel
theorem dX1_weigh_64 : decode cX1_weigh 64 = .ok (.if_icmp .ne 8, 3) := by decide +kernel
theorem dX1_weigh_67 : decode cX1_weigh 67 = .ok (.iload 6, 2) := by decide +kernel
theorem dX1_weigh_69 : decode cX1_weigh 69 = .ok (.goto 9, 3) := by decide +kernel
theorem dX1_weigh_72 : decode cX1_weigh 72 = .ok (.iload_n 3, 1) := by decide +kernel
theorem dX1_weigh_73 : decode cX1_weigh 73 = .ok (.iload 6, 2) := by decide +kernel
theorem dX1_weigh_75 : decode cX1_weigh 75 = .ok (.invokestatic 123, 3) := by decide +kernel
theorem dX1_weigh_78 : decode cX1_weigh 78 = .ok (.istore_n 3, 1) := by decide +kernel
theorem dX1_weigh_79 : decode cX1_weigh 79 = .ok (.iinc 5 1, 3) := by decide +kernel
theorem dX1_weigh_82 : decode cX1_weigh 82 = .ok (.goto (-66), 3) := by decide +kernel
theorem dX1_weigh_85 : decode cX1_weigh 85 = .ok (.aload_n 0, 1) := by decide +kernel
theorem dX1_weigh_86 : decode cX1_weigh 86 = .ok (.getfield 23, 3) := by decide +kernel
theorem dX1_weigh_89 : decode cX1_weigh 89 = .ok (.iload_n 1, 1) := by decide +kernel
theorem dX1_weigh_90 : decode cX1_weigh 90 = .ok (.iload_n 3, 1) := by decide +kernel
theorem dX1_weigh_91 : decode cX1_weigh 91 = .ok (.invokevirtual 46, 3) := by decide +kernel
theorem dX1_weigh_94 : decode cX1_weigh 94 = .ok (.aload_n 0, 1) := by decide +kernel
theorem dX1_weigh_95 : decode cX1_weigh 95 = .ok (.getfield 26, 3) := by decide +kernel
theorem dX1_weigh_98 : decode cX1_weigh 98 = .ok (.iload_n 1, 1) := by decide +kernel
theorem dX1_weigh_99 : decode cX1_weigh 99 = .ok (.iload 4, 2) := by decide +kernel
theorem dX1_weigh_101 : decode cX1_weigh 101 = .ok (.invokevirtual 46, 3) := by decide +kernel
theorem dX1_weigh_104 : decode cX1_weigh 104 = .ok (.return_, 1) := by decide +kernel
theorem dX1_sumWith_0 : decode cX1_sumWith 0 = .ok (.aload_n 0, 1) := by decide +kernel
theorem dX1_sumWith_1 : decode cX1_sumWith 1 = .ok (.getfield 20, 3) := by decide +kernel
theorem dX1_sumWith_4 : decode cX1_sumWith 4 = .ok (.iload_n 2, 1) := by decide +kernel
theorem dX1_sumWith_5 : decode cX1_sumWith 5 = .ok (.bipush 12, 2) := by decide +kernel
theorem dX1_sumWith_7 : decode cX1_sumWith 7 = .ok (.imul, 1) := by decide +kernel
theorem dX1_sumWith_8 : decode cX1_sumWith 8 = .ok (.iload_n 3, 1) := by decide +kernel
theorem dX1_sumWith_9 : decode cX1_sumWith 9 = .ok (.iadd, 1) := by decide +kernel
theorem dX1_sumWith_10 : decode cX1_sumWith 10 = .ok (.invokevirtual 61, 3) := by decide +kernel
theorem dX1_sumWith_13 : decode cX1_sumWith 13 = .ok (.istore 4, 2) := by decide +kernel
theorem dX1_sumWith_15 : decode cX1_sumWith 15 = .ok (.aload_n 0, 1) := by decide +kernel
theorem dX1_sumWith_16 : decode cX1_sumWith 16 = .ok (.getfield 23, 3) := by decide +kernel
theorem dX1_sumWith_19 : decode cX1_sumWith 19 = .ok (.iload_n 1, 1) := by decide +kernel
theorem dX1_sumWith_20 : decode cX1_sumWith 20 = .ok (.iload_n 2, 1) := by decide +kernel
theorem dX1_sumWith_21 : decode cX1_sumWith 21 = .ok (.iload_n 3, 1) := by decide +kernel
theorem dX1_sumWith_22 : decode cX1_sumWith 22 = .ok (.invokestatic 87, 3) := by decide +kernel
theorem dX1_sumWith_25 : decode cX1_sumWith 25 = .ok (.invokevirtual 61, 3) := by decide +kernel
theorem dX1_sumWith_28 : decode cX1_sumWith 28 = .ok (.istore 5, 2) := by decide +kernel
theorem dX1_sumWith_30 : decode cX1_sumWith 30 = .ok (.iload_n 1, 1) := by decide +kernel
theorem dX1_sumWith_31 : decode cX1_sumWith 31 = .ok (.iload_n 3, 1) := by decide +kernel
theorem dX1_sumWith_32 : decode cX1_sumWith 32 = .ok (.ishr, 1) := by decide +kernel
theorem dX1_sumWith_33 : decode cX1_sumWith 33 = .ok (.iconst 1, 1) := by decide +kernel
theorem dX1_sumWith_34 : decode cX1_sumWith 34 = .ok (.iand, 1) := by decide +kernel
theorem dX1_sumWith_35 : decode cX1_sumWith 35 = .ok (.ifCond .eq 17, 3) := by decide +kernel
theorem dX1_sumWith_38 : decode cX1_sumWith 38 = .ok (.iload 4, 2) := by decide +kernel
theorem dX1_sumWith_40 : decode cX1_sumWith 40 = .ok (.bipush (-5), 2) := by decide +kernel
theorem dX1_sumWith_42 : decode cX1_sumWith 42 = .ok (.if_icmp .eq 10, 3) := by decide +kernel
theorem dX1_sumWith_45 : decode cX1_sumWith 45 = .ok (.iload 5, 2) := by decide +kernel
theorem dX1_sumWith_47 : decode cX1_sumWith 47 = .ok (.bipush (-9), 2) := by decide +kernel
theorem dX1_sumWith_49 : decode cX1_sumWith 49 = .ok (.if_icmp .ne 6, 3) := by decide +kernel
theorem dX1_sumWith_52 : decode cX1_sumWith 52 = .ok (.bipush (-9), 2) := by decide +kernel
theorem dX1_sumWith_54 : decode cX1_sumWith 54 = .ok (.ireturn, 1) := by decide +kernel
theorem dX1_sumWith_55 : decode cX1_sumWith 55 = .ok (.iload 4, 2) := by decide +kernel
theorem dX1_sumWith_57 : decode cX1_sumWith 57 = .ok (.iload 5, 2) := by decide +kernel
theorem dX1_sumWith_59 : decode cX1_sumWith 59 = .ok (.iadd, 1) := by decide +kernel
theorem dX1_sumWith_60 : decode cX1_sumWith 60 = .ok (.ireturn, 1) := by decide +kernel
theorem dX1_earliestMate_0 : decode cX1_earliestMate 0 = .ok (.iload_n 1, 1) := by decide +kernel
theorem dX1_earliestMate_1 : decode cX1_earliestMate 1 = .ok (.invokestatic 77, 3) := by decide +kernel
theorem dX1_earliestMate_4 : decode cX1_earliestMate 4 = .ok (.istore_n 2, 1) := by decide +kernel
theorem dX1_earliestMate_5 : decode cX1_earliestMate 5 = .ok (.iload_n 2, 1) := by decide +kernel
theorem dX1_earliestMate_6 : decode cX1_earliestMate 6 = .ok (.iconst 1, 1) := by decide +kernel
theorem dX1_earliestMate_7 : decode cX1_earliestMate 7 = .ok (.iadd, 1) := by decide +kernel
theorem dX1_earliestMate_8 : decode cX1_earliestMate 8 = .ok (.istore_n 3, 1) := by decide +kernel
theorem dX1_earliestMate_9 : decode cX1_earliestMate 9 = .ok (.iload_n 3, 1) := by decide +kernel
theorem dX1_earliestMate_10 : decode cX1_earliestMate 10 = .ok (.aload_n 0, 1) := by decide +kernel
theorem dX1_earliestMate_11 : decode cX1_earliestMate 11 = .ok (.getfield 74, 3) := by decide +kernel
theorem dX1_earliestMate_14 : decode cX1_earliestMate 14 = .ok (.if_icmp .ge 40, 3) := by decide +kernel
theorem dX1_earliestMate_17 : decode cX1_earliestMate 17 = .ok (.aload_n 0, 1) := by decide +kernel
theorem dX1_earliestMate_18 : decode cX1_earliestMate 18 = .ok (.iload_n 1, 1) := by decide +kernel
theorem dX1_earliestMate_19 : decode cX1_earliestMate 19 = .ok (.iload_n 2, 1) := by decide +kernel
theorem dX1_earliestMate_20 : decode cX1_earliestMate 20 = .ok (.iload_n 3, 1) := by decide +kernel
theorem dX1_earliestMate_21 : decode cX1_earliestMate 21 = .ok (.invokevirtual 120, 3) := by decide +kernel
theorem dX1_earliestMate_24 : decode cX1_earliestMate 24 = .ok (.istore 4, 2) := by decide +kernel
theorem dX1_earliestMate_26 : decode cX1_earliestMate 26 = .ok (.iload 4, 2) := by decide +kernel
theorem dX1_earliestMate_28 : decode cX1_earliestMate 28 = .ok (.bipush (-9), 2) := by decide +kernel
theorem dX1_earliestMate_30 : decode cX1_earliestMate 30 = .ok (.if_icmp .eq 18, 3) := by decide +kernel
theorem dX1_earliestMate_33 : decode cX1_earliestMate 33 = .ok (.iload 4, 2) := by decide +kernel
theorem dX1_earliestMate_35 : decode cX1_earliestMate 35 = .ok (.aload_n 0, 1) := by decide +kernel
theorem dX1_earliestMate_36 : decode cX1_earliestMate 36 = .ok (.getfield 23, 3) := by decide +kernel
theorem dX1_earliestMate_39 : decode cX1_earliestMate 39 = .ok (.iload_n 1, 1) := by decide +kernel
theorem dX1_earliestMate_40 : decode cX1_earliestMate 40 = .ok (.invokevirtual 61, 3) := by decide +kernel
theorem dX1_earliestMate_43 : decode cX1_earliestMate 43 = .ok (.if_icmp .ne 5, 3) := by decide +kernel
theorem dX1_earliestMate_46 : decode cX1_earliestMate 46 = .ok (.iload_n 3, 1) := by decide +kernel
theorem dX1_earliestMate_47 : decode cX1_earliestMate 47 = .ok (.ireturn, 1) := by decide +kernel
theorem dX1_earliestMate_48 : decode cX1_earliestMate 48 = .ok (.iinc 3 1, 3) := by decide +kernel
theorem dX1_earliestMate_51 : decode cX1_earliestMate 51 = .ok (.goto (-42), 3) := by decide +kernel
theorem dX1_earliestMate_54 : decode cX1_earliestMate 54 = .ok (.iload_n 2, 1) := by decide +kernel
theorem dX1_earliestMate_55 : decode cX1_earliestMate 55 = .ok (.ireturn, 1) := by decide +kernel
theorem dX1_seatBoard_0 : decode cX1_seatBoard 0 = .ok (.aload_n 0, 1) := by decide +kernel
theorem dX1_seatBoard_1 : decode cX1_seatBoard 1 = .ok (.iload_n 1, 1) := by decide +kernel
theorem dX1_seatBoard_2 : decode cX1_seatBoard 2 = .ok (.iload_n 2, 1) := by decide +kernel
theorem dX1_seatBoard_3 : decode cX1_seatBoard 3 = .ok (.iload_n 3, 1) := by decide +kernel
theorem dX1_seatBoard_4 : decode cX1_seatBoard 4 = .ok (.invokevirtual 128, 3) := by decide +kernel
theorem dX1_seatBoard_7 : decode cX1_seatBoard 7 = .ok (.ifCond .eq 15, 3) := by decide +kernel
theorem dX1_seatBoard_10 : decode cX1_seatBoard 10 = .ok (.aload_n 0, 1) := by decide +kernel
theorem dX1_seatBoard_11 : decode cX1_seatBoard 11 = .ok (.getfield 29, 3) := by decide +kernel
theorem dX1_seatBoard_14 : decode cX1_seatBoard 14 = .ok (.iload_n 2, 1) := by decide +kernel
theorem dX1_seatBoard_15 : decode cX1_seatBoard 15 = .ok (.iload_n 3, 1) := by decide +kernel
theorem dX1_seatBoard_16 : decode cX1_seatBoard 16 = .ok (.invokevirtual 132, 3) := by decide +kernel
theorem dX1_seatBoard_19 : decode cX1_seatBoard 19 = .ok (.goto 12, 3) := by decide +kernel
theorem dX1_seatBoard_22 : decode cX1_seatBoard 22 = .ok (.aload_n 0, 1) := by decide +kernel
theorem dX1_seatBoard_23 : decode cX1_seatBoard 23 = .ok (.getfield 29, 3) := by decide +kernel
theorem dX1_seatBoard_26 : decode cX1_seatBoard 26 = .ok (.iload_n 3, 1) := by decide +kernel
theorem dX1_seatBoard_27 : decode cX1_seatBoard 27 = .ok (.iload_n 2, 1) := by decide +kernel
theorem dX1_seatBoard_28 : decode cX1_seatBoard 28 = .ok (.invokevirtual 132, 3) := by decide +kernel
theorem dX1_seatBoard_31 : decode cX1_seatBoard 31 = .ok (.return_, 1) := by decide +kernel
theorem dX1_hasWhite_0 : decode cX1_hasWhite 0 = .ok (.aload_n 0, 1) := by decide +kernel
theorem dX1_hasWhite_1 : decode cX1_hasWhite 1 = .ok (.getfield 33, 3) := by decide +kernel
theorem dX1_hasWhite_4 : decode cX1_hasWhite 4 = .ok (.getfield 135, 3) := by decide +kernel
theorem dX1_hasWhite_7 : decode cX1_hasWhite 7 = .ok (.iload_n 2, 1) := by decide +kernel
theorem dX1_hasWhite_8 : decode cX1_hasWhite 8 = .ok (.invokevirtual 61, 3) := by decide +kernel
theorem dX1_hasWhite_11 : decode cX1_hasWhite 11 = .ok (.istore 4, 2) := by decide +kernel
theorem dX1_hasWhite_13 : decode cX1_hasWhite 13 = .ok (.aload_n 0, 1) := by decide +kernel
theorem dX1_hasWhite_14 : decode cX1_hasWhite 14 = .ok (.getfield 33, 3) := by decide +kernel
theorem dX1_hasWhite_17 : decode cX1_hasWhite 17 = .ok (.getfield 135, 3) := by decide +kernel
theorem dX1_hasWhite_20 : decode cX1_hasWhite 20 = .ok (.iload_n 3, 1) := by decide +kernel
theorem dX1_hasWhite_21 : decode cX1_hasWhite 21 = .ok (.invokevirtual 61, 3) := by decide +kernel
theorem dX1_hasWhite_24 : decode cX1_hasWhite 24 = .ok (.istore 5, 2) := by decide +kernel
theorem dX1_hasWhite_26 : decode cX1_hasWhite 26 = .ok (.iload 4, 2) := by decide +kernel
theorem dX1_hasWhite_28 : decode cX1_hasWhite 28 = .ok (.iload 5, 2) := by decide +kernel
theorem dX1_hasWhite_30 : decode cX1_hasWhite 30 = .ok (.if_icmp .eq 16, 3) := by decide +kernel
theorem dX1_hasWhite_33 : decode cX1_hasWhite 33 = .ok (.iload 4, 2) := by decide +kernel
theorem dX1_hasWhite_35 : decode cX1_hasWhite 35 = .ok (.iload 5, 2) := by decide +kernel
theorem dX1_hasWhite_37 : decode cX1_hasWhite 37 = .ok (.if_icmp .ge 7, 3) := by decide +kernel
theorem dX1_hasWhite_40 : decode cX1_hasWhite 40 = .ok (.iconst 1, 1) := by decide +kernel
theorem dX1_hasWhite_41 : decode cX1_hasWhite 41 = .ok (.goto 4, 3) := by decide +kernel
theorem dX1_hasWhite_44 : decode cX1_hasWhite 44 = .ok (.iconst 0, 1) := by decide +kernel
theorem dX1_hasWhite_45 : decode cX1_hasWhite 45 = .ok (.ireturn, 1) := by decide +kernel
theorem dX1_hasWhite_46 : decode cX1_hasWhite 46 = .ok (.aload_n 0, 1) := by decide +kernel
theorem dX1_hasWhite_47 : decode cX1_hasWhite 47 = .ok (.getfield 33, 3) := by decide +kernel
theorem dX1_hasWhite_50 : decode cX1_hasWhite 50 = .ok (.getfield 138, 3) := by decide +kernel
theorem dX1_hasWhite_53 : decode cX1_hasWhite 53 = .ok (.iload_n 2, 1) := by decide +kernel
theorem dX1_hasWhite_54 : decode cX1_hasWhite 54 = .ok (.invokevirtual 61, 3) := by decide +kernel
theorem dX1_hasWhite_57 : decode cX1_hasWhite 57 = .ok (.iconst 1, 1) := by decide +kernel
theorem dX1_hasWhite_58 : decode cX1_hasWhite 58 = .ok (.if_icmp .ne 7, 3) := by decide +kernel
theorem dX1_hasWhite_61 : decode cX1_hasWhite 61 = .ok (.iconst 1, 1) := by decide +kernel
theorem dX1_hasWhite_62 : decode cX1_hasWhite 62 = .ok (.goto 4, 3) := by decide +kernel
theorem dX1_hasWhite_65 : decode cX1_hasWhite 65 = .ok (.iconst 0, 1) := by decide +kernel
theorem dX1_hasWhite_66 : decode cX1_hasWhite 66 = .ok (.istore 6, 2) := by decide +kernel
theorem dX1_hasWhite_68 : decode cX1_hasWhite 68 = .ok (.aload_n 0, 1) := by decide +kernel
theorem dX1_hasWhite_69 : decode cX1_hasWhite 69 = .ok (.getfield 33, 3) := by decide +kernel
theorem dX1_hasWhite_72 : decode cX1_hasWhite 72 = .ok (.getfield 138, 3) := by decide +kernel
theorem dX1_hasWhite_75 : decode cX1_hasWhite 75 = .ok (.iload_n 3, 1) := by decide +kernel
theorem dX1_hasWhite_76 : decode cX1_hasWhite 76 = .ok (.invokevirtual 61, 3) := by decide +kernel
theorem dX1_hasWhite_79 : decode cX1_hasWhite 79 = .ok (.iconst 1, 1) := by decide +kernel
theorem dX1_hasWhite_80 : decode cX1_hasWhite 80 = .ok (.if_icmp .ne 7, 3) := by decide +kernel
theorem dX1_hasWhite_83 : decode cX1_hasWhite 83 = .ok (.iconst 1, 1) := by decide +kernel
theorem dX1_hasWhite_84 : decode cX1_hasWhite 84 = .ok (.goto 4, 3) := by decide +kernel
theorem dX1_hasWhite_87 : decode cX1_hasWhite 87 = .ok (.iconst 0, 1) := by decide +kernel
theorem dX1_hasWhite_88 : decode cX1_hasWhite 88 = .ok (.istore 7, 2) := by decide +kernel
theorem dX1_hasWhite_90 : decode cX1_hasWhite 90 = .ok (.iload 6, 2) := by decide +kernel
theorem dX1_hasWhite_92 : decode cX1_hasWhite 92 = .ok (.iload 7, 2) := by decide +kernel
theorem dX1_hasWhite_94 : decode cX1_hasWhite 94 = .ok (.if_icmp .eq 6, 3) := by decide +kernel
theorem dX1_hasWhite_97 : decode cX1_hasWhite 97 = .ok (.iload 6, 2) := by decide +kernel
theorem dX1_hasWhite_99 : decode cX1_hasWhite 99 = .ok (.ireturn, 1) := by decide +kernel
theorem dX1_hasWhite_100 : decode cX1_hasWhite 100 = .ok (.iload_n 1, 1) := by decide +kernel
theorem dX1_hasWhite_101 : decode cX1_hasWhite 101 = .ok (.iconst 2, 1) := by decide +kernel
theorem dX1_hasWhite_102 : decode cX1_hasWhite 102 = .ok (.irem, 1) := by decide +kernel
theorem dX1_hasWhite_103 : decode cX1_hasWhite 103 = .ok (.ifCond .ne 7, 3) := by decide +kernel
theorem dX1_hasWhite_106 : decode cX1_hasWhite 106 = .ok (.iconst 1, 1) := by decide +kernel
theorem dX1_hasWhite_107 : decode cX1_hasWhite 107 = .ok (.goto 4, 3) := by decide +kernel
theorem dX1_hasWhite_110 : decode cX1_hasWhite 110 = .ok (.iconst 0, 1) := by decide +kernel
theorem dX1_hasWhite_111 : decode cX1_hasWhite 111 = .ok (.ireturn, 1) := by decide +kernel
theorem dX2_init_0 : decode cX2_init 0 = .ok (.aload_n 0, 1) := by decide +kernel
theorem dX2_init_1 : decode cX2_init 1 = .ok (.invokespecial 1, 3) := by decide +kernel
theorem dX2_init_4 : decode cX2_init 4 = .ok (.aload_n 0, 1) := by decide +kernel
theorem dX2_init_5 : decode cX2_init 5 = .ok (.iconst 0, 1) := by decide +kernel
theorem dX2_init_6 : decode cX2_init 6 = .ok (.iload_n 1, 1) := by decide +kernel
theorem dX2_init_7 : decode cX2_init 7 = .ok (.invokestatic 7, 3) := by decide +kernel
theorem dX2_init_10 : decode cX2_init 10 = .ok (.newarray .int, 2) := by decide +kernel
theorem dX2_init_12 : decode cX2_init 12 = .ok (.putfield 13, 3) := by decide +kernel
theorem dX2_init_15 : decode cX2_init 15 = .ok (.return_, 1) := by decide +kernel
theorem dX2_at_0 : decode cX2_at 0 = .ok (.iload_n 1, 1) := by decide +kernel
theorem dX2_at_1 : decode cX2_at 1 = .ok (.ifCond .lt 21, 3) := by decide +kernel
theorem dX2_at_4 : decode cX2_at 4 = .ok (.iload_n 1, 1) := by decide +kernel
theorem dX2_at_5 : decode cX2_at 5 = .ok (.aload_n 0, 1) := by decide +kernel
theorem dX2_at_6 : decode cX2_at 6 = .ok (.getfield 13, 3) := by decide +kernel
theorem dX2_at_9 : decode cX2_at 9 = .ok (.arraylength, 1) := by decide +kernel
theorem dX2_at_10 : decode cX2_at 10 = .ok (.if_icmp .ge 12, 3) := by decide +kernel
theorem dX2_at_13 : decode cX2_at 13 = .ok (.aload_n 0, 1) := by decide +kernel
theorem dX2_at_14 : decode cX2_at 14 = .ok (.getfield 13, 3) := by decide +kernel
theorem dX2_at_17 : decode cX2_at 17 = .ok (.iload_n 1, 1) := by decide +kernel
theorem dX2_at_18 : decode cX2_at 18 = .ok (.iaload, 1) := by decide +kernel
theorem dX2_at_19 : decode cX2_at 19 = .ok (.goto 4, 3) := by decide +kernel
theorem dX2_at_22 : decode cX2_at 22 = .ok (.iconst 0, 1) := by decide +kernel
theorem dX2_at_23 : decode cX2_at 23 = .ok (.ireturn, 1) := by decide +kernel
theorem dX2_put_0 : decode cX2_put 0 = .ok (.iload_n 1, 1) := by decide +kernel
theorem dX2_put_1 : decode cX2_put 1 = .ok (.ifCond .lt 19, 3) := by decide +kernel
theorem dX2_put_4 : decode cX2_put 4 = .ok (.iload_n 1, 1) := by decide +kernel
theorem dX2_put_5 : decode cX2_put 5 = .ok (.aload_n 0, 1) := by decide +kernel
theorem dX2_put_6 : decode cX2_put 6 = .ok (.getfield 13, 3) := by decide +kernel
theorem dX2_put_9 : decode cX2_put 9 = .ok (.arraylength, 1) := by decide +kernel
theorem dX2_put_10 : decode cX2_put 10 = .ok (.if_icmp .ge 10, 3) := by decide +kernel
theorem dX2_put_13 : decode cX2_put 13 = .ok (.aload_n 0, 1) := by decide +kernel
theorem dX2_put_14 : decode cX2_put 14 = .ok (.getfield 13, 3) := by decide +kernel
theorem dX2_put_17 : decode cX2_put 17 = .ok (.iload_n 1, 1) := by decide +kernel
theorem dX2_put_18 : decode cX2_put 18 = .ok (.iload_n 2, 1) := by decide +kernel
theorem dX2_put_19 : decode cX2_put 19 = .ok (.iastore, 1) := by decide +kernel
theorem dX2_put_20 : decode cX2_put 20 = .ok (.return_, 1) := by decide +kernel
theorem dX2_add_0 : decode cX2_add 0 = .ok (.iload_n 1, 1) := by decide +kernel
theorem dX2_add_1 : decode cX2_add 1 = .ok (.ifCond .lt 22, 3) := by decide +kernel
theorem dX2_add_4 : decode cX2_add 4 = .ok (.iload_n 1, 1) := by decide +kernel
theorem dX2_add_5 : decode cX2_add 5 = .ok (.aload_n 0, 1) := by decide +kernel
theorem dX2_add_6 : decode cX2_add 6 = .ok (.getfield 13, 3) := by decide +kernel
theorem dX2_add_9 : decode cX2_add 9 = .ok (.arraylength, 1) := by decide +kernel
theorem dX2_add_10 : decode cX2_add 10 = .ok (.if_icmp .ge 13, 3) := by decide +kernel
theorem dX2_add_13 : decode cX2_add 13 = .ok (.aload_n 0, 1) := by decide +kernel
theorem dX2_add_14 : decode cX2_add 14 = .ok (.getfield 13, 3) := by decide +kernel
theorem dX2_add_17 : decode cX2_add 17 = .ok (.iload_n 1, 1) := by decide +kernel
theorem dX2_add_18 : decode cX2_add 18 = .ok (.dup2, 1) := by decide +kernel
theorem dX2_add_19 : decode cX2_add 19 = .ok (.iaload, 1) := by decide +kernel
theorem dX2_add_20 : decode cX2_add 20 = .ok (.iload_n 2, 1) := by decide +kernel
theorem dX2_add_21 : decode cX2_add 21 = .ok (.iadd, 1) := by decide +kernel
theorem dX2_add_22 : decode cX2_add 22 = .ok (.iastore, 1) := by decide +kernel
theorem dX2_add_23 : decode cX2_add 23 = .ok (.return_, 1) := by decide +kernel
theorem dX2_fill_0 : decode cX2_fill 0 = .ok (.iconst 0, 1) := by decide +kernel
theorem dX2_fill_1 : decode cX2_fill 1 = .ok (.istore_n 2, 1) := by decide +kernel
theorem dX2_fill_2 : decode cX2_fill 2 = .ok (.iload_n 2, 1) := by decide +kernel
theorem dX2_fill_3 : decode cX2_fill 3 = .ok (.aload_n 0, 1) := by decide +kernel
theorem dX2_fill_4 : decode cX2_fill 4 = .ok (.getfield 13, 3) := by decide +kernel
theorem dX2_fill_7 : decode cX2_fill 7 = .ok (.arraylength, 1) := by decide +kernel
theorem dX2_fill_8 : decode cX2_fill 8 = .ok (.if_icmp .ge 16, 3) := by decide +kernel
theorem dX2_fill_11 : decode cX2_fill 11 = .ok (.aload_n 0, 1) := by decide +kernel
theorem dX2_fill_12 : decode cX2_fill 12 = .ok (.getfield 13, 3) := by decide +kernel
theorem dX2_fill_15 : decode cX2_fill 15 = .ok (.iload_n 2, 1) := by decide +kernel
theorem dX2_fill_16 : decode cX2_fill 16 = .ok (.iload_n 1, 1) := by decide +kernel
theorem dX2_fill_17 : decode cX2_fill 17 = .ok (.iastore, 1) := by decide +kernel
theorem dX2_fill_18 : decode cX2_fill 18 = .ok (.iinc 2 1, 3) := by decide +kernel
theorem dX2_fill_21 : decode cX2_fill 21 = .ok (.goto (-19), 3) := by decide +kernel
theorem dX2_fill_24 : decode cX2_fill 24 = .ok (.return_, 1) := by decide +kernel
theorem dX2_copy_0 : decode cX2_copy 0 = .ok (.iconst 0, 1) := by decide +kernel
theorem dX2_copy_1 : decode cX2_copy 1 = .ok (.istore_n 2, 1) := by decide +kernel
theorem dX2_copy_2 : decode cX2_copy 2 = .ok (.iload_n 2, 1) := by decide +kernel
theorem dX2_copy_3 : decode cX2_copy 3 = .ok (.aload_n 0, 1) := by decide +kernel
theorem dX2_copy_4 : decode cX2_copy 4 = .ok (.getfield 13, 3) := by decide +kernel
theorem dX2_copy_7 : decode cX2_copy 7 = .ok (.arraylength, 1) := by decide +kernel
theorem dX2_copy_8 : decode cX2_copy 8 = .ok (.if_icmp .ge 20, 3) := by decide +kernel
theorem dX2_copy_11 : decode cX2_copy 11 = .ok (.aload_n 0, 1) := by decide +kernel
theorem dX2_copy_12 : decode cX2_copy 12 = .ok (.getfield 13, 3) := by decide +kernel
theorem dX2_copy_15 : decode cX2_copy 15 = .ok (.iload_n 2, 1) := by decide +kernel
theorem dX2_copy_16 : decode cX2_copy 16 = .ok (.aload_n 1, 1) := by decide +kernel
theorem dX2_copy_17 : decode cX2_copy 17 = .ok (.iload_n 2, 1) := by decide +kernel
theorem dX2_copy_18 : decode cX2_copy 18 = .ok (.invokevirtual 19, 3) := by decide +kernel
theorem dX2_copy_21 : decode cX2_copy 21 = .ok (.iastore, 1) := by decide +kernel
theorem dX2_copy_22 : decode cX2_copy 22 = .ok (.iinc 2 1, 3) := by decide +kernel
theorem dX2_copy_25 : decode cX2_copy 25 = .ok (.goto (-23), 3) := by decide +kernel
theorem dX2_copy_28 : decode cX2_copy 28 = .ok (.return_, 1) := by decide +kernel
theorem dX3_init_0 : decode cX3_init 0 = .ok (.aload_n 0, 1) := by decide +kernel
theorem dX3_init_1 : decode cX3_init 1 = .ok (.invokespecial 3, 3) := by decide +kernel
theorem dX3_init_4 : decode cX3_init 4 = .ok (.aload_n 0, 1) := by decide +kernel
theorem dX3_init_5 : decode cX3_init 5 = .ok (.new 9, 3) := by decide +kernel
theorem dX3_init_8 : decode cX3_init 8 = .ok (.dup, 1) := by decide +kernel
theorem dX3_init_9 : decode cX3_init 9 = .ok (.iconst 4, 1) := by decide +kernel
theorem dX3_init_10 : decode cX3_init 10 = .ok (.invokespecial 11, 3) := by decide +kernel
theorem dX3_init_13 : decode cX3_init 13 = .ok (.putfield 14, 3) := by decide +kernel
theorem dX3_init_16 : decode cX3_init 16 = .ok (.aload_n 0, 1) := by decide +kernel
theorem dX3_init_17 : decode cX3_init 17 = .ok (.new 9, 3) := by decide +kernel
theorem dX3_init_20 : decode cX3_init 20 = .ok (.dup, 1) := by decide +kernel
theorem dX3_init_21 : decode cX3_init 21 = .ok (.bipush 80, 2) := by decide +kernel
theorem dX3_init_23 : decode cX3_init 23 = .ok (.invokespecial 11, 3) := by decide +kernel
theorem dX3_init_26 : decode cX3_init 26 = .ok (.putfield 20, 3) := by decide +kernel
theorem dX3_init_29 : decode cX3_init 29 = .ok (.aload_n 0, 1) := by decide +kernel
theorem dX3_init_30 : decode cX3_init 30 = .ok (.getfield 14, 3) := by decide +kernel
theorem dX3_init_33 : decode cX3_init 33 = .ok (.iconst (-1), 1) := by decide +kernel
theorem dX3_init_34 : decode cX3_init 34 = .ok (.invokevirtual 23, 3) := by decide +kernel
theorem dX3_init_37 : decode cX3_init 37 = .ok (.return_, 1) := by decide +kernel
theorem dX3_isList_0 : decode cX3_isList 0 = .ok (.iload_n 0, 1) := by decide +kernel
theorem dX3_isList_1 : decode cX3_isList 1 = .ok (.ifCond .lt 12, 3) := by decide +kernel
theorem dX3_isList_4 : decode cX3_isList 4 = .ok (.iload_n 0, 1) := by decide +kernel
theorem dX3_isList_5 : decode cX3_isList 5 = .ok (.iconst 4, 1) := by decide +kernel
theorem dX3_isList_6 : decode cX3_isList 6 = .ok (.if_icmp .ge 7, 3) := by decide +kernel
theorem dX3_isList_9 : decode cX3_isList 9 = .ok (.iconst 1, 1) := by decide +kernel
theorem dX3_isList_10 : decode cX3_isList 10 = .ok (.goto 4, 3) := by decide +kernel
theorem dX3_isList_13 : decode cX3_isList 13 = .ok (.iconst 0, 1) := by decide +kernel
theorem dX3_isList_14 : decode cX3_isList 14 = .ok (.ireturn, 1) := by decide +kernel
theorem dX3_isHeld_0 : decode cX3_isHeld 0 = .ok (.aload_n 0, 1) := by decide +kernel
theorem dX3_isHeld_1 : decode cX3_isHeld 1 = .ok (.getfield 14, 3) := by decide +kernel
theorem dX3_isHeld_4 : decode cX3_isHeld 4 = .ok (.iload_n 1, 1) := by decide +kernel
theorem dX3_isHeld_5 : decode cX3_isHeld 5 = .ok (.invokevirtual 26, 3) := by decide +kernel
theorem dX3_isHeld_8 : decode cX3_isHeld 8 = .ok (.iconst (-1), 1) := by decide +kernel
theorem dX3_isHeld_9 : decode cX3_isHeld 9 = .ok (.if_icmp .eq 7, 3) := by decide +kernel
theorem dX3_isHeld_12 : decode cX3_isHeld 12 = .ok (.iconst 1, 1) := by decide +kernel
theorem dX3_isHeld_13 : decode cX3_isHeld 13 = .ok (.goto 4, 3) := by decide +kernel
theorem dX3_isHeld_16 : decode cX3_isHeld 16 = .ok (.iconst 0, 1) := by decide +kernel
theorem dX3_isHeld_17 : decode cX3_isHeld 17 = .ok (.ireturn, 1) := by decide +kernel
theorem dX3_hasPlace_0 : decode cX3_hasPlace 0 = .ok (.iload_n 2, 1) := by decide +kernel
theorem dX3_hasPlace_1 : decode cX3_hasPlace 1 = .ok (.ifCond .lt 19, 3) := by decide +kernel
theorem dX3_hasPlace_4 : decode cX3_hasPlace 4 = .ok (.iload_n 2, 1) := by decide +kernel
theorem dX3_hasPlace_5 : decode cX3_hasPlace 5 = .ok (.aload_n 0, 1) := by decide +kernel
theorem dX3_hasPlace_6 : decode cX3_hasPlace 6 = .ok (.getfield 14, 3) := by decide +kernel
theorem dX3_hasPlace_9 : decode cX3_hasPlace 9 = .ok (.iload_n 1, 1) := by decide +kernel
theorem dX3_hasPlace_10 : decode cX3_hasPlace 10 = .ok (.invokevirtual 26, 3) := by decide +kernel
theorem dX3_hasPlace_13 : decode cX3_hasPlace 13 = .ok (.if_icmp .ge 7, 3) := by decide +kernel
theorem dX3_hasPlace_16 : decode cX3_hasPlace 16 = .ok (.iconst 1, 1) := by decide +kernel
theorem dX3_hasPlace_17 : decode cX3_hasPlace 17 = .ok (.goto 4, 3) := by decide +kernel
theorem dX3_hasPlace_20 : decode cX3_hasPlace 20 = .ok (.iconst 0, 1) := by decide +kernel
theorem dX3_hasPlace_21 : decode cX3_hasPlace 21 = .ok (.ireturn, 1) := by decide +kernel
theorem dX3_hold_0 : decode cX3_hold 0 = .ok (.aload_n 0, 1) := by decide +kernel
theorem dX3_hold_1 : decode cX3_hold 1 = .ok (.getfield 14, 3) := by decide +kernel
theorem dX3_hold_4 : decode cX3_hold 4 = .ok (.iload_n 1, 1) := by decide +kernel
theorem dX3_hold_5 : decode cX3_hold 5 = .ok (.iload_n 2, 1) := by decide +kernel
theorem dX3_hold_6 : decode cX3_hold 6 = .ok (.invokevirtual 30, 3) := by decide +kernel
theorem dX3_hold_9 : decode cX3_hold 9 = .ok (.iconst 0, 1) := by decide +kernel
theorem dX3_hold_10 : decode cX3_hold 10 = .ok (.istore_n 3, 1) := by decide +kernel
theorem dX3_hold_11 : decode cX3_hold 11 = .ok (.iload_n 3, 1) := by decide +kernel
theorem dX3_hold_12 : decode cX3_hold 12 = .ok (.iload_n 2, 1) := by decide +kernel
theorem dX3_hold_13 : decode cX3_hold 13 = .ok (.if_icmp .ge 16, 3) := by decide +kernel
theorem dX3_hold_16 : decode cX3_hold 16 = .ok (.aload_n 0, 1) := by decide +kernel
theorem dX3_hold_17 : decode cX3_hold 17 = .ok (.iload_n 1, 1) := by decide +kernel
theorem dX3_hold_18 : decode cX3_hold 18 = .ok (.iload_n 3, 1) := by decide +kernel
theorem dX3_hold_19 : decode cX3_hold 19 = .ok (.iconst 0, 1) := by decide +kernel
theorem dX3_hold_20 : decode cX3_hold 20 = .ok (.invokevirtual 34, 3) := by decide +kernel
theorem dX3_hold_23 : decode cX3_hold 23 = .ok (.iinc 3 1, 3) := by decide +kernel
theorem dX3_hold_26 : decode cX3_hold 26 = .ok (.goto (-15), 3) := by decide +kernel
theorem dX3_hold_29 : decode cX3_hold 29 = .ok (.return_, 1) := by decide +kernel
theorem dX3_valueAt_0 : decode cX3_valueAt 0 = .ok (.aload_n 0, 1) := by decide +kernel
theorem dX3_valueAt_1 : decode cX3_valueAt 1 = .ok (.getfield 20, 3) := by decide +kernel
theorem dX3_valueAt_4 : decode cX3_valueAt 4 = .ok (.iload_n 1, 1) := by decide +kernel
theorem dX3_valueAt_5 : decode cX3_valueAt 5 = .ok (.bipush 20, 2) := by decide +kernel
theorem dX3_valueAt_7 : decode cX3_valueAt 7 = .ok (.imul, 1) := by decide +kernel
theorem dX3_valueAt_8 : decode cX3_valueAt 8 = .ok (.iload_n 2, 1) := by decide +kernel
theorem dX3_valueAt_9 : decode cX3_valueAt 9 = .ok (.iadd, 1) := by decide +kernel
theorem dX3_valueAt_10 : decode cX3_valueAt 10 = .ok (.invokevirtual 26, 3) := by decide +kernel
theorem dX3_valueAt_13 : decode cX3_valueAt 13 = .ok (.ireturn, 1) := by decide +kernel
theorem dX3_putAt_0 : decode cX3_putAt 0 = .ok (.aload_n 0, 1) := by decide +kernel
theorem dX3_putAt_1 : decode cX3_putAt 1 = .ok (.getfield 20, 3) := by decide +kernel
theorem dX3_putAt_4 : decode cX3_putAt 4 = .ok (.iload_n 1, 1) := by decide +kernel
theorem dX3_putAt_5 : decode cX3_putAt 5 = .ok (.bipush 20, 2) := by decide +kernel
theorem dX3_putAt_7 : decode cX3_putAt 7 = .ok (.imul, 1) := by decide +kernel
theorem dX3_putAt_8 : decode cX3_putAt 8 = .ok (.iload_n 2, 1) := by decide +kernel
theorem dX3_putAt_9 : decode cX3_putAt 9 = .ok (.iadd, 1) := by decide +kernel
theorem dX3_putAt_10 : decode cX3_putAt 10 = .ok (.iload_n 3, 1) := by decide +kernel
theorem dX3_putAt_11 : decode cX3_putAt 11 = .ok (.invokevirtual 30, 3) := by decide +kernel
theorem dX3_putAt_14 : decode cX3_putAt 14 = .ok (.return_, 1) := by decide +kernel
theorem dX4_init_0 : decode cX4_init 0 = .ok (.aload_n 0, 1) := by decide +kernel
theorem dX4_init_1 : decode cX4_init 1 = .ok (.invokespecial 3, 3) := by decide +kernel
theorem dX4_init_4 : decode cX4_init 4 = .ok (.aload_n 0, 1) := by decide +kernel
theorem dX4_init_5 : decode cX4_init 5 = .ok (.new 9, 3) := by decide +kernel
theorem dX4_init_8 : decode cX4_init 8 = .ok (.dup, 1) := by decide +kernel
theorem dX4_init_9 : decode cX4_init 9 = .ok (.bipush 108, 2) := by decide +kernel
theorem dX4_init_11 : decode cX4_init 11 = .ok (.invokespecial 11, 3) := by decide +kernel
theorem dX4_init_14 : decode cX4_init 14 = .ok (.putfield 14, 3) := by decide +kernel
theorem dX4_init_17 : decode cX4_init 17 = .ok (.aload_n 0, 1) := by decide +kernel
theorem dX4_init_18 : decode cX4_init 18 = .ok (.new 9, 3) := by decide +kernel
theorem dX4_init_21 : decode cX4_init 21 = .ok (.dup, 1) := by decide +kernel
theorem dX4_init_22 : decode cX4_init 22 = .ok (.bipush 12, 2) := by decide +kernel
theorem dX4_init_24 : decode cX4_init 24 = .ok (.invokespecial 11, 3) := by decide +kernel
theorem dX4_init_27 : decode cX4_init 27 = .ok (.putfield 20, 3) := by decide +kernel
theorem dX4_init_30 : decode cX4_init 30 = .ok (.aload_n 0, 1) := by decide +kernel
theorem dX4_init_31 : decode cX4_init 31 = .ok (.new 9, 3) := by decide +kernel
theorem dX4_init_34 : decode cX4_init 34 = .ok (.dup, 1) := by decide +kernel
theorem dX4_init_35 : decode cX4_init 35 = .ok (.bipush 12, 2) := by decide +kernel
theorem dX4_init_37 : decode cX4_init 37 = .ok (.invokespecial 11, 3) := by decide +kernel
theorem dX4_init_40 : decode cX4_init 40 = .ok (.putfield 23, 3) := by decide +kernel
theorem dX4_init_43 : decode cX4_init 43 = .ok (.aload_n 0, 1) := by decide +kernel
theorem dX4_init_44 : decode cX4_init 44 = .ok (.new 9, 3) := by decide +kernel
theorem dX4_init_47 : decode cX4_init 47 = .ok (.dup, 1) := by decide +kernel
theorem dX4_init_48 : decode cX4_init 48 = .ok (.bipush 12, 2) := by decide +kernel
theorem dX4_init_50 : decode cX4_init 50 = .ok (.invokespecial 11, 3) := by decide +kernel
theorem dX4_init_53 : decode cX4_init 53 = .ok (.putfield 26, 3) := by decide +kernel
theorem dX4_init_56 : decode cX4_init 56 = .ok (.aload_n 0, 1) := by decide +kernel
theorem dX4_init_57 : decode cX4_init 57 = .ok (.new 9, 3) := by decide +kernel
theorem dX4_init_60 : decode cX4_init 60 = .ok (.dup, 1) := by decide +kernel
theorem dX4_init_61 : decode cX4_init 61 = .ok (.bipush 12, 2) := by decide +kernel
theorem dX4_init_63 : decode cX4_init 63 = .ok (.invokespecial 11, 3) := by decide +kernel
theorem dX4_init_66 : decode cX4_init 66 = .ok (.putfield 29, 3) := by decide +kernel
theorem dX4_init_69 : decode cX4_init 69 = .ok (.aload_n 0, 1) := by decide +kernel
theorem dX4_init_70 : decode cX4_init 70 = .ok (.new 9, 3) := by decide +kernel
theorem dX4_init_73 : decode cX4_init 73 = .ok (.dup, 1) := by decide +kernel
theorem dX4_init_74 : decode cX4_init 74 = .ok (.bipush 12, 2) := by decide +kernel
theorem dX4_init_76 : decode cX4_init 76 = .ok (.invokespecial 11, 3) := by decide +kernel
theorem dX4_init_79 : decode cX4_init 79 = .ok (.putfield 32, 3) := by decide +kernel
theorem dX4_init_82 : decode cX4_init 82 = .ok (.aload_n 0, 1) := by decide +kernel
theorem dX4_init_83 : decode cX4_init 83 = .ok (.new 9, 3) := by decide +kernel
theorem dX4_init_86 : decode cX4_init 86 = .ok (.dup, 1) := by decide +kernel
theorem dX4_init_87 : decode cX4_init 87 = .ok (.sipush 144, 3) := by decide +kernel
theorem dX4_init_90 : decode cX4_init 90 = .ok (.invokespecial 11, 3) := by decide +kernel
theorem dX4_init_93 : decode cX4_init 93 = .ok (.putfield 35, 3) := by decide +kernel
theorem dX4_init_96 : decode cX4_init 96 = .ok (.aload_n 0, 1) := by decide +kernel
theorem dX4_init_97 : decode cX4_init 97 = .ok (.new 9, 3) := by decide +kernel
theorem dX4_init_100 : decode cX4_init 100 = .ok (.dup, 1) := by decide +kernel
theorem dX4_init_101 : decode cX4_init 101 = .ok (.sipush 144, 3) := by decide +kernel
theorem dX4_init_104 : decode cX4_init 104 = .ok (.invokespecial 11, 3) := by decide +kernel
theorem dX4_init_107 : decode cX4_init 107 = .ok (.putfield 38, 3) := by decide +kernel
theorem dX4_init_110 : decode cX4_init 110 = .ok (.aload_n 0, 1) := by decide +kernel
theorem dX4_init_111 : decode cX4_init 111 = .ok (.new 9, 3) := by decide +kernel
theorem dX4_init_114 : decode cX4_init 114 = .ok (.dup, 1) := by decide +kernel
theorem dX4_init_115 : decode cX4_init 115 = .ok (.bipush 12, 2) := by decide +kernel
theorem dX4_init_117 : decode cX4_init 117 = .ok (.invokespecial 11, 3) := by decide +kernel
theorem dX4_init_120 : decode cX4_init 120 = .ok (.putfield 41, 3) := by decide +kernel
theorem dX4_init_123 : decode cX4_init 123 = .ok (.aload_n 0, 1) := by decide +kernel
theorem dX4_init_124 : decode cX4_init 124 = .ok (.aload_n 1, 1) := by decide +kernel
theorem dX4_init_125 : decode cX4_init 125 = .ok (.putfield 44, 3) := by decide +kernel
theorem dX4_init_128 : decode cX4_init 128 = .ok (.return_, 1) := by decide +kernel
theorem dX4_tieOf_0 : decode cX4_tieOf 0 = .ok (.aload_n 0, 1) := by decide +kernel
theorem dX4_tieOf_1 : decode cX4_tieOf 1 = .ok (.getfield 14, 3) := by decide +kernel
theorem dX4_tieOf_4 : decode cX4_tieOf 4 = .ok (.iload_n 1, 1) := by decide +kernel
theorem dX4_tieOf_5 : decode cX4_tieOf 5 = .ok (.bipush 9, 2) := by decide +kernel
theorem dX4_tieOf_7 : decode cX4_tieOf 7 = .ok (.imul, 1) := by decide +kernel
theorem dX4_tieOf_8 : decode cX4_tieOf 8 = .ok (.iload_n 2, 1) := by decide +kernel
theorem dX4_tieOf_9 : decode cX4_tieOf 9 = .ok (.iadd, 1) := by decide +kernel
theorem dX4_tieOf_10 : decode cX4_tieOf 10 = .ok (.invokevirtual 48, 3) := by decide +kernel
theorem dX4_tieOf_13 : decode cX4_tieOf 13 = .ok (.ireturn, 1) := by decide +kernel
theorem dX4_addTie_0 : decode cX4_addTie 0 = .ok (.aload_n 0, 1) := by decide +kernel
theorem dX4_addTie_1 : decode cX4_addTie 1 = .ok (.getfield 14, 3) := by decide +kernel
theorem dX4_addTie_4 : decode cX4_addTie 4 = .ok (.iload_n 1, 1) := by decide +kernel
theorem dX4_addTie_5 : decode cX4_addTie 5 = .ok (.bipush 9, 2) := by decide +kernel
theorem dX4_addTie_7 : decode cX4_addTie 7 = .ok (.imul, 1) := by decide +kernel
theorem dX4_addTie_8 : decode cX4_addTie 8 = .ok (.iload_n 2, 1) := by decide +kernel
theorem dX4_addTie_9 : decode cX4_addTie 9 = .ok (.iadd, 1) := by decide +kernel
theorem dX4_addTie_10 : decode cX4_addTie 10 = .ok (.iload_n 3, 1) := by decide +kernel
theorem dX4_addTie_11 : decode cX4_addTie 11 = .ok (.invokevirtual 52, 3) := by decide +kernel
theorem dX4_addTie_14 : decode cX4_addTie 14 = .ok (.return_, 1) := by decide +kernel
theorem dX4_twoCell_0 : decode cX4_twoCell 0 = .ok (.iload_n 0, 1) := by decide +kernel
theorem dX4_twoCell_1 : decode cX4_twoCell 1 = .ok (.bipush 12, 2) := by decide +kernel
theorem dX4_twoCell_3 : decode cX4_twoCell 3 = .ok (.imul, 1) := by decide +kernel
theorem dX4_twoCell_4 : decode cX4_twoCell 4 = .ok (.iload_n 1, 1) := by decide +kernel
theorem dX4_twoCell_5 : decode cX4_twoCell 5 = .ok (.iadd, 1) := by decide +kernel
theorem dX4_twoCell_6 : decode cX4_twoCell 6 = .ok (.ireturn, 1) := by decide +kernel
theorem dX4_meetingOf_0 : decode cX4_meetingOf 0 = .ok (.aload_n 0, 1) := by decide +kernel
theorem dX4_meetingOf_1 : decode cX4_meetingOf 1 = .ok (.getfield 35, 3) := by decide +kernel
theorem dX4_meetingOf_4 : decode cX4_meetingOf 4 = .ok (.iload_n 1, 1) := by decide +kernel
theorem dX4_meetingOf_5 : decode cX4_meetingOf 5 = .ok (.iload_n 2, 1) := by decide +kernel
theorem dX4_meetingOf_6 : decode cX4_meetingOf 6 = .ok (.invokestatic 56, 3) := by decide +kernel
theorem dX4_meetingOf_9 : decode cX4_meetingOf 9 = .ok (.invokevirtual 48, 3) := by decide +kernel
theorem dX4_meetingOf_12 : decode cX4_meetingOf 12 = .ok (.ireturn, 1) := by decide +kernel
theorem dX4_haveMet_0 : decode cX4_haveMet 0 = .ok (.aload_n 0, 1) := by decide +kernel
theorem dX4_haveMet_1 : decode cX4_haveMet 1 = .ok (.iload_n 1, 1) := by decide +kernel
theorem dX4_haveMet_2 : decode cX4_haveMet 2 = .ok (.iload_n 2, 1) := by decide +kernel
theorem dX4_haveMet_3 : decode cX4_haveMet 3 = .ok (.invokevirtual 60, 3) := by decide +kernel
theorem dX4_haveMet_6 : decode cX4_haveMet 6 = .ok (.bipush (-5), 2) := by decide +kernel
theorem dX4_haveMet_8 : decode cX4_haveMet 8 = .ok (.if_icmp .eq 7, 3) := by decide +kernel
theorem dX4_haveMet_11 : decode cX4_haveMet 11 = .ok (.iconst 1, 1) := by decide +kernel
theorem dX4_haveMet_12 : decode cX4_haveMet 12 = .ok (.goto 4, 3) := by decide +kernel
theorem dX4_haveMet_15 : decode cX4_haveMet 15 = .ok (.iconst 0, 1) := by decide +kernel
theorem dX4_haveMet_16 : decode cX4_haveMet 16 = .ok (.ireturn, 1) := by decide +kernel
theorem dX4_madeAgainst_0 : decode cX4_madeAgainst 0 = .ok (.aload_n 0, 1) := by decide +kernel
theorem dX4_madeAgainst_1 : decode cX4_madeAgainst 1 = .ok (.getfield 38, 3) := by decide +kernel
theorem dX4_madeAgainst_4 : decode cX4_madeAgainst 4 = .ok (.iload_n 1, 1) := by decide +kernel
theorem dX4_madeAgainst_5 : decode cX4_madeAgainst 5 = .ok (.iload_n 2, 1) := by decide +kernel
theorem dX4_madeAgainst_6 : decode cX4_madeAgainst 6 = .ok (.invokestatic 56, 3) := by decide +kernel
theorem dX4_madeAgainst_9 : decode cX4_madeAgainst 9 = .ok (.invokevirtual 48, 3) := by decide +kernel
theorem dX4_madeAgainst_12 : decode cX4_madeAgainst 12 = .ok (.ireturn, 1) := by decide +kernel
theorem dX4_reckon_0 : decode cX4_reckon 0 = .ok (.aload_n 0, 1) := by decide +kernel
theorem dX4_reckon_1 : decode cX4_reckon 1 = .ok (.invokevirtual 63, 3) := by decide +kernel
theorem dX4_reckon_4 : decode cX4_reckon 4 = .ok (.iconst 0, 1) := by decide +kernel
theorem dX4_reckon_5 : decode cX4_reckon 5 = .ok (.istore_n 1, 1) := by decide +kernel
theorem dX4_reckon_6 : decode cX4_reckon 6 = .ok (.iload_n 1, 1) := by decide +kernel
theorem dX4_reckon_7 : decode cX4_reckon 7 = .ok (.aload_n 0, 1) := by decide +kernel
theorem dX4_reckon_8 : decode cX4_reckon 8 = .ok (.getfield 44, 3) := by decide +kernel
theorem dX4_reckon_11 : decode cX4_reckon 11 = .ok (.invokevirtual 66, 3) := by decide +kernel
theorem dX4_reckon_14 : decode cX4_reckon 14 = .ok (.if_icmp .ge 14, 3) := by decide +kernel
theorem dX4_reckon_17 : decode cX4_reckon 17 = .ok (.aload_n 0, 1) := by decide +kernel
theorem dX4_reckon_18 : decode cX4_reckon 18 = .ok (.iload_n 1, 1) := by decide +kernel
theorem dX4_reckon_19 : decode cX4_reckon 19 = .ok (.invokevirtual 72, 3) := by decide +kernel
theorem dX4_reckon_22 : decode cX4_reckon 22 = .ok (.iinc 1 1, 3) := by decide +kernel
theorem dX4_reckon_25 : decode cX4_reckon 25 = .ok (.goto (-19), 3) := by decide +kernel
theorem dX4_reckon_28 : decode cX4_reckon 28 = .ok (.iconst 0, 1) := by decide +kernel
theorem dX4_reckon_29 : decode cX4_reckon 29 = .ok (.istore_n 1, 1) := by decide +kernel
theorem dX4_reckon_30 : decode cX4_reckon 30 = .ok (.iload_n 1, 1) := by decide +kernel
theorem dX4_reckon_31 : decode cX4_reckon 31 = .ok (.aload_n 0, 1) := by decide +kernel
theorem dX4_reckon_32 : decode cX4_reckon 32 = .ok (.getfield 44, 3) := by decide +kernel
theorem dX4_reckon_35 : decode cX4_reckon 35 = .ok (.getfield 75, 3) := by decide +kernel
theorem dX4_reckon_38 : decode cX4_reckon 38 = .ok (.if_icmp .ge 32, 3) := by decide +kernel
theorem dX4_reckon_41 : decode cX4_reckon 41 = .ok (.aload_n 0, 1) := by decide +kernel
theorem dX4_reckon_42 : decode cX4_reckon 42 = .ok (.iload_n 1, 1) := by decide +kernel
theorem dX4_reckon_43 : decode cX4_reckon 43 = .ok (.invokevirtual 79, 3) := by decide +kernel
theorem dX4_reckon_46 : decode cX4_reckon 46 = .ok (.aload_n 0, 1) := by decide +kernel
theorem dX4_reckon_47 : decode cX4_reckon 47 = .ok (.iload_n 1, 1) := by decide +kernel
theorem dX4_reckon_48 : decode cX4_reckon 48 = .ok (.bipush 8, 2) := by decide +kernel
theorem dX4_reckon_50 : decode cX4_reckon 50 = .ok (.aload_n 0, 1) := by decide +kernel
theorem dX4_reckon_51 : decode cX4_reckon 51 = .ok (.getfield 44, 3) := by decide +kernel
theorem dX4_reckon_54 : decode cX4_reckon 54 = .ok (.getfield 82, 3) := by decide +kernel
theorem dX4_reckon_57 : decode cX4_reckon 57 = .ok (.iload_n 1, 1) := by decide +kernel
theorem dX4_reckon_58 : decode cX4_reckon 58 = .ok (.invokevirtual 48, 3) := by decide +kernel
theorem dX4_reckon_61 : decode cX4_reckon 61 = .ok (.invokevirtual 85, 3) := by decide +kernel
theorem dX4_reckon_64 : decode cX4_reckon 64 = .ok (.iinc 1 1, 3) := by decide +kernel
theorem dX4_reckon_67 : decode cX4_reckon 67 = .ok (.goto (-37), 3) := by decide +kernel
theorem dX4_reckon_70 : decode cX4_reckon 70 = .ok (.aload_n 0, 1) := by decide +kernel
theorem dX4_reckon_71 : decode cX4_reckon 71 = .ok (.invokevirtual 89, 3) := by decide +kernel
theorem dX4_reckon_74 : decode cX4_reckon 74 = .ok (.return_, 1) := by decide +kernel
theorem dX4_wipe_0 : decode cX4_wipe 0 = .ok (.aload_n 0, 1) := by decide +kernel
theorem dX4_wipe_1 : decode cX4_wipe 1 = .ok (.getfield 14, 3) := by decide +kernel
theorem dX4_wipe_4 : decode cX4_wipe 4 = .ok (.iconst 0, 1) := by decide +kernel
theorem dX4_wipe_5 : decode cX4_wipe 5 = .ok (.invokevirtual 92, 3) := by decide +kernel
theorem dX4_wipe_8 : decode cX4_wipe 8 = .ok (.aload_n 0, 1) := by decide +kernel
theorem dX4_wipe_9 : decode cX4_wipe 9 = .ok (.getfield 20, 3) := by decide +kernel
theorem dX4_wipe_12 : decode cX4_wipe 12 = .ok (.iconst 0, 1) := by decide +kernel
theorem dX4_wipe_13 : decode cX4_wipe 13 = .ok (.invokevirtual 92, 3) := by decide +kernel
theorem dX4_wipe_16 : decode cX4_wipe 16 = .ok (.aload_n 0, 1) := by decide +kernel
theorem dX4_wipe_17 : decode cX4_wipe 17 = .ok (.getfield 23, 3) := by decide +kernel
theorem dX4_wipe_20 : decode cX4_wipe 20 = .ok (.iconst 0, 1) := by decide +kernel
theorem dX4_wipe_21 : decode cX4_wipe 21 = .ok (.invokevirtual 92, 3) := by decide +kernel
theorem dX4_wipe_24 : decode cX4_wipe 24 = .ok (.aload_n 0, 1) := by decide +kernel
theorem dX4_wipe_25 : decode cX4_wipe 25 = .ok (.getfield 26, 3) := by decide +kernel
theorem dX4_wipe_28 : decode cX4_wipe 28 = .ok (.bipush (-5), 2) := by decide +kernel
theorem dX4_wipe_30 : decode cX4_wipe 30 = .ok (.invokevirtual 92, 3) := by decide +kernel
theorem dX4_wipe_33 : decode cX4_wipe 33 = .ok (.aload_n 0, 1) := by decide +kernel
theorem dX4_wipe_34 : decode cX4_wipe 34 = .ok (.getfield 29, 3) := by decide +kernel
theorem dX4_wipe_37 : decode cX4_wipe 37 = .ok (.iconst 0, 1) := by decide +kernel
theorem dX4_wipe_38 : decode cX4_wipe 38 = .ok (.invokevirtual 92, 3) := by decide +kernel
theorem dX4_wipe_41 : decode cX4_wipe 41 = .ok (.aload_n 0, 1) := by decide +kernel
theorem dX4_wipe_42 : decode cX4_wipe 42 = .ok (.getfield 32, 3) := by decide +kernel
theorem dX4_wipe_45 : decode cX4_wipe 45 = .ok (.iconst 0, 1) := by decide +kernel
theorem dX4_wipe_46 : decode cX4_wipe 46 = .ok (.invokevirtual 92, 3) := by decide +kernel
theorem dX4_wipe_49 : decode cX4_wipe 49 = .ok (.aload_n 0, 1) := by decide +kernel
theorem dX4_wipe_50 : decode cX4_wipe 50 = .ok (.getfield 35, 3) := by decide +kernel
theorem dX4_wipe_53 : decode cX4_wipe 53 = .ok (.bipush (-5), 2) := by decide +kernel
theorem dX4_wipe_55 : decode cX4_wipe 55 = .ok (.invokevirtual 92, 3) := by decide +kernel
theorem dX4_wipe_58 : decode cX4_wipe 58 = .ok (.aload_n 0, 1) := by decide +kernel
theorem dX4_wipe_59 : decode cX4_wipe 59 = .ok (.getfield 38, 3) := by decide +kernel
theorem dX4_wipe_62 : decode cX4_wipe 62 = .ok (.iconst 0, 1) := by decide +kernel
theorem dX4_wipe_63 : decode cX4_wipe 63 = .ok (.invokevirtual 92, 3) := by decide +kernel
theorem dX4_wipe_66 : decode cX4_wipe 66 = .ok (.return_, 1) := by decide +kernel
theorem dX4_countRound_0 : decode cX4_countRound 0 = .ok (.iconst 0, 1) := by decide +kernel
theorem dX4_countRound_1 : decode cX4_countRound 1 = .ok (.istore_n 2, 1) := by decide +kernel
theorem dX4_countRound_2 : decode cX4_countRound 2 = .ok (.iload_n 2, 1) := by decide +kernel
theorem dX4_countRound_3 : decode cX4_countRound 3 = .ok (.aload_n 0, 1) := by decide +kernel
theorem dX4_countRound_4 : decode cX4_countRound 4 = .ok (.getfield 44, 3) := by decide +kernel
theorem dX4_countRound_7 : decode cX4_countRound 7 = .ok (.getfield 95, 3) := by decide +kernel
theorem dX4_countRound_10 : decode cX4_countRound 10 = .ok (.iload_n 1, 1) := by decide +kernel
theorem dX4_countRound_11 : decode cX4_countRound 11 = .ok (.invokevirtual 48, 3) := by decide +kernel
theorem dX4_countRound_14 : decode cX4_countRound 14 = .ok (.if_icmp .ge 49, 3) := by decide +kernel
theorem dX4_countRound_17 : decode cX4_countRound 17 = .ok (.iload_n 1, 1) := by decide +kernel
theorem dX4_countRound_18 : decode cX4_countRound 18 = .ok (.iload_n 2, 1) := by decide +kernel
theorem dX4_countRound_19 : decode cX4_countRound 19 = .ok (.invokestatic 98, 3) := by decide +kernel
theorem dX4_countRound_22 : decode cX4_countRound 22 = .ok (.istore_n 3, 1) := by decide +kernel
theorem dX4_countRound_23 : decode cX4_countRound 23 = .ok (.aload_n 0, 1) := by decide +kernel
theorem dX4_countRound_24 : decode cX4_countRound 24 = .ok (.iload_n 1, 1) := by decide +kernel
theorem dX4_countRound_25 : decode cX4_countRound 25 = .ok (.iload_n 2, 1) := by decide +kernel
theorem dX4_countRound_26 : decode cX4_countRound 26 = .ok (.aload_n 0, 1) := by decide +kernel
theorem dX4_countRound_27 : decode cX4_countRound 27 = .ok (.getfield 44, 3) := by decide +kernel
theorem dX4_countRound_30 : decode cX4_countRound 30 = .ok (.getfield 101, 3) := by decide +kernel
theorem dX4_countRound_33 : decode cX4_countRound 33 = .ok (.iload_n 3, 1) := by decide +kernel
theorem dX4_countRound_34 : decode cX4_countRound 34 = .ok (.invokevirtual 48, 3) := by decide +kernel
theorem dX4_countRound_37 : decode cX4_countRound 37 = .ok (.invokevirtual 104, 3) := by decide +kernel
theorem dX4_countRound_40 : decode cX4_countRound 40 = .ok (.aload_n 0, 1) := by decide +kernel
theorem dX4_countRound_41 : decode cX4_countRound 41 = .ok (.iload_n 1, 1) := by decide +kernel
theorem dX4_countRound_42 : decode cX4_countRound 42 = .ok (.iload_n 2, 1) := by decide +kernel
theorem dX4_countRound_43 : decode cX4_countRound 43 = .ok (.aload_n 0, 1) := by decide +kernel
theorem dX4_countRound_44 : decode cX4_countRound 44 = .ok (.getfield 44, 3) := by decide +kernel
theorem dX4_countRound_47 : decode cX4_countRound 47 = .ok (.getfield 107, 3) := by decide +kernel
theorem dX4_countRound_50 : decode cX4_countRound 50 = .ok (.iload_n 3, 1) := by decide +kernel
theorem dX4_countRound_51 : decode cX4_countRound 51 = .ok (.invokevirtual 48, 3) := by decide +kernel
theorem dX4_countRound_54 : decode cX4_countRound 54 = .ok (.invokevirtual 104, 3) := by decide +kernel
theorem dX4_countRound_57 : decode cX4_countRound 57 = .ok (.iinc 2 1, 3) := by decide +kernel
theorem dX4_countRound_60 : decode cX4_countRound 60 = .ok (.goto (-58), 3) := by decide +kernel
theorem dX4_countRound_63 : decode cX4_countRound 63 = .ok (.aload_n 0, 1) := by decide +kernel
theorem dX4_countRound_64 : decode cX4_countRound 64 = .ok (.getfield 44, 3) := by decide +kernel
theorem dX4_countRound_67 : decode cX4_countRound 67 = .ok (.getfield 110, 3) := by decide +kernel
theorem dX4_countRound_70 : decode cX4_countRound 70 = .ok (.iload_n 1, 1) := by decide +kernel
theorem dX4_countRound_71 : decode cX4_countRound 71 = .ok (.invokevirtual 48, 3) := by decide +kernel
theorem dX4_countRound_74 : decode cX4_countRound 74 = .ok (.istore_n 2, 1) := by decide +kernel
theorem dX4_countRound_75 : decode cX4_countRound 75 = .ok (.iload_n 2, 1) := by decide +kernel
theorem dX4_countRound_76 : decode cX4_countRound 76 = .ok (.bipush (-5), 2) := by decide +kernel
theorem dX4_countRound_78 : decode cX4_countRound 78 = .ok (.if_icmp .eq 19, 3) := by decide +kernel
theorem dX4_countRound_81 : decode cX4_countRound 81 = .ok (.aload_n 0, 1) := by decide +kernel
theorem dX4_countRound_82 : decode cX4_countRound 82 = .ok (.getfield 29, 3) := by decide +kernel
theorem dX4_countRound_85 : decode cX4_countRound 85 = .ok (.iload_n 2, 1) := by decide +kernel
theorem dX4_countRound_86 : decode cX4_countRound 86 = .ok (.iconst 1, 1) := by decide +kernel
theorem dX4_countRound_87 : decode cX4_countRound 87 = .ok (.invokevirtual 52, 3) := by decide +kernel
theorem dX4_countRound_90 : decode cX4_countRound 90 = .ok (.aload_n 0, 1) := by decide +kernel
theorem dX4_countRound_91 : decode cX4_countRound 91 = .ok (.iload_n 2, 1) := by decide +kernel
theorem dX4_countRound_92 : decode cX4_countRound 92 = .ok (.iconst 0, 1) := by decide +kernel
theorem dX4_countRound_93 : decode cX4_countRound 93 = .ok (.iconst 2, 1) := by decide +kernel
theorem dX4_countRound_94 : decode cX4_countRound 94 = .ok (.invokevirtual 85, 3) := by decide +kernel
theorem dX4_countRound_97 : decode cX4_countRound 97 = .ok (.iconst 0, 1) := by decide +kernel
theorem dX4_countRound_98 : decode cX4_countRound 98 = .ok (.istore_n 3, 1) := by decide +kernel
theorem dX4_countRound_99 : decode cX4_countRound 99 = .ok (.iload_n 3, 1) := by decide +kernel
theorem dX4_countRound_100 : decode cX4_countRound 100 = .ok (.aload_n 0, 1) := by decide +kernel
theorem dX4_countRound_101 : decode cX4_countRound 101 = .ok (.getfield 44, 3) := by decide +kernel
theorem dX4_countRound_104 : decode cX4_countRound 104 = .ok (.getfield 75, 3) := by decide +kernel
theorem dX4_countRound_107 : decode cX4_countRound 107 = .ok (.if_icmp .ge 22, 3) := by decide +kernel
theorem dX4_countRound_110 : decode cX4_countRound 110 = .ok (.aload_n 0, 1) := by decide +kernel
theorem dX4_countRound_111 : decode cX4_countRound 111 = .ok (.iload_n 3, 1) := by decide +kernel
theorem dX4_countRound_112 : decode cX4_countRound 112 = .ok (.bipush 6, 2) := by decide +kernel
theorem dX4_countRound_114 : decode cX4_countRound 114 = .ok (.aload_n 0, 1) := by decide +kernel
theorem dX4_countRound_115 : decode cX4_countRound 115 = .ok (.iload_n 3, 1) := by decide +kernel
theorem dX4_countRound_116 : decode cX4_countRound 116 = .ok (.iconst 0, 1) := by decide +kernel
theorem dX4_countRound_117 : decode cX4_countRound 117 = .ok (.invokevirtual 111, 3) := by decide +kernel
theorem dX4_countRound_120 : decode cX4_countRound 120 = .ok (.invokevirtual 85, 3) := by decide +kernel
theorem dX4_countRound_123 : decode cX4_countRound 123 = .ok (.iinc 3 1, 3) := by decide +kernel
theorem dX4_countRound_126 : decode cX4_countRound 126 = .ok (.goto (-27), 3) := by decide +kernel
theorem dX4_countRound_129 : decode cX4_countRound 129 = .ok (.return_, 1) := by decide +kernel
theorem dX4_countSide_0 : decode cX4_countSide 0 = .ok (.aload_n 0, 1) := by decide +kernel
theorem dX4_countSide_1 : decode cX4_countSide 1 = .ok (.getfield 44, 3) := by decide +kernel
theorem dX4_countSide_4 : decode cX4_countSide 4 = .ok (.iload_n 1, 1) := by decide +kernel
theorem dX4_countSide_5 : decode cX4_countSide 5 = .ok (.iload_n 2, 1) := by decide +kernel
theorem dX4_countSide_6 : decode cX4_countSide 6 = .ok (.iload_n 3, 1) := by decide +kernel
theorem dX4_countSide_7 : decode cX4_countSide 7 = .ok (.invokevirtual 114, 3) := by decide +kernel
theorem dX4_countSide_10 : decode cX4_countSide 10 = .ok (.istore 4, 2) := by decide +kernel
theorem dX4_countSide_12 : decode cX4_countSide 12 = .ok (.aload_n 0, 1) := by decide +kernel
theorem dX4_countSide_13 : decode cX4_countSide 13 = .ok (.iload_n 3, 1) := by decide +kernel
theorem dX4_countSide_14 : decode cX4_countSide 14 = .ok (.iconst 0, 1) := by decide +kernel
theorem dX4_countSide_15 : decode cX4_countSide 15 = .ok (.iload 4, 2) := by decide +kernel
theorem dX4_countSide_17 : decode cX4_countSide 17 = .ok (.invokestatic 118, 3) := by decide +kernel
theorem dX4_countSide_20 : decode cX4_countSide 20 = .ok (.invokevirtual 85, 3) := by decide +kernel
theorem dX4_countSide_23 : decode cX4_countSide 23 = .ok (.iload 4, 2) := by decide +kernel
theorem dX4_countSide_25 : decode cX4_countSide 25 = .ok (.iconst 4, 1) := by decide +kernel
theorem dX4_countSide_26 : decode cX4_countSide 26 = .ok (.if_icmp .ne 12, 3) := by decide +kernel
theorem dX4_countSide_29 : decode cX4_countSide 29 = .ok (.aload_n 0, 1) := by decide +kernel
theorem dX4_countSide_30 : decode cX4_countSide 30 = .ok (.getfield 32, 3) := by decide +kernel
theorem dX4_countSide_33 : decode cX4_countSide 33 = .ok (.iload_n 3, 1) := by decide +kernel
theorem dX4_countSide_34 : decode cX4_countSide 34 = .ok (.iconst 1, 1) := by decide +kernel
theorem dX4_countSide_35 : decode cX4_countSide 35 = .ok (.invokevirtual 52, 3) := by decide +kernel
theorem dX4_countSide_38 : decode cX4_countSide 38 = .ok (.iload 4, 2) := by decide +kernel
theorem dX4_countSide_40 : decode cX4_countSide 40 = .ok (.invokestatic 121, 3) := by decide +kernel
theorem dX4_countSide_43 : decode cX4_countSide 43 = .ok (.ifCond .eq 10, 3) := by decide +kernel
theorem dX4_countSide_46 : decode cX4_countSide 46 = .ok (.aload_n 0, 1) := by decide +kernel
theorem dX4_countSide_47 : decode cX4_countSide 47 = .ok (.iload_n 1, 1) := by decide +kernel
theorem dX4_countSide_48 : decode cX4_countSide 48 = .ok (.iload_n 2, 1) := by decide +kernel
theorem dX4_countSide_49 : decode cX4_countSide 49 = .ok (.iload_n 3, 1) := by decide +kernel
theorem dX4_countSide_50 : decode cX4_countSide 50 = .ok (.invokevirtual 125, 3) := by decide +kernel
theorem dX4_countSide_53 : decode cX4_countSide 53 = .ok (.return_, 1) := by decide +kernel
theorem dX4_countPlayed_0 : decode cX4_countPlayed 0 = .ok (.aload_n 0, 1) := by decide +kernel
theorem dX4_countPlayed_1 : decode cX4_countPlayed 1 = .ok (.getfield 44, 3) := by decide +kernel
theorem dX4_countPlayed_4 : decode cX4_countPlayed 4 = .ok (.iload_n 1, 1) := by decide +kernel
theorem dX4_countPlayed_5 : decode cX4_countPlayed 5 = .ok (.iload_n 2, 1) := by decide +kernel
theorem dX4_countPlayed_6 : decode cX4_countPlayed 6 = .ok (.iload_n 3, 1) := by decide +kernel
theorem dX4_countPlayed_7 : decode cX4_countPlayed 7 = .ok (.invokevirtual 114, 3) := by decide +kernel
theorem dX4_countPlayed_10 : decode cX4_countPlayed 10 = .ok (.istore 4, 2) := by decide +kernel
theorem dX4_countPlayed_12 : decode cX4_countPlayed 12 = .ok (.aload_n 0, 1) := by decide +kernel
theorem dX4_countPlayed_13 : decode cX4_countPlayed 13 = .ok (.getfield 44, 3) := by decide +kernel
theorem dX4_countPlayed_16 : decode cX4_countPlayed 16 = .ok (.iload_n 1, 1) := by decide +kernel
theorem dX4_countPlayed_17 : decode cX4_countPlayed 17 = .ok (.iload_n 2, 1) := by decide +kernel
theorem dX4_countPlayed_18 : decode cX4_countPlayed 18 = .ok (.iload_n 3, 1) := by decide +kernel
theorem dX4_countPlayed_19 : decode cX4_countPlayed 19 = .ok (.invokevirtual 128, 3) := by decide +kernel
theorem dX4_countPlayed_22 : decode cX4_countPlayed 22 = .ok (.istore 5, 2) := by decide +kernel
theorem dX4_countPlayed_24 : decode cX4_countPlayed 24 = .ok (.iload_n 3, 1) := by decide +kernel
theorem dX4_countPlayed_25 : decode cX4_countPlayed 25 = .ok (.aload_n 0, 1) := by decide +kernel
theorem dX4_countPlayed_26 : decode cX4_countPlayed 26 = .ok (.getfield 44, 3) := by decide +kernel
theorem dX4_countPlayed_29 : decode cX4_countPlayed 29 = .ok (.iload_n 1, 1) := by decide +kernel
theorem dX4_countPlayed_30 : decode cX4_countPlayed 30 = .ok (.iload_n 2, 1) := by decide +kernel
theorem dX4_countPlayed_31 : decode cX4_countPlayed 31 = .ok (.iload_n 3, 1) := by decide +kernel
theorem dX4_countPlayed_32 : decode cX4_countPlayed 32 = .ok (.invokevirtual 131, 3) := by decide +kernel
theorem dX4_countPlayed_35 : decode cX4_countPlayed 35 = .ok (.invokestatic 56, 3) := by decide +kernel
theorem dX4_countPlayed_38 : decode cX4_countPlayed 38 = .ok (.istore 6, 2) := by decide +kernel
theorem dX4_countPlayed_40 : decode cX4_countPlayed 40 = .ok (.aload_n 0, 1) := by decide +kernel
theorem dX4_countPlayed_41 : decode cX4_countPlayed 41 = .ok (.getfield 20, 3) := by decide +kernel
theorem dX4_countPlayed_44 : decode cX4_countPlayed 44 = .ok (.iload_n 3, 1) := by decide +kernel
theorem dX4_countPlayed_45 : decode cX4_countPlayed 45 = .ok (.iconst 1, 1) := by decide +kernel
theorem dX4_countPlayed_46 : decode cX4_countPlayed 46 = .ok (.invokevirtual 52, 3) := by decide +kernel
theorem dX4_countPlayed_49 : decode cX4_countPlayed 49 = .ok (.aload_n 0, 1) := by decide +kernel
theorem dX4_countPlayed_50 : decode cX4_countPlayed 50 = .ok (.getfield 26, 3) := by decide +kernel
theorem dX4_countPlayed_53 : decode cX4_countPlayed 53 = .ok (.iload_n 3, 1) := by decide +kernel
theorem dX4_countPlayed_54 : decode cX4_countPlayed 54 = .ok (.iload 5, 2) := by decide +kernel
theorem dX4_countPlayed_56 : decode cX4_countPlayed 56 = .ok (.invokevirtual 134, 3) := by decide +kernel
theorem dX4_countPlayed_59 : decode cX4_countPlayed 59 = .ok (.aload_n 0, 1) := by decide +kernel
theorem dX4_countPlayed_60 : decode cX4_countPlayed 60 = .ok (.getfield 23, 3) := by decide +kernel
theorem dX4_countPlayed_63 : decode cX4_countPlayed 63 = .ok (.iload_n 3, 1) := by decide +kernel
theorem dX4_countPlayed_64 : decode cX4_countPlayed 64 = .ok (.iload 5, 2) := by decide +kernel
theorem dX4_countPlayed_66 : decode cX4_countPlayed 66 = .ok (.ifCond .ne 7, 3) := by decide +kernel
theorem dX4_countPlayed_69 : decode cX4_countPlayed 69 = .ok (.iconst 1, 1) := by decide +kernel
theorem dX4_countPlayed_70 : decode cX4_countPlayed 70 = .ok (.goto 4, 3) := by decide +kernel
theorem dX4_countPlayed_73 : decode cX4_countPlayed 73 = .ok (.iconst (-1), 1) := by decide +kernel
theorem dX4_countPlayed_74 : decode cX4_countPlayed 74 = .ok (.invokevirtual 52, 3) := by decide +kernel
theorem dX4_countPlayed_77 : decode cX4_countPlayed 77 = .ok (.aload_n 0, 1) := by decide +kernel
theorem dX4_countPlayed_78 : decode cX4_countPlayed 78 = .ok (.iload_n 3, 1) := by decide +kernel
theorem dX4_countPlayed_79 : decode cX4_countPlayed 79 = .ok (.iconst 5, 1) := by decide +kernel
theorem dX4_countPlayed_80 : decode cX4_countPlayed 80 = .ok (.iload 5, 2) := by decide +kernel
theorem dX4_countPlayed_82 : decode cX4_countPlayed 82 = .ok (.iconst 1, 1) := by decide +kernel
theorem dX4_countPlayed_83 : decode cX4_countPlayed 83 = .ok (.if_icmp .ne 7, 3) := by decide +kernel
theorem dX4_countPlayed_86 : decode cX4_countPlayed 86 = .ok (.iconst 1, 1) := by decide +kernel
theorem dX4_countPlayed_87 : decode cX4_countPlayed 87 = .ok (.goto 4, 3) := by decide +kernel
theorem dX4_countPlayed_90 : decode cX4_countPlayed 90 = .ok (.iconst 0, 1) := by decide +kernel
theorem dX4_countPlayed_91 : decode cX4_countPlayed 91 = .ok (.invokevirtual 85, 3) := by decide +kernel
theorem dX4_countPlayed_94 : decode cX4_countPlayed 94 = .ok (.aload_n 0, 1) := by decide +kernel
theorem dX4_countPlayed_95 : decode cX4_countPlayed 95 = .ok (.iload_n 3, 1) := by decide +kernel
theorem dX4_countPlayed_96 : decode cX4_countPlayed 96 = .ok (.iconst 4, 1) := by decide +kernel
theorem dX4_countPlayed_97 : decode cX4_countPlayed 97 = .ok (.iload 4, 2) := by decide +kernel
theorem dX4_countPlayed_99 : decode cX4_countPlayed 99 = .ok (.iconst 1, 1) := by decide +kernel
theorem dX4_countPlayed_100 : decode cX4_countPlayed 100 = .ok (.if_icmp .ne 7, 3) := by decide +kernel
theorem dX4_countPlayed_103 : decode cX4_countPlayed 103 = .ok (.iconst 1, 1) := by decide +kernel
theorem dX4_countPlayed_104 : decode cX4_countPlayed 104 = .ok (.goto 4, 3) := by decide +kernel
theorem dX4_countPlayed_107 : decode cX4_countPlayed 107 = .ok (.iconst 0, 1) := by decide +kernel
theorem dX4_countPlayed_108 : decode cX4_countPlayed 108 = .ok (.invokevirtual 85, 3) := by decide +kernel
theorem dX4_countPlayed_111 : decode cX4_countPlayed 111 = .ok (.aload_n 0, 1) := by decide +kernel
theorem dX4_countPlayed_112 : decode cX4_countPlayed 112 = .ok (.getfield 35, 3) := by decide +kernel
theorem dX4_countPlayed_115 : decode cX4_countPlayed 115 = .ok (.iload 6, 2) := by decide +kernel
theorem dX4_countPlayed_117 : decode cX4_countPlayed 117 = .ok (.iload_n 1, 1) := by decide +kernel
theorem dX4_countPlayed_118 : decode cX4_countPlayed 118 = .ok (.invokevirtual 134, 3) := by decide +kernel
theorem dX4_countPlayed_121 : decode cX4_countPlayed 121 = .ok (.aload_n 0, 1) := by decide +kernel
theorem dX4_countPlayed_122 : decode cX4_countPlayed 122 = .ok (.getfield 38, 3) := by decide +kernel
theorem dX4_countPlayed_125 : decode cX4_countPlayed 125 = .ok (.iload 6, 2) := by decide +kernel
theorem dX4_countPlayed_127 : decode cX4_countPlayed 127 = .ok (.iload 4, 2) := by decide +kernel
theorem dX4_countPlayed_129 : decode cX4_countPlayed 129 = .ok (.invokestatic 118, 3) := by decide +kernel
theorem dX4_countPlayed_132 : decode cX4_countPlayed 132 = .ok (.invokevirtual 134, 3) := by decide +kernel
theorem dX4_countPlayed_135 : decode cX4_countPlayed 135 = .ok (.return_, 1) := by decide +kernel
theorem dX4_compareWithOpponents_0 : decode cX4_compareWithOpponents 0 = .ok (.aload_n 0, 1) := by decide +kernel
theorem dX4_compareWithOpponents_1 : decode cX4_compareWithOpponents 1 = .ok (.iload_n 1, 1) := by decide +kernel
theorem dX4_compareWithOpponents_2 : decode cX4_compareWithOpponents 2 = .ok (.iconst 0, 1) := by decide +kernel
theorem dX4_compareWithOpponents_3 : decode cX4_compareWithOpponents 3 = .ok (.invokevirtual 111, 3) := by decide +kernel
theorem dX4_compareWithOpponents_6 : decode cX4_compareWithOpponents 6 = .ok (.istore_n 2, 1) := by decide +kernel
theorem dX4_compareWithOpponents_7 : decode cX4_compareWithOpponents 7 = .ok (.iconst (-1), 1) := by decide +kernel
theorem dX4_compareWithOpponents_8 : decode cX4_compareWithOpponents 8 = .ok (.istore_n 3, 1) := by decide +kernel
theorem dX4_compareWithOpponents_9 : decode cX4_compareWithOpponents 9 = .ok (.iconst 0, 1) := by decide +kernel
theorem dX4_compareWithOpponents_10 : decode cX4_compareWithOpponents 10 = .ok (.istore 4, 2) := by decide +kernel
theorem dX4_compareWithOpponents_12 : decode cX4_compareWithOpponents 12 = .ok (.iload 4, 2) := by decide +kernel
theorem dX4_compareWithOpponents_14 : decode cX4_compareWithOpponents 14 = .ok (.aload_n 0, 1) := by decide +kernel
theorem dX4_compareWithOpponents_15 : decode cX4_compareWithOpponents 15 = .ok (.getfield 44, 3) := by decide +kernel
theorem dX4_compareWithOpponents_18 : decode cX4_compareWithOpponents 18 = .ok (.getfield 75, 3) := by decide +kernel
theorem dX4_compareWithOpponents_21 : decode cX4_compareWithOpponents 21 = .ok (.if_icmp .ge 92, 3) := by decide +kernel
theorem dX4_compareWithOpponents_24 : decode cX4_compareWithOpponents 24 = .ok (.aload_n 0, 1) := by decide +kernel
theorem dX4_compareWithOpponents_25 : decode cX4_compareWithOpponents 25 = .ok (.iload_n 1, 1) := by decide +kernel
theorem dX4_compareWithOpponents_26 : decode cX4_compareWithOpponents 26 = .ok (.iload 4, 2) := by decide +kernel
theorem dX4_compareWithOpponents_28 : decode cX4_compareWithOpponents 28 = .ok (.invokevirtual 137, 3) := by decide +kernel
theorem dX4_compareWithOpponents_31 : decode cX4_compareWithOpponents 31 = .ok (.ifCond .eq 76, 3) := by decide +kernel
theorem dX4_compareWithOpponents_34 : decode cX4_compareWithOpponents 34 = .ok (.aload_n 0, 1) := by decide +kernel
theorem dX4_compareWithOpponents_35 : decode cX4_compareWithOpponents 35 = .ok (.iload 4, 2) := by decide +kernel
theorem dX4_compareWithOpponents_37 : decode cX4_compareWithOpponents 37 = .ok (.iconst 0, 1) := by decide +kernel
theorem dX4_compareWithOpponents_38 : decode cX4_compareWithOpponents 38 = .ok (.invokevirtual 111, 3) := by decide +kernel
theorem dX4_compareWithOpponents_41 : decode cX4_compareWithOpponents 41 = .ok (.istore 5, 2) := by decide +kernel
theorem dX4_compareWithOpponents_43 : decode cX4_compareWithOpponents 43 = .ok (.aload_n 0, 1) := by decide +kernel
theorem dX4_compareWithOpponents_44 : decode cX4_compareWithOpponents 44 = .ok (.iload_n 1, 1) := by decide +kernel
theorem dX4_compareWithOpponents_45 : decode cX4_compareWithOpponents 45 = .ok (.iload 4, 2) := by decide +kernel
theorem dX4_compareWithOpponents_47 : decode cX4_compareWithOpponents 47 = .ok (.invokevirtual 141, 3) := by decide +kernel
theorem dX4_compareWithOpponents_50 : decode cX4_compareWithOpponents 50 = .ok (.istore 6, 2) := by decide +kernel
theorem dX4_compareWithOpponents_52 : decode cX4_compareWithOpponents 52 = .ok (.aload_n 0, 1) := by decide +kernel
theorem dX4_compareWithOpponents_53 : decode cX4_compareWithOpponents 53 = .ok (.iload_n 1, 1) := by decide +kernel
theorem dX4_compareWithOpponents_54 : decode cX4_compareWithOpponents 54 = .ok (.iconst 1, 1) := by decide +kernel
theorem dX4_compareWithOpponents_55 : decode cX4_compareWithOpponents 55 = .ok (.iload 5, 2) := by decide +kernel
theorem dX4_compareWithOpponents_57 : decode cX4_compareWithOpponents 57 = .ok (.invokevirtual 85, 3) := by decide +kernel
theorem dX4_compareWithOpponents_60 : decode cX4_compareWithOpponents 60 = .ok (.aload_n 0, 1) := by decide +kernel
theorem dX4_compareWithOpponents_61 : decode cX4_compareWithOpponents 61 = .ok (.iload_n 1, 1) := by decide +kernel
theorem dX4_compareWithOpponents_62 : decode cX4_compareWithOpponents 62 = .ok (.iconst 3, 1) := by decide +kernel
theorem dX4_compareWithOpponents_63 : decode cX4_compareWithOpponents 63 = .ok (.iload 6, 2) := by decide +kernel
theorem dX4_compareWithOpponents_65 : decode cX4_compareWithOpponents 65 = .ok (.iload 5, 2) := by decide +kernel
theorem dX4_compareWithOpponents_67 : decode cX4_compareWithOpponents 67 = .ok (.imul, 1) := by decide +kernel
theorem dX4_compareWithOpponents_68 : decode cX4_compareWithOpponents 68 = .ok (.invokevirtual 85, 3) := by decide +kernel
theorem dX4_compareWithOpponents_71 : decode cX4_compareWithOpponents 71 = .ok (.aload_n 0, 1) := by decide +kernel
theorem dX4_compareWithOpponents_72 : decode cX4_compareWithOpponents 72 = .ok (.iload_n 1, 1) := by decide +kernel
theorem dX4_compareWithOpponents_73 : decode cX4_compareWithOpponents 73 = .ok (.bipush 7, 2) := by decide +kernel
theorem dX4_compareWithOpponents_75 : decode cX4_compareWithOpponents 75 = .ok (.iload 5, 2) := by decide +kernel
theorem dX4_compareWithOpponents_77 : decode cX4_compareWithOpponents 77 = .ok (.iload_n 2, 1) := by decide +kernel
theorem dX4_compareWithOpponents_78 : decode cX4_compareWithOpponents 78 = .ok (.if_icmp .ne 8, 3) := by decide +kernel
theorem dX4_compareWithOpponents_81 : decode cX4_compareWithOpponents 81 = .ok (.iload 6, 2) := by decide +kernel
theorem dX4_compareWithOpponents_83 : decode cX4_compareWithOpponents 83 = .ok (.goto 4, 3) := by decide +kernel
theorem dX4_compareWithOpponents_86 : decode cX4_compareWithOpponents 86 = .ok (.iconst 0, 1) := by decide +kernel
theorem dX4_compareWithOpponents_87 : decode cX4_compareWithOpponents 87 = .ok (.invokevirtual 85, 3) := by decide +kernel
theorem dX4_compareWithOpponents_90 : decode cX4_compareWithOpponents 90 = .ok (.iload_n 3, 1) := by decide +kernel
theorem dX4_compareWithOpponents_91 : decode cX4_compareWithOpponents 91 = .ok (.iconst (-1), 1) := by decide +kernel
theorem dX4_compareWithOpponents_92 : decode cX4_compareWithOpponents 92 = .ok (.if_icmp .ne 8, 3) := by decide +kernel
theorem dX4_compareWithOpponents_95 : decode cX4_compareWithOpponents 95 = .ok (.iload 5, 2) := by decide +kernel
theorem dX4_compareWithOpponents_97 : decode cX4_compareWithOpponents 97 = .ok (.goto 9, 3) := by decide +kernel
theorem dX4_compareWithOpponents_100 : decode cX4_compareWithOpponents 100 = .ok (.iload_n 3, 1) := by decide +kernel
theorem dX4_compareWithOpponents_101 : decode cX4_compareWithOpponents 101 = .ok (.iload 5, 2) := by decide +kernel
theorem dX4_compareWithOpponents_103 : decode cX4_compareWithOpponents 103 = .ok (.invokestatic 144, 3) := by decide +kernel
theorem dX4_compareWithOpponents_106 : decode cX4_compareWithOpponents 106 = .ok (.istore_n 3, 1) := by decide +kernel
theorem dX4_compareWithOpponents_107 : decode cX4_compareWithOpponents 107 = .ok (.iinc 4 1, 3) := by decide +kernel
theorem dX4_compareWithOpponents_110 : decode cX4_compareWithOpponents 110 = .ok (.goto (-98), 3) := by decide +kernel
theorem dX4_compareWithOpponents_113 : decode cX4_compareWithOpponents 113 = .ok (.aload_n 0, 1) := by decide +kernel
theorem dX4_compareWithOpponents_114 : decode cX4_compareWithOpponents 114 = .ok (.iload_n 1, 1) := by decide +kernel
theorem dX4_compareWithOpponents_115 : decode cX4_compareWithOpponents 115 = .ok (.iconst 2, 1) := by decide +kernel
theorem dX4_compareWithOpponents_116 : decode cX4_compareWithOpponents 116 = .ok (.aload_n 0, 1) := by decide +kernel
theorem dX4_compareWithOpponents_117 : decode cX4_compareWithOpponents 117 = .ok (.iload_n 1, 1) := by decide +kernel
theorem dX4_compareWithOpponents_118 : decode cX4_compareWithOpponents 118 = .ok (.iconst 1, 1) := by decide +kernel
theorem dX4_compareWithOpponents_119 : decode cX4_compareWithOpponents 119 = .ok (.invokevirtual 111, 3) := by decide +kernel
theorem dX4_compareWithOpponents_122 : decode cX4_compareWithOpponents 122 = .ok (.iconst 0, 1) := by decide +kernel
theorem dX4_compareWithOpponents_123 : decode cX4_compareWithOpponents 123 = .ok (.iload_n 3, 1) := by decide +kernel
theorem dX4_compareWithOpponents_124 : decode cX4_compareWithOpponents 124 = .ok (.invokestatic 149, 3) := by decide +kernel
theorem dX4_compareWithOpponents_127 : decode cX4_compareWithOpponents 127 = .ok (.isub, 1) := by decide +kernel
theorem dX4_compareWithOpponents_128 : decode cX4_compareWithOpponents 128 = .ok (.invokevirtual 85, 3) := by decide +kernel
theorem dX4_compareWithOpponents_131 : decode cX4_compareWithOpponents 131 = .ok (.return_, 1) := by decide +kernel
theorem dX4_stand_0 : decode cX4_stand 0 = .ok (.iconst 0, 1) := by decide +kernel
theorem dX4_stand_1 : decode cX4_stand 1 = .ok (.istore_n 1, 1) := by decide +kernel
theorem dX4_stand_2 : decode cX4_stand 2 = .ok (.iload_n 1, 1) := by decide +kernel
theorem dX4_stand_3 : decode cX4_stand 3 = .ok (.aload_n 0, 1) := by decide +kernel
theorem dX4_stand_4 : decode cX4_stand 4 = .ok (.getfield 44, 3) := by decide +kernel
theorem dX4_stand_7 : decode cX4_stand 7 = .ok (.getfield 75, 3) := by decide +kernel
theorem dX4_stand_10 : decode cX4_stand 10 = .ok (.if_icmp .ge 66, 3) := by decide +kernel
theorem dX4_stand_13 : decode cX4_stand 13 = .ok (.iload_n 1, 1) := by decide +kernel
theorem dX4_stand_14 : decode cX4_stand 14 = .ok (.istore_n 2, 1) := by decide +kernel
theorem dX4_stand_15 : decode cX4_stand 15 = .ok (.iload_n 2, 1) := by decide +kernel
theorem dX4_stand_16 : decode cX4_stand 16 = .ok (.ifCond .le 45, 3) := by decide +kernel
theorem dX4_stand_19 : decode cX4_stand 19 = .ok (.aload_n 0, 1) := by decide +kernel
theorem dX4_stand_20 : decode cX4_stand 20 = .ok (.iload_n 1, 1) := by decide +kernel
theorem dX4_stand_21 : decode cX4_stand 21 = .ok (.aload_n 0, 1) := by decide +kernel
theorem dX4_stand_22 : decode cX4_stand 22 = .ok (.getfield 41, 3) := by decide +kernel
theorem dX4_stand_25 : decode cX4_stand 25 = .ok (.iload_n 2, 1) := by decide +kernel
theorem dX4_stand_26 : decode cX4_stand 26 = .ok (.iconst 1, 1) := by decide +kernel
theorem dX4_stand_27 : decode cX4_stand 27 = .ok (.isub, 1) := by decide +kernel
theorem dX4_stand_28 : decode cX4_stand 28 = .ok (.invokevirtual 48, 3) := by decide +kernel
theorem dX4_stand_31 : decode cX4_stand 31 = .ok (.invokevirtual 152, 3) := by decide +kernel
theorem dX4_stand_34 : decode cX4_stand 34 = .ok (.ifCond .eq 27, 3) := by decide +kernel
theorem dX4_stand_37 : decode cX4_stand 37 = .ok (.aload_n 0, 1) := by decide +kernel
theorem dX4_stand_38 : decode cX4_stand 38 = .ok (.getfield 41, 3) := by decide +kernel
theorem dX4_stand_41 : decode cX4_stand 41 = .ok (.iload_n 2, 1) := by decide +kernel
theorem dX4_stand_42 : decode cX4_stand 42 = .ok (.aload_n 0, 1) := by decide +kernel
theorem dX4_stand_43 : decode cX4_stand 43 = .ok (.getfield 41, 3) := by decide +kernel
theorem dX4_stand_46 : decode cX4_stand 46 = .ok (.iload_n 2, 1) := by decide +kernel
theorem dX4_stand_47 : decode cX4_stand 47 = .ok (.iconst 1, 1) := by decide +kernel
theorem dX4_stand_48 : decode cX4_stand 48 = .ok (.isub, 1) := by decide +kernel
theorem dX4_stand_49 : decode cX4_stand 49 = .ok (.invokevirtual 48, 3) := by decide +kernel
theorem dX4_stand_52 : decode cX4_stand 52 = .ok (.invokevirtual 134, 3) := by decide +kernel
theorem dX4_stand_55 : decode cX4_stand 55 = .ok (.iinc 2 (-1), 3) := by decide +kernel
theorem dX4_stand_58 : decode cX4_stand 58 = .ok (.goto (-43), 3) := by decide +kernel
theorem dX4_stand_61 : decode cX4_stand 61 = .ok (.aload_n 0, 1) := by decide +kernel
theorem dX4_stand_62 : decode cX4_stand 62 = .ok (.getfield 41, 3) := by decide +kernel
theorem dX4_stand_65 : decode cX4_stand 65 = .ok (.iload_n 2, 1) := by decide +kernel
theorem dX4_stand_66 : decode cX4_stand 66 = .ok (.iload_n 1, 1) := by decide +kernel
theorem dX4_stand_67 : decode cX4_stand 67 = .ok (.invokevirtual 134, 3) := by decide +kernel
theorem dX4_stand_70 : decode cX4_stand 70 = .ok (.iinc 1 1, 3) := by decide +kernel
theorem dX4_stand_73 : decode cX4_stand 73 = .ok (.goto (-71), 3) := by decide +kernel
theorem dX4_stand_76 : decode cX4_stand 76 = .ok (.return_, 1) := by decide +kernel
theorem dX4_isAhead_0 : decode cX4_isAhead 0 = .ok (.aload_n 0, 1) := by decide +kernel
theorem dX4_isAhead_1 : decode cX4_isAhead 1 = .ok (.iload_n 1, 1) := by decide +kernel
theorem dX4_isAhead_2 : decode cX4_isAhead 2 = .ok (.iload_n 2, 1) := by decide +kernel
theorem dX4_isAhead_3 : decode cX4_isAhead 3 = .ok (.invokevirtual 155, 3) := by decide +kernel
theorem dX4_isAhead_6 : decode cX4_isAhead 6 = .ok (.istore_n 3, 1) := by decide +kernel
theorem dX4_isAhead_7 : decode cX4_isAhead 7 = .ok (.iload_n 3, 1) := by decide +kernel
theorem dX4_isAhead_8 : decode cX4_isAhead 8 = .ok (.bipush (-5), 2) := by decide +kernel
theorem dX4_isAhead_10 : decode cX4_isAhead 10 = .ok (.if_icmp .ne 16, 3) := by decide +kernel
theorem dX4_isAhead_13 : decode cX4_isAhead 13 = .ok (.iload_n 1, 1) := by decide +kernel
theorem dX4_isAhead_14 : decode cX4_isAhead 14 = .ok (.iload_n 2, 1) := by decide +kernel
theorem dX4_isAhead_15 : decode cX4_isAhead 15 = .ok (.if_icmp .ge 7, 3) := by decide +kernel
theorem dX4_isAhead_18 : decode cX4_isAhead 18 = .ok (.iconst 1, 1) := by decide +kernel
theorem dX4_isAhead_19 : decode cX4_isAhead 19 = .ok (.goto 27, 3) := by decide +kernel
theorem dX4_isAhead_22 : decode cX4_isAhead 22 = .ok (.iconst 0, 1) := by decide +kernel
theorem dX4_isAhead_23 : decode cX4_isAhead 23 = .ok (.goto 23, 3) := by decide +kernel
theorem dX4_isAhead_26 : decode cX4_isAhead 26 = .ok (.aload_n 0, 1) := by decide +kernel
theorem dX4_isAhead_27 : decode cX4_isAhead 27 = .ok (.iload_n 1, 1) := by decide +kernel
theorem dX4_isAhead_28 : decode cX4_isAhead 28 = .ok (.iload_n 3, 1) := by decide +kernel
theorem dX4_isAhead_29 : decode cX4_isAhead 29 = .ok (.invokevirtual 111, 3) := by decide +kernel
theorem dX4_isAhead_32 : decode cX4_isAhead 32 = .ok (.aload_n 0, 1) := by decide +kernel
theorem dX4_isAhead_33 : decode cX4_isAhead 33 = .ok (.iload_n 2, 1) := by decide +kernel
theorem dX4_isAhead_34 : decode cX4_isAhead 34 = .ok (.iload_n 3, 1) := by decide +kernel
theorem dX4_isAhead_35 : decode cX4_isAhead 35 = .ok (.invokevirtual 111, 3) := by decide +kernel
theorem dX4_isAhead_38 : decode cX4_isAhead 38 = .ok (.if_icmp .le 7, 3) := by decide +kernel
theorem dX4_isAhead_41 : decode cX4_isAhead 41 = .ok (.iconst 1, 1) := by decide +kernel
theorem dX4_isAhead_42 : decode cX4_isAhead 42 = .ok (.goto 4, 3) := by decide +kernel
theorem dX4_isAhead_45 : decode cX4_isAhead 45 = .ok (.iconst 0, 1) := by decide +kernel
theorem dX4_isAhead_46 : decode cX4_isAhead 46 = .ok (.ireturn, 1) := by decide +kernel
theorem dX4_firstDifference_0 : decode cX4_firstDifference 0 = .ok (.iconst 0, 1) := by decide +kernel
theorem dX4_firstDifference_1 : decode cX4_firstDifference 1 = .ok (.istore_n 3, 1) := by decide +kernel
theorem dX4_firstDifference_2 : decode cX4_firstDifference 2 = .ok (.iload_n 3, 1) := by decide +kernel
theorem dX4_firstDifference_3 : decode cX4_firstDifference 3 = .ok (.aload_n 0, 1) := by decide +kernel
theorem dX4_firstDifference_4 : decode cX4_firstDifference 4 = .ok (.getfield 44, 3) := by decide +kernel
theorem dX4_firstDifference_7 : decode cX4_firstDifference 7 = .ok (.getfield 158, 3) := by decide +kernel
theorem dX4_firstDifference_10 : decode cX4_firstDifference 10 = .ok (.if_icmp .ge 42, 3) := by decide +kernel
theorem dX4_firstDifference_13 : decode cX4_firstDifference 13 = .ok (.aload_n 0, 1) := by decide +kernel
theorem dX4_firstDifference_14 : decode cX4_firstDifference 14 = .ok (.getfield 44, 3) := by decide +kernel
theorem dX4_firstDifference_17 : decode cX4_firstDifference 17 = .ok (.getfield 161, 3) := by decide +kernel
theorem dX4_firstDifference_20 : decode cX4_firstDifference 20 = .ok (.iload_n 3, 1) := by decide +kernel
theorem dX4_firstDifference_21 : decode cX4_firstDifference 21 = .ok (.invokevirtual 48, 3) := by decide +kernel
theorem dX4_firstDifference_24 : decode cX4_firstDifference 24 = .ok (.istore 4, 2) := by decide +kernel
theorem dX4_firstDifference_26 : decode cX4_firstDifference 26 = .ok (.aload_n 0, 1) := by decide +kernel
theorem dX4_firstDifference_27 : decode cX4_firstDifference 27 = .ok (.iload_n 1, 1) := by decide +kernel
theorem dX4_firstDifference_28 : decode cX4_firstDifference 28 = .ok (.iload 4, 2) := by decide +kernel
theorem dX4_firstDifference_30 : decode cX4_firstDifference 30 = .ok (.invokevirtual 111, 3) := by decide +kernel
theorem dX4_firstDifference_33 : decode cX4_firstDifference 33 = .ok (.aload_n 0, 1) := by decide +kernel
theorem dX4_firstDifference_34 : decode cX4_firstDifference 34 = .ok (.iload_n 2, 1) := by decide +kernel
theorem dX4_firstDifference_35 : decode cX4_firstDifference 35 = .ok (.iload 4, 2) := by decide +kernel
theorem dX4_firstDifference_37 : decode cX4_firstDifference 37 = .ok (.invokevirtual 111, 3) := by decide +kernel
theorem dX4_firstDifference_40 : decode cX4_firstDifference 40 = .ok (.if_icmp .eq 6, 3) := by decide +kernel
theorem dX4_firstDifference_43 : decode cX4_firstDifference 43 = .ok (.iload 4, 2) := by decide +kernel
theorem dX4_firstDifference_45 : decode cX4_firstDifference 45 = .ok (.ireturn, 1) := by decide +kernel
theorem dX4_firstDifference_46 : decode cX4_firstDifference 46 = .ok (.iinc 3 1, 3) := by decide +kernel
theorem dX4_firstDifference_49 : decode cX4_firstDifference 49 = .ok (.goto (-47), 3) := by decide +kernel
theorem dX4_firstDifference_52 : decode cX4_firstDifference 52 = .ok (.bipush (-5), 2) := by decide +kernel
theorem dX4_firstDifference_54 : decode cX4_firstDifference 54 = .ok (.ireturn, 1) := by decide +kernel
theorem dX4_placeOf_0 : decode cX4_placeOf 0 = .ok (.iconst 0, 1) := by decide +kernel
theorem dX4_placeOf_1 : decode cX4_placeOf 1 = .ok (.istore_n 2, 1) := by decide +kernel
theorem dX4_placeOf_2 : decode cX4_placeOf 2 = .ok (.iload_n 2, 1) := by decide +kernel
theorem dX4_placeOf_3 : decode cX4_placeOf 3 = .ok (.aload_n 0, 1) := by decide +kernel
theorem dX4_placeOf_4 : decode cX4_placeOf 4 = .ok (.getfield 44, 3) := by decide +kernel
theorem dX4_placeOf_7 : decode cX4_placeOf 7 = .ok (.getfield 75, 3) := by decide +kernel
theorem dX4_placeOf_10 : decode cX4_placeOf 10 = .ok (.if_icmp .ge 23, 3) := by decide +kernel
theorem dX4_placeOf_13 : decode cX4_placeOf 13 = .ok (.aload_n 0, 1) := by decide +kernel
theorem dX4_placeOf_14 : decode cX4_placeOf 14 = .ok (.getfield 41, 3) := by decide +kernel
theorem dX4_placeOf_17 : decode cX4_placeOf 17 = .ok (.iload_n 2, 1) := by decide +kernel
theorem dX4_placeOf_18 : decode cX4_placeOf 18 = .ok (.invokevirtual 48, 3) := by decide +kernel
theorem dX4_placeOf_21 : decode cX4_placeOf 21 = .ok (.iload_n 1, 1) := by decide +kernel
theorem dX4_placeOf_22 : decode cX4_placeOf 22 = .ok (.if_icmp .ne 5, 3) := by decide +kernel
theorem dX4_placeOf_25 : decode cX4_placeOf 25 = .ok (.iload_n 2, 1) := by decide +kernel
theorem dX4_placeOf_26 : decode cX4_placeOf 26 = .ok (.ireturn, 1) := by decide +kernel
theorem dX4_placeOf_27 : decode cX4_placeOf 27 = .ok (.iinc 2 1, 3) := by decide +kernel
theorem dX4_placeOf_30 : decode cX4_placeOf 30 = .ok (.goto (-28), 3) := by decide +kernel
theorem dX4_placeOf_33 : decode cX4_placeOf 33 = .ok (.iconst (-1), 1) := by decide +kernel
theorem dX4_placeOf_34 : decode cX4_placeOf 34 = .ok (.ireturn, 1) := by decide +kernel
theorem dX4_countMet_0 : decode cX4_countMet 0 = .ok (.iconst 0, 1) := by decide +kernel
theorem dX4_countMet_1 : decode cX4_countMet 1 = .ok (.istore_n 2, 1) := by decide +kernel
theorem dX4_countMet_2 : decode cX4_countMet 2 = .ok (.iconst 0, 1) := by decide +kernel
theorem dX4_countMet_3 : decode cX4_countMet 3 = .ok (.istore_n 3, 1) := by decide +kernel
theorem dX4_countMet_4 : decode cX4_countMet 4 = .ok (.iload_n 3, 1) := by decide +kernel
theorem dX4_countMet_5 : decode cX4_countMet 5 = .ok (.aload_n 0, 1) := by decide +kernel
theorem dX4_countMet_6 : decode cX4_countMet 6 = .ok (.getfield 44, 3) := by decide +kernel
theorem dX4_countMet_9 : decode cX4_countMet 9 = .ok (.getfield 75, 3) := by decide +kernel
theorem dX4_countMet_12 : decode cX4_countMet 12 = .ok (.if_icmp .ge 21, 3) := by decide +kernel
theorem dX4_countMet_15 : decode cX4_countMet 15 = .ok (.aload_n 0, 1) := by decide +kernel
theorem dX4_countMet_16 : decode cX4_countMet 16 = .ok (.iload_n 1, 1) := by decide +kernel
theorem dX4_countMet_17 : decode cX4_countMet 17 = .ok (.iload_n 3, 1) := by decide +kernel
theorem dX4_countMet_18 : decode cX4_countMet 18 = .ok (.invokevirtual 137, 3) := by decide +kernel
theorem dX4_countMet_21 : decode cX4_countMet 21 = .ok (.ifCond .eq 6, 3) := by decide +kernel
theorem dX4_countMet_24 : decode cX4_countMet 24 = .ok (.iinc 2 1, 3) := by decide +kernel
theorem dX4_countMet_27 : decode cX4_countMet 27 = .ok (.iinc 3 1, 3) := by decide +kernel
theorem dX4_countMet_30 : decode cX4_countMet 30 = .ok (.goto (-26), 3) := by decide +kernel
theorem dX4_countMet_33 : decode cX4_countMet 33 = .ok (.iload_n 2, 1) := by decide +kernel
theorem dX4_countMet_34 : decode cX4_countMet 34 = .ok (.ireturn, 1) := by decide +kernel
theorem dX4_countMeetings_0 : decode cX4_countMeetings 0 = .ok (.iconst 0, 1) := by decide +kernel
theorem dX4_countMeetings_1 : decode cX4_countMeetings 1 = .ok (.istore_n 1, 1) := by decide +kernel
theorem dX4_countMeetings_2 : decode cX4_countMeetings 2 = .ok (.iconst 0, 1) := by decide +kernel
theorem dX4_countMeetings_3 : decode cX4_countMeetings 3 = .ok (.istore_n 2, 1) := by decide +kernel
theorem dX4_countMeetings_4 : decode cX4_countMeetings 4 = .ok (.iload_n 2, 1) := by decide +kernel
theorem dX4_countMeetings_5 : decode cX4_countMeetings 5 = .ok (.aload_n 0, 1) := by decide +kernel
theorem dX4_countMeetings_6 : decode cX4_countMeetings 6 = .ok (.getfield 44, 3) := by decide +kernel
theorem dX4_countMeetings_9 : decode cX4_countMeetings 9 = .ok (.getfield 75, 3) := by decide +kernel
theorem dX4_countMeetings_12 : decode cX4_countMeetings 12 = .ok (.if_icmp .ge 17, 3) := by decide +kernel
theorem dX4_countMeetings_15 : decode cX4_countMeetings 15 = .ok (.iload_n 1, 1) := by decide +kernel
theorem dX4_countMeetings_16 : decode cX4_countMeetings 16 = .ok (.aload_n 0, 1) := by decide +kernel
theorem dX4_countMeetings_17 : decode cX4_countMeetings 17 = .ok (.iload_n 2, 1) := by decide +kernel
theorem dX4_countMeetings_18 : decode cX4_countMeetings 18 = .ok (.invokevirtual 164, 3) := by decide +kernel
theorem dX4_countMeetings_21 : decode cX4_countMeetings 21 = .ok (.iadd, 1) := by decide +kernel
theorem dX4_countMeetings_22 : decode cX4_countMeetings 22 = .ok (.istore_n 1, 1) := by decide +kernel
theorem dX4_countMeetings_23 : decode cX4_countMeetings 23 = .ok (.iinc 2 1, 3) := by decide +kernel
theorem dX4_countMeetings_26 : decode cX4_countMeetings 26 = .ok (.goto (-22), 3) := by decide +kernel
theorem dX4_countMeetings_29 : decode cX4_countMeetings 29 = .ok (.iload_n 1, 1) := by decide +kernel
theorem dX4_countMeetings_30 : decode cX4_countMeetings 30 = .ok (.iconst 2, 1) := by decide +kernel
theorem dX4_countMeetings_31 : decode cX4_countMeetings 31 = .ok (.idiv, 1) := by decide +kernel
theorem dX4_countMeetings_32 : decode cX4_countMeetings 32 = .ok (.ireturn, 1) := by decide +kernel
theorem dX4_sumPoints_0 : decode cX4_sumPoints 0 = .ok (.iconst 0, 1) := by decide +kernel
theorem dX4_sumPoints_1 : decode cX4_sumPoints 1 = .ok (.istore_n 1, 1) := by decide +kernel
theorem dX4_sumPoints_2 : decode cX4_sumPoints 2 = .ok (.iconst 0, 1) := by decide +kernel
theorem dX4_sumPoints_3 : decode cX4_sumPoints 3 = .ok (.istore_n 2, 1) := by decide +kernel
theorem dX4_sumPoints_4 : decode cX4_sumPoints 4 = .ok (.iload_n 2, 1) := by decide +kernel
theorem dX4_sumPoints_5 : decode cX4_sumPoints 5 = .ok (.aload_n 0, 1) := by decide +kernel
theorem dX4_sumPoints_6 : decode cX4_sumPoints 6 = .ok (.getfield 44, 3) := by decide +kernel
theorem dX4_sumPoints_9 : decode cX4_sumPoints 9 = .ok (.getfield 75, 3) := by decide +kernel
theorem dX4_sumPoints_12 : decode cX4_sumPoints 12 = .ok (.if_icmp .ge 18, 3) := by decide +kernel
theorem dX4_sumPoints_15 : decode cX4_sumPoints 15 = .ok (.iload_n 1, 1) := by decide +kernel
theorem dX4_sumPoints_16 : decode cX4_sumPoints 16 = .ok (.aload_n 0, 1) := by decide +kernel
theorem dX4_sumPoints_17 : decode cX4_sumPoints 17 = .ok (.iload_n 2, 1) := by decide +kernel
theorem dX4_sumPoints_18 : decode cX4_sumPoints 18 = .ok (.iconst 0, 1) := by decide +kernel
theorem dX4_sumPoints_19 : decode cX4_sumPoints 19 = .ok (.invokevirtual 111, 3) := by decide +kernel
theorem dX4_sumPoints_22 : decode cX4_sumPoints 22 = .ok (.iadd, 1) := by decide +kernel
theorem dX4_sumPoints_23 : decode cX4_sumPoints 23 = .ok (.istore_n 1, 1) := by decide +kernel
theorem dX4_sumPoints_24 : decode cX4_sumPoints 24 = .ok (.iinc 2 1, 3) := by decide +kernel
theorem dX4_sumPoints_27 : decode cX4_sumPoints 27 = .ok (.goto (-23), 3) := by decide +kernel
theorem dX4_sumPoints_30 : decode cX4_sumPoints 30 = .ok (.iload_n 1, 1) := by decide +kernel
theorem dX4_sumPoints_31 : decode cX4_sumPoints 31 = .ok (.ireturn, 1) := by decide +kernel
theorem dX4_sumRatings_0 : decode cX4_sumRatings 0 = .ok (.iconst 0, 1) := by decide +kernel
theorem dX4_sumRatings_1 : decode cX4_sumRatings 1 = .ok (.istore_n 2, 1) := by decide +kernel
theorem dX4_sumRatings_2 : decode cX4_sumRatings 2 = .ok (.iconst 0, 1) := by decide +kernel
theorem dX4_sumRatings_3 : decode cX4_sumRatings 3 = .ok (.istore_n 3, 1) := by decide +kernel
theorem dX4_sumRatings_4 : decode cX4_sumRatings 4 = .ok (.iload_n 3, 1) := by decide +kernel
theorem dX4_sumRatings_5 : decode cX4_sumRatings 5 = .ok (.aload_n 0, 1) := by decide +kernel
theorem dX4_sumRatings_6 : decode cX4_sumRatings 6 = .ok (.getfield 44, 3) := by decide +kernel
theorem dX4_sumRatings_9 : decode cX4_sumRatings 9 = .ok (.getfield 75, 3) := by decide +kernel
theorem dX4_sumRatings_12 : decode cX4_sumRatings 12 = .ok (.if_icmp .ge 32, 3) := by decide +kernel
theorem dX4_sumRatings_15 : decode cX4_sumRatings 15 = .ok (.aload_n 0, 1) := by decide +kernel
theorem dX4_sumRatings_16 : decode cX4_sumRatings 16 = .ok (.iload_n 1, 1) := by decide +kernel
theorem dX4_sumRatings_17 : decode cX4_sumRatings 17 = .ok (.iload_n 3, 1) := by decide +kernel
theorem dX4_sumRatings_18 : decode cX4_sumRatings 18 = .ok (.invokevirtual 137, 3) := by decide +kernel
theorem dX4_sumRatings_21 : decode cX4_sumRatings 21 = .ok (.ifCond .eq 17, 3) := by decide +kernel
theorem dX4_sumRatings_24 : decode cX4_sumRatings 24 = .ok (.iload_n 2, 1) := by decide +kernel
theorem dX4_sumRatings_25 : decode cX4_sumRatings 25 = .ok (.aload_n 0, 1) := by decide +kernel
theorem dX4_sumRatings_26 : decode cX4_sumRatings 26 = .ok (.getfield 44, 3) := by decide +kernel
theorem dX4_sumRatings_29 : decode cX4_sumRatings 29 = .ok (.getfield 82, 3) := by decide +kernel
theorem dX4_sumRatings_32 : decode cX4_sumRatings 32 = .ok (.iload_n 3, 1) := by decide +kernel
theorem dX4_sumRatings_33 : decode cX4_sumRatings 33 = .ok (.invokevirtual 48, 3) := by decide +kernel
theorem dX4_sumRatings_36 : decode cX4_sumRatings 36 = .ok (.iadd, 1) := by decide +kernel
theorem dX4_sumRatings_37 : decode cX4_sumRatings 37 = .ok (.istore_n 2, 1) := by decide +kernel
theorem dX4_sumRatings_38 : decode cX4_sumRatings 38 = .ok (.iinc 3 1, 3) := by decide +kernel
theorem dX4_sumRatings_41 : decode cX4_sumRatings 41 = .ok (.goto (-37), 3) := by decide +kernel
theorem dX4_sumRatings_44 : decode cX4_sumRatings 44 = .ok (.iload_n 2, 1) := by decide +kernel
theorem dX4_sumRatings_45 : decode cX4_sumRatings 45 = .ok (.ireturn, 1) := by decide +kernel
theorem dX4_costOf_0 : decode cX4_costOf 0 = .ok (.aload_n 0, 1) := by decide +kernel
theorem dX4_costOf_1 : decode cX4_costOf 1 = .ok (.iload_n 1, 1) := by decide +kernel
theorem dX4_costOf_2 : decode cX4_costOf 2 = .ok (.iload_n 2, 1) := by decide +kernel
theorem dX4_costOf_3 : decode cX4_costOf 3 = .ok (.invokevirtual 137, 3) := by decide +kernel
theorem dX4_costOf_6 : decode cX4_costOf 6 = .ok (.ifCond .eq 6, 3) := by decide +kernel
theorem dX4_costOf_9 : decode cX4_costOf 9 = .ok (.bipush (-5), 2) := by decide +kernel
theorem dX4_costOf_11 : decode cX4_costOf 11 = .ok (.ireturn, 1) := by decide +kernel
theorem dX4_costOf_12 : decode cX4_costOf 12 = .ok (.bipush 10, 2) := by decide +kernel
theorem dX4_costOf_14 : decode cX4_costOf 14 = .ok (.aload_n 0, 1) := by decide +kernel
theorem dX4_costOf_15 : decode cX4_costOf 15 = .ok (.iload_n 1, 1) := by decide +kernel
theorem dX4_costOf_16 : decode cX4_costOf 16 = .ok (.iconst 0, 1) := by decide +kernel
theorem dX4_costOf_17 : decode cX4_costOf 17 = .ok (.invokevirtual 111, 3) := by decide +kernel
theorem dX4_costOf_20 : decode cX4_costOf 20 = .ok (.aload_n 0, 1) := by decide +kernel
theorem dX4_costOf_21 : decode cX4_costOf 21 = .ok (.iload_n 2, 1) := by decide +kernel
theorem dX4_costOf_22 : decode cX4_costOf 22 = .ok (.iconst 0, 1) := by decide +kernel
theorem dX4_costOf_23 : decode cX4_costOf 23 = .ok (.invokevirtual 111, 3) := by decide +kernel
theorem dX4_costOf_26 : decode cX4_costOf 26 = .ok (.isub, 1) := by decide +kernel
theorem dX4_costOf_27 : decode cX4_costOf 27 = .ok (.invokestatic 167, 3) := by decide +kernel
theorem dX4_costOf_30 : decode cX4_costOf 30 = .ok (.imul, 1) := by decide +kernel
theorem dX4_costOf_31 : decode cX4_costOf 31 = .ok (.istore_n 3, 1) := by decide +kernel
theorem dX4_costOf_32 : decode cX4_costOf 32 = .ok (.aload_n 0, 1) := by decide +kernel
theorem dX4_costOf_33 : decode cX4_costOf 33 = .ok (.getfield 23, 3) := by decide +kernel
theorem dX4_costOf_36 : decode cX4_costOf 36 = .ok (.iload_n 1, 1) := by decide +kernel
theorem dX4_costOf_37 : decode cX4_costOf 37 = .ok (.invokevirtual 48, 3) := by decide +kernel
theorem dX4_costOf_40 : decode cX4_costOf 40 = .ok (.aload_n 0, 1) := by decide +kernel
theorem dX4_costOf_41 : decode cX4_costOf 41 = .ok (.getfield 23, 3) := by decide +kernel
theorem dX4_costOf_44 : decode cX4_costOf 44 = .ok (.iload_n 2, 1) := by decide +kernel
theorem dX4_costOf_45 : decode cX4_costOf 45 = .ok (.invokevirtual 48, 3) := by decide +kernel
theorem dX4_costOf_48 : decode cX4_costOf 48 = .ok (.imul, 1) := by decide +kernel
theorem dX4_costOf_49 : decode cX4_costOf 49 = .ok (.ifCond .le 6, 3) := by decide +kernel
theorem dX4_costOf_52 : decode cX4_costOf 52 = .ok (.iinc 3 3, 3) := by decide +kernel
theorem dX4_costOf_55 : decode cX4_costOf 55 = .ok (.aload_n 0, 1) := by decide +kernel
theorem dX4_costOf_56 : decode cX4_costOf 56 = .ok (.getfield 26, 3) := by decide +kernel
theorem dX4_costOf_59 : decode cX4_costOf 59 = .ok (.iload_n 1, 1) := by decide +kernel
theorem dX4_costOf_60 : decode cX4_costOf 60 = .ok (.invokevirtual 48, 3) := by decide +kernel
theorem dX4_costOf_63 : decode cX4_costOf 63 = .ok (.bipush (-5), 2) := by decide +kernel
theorem dX4_costOf_65 : decode cX4_costOf 65 = .ok (.if_icmp .eq 25, 3) := by decide +kernel
theorem dX4_costOf_68 : decode cX4_costOf 68 = .ok (.aload_n 0, 1) := by decide +kernel
theorem dX4_costOf_69 : decode cX4_costOf 69 = .ok (.getfield 26, 3) := by decide +kernel
theorem dX4_costOf_72 : decode cX4_costOf 72 = .ok (.iload_n 1, 1) := by decide +kernel
theorem dX4_costOf_73 : decode cX4_costOf 73 = .ok (.invokevirtual 48, 3) := by decide +kernel
theorem dX4_costOf_76 : decode cX4_costOf 76 = .ok (.aload_n 0, 1) := by decide +kernel
theorem dX4_costOf_77 : decode cX4_costOf 77 = .ok (.getfield 26, 3) := by decide +kernel
theorem dX4_costOf_80 : decode cX4_costOf 80 = .ok (.iload_n 2, 1) := by decide +kernel
theorem dX4_costOf_81 : decode cX4_costOf 81 = .ok (.invokevirtual 48, 3) := by decide +kernel
theorem dX4_costOf_84 : decode cX4_costOf 84 = .ok (.if_icmp .ne 6, 3) := by decide +kernel
theorem dX4_costOf_87 : decode cX4_costOf 87 = .ok (.iinc 3 1, 3) := by decide +kernel
theorem dX4_costOf_90 : decode cX4_costOf 90 = .ok (.iload_n 3, 1) := by decide +kernel
theorem dX4_costOf_91 : decode cX4_costOf 91 = .ok (.ireturn, 1) := by decide +kernel
theorem dX5_init_0 : decode cX5_init 0 = .ok (.aload_n 0, 1) := by decide +kernel
theorem dX5_init_1 : decode cX5_init 1 = .ok (.invokespecial 1, 3) := by decide +kernel
theorem dX5_init_4 : decode cX5_init 4 = .ok (.aload_n 0, 1) := by decide +kernel
theorem dX5_init_5 : decode cX5_init 5 = .ok (.new 7, 3) := by decide +kernel
theorem dX5_init_8 : decode cX5_init 8 = .ok (.dup, 1) := by decide +kernel
theorem dX5_init_9 : decode cX5_init 9 = .ok (.iload_n 1, 1) := by decide +kernel
theorem dX5_init_10 : decode cX5_init 10 = .ok (.invokespecial 9, 3) := by decide +kernel
theorem dX5_init_13 : decode cX5_init 13 = .ok (.putfield 12, 3) := by decide +kernel
theorem dX5_init_16 : decode cX5_init 16 = .ok (.return_, 1) := by decide +kernel
theorem dX5_byteAt_0 : decode cX5_byteAt 0 = .ok (.aload_n 0, 1) := by decide +kernel
theorem dX5_byteAt_1 : decode cX5_byteAt 1 = .ok (.getfield 12, 3) := by decide +kernel
theorem dX5_byteAt_4 : decode cX5_byteAt 4 = .ok (.iload_n 1, 1) := by decide +kernel
theorem dX5_byteAt_5 : decode cX5_byteAt 5 = .ok (.invokevirtual 18, 3) := by decide +kernel
theorem dX5_byteAt_8 : decode cX5_byteAt 8 = .ok (.ireturn, 1) := by decide +kernel
theorem dX5_append_0 : decode cX5_append 0 = .ok (.aload_n 0, 1) := by decide +kernel
theorem dX5_append_1 : decode cX5_append 1 = .ok (.getfield 12, 3) := by decide +kernel
theorem dX5_append_4 : decode cX5_append 4 = .ok (.aload_n 0, 1) := by decide +kernel
theorem dX5_append_5 : decode cX5_append 5 = .ok (.getfield 22, 3) := by decide +kernel
theorem dX5_append_8 : decode cX5_append 8 = .ok (.iload_n 1, 1) := by decide +kernel
theorem dX5_append_9 : decode cX5_append 9 = .ok (.invokevirtual 26, 3) := by decide +kernel
theorem dX5_append_12 : decode cX5_append 12 = .ok (.aload_n 0, 1) := by decide +kernel
theorem dX5_append_13 : decode cX5_append 13 = .ok (.dup, 1) := by decide +kernel
theorem dX5_append_14 : decode cX5_append 14 = .ok (.getfield 22, 3) := by decide +kernel
theorem dX5_append_17 : decode cX5_append 17 = .ok (.iconst 1, 1) := by decide +kernel
theorem dX5_append_18 : decode cX5_append 18 = .ok (.iadd, 1) := by decide +kernel
theorem dX5_append_19 : decode cX5_append 19 = .ok (.putfield 22, 3) := by decide +kernel
theorem dX5_append_22 : decode cX5_append 22 = .ok (.return_, 1) := by decide +kernel
theorem dX5_appendNumber_0 : decode cX5_appendNumber 0 = .ok (.iload_n 1, 1) := by decide +kernel
theorem dX5_appendNumber_1 : decode cX5_appendNumber 1 = .ok (.bipush 10, 2) := by decide +kernel
theorem dX5_appendNumber_3 : decode cX5_appendNumber 3 = .ok (.if_icmp .lt 14, 3) := by decide +kernel
theorem dX5_appendNumber_6 : decode cX5_appendNumber 6 = .ok (.aload_n 0, 1) := by decide +kernel
theorem dX5_appendNumber_7 : decode cX5_appendNumber 7 = .ok (.bipush 48, 2) := by decide +kernel
theorem dX5_appendNumber_9 : decode cX5_appendNumber 9 = .ok (.iload_n 1, 1) := by decide +kernel
theorem dX5_appendNumber_10 : decode cX5_appendNumber 10 = .ok (.bipush 10, 2) := by decide +kernel
theorem dX5_appendNumber_12 : decode cX5_appendNumber 12 = .ok (.idiv, 1) := by decide +kernel
theorem dX5_appendNumber_13 : decode cX5_appendNumber 13 = .ok (.iadd, 1) := by decide +kernel
theorem dX5_appendNumber_14 : decode cX5_appendNumber 14 = .ok (.invokevirtual 30, 3) := by decide +kernel
theorem dX5_appendNumber_17 : decode cX5_appendNumber 17 = .ok (.aload_n 0, 1) := by decide +kernel
theorem dX5_appendNumber_18 : decode cX5_appendNumber 18 = .ok (.bipush 48, 2) := by decide +kernel
theorem dX5_appendNumber_20 : decode cX5_appendNumber 20 = .ok (.iload_n 1, 1) := by decide +kernel
theorem dX5_appendNumber_21 : decode cX5_appendNumber 21 = .ok (.bipush 10, 2) := by decide +kernel
theorem dX5_appendNumber_23 : decode cX5_appendNumber 23 = .ok (.irem, 1) := by decide +kernel
theorem dX5_appendNumber_24 : decode cX5_appendNumber 24 = .ok (.iadd, 1) := by decide +kernel
theorem dX5_appendNumber_25 : decode cX5_appendNumber 25 = .ok (.invokevirtual 30, 3) := by decide +kernel
theorem dX5_appendNumber_28 : decode cX5_appendNumber 28 = .ok (.return_, 1) := by decide +kernel
theorem dX6_init_0 : decode cX6_init 0 = .ok (.aload_n 0, 1) := by decide +kernel
theorem dX6_init_1 : decode cX6_init 1 = .ok (.invokespecial 1, 3) := by decide +kernel
theorem dX6_init_4 : decode cX6_init 4 = .ok (.aload_n 0, 1) := by decide +kernel
theorem dX6_init_5 : decode cX6_init 5 = .ok (.new 7, 3) := by decide +kernel
theorem dX6_init_8 : decode cX6_init 8 = .ok (.dup, 1) := by decide +kernel
theorem dX6_init_9 : decode cX6_init 9 = .ok (.invokespecial 9, 3) := by decide +kernel
theorem dX6_init_12 : decode cX6_init 12 = .ok (.putfield 10, 3) := by decide +kernel
theorem dX6_init_15 : decode cX6_init 15 = .ok (.aload_n 0, 1) := by decide +kernel
theorem dX6_init_16 : decode cX6_init 16 = .ok (.new 7, 3) := by decide +kernel
theorem dX6_init_19 : decode cX6_init 19 = .ok (.dup, 1) := by decide +kernel
theorem dX6_init_20 : decode cX6_init 20 = .ok (.invokespecial 9, 3) := by decide +kernel
theorem dX6_init_23 : decode cX6_init 23 = .ok (.putfield 16, 3) := by decide +kernel
theorem dX6_init_26 : decode cX6_init 26 = .ok (.aload_n 0, 1) := by decide +kernel
theorem dX6_init_27 : decode cX6_init 27 = .ok (.new 19, 3) := by decide +kernel
theorem dX6_init_30 : decode cX6_init 30 = .ok (.dup, 1) := by decide +kernel
theorem dX6_init_31 : decode cX6_init 31 = .ok (.aload_n 0, 1) := by decide +kernel
theorem dX6_init_32 : decode cX6_init 32 = .ok (.getfield 10, 3) := by decide +kernel
theorem dX6_init_35 : decode cX6_init 35 = .ok (.invokespecial 21, 3) := by decide +kernel
theorem dX6_init_38 : decode cX6_init 38 = .ok (.putfield 24, 3) := by decide +kernel
theorem dX6_init_41 : decode cX6_init 41 = .ok (.aload_n 0, 1) := by decide +kernel
theorem dX6_init_42 : decode cX6_init 42 = .ok (.new 28, 3) := by decide +kernel
theorem dX6_init_45 : decode cX6_init 45 = .ok (.dup, 1) := by decide +kernel
theorem dX6_init_46 : decode cX6_init 46 = .ok (.aload_n 0, 1) := by decide +kernel
theorem dX6_init_47 : decode cX6_init 47 = .ok (.getfield 10, 3) := by decide +kernel
theorem dX6_init_50 : decode cX6_init 50 = .ok (.aload_n 0, 1) := by decide +kernel
theorem dX6_init_51 : decode cX6_init 51 = .ok (.getfield 24, 3) := by decide +kernel
theorem dX6_init_54 : decode cX6_init 54 = .ok (.invokespecial 30, 3) := by decide +kernel
theorem dX6_init_57 : decode cX6_init 57 = .ok (.putfield 33, 3) := by decide +kernel
theorem dX6_init_60 : decode cX6_init 60 = .ok (.aload_n 0, 1) := by decide +kernel
theorem dX6_init_61 : decode cX6_init 61 = .ok (.new 37, 3) := by decide +kernel
theorem dX6_init_64 : decode cX6_init 64 = .ok (.dup, 1) := by decide +kernel
theorem dX6_init_65 : decode cX6_init 65 = .ok (.bipush 40, 2) := by decide +kernel
theorem dX6_init_67 : decode cX6_init 67 = .ok (.invokespecial 39, 3) := by decide +kernel
theorem dX6_init_70 : decode cX6_init 70 = .ok (.putfield 42, 3) := by decide +kernel
theorem dX6_init_73 : decode cX6_init 73 = .ok (.aload_n 0, 1) := by decide +kernel
theorem dX6_init_74 : decode cX6_init 74 = .ok (.new 37, 3) := by decide +kernel
theorem dX6_init_77 : decode cX6_init 77 = .ok (.dup, 1) := by decide +kernel
theorem dX6_init_78 : decode cX6_init 78 = .ok (.bipush 96, 2) := by decide +kernel
theorem dX6_init_80 : decode cX6_init 80 = .ok (.invokespecial 39, 3) := by decide +kernel
theorem dX6_init_83 : decode cX6_init 83 = .ok (.putfield 46, 3) := by decide +kernel
theorem dX6_init_86 : decode cX6_init 86 = .ok (.aload_n 0, 1) := by decide +kernel
theorem dX6_init_87 : decode cX6_init 87 = .ok (.new 49, 3) := by decide +kernel
theorem dX6_init_90 : decode cX6_init 90 = .ok (.dup, 1) := by decide +kernel
theorem dX6_init_91 : decode cX6_init 91 = .ok (.invokespecial 51, 3) := by decide +kernel
theorem dX6_init_94 : decode cX6_init 94 = .ok (.putfield 52, 3) := by decide +kernel
theorem dX6_init_97 : decode cX6_init 97 = .ok (.return_, 1) := by decide +kernel
theorem dX6_join_0 : decode cX6_join 0 = .ok (.iload_n 1, 1) := by decide +kernel
theorem dX6_join_1 : decode cX6_join 1 = .ok (.invokestatic 56, 3) := by decide +kernel
theorem dX6_join_4 : decode cX6_join 4 = .ok (.ifCond .ne 6, 3) := by decide +kernel
theorem dX6_join_7 : decode cX6_join 7 = .ok (.bipush (-2), 2) := by decide +kernel
theorem dX6_join_9 : decode cX6_join 9 = .ok (.ireturn, 1) := by decide +kernel
theorem dX6_join_10 : decode cX6_join 10 = .ok (.aload_n 0, 1) := by decide +kernel
theorem dX6_join_11 : decode cX6_join 11 = .ok (.getfield 10, 3) := by decide +kernel
theorem dX6_join_14 : decode cX6_join 14 = .ok (.getfield 60, 3) := by decide +kernel
theorem dX6_join_17 : decode cX6_join 17 = .ok (.ifCond .eq 6, 3) := by decide +kernel
theorem dX6_join_20 : decode cX6_join 20 = .ok (.bipush (-3), 2) := by decide +kernel
theorem dX6_join_22 : decode cX6_join 22 = .ok (.ireturn, 1) := by decide +kernel
theorem dX6_join_23 : decode cX6_join 23 = .ok (.aload_n 0, 1) := by decide +kernel
theorem dX6_join_24 : decode cX6_join 24 = .ok (.getfield 10, 3) := by decide +kernel
theorem dX6_join_27 : decode cX6_join 27 = .ok (.getfield 64, 3) := by decide +kernel
theorem dX6_join_30 : decode cX6_join 30 = .ok (.bipush 12, 2) := by decide +kernel
theorem dX6_join_32 : decode cX6_join 32 = .ok (.if_icmp .lt 6, 3) := by decide +kernel
theorem dX6_join_35 : decode cX6_join 35 = .ok (.bipush (-4), 2) := by decide +kernel
theorem dX6_join_37 : decode cX6_join 37 = .ok (.ireturn, 1) := by decide +kernel
theorem dX6_join_38 : decode cX6_join 38 = .ok (.aload_n 0, 1) := by decide +kernel
theorem dX6_join_39 : decode cX6_join 39 = .ok (.getfield 10, 3) := by decide +kernel
theorem dX6_join_42 : decode cX6_join 42 = .ok (.iload_n 1, 1) := by decide +kernel
theorem dX6_join_43 : decode cX6_join 43 = .ok (.invokevirtual 68, 3) := by decide +kernel
theorem dX6_join_46 : decode cX6_join 46 = .ok (.istore_n 2, 1) := by decide +kernel
theorem dX6_join_47 : decode cX6_join 47 = .ok (.aload_n 0, 1) := by decide +kernel
theorem dX6_join_48 : decode cX6_join 48 = .ok (.getfield 24, 3) := by decide +kernel
theorem dX6_join_51 : decode cX6_join 51 = .ok (.invokevirtual 72, 3) := by decide +kernel
theorem dX6_join_54 : decode cX6_join 54 = .ok (.iload_n 2, 1) := by decide +kernel
theorem dX6_join_55 : decode cX6_join 55 = .ok (.ireturn, 1) := by decide +kernel
theorem dX6_leave_0 : decode cX6_leave 0 = .ok (.aload_n 0, 1) := by decide +kernel
theorem dX6_leave_1 : decode cX6_leave 1 = .ok (.iload_n 1, 1) := by decide +kernel
theorem dX6_leave_2 : decode cX6_leave 2 = .ok (.iconst 0, 1) := by decide +kernel
theorem dX6_leave_3 : decode cX6_leave 3 = .ok (.invokevirtual 75, 3) := by decide +kernel
theorem dX6_leave_6 : decode cX6_leave 6 = .ok (.ireturn, 1) := by decide +kernel
theorem dX6_back_0 : decode cX6_back 0 = .ok (.aload_n 0, 1) := by decide +kernel
theorem dX6_back_1 : decode cX6_back 1 = .ok (.iload_n 1, 1) := by decide +kernel
theorem dX6_back_2 : decode cX6_back 2 = .ok (.iconst 1, 1) := by decide +kernel
theorem dX6_back_3 : decode cX6_back 3 = .ok (.invokevirtual 75, 3) := by decide +kernel
theorem dX6_back_6 : decode cX6_back 6 = .ok (.ireturn, 1) := by decide +kernel
theorem dX6_move_0 : decode cX6_move 0 = .ok (.aload_n 0, 1) := by decide +kernel
theorem dX6_move_1 : decode cX6_move 1 = .ok (.iload_n 1, 1) := by decide +kernel
theorem dX6_move_2 : decode cX6_move 2 = .ok (.invokevirtual 79, 3) := by decide +kernel
theorem dX6_move_5 : decode cX6_move 5 = .ok (.ifCond .ne 5, 3) := by decide +kernel
theorem dX6_move_8 : decode cX6_move 8 = .ok (.iconst (-1), 1) := by decide +kernel
theorem dX6_move_9 : decode cX6_move 9 = .ok (.ireturn, 1) := by decide +kernel
theorem dX6_move_10 : decode cX6_move 10 = .ok (.aload_n 0, 1) := by decide +kernel
theorem dX6_move_11 : decode cX6_move 11 = .ok (.getfield 10, 3) := by decide +kernel
theorem dX6_move_14 : decode cX6_move 14 = .ok (.getfield 82, 3) := by decide +kernel
theorem dX6_move_17 : decode cX6_move 17 = .ok (.iload_n 1, 1) := by decide +kernel
theorem dX6_move_18 : decode cX6_move 18 = .ok (.invokevirtual 86, 3) := by decide +kernel
theorem dX6_move_21 : decode cX6_move 21 = .ok (.iload_n 2, 1) := by decide +kernel
theorem dX6_move_22 : decode cX6_move 22 = .ok (.if_icmp .eq 13, 3) := by decide +kernel
theorem dX6_move_25 : decode cX6_move 25 = .ok (.aload_n 0, 1) := by decide +kernel
theorem dX6_move_26 : decode cX6_move 26 = .ok (.getfield 10, 3) := by decide +kernel
theorem dX6_move_29 : decode cX6_move 29 = .ok (.getfield 60, 3) := by decide +kernel
theorem dX6_move_32 : decode cX6_move 32 = .ok (.ifCond .eq 6, 3) := by decide +kernel
theorem dX6_move_35 : decode cX6_move 35 = .ok (.bipush (-3), 2) := by decide +kernel
theorem dX6_move_37 : decode cX6_move 37 = .ok (.ireturn, 1) := by decide +kernel
theorem dX6_move_38 : decode cX6_move 38 = .ok (.aload_n 0, 1) := by decide +kernel
theorem dX6_move_39 : decode cX6_move 39 = .ok (.getfield 10, 3) := by decide +kernel
theorem dX6_move_42 : decode cX6_move 42 = .ok (.getfield 82, 3) := by decide +kernel
theorem dX6_move_45 : decode cX6_move 45 = .ok (.iload_n 1, 1) := by decide +kernel
theorem dX6_move_46 : decode cX6_move 46 = .ok (.iload_n 2, 1) := by decide +kernel
theorem dX6_move_47 : decode cX6_move 47 = .ok (.invokevirtual 91, 3) := by decide +kernel
theorem dX6_move_50 : decode cX6_move 50 = .ok (.aload_n 0, 1) := by decide +kernel
theorem dX6_move_51 : decode cX6_move 51 = .ok (.getfield 10, 3) := by decide +kernel
theorem dX6_move_54 : decode cX6_move 54 = .ok (.invokevirtual 95, 3) := by decide +kernel
theorem dX6_move_57 : decode cX6_move 57 = .ok (.ireturn, 1) := by decide +kernel
theorem dX6_rate_0 : decode cX6_rate 0 = .ok (.aload_n 0, 1) := by decide +kernel
theorem dX6_rate_1 : decode cX6_rate 1 = .ok (.iload_n 1, 1) := by decide +kernel
theorem dX6_rate_2 : decode cX6_rate 2 = .ok (.invokevirtual 79, 3) := by decide +kernel
theorem dX6_rate_5 : decode cX6_rate 5 = .ok (.ifCond .ne 5, 3) := by decide +kernel
theorem dX6_rate_8 : decode cX6_rate 8 = .ok (.iconst (-1), 1) := by decide +kernel
theorem dX6_rate_9 : decode cX6_rate 9 = .ok (.ireturn, 1) := by decide +kernel
theorem dX6_rate_10 : decode cX6_rate 10 = .ok (.iload_n 2, 1) := by decide +kernel
theorem dX6_rate_11 : decode cX6_rate 11 = .ok (.invokestatic 56, 3) := by decide +kernel
theorem dX6_rate_14 : decode cX6_rate 14 = .ok (.ifCond .ne 6, 3) := by decide +kernel
theorem dX6_rate_17 : decode cX6_rate 17 = .ok (.bipush (-2), 2) := by decide +kernel
theorem dX6_rate_19 : decode cX6_rate 19 = .ok (.ireturn, 1) := by decide +kernel
theorem dX6_rate_20 : decode cX6_rate 20 = .ok (.aload_n 0, 1) := by decide +kernel
theorem dX6_rate_21 : decode cX6_rate 21 = .ok (.getfield 10, 3) := by decide +kernel
theorem dX6_rate_24 : decode cX6_rate 24 = .ok (.getfield 99, 3) := by decide +kernel
theorem dX6_rate_27 : decode cX6_rate 27 = .ok (.iload_n 1, 1) := by decide +kernel
theorem dX6_rate_28 : decode cX6_rate 28 = .ok (.invokevirtual 86, 3) := by decide +kernel
theorem dX6_rate_31 : decode cX6_rate 31 = .ok (.istore_n 3, 1) := by decide +kernel
theorem dX6_rate_32 : decode cX6_rate 32 = .ok (.aload_n 0, 1) := by decide +kernel
theorem dX6_rate_33 : decode cX6_rate 33 = .ok (.getfield 10, 3) := by decide +kernel
theorem dX6_rate_36 : decode cX6_rate 36 = .ok (.getfield 99, 3) := by decide +kernel
theorem dX6_rate_39 : decode cX6_rate 39 = .ok (.iload_n 1, 1) := by decide +kernel
theorem dX6_rate_40 : decode cX6_rate 40 = .ok (.iload_n 2, 1) := by decide +kernel
theorem dX6_rate_41 : decode cX6_rate 41 = .ok (.invokevirtual 91, 3) := by decide +kernel
theorem dX6_rate_44 : decode cX6_rate 44 = .ok (.aload_n 0, 1) := by decide +kernel
theorem dX6_rate_45 : decode cX6_rate 45 = .ok (.getfield 24, 3) := by decide +kernel
theorem dX6_rate_48 : decode cX6_rate 48 = .ok (.invokevirtual 72, 3) := by decide +kernel
theorem dX6_rate_51 : decode cX6_rate 51 = .ok (.iload_n 3, 1) := by decide +kernel
theorem dX6_rate_52 : decode cX6_rate 52 = .ok (.ireturn, 1) := by decide +kernel
theorem dX6_of_0 : decode cX6_of 0 = .ok (.aload_n 0, 1) := by decide +kernel
theorem dX6_of_1 : decode cX6_of 1 = .ok (.iload_n 1, 1) := by decide +kernel
theorem dX6_of_2 : decode cX6_of 2 = .ok (.invokevirtual 79, 3) := by decide +kernel
theorem dX6_of_5 : decode cX6_of 5 = .ok (.ifCond .ne 5, 3) := by decide +kernel
theorem dX6_of_8 : decode cX6_of 8 = .ok (.iconst (-1), 1) := by decide +kernel
theorem dX6_of_9 : decode cX6_of 9 = .ok (.ireturn, 1) := by decide +kernel
theorem dX6_of_10 : decode cX6_of 10 = .ok (.iload_n 2, 1) := by decide +kernel
theorem dX6_of_11 : decode cX6_of 11 = .ok (.tableswitch 155 0 8 #[49, 61, 73, 83, 95, 110, 122, 134, 146], 49) := by decide +kernel
theorem dX6_of_60 : decode cX6_of 60 = .ok (.aload_n 0, 1) := by decide +kernel
theorem dX6_of_61 : decode cX6_of 61 = .ok (.getfield 10, 3) := by decide +kernel
theorem dX6_of_64 : decode cX6_of 64 = .ok (.getfield 99, 3) := by decide +kernel
theorem dX6_of_67 : decode cX6_of 67 = .ok (.iload_n 1, 1) := by decide +kernel
theorem dX6_of_68 : decode cX6_of 68 = .ok (.invokevirtual 86, 3) := by decide +kernel
theorem dX6_of_71 : decode cX6_of 71 = .ok (.ireturn, 1) := by decide +kernel
theorem dX6_of_72 : decode cX6_of 72 = .ok (.aload_n 0, 1) := by decide +kernel
theorem dX6_of_73 : decode cX6_of 73 = .ok (.getfield 10, 3) := by decide +kernel
theorem dX6_of_76 : decode cX6_of 76 = .ok (.getfield 82, 3) := by decide +kernel
theorem dX6_of_79 : decode cX6_of 79 = .ok (.iload_n 1, 1) := by decide +kernel
theorem dX6_of_80 : decode cX6_of 80 = .ok (.invokevirtual 86, 3) := by decide +kernel
theorem dX6_of_83 : decode cX6_of 83 = .ok (.ireturn, 1) := by decide +kernel
theorem dX6_of_84 : decode cX6_of 84 = .ok (.aload_n 0, 1) := by decide +kernel
theorem dX6_of_85 : decode cX6_of 85 = .ok (.getfield 24, 3) := by decide +kernel
theorem dX6_of_88 : decode cX6_of 88 = .ok (.iload_n 1, 1) := by decide +kernel
theorem dX6_of_89 : decode cX6_of 89 = .ok (.iconst 0, 1) := by decide +kernel
theorem dX6_of_90 : decode cX6_of 90 = .ok (.invokevirtual 102, 3) := by decide +kernel
theorem dX6_of_93 : decode cX6_of 93 = .ok (.ireturn, 1) := by decide +kernel
theorem dX6_of_94 : decode cX6_of 94 = .ok (.aload_n 0, 1) := by decide +kernel
theorem dX6_of_95 : decode cX6_of 95 = .ok (.getfield 24, 3) := by decide +kernel
theorem dX6_of_98 : decode cX6_of 98 = .ok (.getfield 105, 3) := by decide +kernel
theorem dX6_of_101 : decode cX6_of 101 = .ok (.iload_n 1, 1) := by decide +kernel
theorem dX6_of_102 : decode cX6_of 102 = .ok (.invokevirtual 86, 3) := by decide +kernel
theorem dX6_of_105 : decode cX6_of 105 = .ok (.ireturn, 1) := by decide +kernel
theorem dX6_of_106 : decode cX6_of 106 = .ok (.aload_n 0, 1) := by decide +kernel
theorem dX6_of_107 : decode cX6_of 107 = .ok (.getfield 24, 3) := by decide +kernel
theorem dX6_of_110 : decode cX6_of 110 = .ok (.getfield 108, 3) := by decide +kernel
theorem dX6_of_113 : decode cX6_of 113 = .ok (.iload_n 1, 1) := by decide +kernel
theorem dX6_of_114 : decode cX6_of 114 = .ok (.invokevirtual 86, 3) := by decide +kernel
theorem dX6_of_117 : decode cX6_of 117 = .ok (.bipush 100, 2) := by decide +kernel
theorem dX6_of_119 : decode cX6_of 119 = .ok (.iadd, 1) := by decide +kernel
theorem dX6_of_120 : decode cX6_of 120 = .ok (.ireturn, 1) := by decide +kernel
theorem dX6_of_121 : decode cX6_of 121 = .ok (.aload_n 0, 1) := by decide +kernel
theorem dX6_of_122 : decode cX6_of 122 = .ok (.getfield 24, 3) := by decide +kernel
theorem dX6_of_125 : decode cX6_of 125 = .ok (.getfield 111, 3) := by decide +kernel
theorem dX6_of_128 : decode cX6_of 128 = .ok (.iload_n 1, 1) := by decide +kernel
theorem dX6_of_129 : decode cX6_of 129 = .ok (.invokevirtual 86, 3) := by decide +kernel
theorem dX6_of_132 : decode cX6_of 132 = .ok (.ireturn, 1) := by decide +kernel
theorem dX6_of_133 : decode cX6_of 133 = .ok (.aload_n 0, 1) := by decide +kernel
theorem dX6_of_134 : decode cX6_of 134 = .ok (.getfield 24, 3) := by decide +kernel
theorem dX6_of_137 : decode cX6_of 137 = .ok (.getfield 114, 3) := by decide +kernel
theorem dX6_of_140 : decode cX6_of 140 = .ok (.iload_n 1, 1) := by decide +kernel
theorem dX6_of_141 : decode cX6_of 141 = .ok (.invokevirtual 86, 3) := by decide +kernel
theorem dX6_of_144 : decode cX6_of 144 = .ok (.ireturn, 1) := by decide +kernel
theorem dX6_of_145 : decode cX6_of 145 = .ok (.aload_n 0, 1) := by decide +kernel
theorem dX6_of_146 : decode cX6_of 146 = .ok (.getfield 24, 3) := by decide +kernel
theorem dX6_of_149 : decode cX6_of 149 = .ok (.getfield 117, 3) := by decide +kernel
theorem dX6_of_152 : decode cX6_of 152 = .ok (.iload_n 1, 1) := by decide +kernel
theorem dX6_of_153 : decode cX6_of 153 = .ok (.invokevirtual 86, 3) := by decide +kernel
theorem dX6_of_156 : decode cX6_of 156 = .ok (.ireturn, 1) := by decide +kernel
theorem dX6_of_157 : decode cX6_of 157 = .ok (.aload_n 0, 1) := by decide +kernel
theorem dX6_of_158 : decode cX6_of 158 = .ok (.getfield 24, 3) := by decide +kernel
theorem dX6_of_161 : decode cX6_of 161 = .ok (.iload_n 1, 1) := by decide +kernel
theorem dX6_of_162 : decode cX6_of 162 = .ok (.invokevirtual 120, 3) := by decide +kernel
theorem dX6_of_165 : decode cX6_of 165 = .ok (.ireturn, 1) := by decide +kernel
theorem dX6_of_166 : decode cX6_of 166 = .ok (.iconst (-1), 1) := by decide +kernel
theorem dX6_of_167 : decode cX6_of 167 = .ok (.ireturn, 1) := by decide +kernel
theorem dX6_tie_0 : decode cX6_tie 0 = .ok (.aload_n 0, 1) := by decide +kernel
theorem dX6_tie_1 : decode cX6_tie 1 = .ok (.iload_n 1, 1) := by decide +kernel
theorem dX6_tie_2 : decode cX6_tie 2 = .ok (.invokevirtual 79, 3) := by decide +kernel
theorem dX6_tie_5 : decode cX6_tie 5 = .ok (.ifCond .eq 13, 3) := by decide +kernel
theorem dX6_tie_8 : decode cX6_tie 8 = .ok (.iload_n 2, 1) := by decide +kernel
theorem dX6_tie_9 : decode cX6_tie 9 = .ok (.ifCond .lt 9, 3) := by decide +kernel
theorem dX6_tie_12 : decode cX6_tie 12 = .ok (.iload_n 2, 1) := by decide +kernel
theorem dX6_tie_13 : decode cX6_tie 13 = .ok (.bipush 9, 2) := by decide +kernel
theorem dX6_tie_15 : decode cX6_tie 15 = .ok (.if_icmp .lt 5, 3) := by decide +kernel
theorem dX6_tie_18 : decode cX6_tie 18 = .ok (.iconst (-1), 1) := by decide +kernel
theorem dX6_tie_19 : decode cX6_tie 19 = .ok (.ireturn, 1) := by decide +kernel
theorem dX6_tie_20 : decode cX6_tie 20 = .ok (.aload_n 0, 1) := by decide +kernel
theorem dX6_tie_21 : decode cX6_tie 21 = .ok (.getfield 24, 3) := by decide +kernel
theorem dX6_tie_24 : decode cX6_tie 24 = .ok (.iload_n 1, 1) := by decide +kernel
theorem dX6_tie_25 : decode cX6_tie 25 = .ok (.iload_n 2, 1) := by decide +kernel
theorem dX6_tie_26 : decode cX6_tie 26 = .ok (.invokevirtual 102, 3) := by decide +kernel
theorem dX6_tie_29 : decode cX6_tie 29 = .ok (.ireturn, 1) := by decide +kernel
theorem dX6_rank_0 : decode cX6_rank 0 = .ok (.aload_n 0, 1) := by decide +kernel
theorem dX6_rank_1 : decode cX6_rank 1 = .ok (.iload_n 1, 1) := by decide +kernel
theorem dX6_rank_2 : decode cX6_rank 2 = .ok (.invokevirtual 79, 3) := by decide +kernel
theorem dX6_rank_5 : decode cX6_rank 5 = .ok (.ifCond .eq 14, 3) := by decide +kernel
theorem dX6_rank_8 : decode cX6_rank 8 = .ok (.aload_n 0, 1) := by decide +kernel
theorem dX6_rank_9 : decode cX6_rank 9 = .ok (.getfield 24, 3) := by decide +kernel
theorem dX6_rank_12 : decode cX6_rank 12 = .ok (.iload_n 1, 1) := by decide +kernel
theorem dX6_rank_13 : decode cX6_rank 13 = .ok (.invokevirtual 123, 3) := by decide +kernel
theorem dX6_rank_16 : decode cX6_rank 16 = .ok (.goto 4, 3) := by decide +kernel
theorem dX6_rank_19 : decode cX6_rank 19 = .ok (.iconst (-1), 1) := by decide +kernel
theorem dX6_rank_20 : decode cX6_rank 20 = .ok (.ireturn, 1) := by decide +kernel
theorem dX6_nth_0 : decode cX6_nth 0 = .ok (.aload_n 0, 1) := by decide +kernel
theorem dX6_nth_1 : decode cX6_nth 1 = .ok (.iload_n 1, 1) := by decide +kernel
theorem dX6_nth_2 : decode cX6_nth 2 = .ok (.invokevirtual 79, 3) := by decide +kernel
theorem dX6_nth_5 : decode cX6_nth 5 = .ok (.ifCond .eq 17, 3) := by decide +kernel
theorem dX6_nth_8 : decode cX6_nth 8 = .ok (.aload_n 0, 1) := by decide +kernel
theorem dX6_nth_9 : decode cX6_nth 9 = .ok (.getfield 24, 3) := by decide +kernel
theorem dX6_nth_12 : decode cX6_nth 12 = .ok (.getfield 126, 3) := by decide +kernel
theorem dX6_nth_15 : decode cX6_nth 15 = .ok (.iload_n 1, 1) := by decide +kernel
theorem dX6_nth_16 : decode cX6_nth 16 = .ok (.invokevirtual 86, 3) := by decide +kernel
theorem dX6_nth_19 : decode cX6_nth 19 = .ok (.goto 4, 3) := by decide +kernel
theorem dX6_nth_22 : decode cX6_nth 22 = .ok (.iconst (-1), 1) := by decide +kernel
theorem dX6_nth_23 : decode cX6_nth 23 = .ok (.ireturn, 1) := by decide +kernel
theorem dX6_explain_0 : decode cX6_explain 0 = .ok (.aload_n 0, 1) := by decide +kernel
theorem dX6_explain_1 : decode cX6_explain 1 = .ok (.iload_n 1, 1) := by decide +kernel
theorem dX6_explain_2 : decode cX6_explain 2 = .ok (.iload_n 2, 1) := by decide +kernel
theorem dX6_explain_3 : decode cX6_explain 3 = .ok (.invokevirtual 129, 3) := by decide +kernel
theorem dX6_explain_6 : decode cX6_explain 6 = .ok (.ifCond .eq 12, 3) := by decide +kernel
theorem dX6_explain_9 : decode cX6_explain 9 = .ok (.iload_n 3, 1) := by decide +kernel
theorem dX6_explain_10 : decode cX6_explain 10 = .ok (.ifCond .lt 8, 3) := by decide +kernel
theorem dX6_explain_13 : decode cX6_explain 13 = .ok (.iload_n 3, 1) := by decide +kernel
theorem dX6_explain_14 : decode cX6_explain 14 = .ok (.iconst 1, 1) := by decide +kernel
theorem dX6_explain_15 : decode cX6_explain 15 = .ok (.if_icmp .le 5, 3) := by decide +kernel
theorem dX6_explain_18 : decode cX6_explain 18 = .ok (.iconst (-1), 1) := by decide +kernel
theorem dX6_explain_19 : decode cX6_explain 19 = .ok (.ireturn, 1) := by decide +kernel
theorem dX6_explain_20 : decode cX6_explain 20 = .ok (.aload_n 0, 1) := by decide +kernel
theorem dX6_explain_21 : decode cX6_explain 21 = .ok (.getfield 24, 3) := by decide +kernel
theorem dX6_explain_24 : decode cX6_explain 24 = .ok (.iload_n 1, 1) := by decide +kernel
theorem dX6_explain_25 : decode cX6_explain 25 = .ok (.iload_n 2, 1) := by decide +kernel
theorem dX6_explain_26 : decode cX6_explain 26 = .ok (.invokevirtual 133, 3) := by decide +kernel
theorem dX6_explain_29 : decode cX6_explain 29 = .ok (.istore 4, 2) := by decide +kernel
theorem dX6_explain_31 : decode cX6_explain 31 = .ok (.iload_n 3, 1) := by decide +kernel
theorem dX6_explain_32 : decode cX6_explain 32 = .ok (.ifCond .ne 6, 3) := by decide +kernel
theorem dX6_explain_35 : decode cX6_explain 35 = .ok (.iload 4, 2) := by decide +kernel
theorem dX6_explain_37 : decode cX6_explain 37 = .ok (.ireturn, 1) := by decide +kernel
theorem dX6_explain_38 : decode cX6_explain 38 = .ok (.iload 4, 2) := by decide +kernel
theorem dX6_explain_40 : decode cX6_explain 40 = .ok (.bipush (-5), 2) := by decide +kernel
theorem dX6_explain_42 : decode cX6_explain 42 = .ok (.if_icmp .ne 7, 3) := by decide +kernel
theorem dX6_explain_45 : decode cX6_explain 45 = .ok (.iload_n 2, 1) := by decide +kernel
theorem dX6_explain_46 : decode cX6_explain 46 = .ok (.iload_n 1, 1) := by decide +kernel
theorem dX6_explain_47 : decode cX6_explain 47 = .ok (.isub, 1) := by decide +kernel
theorem dX6_explain_48 : decode cX6_explain 48 = .ok (.ireturn, 1) := by decide +kernel
theorem dX6_explain_49 : decode cX6_explain 49 = .ok (.aload_n 0, 1) := by decide +kernel
theorem dX6_explain_50 : decode cX6_explain 50 = .ok (.getfield 24, 3) := by decide +kernel
theorem dX6_explain_53 : decode cX6_explain 53 = .ok (.iload_n 1, 1) := by decide +kernel
theorem dX6_explain_54 : decode cX6_explain 54 = .ok (.iload 4, 2) := by decide +kernel
theorem dX6_explain_56 : decode cX6_explain 56 = .ok (.invokevirtual 102, 3) := by decide +kernel
theorem dX6_explain_59 : decode cX6_explain 59 = .ok (.aload_n 0, 1) := by decide +kernel
theorem dX6_explain_60 : decode cX6_explain 60 = .ok (.getfield 24, 3) := by decide +kernel
theorem dX6_explain_63 : decode cX6_explain 63 = .ok (.iload_n 2, 1) := by decide +kernel
theorem dX6_explain_64 : decode cX6_explain 64 = .ok (.iload 4, 2) := by decide +kernel
theorem dX6_explain_66 : decode cX6_explain 66 = .ok (.invokevirtual 102, 3) := by decide +kernel
theorem dX6_explain_69 : decode cX6_explain 69 = .ok (.isub, 1) := by decide +kernel
theorem dX6_explain_70 : decode cX6_explain 70 = .ok (.ireturn, 1) := by decide +kernel
theorem dX6_alike_0 : decode cX6_alike 0 = .ok (.aload_n 0, 1) := by decide +kernel
theorem dX6_alike_1 : decode cX6_alike 1 = .ok (.iload_n 1, 1) := by decide +kernel
theorem dX6_alike_2 : decode cX6_alike 2 = .ok (.invokevirtual 79, 3) := by decide +kernel
theorem dX6_alike_5 : decode cX6_alike 5 = .ok (.ifCond .ne 5, 3) := by decide +kernel
theorem dX6_alike_8 : decode cX6_alike 8 = .ok (.iconst (-1), 1) := by decide +kernel
theorem dX6_alike_9 : decode cX6_alike 9 = .ok (.ireturn, 1) := by decide +kernel
theorem dX6_alike_10 : decode cX6_alike 10 = .ok (.aload_n 0, 1) := by decide +kernel
theorem dX6_alike_11 : decode cX6_alike 11 = .ok (.getfield 24, 3) := by decide +kernel
theorem dX6_alike_14 : decode cX6_alike 14 = .ok (.aload_n 0, 1) := by decide +kernel
theorem dX6_alike_15 : decode cX6_alike 15 = .ok (.getfield 24, 3) := by decide +kernel
theorem dX6_alike_18 : decode cX6_alike 18 = .ok (.getfield 126, 3) := by decide +kernel
theorem dX6_alike_21 : decode cX6_alike 21 = .ok (.iload_n 1, 1) := by decide +kernel
theorem dX6_alike_22 : decode cX6_alike 22 = .ok (.invokevirtual 86, 3) := by decide +kernel
theorem dX6_alike_25 : decode cX6_alike 25 = .ok (.iconst 0, 1) := by decide +kernel
theorem dX6_alike_26 : decode cX6_alike 26 = .ok (.invokevirtual 102, 3) := by decide +kernel
theorem dX6_alike_29 : decode cX6_alike 29 = .ok (.istore_n 2, 1) := by decide +kernel
theorem dX6_alike_30 : decode cX6_alike 30 = .ok (.iconst 0, 1) := by decide +kernel
theorem dX6_alike_31 : decode cX6_alike 31 = .ok (.istore_n 3, 1) := by decide +kernel
theorem dX6_alike_32 : decode cX6_alike 32 = .ok (.iconst 0, 1) := by decide +kernel
theorem dX6_alike_33 : decode cX6_alike 33 = .ok (.istore 4, 2) := by decide +kernel
theorem dX6_alike_35 : decode cX6_alike 35 = .ok (.iload 4, 2) := by decide +kernel
theorem dX6_alike_37 : decode cX6_alike 37 = .ok (.aload_n 0, 1) := by decide +kernel
theorem dX6_alike_38 : decode cX6_alike 38 = .ok (.getfield 10, 3) := by decide +kernel
theorem dX6_alike_41 : decode cX6_alike 41 = .ok (.getfield 64, 3) := by decide +kernel
theorem dX6_alike_44 : decode cX6_alike 44 = .ok (.if_icmp .ge 26, 3) := by decide +kernel
theorem dX6_alike_47 : decode cX6_alike 47 = .ok (.aload_n 0, 1) := by decide +kernel
theorem dX6_alike_48 : decode cX6_alike 48 = .ok (.getfield 24, 3) := by decide +kernel
theorem dX6_alike_51 : decode cX6_alike 51 = .ok (.iload 4, 2) := by decide +kernel
theorem dX6_alike_53 : decode cX6_alike 53 = .ok (.iconst 0, 1) := by decide +kernel
theorem dX6_alike_54 : decode cX6_alike 54 = .ok (.invokevirtual 102, 3) := by decide +kernel
theorem dX6_alike_57 : decode cX6_alike 57 = .ok (.iload_n 2, 1) := by decide +kernel
theorem dX6_alike_58 : decode cX6_alike 58 = .ok (.if_icmp .ne 6, 3) := by decide +kernel
theorem dX6_alike_61 : decode cX6_alike 61 = .ok (.iinc 3 1, 3) := by decide +kernel
theorem dX6_alike_64 : decode cX6_alike 64 = .ok (.iinc 4 1, 3) := by decide +kernel
theorem dX6_alike_67 : decode cX6_alike 67 = .ok (.goto (-32), 3) := by decide +kernel
theorem dX6_alike_70 : decode cX6_alike 70 = .ok (.iload_n 3, 1) := by decide +kernel
theorem dX6_alike_71 : decode cX6_alike 71 = .ok (.ireturn, 1) := by decide +kernel
theorem dX6_colours_0 : decode cX6_colours 0 = .ok (.iload_n 1, 1) := by decide +kernel
theorem dX6_colours_1 : decode cX6_colours 1 = .ok (.ifCond .lt 8, 3) := by decide +kernel
theorem dX6_colours_4 : decode cX6_colours 4 = .ok (.iload_n 1, 1) := by decide +kernel
theorem dX6_colours_5 : decode cX6_colours 5 = .ok (.iconst 2, 1) := by decide +kernel
theorem dX6_colours_6 : decode cX6_colours 6 = .ok (.if_icmp .le 5, 3) := by decide +kernel
theorem dX6_colours_9 : decode cX6_colours 9 = .ok (.iconst (-1), 1) := by decide +kernel
theorem dX6_colours_10 : decode cX6_colours 10 = .ok (.ireturn, 1) := by decide +kernel
theorem dX6_colours_11 : decode cX6_colours 11 = .ok (.iconst 0, 1) := by decide +kernel
theorem dX6_colours_12 : decode cX6_colours 12 = .ok (.istore_n 2, 1) := by decide +kernel
theorem dX6_colours_13 : decode cX6_colours 13 = .ok (.iconst 0, 1) := by decide +kernel
theorem dX6_colours_14 : decode cX6_colours 14 = .ok (.istore_n 3, 1) := by decide +kernel
theorem dX6_colours_15 : decode cX6_colours 15 = .ok (.iload_n 3, 1) := by decide +kernel
theorem dX6_colours_16 : decode cX6_colours 16 = .ok (.aload_n 0, 1) := by decide +kernel
theorem dX6_colours_17 : decode cX6_colours 17 = .ok (.getfield 10, 3) := by decide +kernel
theorem dX6_colours_20 : decode cX6_colours 20 = .ok (.getfield 64, 3) := by decide +kernel
theorem dX6_colours_23 : decode cX6_colours 23 = .ok (.if_icmp .ge 30, 3) := by decide +kernel
theorem dX6_colours_26 : decode cX6_colours 26 = .ok (.aload_n 0, 1) := by decide +kernel
theorem dX6_colours_27 : decode cX6_colours 27 = .ok (.getfield 24, 3) := by decide +kernel
theorem dX6_colours_30 : decode cX6_colours 30 = .ok (.getfield 108, 3) := by decide +kernel
theorem dX6_colours_33 : decode cX6_colours 33 = .ok (.iload_n 3, 1) := by decide +kernel
theorem dX6_colours_34 : decode cX6_colours 34 = .ok (.invokevirtual 86, 3) := by decide +kernel
theorem dX6_colours_37 : decode cX6_colours 37 = .ok (.iload_n 1, 1) := by decide +kernel
theorem dX6_colours_38 : decode cX6_colours 38 = .ok (.invokestatic 136, 3) := by decide +kernel
theorem dX6_colours_41 : decode cX6_colours 41 = .ok (.ifCond .eq 6, 3) := by decide +kernel
theorem dX6_colours_44 : decode cX6_colours 44 = .ok (.iinc 2 1, 3) := by decide +kernel
theorem dX6_colours_47 : decode cX6_colours 47 = .ok (.iinc 3 1, 3) := by decide +kernel
theorem dX6_colours_50 : decode cX6_colours 50 = .ok (.goto (-35), 3) := by decide +kernel
theorem dX6_colours_53 : decode cX6_colours 53 = .ok (.iload_n 2, 1) := by decide +kernel
theorem dX6_colours_54 : decode cX6_colours 54 = .ok (.ireturn, 1) := by decide +kernel
theorem dX6_isBalance_0 : decode cX6_isBalance 0 = .ok (.iload_n 1, 1) := by decide +kernel
theorem dX6_isBalance_1 : decode cX6_isBalance 1 = .ok (.ifCond .ne 13, 3) := by decide +kernel
theorem dX6_isBalance_4 : decode cX6_isBalance 4 = .ok (.iload_n 0, 1) := by decide +kernel
theorem dX6_isBalance_5 : decode cX6_isBalance 5 = .ok (.ifCond .le 7, 3) := by decide +kernel
theorem dX6_isBalance_8 : decode cX6_isBalance 8 = .ok (.iconst 1, 1) := by decide +kernel
theorem dX6_isBalance_9 : decode cX6_isBalance 9 = .ok (.goto 4, 3) := by decide +kernel
theorem dX6_isBalance_12 : decode cX6_isBalance 12 = .ok (.iconst 0, 1) := by decide +kernel
theorem dX6_isBalance_13 : decode cX6_isBalance 13 = .ok (.ireturn, 1) := by decide +kernel
theorem dX6_isBalance_14 : decode cX6_isBalance 14 = .ok (.iload_n 1, 1) := by decide +kernel
theorem dX6_isBalance_15 : decode cX6_isBalance 15 = .ok (.iconst 1, 1) := by decide +kernel
theorem dX6_isBalance_16 : decode cX6_isBalance 16 = .ok (.if_icmp .ne 13, 3) := by decide +kernel
theorem dX6_isBalance_19 : decode cX6_isBalance 19 = .ok (.iload_n 0, 1) := by decide +kernel
theorem dX6_isBalance_20 : decode cX6_isBalance 20 = .ok (.ifCond .ge 7, 3) := by decide +kernel
theorem dX6_isBalance_23 : decode cX6_isBalance 23 = .ok (.iconst 1, 1) := by decide +kernel
theorem dX6_isBalance_24 : decode cX6_isBalance 24 = .ok (.goto 4, 3) := by decide +kernel
theorem dX6_isBalance_27 : decode cX6_isBalance 27 = .ok (.iconst 0, 1) := by decide +kernel
theorem dX6_isBalance_28 : decode cX6_isBalance 28 = .ok (.ireturn, 1) := by decide +kernel
theorem dX6_isBalance_29 : decode cX6_isBalance 29 = .ok (.iload_n 0, 1) := by decide +kernel
theorem dX6_isBalance_30 : decode cX6_isBalance 30 = .ok (.iconst 1, 1) := by decide +kernel
theorem dX6_isBalance_31 : decode cX6_isBalance 31 = .ok (.if_icmp .gt 8, 3) := by decide +kernel
theorem dX6_isBalance_34 : decode cX6_isBalance 34 = .ok (.iload_n 0, 1) := by decide +kernel
theorem dX6_isBalance_35 : decode cX6_isBalance 35 = .ok (.iconst (-1), 1) := by decide +kernel
theorem dX6_isBalance_36 : decode cX6_isBalance 36 = .ok (.if_icmp .ge 7, 3) := by decide +kernel
theorem dX6_isBalance_39 : decode cX6_isBalance 39 = .ok (.iconst 1, 1) := by decide +kernel
theorem dX6_isBalance_40 : decode cX6_isBalance 40 = .ok (.goto 4, 3) := by decide +kernel
theorem dX6_isBalance_43 : decode cX6_isBalance 43 = .ok (.iconst 0, 1) := by decide +kernel
theorem dX6_isBalance_44 : decode cX6_isBalance 44 = .ok (.ireturn, 1) := by decide +kernel
theorem dX6_met_0 : decode cX6_met 0 = .ok (.aload_n 0, 1) := by decide +kernel
theorem dX6_met_1 : decode cX6_met 1 = .ok (.iload_n 1, 1) := by decide +kernel
theorem dX6_met_2 : decode cX6_met 2 = .ok (.iload_n 2, 1) := by decide +kernel
theorem dX6_met_3 : decode cX6_met 3 = .ok (.invokevirtual 129, 3) := by decide +kernel
theorem dX6_met_6 : decode cX6_met 6 = .ok (.ifCond .eq 15, 3) := by decide +kernel
theorem dX6_met_9 : decode cX6_met 9 = .ok (.aload_n 0, 1) := by decide +kernel
theorem dX6_met_10 : decode cX6_met 10 = .ok (.getfield 24, 3) := by decide +kernel
theorem dX6_met_13 : decode cX6_met 13 = .ok (.iload_n 1, 1) := by decide +kernel
theorem dX6_met_14 : decode cX6_met 14 = .ok (.iload_n 2, 1) := by decide +kernel
theorem dX6_met_15 : decode cX6_met 15 = .ok (.invokevirtual 139, 3) := by decide +kernel
theorem dX6_met_18 : decode cX6_met 18 = .ok (.goto 4, 3) := by decide +kernel
theorem dX6_met_21 : decode cX6_met 21 = .ok (.iconst (-1), 1) := by decide +kernel
theorem dX6_met_22 : decode cX6_met 22 = .ok (.ireturn, 1) := by decide +kernel
theorem dX6_cost_0 : decode cX6_cost 0 = .ok (.aload_n 0, 1) := by decide +kernel
theorem dX6_cost_1 : decode cX6_cost 1 = .ok (.iload_n 1, 1) := by decide +kernel
theorem dX6_cost_2 : decode cX6_cost 2 = .ok (.iload_n 2, 1) := by decide +kernel
theorem dX6_cost_3 : decode cX6_cost 3 = .ok (.invokevirtual 129, 3) := by decide +kernel
theorem dX6_cost_6 : decode cX6_cost 6 = .ok (.ifCond .eq 15, 3) := by decide +kernel
theorem dX6_cost_9 : decode cX6_cost 9 = .ok (.aload_n 0, 1) := by decide +kernel
theorem dX6_cost_10 : decode cX6_cost 10 = .ok (.getfield 24, 3) := by decide +kernel
theorem dX6_cost_13 : decode cX6_cost 13 = .ok (.iload_n 1, 1) := by decide +kernel
theorem dX6_cost_14 : decode cX6_cost 14 = .ok (.iload_n 2, 1) := by decide +kernel
theorem dX6_cost_15 : decode cX6_cost 15 = .ok (.invokevirtual 142, 3) := by decide +kernel
theorem dX6_cost_18 : decode cX6_cost 18 = .ok (.goto 4, 3) := by decide +kernel
theorem dX6_cost_21 : decode cX6_cost 21 = .ok (.iconst (-1), 1) := by decide +kernel
theorem dX6_cost_22 : decode cX6_cost 22 = .ok (.ireturn, 1) := by decide +kernel
theorem dX6_direct_0 : decode cX6_direct 0 = .ok (.aload_n 0, 1) := by decide +kernel
theorem dX6_direct_1 : decode cX6_direct 1 = .ok (.iload_n 1, 1) := by decide +kernel
theorem dX6_direct_2 : decode cX6_direct 2 = .ok (.iload_n 2, 1) := by decide +kernel
theorem dX6_direct_3 : decode cX6_direct 3 = .ok (.invokevirtual 129, 3) := by decide +kernel
theorem dX6_direct_6 : decode cX6_direct 6 = .ok (.ifCond .eq 15, 3) := by decide +kernel
theorem dX6_direct_9 : decode cX6_direct 9 = .ok (.aload_n 0, 1) := by decide +kernel
theorem dX6_direct_10 : decode cX6_direct 10 = .ok (.getfield 24, 3) := by decide +kernel
theorem dX6_direct_13 : decode cX6_direct 13 = .ok (.iload_n 1, 1) := by decide +kernel
theorem dX6_direct_14 : decode cX6_direct 14 = .ok (.iload_n 2, 1) := by decide +kernel
theorem dX6_direct_15 : decode cX6_direct 15 = .ok (.invokevirtual 145, 3) := by decide +kernel
theorem dX6_direct_18 : decode cX6_direct 18 = .ok (.goto 4, 3) := by decide +kernel
theorem dX6_direct_21 : decode cX6_direct 21 = .ok (.iconst (-1), 1) := by decide +kernel
theorem dX6_direct_22 : decode cX6_direct 22 = .ok (.ireturn, 1) := by decide +kernel
theorem dX6_pair_0 : decode cX6_pair 0 = .ok (.aload_n 0, 1) := by decide +kernel
theorem dX6_pair_1 : decode cX6_pair 1 = .ok (.getfield 10, 3) := by decide +kernel
theorem dX6_pair_4 : decode cX6_pair 4 = .ok (.getfield 60, 3) := by decide +kernel
theorem dX6_pair_7 : decode cX6_pair 7 = .ok (.ifCond .eq 6, 3) := by decide +kernel
theorem dX6_pair_10 : decode cX6_pair 10 = .ok (.bipush (-3), 2) := by decide +kernel
theorem dX6_pair_12 : decode cX6_pair 12 = .ok (.ireturn, 1) := by decide +kernel
theorem dX6_pair_13 : decode cX6_pair 13 = .ok (.aload_n 0, 1) := by decide +kernel
theorem dX6_pair_14 : decode cX6_pair 14 = .ok (.getfield 10, 3) := by decide +kernel
theorem dX6_pair_17 : decode cX6_pair 17 = .ok (.invokevirtual 95, 3) := by decide +kernel
theorem dX6_pair_20 : decode cX6_pair 20 = .ok (.iconst 2, 1) := by decide +kernel
theorem dX6_pair_21 : decode cX6_pair 21 = .ok (.if_icmp .ge 6, 3) := by decide +kernel
theorem dX6_pair_24 : decode cX6_pair 24 = .ok (.bipush (-2), 2) := by decide +kernel
theorem dX6_pair_26 : decode cX6_pair 26 = .ok (.ireturn, 1) := by decide +kernel
theorem dX6_pair_27 : decode cX6_pair 27 = .ok (.aload_n 0, 1) := by decide +kernel
theorem dX6_pair_28 : decode cX6_pair 28 = .ok (.getfield 10, 3) := by decide +kernel
theorem dX6_pair_31 : decode cX6_pair 31 = .ok (.getfield 148, 3) := by decide +kernel
theorem dX6_pair_34 : decode cX6_pair 34 = .ok (.bipush 20, 2) := by decide +kernel
theorem dX6_pair_36 : decode cX6_pair 36 = .ok (.if_icmp .lt 6, 3) := by decide +kernel
theorem dX6_pair_39 : decode cX6_pair 39 = .ok (.bipush (-4), 2) := by decide +kernel
theorem dX6_pair_41 : decode cX6_pair 41 = .ok (.ireturn, 1) := by decide +kernel
theorem dX6_pair_42 : decode cX6_pair 42 = .ok (.aload_n 0, 1) := by decide +kernel
theorem dX6_pair_43 : decode cX6_pair 43 = .ok (.getfield 33, 3) := by decide +kernel
theorem dX6_pair_46 : decode cX6_pair 46 = .ok (.invokevirtual 151, 3) := by decide +kernel
theorem dX6_pair_49 : decode cX6_pair 49 = .ok (.aload_n 0, 1) := by decide +kernel
theorem dX6_pair_50 : decode cX6_pair 50 = .ok (.getfield 33, 3) := by decide +kernel
theorem dX6_pair_53 : decode cX6_pair 53 = .ok (.invokevirtual 154, 3) := by decide +kernel
theorem dX6_pair_56 : decode cX6_pair 56 = .ok (.bipush (-9), 2) := by decide +kernel
theorem dX6_pair_58 : decode cX6_pair 58 = .ok (.if_icmp .ne 6, 3) := by decide +kernel
theorem dX6_pair_61 : decode cX6_pair 61 = .ok (.bipush (-9), 2) := by decide +kernel
theorem dX6_pair_63 : decode cX6_pair 63 = .ok (.ireturn, 1) := by decide +kernel
theorem dX6_pair_64 : decode cX6_pair 64 = .ok (.aload_n 0, 1) := by decide +kernel
theorem dX6_pair_65 : decode cX6_pair 65 = .ok (.getfield 33, 3) := by decide +kernel
theorem dX6_pair_68 : decode cX6_pair 68 = .ok (.invokevirtual 157, 3) := by decide +kernel
theorem dX6_pair_71 : decode cX6_pair 71 = .ok (.aload_n 0, 1) := by decide +kernel
theorem dX6_pair_72 : decode cX6_pair 72 = .ok (.getfield 10, 3) := by decide +kernel
theorem dX6_pair_75 : decode cX6_pair 75 = .ok (.getfield 160, 3) := by decide +kernel
theorem dX6_pair_78 : decode cX6_pair 78 = .ok (.aload_n 0, 1) := by decide +kernel
theorem dX6_pair_79 : decode cX6_pair 79 = .ok (.getfield 10, 3) := by decide +kernel
theorem dX6_pair_82 : decode cX6_pair 82 = .ok (.getfield 148, 3) := by decide +kernel
theorem dX6_pair_85 : decode cX6_pair 85 = .ok (.iconst 1, 1) := by decide +kernel
theorem dX6_pair_86 : decode cX6_pair 86 = .ok (.isub, 1) := by decide +kernel
theorem dX6_pair_87 : decode cX6_pair 87 = .ok (.invokevirtual 86, 3) := by decide +kernel
theorem dX6_pair_90 : decode cX6_pair 90 = .ok (.ireturn, 1) := by decide +kernel
theorem dX6_least_0 : decode cX6_least 0 = .ok (.aload_n 0, 1) := by decide +kernel
theorem dX6_least_1 : decode cX6_least 1 = .ok (.getfield 10, 3) := by decide +kernel
theorem dX6_least_4 : decode cX6_least 4 = .ok (.getfield 60, 3) := by decide +kernel
theorem dX6_least_7 : decode cX6_least 7 = .ok (.ifCond .eq 6, 3) := by decide +kernel
theorem dX6_least_10 : decode cX6_least 10 = .ok (.bipush (-3), 2) := by decide +kernel
theorem dX6_least_12 : decode cX6_least 12 = .ok (.ireturn, 1) := by decide +kernel
theorem dX6_least_13 : decode cX6_least 13 = .ok (.aload_n 0, 1) := by decide +kernel
theorem dX6_least_14 : decode cX6_least 14 = .ok (.getfield 10, 3) := by decide +kernel
theorem dX6_least_17 : decode cX6_least 17 = .ok (.invokevirtual 95, 3) := by decide +kernel
theorem dX6_least_20 : decode cX6_least 20 = .ok (.iconst 2, 1) := by decide +kernel
theorem dX6_least_21 : decode cX6_least 21 = .ok (.if_icmp .ge 6, 3) := by decide +kernel
theorem dX6_least_24 : decode cX6_least 24 = .ok (.bipush (-2), 2) := by decide +kernel
theorem dX6_least_26 : decode cX6_least 26 = .ok (.ireturn, 1) := by decide +kernel
theorem dX6_least_27 : decode cX6_least 27 = .ok (.aload_n 0, 1) := by decide +kernel
theorem dX6_least_28 : decode cX6_least 28 = .ok (.getfield 33, 3) := by decide +kernel
theorem dX6_least_31 : decode cX6_least 31 = .ok (.invokevirtual 151, 3) := by decide +kernel
theorem dX6_least_34 : decode cX6_least 34 = .ok (.aload_n 0, 1) := by decide +kernel
theorem dX6_least_35 : decode cX6_least 35 = .ok (.getfield 33, 3) := by decide +kernel
theorem dX6_least_38 : decode cX6_least 38 = .ok (.invokevirtual 154, 3) := by decide +kernel
theorem dX6_least_41 : decode cX6_least 41 = .ok (.ireturn, 1) := by decide +kernel
theorem dX6_ways_0 : decode cX6_ways 0 = .ok (.aload_n 0, 1) := by decide +kernel
theorem dX6_ways_1 : decode cX6_ways 1 = .ok (.getfield 10, 3) := by decide +kernel
theorem dX6_ways_4 : decode cX6_ways 4 = .ok (.getfield 60, 3) := by decide +kernel
theorem dX6_ways_7 : decode cX6_ways 7 = .ok (.ifCond .eq 6, 3) := by decide +kernel
theorem dX6_ways_10 : decode cX6_ways 10 = .ok (.bipush (-3), 2) := by decide +kernel
theorem dX6_ways_12 : decode cX6_ways 12 = .ok (.ireturn, 1) := by decide +kernel
theorem dX6_ways_13 : decode cX6_ways 13 = .ok (.aload_n 0, 1) := by decide +kernel
theorem dX6_ways_14 : decode cX6_ways 14 = .ok (.getfield 10, 3) := by decide +kernel
theorem dX6_ways_17 : decode cX6_ways 17 = .ok (.invokevirtual 95, 3) := by decide +kernel
theorem dX6_ways_20 : decode cX6_ways 20 = .ok (.iconst 2, 1) := by decide +kernel
theorem dX6_ways_21 : decode cX6_ways 21 = .ok (.if_icmp .ge 6, 3) := by decide +kernel
theorem dX6_ways_24 : decode cX6_ways 24 = .ok (.bipush (-2), 2) := by decide +kernel
theorem dX6_ways_26 : decode cX6_ways 26 = .ok (.ireturn, 1) := by decide +kernel
theorem dX6_ways_27 : decode cX6_ways 27 = .ok (.aload_n 0, 1) := by decide +kernel
theorem dX6_ways_28 : decode cX6_ways 28 = .ok (.getfield 33, 3) := by decide +kernel
theorem dX6_ways_31 : decode cX6_ways 31 = .ok (.invokevirtual 151, 3) := by decide +kernel
theorem dX6_ways_34 : decode cX6_ways 34 = .ok (.aload_n 0, 1) := by decide +kernel
theorem dX6_ways_35 : decode cX6_ways 35 = .ok (.getfield 33, 3) := by decide +kernel
theorem dX6_ways_38 : decode cX6_ways 38 = .ok (.invokevirtual 163, 3) := by decide +kernel
theorem dX6_ways_41 : decode cX6_ways 41 = .ok (.ireturn, 1) := by decide +kernel
theorem dX6_board_0 : decode cX6_board 0 = .ok (.aload_n 0, 1) := by decide +kernel
theorem dX6_board_1 : decode cX6_board 1 = .ok (.iload_n 1, 1) := by decide +kernel
theorem dX6_board_2 : decode cX6_board 2 = .ok (.invokevirtual 166, 3) := by decide +kernel
theorem dX6_board_5 : decode cX6_board 5 = .ok (.ifCond .eq 22, 3) := by decide +kernel
theorem dX6_board_8 : decode cX6_board 8 = .ok (.iload_n 2, 1) := by decide +kernel
theorem dX6_board_9 : decode cX6_board 9 = .ok (.ifCond .lt 18, 3) := by decide +kernel
theorem dX6_board_12 : decode cX6_board 12 = .ok (.iload_n 2, 1) := by decide +kernel
theorem dX6_board_13 : decode cX6_board 13 = .ok (.aload_n 0, 1) := by decide +kernel
theorem dX6_board_14 : decode cX6_board 14 = .ok (.getfield 10, 3) := by decide +kernel
theorem dX6_board_17 : decode cX6_board 17 = .ok (.getfield 160, 3) := by decide +kernel
theorem dX6_board_20 : decode cX6_board 20 = .ok (.iload_n 1, 1) := by decide +kernel
theorem dX6_board_21 : decode cX6_board 21 = .ok (.invokevirtual 86, 3) := by decide +kernel
theorem dX6_board_24 : decode cX6_board 24 = .ok (.if_icmp .lt 5, 3) := by decide +kernel
theorem dX6_board_27 : decode cX6_board 27 = .ok (.iconst (-1), 1) := by decide +kernel
theorem dX6_board_28 : decode cX6_board 28 = .ok (.ireturn, 1) := by decide +kernel
theorem dX6_board_29 : decode cX6_board 29 = .ok (.iload_n 1, 1) := by decide +kernel
theorem dX6_board_30 : decode cX6_board 30 = .ok (.iload_n 2, 1) := by decide +kernel
theorem dX6_board_31 : decode cX6_board 31 = .ok (.invokestatic 169, 3) := by decide +kernel
theorem dX6_board_34 : decode cX6_board 34 = .ok (.istore 4, 2) := by decide +kernel
theorem dX6_board_36 : decode cX6_board 36 = .ok (.iload_n 3, 1) := by decide +kernel
theorem dX6_board_37 : decode cX6_board 37 = .ok (.tableswitch 66 0 2 #[27, 40, 53], 27) := by decide +kernel
theorem dX6_board_64 : decode cX6_board 64 = .ok (.aload_n 0, 1) := by decide +kernel
theorem dX6_board_65 : decode cX6_board 65 = .ok (.getfield 10, 3) := by decide +kernel
theorem dX6_board_68 : decode cX6_board 68 = .ok (.getfield 172, 3) := by decide +kernel
theorem dX6_board_71 : decode cX6_board 71 = .ok (.iload 4, 2) := by decide +kernel
theorem dX6_board_73 : decode cX6_board 73 = .ok (.invokevirtual 86, 3) := by decide +kernel
theorem dX6_board_76 : decode cX6_board 76 = .ok (.ireturn, 1) := by decide +kernel
theorem dX6_board_77 : decode cX6_board 77 = .ok (.aload_n 0, 1) := by decide +kernel
theorem dX6_board_78 : decode cX6_board 78 = .ok (.getfield 10, 3) := by decide +kernel
theorem dX6_board_81 : decode cX6_board 81 = .ok (.getfield 175, 3) := by decide +kernel
theorem dX6_board_84 : decode cX6_board 84 = .ok (.iload 4, 2) := by decide +kernel
theorem dX6_board_86 : decode cX6_board 86 = .ok (.invokevirtual 86, 3) := by decide +kernel
theorem dX6_board_89 : decode cX6_board 89 = .ok (.ireturn, 1) := by decide +kernel
theorem dX6_board_90 : decode cX6_board 90 = .ok (.aload_n 0, 1) := by decide +kernel
theorem dX6_board_91 : decode cX6_board 91 = .ok (.getfield 10, 3) := by decide +kernel
theorem dX6_board_94 : decode cX6_board 94 = .ok (.getfield 178, 3) := by decide +kernel
theorem dX6_board_97 : decode cX6_board 97 = .ok (.iload 4, 2) := by decide +kernel
theorem dX6_board_99 : decode cX6_board 99 = .ok (.invokevirtual 86, 3) := by decide +kernel
theorem dX6_board_102 : decode cX6_board 102 = .ok (.ireturn, 1) := by decide +kernel
theorem dX6_board_103 : decode cX6_board 103 = .ok (.iconst (-1), 1) := by decide +kernel
theorem dX6_board_104 : decode cX6_board 104 = .ok (.ireturn, 1) := by decide +kernel
theorem dX6_bye_0 : decode cX6_bye 0 = .ok (.aload_n 0, 1) := by decide +kernel
theorem dX6_bye_1 : decode cX6_bye 1 = .ok (.iload_n 1, 1) := by decide +kernel
theorem dX6_bye_2 : decode cX6_bye 2 = .ok (.invokevirtual 166, 3) := by decide +kernel
theorem dX6_bye_5 : decode cX6_bye 5 = .ok (.ifCond .eq 17, 3) := by decide +kernel
theorem dX6_bye_8 : decode cX6_bye 8 = .ok (.aload_n 0, 1) := by decide +kernel
theorem dX6_bye_9 : decode cX6_bye 9 = .ok (.getfield 10, 3) := by decide +kernel
theorem dX6_bye_12 : decode cX6_bye 12 = .ok (.getfield 181, 3) := by decide +kernel
theorem dX6_bye_15 : decode cX6_bye 15 = .ok (.iload_n 1, 1) := by decide +kernel
theorem dX6_bye_16 : decode cX6_bye 16 = .ok (.invokevirtual 86, 3) := by decide +kernel
theorem dX6_bye_19 : decode cX6_bye 19 = .ok (.goto 4, 3) := by decide +kernel
theorem dX6_bye_22 : decode cX6_bye 22 = .ok (.iconst (-1), 1) := by decide +kernel
theorem dX6_bye_23 : decode cX6_bye 23 = .ok (.ireturn, 1) := by decide +kernel
theorem dX6_result_0 : decode cX6_result 0 = .ok (.aload_n 0, 1) := by decide +kernel
theorem dX6_result_1 : decode cX6_result 1 = .ok (.getfield 10, 3) := by decide +kernel
theorem dX6_result_4 : decode cX6_result 4 = .ok (.getfield 60, 3) := by decide +kernel
theorem dX6_result_7 : decode cX6_result 7 = .ok (.ifCond .ne 6, 3) := by decide +kernel
theorem dX6_result_10 : decode cX6_result 10 = .ok (.bipush (-3), 2) := by decide +kernel
theorem dX6_result_12 : decode cX6_result 12 = .ok (.ireturn, 1) := by decide +kernel
theorem dX6_result_13 : decode cX6_result 13 = .ok (.aload_n 0, 1) := by decide +kernel
theorem dX6_result_14 : decode cX6_result 14 = .ok (.getfield 10, 3) := by decide +kernel
theorem dX6_result_17 : decode cX6_result 17 = .ok (.getfield 148, 3) := by decide +kernel
theorem dX6_result_20 : decode cX6_result 20 = .ok (.iconst 1, 1) := by decide +kernel
theorem dX6_result_21 : decode cX6_result 21 = .ok (.isub, 1) := by decide +kernel
theorem dX6_result_22 : decode cX6_result 22 = .ok (.istore_n 3, 1) := by decide +kernel
theorem dX6_result_23 : decode cX6_result 23 = .ok (.iload_n 1, 1) := by decide +kernel
theorem dX6_result_24 : decode cX6_result 24 = .ok (.ifCond .lt 18, 3) := by decide +kernel
theorem dX6_result_27 : decode cX6_result 27 = .ok (.iload_n 1, 1) := by decide +kernel
theorem dX6_result_28 : decode cX6_result 28 = .ok (.aload_n 0, 1) := by decide +kernel
theorem dX6_result_29 : decode cX6_result 29 = .ok (.getfield 10, 3) := by decide +kernel
theorem dX6_result_32 : decode cX6_result 32 = .ok (.getfield 160, 3) := by decide +kernel
theorem dX6_result_35 : decode cX6_result 35 = .ok (.iload_n 3, 1) := by decide +kernel
theorem dX6_result_36 : decode cX6_result 36 = .ok (.invokevirtual 86, 3) := by decide +kernel
theorem dX6_result_39 : decode cX6_result 39 = .ok (.if_icmp .lt 5, 3) := by decide +kernel
theorem dX6_result_42 : decode cX6_result 42 = .ok (.iconst (-1), 1) := by decide +kernel
theorem dX6_result_43 : decode cX6_result 43 = .ok (.ireturn, 1) := by decide +kernel
theorem dX6_result_44 : decode cX6_result 44 = .ok (.iload_n 2, 1) := by decide +kernel
theorem dX6_result_45 : decode cX6_result 45 = .ok (.ifCond .lt 9, 3) := by decide +kernel
theorem dX6_result_48 : decode cX6_result 48 = .ok (.iload_n 2, 1) := by decide +kernel
theorem dX6_result_49 : decode cX6_result 49 = .ok (.bipush 6, 2) := by decide +kernel
theorem dX6_result_51 : decode cX6_result 51 = .ok (.if_icmp .le 6, 3) := by decide +kernel
theorem dX6_result_54 : decode cX6_result 54 = .ok (.bipush (-2), 2) := by decide +kernel
theorem dX6_result_56 : decode cX6_result 56 = .ok (.ireturn, 1) := by decide +kernel
theorem dX6_result_57 : decode cX6_result 57 = .ok (.iload_n 3, 1) := by decide +kernel
theorem dX6_result_58 : decode cX6_result 58 = .ok (.iload_n 1, 1) := by decide +kernel
theorem dX6_result_59 : decode cX6_result 59 = .ok (.invokestatic 169, 3) := by decide +kernel
theorem dX6_result_62 : decode cX6_result 62 = .ok (.istore 4, 2) := by decide +kernel
theorem dX6_result_64 : decode cX6_result 64 = .ok (.aload_n 0, 1) := by decide +kernel
theorem dX6_result_65 : decode cX6_result 65 = .ok (.getfield 10, 3) := by decide +kernel
theorem dX6_result_68 : decode cX6_result 68 = .ok (.getfield 178, 3) := by decide +kernel
theorem dX6_result_71 : decode cX6_result 71 = .ok (.iload 4, 2) := by decide +kernel
theorem dX6_result_73 : decode cX6_result 73 = .ok (.invokevirtual 86, 3) := by decide +kernel
theorem dX6_result_76 : decode cX6_result 76 = .ok (.istore 5, 2) := by decide +kernel
theorem dX6_result_78 : decode cX6_result 78 = .ok (.aload_n 0, 1) := by decide +kernel
theorem dX6_result_79 : decode cX6_result 79 = .ok (.getfield 10, 3) := by decide +kernel
theorem dX6_result_82 : decode cX6_result 82 = .ok (.getfield 178, 3) := by decide +kernel
theorem dX6_result_85 : decode cX6_result 85 = .ok (.iload 4, 2) := by decide +kernel
theorem dX6_result_87 : decode cX6_result 87 = .ok (.iload_n 2, 1) := by decide +kernel
theorem dX6_result_88 : decode cX6_result 88 = .ok (.invokevirtual 91, 3) := by decide +kernel
theorem dX6_result_91 : decode cX6_result 91 = .ok (.iload 5, 2) := by decide +kernel
theorem dX6_result_93 : decode cX6_result 93 = .ok (.ireturn, 1) := by decide +kernel
theorem dX6_close_0 : decode cX6_close 0 = .ok (.aload_n 0, 1) := by decide +kernel
theorem dX6_close_1 : decode cX6_close 1 = .ok (.getfield 10, 3) := by decide +kernel
theorem dX6_close_4 : decode cX6_close 4 = .ok (.getfield 60, 3) := by decide +kernel
theorem dX6_close_7 : decode cX6_close 7 = .ok (.ifCond .ne 6, 3) := by decide +kernel
theorem dX6_close_10 : decode cX6_close 10 = .ok (.bipush (-3), 2) := by decide +kernel
theorem dX6_close_12 : decode cX6_close 12 = .ok (.ireturn, 1) := by decide +kernel
theorem dX6_close_13 : decode cX6_close 13 = .ok (.aload_n 0, 1) := by decide +kernel
theorem dX6_close_14 : decode cX6_close 14 = .ok (.getfield 10, 3) := by decide +kernel
theorem dX6_close_17 : decode cX6_close 17 = .ok (.getfield 148, 3) := by decide +kernel
theorem dX6_close_20 : decode cX6_close 20 = .ok (.iconst 1, 1) := by decide +kernel
theorem dX6_close_21 : decode cX6_close 21 = .ok (.isub, 1) := by decide +kernel
theorem dX6_close_22 : decode cX6_close 22 = .ok (.istore_n 1, 1) := by decide +kernel
theorem dX6_close_23 : decode cX6_close 23 = .ok (.aload_n 0, 1) := by decide +kernel
theorem dX6_close_24 : decode cX6_close 24 = .ok (.getfield 10, 3) := by decide +kernel
theorem dX6_close_27 : decode cX6_close 27 = .ok (.iload_n 1, 1) := by decide +kernel
theorem dX6_close_28 : decode cX6_close 28 = .ok (.invokevirtual 182, 3) := by decide +kernel
theorem dX6_close_31 : decode cX6_close 31 = .ok (.aload_n 0, 1) := by decide +kernel
theorem dX6_close_32 : decode cX6_close 32 = .ok (.getfield 10, 3) := by decide +kernel
theorem dX6_close_35 : decode cX6_close 35 = .ok (.getfield 160, 3) := by decide +kernel
theorem dX6_close_38 : decode cX6_close 38 = .ok (.iload_n 1, 1) := by decide +kernel
theorem dX6_close_39 : decode cX6_close 39 = .ok (.invokevirtual 86, 3) := by decide +kernel
theorem dX6_close_42 : decode cX6_close 42 = .ok (.if_icmp .ge 6, 3) := by decide +kernel
theorem dX6_close_45 : decode cX6_close 45 = .ok (.bipush (-3), 2) := by decide +kernel
theorem dX6_close_47 : decode cX6_close 47 = .ok (.ireturn, 1) := by decide +kernel
theorem dX6_close_48 : decode cX6_close 48 = .ok (.aload_n 0, 1) := by decide +kernel
theorem dX6_close_49 : decode cX6_close 49 = .ok (.getfield 10, 3) := by decide +kernel
theorem dX6_close_52 : decode cX6_close 52 = .ok (.iconst 0, 1) := by decide +kernel
theorem dX6_close_53 : decode cX6_close 53 = .ok (.putfield 60, 3) := by decide +kernel
theorem dX6_close_56 : decode cX6_close 56 = .ok (.aload_n 0, 1) := by decide +kernel
theorem dX6_close_57 : decode cX6_close 57 = .ok (.getfield 24, 3) := by decide +kernel
theorem dX6_close_60 : decode cX6_close 60 = .ok (.invokevirtual 72, 3) := by decide +kernel
theorem dX6_close_63 : decode cX6_close 63 = .ok (.aload_n 0, 1) := by decide +kernel
theorem dX6_close_64 : decode cX6_close 64 = .ok (.getfield 10, 3) := by decide +kernel
theorem dX6_close_67 : decode cX6_close 67 = .ok (.getfield 148, 3) := by decide +kernel
theorem dX6_close_70 : decode cX6_close 70 = .ok (.ireturn, 1) := by decide +kernel
theorem dX6_drop_0 : decode cX6_drop 0 = .ok (.aload_n 0, 1) := by decide +kernel
theorem dX6_drop_1 : decode cX6_drop 1 = .ok (.getfield 10, 3) := by decide +kernel
theorem dX6_drop_4 : decode cX6_drop 4 = .ok (.getfield 148, 3) := by decide +kernel
theorem dX6_drop_7 : decode cX6_drop 7 = .ok (.ifCond .ne 6, 3) := by decide +kernel
theorem dX6_drop_10 : decode cX6_drop 10 = .ok (.bipush (-3), 2) := by decide +kernel
theorem dX6_drop_12 : decode cX6_drop 12 = .ok (.ireturn, 1) := by decide +kernel
theorem dX6_drop_13 : decode cX6_drop 13 = .ok (.aload_n 0, 1) := by decide +kernel
theorem dX6_drop_14 : decode cX6_drop 14 = .ok (.getfield 10, 3) := by decide +kernel
theorem dX6_drop_17 : decode cX6_drop 17 = .ok (.dup, 1) := by decide +kernel
theorem dX6_drop_18 : decode cX6_drop 18 = .ok (.getfield 148, 3) := by decide +kernel
theorem dX6_drop_21 : decode cX6_drop 21 = .ok (.iconst 1, 1) := by decide +kernel
theorem dX6_drop_22 : decode cX6_drop 22 = .ok (.isub, 1) := by decide +kernel
theorem dX6_drop_23 : decode cX6_drop 23 = .ok (.putfield 148, 3) := by decide +kernel
theorem dX6_drop_26 : decode cX6_drop 26 = .ok (.aload_n 0, 1) := by decide +kernel
theorem dX6_drop_27 : decode cX6_drop 27 = .ok (.getfield 10, 3) := by decide +kernel
theorem dX6_drop_30 : decode cX6_drop 30 = .ok (.iconst 0, 1) := by decide +kernel
theorem dX6_drop_31 : decode cX6_drop 31 = .ok (.putfield 60, 3) := by decide +kernel
theorem dX6_drop_34 : decode cX6_drop 34 = .ok (.aload_n 0, 1) := by decide +kernel
theorem dX6_drop_35 : decode cX6_drop 35 = .ok (.getfield 24, 3) := by decide +kernel
theorem dX6_drop_38 : decode cX6_drop 38 = .ok (.invokevirtual 72, 3) := by decide +kernel
theorem dX6_drop_41 : decode cX6_drop 41 = .ok (.aload_n 0, 1) := by decide +kernel
theorem dX6_drop_42 : decode cX6_drop 42 = .ok (.getfield 10, 3) := by decide +kernel
theorem dX6_drop_45 : decode cX6_drop 45 = .ok (.getfield 148, 3) := by decide +kernel
theorem dX6_drop_48 : decode cX6_drop 48 = .ok (.ireturn, 1) := by decide +kernel
theorem dX6_game_0 : decode cX6_game 0 = .ok (.aload_n 0, 1) := by decide +kernel
theorem dX6_game_1 : decode cX6_game 1 = .ok (.iload_n 1, 1) := by decide +kernel
theorem dX6_game_2 : decode cX6_game 2 = .ok (.invokevirtual 79, 3) := by decide +kernel
theorem dX6_game_5 : decode cX6_game 5 = .ok (.ifCond .eq 11, 3) := by decide +kernel
theorem dX6_game_8 : decode cX6_game 8 = .ok (.aload_n 0, 1) := by decide +kernel
theorem dX6_game_9 : decode cX6_game 9 = .ok (.iload_n 2, 1) := by decide +kernel
theorem dX6_game_10 : decode cX6_game 10 = .ok (.invokevirtual 166, 3) := by decide +kernel
theorem dX6_game_13 : decode cX6_game 13 = .ok (.ifCond .ne 5, 3) := by decide +kernel
theorem dX6_game_16 : decode cX6_game 16 = .ok (.iconst (-1), 1) := by decide +kernel
theorem dX6_game_17 : decode cX6_game 17 = .ok (.ireturn, 1) := by decide +kernel
theorem dX6_game_18 : decode cX6_game 18 = .ok (.aload_n 0, 1) := by decide +kernel
theorem dX6_game_19 : decode cX6_game 19 = .ok (.getfield 10, 3) := by decide +kernel
theorem dX6_game_22 : decode cX6_game 22 = .ok (.iload_n 2, 1) := by decide +kernel
theorem dX6_game_23 : decode cX6_game 23 = .ok (.iload_n 1, 1) := by decide +kernel
theorem dX6_game_24 : decode cX6_game 24 = .ok (.invokevirtual 185, 3) := by decide +kernel
theorem dX6_game_27 : decode cX6_game 27 = .ok (.istore 4, 2) := by decide +kernel
theorem dX6_game_29 : decode cX6_game 29 = .ok (.iload_n 3, 1) := by decide +kernel
theorem dX6_game_30 : decode cX6_game 30 = .ok (.tableswitch 95 0 2 #[26, 48, 70], 26) := by decide +kernel
theorem dX6_game_56 : decode cX6_game 56 = .ok (.iload 4, 2) := by decide +kernel
theorem dX6_game_58 : decode cX6_game 58 = .ok (.ifCond .ge 8, 3) := by decide +kernel
theorem dX6_game_61 : decode cX6_game 61 = .ok (.bipush (-5), 2) := by decide +kernel
theorem dX6_game_63 : decode cX6_game 63 = .ok (.goto 14, 3) := by decide +kernel
theorem dX6_game_66 : decode cX6_game 66 = .ok (.aload_n 0, 1) := by decide +kernel
theorem dX6_game_67 : decode cX6_game 67 = .ok (.getfield 10, 3) := by decide +kernel
theorem dX6_game_70 : decode cX6_game 70 = .ok (.iload_n 2, 1) := by decide +kernel
theorem dX6_game_71 : decode cX6_game 71 = .ok (.iload 4, 2) := by decide +kernel
theorem dX6_game_73 : decode cX6_game 73 = .ok (.iload_n 1, 1) := by decide +kernel
theorem dX6_game_74 : decode cX6_game 74 = .ok (.invokevirtual 188, 3) := by decide +kernel
theorem dX6_game_77 : decode cX6_game 77 = .ok (.ireturn, 1) := by decide +kernel
theorem dX6_game_78 : decode cX6_game 78 = .ok (.iload 4, 2) := by decide +kernel
theorem dX6_game_80 : decode cX6_game 80 = .ok (.ifCond .ge 8, 3) := by decide +kernel
theorem dX6_game_83 : decode cX6_game 83 = .ok (.bipush (-5), 2) := by decide +kernel
theorem dX6_game_85 : decode cX6_game 85 = .ok (.goto 14, 3) := by decide +kernel
theorem dX6_game_88 : decode cX6_game 88 = .ok (.aload_n 0, 1) := by decide +kernel
theorem dX6_game_89 : decode cX6_game 89 = .ok (.getfield 10, 3) := by decide +kernel
theorem dX6_game_92 : decode cX6_game 92 = .ok (.iload_n 2, 1) := by decide +kernel
theorem dX6_game_93 : decode cX6_game 93 = .ok (.iload 4, 2) := by decide +kernel
theorem dX6_game_95 : decode cX6_game 95 = .ok (.iload_n 1, 1) := by decide +kernel
theorem dX6_game_96 : decode cX6_game 96 = .ok (.invokevirtual 192, 3) := by decide +kernel
theorem dX6_game_99 : decode cX6_game 99 = .ok (.ireturn, 1) := by decide +kernel
theorem dX6_game_100 : decode cX6_game 100 = .ok (.iload_n 2, 1) := by decide +kernel
theorem dX6_game_101 : decode cX6_game 101 = .ok (.aload_n 0, 1) := by decide +kernel
theorem dX6_game_102 : decode cX6_game 102 = .ok (.getfield 10, 3) := by decide +kernel
theorem dX6_game_105 : decode cX6_game 105 = .ok (.invokevirtual 195, 3) := by decide +kernel
theorem dX6_game_108 : decode cX6_game 108 = .ok (.if_icmp .ge 14, 3) := by decide +kernel
theorem dX6_game_111 : decode cX6_game 111 = .ok (.aload_n 0, 1) := by decide +kernel
theorem dX6_game_112 : decode cX6_game 112 = .ok (.iload_n 1, 1) := by decide +kernel
theorem dX6_game_113 : decode cX6_game 113 = .ok (.iload_n 2, 1) := by decide +kernel
theorem dX6_game_114 : decode cX6_game 114 = .ok (.iload 4, 2) := by decide +kernel
theorem dX6_game_116 : decode cX6_game 116 = .ok (.invokevirtual 198, 3) := by decide +kernel
theorem dX6_game_119 : decode cX6_game 119 = .ok (.goto 5, 3) := by decide +kernel
theorem dX6_game_122 : decode cX6_game 122 = .ok (.bipush (-5), 2) := by decide +kernel
theorem dX6_game_124 : decode cX6_game 124 = .ok (.ireturn, 1) := by decide +kernel
theorem dX6_game_125 : decode cX6_game 125 = .ok (.iconst (-1), 1) := by decide +kernel
theorem dX6_game_126 : decode cX6_game 126 = .ok (.ireturn, 1) := by decide +kernel
theorem dX6_pointsMade_0 : decode cX6_pointsMade 0 = .ok (.iload_n 3, 1) := by decide +kernel
theorem dX6_pointsMade_1 : decode cX6_pointsMade 1 = .ok (.ifCond .ge 24, 3) := by decide +kernel
theorem dX6_pointsMade_4 : decode cX6_pointsMade 4 = .ok (.aload_n 0, 1) := by decide +kernel
theorem dX6_pointsMade_5 : decode cX6_pointsMade 5 = .ok (.getfield 10, 3) := by decide +kernel
theorem dX6_pointsMade_8 : decode cX6_pointsMade 8 = .ok (.getfield 181, 3) := by decide +kernel
theorem dX6_pointsMade_11 : decode cX6_pointsMade 11 = .ok (.iload_n 2, 1) := by decide +kernel
theorem dX6_pointsMade_12 : decode cX6_pointsMade 12 = .ok (.invokevirtual 86, 3) := by decide +kernel
theorem dX6_pointsMade_15 : decode cX6_pointsMade 15 = .ok (.iload_n 1, 1) := by decide +kernel
theorem dX6_pointsMade_16 : decode cX6_pointsMade 16 = .ok (.if_icmp .ne 7, 3) := by decide +kernel
theorem dX6_pointsMade_19 : decode cX6_pointsMade 19 = .ok (.iconst 2, 1) := by decide +kernel
theorem dX6_pointsMade_20 : decode cX6_pointsMade 20 = .ok (.goto 4, 3) := by decide +kernel
theorem dX6_pointsMade_23 : decode cX6_pointsMade 23 = .ok (.iconst 0, 1) := by decide +kernel
theorem dX6_pointsMade_24 : decode cX6_pointsMade 24 = .ok (.ireturn, 1) := by decide +kernel
theorem dX6_pointsMade_25 : decode cX6_pointsMade 25 = .ok (.aload_n 0, 1) := by decide +kernel
theorem dX6_pointsMade_26 : decode cX6_pointsMade 26 = .ok (.getfield 10, 3) := by decide +kernel
theorem dX6_pointsMade_29 : decode cX6_pointsMade 29 = .ok (.iload_n 2, 1) := by decide +kernel
theorem dX6_pointsMade_30 : decode cX6_pointsMade 30 = .ok (.iload_n 3, 1) := by decide +kernel
theorem dX6_pointsMade_31 : decode cX6_pointsMade 31 = .ok (.iload_n 1, 1) := by decide +kernel
theorem dX6_pointsMade_32 : decode cX6_pointsMade 32 = .ok (.invokevirtual 201, 3) := by decide +kernel
theorem dX6_pointsMade_35 : decode cX6_pointsMade 35 = .ok (.invokestatic 204, 3) := by decide +kernel
theorem dX6_pointsMade_38 : decode cX6_pointsMade 38 = .ok (.ireturn, 1) := by decide +kernel
theorem dX6_average_0 : decode cX6_average 0 = .ok (.aload_n 0, 1) := by decide +kernel
theorem dX6_average_1 : decode cX6_average 1 = .ok (.iload_n 1, 1) := by decide +kernel
theorem dX6_average_2 : decode cX6_average 2 = .ok (.invokevirtual 79, 3) := by decide +kernel
theorem dX6_average_5 : decode cX6_average 5 = .ok (.ifCond .eq 12, 3) := by decide +kernel
theorem dX6_average_8 : decode cX6_average 8 = .ok (.iload_n 2, 1) := by decide +kernel
theorem dX6_average_9 : decode cX6_average 9 = .ok (.ifCond .lt 8, 3) := by decide +kernel
theorem dX6_average_12 : decode cX6_average 12 = .ok (.iload_n 2, 1) := by decide +kernel
theorem dX6_average_13 : decode cX6_average 13 = .ok (.iconst 1, 1) := by decide +kernel
theorem dX6_average_14 : decode cX6_average 14 = .ok (.if_icmp .le 5, 3) := by decide +kernel
theorem dX6_average_17 : decode cX6_average 17 = .ok (.iconst (-1), 1) := by decide +kernel
theorem dX6_average_18 : decode cX6_average 18 = .ok (.ireturn, 1) := by decide +kernel
theorem dX6_average_19 : decode cX6_average 19 = .ok (.aload_n 0, 1) := by decide +kernel
theorem dX6_average_20 : decode cX6_average 20 = .ok (.getfield 24, 3) := by decide +kernel
theorem dX6_average_23 : decode cX6_average 23 = .ok (.getfield 105, 3) := by decide +kernel
theorem dX6_average_26 : decode cX6_average 26 = .ok (.iload_n 1, 1) := by decide +kernel
theorem dX6_average_27 : decode cX6_average 27 = .ok (.invokevirtual 86, 3) := by decide +kernel
theorem dX6_average_30 : decode cX6_average 30 = .ok (.istore_n 3, 1) := by decide +kernel
theorem dX6_average_31 : decode cX6_average 31 = .ok (.iload_n 3, 1) := by decide +kernel
theorem dX6_average_32 : decode cX6_average 32 = .ok (.ifCond .ne 5, 3) := by decide +kernel
theorem dX6_average_35 : decode cX6_average 35 = .ok (.iload_n 2, 1) := by decide +kernel
theorem dX6_average_36 : decode cX6_average 36 = .ok (.ireturn, 1) := by decide +kernel
theorem dX6_average_37 : decode cX6_average 37 = .ok (.aload_n 0, 1) := by decide +kernel
theorem dX6_average_38 : decode cX6_average 38 = .ok (.getfield 24, 3) := by decide +kernel
theorem dX6_average_41 : decode cX6_average 41 = .ok (.iload_n 1, 1) := by decide +kernel
theorem dX6_average_42 : decode cX6_average 42 = .ok (.invokevirtual 207, 3) := by decide +kernel
theorem dX6_average_45 : decode cX6_average 45 = .ok (.istore 4, 2) := by decide +kernel
theorem dX6_average_47 : decode cX6_average 47 = .ok (.iload 4, 2) := by decide +kernel
theorem dX6_average_49 : decode cX6_average 49 = .ok (.iload_n 3, 1) := by decide +kernel
theorem dX6_average_50 : decode cX6_average 50 = .ok (.invokestatic 210, 3) := by decide +kernel
theorem dX6_average_53 : decode cX6_average 53 = .ok (.istore 5, 2) := by decide +kernel
theorem dX6_average_55 : decode cX6_average 55 = .ok (.iload_n 2, 1) := by decide +kernel
theorem dX6_average_56 : decode cX6_average 56 = .ok (.ifCond .ne 11, 3) := by decide +kernel
theorem dX6_average_59 : decode cX6_average 59 = .ok (.iload 4, 2) := by decide +kernel
theorem dX6_average_61 : decode cX6_average 61 = .ok (.iload 5, 2) := by decide +kernel
theorem dX6_average_63 : decode cX6_average 63 = .ok (.idiv, 1) := by decide +kernel
theorem dX6_average_64 : decode cX6_average 64 = .ok (.goto 7, 3) := by decide +kernel
theorem dX6_average_67 : decode cX6_average 67 = .ok (.iload_n 3, 1) := by decide +kernel
theorem dX6_average_68 : decode cX6_average 68 = .ok (.iload 5, 2) := by decide +kernel
theorem dX6_average_70 : decode cX6_average 70 = .ok (.idiv, 1) := by decide +kernel
theorem dX6_average_71 : decode cX6_average 71 = .ok (.ireturn, 1) := by decide +kernel
theorem dX6_commonDivisor_0 : decode cX6_commonDivisor 0 = .ok (.iload_n 1, 1) := by decide +kernel
theorem dX6_commonDivisor_1 : decode cX6_commonDivisor 1 = .ok (.istore_n 2, 1) := by decide +kernel
theorem dX6_commonDivisor_2 : decode cX6_commonDivisor 2 = .ok (.iload_n 2, 1) := by decide +kernel
theorem dX6_commonDivisor_3 : decode cX6_commonDivisor 3 = .ok (.iconst 1, 1) := by decide +kernel
theorem dX6_commonDivisor_4 : decode cX6_commonDivisor 4 = .ok (.if_icmp .le 23, 3) := by decide +kernel
theorem dX6_commonDivisor_7 : decode cX6_commonDivisor 7 = .ok (.iload_n 1, 1) := by decide +kernel
theorem dX6_commonDivisor_8 : decode cX6_commonDivisor 8 = .ok (.iload_n 2, 1) := by decide +kernel
theorem dX6_commonDivisor_9 : decode cX6_commonDivisor 9 = .ok (.irem, 1) := by decide +kernel
theorem dX6_commonDivisor_10 : decode cX6_commonDivisor 10 = .ok (.ifCond .ne 11, 3) := by decide +kernel
theorem dX6_commonDivisor_13 : decode cX6_commonDivisor 13 = .ok (.iload_n 0, 1) := by decide +kernel
theorem dX6_commonDivisor_14 : decode cX6_commonDivisor 14 = .ok (.iload_n 2, 1) := by decide +kernel
theorem dX6_commonDivisor_15 : decode cX6_commonDivisor 15 = .ok (.irem, 1) := by decide +kernel
theorem dX6_commonDivisor_16 : decode cX6_commonDivisor 16 = .ok (.ifCond .ne 5, 3) := by decide +kernel
theorem dX6_commonDivisor_19 : decode cX6_commonDivisor 19 = .ok (.iload_n 2, 1) := by decide +kernel
theorem dX6_commonDivisor_20 : decode cX6_commonDivisor 20 = .ok (.ireturn, 1) := by decide +kernel
theorem dX6_commonDivisor_21 : decode cX6_commonDivisor 21 = .ok (.iinc 2 (-1), 3) := by decide +kernel
theorem dX6_commonDivisor_24 : decode cX6_commonDivisor 24 = .ok (.goto (-22), 3) := by decide +kernel
theorem dX6_commonDivisor_27 : decode cX6_commonDivisor 27 = .ok (.iconst 1, 1) := by decide +kernel
theorem dX6_commonDivisor_28 : decode cX6_commonDivisor 28 = .ok (.ireturn, 1) := by decide +kernel
theorem dX6_feed_0 : decode cX6_feed 0 = .ok (.iload_n 1, 1) := by decide +kernel
theorem dX6_feed_1 : decode cX6_feed 1 = .ok (.iconst 1, 1) := by decide +kernel
theorem dX6_feed_2 : decode cX6_feed 2 = .ok (.if_icmp .lt 9, 3) := by decide +kernel
theorem dX6_feed_5 : decode cX6_feed 5 = .ok (.iload_n 1, 1) := by decide +kernel
theorem dX6_feed_6 : decode cX6_feed 6 = .ok (.bipush 127, 2) := by decide +kernel
theorem dX6_feed_8 : decode cX6_feed 8 = .ok (.if_icmp .le 6, 3) := by decide +kernel
theorem dX6_feed_11 : decode cX6_feed 11 = .ok (.bipush (-2), 2) := by decide +kernel
theorem dX6_feed_13 : decode cX6_feed 13 = .ok (.ireturn, 1) := by decide +kernel
theorem dX6_feed_14 : decode cX6_feed 14 = .ok (.aload_n 0, 1) := by decide +kernel
theorem dX6_feed_15 : decode cX6_feed 15 = .ok (.getfield 42, 3) := by decide +kernel
theorem dX6_feed_18 : decode cX6_feed 18 = .ok (.getfield 213, 3) := by decide +kernel
theorem dX6_feed_21 : decode cX6_feed 21 = .ok (.bipush 40, 2) := by decide +kernel
theorem dX6_feed_23 : decode cX6_feed 23 = .ok (.if_icmp .lt 6, 3) := by decide +kernel
theorem dX6_feed_26 : decode cX6_feed 26 = .ok (.bipush (-4), 2) := by decide +kernel
theorem dX6_feed_28 : decode cX6_feed 28 = .ok (.ireturn, 1) := by decide +kernel
theorem dX6_feed_29 : decode cX6_feed 29 = .ok (.aload_n 0, 1) := by decide +kernel
theorem dX6_feed_30 : decode cX6_feed 30 = .ok (.getfield 42, 3) := by decide +kernel
theorem dX6_feed_33 : decode cX6_feed 33 = .ok (.iload_n 1, 1) := by decide +kernel
theorem dX6_feed_34 : decode cX6_feed 34 = .ok (.invokevirtual 216, 3) := by decide +kernel
theorem dX6_feed_37 : decode cX6_feed 37 = .ok (.aload_n 0, 1) := by decide +kernel
theorem dX6_feed_38 : decode cX6_feed 38 = .ok (.getfield 42, 3) := by decide +kernel
theorem dX6_feed_41 : decode cX6_feed 41 = .ok (.getfield 213, 3) := by decide +kernel
theorem dX6_feed_44 : decode cX6_feed 44 = .ok (.ireturn, 1) := by decide +kernel
theorem dX6_clear_0 : decode cX6_clear 0 = .ok (.aload_n 0, 1) := by decide +kernel
theorem dX6_clear_1 : decode cX6_clear 1 = .ok (.getfield 42, 3) := by decide +kernel
theorem dX6_clear_4 : decode cX6_clear 4 = .ok (.getfield 213, 3) := by decide +kernel
theorem dX6_clear_7 : decode cX6_clear 7 = .ok (.istore_n 1, 1) := by decide +kernel
theorem dX6_clear_8 : decode cX6_clear 8 = .ok (.aload_n 0, 1) := by decide +kernel
theorem dX6_clear_9 : decode cX6_clear 9 = .ok (.getfield 42, 3) := by decide +kernel
theorem dX6_clear_12 : decode cX6_clear 12 = .ok (.iconst 0, 1) := by decide +kernel
theorem dX6_clear_13 : decode cX6_clear 13 = .ok (.putfield 213, 3) := by decide +kernel
theorem dX6_clear_16 : decode cX6_clear 16 = .ok (.iload_n 1, 1) := by decide +kernel
theorem dX6_clear_17 : decode cX6_clear 17 = .ok (.ireturn, 1) := by decide +kernel
theorem dX6_results_0 : decode cX6_results 0 = .ok (.aload_n 0, 1) := by decide +kernel
theorem dX6_results_1 : decode cX6_results 1 = .ok (.getfield 10, 3) := by decide +kernel
theorem dX6_results_4 : decode cX6_results 4 = .ok (.getfield 60, 3) := by decide +kernel
theorem dX6_results_7 : decode cX6_results 7 = .ok (.ifCond .eq 10, 3) := by decide +kernel
theorem dX6_results_10 : decode cX6_results 10 = .ok (.aload_n 0, 1) := by decide +kernel
theorem dX6_results_11 : decode cX6_results 11 = .ok (.invokevirtual 219, 3) := by decide +kernel
theorem dX6_results_14 : decode cX6_results 14 = .ok (.goto 5, 3) := by decide +kernel
theorem dX6_results_17 : decode cX6_results 17 = .ok (.bipush (-3), 2) := by decide +kernel
theorem dX6_results_19 : decode cX6_results 19 = .ok (.istore_n 1, 1) := by decide +kernel
theorem dX6_results_20 : decode cX6_results 20 = .ok (.aload_n 0, 1) := by decide +kernel
theorem dX6_results_21 : decode cX6_results 21 = .ok (.getfield 42, 3) := by decide +kernel
theorem dX6_results_24 : decode cX6_results 24 = .ok (.iconst 0, 1) := by decide +kernel
theorem dX6_results_25 : decode cX6_results 25 = .ok (.putfield 213, 3) := by decide +kernel
theorem dX6_results_28 : decode cX6_results 28 = .ok (.iload_n 1, 1) := by decide +kernel
theorem dX6_results_29 : decode cX6_results 29 = .ok (.ireturn, 1) := by decide +kernel
theorem dX6_readResults_0 : decode cX6_readResults 0 = .ok (.aload_n 0, 1) := by decide +kernel
theorem dX6_readResults_1 : decode cX6_readResults 1 = .ok (.getfield 10, 3) := by decide +kernel
theorem dX6_readResults_4 : decode cX6_readResults 4 = .ok (.getfield 148, 3) := by decide +kernel
theorem dX6_readResults_7 : decode cX6_readResults 7 = .ok (.iconst 1, 1) := by decide +kernel
theorem dX6_readResults_8 : decode cX6_readResults 8 = .ok (.isub, 1) := by decide +kernel
theorem dX6_readResults_9 : decode cX6_readResults 9 = .ok (.istore_n 1, 1) := by decide +kernel
theorem dX6_readResults_10 : decode cX6_readResults 10 = .ok (.aload_n 0, 1) := by decide +kernel
theorem dX6_readResults_11 : decode cX6_readResults 11 = .ok (.getfield 10, 3) := by decide +kernel
theorem dX6_readResults_14 : decode cX6_readResults 14 = .ok (.getfield 160, 3) := by decide +kernel
theorem dX6_readResults_17 : decode cX6_readResults 17 = .ok (.iload_n 1, 1) := by decide +kernel
theorem dX6_readResults_18 : decode cX6_readResults 18 = .ok (.invokevirtual 86, 3) := by decide +kernel
theorem dX6_readResults_21 : decode cX6_readResults 21 = .ok (.istore_n 2, 1) := by decide +kernel
theorem dX6_readResults_22 : decode cX6_readResults 22 = .ok (.aload_n 0, 1) := by decide +kernel
theorem dX6_readResults_23 : decode cX6_readResults 23 = .ok (.iload_n 2, 1) := by decide +kernel
theorem dX6_readResults_24 : decode cX6_readResults 24 = .ok (.invokevirtual 222, 3) := by decide +kernel
theorem dX6_readResults_27 : decode cX6_readResults 27 = .ok (.istore_n 3, 1) := by decide +kernel
theorem dX6_readResults_28 : decode cX6_readResults 28 = .ok (.iload_n 3, 1) := by decide +kernel
theorem dX6_readResults_29 : decode cX6_readResults 29 = .ok (.bipush (-5), 2) := by decide +kernel
theorem dX6_readResults_31 : decode cX6_readResults 31 = .ok (.if_icmp .eq 8, 3) := by decide +kernel
theorem dX6_readResults_34 : decode cX6_readResults 34 = .ok (.bipush (-100), 2) := by decide +kernel
theorem dX6_readResults_36 : decode cX6_readResults 36 = .ok (.iload_n 3, 1) := by decide +kernel
theorem dX6_readResults_37 : decode cX6_readResults 37 = .ok (.isub, 1) := by decide +kernel
theorem dX6_readResults_38 : decode cX6_readResults 38 = .ok (.ireturn, 1) := by decide +kernel
theorem dX6_readResults_39 : decode cX6_readResults 39 = .ok (.iconst 0, 1) := by decide +kernel
theorem dX6_readResults_40 : decode cX6_readResults 40 = .ok (.istore 4, 2) := by decide +kernel
theorem dX6_readResults_42 : decode cX6_readResults 42 = .ok (.iload 4, 2) := by decide +kernel
theorem dX6_readResults_44 : decode cX6_readResults 44 = .ok (.iload_n 2, 1) := by decide +kernel
theorem dX6_readResults_45 : decode cX6_readResults 45 = .ok (.if_icmp .ge 49, 3) := by decide +kernel
theorem dX6_readResults_48 : decode cX6_readResults 48 = .ok (.ldc 225, 2) := by decide +kernel
theorem dX6_readResults_50 : decode cX6_readResults 50 = .ok (.aload_n 0, 1) := by decide +kernel
theorem dX6_readResults_51 : decode cX6_readResults 51 = .ok (.getfield 42, 3) := by decide +kernel
theorem dX6_readResults_54 : decode cX6_readResults 54 = .ok (.iload 4, 2) := by decide +kernel
theorem dX6_readResults_56 : decode cX6_readResults 56 = .ok (.invokevirtual 227, 3) := by decide +kernel
theorem dX6_readResults_59 : decode cX6_readResults 59 = .ok (.i2c, 1) := by decide +kernel
theorem dX6_readResults_60 : decode cX6_readResults 60 = .ok (.invokevirtual 230, 3) := by decide +kernel
theorem dX6_readResults_63 : decode cX6_readResults 63 = .ok (.istore 5, 2) := by decide +kernel
theorem dX6_readResults_65 : decode cX6_readResults 65 = .ok (.iload 5, 2) := by decide +kernel
theorem dX6_readResults_67 : decode cX6_readResults 67 = .ok (.ifCond .le 21, 3) := by decide +kernel
theorem dX6_readResults_70 : decode cX6_readResults 70 = .ok (.aload_n 0, 1) := by decide +kernel
theorem dX6_readResults_71 : decode cX6_readResults 71 = .ok (.getfield 10, 3) := by decide +kernel
theorem dX6_readResults_74 : decode cX6_readResults 74 = .ok (.getfield 178, 3) := by decide +kernel
theorem dX6_readResults_77 : decode cX6_readResults 77 = .ok (.iload_n 1, 1) := by decide +kernel
theorem dX6_readResults_78 : decode cX6_readResults 78 = .ok (.iload 4, 2) := by decide +kernel
theorem dX6_readResults_80 : decode cX6_readResults 80 = .ok (.invokestatic 169, 3) := by decide +kernel
theorem dX6_readResults_83 : decode cX6_readResults 83 = .ok (.iload 5, 2) := by decide +kernel
theorem dX6_readResults_85 : decode cX6_readResults 85 = .ok (.invokevirtual 91, 3) := by decide +kernel
theorem dX6_readResults_88 : decode cX6_readResults 88 = .ok (.iinc 4 1, 3) := by decide +kernel
theorem dX6_readResults_91 : decode cX6_readResults 91 = .ok (.goto (-49), 3) := by decide +kernel
theorem dX6_readResults_94 : decode cX6_readResults 94 = .ok (.aload_n 0, 1) := by decide +kernel
theorem dX6_readResults_95 : decode cX6_readResults 95 = .ok (.getfield 10, 3) := by decide +kernel
theorem dX6_readResults_98 : decode cX6_readResults 98 = .ok (.iload_n 1, 1) := by decide +kernel
theorem dX6_readResults_99 : decode cX6_readResults 99 = .ok (.invokevirtual 182, 3) := by decide +kernel
theorem dX6_readResults_102 : decode cX6_readResults 102 = .ok (.ireturn, 1) := by decide +kernel
theorem dX6_faultOfResults_0 : decode cX6_faultOfResults 0 = .ok (.iconst 0, 1) := by decide +kernel
theorem dX6_faultOfResults_1 : decode cX6_faultOfResults 1 = .ok (.istore_n 2, 1) := by decide +kernel
theorem dX6_faultOfResults_2 : decode cX6_faultOfResults 2 = .ok (.iload_n 2, 1) := by decide +kernel
theorem dX6_faultOfResults_3 : decode cX6_faultOfResults 3 = .ok (.iload_n 1, 1) := by decide +kernel
theorem dX6_faultOfResults_4 : decode cX6_faultOfResults 4 = .ok (.if_icmp .ge 39, 3) := by decide +kernel
theorem dX6_faultOfResults_7 : decode cX6_faultOfResults 7 = .ok (.iload_n 2, 1) := by decide +kernel
theorem dX6_faultOfResults_8 : decode cX6_faultOfResults 8 = .ok (.aload_n 0, 1) := by decide +kernel
theorem dX6_faultOfResults_9 : decode cX6_faultOfResults 9 = .ok (.getfield 42, 3) := by decide +kernel
theorem dX6_faultOfResults_12 : decode cX6_faultOfResults 12 = .ok (.getfield 213, 3) := by decide +kernel
theorem dX6_faultOfResults_15 : decode cX6_faultOfResults 15 = .ok (.if_icmp .ge 20, 3) := by decide +kernel
theorem dX6_faultOfResults_18 : decode cX6_faultOfResults 18 = .ok (.ldc 225, 2) := by decide +kernel
theorem dX6_faultOfResults_20 : decode cX6_faultOfResults 20 = .ok (.aload_n 0, 1) := by decide +kernel
theorem dX6_faultOfResults_21 : decode cX6_faultOfResults 21 = .ok (.getfield 42, 3) := by decide +kernel
theorem dX6_faultOfResults_24 : decode cX6_faultOfResults 24 = .ok (.iload_n 2, 1) := by decide +kernel
theorem dX6_faultOfResults_25 : decode cX6_faultOfResults 25 = .ok (.invokevirtual 227, 3) := by decide +kernel
theorem dX6_faultOfResults_28 : decode cX6_faultOfResults 28 = .ok (.i2c, 1) := by decide +kernel
theorem dX6_faultOfResults_29 : decode cX6_faultOfResults 29 = .ok (.invokevirtual 230, 3) := by decide +kernel
theorem dX6_faultOfResults_32 : decode cX6_faultOfResults 32 = .ok (.ifCond .ge 5, 3) := by decide +kernel
theorem dX6_faultOfResults_35 : decode cX6_faultOfResults 35 = .ok (.iload_n 2, 1) := by decide +kernel
theorem dX6_faultOfResults_36 : decode cX6_faultOfResults 36 = .ok (.ireturn, 1) := by decide +kernel
theorem dX6_faultOfResults_37 : decode cX6_faultOfResults 37 = .ok (.iinc 2 1, 3) := by decide +kernel
theorem dX6_faultOfResults_40 : decode cX6_faultOfResults 40 = .ok (.goto (-38), 3) := by decide +kernel
theorem dX6_faultOfResults_43 : decode cX6_faultOfResults 43 = .ok (.aload_n 0, 1) := by decide +kernel
theorem dX6_faultOfResults_44 : decode cX6_faultOfResults 44 = .ok (.getfield 42, 3) := by decide +kernel
theorem dX6_faultOfResults_47 : decode cX6_faultOfResults 47 = .ok (.getfield 213, 3) := by decide +kernel
theorem dX6_faultOfResults_50 : decode cX6_faultOfResults 50 = .ok (.iload_n 1, 1) := by decide +kernel
theorem dX6_faultOfResults_51 : decode cX6_faultOfResults 51 = .ok (.if_icmp .le 7, 3) := by decide +kernel
theorem dX6_faultOfResults_54 : decode cX6_faultOfResults 54 = .ok (.iload_n 1, 1) := by decide +kernel
theorem dX6_faultOfResults_55 : decode cX6_faultOfResults 55 = .ok (.goto 5, 3) := by decide +kernel
theorem dX6_faultOfResults_58 : decode cX6_faultOfResults 58 = .ok (.bipush (-5), 2) := by decide +kernel
theorem dX6_faultOfResults_60 : decode cX6_faultOfResults 60 = .ok (.ireturn, 1) := by decide +kernel
theorem dX6_order_0 : decode cX6_order 0 = .ok (.aload_n 0, 1) := by decide +kernel
theorem dX6_order_1 : decode cX6_order 1 = .ok (.invokevirtual 235, 3) := by decide +kernel
theorem dX6_order_4 : decode cX6_order 4 = .ok (.istore_n 1, 1) := by decide +kernel
theorem dX6_order_5 : decode cX6_order 5 = .ok (.iload_n 1, 1) := by decide +kernel
theorem dX6_order_6 : decode cX6_order 6 = .ok (.bipush (-5), 2) := by decide +kernel
theorem dX6_order_8 : decode cX6_order 8 = .ok (.if_icmp .ne 14, 3) := by decide +kernel
theorem dX6_order_11 : decode cX6_order 11 = .ok (.aload_n 0, 1) := by decide +kernel
theorem dX6_order_12 : decode cX6_order 12 = .ok (.invokevirtual 238, 3) := by decide +kernel
theorem dX6_order_15 : decode cX6_order 15 = .ok (.aload_n 0, 1) := by decide +kernel
theorem dX6_order_16 : decode cX6_order 16 = .ok (.getfield 24, 3) := by decide +kernel
theorem dX6_order_19 : decode cX6_order 19 = .ok (.invokevirtual 72, 3) := by decide +kernel
theorem dX6_order_22 : decode cX6_order 22 = .ok (.aload_n 0, 1) := by decide +kernel
theorem dX6_order_23 : decode cX6_order 23 = .ok (.getfield 42, 3) := by decide +kernel
theorem dX6_order_26 : decode cX6_order 26 = .ok (.iconst 0, 1) := by decide +kernel
theorem dX6_order_27 : decode cX6_order 27 = .ok (.putfield 213, 3) := by decide +kernel
theorem dX6_order_30 : decode cX6_order 30 = .ok (.iload_n 1, 1) := by decide +kernel
theorem dX6_order_31 : decode cX6_order 31 = .ok (.bipush (-5), 2) := by decide +kernel
theorem dX6_order_33 : decode cX6_order 33 = .ok (.if_icmp .ne 13, 3) := by decide +kernel
theorem dX6_order_36 : decode cX6_order 36 = .ok (.aload_n 0, 1) := by decide +kernel
theorem dX6_order_37 : decode cX6_order 37 = .ok (.getfield 10, 3) := by decide +kernel
theorem dX6_order_40 : decode cX6_order 40 = .ok (.getfield 241, 3) := by decide +kernel
theorem dX6_order_43 : decode cX6_order 43 = .ok (.goto 7, 3) := by decide +kernel
theorem dX6_order_46 : decode cX6_order 46 = .ok (.bipush (-100), 2) := by decide +kernel
theorem dX6_order_48 : decode cX6_order 48 = .ok (.iload_n 1, 1) := by decide +kernel
theorem dX6_order_49 : decode cX6_order 49 = .ok (.isub, 1) := by decide +kernel
theorem dX6_order_50 : decode cX6_order 50 = .ok (.ireturn, 1) := by decide +kernel
theorem dX6_faultOfOrder_0 : decode cX6_faultOfOrder 0 = .ok (.iconst 0, 1) := by decide +kernel
theorem dX6_faultOfOrder_1 : decode cX6_faultOfOrder 1 = .ok (.istore_n 1, 1) := by decide +kernel
theorem dX6_faultOfOrder_2 : decode cX6_faultOfOrder 2 = .ok (.iconst 0, 1) := by decide +kernel
theorem dX6_faultOfOrder_3 : decode cX6_faultOfOrder 3 = .ok (.istore_n 2, 1) := by decide +kernel
theorem dX6_faultOfOrder_4 : decode cX6_faultOfOrder 4 = .ok (.iload_n 2, 1) := by decide +kernel
theorem dX6_faultOfOrder_5 : decode cX6_faultOfOrder 5 = .ok (.aload_n 0, 1) := by decide +kernel
theorem dX6_faultOfOrder_6 : decode cX6_faultOfOrder 6 = .ok (.getfield 42, 3) := by decide +kernel
theorem dX6_faultOfOrder_9 : decode cX6_faultOfOrder 9 = .ok (.getfield 213, 3) := by decide +kernel
theorem dX6_faultOfOrder_12 : decode cX6_faultOfOrder 12 = .ok (.if_icmp .ge 44, 3) := by decide +kernel
theorem dX6_faultOfOrder_15 : decode cX6_faultOfOrder 15 = .ok (.ldc 244, 2) := by decide +kernel
theorem dX6_faultOfOrder_17 : decode cX6_faultOfOrder 17 = .ok (.aload_n 0, 1) := by decide +kernel
theorem dX6_faultOfOrder_18 : decode cX6_faultOfOrder 18 = .ok (.getfield 42, 3) := by decide +kernel
theorem dX6_faultOfOrder_21 : decode cX6_faultOfOrder 21 = .ok (.iload_n 2, 1) := by decide +kernel
theorem dX6_faultOfOrder_22 : decode cX6_faultOfOrder 22 = .ok (.invokevirtual 227, 3) := by decide +kernel
theorem dX6_faultOfOrder_25 : decode cX6_faultOfOrder 25 = .ok (.i2c, 1) := by decide +kernel
theorem dX6_faultOfOrder_26 : decode cX6_faultOfOrder 26 = .ok (.invokevirtual 230, 3) := by decide +kernel
theorem dX6_faultOfOrder_29 : decode cX6_faultOfOrder 29 = .ok (.istore_n 3, 1) := by decide +kernel
theorem dX6_faultOfOrder_30 : decode cX6_faultOfOrder 30 = .ok (.iload_n 3, 1) := by decide +kernel
theorem dX6_faultOfOrder_31 : decode cX6_faultOfOrder 31 = .ok (.ifCond .lt 11, 3) := by decide +kernel
theorem dX6_faultOfOrder_34 : decode cX6_faultOfOrder 34 = .ok (.iload_n 1, 1) := by decide +kernel
theorem dX6_faultOfOrder_35 : decode cX6_faultOfOrder 35 = .ok (.iload_n 3, 1) := by decide +kernel
theorem dX6_faultOfOrder_36 : decode cX6_faultOfOrder 36 = .ok (.ishr, 1) := by decide +kernel
theorem dX6_faultOfOrder_37 : decode cX6_faultOfOrder 37 = .ok (.iconst 1, 1) := by decide +kernel
theorem dX6_faultOfOrder_38 : decode cX6_faultOfOrder 38 = .ok (.iand, 1) := by decide +kernel
theorem dX6_faultOfOrder_39 : decode cX6_faultOfOrder 39 = .ok (.ifCond .eq 5, 3) := by decide +kernel
theorem dX6_faultOfOrder_42 : decode cX6_faultOfOrder 42 = .ok (.iload_n 2, 1) := by decide +kernel
theorem dX6_faultOfOrder_43 : decode cX6_faultOfOrder 43 = .ok (.ireturn, 1) := by decide +kernel
theorem dX6_faultOfOrder_44 : decode cX6_faultOfOrder 44 = .ok (.iload_n 1, 1) := by decide +kernel
theorem dX6_faultOfOrder_45 : decode cX6_faultOfOrder 45 = .ok (.iconst 1, 1) := by decide +kernel
theorem dX6_faultOfOrder_46 : decode cX6_faultOfOrder 46 = .ok (.iload_n 3, 1) := by decide +kernel
theorem dX6_faultOfOrder_47 : decode cX6_faultOfOrder 47 = .ok (.ishl, 1) := by decide +kernel
theorem dX6_faultOfOrder_48 : decode cX6_faultOfOrder 48 = .ok (.ior, 1) := by decide +kernel
theorem dX6_faultOfOrder_49 : decode cX6_faultOfOrder 49 = .ok (.istore_n 1, 1) := by decide +kernel
theorem dX6_faultOfOrder_50 : decode cX6_faultOfOrder 50 = .ok (.iinc 2 1, 3) := by decide +kernel
theorem dX6_faultOfOrder_53 : decode cX6_faultOfOrder 53 = .ok (.goto (-49), 3) := by decide +kernel
theorem dX6_faultOfOrder_56 : decode cX6_faultOfOrder 56 = .ok (.aload_n 0, 1) := by decide +kernel
theorem dX6_faultOfOrder_57 : decode cX6_faultOfOrder 57 = .ok (.getfield 42, 3) := by decide +kernel
theorem dX6_faultOfOrder_60 : decode cX6_faultOfOrder 60 = .ok (.getfield 213, 3) := by decide +kernel
theorem dX6_faultOfOrder_63 : decode cX6_faultOfOrder 63 = .ok (.ifCond .ne 7, 3) := by decide +kernel
theorem dX6_faultOfOrder_66 : decode cX6_faultOfOrder 66 = .ok (.iconst 0, 1) := by decide +kernel
theorem dX6_faultOfOrder_67 : decode cX6_faultOfOrder 67 = .ok (.goto 5, 3) := by decide +kernel
theorem dX6_faultOfOrder_70 : decode cX6_faultOfOrder 70 = .ok (.bipush (-5), 2) := by decide +kernel
theorem dX6_faultOfOrder_72 : decode cX6_faultOfOrder 72 = .ok (.ireturn, 1) := by decide +kernel
theorem dX6_readOrder_0 : decode cX6_readOrder 0 = .ok (.iconst 0, 1) := by decide +kernel
theorem dX6_readOrder_1 : decode cX6_readOrder 1 = .ok (.istore_n 1, 1) := by decide +kernel
theorem dX6_readOrder_2 : decode cX6_readOrder 2 = .ok (.iload_n 1, 1) := by decide +kernel
theorem dX6_readOrder_3 : decode cX6_readOrder 3 = .ok (.aload_n 0, 1) := by decide +kernel
theorem dX6_readOrder_4 : decode cX6_readOrder 4 = .ok (.getfield 42, 3) := by decide +kernel
theorem dX6_readOrder_7 : decode cX6_readOrder 7 = .ok (.getfield 213, 3) := by decide +kernel
theorem dX6_readOrder_10 : decode cX6_readOrder 10 = .ok (.if_icmp .ge 38, 3) := by decide +kernel
theorem dX6_readOrder_13 : decode cX6_readOrder 13 = .ok (.aload_n 0, 1) := by decide +kernel
theorem dX6_readOrder_14 : decode cX6_readOrder 14 = .ok (.getfield 10, 3) := by decide +kernel
theorem dX6_readOrder_17 : decode cX6_readOrder 17 = .ok (.getfield 246, 3) := by decide +kernel
theorem dX6_readOrder_20 : decode cX6_readOrder 20 = .ok (.iload_n 1, 1) := by decide +kernel
theorem dX6_readOrder_21 : decode cX6_readOrder 21 = .ok (.iconst 1, 1) := by decide +kernel
theorem dX6_readOrder_22 : decode cX6_readOrder 22 = .ok (.iadd, 1) := by decide +kernel
theorem dX6_readOrder_23 : decode cX6_readOrder 23 = .ok (.ldc 244, 2) := by decide +kernel
theorem dX6_readOrder_25 : decode cX6_readOrder 25 = .ok (.aload_n 0, 1) := by decide +kernel
theorem dX6_readOrder_26 : decode cX6_readOrder 26 = .ok (.getfield 42, 3) := by decide +kernel
theorem dX6_readOrder_29 : decode cX6_readOrder 29 = .ok (.iload_n 1, 1) := by decide +kernel
theorem dX6_readOrder_30 : decode cX6_readOrder 30 = .ok (.invokevirtual 227, 3) := by decide +kernel
theorem dX6_readOrder_33 : decode cX6_readOrder 33 = .ok (.i2c, 1) := by decide +kernel
theorem dX6_readOrder_34 : decode cX6_readOrder 34 = .ok (.invokevirtual 230, 3) := by decide +kernel
theorem dX6_readOrder_37 : decode cX6_readOrder 37 = .ok (.iconst 1, 1) := by decide +kernel
theorem dX6_readOrder_38 : decode cX6_readOrder 38 = .ok (.iadd, 1) := by decide +kernel
theorem dX6_readOrder_39 : decode cX6_readOrder 39 = .ok (.invokevirtual 91, 3) := by decide +kernel
theorem dX6_readOrder_42 : decode cX6_readOrder 42 = .ok (.iinc 1 1, 3) := by decide +kernel
theorem dX6_readOrder_45 : decode cX6_readOrder 45 = .ok (.goto (-43), 3) := by decide +kernel
theorem dX6_readOrder_48 : decode cX6_readOrder 48 = .ok (.aload_n 0, 1) := by decide +kernel
theorem dX6_readOrder_49 : decode cX6_readOrder 49 = .ok (.getfield 10, 3) := by decide +kernel
theorem dX6_readOrder_52 : decode cX6_readOrder 52 = .ok (.aload_n 0, 1) := by decide +kernel
theorem dX6_readOrder_53 : decode cX6_readOrder 53 = .ok (.getfield 42, 3) := by decide +kernel
theorem dX6_readOrder_56 : decode cX6_readOrder 56 = .ok (.getfield 213, 3) := by decide +kernel
theorem dX6_readOrder_59 : decode cX6_readOrder 59 = .ok (.iconst 1, 1) := by decide +kernel
theorem dX6_readOrder_60 : decode cX6_readOrder 60 = .ok (.iadd, 1) := by decide +kernel
theorem dX6_readOrder_61 : decode cX6_readOrder 61 = .ok (.putfield 241, 3) := by decide +kernel
theorem dX6_readOrder_64 : decode cX6_readOrder 64 = .ok (.return_, 1) := by decide +kernel
theorem dX6_ordered_0 : decode cX6_ordered 0 = .ok (.iload_n 1, 1) := by decide +kernel
theorem dX6_ordered_1 : decode cX6_ordered 1 = .ok (.ifCond .ge 5, 3) := by decide +kernel
theorem dX6_ordered_4 : decode cX6_ordered 4 = .ok (.iconst (-1), 1) := by decide +kernel
theorem dX6_ordered_5 : decode cX6_ordered 5 = .ok (.ireturn, 1) := by decide +kernel
theorem dX6_ordered_6 : decode cX6_ordered 6 = .ok (.iload_n 1, 1) := by decide +kernel
theorem dX6_ordered_7 : decode cX6_ordered 7 = .ok (.aload_n 0, 1) := by decide +kernel
theorem dX6_ordered_8 : decode cX6_ordered 8 = .ok (.getfield 10, 3) := by decide +kernel
theorem dX6_ordered_11 : decode cX6_ordered 11 = .ok (.getfield 241, 3) := by decide +kernel
theorem dX6_ordered_14 : decode cX6_ordered 14 = .ok (.if_icmp .ge 17, 3) := by decide +kernel
theorem dX6_ordered_17 : decode cX6_ordered 17 = .ok (.aload_n 0, 1) := by decide +kernel
theorem dX6_ordered_18 : decode cX6_ordered 18 = .ok (.getfield 10, 3) := by decide +kernel
theorem dX6_ordered_21 : decode cX6_ordered 21 = .ok (.getfield 246, 3) := by decide +kernel
theorem dX6_ordered_24 : decode cX6_ordered 24 = .ok (.iload_n 1, 1) := by decide +kernel
theorem dX6_ordered_25 : decode cX6_ordered 25 = .ok (.invokevirtual 86, 3) := by decide +kernel
theorem dX6_ordered_28 : decode cX6_ordered 28 = .ok (.goto 5, 3) := by decide +kernel
theorem dX6_ordered_31 : decode cX6_ordered 31 = .ok (.bipush (-5), 2) := by decide +kernel
theorem dX6_ordered_33 : decode cX6_ordered 33 = .ok (.ireturn, 1) := by decide +kernel
theorem dX6_line_0 : decode cX6_line 0 = .ok (.aload_n 0, 1) := by decide +kernel
theorem dX6_line_1 : decode cX6_line 1 = .ok (.iload_n 1, 1) := by decide +kernel
theorem dX6_line_2 : decode cX6_line 2 = .ok (.invokevirtual 79, 3) := by decide +kernel
theorem dX6_line_5 : decode cX6_line 5 = .ok (.ifCond .ne 5, 3) := by decide +kernel
theorem dX6_line_8 : decode cX6_line 8 = .ok (.iconst (-1), 1) := by decide +kernel
theorem dX6_line_9 : decode cX6_line 9 = .ok (.ireturn, 1) := by decide +kernel
theorem dX6_line_10 : decode cX6_line 10 = .ok (.aload_n 0, 1) := by decide +kernel
theorem dX6_line_11 : decode cX6_line 11 = .ok (.getfield 46, 3) := by decide +kernel
theorem dX6_line_14 : decode cX6_line 14 = .ok (.iconst 0, 1) := by decide +kernel
theorem dX6_line_15 : decode cX6_line 15 = .ok (.putfield 213, 3) := by decide +kernel
theorem dX6_line_18 : decode cX6_line 18 = .ok (.aload_n 0, 1) := by decide +kernel
theorem dX6_line_19 : decode cX6_line 19 = .ok (.getfield 46, 3) := by decide +kernel
theorem dX6_line_22 : decode cX6_line 22 = .ok (.iload_n 1, 1) := by decide +kernel
theorem dX6_line_23 : decode cX6_line 23 = .ok (.invokevirtual 249, 3) := by decide +kernel
theorem dX6_line_26 : decode cX6_line 26 = .ok (.aload_n 0, 1) := by decide +kernel
theorem dX6_line_27 : decode cX6_line 27 = .ok (.getfield 46, 3) := by decide +kernel
theorem dX6_line_30 : decode cX6_line 30 = .ok (.bipush 32, 2) := by decide +kernel
theorem dX6_line_32 : decode cX6_line 32 = .ok (.invokevirtual 216, 3) := by decide +kernel
theorem dX6_line_35 : decode cX6_line 35 = .ok (.aload_n 0, 1) := by decide +kernel
theorem dX6_line_36 : decode cX6_line 36 = .ok (.aload_n 0, 1) := by decide +kernel
theorem dX6_line_37 : decode cX6_line 37 = .ok (.getfield 24, 3) := by decide +kernel
theorem dX6_line_40 : decode cX6_line 40 = .ok (.iload_n 1, 1) := by decide +kernel
theorem dX6_line_41 : decode cX6_line 41 = .ok (.iconst 0, 1) := by decide +kernel
theorem dX6_line_42 : decode cX6_line 42 = .ok (.invokevirtual 102, 3) := by decide +kernel
theorem dX6_line_45 : decode cX6_line 45 = .ok (.invokevirtual 252, 3) := by decide +kernel
theorem dX6_line_48 : decode cX6_line 48 = .ok (.iconst 0, 1) := by decide +kernel
theorem dX6_line_49 : decode cX6_line 49 = .ok (.istore_n 2, 1) := by decide +kernel
theorem dX6_line_50 : decode cX6_line 50 = .ok (.iload_n 2, 1) := by decide +kernel
theorem dX6_line_51 : decode cX6_line 51 = .ok (.aload_n 0, 1) := by decide +kernel
theorem dX6_line_52 : decode cX6_line 52 = .ok (.getfield 10, 3) := by decide +kernel
theorem dX6_line_55 : decode cX6_line 55 = .ok (.invokevirtual 195, 3) := by decide +kernel
theorem dX6_line_58 : decode cX6_line 58 = .ok (.if_icmp .ge 24, 3) := by decide +kernel
theorem dX6_line_61 : decode cX6_line 61 = .ok (.aload_n 0, 1) := by decide +kernel
theorem dX6_line_62 : decode cX6_line 62 = .ok (.getfield 46, 3) := by decide +kernel
theorem dX6_line_65 : decode cX6_line 65 = .ok (.bipush 32, 2) := by decide +kernel
theorem dX6_line_67 : decode cX6_line 67 = .ok (.invokevirtual 216, 3) := by decide +kernel
theorem dX6_line_70 : decode cX6_line 70 = .ok (.aload_n 0, 1) := by decide +kernel
theorem dX6_line_71 : decode cX6_line 71 = .ok (.iload_n 1, 1) := by decide +kernel
theorem dX6_line_72 : decode cX6_line 72 = .ok (.iload_n 2, 1) := by decide +kernel
theorem dX6_line_73 : decode cX6_line 73 = .ok (.invokevirtual 255, 3) := by decide +kernel
theorem dX6_line_76 : decode cX6_line 76 = .ok (.iinc 2 1, 3) := by decide +kernel
theorem dX6_line_79 : decode cX6_line 79 = .ok (.goto (-29), 3) := by decide +kernel
theorem dX6_line_82 : decode cX6_line 82 = .ok (.aload_n 0, 1) := by decide +kernel
theorem dX6_line_83 : decode cX6_line 83 = .ok (.getfield 46, 3) := by decide +kernel
theorem dX6_line_86 : decode cX6_line 86 = .ok (.getfield 213, 3) := by decide +kernel
theorem dX6_line_89 : decode cX6_line 89 = .ok (.ireturn, 1) := by decide +kernel
theorem dX6_writeHalved_0 : decode cX6_writeHalved 0 = .ok (.aload_n 0, 1) := by decide +kernel
theorem dX6_writeHalved_1 : decode cX6_writeHalved 1 = .ok (.getfield 46, 3) := by decide +kernel
theorem dX6_writeHalved_4 : decode cX6_writeHalved 4 = .ok (.iload_n 1, 1) := by decide +kernel
theorem dX6_writeHalved_5 : decode cX6_writeHalved 5 = .ok (.iconst 2, 1) := by decide +kernel
theorem dX6_writeHalved_6 : decode cX6_writeHalved 6 = .ok (.idiv, 1) := by decide +kernel
theorem dX6_writeHalved_7 : decode cX6_writeHalved 7 = .ok (.invokevirtual 249, 3) := by decide +kernel
theorem dX6_writeHalved_10 : decode cX6_writeHalved 10 = .ok (.iload_n 1, 1) := by decide +kernel
theorem dX6_writeHalved_11 : decode cX6_writeHalved 11 = .ok (.iconst 2, 1) := by decide +kernel
theorem dX6_writeHalved_12 : decode cX6_writeHalved 12 = .ok (.irem, 1) := by decide +kernel
theorem dX6_writeHalved_13 : decode cX6_writeHalved 13 = .ok (.ifCond .eq 21, 3) := by decide +kernel
theorem dX6_writeHalved_16 : decode cX6_writeHalved 16 = .ok (.aload_n 0, 1) := by decide +kernel
theorem dX6_writeHalved_17 : decode cX6_writeHalved 17 = .ok (.getfield 46, 3) := by decide +kernel
theorem dX6_writeHalved_20 : decode cX6_writeHalved 20 = .ok (.bipush 46, 2) := by decide +kernel
theorem dX6_writeHalved_22 : decode cX6_writeHalved 22 = .ok (.invokevirtual 216, 3) := by decide +kernel
theorem dX6_writeHalved_25 : decode cX6_writeHalved 25 = .ok (.aload_n 0, 1) := by decide +kernel
theorem dX6_writeHalved_26 : decode cX6_writeHalved 26 = .ok (.getfield 46, 3) := by decide +kernel
theorem dX6_writeHalved_29 : decode cX6_writeHalved 29 = .ok (.bipush 53, 2) := by decide +kernel
theorem dX6_writeHalved_31 : decode cX6_writeHalved 31 = .ok (.invokevirtual 216, 3) := by decide +kernel
theorem dX6_writeHalved_34 : decode cX6_writeHalved 34 = .ok (.return_, 1) := by decide +kernel
theorem dX6_writeRound_0 : decode cX6_writeRound 0 = .ok (.aload_n 0, 1) := by decide +kernel
theorem dX6_writeRound_1 : decode cX6_writeRound 1 = .ok (.getfield 10, 3) := by decide +kernel
theorem dX6_writeRound_4 : decode cX6_writeRound 4 = .ok (.iload_n 2, 1) := by decide +kernel
theorem dX6_writeRound_5 : decode cX6_writeRound 5 = .ok (.iload_n 1, 1) := by decide +kernel
theorem dX6_writeRound_6 : decode cX6_writeRound 6 = .ok (.invokevirtual 185, 3) := by decide +kernel
theorem dX6_writeRound_9 : decode cX6_writeRound 9 = .ok (.istore_n 3, 1) := by decide +kernel
theorem dX6_writeRound_10 : decode cX6_writeRound 10 = .ok (.iload_n 3, 1) := by decide +kernel
theorem dX6_writeRound_11 : decode cX6_writeRound 11 = .ok (.ifCond .ge 33, 3) := by decide +kernel
theorem dX6_writeRound_14 : decode cX6_writeRound 14 = .ok (.aload_n 0, 1) := by decide +kernel
theorem dX6_writeRound_15 : decode cX6_writeRound 15 = .ok (.getfield 46, 3) := by decide +kernel
theorem dX6_writeRound_18 : decode cX6_writeRound 18 = .ok (.aload_n 0, 1) := by decide +kernel
theorem dX6_writeRound_19 : decode cX6_writeRound 19 = .ok (.getfield 10, 3) := by decide +kernel
theorem dX6_writeRound_22 : decode cX6_writeRound 22 = .ok (.getfield 181, 3) := by decide +kernel
theorem dX6_writeRound_25 : decode cX6_writeRound 25 = .ok (.iload_n 2, 1) := by decide +kernel
theorem dX6_writeRound_26 : decode cX6_writeRound 26 = .ok (.invokevirtual 86, 3) := by decide +kernel
theorem dX6_writeRound_29 : decode cX6_writeRound 29 = .ok (.iload_n 1, 1) := by decide +kernel
theorem dX6_writeRound_30 : decode cX6_writeRound 30 = .ok (.if_icmp .ne 8, 3) := by decide +kernel
theorem dX6_writeRound_33 : decode cX6_writeRound 33 = .ok (.bipush 66, 2) := by decide +kernel
theorem dX6_writeRound_35 : decode cX6_writeRound 35 = .ok (.goto 5, 3) := by decide +kernel
theorem dX6_writeRound_38 : decode cX6_writeRound 38 = .ok (.bipush 122, 2) := by decide +kernel
theorem dX6_writeRound_40 : decode cX6_writeRound 40 = .ok (.invokevirtual 216, 3) := by decide +kernel
theorem dX6_writeRound_43 : decode cX6_writeRound 43 = .ok (.return_, 1) := by decide +kernel
theorem dX6_writeRound_44 : decode cX6_writeRound 44 = .ok (.aload_n 0, 1) := by decide +kernel
theorem dX6_writeRound_45 : decode cX6_writeRound 45 = .ok (.getfield 46, 3) := by decide +kernel
theorem dX6_writeRound_48 : decode cX6_writeRound 48 = .ok (.aload_n 0, 1) := by decide +kernel
theorem dX6_writeRound_49 : decode cX6_writeRound 49 = .ok (.getfield 10, 3) := by decide +kernel
theorem dX6_writeRound_52 : decode cX6_writeRound 52 = .ok (.iload_n 2, 1) := by decide +kernel
theorem dX6_writeRound_53 : decode cX6_writeRound 53 = .ok (.iload_n 3, 1) := by decide +kernel
theorem dX6_writeRound_54 : decode cX6_writeRound 54 = .ok (.iload_n 1, 1) := by decide +kernel
theorem dX6_writeRound_55 : decode cX6_writeRound 55 = .ok (.invokevirtual 188, 3) := by decide +kernel
theorem dX6_writeRound_58 : decode cX6_writeRound 58 = .ok (.invokevirtual 249, 3) := by decide +kernel
theorem dX6_writeRound_61 : decode cX6_writeRound 61 = .ok (.aload_n 0, 1) := by decide +kernel
theorem dX6_writeRound_62 : decode cX6_writeRound 62 = .ok (.getfield 46, 3) := by decide +kernel
theorem dX6_writeRound_65 : decode cX6_writeRound 65 = .ok (.aload_n 0, 1) := by decide +kernel
theorem dX6_writeRound_66 : decode cX6_writeRound 66 = .ok (.getfield 10, 3) := by decide +kernel
theorem dX6_writeRound_69 : decode cX6_writeRound 69 = .ok (.iload_n 2, 1) := by decide +kernel
theorem dX6_writeRound_70 : decode cX6_writeRound 70 = .ok (.iload_n 3, 1) := by decide +kernel
theorem dX6_writeRound_71 : decode cX6_writeRound 71 = .ok (.iload_n 1, 1) := by decide +kernel
theorem dX6_writeRound_72 : decode cX6_writeRound 72 = .ok (.invokevirtual 201, 3) := by decide +kernel
theorem dX6_writeRound_75 : decode cX6_writeRound 75 = .ok (.invokestatic 258, 3) := by decide +kernel
theorem dX6_writeRound_78 : decode cX6_writeRound 78 = .ok (.invokevirtual 216, 3) := by decide +kernel
theorem dX6_writeRound_81 : decode cX6_writeRound 81 = .ok (.return_, 1) := by decide +kernel
theorem dX6_markFor_0 : decode cX6_markFor 0 = .ok (.iload_n 0, 1) := by decide +kernel
theorem dX6_markFor_1 : decode cX6_markFor 1 = .ok (.tableswitch 43 1 4 #[31, 34, 37, 40], 31) := by decide +kernel
theorem dX6_markFor_32 : decode cX6_markFor 32 = .ok (.bipush 49, 2) := by decide +kernel
theorem dX6_markFor_34 : decode cX6_markFor 34 = .ok (.ireturn, 1) := by decide +kernel
theorem dX6_markFor_35 : decode cX6_markFor 35 = .ok (.bipush 61, 2) := by decide +kernel
theorem dX6_markFor_37 : decode cX6_markFor 37 = .ok (.ireturn, 1) := by decide +kernel
theorem dX6_markFor_38 : decode cX6_markFor 38 = .ok (.bipush 48, 2) := by decide +kernel
theorem dX6_markFor_40 : decode cX6_markFor 40 = .ok (.ireturn, 1) := by decide +kernel
theorem dX6_markFor_41 : decode cX6_markFor 41 = .ok (.bipush 43, 2) := by decide +kernel
theorem dX6_markFor_43 : decode cX6_markFor 43 = .ok (.ireturn, 1) := by decide +kernel
theorem dX6_markFor_44 : decode cX6_markFor 44 = .ok (.bipush 45, 2) := by decide +kernel
theorem dX6_markFor_46 : decode cX6_markFor 46 = .ok (.ireturn, 1) := by decide +kernel
theorem dX6_paper_0 : decode cX6_paper 0 = .ok (.iload_n 1, 1) := by decide +kernel
theorem dX6_paper_1 : decode cX6_paper 1 = .ok (.ifCond .lt 25, 3) := by decide +kernel
theorem dX6_paper_4 : decode cX6_paper 4 = .ok (.iload_n 1, 1) := by decide +kernel
theorem dX6_paper_5 : decode cX6_paper 5 = .ok (.aload_n 0, 1) := by decide +kernel
theorem dX6_paper_6 : decode cX6_paper 6 = .ok (.getfield 46, 3) := by decide +kernel
theorem dX6_paper_9 : decode cX6_paper 9 = .ok (.getfield 213, 3) := by decide +kernel
theorem dX6_paper_12 : decode cX6_paper 12 = .ok (.if_icmp .ge 14, 3) := by decide +kernel
theorem dX6_paper_15 : decode cX6_paper 15 = .ok (.aload_n 0, 1) := by decide +kernel
theorem dX6_paper_16 : decode cX6_paper 16 = .ok (.getfield 46, 3) := by decide +kernel
theorem dX6_paper_19 : decode cX6_paper 19 = .ok (.iload_n 1, 1) := by decide +kernel
theorem dX6_paper_20 : decode cX6_paper 20 = .ok (.invokevirtual 227, 3) := by decide +kernel
theorem dX6_paper_23 : decode cX6_paper 23 = .ok (.goto 4, 3) := by decide +kernel
theorem dX6_paper_26 : decode cX6_paper 26 = .ok (.iconst (-1), 1) := by decide +kernel
theorem dX6_paper_27 : decode cX6_paper 27 = .ok (.ireturn, 1) := by decide +kernel
theorem dX6_told_0 : decode cX6_told 0 = .ok (.iload_n 1, 1) := by decide +kernel
theorem dX6_told_1 : decode cX6_told 1 = .ok (.tableswitch 150 0 8 #[51, 59, 67, 75, 83, 118, 126, 134, 142], 51) := by decide +kernel
theorem dX6_told_52 : decode cX6_told 52 = .ok (.aload_n 0, 1) := by decide +kernel
theorem dX6_told_53 : decode cX6_told 53 = .ok (.getfield 10, 3) := by decide +kernel
theorem dX6_told_56 : decode cX6_told 56 = .ok (.getfield 64, 3) := by decide +kernel
theorem dX6_told_59 : decode cX6_told 59 = .ok (.ireturn, 1) := by decide +kernel
theorem dX6_told_60 : decode cX6_told 60 = .ok (.aload_n 0, 1) := by decide +kernel
theorem dX6_told_61 : decode cX6_told 61 = .ok (.getfield 10, 3) := by decide +kernel
theorem dX6_told_64 : decode cX6_told 64 = .ok (.invokevirtual 95, 3) := by decide +kernel
theorem dX6_told_67 : decode cX6_told 67 = .ok (.ireturn, 1) := by decide +kernel
theorem dX6_told_68 : decode cX6_told 68 = .ok (.aload_n 0, 1) := by decide +kernel
theorem dX6_told_69 : decode cX6_told 69 = .ok (.getfield 10, 3) := by decide +kernel
theorem dX6_told_72 : decode cX6_told 72 = .ok (.getfield 148, 3) := by decide +kernel
theorem dX6_told_75 : decode cX6_told 75 = .ok (.ireturn, 1) := by decide +kernel
theorem dX6_told_76 : decode cX6_told 76 = .ok (.aload_n 0, 1) := by decide +kernel
theorem dX6_told_77 : decode cX6_told 77 = .ok (.getfield 10, 3) := by decide +kernel
theorem dX6_told_80 : decode cX6_told 80 = .ok (.invokevirtual 195, 3) := by decide +kernel
theorem dX6_told_83 : decode cX6_told 83 = .ok (.ireturn, 1) := by decide +kernel
theorem dX6_told_84 : decode cX6_told 84 = .ok (.aload_n 0, 1) := by decide +kernel
theorem dX6_told_85 : decode cX6_told 85 = .ok (.getfield 10, 3) := by decide +kernel
theorem dX6_told_88 : decode cX6_told 88 = .ok (.getfield 60, 3) := by decide +kernel
theorem dX6_told_91 : decode cX6_told 91 = .ok (.ifCond .eq 25, 3) := by decide +kernel
theorem dX6_told_94 : decode cX6_told 94 = .ok (.aload_n 0, 1) := by decide +kernel
theorem dX6_told_95 : decode cX6_told 95 = .ok (.getfield 10, 3) := by decide +kernel
theorem dX6_told_98 : decode cX6_told 98 = .ok (.getfield 160, 3) := by decide +kernel
theorem dX6_told_101 : decode cX6_told 101 = .ok (.aload_n 0, 1) := by decide +kernel
theorem dX6_told_102 : decode cX6_told 102 = .ok (.getfield 10, 3) := by decide +kernel
theorem dX6_told_105 : decode cX6_told 105 = .ok (.getfield 148, 3) := by decide +kernel
theorem dX6_told_108 : decode cX6_told 108 = .ok (.iconst 1, 1) := by decide +kernel
theorem dX6_told_109 : decode cX6_told 109 = .ok (.isub, 1) := by decide +kernel
theorem dX6_told_110 : decode cX6_told 110 = .ok (.invokevirtual 86, 3) := by decide +kernel
theorem dX6_told_113 : decode cX6_told 113 = .ok (.goto 5, 3) := by decide +kernel
theorem dX6_told_116 : decode cX6_told 116 = .ok (.bipush (-5), 2) := by decide +kernel
theorem dX6_told_118 : decode cX6_told 118 = .ok (.ireturn, 1) := by decide +kernel
theorem dX6_told_119 : decode cX6_told 119 = .ok (.aload_n 0, 1) := by decide +kernel
theorem dX6_told_120 : decode cX6_told 120 = .ok (.getfield 42, 3) := by decide +kernel
theorem dX6_told_123 : decode cX6_told 123 = .ok (.getfield 213, 3) := by decide +kernel
theorem dX6_told_126 : decode cX6_told 126 = .ok (.ireturn, 1) := by decide +kernel
theorem dX6_told_127 : decode cX6_told 127 = .ok (.aload_n 0, 1) := by decide +kernel
theorem dX6_told_128 : decode cX6_told 128 = .ok (.getfield 46, 3) := by decide +kernel
theorem dX6_told_131 : decode cX6_told 131 = .ok (.getfield 213, 3) := by decide +kernel
theorem dX6_told_134 : decode cX6_told 134 = .ok (.ireturn, 1) := by decide +kernel
theorem dX6_told_135 : decode cX6_told 135 = .ok (.aload_n 0, 1) := by decide +kernel
theorem dX6_told_136 : decode cX6_told 136 = .ok (.getfield 24, 3) := by decide +kernel
theorem dX6_told_139 : decode cX6_told 139 = .ok (.invokevirtual 262, 3) := by decide +kernel
theorem dX6_told_142 : decode cX6_told 142 = .ok (.ireturn, 1) := by decide +kernel
theorem dX6_told_143 : decode cX6_told 143 = .ok (.aload_n 0, 1) := by decide +kernel
theorem dX6_told_144 : decode cX6_told 144 = .ok (.getfield 24, 3) := by decide +kernel
theorem dX6_told_147 : decode cX6_told 147 = .ok (.invokevirtual 265, 3) := by decide +kernel
theorem dX6_told_150 : decode cX6_told 150 = .ok (.ireturn, 1) := by decide +kernel
theorem dX6_told_151 : decode cX6_told 151 = .ok (.iconst (-1), 1) := by decide +kernel
theorem dX6_told_152 : decode cX6_told 152 = .ok (.ireturn, 1) := by decide +kernel
theorem dX6_list_0 : decode cX6_list 0 = .ok (.iload_n 1, 1) := by decide +kernel
theorem dX6_list_1 : decode cX6_list 1 = .ok (.invokestatic 268, 3) := by decide +kernel
theorem dX6_list_4 : decode cX6_list 4 = .ok (.ifCond .ne 5, 3) := by decide +kernel
theorem dX6_list_7 : decode cX6_list 7 = .ok (.iconst (-1), 1) := by decide +kernel
theorem dX6_list_8 : decode cX6_list 8 = .ok (.ireturn, 1) := by decide +kernel
theorem dX6_list_9 : decode cX6_list 9 = .ok (.iload_n 2, 1) := by decide +kernel
theorem dX6_list_10 : decode cX6_list 10 = .ok (.bipush 20, 2) := by decide +kernel
theorem dX6_list_12 : decode cX6_list 12 = .ok (.if_icmp .le 6, 3) := by decide +kernel
theorem dX6_list_15 : decode cX6_list 15 = .ok (.bipush (-2), 2) := by decide +kernel
theorem dX6_list_17 : decode cX6_list 17 = .ok (.ireturn, 1) := by decide +kernel
theorem dX6_list_18 : decode cX6_list 18 = .ok (.iload_n 2, 1) := by decide +kernel
theorem dX6_list_19 : decode cX6_list 19 = .ok (.ifCond .ge 6, 3) := by decide +kernel
theorem dX6_list_22 : decode cX6_list 22 = .ok (.bipush (-14), 2) := by decide +kernel
theorem dX6_list_24 : decode cX6_list 24 = .ok (.ireturn, 1) := by decide +kernel
theorem dX6_list_25 : decode cX6_list 25 = .ok (.aload_n 0, 1) := by decide +kernel
theorem dX6_list_26 : decode cX6_list 26 = .ok (.getfield 52, 3) := by decide +kernel
theorem dX6_list_29 : decode cX6_list 29 = .ok (.iload_n 1, 1) := by decide +kernel
theorem dX6_list_30 : decode cX6_list 30 = .ok (.iload_n 2, 1) := by decide +kernel
theorem dX6_list_31 : decode cX6_list 31 = .ok (.invokevirtual 271, 3) := by decide +kernel
theorem dX6_list_34 : decode cX6_list 34 = .ok (.iconst 1, 1) := by decide +kernel
theorem dX6_list_35 : decode cX6_list 35 = .ok (.ireturn, 1) := by decide +kernel
theorem dX6_set_0 : decode cX6_set 0 = .ok (.aload_n 0, 1) := by decide +kernel
theorem dX6_set_1 : decode cX6_set 1 = .ok (.iload_n 1, 1) := by decide +kernel
theorem dX6_set_2 : decode cX6_set 2 = .ok (.invokevirtual 274, 3) := by decide +kernel
theorem dX6_set_5 : decode cX6_set 5 = .ok (.istore 4, 2) := by decide +kernel
theorem dX6_set_7 : decode cX6_set 7 = .ok (.iload 4, 2) := by decide +kernel
theorem dX6_set_9 : decode cX6_set 9 = .ok (.ifCond .eq 6, 3) := by decide +kernel
theorem dX6_set_12 : decode cX6_set 12 = .ok (.iload 4, 2) := by decide +kernel
theorem dX6_set_14 : decode cX6_set 14 = .ok (.ireturn, 1) := by decide +kernel
theorem dX6_set_15 : decode cX6_set 15 = .ok (.aload_n 0, 1) := by decide +kernel
theorem dX6_set_16 : decode cX6_set 16 = .ok (.getfield 52, 3) := by decide +kernel
theorem dX6_set_19 : decode cX6_set 19 = .ok (.iload_n 1, 1) := by decide +kernel
theorem dX6_set_20 : decode cX6_set 20 = .ok (.iload_n 2, 1) := by decide +kernel
theorem dX6_set_21 : decode cX6_set 21 = .ok (.invokevirtual 277, 3) := by decide +kernel
theorem dX6_set_24 : decode cX6_set 24 = .ok (.ifCond .ne 6, 3) := by decide +kernel
theorem dX6_set_27 : decode cX6_set 27 = .ok (.bipush (-13), 2) := by decide +kernel
theorem dX6_set_29 : decode cX6_set 29 = .ok (.ireturn, 1) := by decide +kernel
theorem dX6_set_30 : decode cX6_set 30 = .ok (.aload_n 0, 1) := by decide +kernel
theorem dX6_set_31 : decode cX6_set 31 = .ok (.getfield 52, 3) := by decide +kernel
theorem dX6_set_34 : decode cX6_set 34 = .ok (.iload_n 1, 1) := by decide +kernel
theorem dX6_set_35 : decode cX6_set 35 = .ok (.iload_n 2, 1) := by decide +kernel
theorem dX6_set_36 : decode cX6_set 36 = .ok (.iload_n 3, 1) := by decide +kernel
theorem dX6_set_37 : decode cX6_set 37 = .ok (.invokevirtual 280, 3) := by decide +kernel
theorem dX6_set_40 : decode cX6_set 40 = .ok (.iconst 1, 1) := by decide +kernel
theorem dX6_set_41 : decode cX6_set 41 = .ok (.ireturn, 1) := by decide +kernel
theorem dX6_get_0 : decode cX6_get 0 = .ok (.aload_n 0, 1) := by decide +kernel
theorem dX6_get_1 : decode cX6_get 1 = .ok (.iload_n 1, 1) := by decide +kernel
theorem dX6_get_2 : decode cX6_get 2 = .ok (.invokevirtual 274, 3) := by decide +kernel
theorem dX6_get_5 : decode cX6_get 5 = .ok (.ifCond .ne 15, 3) := by decide +kernel
theorem dX6_get_8 : decode cX6_get 8 = .ok (.aload_n 0, 1) := by decide +kernel
theorem dX6_get_9 : decode cX6_get 9 = .ok (.getfield 52, 3) := by decide +kernel
theorem dX6_get_12 : decode cX6_get 12 = .ok (.iload_n 1, 1) := by decide +kernel
theorem dX6_get_13 : decode cX6_get 13 = .ok (.iload_n 2, 1) := by decide +kernel
theorem dX6_get_14 : decode cX6_get 14 = .ok (.invokevirtual 277, 3) := by decide +kernel
theorem dX6_get_17 : decode cX6_get 17 = .ok (.ifCond .ne 7, 3) := by decide +kernel
theorem dX6_get_20 : decode cX6_get 20 = .ok (.ldc_w 284, 3) := by decide +kernel
theorem dX6_get_23 : decode cX6_get 23 = .ok (.ireturn, 1) := by decide +kernel
theorem dX6_get_24 : decode cX6_get 24 = .ok (.aload_n 0, 1) := by decide +kernel
theorem dX6_get_25 : decode cX6_get 25 = .ok (.getfield 52, 3) := by decide +kernel
theorem dX6_get_28 : decode cX6_get 28 = .ok (.iload_n 1, 1) := by decide +kernel
theorem dX6_get_29 : decode cX6_get 29 = .ok (.iload_n 2, 1) := by decide +kernel
theorem dX6_get_30 : decode cX6_get 30 = .ok (.invokevirtual 285, 3) := by decide +kernel
theorem dX6_get_33 : decode cX6_get 33 = .ok (.ireturn, 1) := by decide +kernel
theorem dX6_lay_0 : decode cX6_lay 0 = .ok (.aload_n 0, 1) := by decide +kernel
theorem dX6_lay_1 : decode cX6_lay 1 = .ok (.iload_n 1, 1) := by decide +kernel
theorem dX6_lay_2 : decode cX6_lay 2 = .ok (.invokevirtual 274, 3) := by decide +kernel
theorem dX6_lay_5 : decode cX6_lay 5 = .ok (.istore_n 3, 1) := by decide +kernel
theorem dX6_lay_6 : decode cX6_lay 6 = .ok (.iload_n 3, 1) := by decide +kernel
theorem dX6_lay_7 : decode cX6_lay 7 = .ok (.ifCond .eq 5, 3) := by decide +kernel
theorem dX6_lay_10 : decode cX6_lay 10 = .ok (.iload_n 3, 1) := by decide +kernel
theorem dX6_lay_11 : decode cX6_lay 11 = .ok (.ireturn, 1) := by decide +kernel
theorem dX6_lay_12 : decode cX6_lay 12 = .ok (.iconst 0, 1) := by decide +kernel
theorem dX6_lay_13 : decode cX6_lay 13 = .ok (.istore 4, 2) := by decide +kernel
theorem dX6_lay_15 : decode cX6_lay 15 = .ok (.iload 4, 2) := by decide +kernel
theorem dX6_lay_17 : decode cX6_lay 17 = .ok (.aload_n 0, 1) := by decide +kernel
theorem dX6_lay_18 : decode cX6_lay 18 = .ok (.getfield 10, 3) := by decide +kernel
theorem dX6_lay_21 : decode cX6_lay 21 = .ok (.getfield 64, 3) := by decide +kernel
theorem dX6_lay_24 : decode cX6_lay 24 = .ok (.if_icmp .ge 51, 3) := by decide +kernel
theorem dX6_lay_27 : decode cX6_lay 27 = .ok (.aload_n 0, 1) := by decide +kernel
theorem dX6_lay_28 : decode cX6_lay 28 = .ok (.getfield 52, 3) := by decide +kernel
theorem dX6_lay_31 : decode cX6_lay 31 = .ok (.iload_n 1, 1) := by decide +kernel
theorem dX6_lay_32 : decode cX6_lay 32 = .ok (.iload_n 2, 1) := by decide +kernel
theorem dX6_lay_33 : decode cX6_lay 33 = .ok (.iload 4, 2) := by decide +kernel
theorem dX6_lay_35 : decode cX6_lay 35 = .ok (.iadd, 1) := by decide +kernel
theorem dX6_lay_36 : decode cX6_lay 36 = .ok (.invokevirtual 277, 3) := by decide +kernel
theorem dX6_lay_39 : decode cX6_lay 39 = .ok (.ifCond .ne 6, 3) := by decide +kernel
theorem dX6_lay_42 : decode cX6_lay 42 = .ok (.bipush (-13), 2) := by decide +kernel
theorem dX6_lay_44 : decode cX6_lay 44 = .ok (.ireturn, 1) := by decide +kernel
theorem dX6_lay_45 : decode cX6_lay 45 = .ok (.aload_n 0, 1) := by decide +kernel
theorem dX6_lay_46 : decode cX6_lay 46 = .ok (.getfield 52, 3) := by decide +kernel
theorem dX6_lay_49 : decode cX6_lay 49 = .ok (.iload_n 1, 1) := by decide +kernel
theorem dX6_lay_50 : decode cX6_lay 50 = .ok (.iload_n 2, 1) := by decide +kernel
theorem dX6_lay_51 : decode cX6_lay 51 = .ok (.iload 4, 2) := by decide +kernel
theorem dX6_lay_53 : decode cX6_lay 53 = .ok (.iadd, 1) := by decide +kernel
theorem dX6_lay_54 : decode cX6_lay 54 = .ok (.aload_n 0, 1) := by decide +kernel
theorem dX6_lay_55 : decode cX6_lay 55 = .ok (.getfield 24, 3) := by decide +kernel
theorem dX6_lay_58 : decode cX6_lay 58 = .ok (.getfield 126, 3) := by decide +kernel
theorem dX6_lay_61 : decode cX6_lay 61 = .ok (.iload 4, 2) := by decide +kernel
theorem dX6_lay_63 : decode cX6_lay 63 = .ok (.invokevirtual 86, 3) := by decide +kernel
theorem dX6_lay_66 : decode cX6_lay 66 = .ok (.invokevirtual 280, 3) := by decide +kernel
theorem dX6_lay_69 : decode cX6_lay 69 = .ok (.iinc 4 1, 3) := by decide +kernel
theorem dX6_lay_72 : decode cX6_lay 72 = .ok (.goto (-57), 3) := by decide +kernel
theorem dX6_lay_75 : decode cX6_lay 75 = .ok (.aload_n 0, 1) := by decide +kernel
theorem dX6_lay_76 : decode cX6_lay 76 = .ok (.getfield 10, 3) := by decide +kernel
theorem dX6_lay_79 : decode cX6_lay 79 = .ok (.getfield 64, 3) := by decide +kernel
theorem dX6_lay_82 : decode cX6_lay 82 = .ok (.ireturn, 1) := by decide +kernel
theorem dX6_judge_0 : decode cX6_judge 0 = .ok (.aload_n 0, 1) := by decide +kernel
theorem dX6_judge_1 : decode cX6_judge 1 = .ok (.iload_n 1, 1) := by decide +kernel
theorem dX6_judge_2 : decode cX6_judge 2 = .ok (.invokevirtual 274, 3) := by decide +kernel
theorem dX6_judge_5 : decode cX6_judge 5 = .ok (.istore_n 3, 1) := by decide +kernel
theorem dX6_judge_6 : decode cX6_judge 6 = .ok (.iload_n 3, 1) := by decide +kernel
theorem dX6_judge_7 : decode cX6_judge 7 = .ok (.ifCond .eq 5, 3) := by decide +kernel
theorem dX6_judge_10 : decode cX6_judge 10 = .ok (.iload_n 3, 1) := by decide +kernel
theorem dX6_judge_11 : decode cX6_judge 11 = .ok (.ireturn, 1) := by decide +kernel
theorem dX6_judge_12 : decode cX6_judge 12 = .ok (.iconst 0, 1) := by decide +kernel
theorem dX6_judge_13 : decode cX6_judge 13 = .ok (.istore 4, 2) := by decide +kernel
theorem dX6_judge_15 : decode cX6_judge 15 = .ok (.iload 4, 2) := by decide +kernel
theorem dX6_judge_17 : decode cX6_judge 17 = .ok (.aload_n 0, 1) := by decide +kernel
theorem dX6_judge_18 : decode cX6_judge 18 = .ok (.getfield 10, 3) := by decide +kernel
theorem dX6_judge_21 : decode cX6_judge 21 = .ok (.getfield 64, 3) := by decide +kernel
theorem dX6_judge_24 : decode cX6_judge 24 = .ok (.if_icmp .ge 60, 3) := by decide +kernel
theorem dX6_judge_27 : decode cX6_judge 27 = .ok (.aload_n 0, 1) := by decide +kernel
theorem dX6_judge_28 : decode cX6_judge 28 = .ok (.getfield 52, 3) := by decide +kernel
theorem dX6_judge_31 : decode cX6_judge 31 = .ok (.iload_n 1, 1) := by decide +kernel
theorem dX6_judge_32 : decode cX6_judge 32 = .ok (.iload_n 2, 1) := by decide +kernel
theorem dX6_judge_33 : decode cX6_judge 33 = .ok (.iload 4, 2) := by decide +kernel
theorem dX6_judge_35 : decode cX6_judge 35 = .ok (.iadd, 1) := by decide +kernel
theorem dX6_judge_36 : decode cX6_judge 36 = .ok (.invokevirtual 277, 3) := by decide +kernel
theorem dX6_judge_39 : decode cX6_judge 39 = .ok (.ifCond .ne 9, 3) := by decide +kernel
theorem dX6_judge_42 : decode cX6_judge 42 = .ok (.bipush 100, 2) := by decide +kernel
theorem dX6_judge_44 : decode cX6_judge 44 = .ok (.iload 4, 2) := by decide +kernel
theorem dX6_judge_46 : decode cX6_judge 46 = .ok (.iadd, 1) := by decide +kernel
theorem dX6_judge_47 : decode cX6_judge 47 = .ok (.ireturn, 1) := by decide +kernel
theorem dX6_judge_48 : decode cX6_judge 48 = .ok (.aload_n 0, 1) := by decide +kernel
theorem dX6_judge_49 : decode cX6_judge 49 = .ok (.getfield 52, 3) := by decide +kernel
theorem dX6_judge_52 : decode cX6_judge 52 = .ok (.iload_n 1, 1) := by decide +kernel
theorem dX6_judge_53 : decode cX6_judge 53 = .ok (.iload_n 2, 1) := by decide +kernel
theorem dX6_judge_54 : decode cX6_judge 54 = .ok (.iload 4, 2) := by decide +kernel
theorem dX6_judge_56 : decode cX6_judge 56 = .ok (.iadd, 1) := by decide +kernel
theorem dX6_judge_57 : decode cX6_judge 57 = .ok (.invokevirtual 285, 3) := by decide +kernel
theorem dX6_judge_60 : decode cX6_judge 60 = .ok (.aload_n 0, 1) := by decide +kernel
theorem dX6_judge_61 : decode cX6_judge 61 = .ok (.getfield 24, 3) := by decide +kernel
theorem dX6_judge_64 : decode cX6_judge 64 = .ok (.getfield 126, 3) := by decide +kernel
theorem dX6_judge_67 : decode cX6_judge 67 = .ok (.iload 4, 2) := by decide +kernel
theorem dX6_judge_69 : decode cX6_judge 69 = .ok (.invokevirtual 86, 3) := by decide +kernel
theorem dX6_judge_72 : decode cX6_judge 72 = .ok (.if_icmp .eq 6, 3) := by decide +kernel
theorem dX6_judge_75 : decode cX6_judge 75 = .ok (.iload 4, 2) := by decide +kernel
theorem dX6_judge_77 : decode cX6_judge 77 = .ok (.ireturn, 1) := by decide +kernel
theorem dX6_judge_78 : decode cX6_judge 78 = .ok (.iinc 4 1, 3) := by decide +kernel
theorem dX6_judge_81 : decode cX6_judge 81 = .ok (.goto (-66), 3) := by decide +kernel
theorem dX6_judge_84 : decode cX6_judge 84 = .ok (.bipush (-5), 2) := by decide +kernel
theorem dX6_judge_86 : decode cX6_judge 86 = .ok (.ireturn, 1) := by decide +kernel
theorem dX6_refusalOfList_0 : decode cX6_refusalOfList 0 = .ok (.iload_n 1, 1) := by decide +kernel
theorem dX6_refusalOfList_1 : decode cX6_refusalOfList 1 = .ok (.invokestatic 268, 3) := by decide +kernel
theorem dX6_refusalOfList_4 : decode cX6_refusalOfList 4 = .ok (.ifCond .ne 5, 3) := by decide +kernel
theorem dX6_refusalOfList_7 : decode cX6_refusalOfList 7 = .ok (.iconst (-1), 1) := by decide +kernel
theorem dX6_refusalOfList_8 : decode cX6_refusalOfList 8 = .ok (.ireturn, 1) := by decide +kernel
theorem dX6_refusalOfList_9 : decode cX6_refusalOfList 9 = .ok (.aload_n 0, 1) := by decide +kernel
theorem dX6_refusalOfList_10 : decode cX6_refusalOfList 10 = .ok (.getfield 52, 3) := by decide +kernel
theorem dX6_refusalOfList_13 : decode cX6_refusalOfList 13 = .ok (.iload_n 1, 1) := by decide +kernel
theorem dX6_refusalOfList_14 : decode cX6_refusalOfList 14 = .ok (.invokevirtual 288, 3) := by decide +kernel
theorem dX6_refusalOfList_17 : decode cX6_refusalOfList 17 = .ok (.ifCond .eq 7, 3) := by decide +kernel
theorem dX6_refusalOfList_20 : decode cX6_refusalOfList 20 = .ok (.iconst 0, 1) := by decide +kernel
theorem dX6_refusalOfList_21 : decode cX6_refusalOfList 21 = .ok (.goto 5, 3) := by decide +kernel
theorem dX6_refusalOfList_24 : decode cX6_refusalOfList 24 = .ok (.bipush (-11), 2) := by decide +kernel
theorem dX6_refusalOfList_26 : decode cX6_refusalOfList 26 = .ok (.ireturn, 1) := by decide +kernel
theorem dX6_image_0 : decode cX6_image 0 = .ok (.aload_n 0, 1) := by decide +kernel
theorem dX6_image_1 : decode cX6_image 1 = .ok (.getfield 16, 3) := by decide +kernel
theorem dX6_image_4 : decode cX6_image 4 = .ok (.aload_n 0, 1) := by decide +kernel
theorem dX6_image_5 : decode cX6_image 5 = .ok (.getfield 10, 3) := by decide +kernel
theorem dX6_image_8 : decode cX6_image 8 = .ok (.invokevirtual 291, 3) := by decide +kernel
theorem dX6_image_11 : decode cX6_image 11 = .ok (.aload_n 0, 1) := by decide +kernel
theorem dX6_image_12 : decode cX6_image 12 = .ok (.iconst 1, 1) := by decide +kernel
theorem dX6_image_13 : decode cX6_image 13 = .ok (.putfield 294, 3) := by decide +kernel
theorem dX6_image_16 : decode cX6_image 16 = .ok (.aload_n 0, 1) := by decide +kernel
theorem dX6_image_17 : decode cX6_image 17 = .ok (.getfield 10, 3) := by decide +kernel
theorem dX6_image_20 : decode cX6_image 20 = .ok (.getfield 148, 3) := by decide +kernel
theorem dX6_image_23 : decode cX6_image 23 = .ok (.ireturn, 1) := by decide +kernel
theorem dX6_undo_0 : decode cX6_undo 0 = .ok (.aload_n 0, 1) := by decide +kernel
theorem dX6_undo_1 : decode cX6_undo 1 = .ok (.getfield 294, 3) := by decide +kernel
theorem dX6_undo_4 : decode cX6_undo 4 = .ok (.ifCond .ne 6, 3) := by decide +kernel
theorem dX6_undo_7 : decode cX6_undo 7 = .ok (.bipush (-3), 2) := by decide +kernel
theorem dX6_undo_9 : decode cX6_undo 9 = .ok (.ireturn, 1) := by decide +kernel
theorem dX6_undo_10 : decode cX6_undo 10 = .ok (.aload_n 0, 1) := by decide +kernel
theorem dX6_undo_11 : decode cX6_undo 11 = .ok (.getfield 10, 3) := by decide +kernel
theorem dX6_undo_14 : decode cX6_undo 14 = .ok (.aload_n 0, 1) := by decide +kernel
theorem dX6_undo_15 : decode cX6_undo 15 = .ok (.getfield 16, 3) := by decide +kernel
theorem dX6_undo_18 : decode cX6_undo 18 = .ok (.invokevirtual 291, 3) := by decide +kernel
theorem dX6_undo_21 : decode cX6_undo 21 = .ok (.aload_n 0, 1) := by decide +kernel
theorem dX6_undo_22 : decode cX6_undo 22 = .ok (.getfield 24, 3) := by decide +kernel
theorem dX6_undo_25 : decode cX6_undo 25 = .ok (.invokevirtual 72, 3) := by decide +kernel
theorem dX6_undo_28 : decode cX6_undo 28 = .ok (.aload_n 0, 1) := by decide +kernel
theorem dX6_undo_29 : decode cX6_undo 29 = .ok (.getfield 10, 3) := by decide +kernel
theorem dX6_undo_32 : decode cX6_undo 32 = .ok (.getfield 148, 3) := by decide +kernel
theorem dX6_undo_35 : decode cX6_undo 35 = .ok (.ireturn, 1) := by decide +kernel
theorem dX6_isRating_0 : decode cX6_isRating 0 = .ok (.iload_n 0, 1) := by decide +kernel
theorem dX6_isRating_1 : decode cX6_isRating 1 = .ok (.ifCond .lt 14, 3) := by decide +kernel
theorem dX6_isRating_4 : decode cX6_isRating 4 = .ok (.iload_n 0, 1) := by decide +kernel
theorem dX6_isRating_5 : decode cX6_isRating 5 = .ok (.sipush 3000, 3) := by decide +kernel
theorem dX6_isRating_8 : decode cX6_isRating 8 = .ok (.if_icmp .gt 7, 3) := by decide +kernel
theorem dX6_isRating_11 : decode cX6_isRating 11 = .ok (.iconst 1, 1) := by decide +kernel
theorem dX6_isRating_12 : decode cX6_isRating 12 = .ok (.goto 4, 3) := by decide +kernel
theorem dX6_isRating_15 : decode cX6_isRating 15 = .ok (.iconst 0, 1) := by decide +kernel
theorem dX6_isRating_16 : decode cX6_isRating 16 = .ok (.ireturn, 1) := by decide +kernel
theorem dX6_isPlayer_0 : decode cX6_isPlayer 0 = .ok (.iload_n 1, 1) := by decide +kernel
theorem dX6_isPlayer_1 : decode cX6_isPlayer 1 = .ok (.ifCond .lt 18, 3) := by decide +kernel
theorem dX6_isPlayer_4 : decode cX6_isPlayer 4 = .ok (.iload_n 1, 1) := by decide +kernel
theorem dX6_isPlayer_5 : decode cX6_isPlayer 5 = .ok (.aload_n 0, 1) := by decide +kernel
theorem dX6_isPlayer_6 : decode cX6_isPlayer 6 = .ok (.getfield 10, 3) := by decide +kernel
theorem dX6_isPlayer_9 : decode cX6_isPlayer 9 = .ok (.getfield 64, 3) := by decide +kernel
theorem dX6_isPlayer_12 : decode cX6_isPlayer 12 = .ok (.if_icmp .ge 7, 3) := by decide +kernel
theorem dX6_isPlayer_15 : decode cX6_isPlayer 15 = .ok (.iconst 1, 1) := by decide +kernel
theorem dX6_isPlayer_16 : decode cX6_isPlayer 16 = .ok (.goto 4, 3) := by decide +kernel
theorem dX6_isPlayer_19 : decode cX6_isPlayer 19 = .ok (.iconst 0, 1) := by decide +kernel
theorem dX6_isPlayer_20 : decode cX6_isPlayer 20 = .ok (.ireturn, 1) := by decide +kernel
theorem dX6_areTwo_0 : decode cX6_areTwo 0 = .ok (.aload_n 0, 1) := by decide +kernel
theorem dX6_areTwo_1 : decode cX6_areTwo 1 = .ok (.iload_n 1, 1) := by decide +kernel
theorem dX6_areTwo_2 : decode cX6_areTwo 2 = .ok (.invokevirtual 79, 3) := by decide +kernel
theorem dX6_areTwo_5 : decode cX6_areTwo 5 = .ok (.ifCond .eq 20, 3) := by decide +kernel
theorem dX6_areTwo_8 : decode cX6_areTwo 8 = .ok (.aload_n 0, 1) := by decide +kernel
theorem dX6_areTwo_9 : decode cX6_areTwo 9 = .ok (.iload_n 2, 1) := by decide +kernel
theorem dX6_areTwo_10 : decode cX6_areTwo 10 = .ok (.invokevirtual 79, 3) := by decide +kernel
theorem dX6_areTwo_13 : decode cX6_areTwo 13 = .ok (.ifCond .eq 12, 3) := by decide +kernel
theorem dX6_areTwo_16 : decode cX6_areTwo 16 = .ok (.iload_n 1, 1) := by decide +kernel
theorem dX6_areTwo_17 : decode cX6_areTwo 17 = .ok (.iload_n 2, 1) := by decide +kernel
theorem dX6_areTwo_18 : decode cX6_areTwo 18 = .ok (.if_icmp .eq 7, 3) := by decide +kernel
theorem dX6_areTwo_21 : decode cX6_areTwo 21 = .ok (.iconst 1, 1) := by decide +kernel
theorem dX6_areTwo_22 : decode cX6_areTwo 22 = .ok (.goto 4, 3) := by decide +kernel
theorem dX6_areTwo_25 : decode cX6_areTwo 25 = .ok (.iconst 0, 1) := by decide +kernel
theorem dX6_areTwo_26 : decode cX6_areTwo 26 = .ok (.ireturn, 1) := by decide +kernel
theorem dX6_isRound_0 : decode cX6_isRound 0 = .ok (.iload_n 1, 1) := by decide +kernel
theorem dX6_isRound_1 : decode cX6_isRound 1 = .ok (.ifCond .lt 18, 3) := by decide +kernel
theorem dX6_isRound_4 : decode cX6_isRound 4 = .ok (.iload_n 1, 1) := by decide +kernel
theorem dX6_isRound_5 : decode cX6_isRound 5 = .ok (.aload_n 0, 1) := by decide +kernel
theorem dX6_isRound_6 : decode cX6_isRound 6 = .ok (.getfield 10, 3) := by decide +kernel
theorem dX6_isRound_9 : decode cX6_isRound 9 = .ok (.getfield 148, 3) := by decide +kernel
theorem dX6_isRound_12 : decode cX6_isRound 12 = .ok (.if_icmp .ge 7, 3) := by decide +kernel
theorem dX6_isRound_15 : decode cX6_isRound 15 = .ok (.iconst 1, 1) := by decide +kernel
theorem dX6_isRound_16 : decode cX6_isRound 16 = .ok (.goto 4, 3) := by decide +kernel
theorem dX6_isRound_19 : decode cX6_isRound 19 = .ok (.iconst 0, 1) := by decide +kernel
theorem dX6_isRound_20 : decode cX6_isRound 20 = .ok (.ireturn, 1) := by decide +kernel
theorem dX6_mirrored_0 : decode cX6_mirrored 0 = .ok (.iload_n 0, 1) := by decide +kernel
theorem dX6_mirrored_1 : decode cX6_mirrored 1 = .ok (.tableswitch 43 1 5 #[35, 43, 37, 39, 41], 35) := by decide +kernel
theorem dX6_mirrored_36 : decode cX6_mirrored 36 = .ok (.iconst 3, 1) := by decide +kernel
theorem dX6_mirrored_37 : decode cX6_mirrored 37 = .ok (.ireturn, 1) := by decide +kernel
theorem dX6_mirrored_38 : decode cX6_mirrored 38 = .ok (.iconst 1, 1) := by decide +kernel
theorem dX6_mirrored_39 : decode cX6_mirrored 39 = .ok (.ireturn, 1) := by decide +kernel
theorem dX6_mirrored_40 : decode cX6_mirrored 40 = .ok (.iconst 5, 1) := by decide +kernel
theorem dX6_mirrored_41 : decode cX6_mirrored 41 = .ok (.ireturn, 1) := by decide +kernel
theorem dX6_mirrored_42 : decode cX6_mirrored 42 = .ok (.iconst 4, 1) := by decide +kernel
theorem dX6_mirrored_43 : decode cX6_mirrored 43 = .ok (.ireturn, 1) := by decide +kernel
theorem dX6_mirrored_44 : decode cX6_mirrored 44 = .ok (.iload_n 0, 1) := by decide +kernel
theorem dX6_mirrored_45 : decode cX6_mirrored 45 = .ok (.ireturn, 1) := by decide +kernel
theorem dX6_pointsFor_0 : decode cX6_pointsFor 0 = .ok (.iload_n 0, 1) := by decide +kernel
theorem dX6_pointsFor_1 : decode cX6_pointsFor 1 = .ok (.iconst 1, 1) := by decide +kernel
theorem dX6_pointsFor_2 : decode cX6_pointsFor 2 = .ok (.if_icmp .eq 8, 3) := by decide +kernel
theorem dX6_pointsFor_5 : decode cX6_pointsFor 5 = .ok (.iload_n 0, 1) := by decide +kernel
theorem dX6_pointsFor_6 : decode cX6_pointsFor 6 = .ok (.iconst 4, 1) := by decide +kernel
theorem dX6_pointsFor_7 : decode cX6_pointsFor 7 = .ok (.if_icmp .ne 5, 3) := by decide +kernel
theorem dX6_pointsFor_10 : decode cX6_pointsFor 10 = .ok (.iconst 2, 1) := by decide +kernel
theorem dX6_pointsFor_11 : decode cX6_pointsFor 11 = .ok (.ireturn, 1) := by decide +kernel
theorem dX6_pointsFor_12 : decode cX6_pointsFor 12 = .ok (.iload_n 0, 1) := by decide +kernel
theorem dX6_pointsFor_13 : decode cX6_pointsFor 13 = .ok (.iconst 2, 1) := by decide +kernel
theorem dX6_pointsFor_14 : decode cX6_pointsFor 14 = .ok (.if_icmp .ne 7, 3) := by decide +kernel
theorem dX6_pointsFor_17 : decode cX6_pointsFor 17 = .ok (.iconst 1, 1) := by decide +kernel
theorem dX6_pointsFor_18 : decode cX6_pointsFor 18 = .ok (.goto 4, 3) := by decide +kernel
theorem dX6_pointsFor_21 : decode cX6_pointsFor 21 = .ok (.iconst 0, 1) := by decide +kernel
theorem dX6_pointsFor_22 : decode cX6_pointsFor 22 = .ok (.ireturn, 1) := by decide +kernel
theorem dX6_isOverTheBoard_0 : decode cX6_isOverTheBoard 0 = .ok (.iload_n 0, 1) := by decide +kernel
theorem dX6_isOverTheBoard_1 : decode cX6_isOverTheBoard 1 = .ok (.iconst 1, 1) := by decide +kernel
theorem dX6_isOverTheBoard_2 : decode cX6_isOverTheBoard 2 = .ok (.if_icmp .lt 12, 3) := by decide +kernel
theorem dX6_isOverTheBoard_5 : decode cX6_isOverTheBoard 5 = .ok (.iload_n 0, 1) := by decide +kernel
theorem dX6_isOverTheBoard_6 : decode cX6_isOverTheBoard 6 = .ok (.iconst 3, 1) := by decide +kernel
theorem dX6_isOverTheBoard_7 : decode cX6_isOverTheBoard 7 = .ok (.if_icmp .gt 7, 3) := by decide +kernel
theorem dX6_isOverTheBoard_10 : decode cX6_isOverTheBoard 10 = .ok (.iconst 1, 1) := by decide +kernel
theorem dX6_isOverTheBoard_11 : decode cX6_isOverTheBoard 11 = .ok (.goto 4, 3) := by decide +kernel
theorem dX6_isOverTheBoard_14 : decode cX6_isOverTheBoard 14 = .ok (.iconst 0, 1) := by decide +kernel
theorem dX6_isOverTheBoard_15 : decode cX6_isOverTheBoard 15 = .ok (.ireturn, 1) := by decide +kernel
theorem dJ11_isValidCodePoint_9a6ad_0 : decode cJ11_isValidCodePoint_9a6ad 0 = .ok (.iload_n 0, 1) := by decide +kernel
theorem dJ11_isValidCodePoint_9a6ad_1 : decode cJ11_isValidCodePoint_9a6ad 1 = .ok (.bipush 16, 2) := by decide +kernel
theorem dJ11_isValidCodePoint_9a6ad_3 : decode cJ11_isValidCodePoint_9a6ad 3 = .ok (.iushr, 1) := by decide +kernel
theorem dJ11_isValidCodePoint_9a6ad_4 : decode cJ11_isValidCodePoint_9a6ad 4 = .ok (.istore_n 1, 1) := by decide +kernel
theorem dJ11_isValidCodePoint_9a6ad_5 : decode cJ11_isValidCodePoint_9a6ad 5 = .ok (.iload_n 1, 1) := by decide +kernel
theorem dJ11_isValidCodePoint_9a6ad_6 : decode cJ11_isValidCodePoint_9a6ad 6 = .ok (.bipush 17, 2) := by decide +kernel
theorem dJ11_isValidCodePoint_9a6ad_8 : decode cJ11_isValidCodePoint_9a6ad 8 = .ok (.if_icmp .ge 7, 3) := by decide +kernel
theorem dJ11_isValidCodePoint_9a6ad_11 : decode cJ11_isValidCodePoint_9a6ad 11 = .ok (.iconst 1, 1) := by decide +kernel
theorem dJ11_isValidCodePoint_9a6ad_12 : decode cJ11_isValidCodePoint_9a6ad 12 = .ok (.goto 4, 3) := by decide +kernel
theorem dJ11_isValidCodePoint_9a6ad_15 : decode cJ11_isValidCodePoint_9a6ad 15 = .ok (.iconst 0, 1) := by decide +kernel
theorem dJ11_isValidCodePoint_9a6ad_16 : decode cJ11_isValidCodePoint_9a6ad 16 = .ok (.ireturn, 1) := by decide +kernel
theorem dJ11_highSurrogate_5068e_0 : decode cJ11_highSurrogate_5068e 0 = .ok (.iload_n 0, 1) := by decide +kernel
theorem dJ11_highSurrogate_5068e_1 : decode cJ11_highSurrogate_5068e 1 = .ok (.bipush 10, 2) := by decide +kernel
theorem dJ11_highSurrogate_5068e_3 : decode cJ11_highSurrogate_5068e 3 = .ok (.iushr, 1) := by decide +kernel
theorem dJ11_highSurrogate_5068e_4 : decode cJ11_highSurrogate_5068e 4 = .ok (.ldc 110, 2) := by decide +kernel
theorem dJ11_highSurrogate_5068e_6 : decode cJ11_highSurrogate_5068e 6 = .ok (.iadd, 1) := by decide +kernel
theorem dJ11_highSurrogate_5068e_7 : decode cJ11_highSurrogate_5068e 7 = .ok (.i2c, 1) := by decide +kernel
theorem dJ11_highSurrogate_5068e_8 : decode cJ11_highSurrogate_5068e 8 = .ok (.ireturn, 1) := by decide +kernel
theorem dJ11_lowSurrogate_5068e_0 : decode cJ11_lowSurrogate_5068e 0 = .ok (.iload_n 0, 1) := by decide +kernel
theorem dJ11_lowSurrogate_5068e_1 : decode cJ11_lowSurrogate_5068e 1 = .ok (.sipush 1023, 3) := by decide +kernel
theorem dJ11_lowSurrogate_5068e_4 : decode cJ11_lowSurrogate_5068e 4 = .ok (.iand, 1) := by decide +kernel
theorem dJ11_lowSurrogate_5068e_5 : decode cJ11_lowSurrogate_5068e 5 = .ok (.ldc 76, 2) := by decide +kernel
theorem dJ11_lowSurrogate_5068e_7 : decode cJ11_lowSurrogate_5068e 7 = .ok (.iadd, 1) := by decide +kernel
theorem dJ11_lowSurrogate_5068e_8 : decode cJ11_lowSurrogate_5068e 8 = .ok (.i2c, 1) := by decide +kernel
theorem dJ11_lowSurrogate_5068e_9 : decode cJ11_lowSurrogate_5068e 9 = .ok (.ireturn, 1) := by decide +kernel
theorem dJ6_bitCount_0f7a4_0 : decode cJ6_bitCount_0f7a4 0 = .ok (.iload_n 0, 1) := by decide +kernel
theorem dJ6_bitCount_0f7a4_1 : decode cJ6_bitCount_0f7a4 1 = .ok (.iload_n 0, 1) := by decide +kernel
theorem dJ6_bitCount_0f7a4_2 : decode cJ6_bitCount_0f7a4 2 = .ok (.iconst 1, 1) := by decide +kernel
theorem dJ6_bitCount_0f7a4_3 : decode cJ6_bitCount_0f7a4 3 = .ok (.iushr, 1) := by decide +kernel
theorem dJ6_bitCount_0f7a4_4 : decode cJ6_bitCount_0f7a4 4 = .ok (.ldc_w 265, 3) := by decide +kernel
theorem dJ6_bitCount_0f7a4_7 : decode cJ6_bitCount_0f7a4 7 = .ok (.iand, 1) := by decide +kernel
theorem dJ6_bitCount_0f7a4_8 : decode cJ6_bitCount_0f7a4 8 = .ok (.isub, 1) := by decide +kernel
theorem dJ6_bitCount_0f7a4_9 : decode cJ6_bitCount_0f7a4 9 = .ok (.istore_n 0, 1) := by decide +kernel
theorem dJ6_bitCount_0f7a4_10 : decode cJ6_bitCount_0f7a4 10 = .ok (.iload_n 0, 1) := by decide +kernel
theorem dJ6_bitCount_0f7a4_11 : decode cJ6_bitCount_0f7a4 11 = .ok (.ldc_w 266, 3) := by decide +kernel
theorem dJ6_bitCount_0f7a4_14 : decode cJ6_bitCount_0f7a4 14 = .ok (.iand, 1) := by decide +kernel
theorem dJ6_bitCount_0f7a4_15 : decode cJ6_bitCount_0f7a4 15 = .ok (.iload_n 0, 1) := by decide +kernel
theorem dJ6_bitCount_0f7a4_16 : decode cJ6_bitCount_0f7a4 16 = .ok (.iconst 2, 1) := by decide +kernel
theorem dJ6_bitCount_0f7a4_17 : decode cJ6_bitCount_0f7a4 17 = .ok (.iushr, 1) := by decide +kernel
theorem dJ6_bitCount_0f7a4_18 : decode cJ6_bitCount_0f7a4 18 = .ok (.ldc_w 266, 3) := by decide +kernel
theorem dJ6_bitCount_0f7a4_21 : decode cJ6_bitCount_0f7a4 21 = .ok (.iand, 1) := by decide +kernel
theorem dJ6_bitCount_0f7a4_22 : decode cJ6_bitCount_0f7a4 22 = .ok (.iadd, 1) := by decide +kernel
theorem dJ6_bitCount_0f7a4_23 : decode cJ6_bitCount_0f7a4 23 = .ok (.istore_n 0, 1) := by decide +kernel
theorem dJ6_bitCount_0f7a4_24 : decode cJ6_bitCount_0f7a4 24 = .ok (.iload_n 0, 1) := by decide +kernel
theorem dJ6_bitCount_0f7a4_25 : decode cJ6_bitCount_0f7a4 25 = .ok (.iload_n 0, 1) := by decide +kernel
theorem dJ6_bitCount_0f7a4_26 : decode cJ6_bitCount_0f7a4 26 = .ok (.iconst 4, 1) := by decide +kernel
theorem dJ6_bitCount_0f7a4_27 : decode cJ6_bitCount_0f7a4 27 = .ok (.iushr, 1) := by decide +kernel
theorem dJ6_bitCount_0f7a4_28 : decode cJ6_bitCount_0f7a4 28 = .ok (.iadd, 1) := by decide +kernel
theorem dJ6_bitCount_0f7a4_29 : decode cJ6_bitCount_0f7a4 29 = .ok (.ldc_w 267, 3) := by decide +kernel
theorem dJ6_bitCount_0f7a4_32 : decode cJ6_bitCount_0f7a4 32 = .ok (.iand, 1) := by decide +kernel
theorem dJ6_bitCount_0f7a4_33 : decode cJ6_bitCount_0f7a4 33 = .ok (.istore_n 0, 1) := by decide +kernel
theorem dJ6_bitCount_0f7a4_34 : decode cJ6_bitCount_0f7a4 34 = .ok (.iload_n 0, 1) := by decide +kernel
theorem dJ6_bitCount_0f7a4_35 : decode cJ6_bitCount_0f7a4 35 = .ok (.iload_n 0, 1) := by decide +kernel
theorem dJ6_bitCount_0f7a4_36 : decode cJ6_bitCount_0f7a4 36 = .ok (.bipush 8, 2) := by decide +kernel
theorem dJ6_bitCount_0f7a4_38 : decode cJ6_bitCount_0f7a4 38 = .ok (.iushr, 1) := by decide +kernel
theorem dJ6_bitCount_0f7a4_39 : decode cJ6_bitCount_0f7a4 39 = .ok (.iadd, 1) := by decide +kernel
theorem dJ6_bitCount_0f7a4_40 : decode cJ6_bitCount_0f7a4 40 = .ok (.istore_n 0, 1) := by decide +kernel
theorem dJ6_bitCount_0f7a4_41 : decode cJ6_bitCount_0f7a4 41 = .ok (.iload_n 0, 1) := by decide +kernel
theorem dJ6_bitCount_0f7a4_42 : decode cJ6_bitCount_0f7a4 42 = .ok (.iload_n 0, 1) := by decide +kernel
theorem dJ6_bitCount_0f7a4_43 : decode cJ6_bitCount_0f7a4 43 = .ok (.bipush 16, 2) := by decide +kernel
theorem dJ6_bitCount_0f7a4_45 : decode cJ6_bitCount_0f7a4 45 = .ok (.iushr, 1) := by decide +kernel
theorem dJ6_bitCount_0f7a4_46 : decode cJ6_bitCount_0f7a4 46 = .ok (.iadd, 1) := by decide +kernel
theorem dJ6_bitCount_0f7a4_47 : decode cJ6_bitCount_0f7a4 47 = .ok (.istore_n 0, 1) := by decide +kernel
theorem dJ6_bitCount_0f7a4_48 : decode cJ6_bitCount_0f7a4 48 = .ok (.iload_n 0, 1) := by decide +kernel
theorem dJ6_bitCount_0f7a4_49 : decode cJ6_bitCount_0f7a4 49 = .ok (.bipush 63, 2) := by decide +kernel
theorem dJ6_bitCount_0f7a4_51 : decode cJ6_bitCount_0f7a4 51 = .ok (.iand, 1) := by decide +kernel
theorem dJ6_bitCount_0f7a4_52 : decode cJ6_bitCount_0f7a4 52 = .ok (.ireturn, 1) := by decide +kernel
theorem dJ9_abs_0f7a4_0 : decode cJ9_abs_0f7a4 0 = .ok (.iload_n 0, 1) := by decide +kernel
theorem dJ9_abs_0f7a4_1 : decode cJ9_abs_0f7a4 1 = .ok (.ifCond .ge 8, 3) := by decide +kernel
theorem dJ9_abs_0f7a4_4 : decode cJ9_abs_0f7a4 4 = .ok (.iload_n 0, 1) := by decide +kernel
theorem dJ9_abs_0f7a4_5 : decode cJ9_abs_0f7a4 5 = .ok (.ineg, 1) := by decide +kernel
theorem dJ9_abs_0f7a4_6 : decode cJ9_abs_0f7a4 6 = .ok (.goto 4, 3) := by decide +kernel
theorem dJ9_abs_0f7a4_9 : decode cJ9_abs_0f7a4 9 = .ok (.iload_n 0, 1) := by decide +kernel
theorem dJ9_abs_0f7a4_10 : decode cJ9_abs_0f7a4 10 = .ok (.ireturn, 1) := by decide +kernel
theorem dJ9_max_7cf53_0 : decode cJ9_max_7cf53 0 = .ok (.iload_n 0, 1) := by decide +kernel
theorem dJ9_max_7cf53_1 : decode cJ9_max_7cf53 1 = .ok (.iload_n 1, 1) := by decide +kernel
theorem dJ9_max_7cf53_2 : decode cJ9_max_7cf53 2 = .ok (.if_icmp .lt 7, 3) := by decide +kernel
theorem dJ9_max_7cf53_5 : decode cJ9_max_7cf53 5 = .ok (.iload_n 0, 1) := by decide +kernel
theorem dJ9_max_7cf53_6 : decode cJ9_max_7cf53 6 = .ok (.goto 4, 3) := by decide +kernel
theorem dJ9_max_7cf53_9 : decode cJ9_max_7cf53 9 = .ok (.iload_n 1, 1) := by decide +kernel
theorem dJ9_max_7cf53_10 : decode cJ9_max_7cf53 10 = .ok (.ireturn, 1) := by decide +kernel
theorem dJ9_min_7cf53_0 : decode cJ9_min_7cf53 0 = .ok (.iload_n 0, 1) := by decide +kernel
theorem dJ9_min_7cf53_1 : decode cJ9_min_7cf53 1 = .ok (.iload_n 1, 1) := by decide +kernel
theorem dJ9_min_7cf53_2 : decode cJ9_min_7cf53 2 = .ok (.if_icmp .gt 7, 3) := by decide +kernel
theorem dJ9_min_7cf53_5 : decode cJ9_min_7cf53 5 = .ok (.iload_n 0, 1) := by decide +kernel
theorem dJ9_min_7cf53_6 : decode cJ9_min_7cf53 6 = .ok (.goto 4, 3) := by decide +kernel
theorem dJ9_min_7cf53_9 : decode cJ9_min_7cf53 9 = .ok (.iload_n 1, 1) := by decide +kernel
theorem dJ9_min_7cf53_10 : decode cJ9_min_7cf53 10 = .ok (.ireturn, 1) := by decide +kernel
theorem dJ0_length_8abf5_0 : decode cJ0_length_8abf5 0 = .ok (.aload_n 0, 1) := by decide +kernel
theorem dJ0_length_8abf5_1 : decode cJ0_length_8abf5 1 = .ok (.getfield 9, 3) := by decide +kernel
theorem dJ0_length_8abf5_4 : decode cJ0_length_8abf5 4 = .ok (.arraylength, 1) := by decide +kernel
theorem dJ0_length_8abf5_5 : decode cJ0_length_8abf5 5 = .ok (.aload_n 0, 1) := by decide +kernel
theorem dJ0_length_8abf5_6 : decode cJ0_length_8abf5 6 = .ok (.invokevirtual 335, 3) := by decide +kernel
theorem dJ0_length_8abf5_9 : decode cJ0_length_8abf5 9 = .ok (.ishr, 1) := by decide +kernel
theorem dJ0_length_8abf5_10 : decode cJ0_length_8abf5 10 = .ok (.ireturn, 1) := by decide +kernel
theorem dJ0_indexOf_0f7a4_0 : decode cJ0_indexOf_0f7a4 0 = .ok (.aload_n 0, 1) := by decide +kernel
theorem dJ0_indexOf_0f7a4_1 : decode cJ0_indexOf_0f7a4 1 = .ok (.iload_n 1, 1) := by decide +kernel
theorem dJ0_indexOf_0f7a4_2 : decode cJ0_indexOf_0f7a4 2 = .ok (.iconst 0, 1) := by decide +kernel
theorem dJ0_indexOf_0f7a4_3 : decode cJ0_indexOf_0f7a4 3 = .ok (.invokevirtual 633, 3) := by decide +kernel
theorem dJ0_indexOf_0f7a4_6 : decode cJ0_indexOf_0f7a4 6 = .ok (.ireturn, 1) := by decide +kernel
theorem dJ0_indexOf_7cf53_0 : decode cJ0_indexOf_7cf53 0 = .ok (.aload_n 0, 1) := by decide +kernel
theorem dJ0_indexOf_7cf53_1 : decode cJ0_indexOf_7cf53 1 = .ok (.invokevirtual 492, 3) := by decide +kernel
theorem dJ0_indexOf_7cf53_4 : decode cJ0_indexOf_7cf53 4 = .ok (.ifCond .eq 19, 3) := by decide +kernel
theorem dJ0_indexOf_7cf53_7 : decode cJ0_indexOf_7cf53 7 = .ok (.aload_n 0, 1) := by decide +kernel
theorem dJ0_indexOf_7cf53_8 : decode cJ0_indexOf_7cf53 8 = .ok (.getfield 9, 3) := by decide +kernel
theorem dJ0_indexOf_7cf53_11 : decode cJ0_indexOf_7cf53 11 = .ok (.iload_n 1, 1) := by decide +kernel
theorem dJ0_indexOf_7cf53_12 : decode cJ0_indexOf_7cf53 12 = .ok (.iload_n 2, 1) := by decide +kernel
theorem dJ0_indexOf_7cf53_13 : decode cJ0_indexOf_7cf53 13 = .ok (.aload_n 0, 1) := by decide +kernel
theorem dJ0_indexOf_7cf53_14 : decode cJ0_indexOf_7cf53 14 = .ok (.invokevirtual 505, 3) := by decide +kernel
theorem dJ0_indexOf_7cf53_17 : decode cJ0_indexOf_7cf53 17 = .ok (.invokestatic 637, 3) := by decide +kernel
theorem dJ0_indexOf_7cf53_20 : decode cJ0_indexOf_7cf53 20 = .ok (.goto 16, 3) := by decide +kernel
theorem dJ0_indexOf_7cf53_23 : decode cJ0_indexOf_7cf53 23 = .ok (.aload_n 0, 1) := by decide +kernel
theorem dJ0_indexOf_7cf53_24 : decode cJ0_indexOf_7cf53 24 = .ok (.getfield 9, 3) := by decide +kernel
theorem dJ0_indexOf_7cf53_27 : decode cJ0_indexOf_7cf53 27 = .ok (.iload_n 1, 1) := by decide +kernel
theorem dJ0_indexOf_7cf53_28 : decode cJ0_indexOf_7cf53 28 = .ok (.iload_n 2, 1) := by decide +kernel
theorem dJ0_indexOf_7cf53_29 : decode cJ0_indexOf_7cf53 29 = .ok (.aload_n 0, 1) := by decide +kernel
theorem dJ0_indexOf_7cf53_30 : decode cJ0_indexOf_7cf53 30 = .ok (.invokevirtual 505, 3) := by decide +kernel
theorem dJ0_indexOf_7cf53_33 : decode cJ0_indexOf_7cf53 33 = .ok (.invokestatic 640, 3) := by decide +kernel
theorem dJ0_indexOf_7cf53_36 : decode cJ0_indexOf_7cf53 36 = .ok (.ireturn, 1) := by decide +kernel
theorem dJ0_coder_7d493_0 : decode cJ0_coder_7d493 0 = .ok (.getstatic 38, 3) := by decide +kernel
theorem dJ0_coder_7d493_3 : decode cJ0_coder_7d493 3 = .ok (.ifCond .eq 10, 3) := by decide +kernel
theorem dJ0_coder_7d493_6 : decode cJ0_coder_7d493 6 = .ok (.aload_n 0, 1) := by decide +kernel
theorem dJ0_coder_7d493_7 : decode cJ0_coder_7d493 7 = .ok (.getfield 15, 3) := by decide +kernel
theorem dJ0_coder_7d493_10 : decode cJ0_coder_7d493 10 = .ok (.goto 4, 3) := by decide +kernel
theorem dJ0_coder_7d493_13 : decode cJ0_coder_7d493 13 = .ok (.iconst 1, 1) := by decide +kernel
theorem dJ0_coder_7d493_14 : decode cJ0_coder_7d493 14 = .ok (.ireturn, 1) := by decide +kernel
theorem dJ0_isLatin1_aae02_0 : decode cJ0_isLatin1_aae02 0 = .ok (.getstatic 38, 3) := by decide +kernel
theorem dJ0_isLatin1_aae02_3 : decode cJ0_isLatin1_aae02 3 = .ok (.ifCond .eq 14, 3) := by decide +kernel
theorem dJ0_isLatin1_aae02_6 : decode cJ0_isLatin1_aae02 6 = .ok (.aload_n 0, 1) := by decide +kernel
theorem dJ0_isLatin1_aae02_7 : decode cJ0_isLatin1_aae02 7 = .ok (.getfield 15, 3) := by decide +kernel
theorem dJ0_isLatin1_aae02_10 : decode cJ0_isLatin1_aae02 10 = .ok (.ifCond .ne 7, 3) := by decide +kernel
theorem dJ0_isLatin1_aae02_13 : decode cJ0_isLatin1_aae02 13 = .ok (.iconst 1, 1) := by decide +kernel
theorem dJ0_isLatin1_aae02_14 : decode cJ0_isLatin1_aae02 14 = .ok (.goto 4, 3) := by decide +kernel
theorem dJ0_isLatin1_aae02_17 : decode cJ0_isLatin1_aae02 17 = .ok (.iconst 0, 1) := by decide +kernel
theorem dJ0_isLatin1_aae02_18 : decode cJ0_isLatin1_aae02 18 = .ok (.ireturn, 1) := by decide +kernel
theorem dJ0_checkBoundsBeginEnd_23922_0 : decode cJ0_checkBoundsBeginEnd_23922 0 = .ok (.iload_n 0, 1) := by decide +kernel
theorem dJ0_checkBoundsBeginEnd_23922_1 : decode cJ0_checkBoundsBeginEnd_23922 1 = .ok (.iload_n 1, 1) := by decide +kernel
theorem dJ0_checkBoundsBeginEnd_23922_2 : decode cJ0_checkBoundsBeginEnd_23922 2 = .ok (.iload_n 2, 1) := by decide +kernel
theorem dJ0_checkBoundsBeginEnd_23922_3 : decode cJ0_checkBoundsBeginEnd_23922 3 = .ok (.getstatic 1053, 3) := by decide +kernel
theorem dJ0_checkBoundsBeginEnd_23922_6 : decode cJ0_checkBoundsBeginEnd_23922 6 = .ok (.invokestatic 1062, 3) := by decide +kernel
theorem dJ0_checkBoundsBeginEnd_23922_9 : decode cJ0_checkBoundsBeginEnd_23922 9 = .ok (.pop, 1) := by decide +kernel
theorem dJ0_checkBoundsBeginEnd_23922_10 : decode cJ0_checkBoundsBeginEnd_23922 10 = .ok (.return_, 1) := by decide +kernel
theorem dJ1_canEncode_9a6ad_0 : decode cJ1_canEncode_9a6ad 0 = .ok (.iload_n 0, 1) := by decide +kernel
theorem dJ1_canEncode_9a6ad_1 : decode cJ1_canEncode_9a6ad 1 = .ok (.ifCond .lt 14, 3) := by decide +kernel
theorem dJ1_canEncode_9a6ad_4 : decode cJ1_canEncode_9a6ad 4 = .ok (.iload_n 0, 1) := by decide +kernel
theorem dJ1_canEncode_9a6ad_5 : decode cJ1_canEncode_9a6ad 5 = .ok (.sipush 255, 3) := by decide +kernel
theorem dJ1_canEncode_9a6ad_8 : decode cJ1_canEncode_9a6ad 8 = .ok (.if_icmp .gt 7, 3) := by decide +kernel
theorem dJ1_canEncode_9a6ad_11 : decode cJ1_canEncode_9a6ad 11 = .ok (.iconst 1, 1) := by decide +kernel
theorem dJ1_canEncode_9a6ad_12 : decode cJ1_canEncode_9a6ad 12 = .ok (.goto 4, 3) := by decide +kernel
theorem dJ1_canEncode_9a6ad_15 : decode cJ1_canEncode_9a6ad 15 = .ok (.iconst 0, 1) := by decide +kernel
theorem dJ1_canEncode_9a6ad_16 : decode cJ1_canEncode_9a6ad 16 = .ok (.ireturn, 1) := by decide +kernel
theorem dJ1_indexOf_4cfef_0 : decode cJ1_indexOf_4cfef 0 = .ok (.iload_n 1, 1) := by decide +kernel
theorem dJ1_indexOf_4cfef_1 : decode cJ1_indexOf_4cfef 1 = .ok (.invokestatic 88, 3) := by decide +kernel
theorem dJ1_indexOf_4cfef_4 : decode cJ1_indexOf_4cfef 4 = .ok (.ifCond .ne 5, 3) := by decide +kernel
theorem dJ1_indexOf_4cfef_7 : decode cJ1_indexOf_4cfef 7 = .ok (.iconst (-1), 1) := by decide +kernel
theorem dJ1_indexOf_4cfef_8 : decode cJ1_indexOf_4cfef 8 = .ok (.ireturn, 1) := by decide +kernel
theorem dJ1_indexOf_4cfef_9 : decode cJ1_indexOf_4cfef 9 = .ok (.iload_n 2, 1) := by decide +kernel
theorem dJ1_indexOf_4cfef_10 : decode cJ1_indexOf_4cfef 10 = .ok (.iconst 0, 1) := by decide +kernel
theorem dJ1_indexOf_4cfef_11 : decode cJ1_indexOf_4cfef 11 = .ok (.invokestatic 92, 3) := by decide +kernel
theorem dJ1_indexOf_4cfef_14 : decode cJ1_indexOf_4cfef 14 = .ok (.istore_n 2, 1) := by decide +kernel
theorem dJ1_indexOf_4cfef_15 : decode cJ1_indexOf_4cfef 15 = .ok (.iload_n 3, 1) := by decide +kernel
theorem dJ1_indexOf_4cfef_16 : decode cJ1_indexOf_4cfef 16 = .ok (.aload_n 0, 1) := by decide +kernel
theorem dJ1_indexOf_4cfef_17 : decode cJ1_indexOf_4cfef 17 = .ok (.arraylength, 1) := by decide +kernel
theorem dJ1_indexOf_4cfef_18 : decode cJ1_indexOf_4cfef 18 = .ok (.invokestatic 38, 3) := by decide +kernel
theorem dJ1_indexOf_4cfef_21 : decode cJ1_indexOf_4cfef 21 = .ok (.istore_n 3, 1) := by decide +kernel
theorem dJ1_indexOf_4cfef_22 : decode cJ1_indexOf_4cfef 22 = .ok (.iload_n 2, 1) := by decide +kernel
theorem dJ1_indexOf_4cfef_23 : decode cJ1_indexOf_4cfef 23 = .ok (.iload_n 3, 1) := by decide +kernel
theorem dJ1_indexOf_4cfef_24 : decode cJ1_indexOf_4cfef 24 = .ok (.if_icmp .lt 5, 3) := by decide +kernel
theorem dJ1_indexOf_4cfef_27 : decode cJ1_indexOf_4cfef 27 = .ok (.iconst (-1), 1) := by decide +kernel
theorem dJ1_indexOf_4cfef_28 : decode cJ1_indexOf_4cfef 28 = .ok (.ireturn, 1) := by decide +kernel
theorem dJ1_indexOf_4cfef_29 : decode cJ1_indexOf_4cfef 29 = .ok (.aload_n 0, 1) := by decide +kernel
theorem dJ1_indexOf_4cfef_30 : decode cJ1_indexOf_4cfef 30 = .ok (.iload_n 1, 1) := by decide +kernel
theorem dJ1_indexOf_4cfef_31 : decode cJ1_indexOf_4cfef 31 = .ok (.iload_n 2, 1) := by decide +kernel
theorem dJ1_indexOf_4cfef_32 : decode cJ1_indexOf_4cfef 32 = .ok (.iload_n 3, 1) := by decide +kernel
theorem dJ1_indexOf_4cfef_33 : decode cJ1_indexOf_4cfef 33 = .ok (.invokestatic 95, 3) := by decide +kernel
theorem dJ1_indexOf_4cfef_36 : decode cJ1_indexOf_4cfef 36 = .ok (.ireturn, 1) := by decide +kernel
theorem dJ1_indexOfChar_4cfef_0 : decode cJ1_indexOfChar_4cfef 0 = .ok (.iload_n 1, 1) := by decide +kernel
theorem dJ1_indexOfChar_4cfef_1 : decode cJ1_indexOfChar_4cfef 1 = .ok (.i2b, 1) := by decide +kernel
theorem dJ1_indexOfChar_4cfef_2 : decode cJ1_indexOfChar_4cfef 2 = .ok (.istore 4, 2) := by decide +kernel
theorem dJ1_indexOfChar_4cfef_4 : decode cJ1_indexOfChar_4cfef 4 = .ok (.iload_n 2, 1) := by decide +kernel
theorem dJ1_indexOfChar_4cfef_5 : decode cJ1_indexOfChar_4cfef 5 = .ok (.istore 5, 2) := by decide +kernel
theorem dJ1_indexOfChar_4cfef_7 : decode cJ1_indexOfChar_4cfef 7 = .ok (.iload 5, 2) := by decide +kernel
theorem dJ1_indexOfChar_4cfef_9 : decode cJ1_indexOfChar_4cfef 9 = .ok (.iload_n 3, 1) := by decide +kernel
theorem dJ1_indexOfChar_4cfef_10 : decode cJ1_indexOfChar_4cfef 10 = .ok (.if_icmp .ge 21, 3) := by decide +kernel
theorem dJ1_indexOfChar_4cfef_13 : decode cJ1_indexOfChar_4cfef 13 = .ok (.aload_n 0, 1) := by decide +kernel
theorem dJ1_indexOfChar_4cfef_14 : decode cJ1_indexOfChar_4cfef 14 = .ok (.iload 5, 2) := by decide +kernel
theorem dJ1_indexOfChar_4cfef_16 : decode cJ1_indexOfChar_4cfef 16 = .ok (.baload, 1) := by decide +kernel
theorem dJ1_indexOfChar_4cfef_17 : decode cJ1_indexOfChar_4cfef 17 = .ok (.iload 4, 2) := by decide +kernel
theorem dJ1_indexOfChar_4cfef_19 : decode cJ1_indexOfChar_4cfef 19 = .ok (.if_icmp .ne 6, 3) := by decide +kernel
theorem dJ1_indexOfChar_4cfef_22 : decode cJ1_indexOfChar_4cfef 22 = .ok (.iload 5, 2) := by decide +kernel
theorem dJ1_indexOfChar_4cfef_24 : decode cJ1_indexOfChar_4cfef 24 = .ok (.ireturn, 1) := by decide +kernel
theorem dJ1_indexOfChar_4cfef_25 : decode cJ1_indexOfChar_4cfef 25 = .ok (.iinc 5 1, 3) := by decide +kernel
theorem dJ1_indexOfChar_4cfef_28 : decode cJ1_indexOfChar_4cfef 28 = .ok (.goto (-21), 3) := by decide +kernel
theorem dJ1_indexOfChar_4cfef_31 : decode cJ1_indexOfChar_4cfef 31 = .ok (.iconst (-1), 1) := by decide +kernel
theorem dJ1_indexOfChar_4cfef_32 : decode cJ1_indexOfChar_4cfef 32 = .ok (.ireturn, 1) := by decide +kernel
theorem dJ2_getChar_3b067_0 : decode cJ2_getChar_3b067 0 = .ok (.getstatic 44, 3) := by decide +kernel
theorem dJ2_getChar_3b067_3 : decode cJ2_getChar_3b067 3 = .ok (.ifCond .ne 25, 3) := by decide +kernel
theorem dJ2_getChar_3b067_6 : decode cJ2_getChar_3b067 6 = .ok (.iload_n 1, 1) := by decide +kernel
theorem dJ2_getChar_3b067_7 : decode cJ2_getChar_3b067 7 = .ok (.ifCond .lt 11, 3) := by decide +kernel
theorem dJ2_getChar_3b067_10 : decode cJ2_getChar_3b067 10 = .ok (.iload_n 1, 1) := by decide +kernel
theorem dJ2_getChar_3b067_11 : decode cJ2_getChar_3b067 11 = .ok (.aload_n 0, 1) := by decide +kernel
theorem dJ2_getChar_3b067_12 : decode cJ2_getChar_3b067 12 = .ok (.invokestatic 48, 3) := by decide +kernel
theorem dJ2_getChar_3b067_15 : decode cJ2_getChar_3b067 15 = .ok (.if_icmp .lt 13, 3) := by decide +kernel
theorem dJ2_getChar_3b067_18 : decode cJ2_getChar_3b067 18 = .ok (.new 52, 3) := by decide +kernel
theorem dJ2_getChar_3b067_21 : decode cJ2_getChar_3b067 21 = .ok (.dup, 1) := by decide +kernel
theorem dJ2_getChar_3b067_22 : decode cJ2_getChar_3b067 22 = .ok (.ldc 54, 2) := by decide +kernel
theorem dJ2_getChar_3b067_24 : decode cJ2_getChar_3b067 24 = .ok (.invokespecial 56, 3) := by decide +kernel
theorem dJ2_getChar_3b067_27 : decode cJ2_getChar_3b067 27 = .ok (.athrow, 1) := by decide +kernel
theorem dJ2_getChar_3b067_28 : decode cJ2_getChar_3b067 28 = .ok (.iload_n 1, 1) := by decide +kernel
theorem dJ2_getChar_3b067_29 : decode cJ2_getChar_3b067 29 = .ok (.iconst 1, 1) := by decide +kernel
theorem dJ2_getChar_3b067_30 : decode cJ2_getChar_3b067 30 = .ok (.ishl, 1) := by decide +kernel
theorem dJ2_getChar_3b067_31 : decode cJ2_getChar_3b067 31 = .ok (.istore_n 1, 1) := by decide +kernel
theorem dJ2_getChar_3b067_32 : decode cJ2_getChar_3b067 32 = .ok (.aload_n 0, 1) := by decide +kernel
theorem dJ2_getChar_3b067_33 : decode cJ2_getChar_3b067 33 = .ok (.iload_n 1, 1) := by decide +kernel
theorem dJ2_getChar_3b067_34 : decode cJ2_getChar_3b067 34 = .ok (.iinc 1 1, 3) := by decide +kernel
theorem dJ2_getChar_3b067_37 : decode cJ2_getChar_3b067 37 = .ok (.baload, 1) := by decide +kernel
theorem dJ2_getChar_3b067_38 : decode cJ2_getChar_3b067 38 = .ok (.sipush 255, 3) := by decide +kernel
theorem dJ2_getChar_3b067_41 : decode cJ2_getChar_3b067 41 = .ok (.iand, 1) := by decide +kernel
theorem dJ2_getChar_3b067_42 : decode cJ2_getChar_3b067 42 = .ok (.getstatic 59, 3) := by decide +kernel
theorem dJ2_getChar_3b067_45 : decode cJ2_getChar_3b067 45 = .ok (.ishl, 1) := by decide +kernel
theorem dJ2_getChar_3b067_46 : decode cJ2_getChar_3b067 46 = .ok (.aload_n 0, 1) := by decide +kernel
theorem dJ2_getChar_3b067_47 : decode cJ2_getChar_3b067 47 = .ok (.iload_n 1, 1) := by decide +kernel
theorem dJ2_getChar_3b067_48 : decode cJ2_getChar_3b067 48 = .ok (.baload, 1) := by decide +kernel
theorem dJ2_getChar_3b067_49 : decode cJ2_getChar_3b067 49 = .ok (.sipush 255, 3) := by decide +kernel
theorem dJ2_getChar_3b067_52 : decode cJ2_getChar_3b067 52 = .ok (.iand, 1) := by decide +kernel
theorem dJ2_getChar_3b067_53 : decode cJ2_getChar_3b067 53 = .ok (.getstatic 63, 3) := by decide +kernel
theorem dJ2_getChar_3b067_56 : decode cJ2_getChar_3b067 56 = .ok (.ishl, 1) := by decide +kernel
theorem dJ2_getChar_3b067_57 : decode cJ2_getChar_3b067 57 = .ok (.ior, 1) := by decide +kernel
theorem dJ2_getChar_3b067_58 : decode cJ2_getChar_3b067 58 = .ok (.i2c, 1) := by decide +kernel
theorem dJ2_getChar_3b067_59 : decode cJ2_getChar_3b067 59 = .ok (.ireturn, 1) := by decide +kernel
theorem dJ2_length_9d52b_0 : decode cJ2_length_9d52b 0 = .ok (.aload_n 0, 1) := by decide +kernel
theorem dJ2_length_9d52b_1 : decode cJ2_length_9d52b 1 = .ok (.arraylength, 1) := by decide +kernel
theorem dJ2_length_9d52b_2 : decode cJ2_length_9d52b 2 = .ok (.iconst 1, 1) := by decide +kernel
theorem dJ2_length_9d52b_3 : decode cJ2_length_9d52b 3 = .ok (.ishr, 1) := by decide +kernel
theorem dJ2_length_9d52b_4 : decode cJ2_length_9d52b 4 = .ok (.ireturn, 1) := by decide +kernel
theorem dJ2_indexOf_4cfef_0 : decode cJ2_indexOf_4cfef 0 = .ok (.iload_n 2, 1) := by decide +kernel
theorem dJ2_indexOf_4cfef_1 : decode cJ2_indexOf_4cfef 1 = .ok (.iconst 0, 1) := by decide +kernel
theorem dJ2_indexOf_4cfef_2 : decode cJ2_indexOf_4cfef 2 = .ok (.invokestatic 224, 3) := by decide +kernel
theorem dJ2_indexOf_4cfef_5 : decode cJ2_indexOf_4cfef 5 = .ok (.istore_n 2, 1) := by decide +kernel
theorem dJ2_indexOf_4cfef_6 : decode cJ2_indexOf_4cfef 6 = .ok (.iload_n 3, 1) := by decide +kernel
theorem dJ2_indexOf_4cfef_7 : decode cJ2_indexOf_4cfef 7 = .ok (.aload_n 0, 1) := by decide +kernel
theorem dJ2_indexOf_4cfef_8 : decode cJ2_indexOf_4cfef 8 = .ok (.arraylength, 1) := by decide +kernel
theorem dJ2_indexOf_4cfef_9 : decode cJ2_indexOf_4cfef 9 = .ok (.iconst 1, 1) := by decide +kernel
theorem dJ2_indexOf_4cfef_10 : decode cJ2_indexOf_4cfef 10 = .ok (.ishr, 1) := by decide +kernel
theorem dJ2_indexOf_4cfef_11 : decode cJ2_indexOf_4cfef 11 = .ok (.invokestatic 183, 3) := by decide +kernel
theorem dJ2_indexOf_4cfef_14 : decode cJ2_indexOf_4cfef 14 = .ok (.istore_n 3, 1) := by decide +kernel
theorem dJ2_indexOf_4cfef_15 : decode cJ2_indexOf_4cfef 15 = .ok (.iload_n 2, 1) := by decide +kernel
theorem dJ2_indexOf_4cfef_16 : decode cJ2_indexOf_4cfef 16 = .ok (.iload_n 3, 1) := by decide +kernel
theorem dJ2_indexOf_4cfef_17 : decode cJ2_indexOf_4cfef 17 = .ok (.if_icmp .lt 5, 3) := by decide +kernel
theorem dJ2_indexOf_4cfef_20 : decode cJ2_indexOf_4cfef 20 = .ok (.iconst (-1), 1) := by decide +kernel
theorem dJ2_indexOf_4cfef_21 : decode cJ2_indexOf_4cfef 21 = .ok (.ireturn, 1) := by decide +kernel
theorem dJ2_indexOf_4cfef_22 : decode cJ2_indexOf_4cfef 22 = .ok (.iload_n 1, 1) := by decide +kernel
theorem dJ2_indexOf_4cfef_23 : decode cJ2_indexOf_4cfef 23 = .ok (.ldc 227, 2) := by decide +kernel
theorem dJ2_indexOf_4cfef_25 : decode cJ2_indexOf_4cfef 25 = .ok (.if_icmp .ge 11, 3) := by decide +kernel
theorem dJ2_indexOf_4cfef_28 : decode cJ2_indexOf_4cfef 28 = .ok (.aload_n 0, 1) := by decide +kernel
theorem dJ2_indexOf_4cfef_29 : decode cJ2_indexOf_4cfef 29 = .ok (.iload_n 1, 1) := by decide +kernel
theorem dJ2_indexOf_4cfef_30 : decode cJ2_indexOf_4cfef 30 = .ok (.iload_n 2, 1) := by decide +kernel
theorem dJ2_indexOf_4cfef_31 : decode cJ2_indexOf_4cfef 31 = .ok (.iload_n 3, 1) := by decide +kernel
theorem dJ2_indexOf_4cfef_32 : decode cJ2_indexOf_4cfef 32 = .ok (.invokestatic 228, 3) := by decide +kernel
theorem dJ2_indexOf_4cfef_35 : decode cJ2_indexOf_4cfef 35 = .ok (.ireturn, 1) := by decide +kernel
theorem dJ2_indexOf_4cfef_36 : decode cJ2_indexOf_4cfef 36 = .ok (.aload_n 0, 1) := by decide +kernel
theorem dJ2_indexOf_4cfef_37 : decode cJ2_indexOf_4cfef 37 = .ok (.iload_n 1, 1) := by decide +kernel
theorem dJ2_indexOf_4cfef_38 : decode cJ2_indexOf_4cfef 38 = .ok (.iload_n 2, 1) := by decide +kernel
theorem dJ2_indexOf_4cfef_39 : decode cJ2_indexOf_4cfef 39 = .ok (.iload_n 3, 1) := by decide +kernel
theorem dJ2_indexOf_4cfef_40 : decode cJ2_indexOf_4cfef 40 = .ok (.invokestatic 232, 3) := by decide +kernel
theorem dJ2_indexOf_4cfef_43 : decode cJ2_indexOf_4cfef 43 = .ok (.ireturn, 1) := by decide +kernel
theorem dJ2_indexOfChar_4cfef_0 : decode cJ2_indexOfChar_4cfef 0 = .ok (.iload_n 2, 1) := by decide +kernel
theorem dJ2_indexOfChar_4cfef_1 : decode cJ2_indexOfChar_4cfef 1 = .ok (.iload_n 3, 1) := by decide +kernel
theorem dJ2_indexOfChar_4cfef_2 : decode cJ2_indexOfChar_4cfef 2 = .ok (.aload_n 0, 1) := by decide +kernel
theorem dJ2_indexOfChar_4cfef_3 : decode cJ2_indexOfChar_4cfef 3 = .ok (.invokestatic 96, 3) := by decide +kernel
theorem dJ2_indexOfChar_4cfef_6 : decode cJ2_indexOfChar_4cfef 6 = .ok (.aload_n 0, 1) := by decide +kernel
theorem dJ2_indexOfChar_4cfef_7 : decode cJ2_indexOfChar_4cfef 7 = .ok (.iload_n 1, 1) := by decide +kernel
theorem dJ2_indexOfChar_4cfef_8 : decode cJ2_indexOfChar_4cfef 8 = .ok (.iload_n 2, 1) := by decide +kernel
theorem dJ2_indexOfChar_4cfef_9 : decode cJ2_indexOfChar_4cfef 9 = .ok (.iload_n 3, 1) := by decide +kernel
theorem dJ2_indexOfChar_4cfef_10 : decode cJ2_indexOfChar_4cfef 10 = .ok (.invokestatic 244, 3) := by decide +kernel
theorem dJ2_indexOfChar_4cfef_13 : decode cJ2_indexOfChar_4cfef 13 = .ok (.ireturn, 1) := by decide +kernel
theorem dJ2_indexOfCharUnsafe_4cfef_0 : decode cJ2_indexOfCharUnsafe_4cfef 0 = .ok (.iload_n 2, 1) := by decide +kernel
theorem dJ2_indexOfCharUnsafe_4cfef_1 : decode cJ2_indexOfCharUnsafe_4cfef 1 = .ok (.istore 4, 2) := by decide +kernel
theorem dJ2_indexOfCharUnsafe_4cfef_3 : decode cJ2_indexOfCharUnsafe_4cfef 3 = .ok (.iload 4, 2) := by decide +kernel
theorem dJ2_indexOfCharUnsafe_4cfef_5 : decode cJ2_indexOfCharUnsafe_4cfef 5 = .ok (.iload_n 3, 1) := by decide +kernel
theorem dJ2_indexOfCharUnsafe_4cfef_6 : decode cJ2_indexOfCharUnsafe_4cfef 6 = .ok (.if_icmp .ge 22, 3) := by decide +kernel
theorem dJ2_indexOfCharUnsafe_4cfef_9 : decode cJ2_indexOfCharUnsafe_4cfef 9 = .ok (.aload_n 0, 1) := by decide +kernel
theorem dJ2_indexOfCharUnsafe_4cfef_10 : decode cJ2_indexOfCharUnsafe_4cfef 10 = .ok (.iload 4, 2) := by decide +kernel
theorem dJ2_indexOfCharUnsafe_4cfef_12 : decode cJ2_indexOfCharUnsafe_4cfef 12 = .ok (.invokestatic 71, 3) := by decide +kernel
theorem dJ2_indexOfCharUnsafe_4cfef_15 : decode cJ2_indexOfCharUnsafe_4cfef 15 = .ok (.iload_n 1, 1) := by decide +kernel
theorem dJ2_indexOfCharUnsafe_4cfef_16 : decode cJ2_indexOfCharUnsafe_4cfef 16 = .ok (.if_icmp .ne 6, 3) := by decide +kernel
theorem dJ2_indexOfCharUnsafe_4cfef_19 : decode cJ2_indexOfCharUnsafe_4cfef 19 = .ok (.iload 4, 2) := by decide +kernel
theorem dJ2_indexOfCharUnsafe_4cfef_21 : decode cJ2_indexOfCharUnsafe_4cfef 21 = .ok (.ireturn, 1) := by decide +kernel
theorem dJ2_indexOfCharUnsafe_4cfef_22 : decode cJ2_indexOfCharUnsafe_4cfef 22 = .ok (.iinc 4 1, 3) := by decide +kernel
theorem dJ2_indexOfCharUnsafe_4cfef_25 : decode cJ2_indexOfCharUnsafe_4cfef 25 = .ok (.goto (-22), 3) := by decide +kernel
theorem dJ2_indexOfCharUnsafe_4cfef_28 : decode cJ2_indexOfCharUnsafe_4cfef 28 = .ok (.iconst (-1), 1) := by decide +kernel
theorem dJ2_indexOfCharUnsafe_4cfef_29 : decode cJ2_indexOfCharUnsafe_4cfef 29 = .ok (.ireturn, 1) := by decide +kernel
theorem dJ2_indexOfSupplementary_4cfef_0 : decode cJ2_indexOfSupplementary_4cfef 0 = .ok (.iload_n 1, 1) := by decide +kernel
theorem dJ2_indexOfSupplementary_4cfef_1 : decode cJ2_indexOfSupplementary_4cfef 1 = .ok (.invokestatic 164, 3) := by decide +kernel
theorem dJ2_indexOfSupplementary_4cfef_4 : decode cJ2_indexOfSupplementary_4cfef 4 = .ok (.ifCond .eq 65, 3) := by decide +kernel
theorem dJ2_indexOfSupplementary_4cfef_7 : decode cJ2_indexOfSupplementary_4cfef 7 = .ok (.iload_n 1, 1) := by decide +kernel
theorem dJ2_indexOfSupplementary_4cfef_8 : decode cJ2_indexOfSupplementary_4cfef 8 = .ok (.invokestatic 157, 3) := by decide +kernel
theorem dJ2_indexOfSupplementary_4cfef_11 : decode cJ2_indexOfSupplementary_4cfef 11 = .ok (.istore 4, 2) := by decide +kernel
theorem dJ2_indexOfSupplementary_4cfef_13 : decode cJ2_indexOfSupplementary_4cfef 13 = .ok (.iload_n 1, 1) := by decide +kernel
theorem dJ2_indexOfSupplementary_4cfef_14 : decode cJ2_indexOfSupplementary_4cfef 14 = .ok (.invokestatic 161, 3) := by decide +kernel
theorem dJ2_indexOfSupplementary_4cfef_17 : decode cJ2_indexOfSupplementary_4cfef 17 = .ok (.istore 5, 2) := by decide +kernel
theorem dJ2_indexOfSupplementary_4cfef_19 : decode cJ2_indexOfSupplementary_4cfef 19 = .ok (.iload_n 2, 1) := by decide +kernel
theorem dJ2_indexOfSupplementary_4cfef_20 : decode cJ2_indexOfSupplementary_4cfef 20 = .ok (.iload_n 3, 1) := by decide +kernel
theorem dJ2_indexOfSupplementary_4cfef_21 : decode cJ2_indexOfSupplementary_4cfef 21 = .ok (.aload_n 0, 1) := by decide +kernel
theorem dJ2_indexOfSupplementary_4cfef_22 : decode cJ2_indexOfSupplementary_4cfef 22 = .ok (.invokestatic 96, 3) := by decide +kernel
theorem dJ2_indexOfSupplementary_4cfef_25 : decode cJ2_indexOfSupplementary_4cfef 25 = .ok (.iload_n 2, 1) := by decide +kernel
theorem dJ2_indexOfSupplementary_4cfef_26 : decode cJ2_indexOfSupplementary_4cfef 26 = .ok (.istore 6, 2) := by decide +kernel
theorem dJ2_indexOfSupplementary_4cfef_28 : decode cJ2_indexOfSupplementary_4cfef 28 = .ok (.iload 6, 2) := by decide +kernel
theorem dJ2_indexOfSupplementary_4cfef_30 : decode cJ2_indexOfSupplementary_4cfef 30 = .ok (.iload_n 3, 1) := by decide +kernel
theorem dJ2_indexOfSupplementary_4cfef_31 : decode cJ2_indexOfSupplementary_4cfef 31 = .ok (.iconst 1, 1) := by decide +kernel
theorem dJ2_indexOfSupplementary_4cfef_32 : decode cJ2_indexOfSupplementary_4cfef 32 = .ok (.isub, 1) := by decide +kernel
theorem dJ2_indexOfSupplementary_4cfef_33 : decode cJ2_indexOfSupplementary_4cfef 33 = .ok (.if_icmp .ge 36, 3) := by decide +kernel
theorem dJ2_indexOfSupplementary_4cfef_36 : decode cJ2_indexOfSupplementary_4cfef 36 = .ok (.aload_n 0, 1) := by decide +kernel
theorem dJ2_indexOfSupplementary_4cfef_37 : decode cJ2_indexOfSupplementary_4cfef 37 = .ok (.iload 6, 2) := by decide +kernel
theorem dJ2_indexOfSupplementary_4cfef_39 : decode cJ2_indexOfSupplementary_4cfef 39 = .ok (.invokestatic 71, 3) := by decide +kernel
theorem dJ2_indexOfSupplementary_4cfef_42 : decode cJ2_indexOfSupplementary_4cfef 42 = .ok (.iload 4, 2) := by decide +kernel
theorem dJ2_indexOfSupplementary_4cfef_44 : decode cJ2_indexOfSupplementary_4cfef 44 = .ok (.if_icmp .ne 19, 3) := by decide +kernel
theorem dJ2_indexOfSupplementary_4cfef_47 : decode cJ2_indexOfSupplementary_4cfef 47 = .ok (.aload_n 0, 1) := by decide +kernel
theorem dJ2_indexOfSupplementary_4cfef_48 : decode cJ2_indexOfSupplementary_4cfef 48 = .ok (.iload 6, 2) := by decide +kernel
theorem dJ2_indexOfSupplementary_4cfef_50 : decode cJ2_indexOfSupplementary_4cfef 50 = .ok (.iconst 1, 1) := by decide +kernel
theorem dJ2_indexOfSupplementary_4cfef_51 : decode cJ2_indexOfSupplementary_4cfef 51 = .ok (.iadd, 1) := by decide +kernel
theorem dJ2_indexOfSupplementary_4cfef_52 : decode cJ2_indexOfSupplementary_4cfef 52 = .ok (.invokestatic 71, 3) := by decide +kernel
theorem dJ2_indexOfSupplementary_4cfef_55 : decode cJ2_indexOfSupplementary_4cfef 55 = .ok (.iload 5, 2) := by decide +kernel
theorem dJ2_indexOfSupplementary_4cfef_57 : decode cJ2_indexOfSupplementary_4cfef 57 = .ok (.if_icmp .ne 6, 3) := by decide +kernel
theorem dJ2_indexOfSupplementary_4cfef_60 : decode cJ2_indexOfSupplementary_4cfef 60 = .ok (.iload 6, 2) := by decide +kernel
theorem dJ2_indexOfSupplementary_4cfef_62 : decode cJ2_indexOfSupplementary_4cfef 62 = .ok (.ireturn, 1) := by decide +kernel
theorem dJ2_indexOfSupplementary_4cfef_63 : decode cJ2_indexOfSupplementary_4cfef 63 = .ok (.iinc 6 1, 3) := by decide +kernel
theorem dJ2_indexOfSupplementary_4cfef_66 : decode cJ2_indexOfSupplementary_4cfef 66 = .ok (.goto (-38), 3) := by decide +kernel
theorem dJ2_indexOfSupplementary_4cfef_69 : decode cJ2_indexOfSupplementary_4cfef 69 = .ok (.iconst (-1), 1) := by decide +kernel
theorem dJ2_indexOfSupplementary_4cfef_70 : decode cJ2_indexOfSupplementary_4cfef 70 = .ok (.ireturn, 1) := by decide +kernel
theorem dJ2_checkBoundsBeginEnd_d044e_0 : decode cJ2_checkBoundsBeginEnd_d044e 0 = .ok (.iload_n 0, 1) := by decide +kernel
theorem dJ2_checkBoundsBeginEnd_d044e_1 : decode cJ2_checkBoundsBeginEnd_d044e 1 = .ok (.iload_n 1, 1) := by decide +kernel
theorem dJ2_checkBoundsBeginEnd_d044e_2 : decode cJ2_checkBoundsBeginEnd_d044e 2 = .ok (.aload_n 2, 1) := by decide +kernel
theorem dJ2_checkBoundsBeginEnd_d044e_3 : decode cJ2_checkBoundsBeginEnd_d044e 3 = .ok (.invokestatic 48, 3) := by decide +kernel
theorem dJ2_checkBoundsBeginEnd_d044e_6 : decode cJ2_checkBoundsBeginEnd_d044e 6 = .ok (.invokestatic 241, 3) := by decide +kernel
theorem dJ2_checkBoundsBeginEnd_d044e_9 : decode cJ2_checkBoundsBeginEnd_d044e 9 = .ok (.return_, 1) := by decide +kernel
theorem dJ3_checkFromToIndex_8c36e_0 : decode cJ3_checkFromToIndex_8c36e 0 = .ok (.iload_n 0, 1) := by decide +kernel
theorem dJ3_checkFromToIndex_8c36e_1 : decode cJ3_checkFromToIndex_8c36e 1 = .ok (.ifCond .lt 13, 3) := by decide +kernel
theorem dJ3_checkFromToIndex_8c36e_4 : decode cJ3_checkFromToIndex_8c36e 4 = .ok (.iload_n 0, 1) := by decide +kernel
theorem dJ3_checkFromToIndex_8c36e_5 : decode cJ3_checkFromToIndex_8c36e 5 = .ok (.iload_n 1, 1) := by decide +kernel
theorem dJ3_checkFromToIndex_8c36e_6 : decode cJ3_checkFromToIndex_8c36e 6 = .ok (.if_icmp .gt 8, 3) := by decide +kernel
theorem dJ3_checkFromToIndex_8c36e_9 : decode cJ3_checkFromToIndex_8c36e 9 = .ok (.iload_n 1, 1) := by decide +kernel
theorem dJ3_checkFromToIndex_8c36e_10 : decode cJ3_checkFromToIndex_8c36e 10 = .ok (.iload_n 2, 1) := by decide +kernel
theorem dJ3_checkFromToIndex_8c36e_11 : decode cJ3_checkFromToIndex_8c36e 11 = .ok (.if_icmp .le 11, 3) := by decide +kernel
theorem dJ3_checkFromToIndex_8c36e_14 : decode cJ3_checkFromToIndex_8c36e 14 = .ok (.aload_n 3, 1) := by decide +kernel
theorem dJ3_checkFromToIndex_8c36e_15 : decode cJ3_checkFromToIndex_8c36e 15 = .ok (.iload_n 0, 1) := by decide +kernel
theorem dJ3_checkFromToIndex_8c36e_16 : decode cJ3_checkFromToIndex_8c36e 16 = .ok (.iload_n 1, 1) := by decide +kernel
theorem dJ3_checkFromToIndex_8c36e_17 : decode cJ3_checkFromToIndex_8c36e 17 = .ok (.iload_n 2, 1) := by decide +kernel
theorem dJ3_checkFromToIndex_8c36e_18 : decode cJ3_checkFromToIndex_8c36e 18 = .ok (.invokestatic 99, 3) := by decide +kernel
theorem dJ3_checkFromToIndex_8c36e_21 : decode cJ3_checkFromToIndex_8c36e 21 = .ok (.athrow, 1) := by decide +kernel
theorem dJ3_checkFromToIndex_8c36e_22 : decode cJ3_checkFromToIndex_8c36e 22 = .ok (.iload_n 0, 1) := by decide +kernel
theorem dJ3_checkFromToIndex_8c36e_23 : decode cJ3_checkFromToIndex_8c36e 23 = .ok (.ireturn, 1) := by decide +kernel
end
section
theorem dX7_init_0 : decode cX7_init 0 = .ok (.aload_n 0, 1) := by decide +kernel
theorem dX7_init_1 : decode cX7_init 1 = .ok (.invokespecial 1, 3) := by decide +kernel
theorem dX7_init_4 : decode cX7_init 4 = .ok (.aload_n 0, 1) := by decide +kernel
theorem dX7_init_5 : decode cX7_init 5 = .ok (.bipush 12, 2) := by decide +kernel
theorem dX7_init_7 : decode cX7_init 7 = .ok (.newarray .int, 2) := by decide +kernel
theorem dX7_init_9 : decode cX7_init 9 = .ok (.putfield 7, 3) := by decide +kernel
theorem dX7_init_12 : decode cX7_init 12 = .ok (.aload_n 0, 1) := by decide +kernel
theorem dX7_init_13 : decode cX7_init 13 = .ok (.bipush 12, 2) := by decide +kernel
theorem dX7_init_15 : decode cX7_init 15 = .ok (.newarray .int, 2) := by decide +kernel
theorem dX7_init_17 : decode cX7_init 17 = .ok (.putfield 13, 3) := by decide +kernel
theorem dX7_init_20 : decode cX7_init 20 = .ok (.aload_n 0, 1) := by decide +kernel
theorem dX7_init_21 : decode cX7_init 21 = .ok (.bipush 20, 2) := by decide +kernel
theorem dX7_init_23 : decode cX7_init 23 = .ok (.newarray .int, 2) := by decide +kernel
theorem dX7_init_25 : decode cX7_init 25 = .ok (.putfield 16, 3) := by decide +kernel
theorem dX7_init_28 : decode cX7_init 28 = .ok (.aload_n 0, 1) := by decide +kernel
theorem dX7_init_29 : decode cX7_init 29 = .ok (.bipush 20, 2) := by decide +kernel
theorem dX7_init_31 : decode cX7_init 31 = .ok (.newarray .int, 2) := by decide +kernel
theorem dX7_init_33 : decode cX7_init 33 = .ok (.putfield 19, 3) := by decide +kernel
theorem dX7_init_36 : decode cX7_init 36 = .ok (.aload_n 0, 1) := by decide +kernel
theorem dX7_init_37 : decode cX7_init 37 = .ok (.bipush 120, 2) := by decide +kernel
theorem dX7_init_39 : decode cX7_init 39 = .ok (.newarray .int, 2) := by decide +kernel
theorem dX7_init_41 : decode cX7_init 41 = .ok (.putfield 22, 3) := by decide +kernel
theorem dX7_init_44 : decode cX7_init 44 = .ok (.aload_n 0, 1) := by decide +kernel
theorem dX7_init_45 : decode cX7_init 45 = .ok (.bipush 120, 2) := by decide +kernel
theorem dX7_init_47 : decode cX7_init 47 = .ok (.newarray .int, 2) := by decide +kernel
theorem dX7_init_49 : decode cX7_init 49 = .ok (.putfield 25, 3) := by decide +kernel
theorem dX7_init_52 : decode cX7_init 52 = .ok (.aload_n 0, 1) := by decide +kernel
theorem dX7_init_53 : decode cX7_init 53 = .ok (.bipush 120, 2) := by decide +kernel
theorem dX7_init_55 : decode cX7_init 55 = .ok (.newarray .int, 2) := by decide +kernel
theorem dX7_init_57 : decode cX7_init 57 = .ok (.putfield 28, 3) := by decide +kernel
theorem dX7_init_60 : decode cX7_init 60 = .ok (.aload_n 0, 1) := by decide +kernel
theorem dX7_init_61 : decode cX7_init 61 = .ok (.iconst 5, 1) := by decide +kernel
theorem dX7_init_62 : decode cX7_init 62 = .ok (.putfield 31, 3) := by decide +kernel
theorem dX7_init_65 : decode cX7_init 65 = .ok (.aload_n 0, 1) := by decide +kernel
theorem dX7_init_66 : decode cX7_init 66 = .ok (.bipush 9, 2) := by decide +kernel
theorem dX7_init_68 : decode cX7_init 68 = .ok (.newarray .int, 2) := by decide +kernel
theorem dX7_init_70 : decode cX7_init 70 = .ok (.dup, 1) := by decide +kernel
theorem dX7_init_71 : decode cX7_init 71 = .ok (.iconst 0, 1) := by decide +kernel
theorem dX7_init_72 : decode cX7_init 72 = .ok (.iconst 0, 1) := by decide +kernel
theorem dX7_init_73 : decode cX7_init 73 = .ok (.iastore, 1) := by decide +kernel
theorem dX7_init_74 : decode cX7_init 74 = .ok (.dup, 1) := by decide +kernel
theorem dX7_init_75 : decode cX7_init 75 = .ok (.iconst 1, 1) := by decide +kernel
theorem dX7_init_76 : decode cX7_init 76 = .ok (.iconst 1, 1) := by decide +kernel
theorem dX7_init_77 : decode cX7_init 77 = .ok (.iastore, 1) := by decide +kernel
theorem dX7_init_78 : decode cX7_init 78 = .ok (.dup, 1) := by decide +kernel
theorem dX7_init_79 : decode cX7_init 79 = .ok (.iconst 2, 1) := by decide +kernel
theorem dX7_init_80 : decode cX7_init 80 = .ok (.iconst 3, 1) := by decide +kernel
theorem dX7_init_81 : decode cX7_init 81 = .ok (.iastore, 1) := by decide +kernel
theorem dX7_init_82 : decode cX7_init 82 = .ok (.dup, 1) := by decide +kernel
theorem dX7_init_83 : decode cX7_init 83 = .ok (.iconst 3, 1) := by decide +kernel
theorem dX7_init_84 : decode cX7_init 84 = .ok (.iconst 4, 1) := by decide +kernel
theorem dX7_init_85 : decode cX7_init 85 = .ok (.iastore, 1) := by decide +kernel
theorem dX7_init_86 : decode cX7_init 86 = .ok (.dup, 1) := by decide +kernel
theorem dX7_init_87 : decode cX7_init 87 = .ok (.iconst 4, 1) := by decide +kernel
theorem dX7_init_88 : decode cX7_init 88 = .ok (.bipush 8, 2) := by decide +kernel
theorem dX7_init_90 : decode cX7_init 90 = .ok (.iastore, 1) := by decide +kernel
theorem dX7_init_91 : decode cX7_init 91 = .ok (.dup, 1) := by decide +kernel
theorem dX7_init_92 : decode cX7_init 92 = .ok (.iconst 5, 1) := by decide +kernel
theorem dX7_init_93 : decode cX7_init 93 = .ok (.iconst 0, 1) := by decide +kernel
theorem dX7_init_94 : decode cX7_init 94 = .ok (.iastore, 1) := by decide +kernel
theorem dX7_init_95 : decode cX7_init 95 = .ok (.dup, 1) := by decide +kernel
theorem dX7_init_96 : decode cX7_init 96 = .ok (.bipush 6, 2) := by decide +kernel
theorem dX7_init_98 : decode cX7_init 98 = .ok (.iconst 0, 1) := by decide +kernel
theorem dX7_init_99 : decode cX7_init 99 = .ok (.iastore, 1) := by decide +kernel
theorem dX7_init_100 : decode cX7_init 100 = .ok (.dup, 1) := by decide +kernel
theorem dX7_init_101 : decode cX7_init 101 = .ok (.bipush 7, 2) := by decide +kernel
theorem dX7_init_103 : decode cX7_init 103 = .ok (.iconst 0, 1) := by decide +kernel
theorem dX7_init_104 : decode cX7_init 104 = .ok (.iastore, 1) := by decide +kernel
theorem dX7_init_105 : decode cX7_init 105 = .ok (.dup, 1) := by decide +kernel
theorem dX7_init_106 : decode cX7_init 106 = .ok (.bipush 8, 2) := by decide +kernel
theorem dX7_init_108 : decode cX7_init 108 = .ok (.iconst 0, 1) := by decide +kernel
theorem dX7_init_109 : decode cX7_init 109 = .ok (.iastore, 1) := by decide +kernel
theorem dX7_init_110 : decode cX7_init 110 = .ok (.putfield 35, 3) := by decide +kernel
theorem dX7_init_113 : decode cX7_init 113 = .ok (.aload_n 0, 1) := by decide +kernel
theorem dX7_init_114 : decode cX7_init 114 = .ok (.bipush 108, 2) := by decide +kernel
theorem dX7_init_116 : decode cX7_init 116 = .ok (.newarray .int, 2) := by decide +kernel
theorem dX7_init_118 : decode cX7_init 118 = .ok (.putfield 38, 3) := by decide +kernel
theorem dX7_init_121 : decode cX7_init 121 = .ok (.aload_n 0, 1) := by decide +kernel
theorem dX7_init_122 : decode cX7_init 122 = .ok (.bipush 12, 2) := by decide +kernel
theorem dX7_init_124 : decode cX7_init 124 = .ok (.newarray .int, 2) := by decide +kernel
theorem dX7_init_126 : decode cX7_init 126 = .ok (.putfield 41, 3) := by decide +kernel
theorem dX7_init_129 : decode cX7_init 129 = .ok (.aload_n 0, 1) := by decide +kernel
theorem dX7_init_130 : decode cX7_init 130 = .ok (.bipush 12, 2) := by decide +kernel
theorem dX7_init_132 : decode cX7_init 132 = .ok (.newarray .int, 2) := by decide +kernel
theorem dX7_init_134 : decode cX7_init 134 = .ok (.putfield 44, 3) := by decide +kernel
theorem dX7_init_137 : decode cX7_init 137 = .ok (.aload_n 0, 1) := by decide +kernel
theorem dX7_init_138 : decode cX7_init 138 = .ok (.sipush 144, 3) := by decide +kernel
theorem dX7_init_141 : decode cX7_init 141 = .ok (.newarray .int, 2) := by decide +kernel
theorem dX7_init_143 : decode cX7_init 143 = .ok (.putfield 47, 3) := by decide +kernel
theorem dX7_init_146 : decode cX7_init 146 = .ok (.aload_n 0, 1) := by decide +kernel
theorem dX7_init_147 : decode cX7_init 147 = .ok (.sipush 4096, 3) := by decide +kernel
theorem dX7_init_150 : decode cX7_init 150 = .ok (.newarray .int, 2) := by decide +kernel
theorem dX7_init_152 : decode cX7_init 152 = .ok (.putfield 50, 3) := by decide +kernel
theorem dX7_init_155 : decode cX7_init 155 = .ok (.aload_n 0, 1) := by decide +kernel
theorem dX7_init_156 : decode cX7_init 156 = .ok (.sipush 4096, 3) := by decide +kernel
theorem dX7_init_159 : decode cX7_init 159 = .ok (.newarray .int, 2) := by decide +kernel
theorem dX7_init_161 : decode cX7_init 161 = .ok (.putfield 53, 3) := by decide +kernel
theorem dX7_init_164 : decode cX7_init 164 = .ok (.aload_n 0, 1) := by decide +kernel
theorem dX7_init_165 : decode cX7_init 165 = .ok (.bipush 40, 2) := by decide +kernel
theorem dX7_init_167 : decode cX7_init 167 = .ok (.newarray .int, 2) := by decide +kernel
theorem dX7_init_169 : decode cX7_init 169 = .ok (.putfield 56, 3) := by decide +kernel
theorem dX7_init_172 : decode cX7_init 172 = .ok (.aload_n 0, 1) := by decide +kernel
theorem dX7_init_173 : decode cX7_init 173 = .ok (.bipush 120, 2) := by decide +kernel
theorem dX7_init_175 : decode cX7_init 175 = .ok (.newarray .int, 2) := by decide +kernel
theorem dX7_init_177 : decode cX7_init 177 = .ok (.putfield 59, 3) := by decide +kernel
theorem dX7_init_180 : decode cX7_init 180 = .ok (.aload_n 0, 1) := by decide +kernel
theorem dX7_init_181 : decode cX7_init 181 = .ok (.iconst 4, 1) := by decide +kernel
theorem dX7_init_182 : decode cX7_init 182 = .ok (.newarray .boolean, 2) := by decide +kernel
theorem dX7_init_184 : decode cX7_init 184 = .ok (.putfield 62, 3) := by decide +kernel
theorem dX7_init_187 : decode cX7_init 187 = .ok (.aload_n 0, 1) := by decide +kernel
theorem dX7_init_188 : decode cX7_init 188 = .ok (.iconst 4, 1) := by decide +kernel
theorem dX7_init_189 : decode cX7_init 189 = .ok (.newarray .int, 2) := by decide +kernel
theorem dX7_init_191 : decode cX7_init 191 = .ok (.putfield 66, 3) := by decide +kernel
theorem dX7_init_194 : decode cX7_init 194 = .ok (.aload_n 0, 1) := by decide +kernel
theorem dX7_init_195 : decode cX7_init 195 = .ok (.bipush 80, 2) := by decide +kernel
theorem dX7_init_197 : decode cX7_init 197 = .ok (.newarray .int, 2) := by decide +kernel
theorem dX7_init_199 : decode cX7_init 199 = .ok (.putfield 69, 3) := by decide +kernel
theorem dX7_init_202 : decode cX7_init 202 = .ok (.aload_n 0, 1) := by decide +kernel
theorem dX7_init_203 : decode cX7_init 203 = .ok (.sipush 460, 3) := by decide +kernel
theorem dX7_init_206 : decode cX7_init 206 = .ok (.newarray .int, 2) := by decide +kernel
theorem dX7_init_208 : decode cX7_init 208 = .ok (.putfield 72, 3) := by decide +kernel
theorem dX7_init_211 : decode cX7_init 211 = .ok (.aload_n 0, 1) := by decide +kernel
theorem dX7_init_212 : decode cX7_init 212 = .ok (.iconst 0, 1) := by decide +kernel
theorem dX7_init_213 : decode cX7_init 213 = .ok (.putfield 75, 3) := by decide +kernel
theorem dX7_init_216 : decode cX7_init 216 = .ok (.return_, 1) := by decide +kernel
theorem dX7_in_0 : decode cX7_in 0 = .ok (.lload_n 0, 1) := by decide +kernel
theorem dX7_in_1 : decode cX7_in 1 = .ok (.lload_n 2, 1) := by decide +kernel
theorem dX7_in_2 : decode cX7_in 2 = .ok (.lcmp, 1) := by decide +kernel
theorem dX7_in_3 : decode cX7_in 3 = .ok (.ifCond .lt 14, 3) := by decide +kernel
theorem dX7_in_6 : decode cX7_in 6 = .ok (.lload_n 0, 1) := by decide +kernel
theorem dX7_in_7 : decode cX7_in 7 = .ok (.lload 4, 2) := by decide +kernel
theorem dX7_in_9 : decode cX7_in 9 = .ok (.lcmp, 1) := by decide +kernel
theorem dX7_in_10 : decode cX7_in 10 = .ok (.ifCond .gt 7, 3) := by decide +kernel
theorem dX7_in_13 : decode cX7_in 13 = .ok (.iconst 1, 1) := by decide +kernel
theorem dX7_in_14 : decode cX7_in 14 = .ok (.goto 4, 3) := by decide +kernel
theorem dX7_in_17 : decode cX7_in 17 = .ok (.iconst 0, 1) := by decide +kernel
theorem dX7_in_18 : decode cX7_in 18 = .ok (.ireturn, 1) := by decide +kernel
theorem dX7_isPlayer_0 : decode cX7_isPlayer 0 = .ok (.iload_n 1, 1) := by decide +kernel
theorem dX7_isPlayer_1 : decode cX7_isPlayer 1 = .ok (.i2l, 1) := by decide +kernel
theorem dX7_isPlayer_2 : decode cX7_isPlayer 2 = .ok (.lconst 0, 1) := by decide +kernel
theorem dX7_isPlayer_3 : decode cX7_isPlayer 3 = .ok (.aload_n 0, 1) := by decide +kernel
theorem dX7_isPlayer_4 : decode cX7_isPlayer 4 = .ok (.getfield 78, 3) := by decide +kernel
theorem dX7_isPlayer_7 : decode cX7_isPlayer 7 = .ok (.iconst 1, 1) := by decide +kernel
theorem dX7_isPlayer_8 : decode cX7_isPlayer 8 = .ok (.isub, 1) := by decide +kernel
theorem dX7_isPlayer_9 : decode cX7_isPlayer 9 = .ok (.i2l, 1) := by decide +kernel
theorem dX7_isPlayer_10 : decode cX7_isPlayer 10 = .ok (.invokestatic 81, 3) := by decide +kernel
theorem dX7_isPlayer_13 : decode cX7_isPlayer 13 = .ok (.ireturn, 1) := by decide +kernel
theorem dX7_areTwo_0 : decode cX7_areTwo 0 = .ok (.aload_n 0, 1) := by decide +kernel
theorem dX7_areTwo_1 : decode cX7_areTwo 1 = .ok (.iload_n 1, 1) := by decide +kernel
theorem dX7_areTwo_2 : decode cX7_areTwo 2 = .ok (.invokevirtual 85, 3) := by decide +kernel
theorem dX7_areTwo_5 : decode cX7_areTwo 5 = .ok (.ifCond .eq 20, 3) := by decide +kernel
theorem dX7_areTwo_8 : decode cX7_areTwo 8 = .ok (.aload_n 0, 1) := by decide +kernel
theorem dX7_areTwo_9 : decode cX7_areTwo 9 = .ok (.iload_n 2, 1) := by decide +kernel
theorem dX7_areTwo_10 : decode cX7_areTwo 10 = .ok (.invokevirtual 85, 3) := by decide +kernel
theorem dX7_areTwo_13 : decode cX7_areTwo 13 = .ok (.ifCond .eq 12, 3) := by decide +kernel
theorem dX7_areTwo_16 : decode cX7_areTwo 16 = .ok (.iload_n 1, 1) := by decide +kernel
theorem dX7_areTwo_17 : decode cX7_areTwo 17 = .ok (.iload_n 2, 1) := by decide +kernel
theorem dX7_areTwo_18 : decode cX7_areTwo 18 = .ok (.if_icmp .eq 7, 3) := by decide +kernel
theorem dX7_areTwo_21 : decode cX7_areTwo 21 = .ok (.iconst 1, 1) := by decide +kernel
theorem dX7_areTwo_22 : decode cX7_areTwo 22 = .ok (.goto 4, 3) := by decide +kernel
theorem dX7_areTwo_25 : decode cX7_areTwo 25 = .ok (.iconst 0, 1) := by decide +kernel
theorem dX7_areTwo_26 : decode cX7_areTwo 26 = .ok (.ireturn, 1) := by decide +kernel
theorem dX7_manyIn_0 : decode cX7_manyIn 0 = .ok (.iconst 0, 1) := by decide +kernel
theorem dX7_manyIn_1 : decode cX7_manyIn 1 = .ok (.istore_n 1, 1) := by decide +kernel
theorem dX7_manyIn_2 : decode cX7_manyIn 2 = .ok (.iconst 0, 1) := by decide +kernel
theorem dX7_manyIn_3 : decode cX7_manyIn 3 = .ok (.istore_n 2, 1) := by decide +kernel
theorem dX7_manyIn_4 : decode cX7_manyIn 4 = .ok (.iload_n 2, 1) := by decide +kernel
theorem dX7_manyIn_5 : decode cX7_manyIn 5 = .ok (.aload_n 0, 1) := by decide +kernel
theorem dX7_manyIn_6 : decode cX7_manyIn 6 = .ok (.getfield 78, 3) := by decide +kernel
theorem dX7_manyIn_9 : decode cX7_manyIn 9 = .ok (.if_icmp .ge 18, 3) := by decide +kernel
theorem dX7_manyIn_12 : decode cX7_manyIn 12 = .ok (.iload_n 1, 1) := by decide +kernel
theorem dX7_manyIn_13 : decode cX7_manyIn 13 = .ok (.aload_n 0, 1) := by decide +kernel
theorem dX7_manyIn_14 : decode cX7_manyIn 14 = .ok (.getfield 13, 3) := by decide +kernel
theorem dX7_manyIn_17 : decode cX7_manyIn 17 = .ok (.iload_n 2, 1) := by decide +kernel
theorem dX7_manyIn_18 : decode cX7_manyIn 18 = .ok (.iaload, 1) := by decide +kernel
theorem dX7_manyIn_19 : decode cX7_manyIn 19 = .ok (.iadd, 1) := by decide +kernel
theorem dX7_manyIn_20 : decode cX7_manyIn 20 = .ok (.istore_n 1, 1) := by decide +kernel
theorem dX7_manyIn_21 : decode cX7_manyIn 21 = .ok (.iinc 2 1, 3) := by decide +kernel
theorem dX7_manyIn_24 : decode cX7_manyIn 24 = .ok (.goto (-20), 3) := by decide +kernel
theorem dX7_manyIn_27 : decode cX7_manyIn 27 = .ok (.iload_n 1, 1) := by decide +kernel
theorem dX7_manyIn_28 : decode cX7_manyIn 28 = .ok (.ireturn, 1) := by decide +kernel
theorem dX7_done_0 : decode cX7_done 0 = .ok (.aload_n 0, 1) := by decide +kernel
theorem dX7_done_1 : decode cX7_done 1 = .ok (.getfield 89, 3) := by decide +kernel
theorem dX7_done_4 : decode cX7_done 4 = .ok (.aload_n 0, 1) := by decide +kernel
theorem dX7_done_5 : decode cX7_done 5 = .ok (.getfield 92, 3) := by decide +kernel
theorem dX7_done_8 : decode cX7_done 8 = .ok (.isub, 1) := by decide +kernel
theorem dX7_done_9 : decode cX7_done 9 = .ok (.ireturn, 1) := by decide +kernel
theorem dX7_boardOf_0 : decode cX7_boardOf 0 = .ok (.iconst (-1), 1) := by decide +kernel
theorem dX7_boardOf_1 : decode cX7_boardOf 1 = .ok (.istore_n 3, 1) := by decide +kernel
theorem dX7_boardOf_2 : decode cX7_boardOf 2 = .ok (.iconst 0, 1) := by decide +kernel
theorem dX7_boardOf_3 : decode cX7_boardOf 3 = .ok (.istore 4, 2) := by decide +kernel
theorem dX7_boardOf_5 : decode cX7_boardOf 5 = .ok (.iload 4, 2) := by decide +kernel
theorem dX7_boardOf_7 : decode cX7_boardOf 7 = .ok (.aload_n 0, 1) := by decide +kernel
theorem dX7_boardOf_8 : decode cX7_boardOf 8 = .ok (.getfield 16, 3) := by decide +kernel
theorem dX7_boardOf_11 : decode cX7_boardOf 11 = .ok (.iload_n 2, 1) := by decide +kernel
theorem dX7_boardOf_12 : decode cX7_boardOf 12 = .ok (.iaload, 1) := by decide +kernel
theorem dX7_boardOf_13 : decode cX7_boardOf 13 = .ok (.if_icmp .ge 53, 3) := by decide +kernel
theorem dX7_boardOf_16 : decode cX7_boardOf 16 = .ok (.aload_n 0, 1) := by decide +kernel
theorem dX7_boardOf_17 : decode cX7_boardOf 17 = .ok (.getfield 22, 3) := by decide +kernel
theorem dX7_boardOf_20 : decode cX7_boardOf 20 = .ok (.bipush 6, 2) := by decide +kernel
theorem dX7_boardOf_22 : decode cX7_boardOf 22 = .ok (.iload_n 2, 1) := by decide +kernel
theorem dX7_boardOf_23 : decode cX7_boardOf 23 = .ok (.imul, 1) := by decide +kernel
theorem dX7_boardOf_24 : decode cX7_boardOf 24 = .ok (.iload 4, 2) := by decide +kernel
theorem dX7_boardOf_26 : decode cX7_boardOf 26 = .ok (.iadd, 1) := by decide +kernel
theorem dX7_boardOf_27 : decode cX7_boardOf 27 = .ok (.iaload, 1) := by decide +kernel
theorem dX7_boardOf_28 : decode cX7_boardOf 28 = .ok (.iload_n 1, 1) := by decide +kernel
theorem dX7_boardOf_29 : decode cX7_boardOf 29 = .ok (.if_icmp .eq 19, 3) := by decide +kernel
theorem dX7_boardOf_32 : decode cX7_boardOf 32 = .ok (.aload_n 0, 1) := by decide +kernel
theorem dX7_boardOf_33 : decode cX7_boardOf 33 = .ok (.getfield 25, 3) := by decide +kernel
theorem dX7_boardOf_36 : decode cX7_boardOf 36 = .ok (.bipush 6, 2) := by decide +kernel
theorem dX7_boardOf_38 : decode cX7_boardOf 38 = .ok (.iload_n 2, 1) := by decide +kernel
theorem dX7_boardOf_39 : decode cX7_boardOf 39 = .ok (.imul, 1) := by decide +kernel
theorem dX7_boardOf_40 : decode cX7_boardOf 40 = .ok (.iload 4, 2) := by decide +kernel
theorem dX7_boardOf_42 : decode cX7_boardOf 42 = .ok (.iadd, 1) := by decide +kernel
theorem dX7_boardOf_43 : decode cX7_boardOf 43 = .ok (.iaload, 1) := by decide +kernel
theorem dX7_boardOf_44 : decode cX7_boardOf 44 = .ok (.iload_n 1, 1) := by decide +kernel
theorem dX7_boardOf_45 : decode cX7_boardOf 45 = .ok (.if_icmp .ne 13, 3) := by decide +kernel
theorem dX7_boardOf_48 : decode cX7_boardOf 48 = .ok (.bipush 6, 2) := by decide +kernel
theorem dX7_boardOf_50 : decode cX7_boardOf 50 = .ok (.iload_n 2, 1) := by decide +kernel
theorem dX7_boardOf_51 : decode cX7_boardOf 51 = .ok (.imul, 1) := by decide +kernel
theorem dX7_boardOf_52 : decode cX7_boardOf 52 = .ok (.iload 4, 2) := by decide +kernel
theorem dX7_boardOf_54 : decode cX7_boardOf 54 = .ok (.iadd, 1) := by decide +kernel
theorem dX7_boardOf_55 : decode cX7_boardOf 55 = .ok (.goto 4, 3) := by decide +kernel
theorem dX7_boardOf_58 : decode cX7_boardOf 58 = .ok (.iload_n 3, 1) := by decide +kernel
theorem dX7_boardOf_59 : decode cX7_boardOf 59 = .ok (.istore_n 3, 1) := by decide +kernel
theorem dX7_boardOf_60 : decode cX7_boardOf 60 = .ok (.iinc 4 1, 3) := by decide +kernel
theorem dX7_boardOf_63 : decode cX7_boardOf 63 = .ok (.goto (-58), 3) := by decide +kernel
theorem dX7_boardOf_66 : decode cX7_boardOf 66 = .ok (.iload_n 3, 1) := by decide +kernel
theorem dX7_boardOf_67 : decode cX7_boardOf 67 = .ok (.ireturn, 1) := by decide +kernel
theorem dX7_otherOn_0 : decode cX7_otherOn 0 = .ok (.aload_n 0, 1) := by decide +kernel
theorem dX7_otherOn_1 : decode cX7_otherOn 1 = .ok (.getfield 22, 3) := by decide +kernel
theorem dX7_otherOn_4 : decode cX7_otherOn 4 = .ok (.iload_n 1, 1) := by decide +kernel
theorem dX7_otherOn_5 : decode cX7_otherOn 5 = .ok (.iaload, 1) := by decide +kernel
theorem dX7_otherOn_6 : decode cX7_otherOn 6 = .ok (.iload_n 2, 1) := by decide +kernel
theorem dX7_otherOn_7 : decode cX7_otherOn 7 = .ok (.if_icmp .ne 12, 3) := by decide +kernel
theorem dX7_otherOn_10 : decode cX7_otherOn 10 = .ok (.aload_n 0, 1) := by decide +kernel
theorem dX7_otherOn_11 : decode cX7_otherOn 11 = .ok (.getfield 25, 3) := by decide +kernel
theorem dX7_otherOn_14 : decode cX7_otherOn 14 = .ok (.iload_n 1, 1) := by decide +kernel
theorem dX7_otherOn_15 : decode cX7_otherOn 15 = .ok (.iaload, 1) := by decide +kernel
theorem dX7_otherOn_16 : decode cX7_otherOn 16 = .ok (.goto 9, 3) := by decide +kernel
theorem dX7_otherOn_19 : decode cX7_otherOn 19 = .ok (.aload_n 0, 1) := by decide +kernel
theorem dX7_otherOn_20 : decode cX7_otherOn 20 = .ok (.getfield 22, 3) := by decide +kernel
theorem dX7_otherOn_23 : decode cX7_otherOn 23 = .ok (.iload_n 1, 1) := by decide +kernel
theorem dX7_otherOn_24 : decode cX7_otherOn 24 = .ok (.iaload, 1) := by decide +kernel
theorem dX7_otherOn_25 : decode cX7_otherOn 25 = .ok (.ireturn, 1) := by decide +kernel
theorem dX7_madeOn_0 : decode cX7_madeOn 0 = .ok (.aload_n 0, 1) := by decide +kernel
theorem dX7_madeOn_1 : decode cX7_madeOn 1 = .ok (.getfield 28, 3) := by decide +kernel
theorem dX7_madeOn_4 : decode cX7_madeOn 4 = .ok (.iload_n 1, 1) := by decide +kernel
theorem dX7_madeOn_5 : decode cX7_madeOn 5 = .ok (.iaload, 1) := by decide +kernel
theorem dX7_madeOn_6 : decode cX7_madeOn 6 = .ok (.istore_n 3, 1) := by decide +kernel
theorem dX7_madeOn_7 : decode cX7_madeOn 7 = .ok (.aload_n 0, 1) := by decide +kernel
theorem dX7_madeOn_8 : decode cX7_madeOn 8 = .ok (.getfield 22, 3) := by decide +kernel
theorem dX7_madeOn_11 : decode cX7_madeOn 11 = .ok (.iload_n 1, 1) := by decide +kernel
theorem dX7_madeOn_12 : decode cX7_madeOn 12 = .ok (.iaload, 1) := by decide +kernel
theorem dX7_madeOn_13 : decode cX7_madeOn 13 = .ok (.iload_n 2, 1) := by decide +kernel
theorem dX7_madeOn_14 : decode cX7_madeOn 14 = .ok (.if_icmp .ne 7, 3) := by decide +kernel
theorem dX7_madeOn_17 : decode cX7_madeOn 17 = .ok (.iconst 1, 1) := by decide +kernel
theorem dX7_madeOn_18 : decode cX7_madeOn 18 = .ok (.goto 4, 3) := by decide +kernel
theorem dX7_madeOn_21 : decode cX7_madeOn 21 = .ok (.iconst 0, 1) := by decide +kernel
theorem dX7_madeOn_22 : decode cX7_madeOn 22 = .ok (.istore 4, 2) := by decide +kernel
theorem dX7_madeOn_24 : decode cX7_madeOn 24 = .ok (.iload_n 3, 1) := by decide +kernel
theorem dX7_madeOn_25 : decode cX7_madeOn 25 = .ok (.iconst 2, 1) := by decide +kernel
theorem dX7_madeOn_26 : decode cX7_madeOn 26 = .ok (.if_icmp .ne 7, 3) := by decide +kernel
theorem dX7_madeOn_29 : decode cX7_madeOn 29 = .ok (.iconst 1, 1) := by decide +kernel
theorem dX7_madeOn_30 : decode cX7_madeOn 30 = .ok (.goto 36, 3) := by decide +kernel
theorem dX7_madeOn_33 : decode cX7_madeOn 33 = .ok (.iload_n 3, 1) := by decide +kernel
theorem dX7_madeOn_34 : decode cX7_madeOn 34 = .ok (.iload 4, 2) := by decide +kernel
theorem dX7_madeOn_36 : decode cX7_madeOn 36 = .ok (.ifCond .eq 7, 3) := by decide +kernel
theorem dX7_madeOn_39 : decode cX7_madeOn 39 = .ok (.iconst 1, 1) := by decide +kernel
theorem dX7_madeOn_40 : decode cX7_madeOn 40 = .ok (.goto 4, 3) := by decide +kernel
theorem dX7_madeOn_43 : decode cX7_madeOn 43 = .ok (.iconst 3, 1) := by decide +kernel
theorem dX7_madeOn_44 : decode cX7_madeOn 44 = .ok (.if_icmp .eq 17, 3) := by decide +kernel
theorem dX7_madeOn_47 : decode cX7_madeOn 47 = .ok (.iload_n 3, 1) := by decide +kernel
theorem dX7_madeOn_48 : decode cX7_madeOn 48 = .ok (.iload 4, 2) := by decide +kernel
theorem dX7_madeOn_50 : decode cX7_madeOn 50 = .ok (.ifCond .eq 7, 3) := by decide +kernel
theorem dX7_madeOn_53 : decode cX7_madeOn 53 = .ok (.iconst 4, 1) := by decide +kernel
theorem dX7_madeOn_54 : decode cX7_madeOn 54 = .ok (.goto 4, 3) := by decide +kernel
theorem dX7_madeOn_57 : decode cX7_madeOn 57 = .ok (.iconst 5, 1) := by decide +kernel
theorem dX7_madeOn_58 : decode cX7_madeOn 58 = .ok (.if_icmp .ne 7, 3) := by decide +kernel
theorem dX7_madeOn_61 : decode cX7_madeOn 61 = .ok (.iconst 2, 1) := by decide +kernel
theorem dX7_madeOn_62 : decode cX7_madeOn 62 = .ok (.goto 4, 3) := by decide +kernel
theorem dX7_madeOn_65 : decode cX7_madeOn 65 = .ok (.iconst 0, 1) := by decide +kernel
theorem dX7_madeOn_66 : decode cX7_madeOn 66 = .ok (.ireturn, 1) := by decide +kernel
theorem dX7_playedIn_0 : decode cX7_playedIn 0 = .ok (.aload_n 0, 1) := by decide +kernel
theorem dX7_playedIn_1 : decode cX7_playedIn 1 = .ok (.iload_n 1, 1) := by decide +kernel
theorem dX7_playedIn_2 : decode cX7_playedIn 2 = .ok (.iload_n 2, 1) := by decide +kernel
theorem dX7_playedIn_3 : decode cX7_playedIn 3 = .ok (.invokevirtual 95, 3) := by decide +kernel
theorem dX7_playedIn_6 : decode cX7_playedIn 6 = .ok (.istore_n 3, 1) := by decide +kernel
theorem dX7_playedIn_7 : decode cX7_playedIn 7 = .ok (.iload_n 3, 1) := by decide +kernel
theorem dX7_playedIn_8 : decode cX7_playedIn 8 = .ok (.ifCond .lt 32, 3) := by decide +kernel
theorem dX7_playedIn_11 : decode cX7_playedIn 11 = .ok (.iload_n 2, 1) := by decide +kernel
theorem dX7_playedIn_12 : decode cX7_playedIn 12 = .ok (.aload_n 0, 1) := by decide +kernel
theorem dX7_playedIn_13 : decode cX7_playedIn 13 = .ok (.invokevirtual 99, 3) := by decide +kernel
theorem dX7_playedIn_16 : decode cX7_playedIn 16 = .ok (.if_icmp .ge 24, 3) := by decide +kernel
theorem dX7_playedIn_19 : decode cX7_playedIn 19 = .ok (.aload_n 0, 1) := by decide +kernel
theorem dX7_playedIn_20 : decode cX7_playedIn 20 = .ok (.getfield 28, 3) := by decide +kernel
theorem dX7_playedIn_23 : decode cX7_playedIn 23 = .ok (.iload_n 3, 1) := by decide +kernel
theorem dX7_playedIn_24 : decode cX7_playedIn 24 = .ok (.iaload, 1) := by decide +kernel
theorem dX7_playedIn_25 : decode cX7_playedIn 25 = .ok (.i2l, 1) := by decide +kernel
theorem dX7_playedIn_26 : decode cX7_playedIn 26 = .ok (.lconst 1, 1) := by decide +kernel
theorem dX7_playedIn_27 : decode cX7_playedIn 27 = .ok (.ldc2_w 103, 3) := by decide +kernel
theorem dX7_playedIn_30 : decode cX7_playedIn 30 = .ok (.invokestatic 81, 3) := by decide +kernel
theorem dX7_playedIn_33 : decode cX7_playedIn 33 = .ok (.ifCond .eq 7, 3) := by decide +kernel
theorem dX7_playedIn_36 : decode cX7_playedIn 36 = .ok (.iload_n 3, 1) := by decide +kernel
theorem dX7_playedIn_37 : decode cX7_playedIn 37 = .ok (.goto 4, 3) := by decide +kernel
theorem dX7_playedIn_40 : decode cX7_playedIn 40 = .ok (.iconst (-1), 1) := by decide +kernel
theorem dX7_playedIn_41 : decode cX7_playedIn 41 = .ok (.ireturn, 1) := by decide +kernel
theorem dX7_madeIn_0 : decode cX7_madeIn 0 = .ok (.aload_n 0, 1) := by decide +kernel
theorem dX7_madeIn_1 : decode cX7_madeIn 1 = .ok (.iload_n 1, 1) := by decide +kernel
theorem dX7_madeIn_2 : decode cX7_madeIn 2 = .ok (.iload_n 2, 1) := by decide +kernel
theorem dX7_madeIn_3 : decode cX7_madeIn 3 = .ok (.invokevirtual 95, 3) := by decide +kernel
theorem dX7_madeIn_6 : decode cX7_madeIn 6 = .ok (.istore_n 3, 1) := by decide +kernel
theorem dX7_madeIn_7 : decode cX7_madeIn 7 = .ok (.aload_n 0, 1) := by decide +kernel
theorem dX7_madeIn_8 : decode cX7_madeIn 8 = .ok (.getfield 19, 3) := by decide +kernel
theorem dX7_madeIn_11 : decode cX7_madeIn 11 = .ok (.iload_n 2, 1) := by decide +kernel
theorem dX7_madeIn_12 : decode cX7_madeIn 12 = .ok (.iaload, 1) := by decide +kernel
theorem dX7_madeIn_13 : decode cX7_madeIn 13 = .ok (.iload_n 1, 1) := by decide +kernel
theorem dX7_madeIn_14 : decode cX7_madeIn 14 = .ok (.if_icmp .ne 7, 3) := by decide +kernel
theorem dX7_madeIn_17 : decode cX7_madeIn 17 = .ok (.iconst 2, 1) := by decide +kernel
theorem dX7_madeIn_18 : decode cX7_madeIn 18 = .ok (.goto 17, 3) := by decide +kernel
theorem dX7_madeIn_21 : decode cX7_madeIn 21 = .ok (.iload_n 3, 1) := by decide +kernel
theorem dX7_madeIn_22 : decode cX7_madeIn 22 = .ok (.ifCond .lt 12, 3) := by decide +kernel
theorem dX7_madeIn_25 : decode cX7_madeIn 25 = .ok (.aload_n 0, 1) := by decide +kernel
theorem dX7_madeIn_26 : decode cX7_madeIn 26 = .ok (.iload_n 3, 1) := by decide +kernel
theorem dX7_madeIn_27 : decode cX7_madeIn 27 = .ok (.iload_n 1, 1) := by decide +kernel
theorem dX7_madeIn_28 : decode cX7_madeIn 28 = .ok (.invokevirtual 105, 3) := by decide +kernel
theorem dX7_madeIn_31 : decode cX7_madeIn 31 = .ok (.goto 4, 3) := by decide +kernel
theorem dX7_madeIn_34 : decode cX7_madeIn 34 = .ok (.iconst 0, 1) := by decide +kernel
theorem dX7_madeIn_35 : decode cX7_madeIn 35 = .ok (.ireturn, 1) := by decide +kernel
theorem dX7_pointsBehind_0 : decode cX7_pointsBehind 0 = .ok (.iconst 0, 1) := by decide +kernel
theorem dX7_pointsBehind_1 : decode cX7_pointsBehind 1 = .ok (.istore_n 3, 1) := by decide +kernel
theorem dX7_pointsBehind_2 : decode cX7_pointsBehind 2 = .ok (.iconst 0, 1) := by decide +kernel
theorem dX7_pointsBehind_3 : decode cX7_pointsBehind 3 = .ok (.istore 4, 2) := by decide +kernel
theorem dX7_pointsBehind_5 : decode cX7_pointsBehind 5 = .ok (.iload 4, 2) := by decide +kernel
theorem dX7_pointsBehind_7 : decode cX7_pointsBehind 7 = .ok (.iload_n 2, 1) := by decide +kernel
theorem dX7_pointsBehind_8 : decode cX7_pointsBehind 8 = .ok (.if_icmp .ge 19, 3) := by decide +kernel
theorem dX7_pointsBehind_11 : decode cX7_pointsBehind 11 = .ok (.iload_n 3, 1) := by decide +kernel
theorem dX7_pointsBehind_12 : decode cX7_pointsBehind 12 = .ok (.aload_n 0, 1) := by decide +kernel
theorem dX7_pointsBehind_13 : decode cX7_pointsBehind 13 = .ok (.iload_n 1, 1) := by decide +kernel
theorem dX7_pointsBehind_14 : decode cX7_pointsBehind 14 = .ok (.iload 4, 2) := by decide +kernel
theorem dX7_pointsBehind_16 : decode cX7_pointsBehind 16 = .ok (.invokevirtual 108, 3) := by decide +kernel
theorem dX7_pointsBehind_19 : decode cX7_pointsBehind 19 = .ok (.iadd, 1) := by decide +kernel
theorem dX7_pointsBehind_20 : decode cX7_pointsBehind 20 = .ok (.istore_n 3, 1) := by decide +kernel
theorem dX7_pointsBehind_21 : decode cX7_pointsBehind 21 = .ok (.iinc 4 1, 3) := by decide +kernel
theorem dX7_pointsBehind_24 : decode cX7_pointsBehind 24 = .ok (.goto (-19), 3) := by decide +kernel
theorem dX7_pointsBehind_27 : decode cX7_pointsBehind 27 = .ok (.iload_n 3, 1) := by decide +kernel
theorem dX7_pointsBehind_28 : decode cX7_pointsBehind 28 = .ok (.ireturn, 1) := by decide +kernel
theorem dX7_pointsOf_0 : decode cX7_pointsOf 0 = .ok (.aload_n 0, 1) := by decide +kernel
theorem dX7_pointsOf_1 : decode cX7_pointsOf 1 = .ok (.iload_n 1, 1) := by decide +kernel
theorem dX7_pointsOf_2 : decode cX7_pointsOf 2 = .ok (.aload_n 0, 1) := by decide +kernel
theorem dX7_pointsOf_3 : decode cX7_pointsOf 3 = .ok (.invokevirtual 99, 3) := by decide +kernel
theorem dX7_pointsOf_6 : decode cX7_pointsOf 6 = .ok (.invokevirtual 111, 3) := by decide +kernel
theorem dX7_pointsOf_9 : decode cX7_pointsOf 9 = .ok (.ireturn, 1) := by decide +kernel
theorem dX7_metIn_0 : decode cX7_metIn 0 = .ok (.bipush (-5), 2) := by decide +kernel
theorem dX7_metIn_2 : decode cX7_metIn 2 = .ok (.istore_n 3, 1) := by decide +kernel
theorem dX7_metIn_3 : decode cX7_metIn 3 = .ok (.iconst 0, 1) := by decide +kernel
theorem dX7_metIn_4 : decode cX7_metIn 4 = .ok (.istore 4, 2) := by decide +kernel
theorem dX7_metIn_6 : decode cX7_metIn 6 = .ok (.iload 4, 2) := by decide +kernel
theorem dX7_metIn_8 : decode cX7_metIn 8 = .ok (.aload_n 0, 1) := by decide +kernel
theorem dX7_metIn_9 : decode cX7_metIn 9 = .ok (.invokevirtual 99, 3) := by decide +kernel
theorem dX7_metIn_12 : decode cX7_metIn 12 = .ok (.if_icmp .ge 41, 3) := by decide +kernel
theorem dX7_metIn_15 : decode cX7_metIn 15 = .ok (.aload_n 0, 1) := by decide +kernel
theorem dX7_metIn_16 : decode cX7_metIn 16 = .ok (.iload_n 1, 1) := by decide +kernel
theorem dX7_metIn_17 : decode cX7_metIn 17 = .ok (.iload 4, 2) := by decide +kernel
theorem dX7_metIn_19 : decode cX7_metIn 19 = .ok (.invokevirtual 114, 3) := by decide +kernel
theorem dX7_metIn_22 : decode cX7_metIn 22 = .ok (.istore 5, 2) := by decide +kernel
theorem dX7_metIn_24 : decode cX7_metIn 24 = .ok (.iload 5, 2) := by decide +kernel
theorem dX7_metIn_26 : decode cX7_metIn 26 = .ok (.ifCond .lt 19, 3) := by decide +kernel
theorem dX7_metIn_29 : decode cX7_metIn 29 = .ok (.aload_n 0, 1) := by decide +kernel
theorem dX7_metIn_30 : decode cX7_metIn 30 = .ok (.iload 5, 2) := by decide +kernel
theorem dX7_metIn_32 : decode cX7_metIn 32 = .ok (.iload_n 1, 1) := by decide +kernel
theorem dX7_metIn_33 : decode cX7_metIn 33 = .ok (.invokevirtual 117, 3) := by decide +kernel
theorem dX7_metIn_36 : decode cX7_metIn 36 = .ok (.iload_n 2, 1) := by decide +kernel
theorem dX7_metIn_37 : decode cX7_metIn 37 = .ok (.if_icmp .ne 8, 3) := by decide +kernel
theorem dX7_metIn_40 : decode cX7_metIn 40 = .ok (.iload 4, 2) := by decide +kernel
theorem dX7_metIn_42 : decode cX7_metIn 42 = .ok (.goto 4, 3) := by decide +kernel
theorem dX7_metIn_45 : decode cX7_metIn 45 = .ok (.iload_n 3, 1) := by decide +kernel
theorem dX7_metIn_46 : decode cX7_metIn 46 = .ok (.istore_n 3, 1) := by decide +kernel
theorem dX7_metIn_47 : decode cX7_metIn 47 = .ok (.iinc 4 1, 3) := by decide +kernel
theorem dX7_metIn_50 : decode cX7_metIn 50 = .ok (.goto (-44), 3) := by decide +kernel
theorem dX7_metIn_53 : decode cX7_metIn 53 = .ok (.iload_n 3, 1) := by decide +kernel
theorem dX7_metIn_54 : decode cX7_metIn 54 = .ok (.ireturn, 1) := by decide +kernel
theorem dX7_playedMany_0 : decode cX7_playedMany 0 = .ok (.iconst 0, 1) := by decide +kernel
theorem dX7_playedMany_1 : decode cX7_playedMany 1 = .ok (.istore_n 2, 1) := by decide +kernel
theorem dX7_playedMany_2 : decode cX7_playedMany 2 = .ok (.iconst 0, 1) := by decide +kernel
theorem dX7_playedMany_3 : decode cX7_playedMany 3 = .ok (.istore_n 3, 1) := by decide +kernel
theorem dX7_playedMany_4 : decode cX7_playedMany 4 = .ok (.iload_n 3, 1) := by decide +kernel
theorem dX7_playedMany_5 : decode cX7_playedMany 5 = .ok (.aload_n 0, 1) := by decide +kernel
theorem dX7_playedMany_6 : decode cX7_playedMany 6 = .ok (.invokevirtual 99, 3) := by decide +kernel
theorem dX7_playedMany_9 : decode cX7_playedMany 9 = .ok (.if_icmp .ge 26, 3) := by decide +kernel
theorem dX7_playedMany_12 : decode cX7_playedMany 12 = .ok (.iload_n 2, 1) := by decide +kernel
theorem dX7_playedMany_13 : decode cX7_playedMany 13 = .ok (.aload_n 0, 1) := by decide +kernel
theorem dX7_playedMany_14 : decode cX7_playedMany 14 = .ok (.iload_n 1, 1) := by decide +kernel
theorem dX7_playedMany_15 : decode cX7_playedMany 15 = .ok (.iload_n 3, 1) := by decide +kernel
theorem dX7_playedMany_16 : decode cX7_playedMany 16 = .ok (.invokevirtual 114, 3) := by decide +kernel
theorem dX7_playedMany_19 : decode cX7_playedMany 19 = .ok (.ifCond .lt 7, 3) := by decide +kernel
theorem dX7_playedMany_22 : decode cX7_playedMany 22 = .ok (.iconst 1, 1) := by decide +kernel
theorem dX7_playedMany_23 : decode cX7_playedMany 23 = .ok (.goto 4, 3) := by decide +kernel
theorem dX7_playedMany_26 : decode cX7_playedMany 26 = .ok (.iconst 0, 1) := by decide +kernel
theorem dX7_playedMany_27 : decode cX7_playedMany 27 = .ok (.iadd, 1) := by decide +kernel
theorem dX7_playedMany_28 : decode cX7_playedMany 28 = .ok (.istore_n 2, 1) := by decide +kernel
theorem dX7_playedMany_29 : decode cX7_playedMany 29 = .ok (.iinc 3 1, 3) := by decide +kernel
theorem dX7_playedMany_32 : decode cX7_playedMany 32 = .ok (.goto (-28), 3) := by decide +kernel
theorem dX7_playedMany_35 : decode cX7_playedMany 35 = .ok (.iload_n 2, 1) := by decide +kernel
theorem dX7_playedMany_36 : decode cX7_playedMany 36 = .ok (.ireturn, 1) := by decide +kernel
theorem dX7_blacksOf_0 : decode cX7_blacksOf 0 = .ok (.iconst 0, 1) := by decide +kernel
theorem dX7_blacksOf_1 : decode cX7_blacksOf 1 = .ok (.istore_n 2, 1) := by decide +kernel
theorem dX7_blacksOf_2 : decode cX7_blacksOf 2 = .ok (.iconst 0, 1) := by decide +kernel
theorem dX7_blacksOf_3 : decode cX7_blacksOf 3 = .ok (.istore_n 3, 1) := by decide +kernel
theorem dX7_blacksOf_4 : decode cX7_blacksOf 4 = .ok (.iload_n 3, 1) := by decide +kernel
theorem dX7_blacksOf_5 : decode cX7_blacksOf 5 = .ok (.aload_n 0, 1) := by decide +kernel
theorem dX7_blacksOf_6 : decode cX7_blacksOf 6 = .ok (.invokevirtual 99, 3) := by decide +kernel
theorem dX7_blacksOf_9 : decode cX7_blacksOf 9 = .ok (.if_icmp .ge 41, 3) := by decide +kernel
theorem dX7_blacksOf_12 : decode cX7_blacksOf 12 = .ok (.iload_n 2, 1) := by decide +kernel
theorem dX7_blacksOf_13 : decode cX7_blacksOf 13 = .ok (.aload_n 0, 1) := by decide +kernel
theorem dX7_blacksOf_14 : decode cX7_blacksOf 14 = .ok (.iload_n 1, 1) := by decide +kernel
theorem dX7_blacksOf_15 : decode cX7_blacksOf 15 = .ok (.iload_n 3, 1) := by decide +kernel
theorem dX7_blacksOf_16 : decode cX7_blacksOf 16 = .ok (.invokevirtual 114, 3) := by decide +kernel
theorem dX7_blacksOf_19 : decode cX7_blacksOf 19 = .ok (.ifCond .lt 22, 3) := by decide +kernel
theorem dX7_blacksOf_22 : decode cX7_blacksOf 22 = .ok (.aload_n 0, 1) := by decide +kernel
theorem dX7_blacksOf_23 : decode cX7_blacksOf 23 = .ok (.getfield 25, 3) := by decide +kernel
theorem dX7_blacksOf_26 : decode cX7_blacksOf 26 = .ok (.aload_n 0, 1) := by decide +kernel
theorem dX7_blacksOf_27 : decode cX7_blacksOf 27 = .ok (.iload_n 1, 1) := by decide +kernel
theorem dX7_blacksOf_28 : decode cX7_blacksOf 28 = .ok (.iload_n 3, 1) := by decide +kernel
theorem dX7_blacksOf_29 : decode cX7_blacksOf 29 = .ok (.invokevirtual 114, 3) := by decide +kernel
theorem dX7_blacksOf_32 : decode cX7_blacksOf 32 = .ok (.iaload, 1) := by decide +kernel
theorem dX7_blacksOf_33 : decode cX7_blacksOf 33 = .ok (.iload_n 1, 1) := by decide +kernel
theorem dX7_blacksOf_34 : decode cX7_blacksOf 34 = .ok (.if_icmp .ne 7, 3) := by decide +kernel
theorem dX7_blacksOf_37 : decode cX7_blacksOf 37 = .ok (.iconst 1, 1) := by decide +kernel
theorem dX7_blacksOf_38 : decode cX7_blacksOf 38 = .ok (.goto 4, 3) := by decide +kernel
theorem dX7_blacksOf_41 : decode cX7_blacksOf 41 = .ok (.iconst 0, 1) := by decide +kernel
theorem dX7_blacksOf_42 : decode cX7_blacksOf 42 = .ok (.iadd, 1) := by decide +kernel
theorem dX7_blacksOf_43 : decode cX7_blacksOf 43 = .ok (.istore_n 2, 1) := by decide +kernel
theorem dX7_blacksOf_44 : decode cX7_blacksOf 44 = .ok (.iinc 3 1, 3) := by decide +kernel
theorem dX7_blacksOf_47 : decode cX7_blacksOf 47 = .ok (.goto (-43), 3) := by decide +kernel
theorem dX7_blacksOf_50 : decode cX7_blacksOf 50 = .ok (.iload_n 2, 1) := by decide +kernel
theorem dX7_blacksOf_51 : decode cX7_blacksOf 51 = .ok (.ireturn, 1) := by decide +kernel
theorem dX7_balanceOf_0 : decode cX7_balanceOf 0 = .ok (.aload_n 0, 1) := by decide +kernel
theorem dX7_balanceOf_1 : decode cX7_balanceOf 1 = .ok (.iload_n 1, 1) := by decide +kernel
theorem dX7_balanceOf_2 : decode cX7_balanceOf 2 = .ok (.invokevirtual 120, 3) := by decide +kernel
theorem dX7_balanceOf_5 : decode cX7_balanceOf 5 = .ok (.iconst 2, 1) := by decide +kernel
theorem dX7_balanceOf_6 : decode cX7_balanceOf 6 = .ok (.aload_n 0, 1) := by decide +kernel
theorem dX7_balanceOf_7 : decode cX7_balanceOf 7 = .ok (.iload_n 1, 1) := by decide +kernel
theorem dX7_balanceOf_8 : decode cX7_balanceOf 8 = .ok (.invokevirtual 124, 3) := by decide +kernel
theorem dX7_balanceOf_11 : decode cX7_balanceOf 11 = .ok (.imul, 1) := by decide +kernel
theorem dX7_balanceOf_12 : decode cX7_balanceOf 12 = .ok (.isub, 1) := by decide +kernel
theorem dX7_balanceOf_13 : decode cX7_balanceOf 13 = .ok (.ireturn, 1) := by decide +kernel
theorem dX7_latestOf_0 : decode cX7_latestOf 0 = .ok (.bipush (-5), 2) := by decide +kernel
theorem dX7_latestOf_2 : decode cX7_latestOf 2 = .ok (.istore_n 2, 1) := by decide +kernel
theorem dX7_latestOf_3 : decode cX7_latestOf 3 = .ok (.iconst 0, 1) := by decide +kernel
theorem dX7_latestOf_4 : decode cX7_latestOf 4 = .ok (.istore_n 3, 1) := by decide +kernel
theorem dX7_latestOf_5 : decode cX7_latestOf 5 = .ok (.iload_n 3, 1) := by decide +kernel
theorem dX7_latestOf_6 : decode cX7_latestOf 6 = .ok (.aload_n 0, 1) := by decide +kernel
theorem dX7_latestOf_7 : decode cX7_latestOf 7 = .ok (.invokevirtual 99, 3) := by decide +kernel
theorem dX7_latestOf_10 : decode cX7_latestOf 10 = .ok (.if_icmp .ge 43, 3) := by decide +kernel
theorem dX7_latestOf_13 : decode cX7_latestOf 13 = .ok (.aload_n 0, 1) := by decide +kernel
theorem dX7_latestOf_14 : decode cX7_latestOf 14 = .ok (.iload_n 1, 1) := by decide +kernel
theorem dX7_latestOf_15 : decode cX7_latestOf 15 = .ok (.iload_n 3, 1) := by decide +kernel
theorem dX7_latestOf_16 : decode cX7_latestOf 16 = .ok (.invokevirtual 114, 3) := by decide +kernel
theorem dX7_latestOf_19 : decode cX7_latestOf 19 = .ok (.istore 4, 2) := by decide +kernel
theorem dX7_latestOf_21 : decode cX7_latestOf 21 = .ok (.iload 4, 2) := by decide +kernel
theorem dX7_latestOf_23 : decode cX7_latestOf 23 = .ok (.ifCond .ge 7, 3) := by decide +kernel
theorem dX7_latestOf_26 : decode cX7_latestOf 26 = .ok (.iload_n 2, 1) := by decide +kernel
theorem dX7_latestOf_27 : decode cX7_latestOf 27 = .ok (.goto 19, 3) := by decide +kernel
theorem dX7_latestOf_30 : decode cX7_latestOf 30 = .ok (.aload_n 0, 1) := by decide +kernel
theorem dX7_latestOf_31 : decode cX7_latestOf 31 = .ok (.getfield 22, 3) := by decide +kernel
theorem dX7_latestOf_34 : decode cX7_latestOf 34 = .ok (.iload 4, 2) := by decide +kernel
theorem dX7_latestOf_36 : decode cX7_latestOf 36 = .ok (.iaload, 1) := by decide +kernel
theorem dX7_latestOf_37 : decode cX7_latestOf 37 = .ok (.iload_n 1, 1) := by decide +kernel
theorem dX7_latestOf_38 : decode cX7_latestOf 38 = .ok (.if_icmp .ne 7, 3) := by decide +kernel
theorem dX7_latestOf_41 : decode cX7_latestOf 41 = .ok (.iconst 0, 1) := by decide +kernel
theorem dX7_latestOf_42 : decode cX7_latestOf 42 = .ok (.goto 4, 3) := by decide +kernel
theorem dX7_latestOf_45 : decode cX7_latestOf 45 = .ok (.iconst 1, 1) := by decide +kernel
theorem dX7_latestOf_46 : decode cX7_latestOf 46 = .ok (.istore_n 2, 1) := by decide +kernel
theorem dX7_latestOf_47 : decode cX7_latestOf 47 = .ok (.iinc 3 1, 3) := by decide +kernel
theorem dX7_latestOf_50 : decode cX7_latestOf 50 = .ok (.goto (-45), 3) := by decide +kernel
theorem dX7_latestOf_53 : decode cX7_latestOf 53 = .ok (.iload_n 2, 1) := by decide +kernel
theorem dX7_latestOf_54 : decode cX7_latestOf 54 = .ok (.ireturn, 1) := by decide +kernel
theorem dX7_byesOf_0 : decode cX7_byesOf 0 = .ok (.iconst 0, 1) := by decide +kernel
theorem dX7_byesOf_1 : decode cX7_byesOf 1 = .ok (.istore_n 2, 1) := by decide +kernel
theorem dX7_byesOf_2 : decode cX7_byesOf 2 = .ok (.iconst 0, 1) := by decide +kernel
theorem dX7_byesOf_3 : decode cX7_byesOf 3 = .ok (.istore_n 3, 1) := by decide +kernel
theorem dX7_byesOf_4 : decode cX7_byesOf 4 = .ok (.iload_n 3, 1) := by decide +kernel
theorem dX7_byesOf_5 : decode cX7_byesOf 5 = .ok (.aload_n 0, 1) := by decide +kernel
theorem dX7_byesOf_6 : decode cX7_byesOf 6 = .ok (.invokevirtual 99, 3) := by decide +kernel
theorem dX7_byesOf_9 : decode cX7_byesOf 9 = .ok (.if_icmp .ge 27, 3) := by decide +kernel
theorem dX7_byesOf_12 : decode cX7_byesOf 12 = .ok (.iload_n 2, 1) := by decide +kernel
theorem dX7_byesOf_13 : decode cX7_byesOf 13 = .ok (.aload_n 0, 1) := by decide +kernel
theorem dX7_byesOf_14 : decode cX7_byesOf 14 = .ok (.getfield 19, 3) := by decide +kernel
theorem dX7_byesOf_17 : decode cX7_byesOf 17 = .ok (.iload_n 3, 1) := by decide +kernel
theorem dX7_byesOf_18 : decode cX7_byesOf 18 = .ok (.iaload, 1) := by decide +kernel
theorem dX7_byesOf_19 : decode cX7_byesOf 19 = .ok (.iload_n 1, 1) := by decide +kernel
theorem dX7_byesOf_20 : decode cX7_byesOf 20 = .ok (.if_icmp .ne 7, 3) := by decide +kernel
theorem dX7_byesOf_23 : decode cX7_byesOf 23 = .ok (.iconst 1, 1) := by decide +kernel
theorem dX7_byesOf_24 : decode cX7_byesOf 24 = .ok (.goto 4, 3) := by decide +kernel
theorem dX7_byesOf_27 : decode cX7_byesOf 27 = .ok (.iconst 0, 1) := by decide +kernel
theorem dX7_byesOf_28 : decode cX7_byesOf 28 = .ok (.iadd, 1) := by decide +kernel
theorem dX7_byesOf_29 : decode cX7_byesOf 29 = .ok (.istore_n 2, 1) := by decide +kernel
theorem dX7_byesOf_30 : decode cX7_byesOf 30 = .ok (.iinc 3 1, 3) := by decide +kernel
theorem dX7_byesOf_33 : decode cX7_byesOf 33 = .ok (.goto (-29), 3) := by decide +kernel
theorem dX7_byesOf_36 : decode cX7_byesOf 36 = .ok (.iload_n 2, 1) := by decide +kernel
theorem dX7_byesOf_37 : decode cX7_byesOf 37 = .ok (.ireturn, 1) := by decide +kernel
theorem dX7_forfeitsOf_0 : decode cX7_forfeitsOf 0 = .ok (.iconst 0, 1) := by decide +kernel
theorem dX7_forfeitsOf_1 : decode cX7_forfeitsOf 1 = .ok (.istore_n 2, 1) := by decide +kernel
theorem dX7_forfeitsOf_2 : decode cX7_forfeitsOf 2 = .ok (.iconst 0, 1) := by decide +kernel
theorem dX7_forfeitsOf_3 : decode cX7_forfeitsOf 3 = .ok (.istore_n 3, 1) := by decide +kernel
theorem dX7_forfeitsOf_4 : decode cX7_forfeitsOf 4 = .ok (.iload_n 3, 1) := by decide +kernel
theorem dX7_forfeitsOf_5 : decode cX7_forfeitsOf 5 = .ok (.aload_n 0, 1) := by decide +kernel
theorem dX7_forfeitsOf_6 : decode cX7_forfeitsOf 6 = .ok (.invokevirtual 99, 3) := by decide +kernel
theorem dX7_forfeitsOf_9 : decode cX7_forfeitsOf 9 = .ok (.if_icmp .ge 56, 3) := by decide +kernel
theorem dX7_forfeitsOf_12 : decode cX7_forfeitsOf 12 = .ok (.aload_n 0, 1) := by decide +kernel
theorem dX7_forfeitsOf_13 : decode cX7_forfeitsOf 13 = .ok (.iload_n 1, 1) := by decide +kernel
theorem dX7_forfeitsOf_14 : decode cX7_forfeitsOf 14 = .ok (.iload_n 3, 1) := by decide +kernel
theorem dX7_forfeitsOf_15 : decode cX7_forfeitsOf 15 = .ok (.invokevirtual 95, 3) := by decide +kernel
theorem dX7_forfeitsOf_18 : decode cX7_forfeitsOf 18 = .ok (.istore 4, 2) := by decide +kernel
theorem dX7_forfeitsOf_20 : decode cX7_forfeitsOf 20 = .ok (.iload_n 2, 1) := by decide +kernel
theorem dX7_forfeitsOf_21 : decode cX7_forfeitsOf 21 = .ok (.iload 4, 2) := by decide +kernel
theorem dX7_forfeitsOf_23 : decode cX7_forfeitsOf 23 = .ok (.ifCond .lt 33, 3) := by decide +kernel
theorem dX7_forfeitsOf_26 : decode cX7_forfeitsOf 26 = .ok (.aload_n 0, 1) := by decide +kernel
theorem dX7_forfeitsOf_27 : decode cX7_forfeitsOf 27 = .ok (.getfield 28, 3) := by decide +kernel
theorem dX7_forfeitsOf_30 : decode cX7_forfeitsOf 30 = .ok (.iload 4, 2) := by decide +kernel
theorem dX7_forfeitsOf_32 : decode cX7_forfeitsOf 32 = .ok (.iaload, 1) := by decide +kernel
theorem dX7_forfeitsOf_33 : decode cX7_forfeitsOf 33 = .ok (.aload_n 0, 1) := by decide +kernel
theorem dX7_forfeitsOf_34 : decode cX7_forfeitsOf 34 = .ok (.getfield 22, 3) := by decide +kernel
theorem dX7_forfeitsOf_37 : decode cX7_forfeitsOf 37 = .ok (.iload 4, 2) := by decide +kernel
theorem dX7_forfeitsOf_39 : decode cX7_forfeitsOf 39 = .ok (.iaload, 1) := by decide +kernel
theorem dX7_forfeitsOf_40 : decode cX7_forfeitsOf 40 = .ok (.iload_n 1, 1) := by decide +kernel
theorem dX7_forfeitsOf_41 : decode cX7_forfeitsOf 41 = .ok (.if_icmp .ne 7, 3) := by decide +kernel
theorem dX7_forfeitsOf_44 : decode cX7_forfeitsOf 44 = .ok (.iconst 4, 1) := by decide +kernel
theorem dX7_forfeitsOf_45 : decode cX7_forfeitsOf 45 = .ok (.goto 4, 3) := by decide +kernel
theorem dX7_forfeitsOf_48 : decode cX7_forfeitsOf 48 = .ok (.iconst 5, 1) := by decide +kernel
theorem dX7_forfeitsOf_49 : decode cX7_forfeitsOf 49 = .ok (.if_icmp .ne 7, 3) := by decide +kernel
theorem dX7_forfeitsOf_52 : decode cX7_forfeitsOf 52 = .ok (.iconst 1, 1) := by decide +kernel
theorem dX7_forfeitsOf_53 : decode cX7_forfeitsOf 53 = .ok (.goto 4, 3) := by decide +kernel
theorem dX7_forfeitsOf_56 : decode cX7_forfeitsOf 56 = .ok (.iconst 0, 1) := by decide +kernel
theorem dX7_forfeitsOf_57 : decode cX7_forfeitsOf 57 = .ok (.iadd, 1) := by decide +kernel
theorem dX7_forfeitsOf_58 : decode cX7_forfeitsOf 58 = .ok (.istore_n 2, 1) := by decide +kernel
theorem dX7_forfeitsOf_59 : decode cX7_forfeitsOf 59 = .ok (.iinc 3 1, 3) := by decide +kernel
theorem dX7_forfeitsOf_62 : decode cX7_forfeitsOf 62 = .ok (.goto (-58), 3) := by decide +kernel
theorem dX7_forfeitsOf_65 : decode cX7_forfeitsOf 65 = .ok (.iload_n 2, 1) := by decide +kernel
theorem dX7_forfeitsOf_66 : decode cX7_forfeitsOf 66 = .ok (.ireturn, 1) := by decide +kernel
theorem dX7_opponentsOf_0 : decode cX7_opponentsOf 0 = .ok (.iconst 0, 1) := by decide +kernel
theorem dX7_opponentsOf_1 : decode cX7_opponentsOf 1 = .ok (.istore_n 3, 1) := by decide +kernel
theorem dX7_opponentsOf_2 : decode cX7_opponentsOf 2 = .ok (.ldc 127, 2) := by decide +kernel
theorem dX7_opponentsOf_4 : decode cX7_opponentsOf 4 = .ok (.istore 4, 2) := by decide +kernel
theorem dX7_opponentsOf_6 : decode cX7_opponentsOf 6 = .ok (.iconst 0, 1) := by decide +kernel
theorem dX7_opponentsOf_7 : decode cX7_opponentsOf 7 = .ok (.istore 5, 2) := by decide +kernel
theorem dX7_opponentsOf_9 : decode cX7_opponentsOf 9 = .ok (.iload 5, 2) := by decide +kernel
theorem dX7_opponentsOf_11 : decode cX7_opponentsOf 11 = .ok (.aload_n 0, 1) := by decide +kernel
theorem dX7_opponentsOf_12 : decode cX7_opponentsOf 12 = .ok (.invokevirtual 99, 3) := by decide +kernel
theorem dX7_opponentsOf_15 : decode cX7_opponentsOf 15 = .ok (.if_icmp .ge 66, 3) := by decide +kernel
theorem dX7_opponentsOf_18 : decode cX7_opponentsOf 18 = .ok (.aload_n 0, 1) := by decide +kernel
theorem dX7_opponentsOf_19 : decode cX7_opponentsOf 19 = .ok (.iload_n 1, 1) := by decide +kernel
theorem dX7_opponentsOf_20 : decode cX7_opponentsOf 20 = .ok (.iload 5, 2) := by decide +kernel
theorem dX7_opponentsOf_22 : decode cX7_opponentsOf 22 = .ok (.invokevirtual 114, 3) := by decide +kernel
theorem dX7_opponentsOf_25 : decode cX7_opponentsOf 25 = .ok (.istore 6, 2) := by decide +kernel
theorem dX7_opponentsOf_27 : decode cX7_opponentsOf 27 = .ok (.iload 6, 2) := by decide +kernel
theorem dX7_opponentsOf_29 : decode cX7_opponentsOf 29 = .ok (.ifCond .lt 17, 3) := by decide +kernel
theorem dX7_opponentsOf_32 : decode cX7_opponentsOf 32 = .ok (.aload_n 0, 1) := by decide +kernel
theorem dX7_opponentsOf_33 : decode cX7_opponentsOf 33 = .ok (.aload_n 0, 1) := by decide +kernel
theorem dX7_opponentsOf_34 : decode cX7_opponentsOf 34 = .ok (.iload 6, 2) := by decide +kernel
theorem dX7_opponentsOf_36 : decode cX7_opponentsOf 36 = .ok (.iload_n 1, 1) := by decide +kernel
theorem dX7_opponentsOf_37 : decode cX7_opponentsOf 37 = .ok (.invokevirtual 117, 3) := by decide +kernel
theorem dX7_opponentsOf_40 : decode cX7_opponentsOf 40 = .ok (.invokevirtual 128, 3) := by decide +kernel
theorem dX7_opponentsOf_43 : decode cX7_opponentsOf 43 = .ok (.goto 4, 3) := by decide +kernel
theorem dX7_opponentsOf_46 : decode cX7_opponentsOf 46 = .ok (.iconst 0, 1) := by decide +kernel
theorem dX7_opponentsOf_47 : decode cX7_opponentsOf 47 = .ok (.istore 7, 2) := by decide +kernel
theorem dX7_opponentsOf_49 : decode cX7_opponentsOf 49 = .ok (.iload_n 3, 1) := by decide +kernel
theorem dX7_opponentsOf_50 : decode cX7_opponentsOf 50 = .ok (.iload 7, 2) := by decide +kernel
theorem dX7_opponentsOf_52 : decode cX7_opponentsOf 52 = .ok (.iadd, 1) := by decide +kernel
theorem dX7_opponentsOf_53 : decode cX7_opponentsOf 53 = .ok (.istore_n 3, 1) := by decide +kernel
theorem dX7_opponentsOf_54 : decode cX7_opponentsOf 54 = .ok (.iload 6, 2) := by decide +kernel
theorem dX7_opponentsOf_56 : decode cX7_opponentsOf 56 = .ok (.ifCond .lt 15, 3) := by decide +kernel
theorem dX7_opponentsOf_59 : decode cX7_opponentsOf 59 = .ok (.iload 7, 2) := by decide +kernel
theorem dX7_opponentsOf_61 : decode cX7_opponentsOf 61 = .ok (.iload 4, 2) := by decide +kernel
theorem dX7_opponentsOf_63 : decode cX7_opponentsOf 63 = .ok (.if_icmp .ge 8, 3) := by decide +kernel
theorem dX7_opponentsOf_66 : decode cX7_opponentsOf 66 = .ok (.iload 7, 2) := by decide +kernel
theorem dX7_opponentsOf_68 : decode cX7_opponentsOf 68 = .ok (.goto 5, 3) := by decide +kernel
theorem dX7_opponentsOf_71 : decode cX7_opponentsOf 71 = .ok (.iload 4, 2) := by decide +kernel
theorem dX7_opponentsOf_73 : decode cX7_opponentsOf 73 = .ok (.istore 4, 2) := by decide +kernel
theorem dX7_opponentsOf_75 : decode cX7_opponentsOf 75 = .ok (.iinc 5 1, 3) := by decide +kernel
theorem dX7_opponentsOf_78 : decode cX7_opponentsOf 78 = .ok (.goto (-69), 3) := by decide +kernel
theorem dX7_opponentsOf_81 : decode cX7_opponentsOf 81 = .ok (.iload_n 2, 1) := by decide +kernel
theorem dX7_opponentsOf_82 : decode cX7_opponentsOf 82 = .ok (.ifCond .eq 17, 3) := by decide +kernel
theorem dX7_opponentsOf_85 : decode cX7_opponentsOf 85 = .ok (.iload 4, 2) := by decide +kernel
theorem dX7_opponentsOf_87 : decode cX7_opponentsOf 87 = .ok (.ldc 127, 2) := by decide +kernel
theorem dX7_opponentsOf_89 : decode cX7_opponentsOf 89 = .ok (.if_icmp .ge 10, 3) := by decide +kernel
theorem dX7_opponentsOf_92 : decode cX7_opponentsOf 92 = .ok (.iload_n 3, 1) := by decide +kernel
theorem dX7_opponentsOf_93 : decode cX7_opponentsOf 93 = .ok (.iload 4, 2) := by decide +kernel
theorem dX7_opponentsOf_95 : decode cX7_opponentsOf 95 = .ok (.isub, 1) := by decide +kernel
theorem dX7_opponentsOf_96 : decode cX7_opponentsOf 96 = .ok (.goto 4, 3) := by decide +kernel
theorem dX7_opponentsOf_99 : decode cX7_opponentsOf 99 = .ok (.iload_n 3, 1) := by decide +kernel
theorem dX7_opponentsOf_100 : decode cX7_opponentsOf 100 = .ok (.ireturn, 1) := by decide +kernel
theorem dX7_beatenOf_0 : decode cX7_beatenOf 0 = .ok (.iconst 0, 1) := by decide +kernel
theorem dX7_beatenOf_1 : decode cX7_beatenOf 1 = .ok (.istore_n 2, 1) := by decide +kernel
theorem dX7_beatenOf_2 : decode cX7_beatenOf 2 = .ok (.iconst 0, 1) := by decide +kernel
theorem dX7_beatenOf_3 : decode cX7_beatenOf 3 = .ok (.istore_n 3, 1) := by decide +kernel
theorem dX7_beatenOf_4 : decode cX7_beatenOf 4 = .ok (.iload_n 3, 1) := by decide +kernel
theorem dX7_beatenOf_5 : decode cX7_beatenOf 5 = .ok (.aload_n 0, 1) := by decide +kernel
theorem dX7_beatenOf_6 : decode cX7_beatenOf 6 = .ok (.invokevirtual 99, 3) := by decide +kernel
theorem dX7_beatenOf_9 : decode cX7_beatenOf 9 = .ok (.if_icmp .ge 48, 3) := by decide +kernel
theorem dX7_beatenOf_12 : decode cX7_beatenOf 12 = .ok (.aload_n 0, 1) := by decide +kernel
theorem dX7_beatenOf_13 : decode cX7_beatenOf 13 = .ok (.iload_n 1, 1) := by decide +kernel
theorem dX7_beatenOf_14 : decode cX7_beatenOf 14 = .ok (.iload_n 3, 1) := by decide +kernel
theorem dX7_beatenOf_15 : decode cX7_beatenOf 15 = .ok (.invokevirtual 114, 3) := by decide +kernel
theorem dX7_beatenOf_18 : decode cX7_beatenOf 18 = .ok (.istore 4, 2) := by decide +kernel
theorem dX7_beatenOf_20 : decode cX7_beatenOf 20 = .ok (.iload_n 2, 1) := by decide +kernel
theorem dX7_beatenOf_21 : decode cX7_beatenOf 21 = .ok (.iload 4, 2) := by decide +kernel
theorem dX7_beatenOf_23 : decode cX7_beatenOf 23 = .ok (.ifCond .lt 25, 3) := by decide +kernel
theorem dX7_beatenOf_26 : decode cX7_beatenOf 26 = .ok (.aload_n 0, 1) := by decide +kernel
theorem dX7_beatenOf_27 : decode cX7_beatenOf 27 = .ok (.iload 4, 2) := by decide +kernel
theorem dX7_beatenOf_29 : decode cX7_beatenOf 29 = .ok (.iload_n 1, 1) := by decide +kernel
theorem dX7_beatenOf_30 : decode cX7_beatenOf 30 = .ok (.invokevirtual 105, 3) := by decide +kernel
theorem dX7_beatenOf_33 : decode cX7_beatenOf 33 = .ok (.aload_n 0, 1) := by decide +kernel
theorem dX7_beatenOf_34 : decode cX7_beatenOf 34 = .ok (.aload_n 0, 1) := by decide +kernel
theorem dX7_beatenOf_35 : decode cX7_beatenOf 35 = .ok (.iload 4, 2) := by decide +kernel
theorem dX7_beatenOf_37 : decode cX7_beatenOf 37 = .ok (.iload_n 1, 1) := by decide +kernel
theorem dX7_beatenOf_38 : decode cX7_beatenOf 38 = .ok (.invokevirtual 117, 3) := by decide +kernel
theorem dX7_beatenOf_41 : decode cX7_beatenOf 41 = .ok (.invokevirtual 128, 3) := by decide +kernel
theorem dX7_beatenOf_44 : decode cX7_beatenOf 44 = .ok (.imul, 1) := by decide +kernel
theorem dX7_beatenOf_45 : decode cX7_beatenOf 45 = .ok (.goto 4, 3) := by decide +kernel
theorem dX7_beatenOf_48 : decode cX7_beatenOf 48 = .ok (.iconst 0, 1) := by decide +kernel
theorem dX7_beatenOf_49 : decode cX7_beatenOf 49 = .ok (.iadd, 1) := by decide +kernel
theorem dX7_beatenOf_50 : decode cX7_beatenOf 50 = .ok (.istore_n 2, 1) := by decide +kernel
theorem dX7_beatenOf_51 : decode cX7_beatenOf 51 = .ok (.iinc 3 1, 3) := by decide +kernel
theorem dX7_beatenOf_54 : decode cX7_beatenOf 54 = .ok (.goto (-50), 3) := by decide +kernel
theorem dX7_beatenOf_57 : decode cX7_beatenOf 57 = .ok (.iload_n 2, 1) := by decide +kernel
theorem dX7_beatenOf_58 : decode cX7_beatenOf 58 = .ok (.ireturn, 1) := by decide +kernel
theorem dX7_winsOf_0 : decode cX7_winsOf 0 = .ok (.iconst 0, 1) := by decide +kernel
theorem dX7_winsOf_1 : decode cX7_winsOf 1 = .ok (.istore_n 2, 1) := by decide +kernel
theorem dX7_winsOf_2 : decode cX7_winsOf 2 = .ok (.iconst 0, 1) := by decide +kernel
theorem dX7_winsOf_3 : decode cX7_winsOf 3 = .ok (.istore_n 3, 1) := by decide +kernel
theorem dX7_winsOf_4 : decode cX7_winsOf 4 = .ok (.iload_n 3, 1) := by decide +kernel
theorem dX7_winsOf_5 : decode cX7_winsOf 5 = .ok (.aload_n 0, 1) := by decide +kernel
theorem dX7_winsOf_6 : decode cX7_winsOf 6 = .ok (.invokevirtual 99, 3) := by decide +kernel
theorem dX7_winsOf_9 : decode cX7_winsOf 9 = .ok (.if_icmp .ge 41, 3) := by decide +kernel
theorem dX7_winsOf_12 : decode cX7_winsOf 12 = .ok (.aload_n 0, 1) := by decide +kernel
theorem dX7_winsOf_13 : decode cX7_winsOf 13 = .ok (.iload_n 1, 1) := by decide +kernel
theorem dX7_winsOf_14 : decode cX7_winsOf 14 = .ok (.iload_n 3, 1) := by decide +kernel
theorem dX7_winsOf_15 : decode cX7_winsOf 15 = .ok (.invokevirtual 114, 3) := by decide +kernel
theorem dX7_winsOf_18 : decode cX7_winsOf 18 = .ok (.istore 4, 2) := by decide +kernel
theorem dX7_winsOf_20 : decode cX7_winsOf 20 = .ok (.iload_n 2, 1) := by decide +kernel
theorem dX7_winsOf_21 : decode cX7_winsOf 21 = .ok (.iload 4, 2) := by decide +kernel
theorem dX7_winsOf_23 : decode cX7_winsOf 23 = .ok (.ifCond .lt 18, 3) := by decide +kernel
theorem dX7_winsOf_26 : decode cX7_winsOf 26 = .ok (.aload_n 0, 1) := by decide +kernel
theorem dX7_winsOf_27 : decode cX7_winsOf 27 = .ok (.iload 4, 2) := by decide +kernel
theorem dX7_winsOf_29 : decode cX7_winsOf 29 = .ok (.iload_n 1, 1) := by decide +kernel
theorem dX7_winsOf_30 : decode cX7_winsOf 30 = .ok (.invokevirtual 105, 3) := by decide +kernel
theorem dX7_winsOf_33 : decode cX7_winsOf 33 = .ok (.iconst 2, 1) := by decide +kernel
theorem dX7_winsOf_34 : decode cX7_winsOf 34 = .ok (.if_icmp .ne 7, 3) := by decide +kernel
theorem dX7_winsOf_37 : decode cX7_winsOf 37 = .ok (.iconst 1, 1) := by decide +kernel
theorem dX7_winsOf_38 : decode cX7_winsOf 38 = .ok (.goto 4, 3) := by decide +kernel
theorem dX7_winsOf_41 : decode cX7_winsOf 41 = .ok (.iconst 0, 1) := by decide +kernel
theorem dX7_winsOf_42 : decode cX7_winsOf 42 = .ok (.iadd, 1) := by decide +kernel
theorem dX7_winsOf_43 : decode cX7_winsOf 43 = .ok (.istore_n 2, 1) := by decide +kernel
theorem dX7_winsOf_44 : decode cX7_winsOf 44 = .ok (.iinc 3 1, 3) := by decide +kernel
theorem dX7_winsOf_47 : decode cX7_winsOf 47 = .ok (.goto (-43), 3) := by decide +kernel
theorem dX7_winsOf_50 : decode cX7_winsOf 50 = .ok (.iload_n 2, 1) := by decide +kernel
theorem dX7_winsOf_51 : decode cX7_winsOf 51 = .ok (.ireturn, 1) := by decide +kernel
theorem dX7_growthOf_0 : decode cX7_growthOf 0 = .ok (.iconst 0, 1) := by decide +kernel
theorem dX7_growthOf_1 : decode cX7_growthOf 1 = .ok (.istore_n 2, 1) := by decide +kernel
theorem dX7_growthOf_2 : decode cX7_growthOf 2 = .ok (.iconst 1, 1) := by decide +kernel
theorem dX7_growthOf_3 : decode cX7_growthOf 3 = .ok (.istore_n 3, 1) := by decide +kernel
theorem dX7_growthOf_4 : decode cX7_growthOf 4 = .ok (.iload_n 3, 1) := by decide +kernel
theorem dX7_growthOf_5 : decode cX7_growthOf 5 = .ok (.aload_n 0, 1) := by decide +kernel
theorem dX7_growthOf_6 : decode cX7_growthOf 6 = .ok (.invokevirtual 99, 3) := by decide +kernel
theorem dX7_growthOf_9 : decode cX7_growthOf 9 = .ok (.if_icmp .gt 18, 3) := by decide +kernel
theorem dX7_growthOf_12 : decode cX7_growthOf 12 = .ok (.iload_n 2, 1) := by decide +kernel
theorem dX7_growthOf_13 : decode cX7_growthOf 13 = .ok (.aload_n 0, 1) := by decide +kernel
theorem dX7_growthOf_14 : decode cX7_growthOf 14 = .ok (.iload_n 1, 1) := by decide +kernel
theorem dX7_growthOf_15 : decode cX7_growthOf 15 = .ok (.iload_n 3, 1) := by decide +kernel
theorem dX7_growthOf_16 : decode cX7_growthOf 16 = .ok (.invokevirtual 111, 3) := by decide +kernel
theorem dX7_growthOf_19 : decode cX7_growthOf 19 = .ok (.iadd, 1) := by decide +kernel
theorem dX7_growthOf_20 : decode cX7_growthOf 20 = .ok (.istore_n 2, 1) := by decide +kernel
theorem dX7_growthOf_21 : decode cX7_growthOf 21 = .ok (.iinc 3 1, 3) := by decide +kernel
theorem dX7_growthOf_24 : decode cX7_growthOf 24 = .ok (.goto (-20), 3) := by decide +kernel
theorem dX7_growthOf_27 : decode cX7_growthOf 27 = .ok (.iload_n 2, 1) := by decide +kernel
theorem dX7_growthOf_28 : decode cX7_growthOf 28 = .ok (.ireturn, 1) := by decide +kernel
theorem dX7_directOf_0 : decode cX7_directOf 0 = .ok (.iconst 0, 1) := by decide +kernel
theorem dX7_directOf_1 : decode cX7_directOf 1 = .ok (.istore_n 2, 1) := by decide +kernel
theorem dX7_directOf_2 : decode cX7_directOf 2 = .ok (.iconst 0, 1) := by decide +kernel
theorem dX7_directOf_3 : decode cX7_directOf 3 = .ok (.istore_n 3, 1) := by decide +kernel
theorem dX7_directOf_4 : decode cX7_directOf 4 = .ok (.iload_n 3, 1) := by decide +kernel
theorem dX7_directOf_5 : decode cX7_directOf 5 = .ok (.aload_n 0, 1) := by decide +kernel
theorem dX7_directOf_6 : decode cX7_directOf 6 = .ok (.invokevirtual 99, 3) := by decide +kernel
theorem dX7_directOf_9 : decode cX7_directOf 9 = .ok (.if_icmp .ge 55, 3) := by decide +kernel
theorem dX7_directOf_12 : decode cX7_directOf 12 = .ok (.aload_n 0, 1) := by decide +kernel
theorem dX7_directOf_13 : decode cX7_directOf 13 = .ok (.iload_n 1, 1) := by decide +kernel
theorem dX7_directOf_14 : decode cX7_directOf 14 = .ok (.iload_n 3, 1) := by decide +kernel
theorem dX7_directOf_15 : decode cX7_directOf 15 = .ok (.invokevirtual 114, 3) := by decide +kernel
theorem dX7_directOf_18 : decode cX7_directOf 18 = .ok (.istore 4, 2) := by decide +kernel
theorem dX7_directOf_20 : decode cX7_directOf 20 = .ok (.iload_n 2, 1) := by decide +kernel
theorem dX7_directOf_21 : decode cX7_directOf 21 = .ok (.iload 4, 2) := by decide +kernel
theorem dX7_directOf_23 : decode cX7_directOf 23 = .ok (.ifCond .lt 32, 3) := by decide +kernel
theorem dX7_directOf_26 : decode cX7_directOf 26 = .ok (.aload_n 0, 1) := by decide +kernel
theorem dX7_directOf_27 : decode cX7_directOf 27 = .ok (.aload_n 0, 1) := by decide +kernel
theorem dX7_directOf_28 : decode cX7_directOf 28 = .ok (.iload 4, 2) := by decide +kernel
theorem dX7_directOf_30 : decode cX7_directOf 30 = .ok (.iload_n 1, 1) := by decide +kernel
theorem dX7_directOf_31 : decode cX7_directOf 31 = .ok (.invokevirtual 117, 3) := by decide +kernel
theorem dX7_directOf_34 : decode cX7_directOf 34 = .ok (.invokevirtual 128, 3) := by decide +kernel
theorem dX7_directOf_37 : decode cX7_directOf 37 = .ok (.aload_n 0, 1) := by decide +kernel
theorem dX7_directOf_38 : decode cX7_directOf 38 = .ok (.iload_n 1, 1) := by decide +kernel
theorem dX7_directOf_39 : decode cX7_directOf 39 = .ok (.invokevirtual 128, 3) := by decide +kernel
theorem dX7_directOf_42 : decode cX7_directOf 42 = .ok (.if_icmp .ne 13, 3) := by decide +kernel
theorem dX7_directOf_45 : decode cX7_directOf 45 = .ok (.aload_n 0, 1) := by decide +kernel
theorem dX7_directOf_46 : decode cX7_directOf 46 = .ok (.iload 4, 2) := by decide +kernel
theorem dX7_directOf_48 : decode cX7_directOf 48 = .ok (.iload_n 1, 1) := by decide +kernel
theorem dX7_directOf_49 : decode cX7_directOf 49 = .ok (.invokevirtual 105, 3) := by decide +kernel
theorem dX7_directOf_52 : decode cX7_directOf 52 = .ok (.goto 4, 3) := by decide +kernel
theorem dX7_directOf_55 : decode cX7_directOf 55 = .ok (.iconst 0, 1) := by decide +kernel
theorem dX7_directOf_56 : decode cX7_directOf 56 = .ok (.iadd, 1) := by decide +kernel
theorem dX7_directOf_57 : decode cX7_directOf 57 = .ok (.istore_n 2, 1) := by decide +kernel
theorem dX7_directOf_58 : decode cX7_directOf 58 = .ok (.iinc 3 1, 3) := by decide +kernel
theorem dX7_directOf_61 : decode cX7_directOf 61 = .ok (.goto (-57), 3) := by decide +kernel
theorem dX7_directOf_64 : decode cX7_directOf 64 = .ok (.iload_n 2, 1) := by decide +kernel
theorem dX7_directOf_65 : decode cX7_directOf 65 = .ok (.ireturn, 1) := by decide +kernel
theorem dX7_tieOf_0 : decode cX7_tieOf 0 = .ok (.iload_n 2, 1) := by decide +kernel
theorem dX7_tieOf_1 : decode cX7_tieOf 1 = .ok (.tableswitch 99 0 7 #[47, 53, 53, 69, 75, 81, 87, 93], 47) := by decide +kernel
theorem dX7_tieOf_48 : decode cX7_tieOf 48 = .ok (.aload_n 0, 1) := by decide +kernel
theorem dX7_tieOf_49 : decode cX7_tieOf 49 = .ok (.iload_n 1, 1) := by decide +kernel
theorem dX7_tieOf_50 : decode cX7_tieOf 50 = .ok (.invokevirtual 128, 3) := by decide +kernel
theorem dX7_tieOf_53 : decode cX7_tieOf 53 = .ok (.ireturn, 1) := by decide +kernel
theorem dX7_tieOf_54 : decode cX7_tieOf 54 = .ok (.aload_n 0, 1) := by decide +kernel
theorem dX7_tieOf_55 : decode cX7_tieOf 55 = .ok (.iload_n 1, 1) := by decide +kernel
theorem dX7_tieOf_56 : decode cX7_tieOf 56 = .ok (.iload_n 2, 1) := by decide +kernel
theorem dX7_tieOf_57 : decode cX7_tieOf 57 = .ok (.iconst 2, 1) := by decide +kernel
theorem dX7_tieOf_58 : decode cX7_tieOf 58 = .ok (.if_icmp .ne 7, 3) := by decide +kernel
theorem dX7_tieOf_61 : decode cX7_tieOf 61 = .ok (.iconst 1, 1) := by decide +kernel
theorem dX7_tieOf_62 : decode cX7_tieOf 62 = .ok (.goto 4, 3) := by decide +kernel
theorem dX7_tieOf_65 : decode cX7_tieOf 65 = .ok (.iconst 0, 1) := by decide +kernel
theorem dX7_tieOf_66 : decode cX7_tieOf 66 = .ok (.invokevirtual 131, 3) := by decide +kernel
theorem dX7_tieOf_69 : decode cX7_tieOf 69 = .ok (.ireturn, 1) := by decide +kernel
theorem dX7_tieOf_70 : decode cX7_tieOf 70 = .ok (.aload_n 0, 1) := by decide +kernel
theorem dX7_tieOf_71 : decode cX7_tieOf 71 = .ok (.iload_n 1, 1) := by decide +kernel
theorem dX7_tieOf_72 : decode cX7_tieOf 72 = .ok (.invokevirtual 135, 3) := by decide +kernel
theorem dX7_tieOf_75 : decode cX7_tieOf 75 = .ok (.ireturn, 1) := by decide +kernel
theorem dX7_tieOf_76 : decode cX7_tieOf 76 = .ok (.aload_n 0, 1) := by decide +kernel
theorem dX7_tieOf_77 : decode cX7_tieOf 77 = .ok (.iload_n 1, 1) := by decide +kernel
theorem dX7_tieOf_78 : decode cX7_tieOf 78 = .ok (.invokevirtual 138, 3) := by decide +kernel
theorem dX7_tieOf_81 : decode cX7_tieOf 81 = .ok (.ireturn, 1) := by decide +kernel
theorem dX7_tieOf_82 : decode cX7_tieOf 82 = .ok (.aload_n 0, 1) := by decide +kernel
theorem dX7_tieOf_83 : decode cX7_tieOf 83 = .ok (.iload_n 1, 1) := by decide +kernel
theorem dX7_tieOf_84 : decode cX7_tieOf 84 = .ok (.invokevirtual 124, 3) := by decide +kernel
theorem dX7_tieOf_87 : decode cX7_tieOf 87 = .ok (.ireturn, 1) := by decide +kernel
theorem dX7_tieOf_88 : decode cX7_tieOf 88 = .ok (.aload_n 0, 1) := by decide +kernel
theorem dX7_tieOf_89 : decode cX7_tieOf 89 = .ok (.iload_n 1, 1) := by decide +kernel
theorem dX7_tieOf_90 : decode cX7_tieOf 90 = .ok (.invokevirtual 141, 3) := by decide +kernel
theorem dX7_tieOf_93 : decode cX7_tieOf 93 = .ok (.ireturn, 1) := by decide +kernel
theorem dX7_tieOf_94 : decode cX7_tieOf 94 = .ok (.aload_n 0, 1) := by decide +kernel
theorem dX7_tieOf_95 : decode cX7_tieOf 95 = .ok (.iload_n 1, 1) := by decide +kernel
theorem dX7_tieOf_96 : decode cX7_tieOf 96 = .ok (.invokevirtual 144, 3) := by decide +kernel
theorem dX7_tieOf_99 : decode cX7_tieOf 99 = .ok (.ireturn, 1) := by decide +kernel
theorem dX7_tieOf_100 : decode cX7_tieOf 100 = .ok (.aload_n 0, 1) := by decide +kernel
theorem dX7_tieOf_101 : decode cX7_tieOf 101 = .ok (.getfield 7, 3) := by decide +kernel
theorem dX7_tieOf_104 : decode cX7_tieOf 104 = .ok (.iload_n 1, 1) := by decide +kernel
theorem dX7_tieOf_105 : decode cX7_tieOf 105 = .ok (.iaload, 1) := by decide +kernel
theorem dX7_tieOf_106 : decode cX7_tieOf 106 = .ok (.ireturn, 1) := by decide +kernel
theorem dX7_differsIn_0 : decode cX7_differsIn 0 = .ok (.iconst (-1), 1) := by decide +kernel
theorem dX7_differsIn_1 : decode cX7_differsIn 1 = .ok (.istore_n 3, 1) := by decide +kernel
theorem dX7_differsIn_2 : decode cX7_differsIn 2 = .ok (.aload_n 0, 1) := by decide +kernel
theorem dX7_differsIn_3 : decode cX7_differsIn 3 = .ok (.getfield 31, 3) := by decide +kernel
theorem dX7_differsIn_6 : decode cX7_differsIn 6 = .ok (.iconst 1, 1) := by decide +kernel
theorem dX7_differsIn_7 : decode cX7_differsIn 7 = .ok (.isub, 1) := by decide +kernel
theorem dX7_differsIn_8 : decode cX7_differsIn 8 = .ok (.istore 4, 2) := by decide +kernel
theorem dX7_differsIn_10 : decode cX7_differsIn 10 = .ok (.iload 4, 2) := by decide +kernel
theorem dX7_differsIn_12 : decode cX7_differsIn 12 = .ok (.ifCond .lt 58, 3) := by decide +kernel
theorem dX7_differsIn_15 : decode cX7_differsIn 15 = .ok (.aload_n 0, 1) := by decide +kernel
theorem dX7_differsIn_16 : decode cX7_differsIn 16 = .ok (.getfield 38, 3) := by decide +kernel
theorem dX7_differsIn_19 : decode cX7_differsIn 19 = .ok (.bipush 9, 2) := by decide +kernel
theorem dX7_differsIn_21 : decode cX7_differsIn 21 = .ok (.iload_n 1, 1) := by decide +kernel
theorem dX7_differsIn_22 : decode cX7_differsIn 22 = .ok (.imul, 1) := by decide +kernel
theorem dX7_differsIn_23 : decode cX7_differsIn 23 = .ok (.aload_n 0, 1) := by decide +kernel
theorem dX7_differsIn_24 : decode cX7_differsIn 24 = .ok (.getfield 35, 3) := by decide +kernel
theorem dX7_differsIn_27 : decode cX7_differsIn 27 = .ok (.iload 4, 2) := by decide +kernel
theorem dX7_differsIn_29 : decode cX7_differsIn 29 = .ok (.iaload, 1) := by decide +kernel
theorem dX7_differsIn_30 : decode cX7_differsIn 30 = .ok (.iadd, 1) := by decide +kernel
theorem dX7_differsIn_31 : decode cX7_differsIn 31 = .ok (.iaload, 1) := by decide +kernel
theorem dX7_differsIn_32 : decode cX7_differsIn 32 = .ok (.aload_n 0, 1) := by decide +kernel
theorem dX7_differsIn_33 : decode cX7_differsIn 33 = .ok (.getfield 38, 3) := by decide +kernel
theorem dX7_differsIn_36 : decode cX7_differsIn 36 = .ok (.bipush 9, 2) := by decide +kernel
theorem dX7_differsIn_38 : decode cX7_differsIn 38 = .ok (.iload_n 2, 1) := by decide +kernel
theorem dX7_differsIn_39 : decode cX7_differsIn 39 = .ok (.imul, 1) := by decide +kernel
theorem dX7_differsIn_40 : decode cX7_differsIn 40 = .ok (.aload_n 0, 1) := by decide +kernel
theorem dX7_differsIn_41 : decode cX7_differsIn 41 = .ok (.getfield 35, 3) := by decide +kernel
theorem dX7_differsIn_44 : decode cX7_differsIn 44 = .ok (.iload 4, 2) := by decide +kernel
theorem dX7_differsIn_46 : decode cX7_differsIn 46 = .ok (.iaload, 1) := by decide +kernel
theorem dX7_differsIn_47 : decode cX7_differsIn 47 = .ok (.iadd, 1) := by decide +kernel
theorem dX7_differsIn_48 : decode cX7_differsIn 48 = .ok (.iaload, 1) := by decide +kernel
theorem dX7_differsIn_49 : decode cX7_differsIn 49 = .ok (.if_icmp .eq 13, 3) := by decide +kernel
theorem dX7_differsIn_52 : decode cX7_differsIn 52 = .ok (.aload_n 0, 1) := by decide +kernel
theorem dX7_differsIn_53 : decode cX7_differsIn 53 = .ok (.getfield 35, 3) := by decide +kernel
theorem dX7_differsIn_56 : decode cX7_differsIn 56 = .ok (.iload 4, 2) := by decide +kernel
theorem dX7_differsIn_58 : decode cX7_differsIn 58 = .ok (.iaload, 1) := by decide +kernel
theorem dX7_differsIn_59 : decode cX7_differsIn 59 = .ok (.goto 4, 3) := by decide +kernel
theorem dX7_differsIn_62 : decode cX7_differsIn 62 = .ok (.iload_n 3, 1) := by decide +kernel
theorem dX7_differsIn_63 : decode cX7_differsIn 63 = .ok (.istore_n 3, 1) := by decide +kernel
theorem dX7_differsIn_64 : decode cX7_differsIn 64 = .ok (.iinc 4 (-1), 3) := by decide +kernel
theorem dX7_differsIn_67 : decode cX7_differsIn 67 = .ok (.goto (-57), 3) := by decide +kernel
theorem dX7_differsIn_70 : decode cX7_differsIn 70 = .ok (.iload_n 3, 1) := by decide +kernel
theorem dX7_differsIn_71 : decode cX7_differsIn 71 = .ok (.ireturn, 1) := by decide +kernel
theorem dX7_isAhead_0 : decode cX7_isAhead 0 = .ok (.aload_n 0, 1) := by decide +kernel
theorem dX7_isAhead_1 : decode cX7_isAhead 1 = .ok (.iload_n 1, 1) := by decide +kernel
theorem dX7_isAhead_2 : decode cX7_isAhead 2 = .ok (.iload_n 2, 1) := by decide +kernel
theorem dX7_isAhead_3 : decode cX7_isAhead 3 = .ok (.invokevirtual 147, 3) := by decide +kernel
theorem dX7_isAhead_6 : decode cX7_isAhead 6 = .ok (.istore_n 3, 1) := by decide +kernel
theorem dX7_isAhead_7 : decode cX7_isAhead 7 = .ok (.iload_n 3, 1) := by decide +kernel
theorem dX7_isAhead_8 : decode cX7_isAhead 8 = .ok (.ifCond .ge 16, 3) := by decide +kernel
theorem dX7_isAhead_11 : decode cX7_isAhead 11 = .ok (.iload_n 1, 1) := by decide +kernel
theorem dX7_isAhead_12 : decode cX7_isAhead 12 = .ok (.iload_n 2, 1) := by decide +kernel
theorem dX7_isAhead_13 : decode cX7_isAhead 13 = .ok (.if_icmp .ge 7, 3) := by decide +kernel
theorem dX7_isAhead_16 : decode cX7_isAhead 16 = .ok (.iconst 1, 1) := by decide +kernel
theorem dX7_isAhead_17 : decode cX7_isAhead 17 = .ok (.goto 37, 3) := by decide +kernel
theorem dX7_isAhead_20 : decode cX7_isAhead 20 = .ok (.iconst 0, 1) := by decide +kernel
theorem dX7_isAhead_21 : decode cX7_isAhead 21 = .ok (.goto 33, 3) := by decide +kernel
theorem dX7_isAhead_24 : decode cX7_isAhead 24 = .ok (.aload_n 0, 1) := by decide +kernel
theorem dX7_isAhead_25 : decode cX7_isAhead 25 = .ok (.getfield 38, 3) := by decide +kernel
theorem dX7_isAhead_28 : decode cX7_isAhead 28 = .ok (.bipush 9, 2) := by decide +kernel
theorem dX7_isAhead_30 : decode cX7_isAhead 30 = .ok (.iload_n 1, 1) := by decide +kernel
theorem dX7_isAhead_31 : decode cX7_isAhead 31 = .ok (.imul, 1) := by decide +kernel
theorem dX7_isAhead_32 : decode cX7_isAhead 32 = .ok (.iload_n 3, 1) := by decide +kernel
theorem dX7_isAhead_33 : decode cX7_isAhead 33 = .ok (.iadd, 1) := by decide +kernel
theorem dX7_isAhead_34 : decode cX7_isAhead 34 = .ok (.iaload, 1) := by decide +kernel
theorem dX7_isAhead_35 : decode cX7_isAhead 35 = .ok (.aload_n 0, 1) := by decide +kernel
theorem dX7_isAhead_36 : decode cX7_isAhead 36 = .ok (.getfield 38, 3) := by decide +kernel
theorem dX7_isAhead_39 : decode cX7_isAhead 39 = .ok (.bipush 9, 2) := by decide +kernel
theorem dX7_isAhead_41 : decode cX7_isAhead 41 = .ok (.iload_n 2, 1) := by decide +kernel
theorem dX7_isAhead_42 : decode cX7_isAhead 42 = .ok (.imul, 1) := by decide +kernel
theorem dX7_isAhead_43 : decode cX7_isAhead 43 = .ok (.iload_n 3, 1) := by decide +kernel
theorem dX7_isAhead_44 : decode cX7_isAhead 44 = .ok (.iadd, 1) := by decide +kernel
theorem dX7_isAhead_45 : decode cX7_isAhead 45 = .ok (.iaload, 1) := by decide +kernel
theorem dX7_isAhead_46 : decode cX7_isAhead 46 = .ok (.if_icmp .le 7, 3) := by decide +kernel
theorem dX7_isAhead_49 : decode cX7_isAhead 49 = .ok (.iconst 1, 1) := by decide +kernel
theorem dX7_isAhead_50 : decode cX7_isAhead 50 = .ok (.goto 4, 3) := by decide +kernel
theorem dX7_isAhead_53 : decode cX7_isAhead 53 = .ok (.iconst 0, 1) := by decide +kernel
theorem dX7_isAhead_54 : decode cX7_isAhead 54 = .ok (.ireturn, 1) := by decide +kernel
theorem dX7_aheadOf_0 : decode cX7_aheadOf 0 = .ok (.iconst 0, 1) := by decide +kernel
theorem dX7_aheadOf_1 : decode cX7_aheadOf 1 = .ok (.istore_n 2, 1) := by decide +kernel
theorem dX7_aheadOf_2 : decode cX7_aheadOf 2 = .ok (.iconst 0, 1) := by decide +kernel
theorem dX7_aheadOf_3 : decode cX7_aheadOf 3 = .ok (.istore_n 3, 1) := by decide +kernel
theorem dX7_aheadOf_4 : decode cX7_aheadOf 4 = .ok (.iload_n 3, 1) := by decide +kernel
theorem dX7_aheadOf_5 : decode cX7_aheadOf 5 = .ok (.aload_n 0, 1) := by decide +kernel
theorem dX7_aheadOf_6 : decode cX7_aheadOf 6 = .ok (.getfield 78, 3) := by decide +kernel
theorem dX7_aheadOf_9 : decode cX7_aheadOf 9 = .ok (.if_icmp .ge 31, 3) := by decide +kernel
theorem dX7_aheadOf_12 : decode cX7_aheadOf 12 = .ok (.iload_n 2, 1) := by decide +kernel
theorem dX7_aheadOf_13 : decode cX7_aheadOf 13 = .ok (.iload_n 3, 1) := by decide +kernel
theorem dX7_aheadOf_14 : decode cX7_aheadOf 14 = .ok (.iload_n 1, 1) := by decide +kernel
theorem dX7_aheadOf_15 : decode cX7_aheadOf 15 = .ok (.if_icmp .eq 16, 3) := by decide +kernel
theorem dX7_aheadOf_18 : decode cX7_aheadOf 18 = .ok (.aload_n 0, 1) := by decide +kernel
theorem dX7_aheadOf_19 : decode cX7_aheadOf 19 = .ok (.iload_n 3, 1) := by decide +kernel
theorem dX7_aheadOf_20 : decode cX7_aheadOf 20 = .ok (.iload_n 1, 1) := by decide +kernel
theorem dX7_aheadOf_21 : decode cX7_aheadOf 21 = .ok (.invokevirtual 150, 3) := by decide +kernel
theorem dX7_aheadOf_24 : decode cX7_aheadOf 24 = .ok (.ifCond .eq 7, 3) := by decide +kernel
theorem dX7_aheadOf_27 : decode cX7_aheadOf 27 = .ok (.iconst 1, 1) := by decide +kernel
theorem dX7_aheadOf_28 : decode cX7_aheadOf 28 = .ok (.goto 4, 3) := by decide +kernel
theorem dX7_aheadOf_31 : decode cX7_aheadOf 31 = .ok (.iconst 0, 1) := by decide +kernel
theorem dX7_aheadOf_32 : decode cX7_aheadOf 32 = .ok (.iadd, 1) := by decide +kernel
theorem dX7_aheadOf_33 : decode cX7_aheadOf 33 = .ok (.istore_n 2, 1) := by decide +kernel
theorem dX7_aheadOf_34 : decode cX7_aheadOf 34 = .ok (.iinc 3 1, 3) := by decide +kernel
theorem dX7_aheadOf_37 : decode cX7_aheadOf 37 = .ok (.goto (-33), 3) := by decide +kernel
theorem dX7_aheadOf_40 : decode cX7_aheadOf 40 = .ok (.iload_n 2, 1) := by decide +kernel
theorem dX7_aheadOf_41 : decode cX7_aheadOf 41 = .ok (.ireturn, 1) := by decide +kernel
theorem dX7_layStanding_0 : decode cX7_layStanding 0 = .ok (.iconst 0, 1) := by decide +kernel
theorem dX7_layStanding_1 : decode cX7_layStanding 1 = .ok (.istore_n 1, 1) := by decide +kernel
theorem dX7_layStanding_2 : decode cX7_layStanding 2 = .ok (.iload_n 1, 1) := by decide +kernel
theorem dX7_layStanding_3 : decode cX7_layStanding 3 = .ok (.aload_n 0, 1) := by decide +kernel
theorem dX7_layStanding_4 : decode cX7_layStanding 4 = .ok (.getfield 78, 3) := by decide +kernel
theorem dX7_layStanding_7 : decode cX7_layStanding 7 = .ok (.if_icmp .ge 40, 3) := by decide +kernel
theorem dX7_layStanding_10 : decode cX7_layStanding 10 = .ok (.iconst 0, 1) := by decide +kernel
theorem dX7_layStanding_11 : decode cX7_layStanding 11 = .ok (.istore_n 2, 1) := by decide +kernel
theorem dX7_layStanding_12 : decode cX7_layStanding 12 = .ok (.iload_n 2, 1) := by decide +kernel
theorem dX7_layStanding_13 : decode cX7_layStanding 13 = .ok (.bipush 9, 2) := by decide +kernel
theorem dX7_layStanding_15 : decode cX7_layStanding 15 = .ok (.if_icmp .ge 26, 3) := by decide +kernel
theorem dX7_layStanding_18 : decode cX7_layStanding 18 = .ok (.aload_n 0, 1) := by decide +kernel
theorem dX7_layStanding_19 : decode cX7_layStanding 19 = .ok (.getfield 38, 3) := by decide +kernel
theorem dX7_layStanding_22 : decode cX7_layStanding 22 = .ok (.bipush 9, 2) := by decide +kernel
theorem dX7_layStanding_24 : decode cX7_layStanding 24 = .ok (.iload_n 1, 1) := by decide +kernel
theorem dX7_layStanding_25 : decode cX7_layStanding 25 = .ok (.imul, 1) := by decide +kernel
theorem dX7_layStanding_26 : decode cX7_layStanding 26 = .ok (.iload_n 2, 1) := by decide +kernel
theorem dX7_layStanding_27 : decode cX7_layStanding 27 = .ok (.iadd, 1) := by decide +kernel
theorem dX7_layStanding_28 : decode cX7_layStanding 28 = .ok (.aload_n 0, 1) := by decide +kernel
theorem dX7_layStanding_29 : decode cX7_layStanding 29 = .ok (.iload_n 1, 1) := by decide +kernel
theorem dX7_layStanding_30 : decode cX7_layStanding 30 = .ok (.iload_n 2, 1) := by decide +kernel
theorem dX7_layStanding_31 : decode cX7_layStanding 31 = .ok (.invokevirtual 154, 3) := by decide +kernel
theorem dX7_layStanding_34 : decode cX7_layStanding 34 = .ok (.iastore, 1) := by decide +kernel
theorem dX7_layStanding_35 : decode cX7_layStanding 35 = .ok (.iinc 2 1, 3) := by decide +kernel
theorem dX7_layStanding_38 : decode cX7_layStanding 38 = .ok (.goto (-26), 3) := by decide +kernel
theorem dX7_layStanding_41 : decode cX7_layStanding 41 = .ok (.iinc 1 1, 3) := by decide +kernel
theorem dX7_layStanding_44 : decode cX7_layStanding 44 = .ok (.goto (-42), 3) := by decide +kernel
theorem dX7_layStanding_47 : decode cX7_layStanding 47 = .ok (.iconst 0, 1) := by decide +kernel
theorem dX7_layStanding_48 : decode cX7_layStanding 48 = .ok (.istore_n 1, 1) := by decide +kernel
theorem dX7_layStanding_49 : decode cX7_layStanding 49 = .ok (.iload_n 1, 1) := by decide +kernel
theorem dX7_layStanding_50 : decode cX7_layStanding 50 = .ok (.aload_n 0, 1) := by decide +kernel
theorem dX7_layStanding_51 : decode cX7_layStanding 51 = .ok (.getfield 78, 3) := by decide +kernel
theorem dX7_layStanding_54 : decode cX7_layStanding 54 = .ok (.if_icmp .ge 20, 3) := by decide +kernel
theorem dX7_layStanding_57 : decode cX7_layStanding 57 = .ok (.aload_n 0, 1) := by decide +kernel
theorem dX7_layStanding_58 : decode cX7_layStanding 58 = .ok (.getfield 41, 3) := by decide +kernel
theorem dX7_layStanding_61 : decode cX7_layStanding 61 = .ok (.aload_n 0, 1) := by decide +kernel
theorem dX7_layStanding_62 : decode cX7_layStanding 62 = .ok (.iload_n 1, 1) := by decide +kernel
theorem dX7_layStanding_63 : decode cX7_layStanding 63 = .ok (.invokevirtual 157, 3) := by decide +kernel
theorem dX7_layStanding_66 : decode cX7_layStanding 66 = .ok (.iload_n 1, 1) := by decide +kernel
theorem dX7_layStanding_67 : decode cX7_layStanding 67 = .ok (.iastore, 1) := by decide +kernel
theorem dX7_layStanding_68 : decode cX7_layStanding 68 = .ok (.iinc 1 1, 3) := by decide +kernel
theorem dX7_layStanding_71 : decode cX7_layStanding 71 = .ok (.goto (-22), 3) := by decide +kernel
theorem dX7_layStanding_74 : decode cX7_layStanding 74 = .ok (.return_, 1) := by decide +kernel
theorem dX7_costOf_0 : decode cX7_costOf 0 = .ok (.aload_n 0, 1) := by decide +kernel
theorem dX7_costOf_1 : decode cX7_costOf 1 = .ok (.iload_n 1, 1) := by decide +kernel
theorem dX7_costOf_2 : decode cX7_costOf 2 = .ok (.invokevirtual 128, 3) := by decide +kernel
theorem dX7_costOf_5 : decode cX7_costOf 5 = .ok (.aload_n 0, 1) := by decide +kernel
theorem dX7_costOf_6 : decode cX7_costOf 6 = .ok (.iload_n 2, 1) := by decide +kernel
theorem dX7_costOf_7 : decode cX7_costOf 7 = .ok (.invokevirtual 128, 3) := by decide +kernel
theorem dX7_costOf_10 : decode cX7_costOf 10 = .ok (.isub, 1) := by decide +kernel
theorem dX7_costOf_11 : decode cX7_costOf 11 = .ok (.istore_n 3, 1) := by decide +kernel
theorem dX7_costOf_12 : decode cX7_costOf 12 = .ok (.aload_n 0, 1) := by decide +kernel
theorem dX7_costOf_13 : decode cX7_costOf 13 = .ok (.iload_n 1, 1) := by decide +kernel
theorem dX7_costOf_14 : decode cX7_costOf 14 = .ok (.invokevirtual 160, 3) := by decide +kernel
theorem dX7_costOf_17 : decode cX7_costOf 17 = .ok (.istore 4, 2) := by decide +kernel
theorem dX7_costOf_19 : decode cX7_costOf 19 = .ok (.aload_n 0, 1) := by decide +kernel
theorem dX7_costOf_20 : decode cX7_costOf 20 = .ok (.iload_n 2, 1) := by decide +kernel
theorem dX7_costOf_21 : decode cX7_costOf 21 = .ok (.invokevirtual 160, 3) := by decide +kernel
theorem dX7_costOf_24 : decode cX7_costOf 24 = .ok (.istore 5, 2) := by decide +kernel
theorem dX7_costOf_26 : decode cX7_costOf 26 = .ok (.bipush 10, 2) := by decide +kernel
theorem dX7_costOf_28 : decode cX7_costOf 28 = .ok (.iload_n 3, 1) := by decide +kernel
theorem dX7_costOf_29 : decode cX7_costOf 29 = .ok (.ifCond .ge 8, 3) := by decide +kernel
theorem dX7_costOf_32 : decode cX7_costOf 32 = .ok (.iload_n 3, 1) := by decide +kernel
theorem dX7_costOf_33 : decode cX7_costOf 33 = .ok (.ineg, 1) := by decide +kernel
theorem dX7_costOf_34 : decode cX7_costOf 34 = .ok (.goto 4, 3) := by decide +kernel
theorem dX7_costOf_37 : decode cX7_costOf 37 = .ok (.iload_n 3, 1) := by decide +kernel
theorem dX7_costOf_38 : decode cX7_costOf 38 = .ok (.imul, 1) := by decide +kernel
theorem dX7_costOf_39 : decode cX7_costOf 39 = .ok (.istore 6, 2) := by decide +kernel
theorem dX7_costOf_41 : decode cX7_costOf 41 = .ok (.iload 6, 2) := by decide +kernel
theorem dX7_costOf_43 : decode cX7_costOf 43 = .ok (.iload 4, 2) := by decide +kernel
theorem dX7_costOf_45 : decode cX7_costOf 45 = .ok (.ifCond .le 8, 3) := by decide +kernel
theorem dX7_costOf_48 : decode cX7_costOf 48 = .ok (.iload 5, 2) := by decide +kernel
theorem dX7_costOf_50 : decode cX7_costOf 50 = .ok (.ifCond .gt 13, 3) := by decide +kernel
theorem dX7_costOf_53 : decode cX7_costOf 53 = .ok (.iload 4, 2) := by decide +kernel
theorem dX7_costOf_55 : decode cX7_costOf 55 = .ok (.ifCond .ge 12, 3) := by decide +kernel
theorem dX7_costOf_58 : decode cX7_costOf 58 = .ok (.iload 5, 2) := by decide +kernel
theorem dX7_costOf_60 : decode cX7_costOf 60 = .ok (.ifCond .ge 7, 3) := by decide +kernel
theorem dX7_costOf_63 : decode cX7_costOf 63 = .ok (.iconst 3, 1) := by decide +kernel
theorem dX7_costOf_64 : decode cX7_costOf 64 = .ok (.goto 4, 3) := by decide +kernel
theorem dX7_costOf_67 : decode cX7_costOf 67 = .ok (.iconst 0, 1) := by decide +kernel
theorem dX7_costOf_68 : decode cX7_costOf 68 = .ok (.iadd, 1) := by decide +kernel
theorem dX7_costOf_69 : decode cX7_costOf 69 = .ok (.istore 6, 2) := by decide +kernel
theorem dX7_costOf_71 : decode cX7_costOf 71 = .ok (.iload 6, 2) := by decide +kernel
theorem dX7_costOf_73 : decode cX7_costOf 73 = .ok (.aload_n 0, 1) := by decide +kernel
theorem dX7_costOf_74 : decode cX7_costOf 74 = .ok (.iload_n 1, 1) := by decide +kernel
theorem dX7_costOf_75 : decode cX7_costOf 75 = .ok (.invokevirtual 163, 3) := by decide +kernel
theorem dX7_costOf_78 : decode cX7_costOf 78 = .ok (.ifCond .lt 20, 3) := by decide +kernel
theorem dX7_costOf_81 : decode cX7_costOf 81 = .ok (.aload_n 0, 1) := by decide +kernel
theorem dX7_costOf_82 : decode cX7_costOf 82 = .ok (.iload_n 1, 1) := by decide +kernel
theorem dX7_costOf_83 : decode cX7_costOf 83 = .ok (.invokevirtual 163, 3) := by decide +kernel
theorem dX7_costOf_86 : decode cX7_costOf 86 = .ok (.aload_n 0, 1) := by decide +kernel
theorem dX7_costOf_87 : decode cX7_costOf 87 = .ok (.iload_n 2, 1) := by decide +kernel
theorem dX7_costOf_88 : decode cX7_costOf 88 = .ok (.invokevirtual 163, 3) := by decide +kernel
theorem dX7_costOf_91 : decode cX7_costOf 91 = .ok (.if_icmp .ne 7, 3) := by decide +kernel
theorem dX7_costOf_94 : decode cX7_costOf 94 = .ok (.iconst 1, 1) := by decide +kernel
theorem dX7_costOf_95 : decode cX7_costOf 95 = .ok (.goto 4, 3) := by decide +kernel
theorem dX7_costOf_98 : decode cX7_costOf 98 = .ok (.iconst 0, 1) := by decide +kernel
theorem dX7_costOf_99 : decode cX7_costOf 99 = .ok (.iadd, 1) := by decide +kernel
theorem dX7_costOf_100 : decode cX7_costOf 100 = .ok (.ireturn, 1) := by decide +kernel
theorem dX7_layBye_0 : decode cX7_layBye 0 = .ok (.aload_n 0, 1) := by decide +kernel
theorem dX7_layBye_1 : decode cX7_layBye 1 = .ok (.bipush (-5), 2) := by decide +kernel
theorem dX7_layBye_3 : decode cX7_layBye 3 = .ok (.putfield 166, 3) := by decide +kernel
theorem dX7_layBye_6 : decode cX7_layBye 6 = .ok (.bipush (-5), 2) := by decide +kernel
theorem dX7_layBye_8 : decode cX7_layBye 8 = .ok (.istore_n 1, 1) := by decide +kernel
theorem dX7_layBye_9 : decode cX7_layBye 9 = .ok (.iconst 0, 1) := by decide +kernel
theorem dX7_layBye_10 : decode cX7_layBye 10 = .ok (.istore_n 2, 1) := by decide +kernel
theorem dX7_layBye_11 : decode cX7_layBye 11 = .ok (.iload_n 2, 1) := by decide +kernel
theorem dX7_layBye_12 : decode cX7_layBye 12 = .ok (.aload_n 0, 1) := by decide +kernel
theorem dX7_layBye_13 : decode cX7_layBye 13 = .ok (.getfield 78, 3) := by decide +kernel
theorem dX7_layBye_16 : decode cX7_layBye 16 = .ok (.if_icmp .ge 68, 3) := by decide +kernel
theorem dX7_layBye_19 : decode cX7_layBye 19 = .ok (.aload_n 0, 1) := by decide +kernel
theorem dX7_layBye_20 : decode cX7_layBye 20 = .ok (.getfield 41, 3) := by decide +kernel
theorem dX7_layBye_23 : decode cX7_layBye 23 = .ok (.iload_n 2, 1) := by decide +kernel
theorem dX7_layBye_24 : decode cX7_layBye 24 = .ok (.iaload, 1) := by decide +kernel
theorem dX7_layBye_25 : decode cX7_layBye 25 = .ok (.istore_n 3, 1) := by decide +kernel
theorem dX7_layBye_26 : decode cX7_layBye 26 = .ok (.aload_n 0, 1) := by decide +kernel
theorem dX7_layBye_27 : decode cX7_layBye 27 = .ok (.getfield 13, 3) := by decide +kernel
theorem dX7_layBye_30 : decode cX7_layBye 30 = .ok (.iload_n 3, 1) := by decide +kernel
theorem dX7_layBye_31 : decode cX7_layBye 31 = .ok (.iaload, 1) := by decide +kernel
theorem dX7_layBye_32 : decode cX7_layBye 32 = .ok (.iconst 1, 1) := by decide +kernel
theorem dX7_layBye_33 : decode cX7_layBye 33 = .ok (.if_icmp .ne 7, 3) := by decide +kernel
theorem dX7_layBye_36 : decode cX7_layBye 36 = .ok (.iload_n 3, 1) := by decide +kernel
theorem dX7_layBye_37 : decode cX7_layBye 37 = .ok (.goto 4, 3) := by decide +kernel
theorem dX7_layBye_40 : decode cX7_layBye 40 = .ok (.iload_n 1, 1) := by decide +kernel
theorem dX7_layBye_41 : decode cX7_layBye 41 = .ok (.istore_n 1, 1) := by decide +kernel
theorem dX7_layBye_42 : decode cX7_layBye 42 = .ok (.aload_n 0, 1) := by decide +kernel
theorem dX7_layBye_43 : decode cX7_layBye 43 = .ok (.aload_n 0, 1) := by decide +kernel
theorem dX7_layBye_44 : decode cX7_layBye 44 = .ok (.getfield 13, 3) := by decide +kernel
theorem dX7_layBye_47 : decode cX7_layBye 47 = .ok (.iload_n 3, 1) := by decide +kernel
theorem dX7_layBye_48 : decode cX7_layBye 48 = .ok (.iaload, 1) := by decide +kernel
theorem dX7_layBye_49 : decode cX7_layBye 49 = .ok (.iconst 1, 1) := by decide +kernel
theorem dX7_layBye_50 : decode cX7_layBye 50 = .ok (.if_icmp .ne 21, 3) := by decide +kernel
theorem dX7_layBye_53 : decode cX7_layBye 53 = .ok (.aload_n 0, 1) := by decide +kernel
theorem dX7_layBye_54 : decode cX7_layBye 54 = .ok (.iload_n 3, 1) := by decide +kernel
theorem dX7_layBye_55 : decode cX7_layBye 55 = .ok (.invokevirtual 169, 3) := by decide +kernel
theorem dX7_layBye_58 : decode cX7_layBye 58 = .ok (.aload_n 0, 1) := by decide +kernel
theorem dX7_layBye_59 : decode cX7_layBye 59 = .ok (.iload_n 3, 1) := by decide +kernel
theorem dX7_layBye_60 : decode cX7_layBye 60 = .ok (.invokevirtual 172, 3) := by decide +kernel
theorem dX7_layBye_63 : decode cX7_layBye 63 = .ok (.iadd, 1) := by decide +kernel
theorem dX7_layBye_64 : decode cX7_layBye 64 = .ok (.ifCond .ne 7, 3) := by decide +kernel
theorem dX7_layBye_67 : decode cX7_layBye 67 = .ok (.iload_n 3, 1) := by decide +kernel
theorem dX7_layBye_68 : decode cX7_layBye 68 = .ok (.goto 7, 3) := by decide +kernel
theorem dX7_layBye_71 : decode cX7_layBye 71 = .ok (.aload_n 0, 1) := by decide +kernel
theorem dX7_layBye_72 : decode cX7_layBye 72 = .ok (.getfield 166, 3) := by decide +kernel
theorem dX7_layBye_75 : decode cX7_layBye 75 = .ok (.putfield 166, 3) := by decide +kernel
theorem dX7_layBye_78 : decode cX7_layBye 78 = .ok (.iinc 2 1, 3) := by decide +kernel
theorem dX7_layBye_81 : decode cX7_layBye 81 = .ok (.goto (-70), 3) := by decide +kernel
theorem dX7_layBye_84 : decode cX7_layBye 84 = .ok (.aload_n 0, 1) := by decide +kernel
theorem dX7_layBye_85 : decode cX7_layBye 85 = .ok (.aload_n 0, 1) := by decide +kernel
theorem dX7_layBye_86 : decode cX7_layBye 86 = .ok (.invokevirtual 175, 3) := by decide +kernel
theorem dX7_layBye_89 : decode cX7_layBye 89 = .ok (.iconst 2, 1) := by decide +kernel
theorem dX7_layBye_90 : decode cX7_layBye 90 = .ok (.irem, 1) := by decide +kernel
theorem dX7_layBye_91 : decode cX7_layBye 91 = .ok (.ifCond .ne 8, 3) := by decide +kernel
theorem dX7_layBye_94 : decode cX7_layBye 94 = .ok (.bipush (-5), 2) := by decide +kernel
theorem dX7_layBye_96 : decode cX7_layBye 96 = .ok (.goto 18, 3) := by decide +kernel
theorem dX7_layBye_99 : decode cX7_layBye 99 = .ok (.aload_n 0, 1) := by decide +kernel
theorem dX7_layBye_100 : decode cX7_layBye 100 = .ok (.getfield 166, 3) := by decide +kernel
theorem dX7_layBye_103 : decode cX7_layBye 103 = .ok (.ifCond .ge 7, 3) := by decide +kernel
theorem dX7_layBye_106 : decode cX7_layBye 106 = .ok (.iload_n 1, 1) := by decide +kernel
theorem dX7_layBye_107 : decode cX7_layBye 107 = .ok (.goto 7, 3) := by decide +kernel
theorem dX7_layBye_110 : decode cX7_layBye 110 = .ok (.aload_n 0, 1) := by decide +kernel
theorem dX7_layBye_111 : decode cX7_layBye 111 = .ok (.getfield 166, 3) := by decide +kernel
theorem dX7_layBye_114 : decode cX7_layBye 114 = .ok (.putfield 166, 3) := by decide +kernel
theorem dX7_layBye_117 : decode cX7_layBye 117 = .ok (.return_, 1) := by decide +kernel
theorem dX7_layPlaces_0 : decode cX7_layPlaces 0 = .ok (.aload_n 0, 1) := by decide +kernel
theorem dX7_layPlaces_1 : decode cX7_layPlaces 1 = .ok (.invokevirtual 178, 3) := by decide +kernel
theorem dX7_layPlaces_4 : decode cX7_layPlaces 4 = .ok (.aload_n 0, 1) := by decide +kernel
theorem dX7_layPlaces_5 : decode cX7_layPlaces 5 = .ok (.invokevirtual 181, 3) := by decide +kernel
theorem dX7_layPlaces_8 : decode cX7_layPlaces 8 = .ok (.aload_n 0, 1) := by decide +kernel
theorem dX7_layPlaces_9 : decode cX7_layPlaces 9 = .ok (.iconst 0, 1) := by decide +kernel
theorem dX7_layPlaces_10 : decode cX7_layPlaces 10 = .ok (.putfield 184, 3) := by decide +kernel
theorem dX7_layPlaces_13 : decode cX7_layPlaces 13 = .ok (.iconst 0, 1) := by decide +kernel
theorem dX7_layPlaces_14 : decode cX7_layPlaces 14 = .ok (.istore_n 1, 1) := by decide +kernel
theorem dX7_layPlaces_15 : decode cX7_layPlaces 15 = .ok (.iload_n 1, 1) := by decide +kernel
theorem dX7_layPlaces_16 : decode cX7_layPlaces 16 = .ok (.aload_n 0, 1) := by decide +kernel
theorem dX7_layPlaces_17 : decode cX7_layPlaces 17 = .ok (.getfield 78, 3) := by decide +kernel
theorem dX7_layPlaces_20 : decode cX7_layPlaces 20 = .ok (.if_icmp .ge 54, 3) := by decide +kernel
theorem dX7_layPlaces_23 : decode cX7_layPlaces 23 = .ok (.aload_n 0, 1) := by decide +kernel
theorem dX7_layPlaces_24 : decode cX7_layPlaces 24 = .ok (.getfield 41, 3) := by decide +kernel
theorem dX7_layPlaces_27 : decode cX7_layPlaces 27 = .ok (.iload_n 1, 1) := by decide +kernel
theorem dX7_layPlaces_28 : decode cX7_layPlaces 28 = .ok (.iaload, 1) := by decide +kernel
theorem dX7_layPlaces_29 : decode cX7_layPlaces 29 = .ok (.istore_n 2, 1) := by decide +kernel
theorem dX7_layPlaces_30 : decode cX7_layPlaces 30 = .ok (.aload_n 0, 1) := by decide +kernel
theorem dX7_layPlaces_31 : decode cX7_layPlaces 31 = .ok (.getfield 13, 3) := by decide +kernel
theorem dX7_layPlaces_34 : decode cX7_layPlaces 34 = .ok (.iload_n 2, 1) := by decide +kernel
theorem dX7_layPlaces_35 : decode cX7_layPlaces 35 = .ok (.iaload, 1) := by decide +kernel
theorem dX7_layPlaces_36 : decode cX7_layPlaces 36 = .ok (.iconst 1, 1) := by decide +kernel
theorem dX7_layPlaces_37 : decode cX7_layPlaces 37 = .ok (.if_icmp .ne 31, 3) := by decide +kernel
theorem dX7_layPlaces_40 : decode cX7_layPlaces 40 = .ok (.iload_n 2, 1) := by decide +kernel
theorem dX7_layPlaces_41 : decode cX7_layPlaces 41 = .ok (.aload_n 0, 1) := by decide +kernel
theorem dX7_layPlaces_42 : decode cX7_layPlaces 42 = .ok (.getfield 166, 3) := by decide +kernel
theorem dX7_layPlaces_45 : decode cX7_layPlaces 45 = .ok (.if_icmp .eq 23, 3) := by decide +kernel
theorem dX7_layPlaces_48 : decode cX7_layPlaces 48 = .ok (.aload_n 0, 1) := by decide +kernel
theorem dX7_layPlaces_49 : decode cX7_layPlaces 49 = .ok (.getfield 44, 3) := by decide +kernel
theorem dX7_layPlaces_52 : decode cX7_layPlaces 52 = .ok (.aload_n 0, 1) := by decide +kernel
theorem dX7_layPlaces_53 : decode cX7_layPlaces 53 = .ok (.getfield 184, 3) := by decide +kernel
theorem dX7_layPlaces_56 : decode cX7_layPlaces 56 = .ok (.iload_n 2, 1) := by decide +kernel
theorem dX7_layPlaces_57 : decode cX7_layPlaces 57 = .ok (.iastore, 1) := by decide +kernel
theorem dX7_layPlaces_58 : decode cX7_layPlaces 58 = .ok (.aload_n 0, 1) := by decide +kernel
theorem dX7_layPlaces_59 : decode cX7_layPlaces 59 = .ok (.dup, 1) := by decide +kernel
theorem dX7_layPlaces_60 : decode cX7_layPlaces 60 = .ok (.getfield 184, 3) := by decide +kernel
theorem dX7_layPlaces_63 : decode cX7_layPlaces 63 = .ok (.iconst 1, 1) := by decide +kernel
theorem dX7_layPlaces_64 : decode cX7_layPlaces 64 = .ok (.iadd, 1) := by decide +kernel
theorem dX7_layPlaces_65 : decode cX7_layPlaces 65 = .ok (.putfield 184, 3) := by decide +kernel
theorem dX7_layPlaces_68 : decode cX7_layPlaces 68 = .ok (.iinc 1 1, 3) := by decide +kernel
theorem dX7_layPlaces_71 : decode cX7_layPlaces 71 = .ok (.goto (-56), 3) := by decide +kernel
theorem dX7_layPlaces_74 : decode cX7_layPlaces 74 = .ok (.iconst 0, 1) := by decide +kernel
theorem dX7_layPlaces_75 : decode cX7_layPlaces 75 = .ok (.istore_n 1, 1) := by decide +kernel
theorem dX7_layPlaces_76 : decode cX7_layPlaces 76 = .ok (.iload_n 1, 1) := by decide +kernel
theorem dX7_layPlaces_77 : decode cX7_layPlaces 77 = .ok (.aload_n 0, 1) := by decide +kernel
theorem dX7_layPlaces_78 : decode cX7_layPlaces 78 = .ok (.getfield 184, 3) := by decide +kernel
theorem dX7_layPlaces_81 : decode cX7_layPlaces 81 = .ok (.if_icmp .ge 87, 3) := by decide +kernel
theorem dX7_layPlaces_84 : decode cX7_layPlaces 84 = .ok (.iconst 0, 1) := by decide +kernel
theorem dX7_layPlaces_85 : decode cX7_layPlaces 85 = .ok (.istore_n 2, 1) := by decide +kernel
theorem dX7_layPlaces_86 : decode cX7_layPlaces 86 = .ok (.iload_n 2, 1) := by decide +kernel
theorem dX7_layPlaces_87 : decode cX7_layPlaces 87 = .ok (.iload_n 1, 1) := by decide +kernel
theorem dX7_layPlaces_88 : decode cX7_layPlaces 88 = .ok (.if_icmp .ge 74, 3) := by decide +kernel
theorem dX7_layPlaces_91 : decode cX7_layPlaces 91 = .ok (.aload_n 0, 1) := by decide +kernel
theorem dX7_layPlaces_92 : decode cX7_layPlaces 92 = .ok (.aload_n 0, 1) := by decide +kernel
theorem dX7_layPlaces_93 : decode cX7_layPlaces 93 = .ok (.getfield 44, 3) := by decide +kernel
theorem dX7_layPlaces_96 : decode cX7_layPlaces 96 = .ok (.iload_n 1, 1) := by decide +kernel
theorem dX7_layPlaces_97 : decode cX7_layPlaces 97 = .ok (.iaload, 1) := by decide +kernel
theorem dX7_layPlaces_98 : decode cX7_layPlaces 98 = .ok (.aload_n 0, 1) := by decide +kernel
theorem dX7_layPlaces_99 : decode cX7_layPlaces 99 = .ok (.getfield 44, 3) := by decide +kernel
theorem dX7_layPlaces_102 : decode cX7_layPlaces 102 = .ok (.iload_n 2, 1) := by decide +kernel
theorem dX7_layPlaces_103 : decode cX7_layPlaces 103 = .ok (.iaload, 1) := by decide +kernel
theorem dX7_layPlaces_104 : decode cX7_layPlaces 104 = .ok (.invokevirtual 187, 3) := by decide +kernel
theorem dX7_layPlaces_107 : decode cX7_layPlaces 107 = .ok (.ifCond .lt 8, 3) := by decide +kernel
theorem dX7_layPlaces_110 : decode cX7_layPlaces 110 = .ok (.ldc 127, 2) := by decide +kernel
theorem dX7_layPlaces_112 : decode cX7_layPlaces 112 = .ok (.goto 19, 3) := by decide +kernel
theorem dX7_layPlaces_115 : decode cX7_layPlaces 115 = .ok (.aload_n 0, 1) := by decide +kernel
theorem dX7_layPlaces_116 : decode cX7_layPlaces 116 = .ok (.aload_n 0, 1) := by decide +kernel
theorem dX7_layPlaces_117 : decode cX7_layPlaces 117 = .ok (.getfield 44, 3) := by decide +kernel
theorem dX7_layPlaces_120 : decode cX7_layPlaces 120 = .ok (.iload_n 1, 1) := by decide +kernel
theorem dX7_layPlaces_121 : decode cX7_layPlaces 121 = .ok (.iaload, 1) := by decide +kernel
theorem dX7_layPlaces_122 : decode cX7_layPlaces 122 = .ok (.aload_n 0, 1) := by decide +kernel
theorem dX7_layPlaces_123 : decode cX7_layPlaces 123 = .ok (.getfield 44, 3) := by decide +kernel
theorem dX7_layPlaces_126 : decode cX7_layPlaces 126 = .ok (.iload_n 2, 1) := by decide +kernel
theorem dX7_layPlaces_127 : decode cX7_layPlaces 127 = .ok (.iaload, 1) := by decide +kernel
theorem dX7_layPlaces_128 : decode cX7_layPlaces 128 = .ok (.invokevirtual 190, 3) := by decide +kernel
theorem dX7_layPlaces_131 : decode cX7_layPlaces 131 = .ok (.istore_n 3, 1) := by decide +kernel
theorem dX7_layPlaces_132 : decode cX7_layPlaces 132 = .ok (.aload_n 0, 1) := by decide +kernel
theorem dX7_layPlaces_133 : decode cX7_layPlaces 133 = .ok (.getfield 47, 3) := by decide +kernel
theorem dX7_layPlaces_136 : decode cX7_layPlaces 136 = .ok (.bipush 12, 2) := by decide +kernel
theorem dX7_layPlaces_138 : decode cX7_layPlaces 138 = .ok (.iload_n 1, 1) := by decide +kernel
theorem dX7_layPlaces_139 : decode cX7_layPlaces 139 = .ok (.imul, 1) := by decide +kernel
theorem dX7_layPlaces_140 : decode cX7_layPlaces 140 = .ok (.iload_n 2, 1) := by decide +kernel
theorem dX7_layPlaces_141 : decode cX7_layPlaces 141 = .ok (.iadd, 1) := by decide +kernel
theorem dX7_layPlaces_142 : decode cX7_layPlaces 142 = .ok (.iload_n 3, 1) := by decide +kernel
theorem dX7_layPlaces_143 : decode cX7_layPlaces 143 = .ok (.iastore, 1) := by decide +kernel
theorem dX7_layPlaces_144 : decode cX7_layPlaces 144 = .ok (.aload_n 0, 1) := by decide +kernel
theorem dX7_layPlaces_145 : decode cX7_layPlaces 145 = .ok (.getfield 47, 3) := by decide +kernel
theorem dX7_layPlaces_148 : decode cX7_layPlaces 148 = .ok (.bipush 12, 2) := by decide +kernel
theorem dX7_layPlaces_150 : decode cX7_layPlaces 150 = .ok (.iload_n 2, 1) := by decide +kernel
theorem dX7_layPlaces_151 : decode cX7_layPlaces 151 = .ok (.imul, 1) := by decide +kernel
theorem dX7_layPlaces_152 : decode cX7_layPlaces 152 = .ok (.iload_n 1, 1) := by decide +kernel
theorem dX7_layPlaces_153 : decode cX7_layPlaces 153 = .ok (.iadd, 1) := by decide +kernel
theorem dX7_layPlaces_154 : decode cX7_layPlaces 154 = .ok (.iload_n 3, 1) := by decide +kernel
theorem dX7_layPlaces_155 : decode cX7_layPlaces 155 = .ok (.iastore, 1) := by decide +kernel
theorem dX7_layPlaces_156 : decode cX7_layPlaces 156 = .ok (.iinc 2 1, 3) := by decide +kernel
theorem dX7_layPlaces_159 : decode cX7_layPlaces 159 = .ok (.goto (-73), 3) := by decide +kernel
theorem dX7_layPlaces_162 : decode cX7_layPlaces 162 = .ok (.iinc 1 1, 3) := by decide +kernel
theorem dX7_layPlaces_165 : decode cX7_layPlaces 165 = .ok (.goto (-89), 3) := by decide +kernel
theorem dX7_layPlaces_168 : decode cX7_layPlaces 168 = .ok (.return_, 1) := by decide +kernel
theorem dX7_leastBit_0 : decode cX7_leastBit 0 = .ok (.iconst 0, 1) := by decide +kernel
theorem dX7_leastBit_1 : decode cX7_leastBit 1 = .ok (.istore_n 1, 1) := by decide +kernel
theorem dX7_leastBit_2 : decode cX7_leastBit 2 = .ok (.iload_n 0, 1) := by decide +kernel
theorem dX7_leastBit_3 : decode cX7_leastBit 3 = .ok (.iload_n 1, 1) := by decide +kernel
theorem dX7_leastBit_4 : decode cX7_leastBit 4 = .ok (.ishr, 1) := by decide +kernel
theorem dX7_leastBit_5 : decode cX7_leastBit 5 = .ok (.iconst 1, 1) := by decide +kernel
theorem dX7_leastBit_6 : decode cX7_leastBit 6 = .ok (.iand, 1) := by decide +kernel
theorem dX7_leastBit_7 : decode cX7_leastBit 7 = .ok (.ifCond .ne 9, 3) := by decide +kernel
theorem dX7_leastBit_10 : decode cX7_leastBit 10 = .ok (.iinc 1 1, 3) := by decide +kernel
theorem dX7_leastBit_13 : decode cX7_leastBit 13 = .ok (.goto (-11), 3) := by decide +kernel
theorem dX7_leastBit_16 : decode cX7_leastBit 16 = .ok (.iload_n 1, 1) := by decide +kernel
theorem dX7_leastBit_17 : decode cX7_leastBit 17 = .ok (.ireturn, 1) := by decide +kernel
theorem dX7_layBests_0 : decode cX7_layBests 0 = .ok (.aload_n 0, 1) := by decide +kernel
theorem dX7_layBests_1 : decode cX7_layBests 1 = .ok (.invokevirtual 193, 3) := by decide +kernel
theorem dX7_layBests_4 : decode cX7_layBests 4 = .ok (.aload_n 0, 1) := by decide +kernel
theorem dX7_layBests_5 : decode cX7_layBests 5 = .ok (.getfield 50, 3) := by decide +kernel
theorem dX7_layBests_8 : decode cX7_layBests 8 = .ok (.iconst 0, 1) := by decide +kernel
theorem dX7_layBests_9 : decode cX7_layBests 9 = .ok (.iconst 0, 1) := by decide +kernel
theorem dX7_layBests_10 : decode cX7_layBests 10 = .ok (.iastore, 1) := by decide +kernel
theorem dX7_layBests_11 : decode cX7_layBests 11 = .ok (.aload_n 0, 1) := by decide +kernel
theorem dX7_layBests_12 : decode cX7_layBests 12 = .ok (.getfield 53, 3) := by decide +kernel
theorem dX7_layBests_15 : decode cX7_layBests 15 = .ok (.iconst 0, 1) := by decide +kernel
theorem dX7_layBests_16 : decode cX7_layBests 16 = .ok (.iconst 1, 1) := by decide +kernel
theorem dX7_layBests_17 : decode cX7_layBests 17 = .ok (.iastore, 1) := by decide +kernel
theorem dX7_layBests_18 : decode cX7_layBests 18 = .ok (.iconst 1, 1) := by decide +kernel
theorem dX7_layBests_19 : decode cX7_layBests 19 = .ok (.istore_n 1, 1) := by decide +kernel
theorem dX7_layBests_20 : decode cX7_layBests 20 = .ok (.iload_n 1, 1) := by decide +kernel
theorem dX7_layBests_21 : decode cX7_layBests 21 = .ok (.iconst 1, 1) := by decide +kernel
theorem dX7_layBests_22 : decode cX7_layBests 22 = .ok (.aload_n 0, 1) := by decide +kernel
theorem dX7_layBests_23 : decode cX7_layBests 23 = .ok (.getfield 184, 3) := by decide +kernel
theorem dX7_layBests_26 : decode cX7_layBests 26 = .ok (.ishl, 1) := by decide +kernel
theorem dX7_layBests_27 : decode cX7_layBests 27 = .ok (.if_icmp .ge 152, 3) := by decide +kernel
theorem dX7_layBests_30 : decode cX7_layBests 30 = .ok (.iload_n 1, 1) := by decide +kernel
theorem dX7_layBests_31 : decode cX7_layBests 31 = .ok (.invokestatic 196, 3) := by decide +kernel
theorem dX7_layBests_34 : decode cX7_layBests 34 = .ok (.istore_n 2, 1) := by decide +kernel
theorem dX7_layBests_35 : decode cX7_layBests 35 = .ok (.aload_n 0, 1) := by decide +kernel
theorem dX7_layBests_36 : decode cX7_layBests 36 = .ok (.getfield 50, 3) := by decide +kernel
theorem dX7_layBests_39 : decode cX7_layBests 39 = .ok (.iload_n 1, 1) := by decide +kernel
theorem dX7_layBests_40 : decode cX7_layBests 40 = .ok (.ldc 127, 2) := by decide +kernel
theorem dX7_layBests_42 : decode cX7_layBests 42 = .ok (.iastore, 1) := by decide +kernel
theorem dX7_layBests_43 : decode cX7_layBests 43 = .ok (.aload_n 0, 1) := by decide +kernel
theorem dX7_layBests_44 : decode cX7_layBests 44 = .ok (.getfield 53, 3) := by decide +kernel
theorem dX7_layBests_47 : decode cX7_layBests 47 = .ok (.iload_n 1, 1) := by decide +kernel
theorem dX7_layBests_48 : decode cX7_layBests 48 = .ok (.iconst 0, 1) := by decide +kernel
theorem dX7_layBests_49 : decode cX7_layBests 49 = .ok (.iastore, 1) := by decide +kernel
theorem dX7_layBests_50 : decode cX7_layBests 50 = .ok (.iload_n 2, 1) := by decide +kernel
theorem dX7_layBests_51 : decode cX7_layBests 51 = .ok (.iconst 1, 1) := by decide +kernel
theorem dX7_layBests_52 : decode cX7_layBests 52 = .ok (.iadd, 1) := by decide +kernel
theorem dX7_layBests_53 : decode cX7_layBests 53 = .ok (.istore_n 3, 1) := by decide +kernel
theorem dX7_layBests_54 : decode cX7_layBests 54 = .ok (.iload_n 3, 1) := by decide +kernel
theorem dX7_layBests_55 : decode cX7_layBests 55 = .ok (.aload_n 0, 1) := by decide +kernel
theorem dX7_layBests_56 : decode cX7_layBests 56 = .ok (.getfield 184, 3) := by decide +kernel
theorem dX7_layBests_59 : decode cX7_layBests 59 = .ok (.if_icmp .ge 114, 3) := by decide +kernel
theorem dX7_layBests_62 : decode cX7_layBests 62 = .ok (.iload_n 1, 1) := by decide +kernel
theorem dX7_layBests_63 : decode cX7_layBests 63 = .ok (.iconst 1, 1) := by decide +kernel
theorem dX7_layBests_64 : decode cX7_layBests 64 = .ok (.iload_n 2, 1) := by decide +kernel
theorem dX7_layBests_65 : decode cX7_layBests 65 = .ok (.ishl, 1) := by decide +kernel
theorem dX7_layBests_66 : decode cX7_layBests 66 = .ok (.iconst (-1), 1) := by decide +kernel
theorem dX7_layBests_67 : decode cX7_layBests 67 = .ok (.ixor, 1) := by decide +kernel
theorem dX7_layBests_68 : decode cX7_layBests 68 = .ok (.iand, 1) := by decide +kernel
theorem dX7_layBests_69 : decode cX7_layBests 69 = .ok (.iconst 1, 1) := by decide +kernel
theorem dX7_layBests_70 : decode cX7_layBests 70 = .ok (.iload_n 3, 1) := by decide +kernel
theorem dX7_layBests_71 : decode cX7_layBests 71 = .ok (.ishl, 1) := by decide +kernel
theorem dX7_layBests_72 : decode cX7_layBests 72 = .ok (.iconst (-1), 1) := by decide +kernel
theorem dX7_layBests_73 : decode cX7_layBests 73 = .ok (.ixor, 1) := by decide +kernel
theorem dX7_layBests_74 : decode cX7_layBests 74 = .ok (.iand, 1) := by decide +kernel
theorem dX7_layBests_75 : decode cX7_layBests 75 = .ok (.istore 4, 2) := by decide +kernel
theorem dX7_layBests_77 : decode cX7_layBests 77 = .ok (.iload_n 1, 1) := by decide +kernel
theorem dX7_layBests_78 : decode cX7_layBests 78 = .ok (.iload_n 3, 1) := by decide +kernel
theorem dX7_layBests_79 : decode cX7_layBests 79 = .ok (.ishr, 1) := by decide +kernel
theorem dX7_layBests_80 : decode cX7_layBests 80 = .ok (.iconst 1, 1) := by decide +kernel
theorem dX7_layBests_81 : decode cX7_layBests 81 = .ok (.iand, 1) := by decide +kernel
theorem dX7_layBests_82 : decode cX7_layBests 82 = .ok (.iconst 1, 1) := by decide +kernel
theorem dX7_layBests_83 : decode cX7_layBests 83 = .ok (.if_icmp .ne 84, 3) := by decide +kernel
theorem dX7_layBests_86 : decode cX7_layBests 86 = .ok (.aload_n 0, 1) := by decide +kernel
theorem dX7_layBests_87 : decode cX7_layBests 87 = .ok (.getfield 47, 3) := by decide +kernel
theorem dX7_layBests_90 : decode cX7_layBests 90 = .ok (.bipush 12, 2) := by decide +kernel
theorem dX7_layBests_92 : decode cX7_layBests 92 = .ok (.iload_n 2, 1) := by decide +kernel
theorem dX7_layBests_93 : decode cX7_layBests 93 = .ok (.imul, 1) := by decide +kernel
theorem dX7_layBests_94 : decode cX7_layBests 94 = .ok (.iload_n 3, 1) := by decide +kernel
theorem dX7_layBests_95 : decode cX7_layBests 95 = .ok (.iadd, 1) := by decide +kernel
theorem dX7_layBests_96 : decode cX7_layBests 96 = .ok (.iaload, 1) := by decide +kernel
theorem dX7_layBests_97 : decode cX7_layBests 97 = .ok (.ldc 127, 2) := by decide +kernel
theorem dX7_layBests_99 : decode cX7_layBests 99 = .ok (.if_icmp .ge 68, 3) := by decide +kernel
theorem dX7_layBests_102 : decode cX7_layBests 102 = .ok (.aload_n 0, 1) := by decide +kernel
theorem dX7_layBests_103 : decode cX7_layBests 103 = .ok (.getfield 50, 3) := by decide +kernel
theorem dX7_layBests_106 : decode cX7_layBests 106 = .ok (.iload 4, 2) := by decide +kernel
theorem dX7_layBests_108 : decode cX7_layBests 108 = .ok (.iaload, 1) := by decide +kernel
theorem dX7_layBests_109 : decode cX7_layBests 109 = .ok (.aload_n 0, 1) := by decide +kernel
theorem dX7_layBests_110 : decode cX7_layBests 110 = .ok (.getfield 47, 3) := by decide +kernel
theorem dX7_layBests_113 : decode cX7_layBests 113 = .ok (.bipush 12, 2) := by decide +kernel
theorem dX7_layBests_115 : decode cX7_layBests 115 = .ok (.iload_n 2, 1) := by decide +kernel
theorem dX7_layBests_116 : decode cX7_layBests 116 = .ok (.imul, 1) := by decide +kernel
theorem dX7_layBests_117 : decode cX7_layBests 117 = .ok (.iload_n 3, 1) := by decide +kernel
theorem dX7_layBests_118 : decode cX7_layBests 118 = .ok (.iadd, 1) := by decide +kernel
theorem dX7_layBests_119 : decode cX7_layBests 119 = .ok (.iaload, 1) := by decide +kernel
theorem dX7_layBests_120 : decode cX7_layBests 120 = .ok (.iadd, 1) := by decide +kernel
theorem dX7_layBests_121 : decode cX7_layBests 121 = .ok (.istore 5, 2) := by decide +kernel
theorem dX7_layBests_123 : decode cX7_layBests 123 = .ok (.aload_n 0, 1) := by decide +kernel
theorem dX7_layBests_124 : decode cX7_layBests 124 = .ok (.getfield 50, 3) := by decide +kernel
theorem dX7_layBests_127 : decode cX7_layBests 127 = .ok (.iload_n 1, 1) := by decide +kernel
theorem dX7_layBests_128 : decode cX7_layBests 128 = .ok (.iload 5, 2) := by decide +kernel
theorem dX7_layBests_130 : decode cX7_layBests 130 = .ok (.aload_n 0, 1) := by decide +kernel
theorem dX7_layBests_131 : decode cX7_layBests 131 = .ok (.getfield 50, 3) := by decide +kernel
theorem dX7_layBests_134 : decode cX7_layBests 134 = .ok (.iload_n 1, 1) := by decide +kernel
theorem dX7_layBests_135 : decode cX7_layBests 135 = .ok (.iaload, 1) := by decide +kernel
theorem dX7_layBests_136 : decode cX7_layBests 136 = .ok (.if_icmp .ge 8, 3) := by decide +kernel
theorem dX7_layBests_139 : decode cX7_layBests 139 = .ok (.iload 5, 2) := by decide +kernel
theorem dX7_layBests_141 : decode cX7_layBests 141 = .ok (.goto 9, 3) := by decide +kernel
theorem dX7_layBests_144 : decode cX7_layBests 144 = .ok (.aload_n 0, 1) := by decide +kernel
theorem dX7_layBests_145 : decode cX7_layBests 145 = .ok (.getfield 50, 3) := by decide +kernel
theorem dX7_layBests_148 : decode cX7_layBests 148 = .ok (.iload_n 1, 1) := by decide +kernel
theorem dX7_layBests_149 : decode cX7_layBests 149 = .ok (.iaload, 1) := by decide +kernel
theorem dX7_layBests_150 : decode cX7_layBests 150 = .ok (.iastore, 1) := by decide +kernel
theorem dX7_layBests_151 : decode cX7_layBests 151 = .ok (.aload_n 0, 1) := by decide +kernel
theorem dX7_layBests_152 : decode cX7_layBests 152 = .ok (.getfield 53, 3) := by decide +kernel
theorem dX7_layBests_155 : decode cX7_layBests 155 = .ok (.iload_n 1, 1) := by decide +kernel
theorem dX7_layBests_156 : decode cX7_layBests 156 = .ok (.dup2, 1) := by decide +kernel
theorem dX7_layBests_157 : decode cX7_layBests 157 = .ok (.iaload, 1) := by decide +kernel
theorem dX7_layBests_158 : decode cX7_layBests 158 = .ok (.aload_n 0, 1) := by decide +kernel
theorem dX7_layBests_159 : decode cX7_layBests 159 = .ok (.getfield 53, 3) := by decide +kernel
theorem dX7_layBests_162 : decode cX7_layBests 162 = .ok (.iload 4, 2) := by decide +kernel
theorem dX7_layBests_164 : decode cX7_layBests 164 = .ok (.iaload, 1) := by decide +kernel
theorem dX7_layBests_165 : decode cX7_layBests 165 = .ok (.iadd, 1) := by decide +kernel
theorem dX7_layBests_166 : decode cX7_layBests 166 = .ok (.iastore, 1) := by decide +kernel
theorem dX7_layBests_167 : decode cX7_layBests 167 = .ok (.iinc 3 1, 3) := by decide +kernel
theorem dX7_layBests_170 : decode cX7_layBests 170 = .ok (.goto (-116), 3) := by decide +kernel
theorem dX7_layBests_173 : decode cX7_layBests 173 = .ok (.iinc 1 1, 3) := by decide +kernel
theorem dX7_layBests_176 : decode cX7_layBests 176 = .ok (.goto (-156), 3) := by decide +kernel
theorem dX7_layBests_179 : decode cX7_layBests 179 = .ok (.return_, 1) := by decide +kernel
theorem dX7_isWhite_0 : decode cX7_isWhite 0 = .ok (.aload_n 0, 1) := by decide +kernel
theorem dX7_isWhite_1 : decode cX7_isWhite 1 = .ok (.iload_n 1, 1) := by decide +kernel
theorem dX7_isWhite_2 : decode cX7_isWhite 2 = .ok (.invokevirtual 160, 3) := by decide +kernel
theorem dX7_isWhite_5 : decode cX7_isWhite 5 = .ok (.istore 4, 2) := by decide +kernel
theorem dX7_isWhite_7 : decode cX7_isWhite 7 = .ok (.aload_n 0, 1) := by decide +kernel
theorem dX7_isWhite_8 : decode cX7_isWhite 8 = .ok (.iload_n 2, 1) := by decide +kernel
theorem dX7_isWhite_9 : decode cX7_isWhite 9 = .ok (.invokevirtual 160, 3) := by decide +kernel
theorem dX7_isWhite_12 : decode cX7_isWhite 12 = .ok (.istore 5, 2) := by decide +kernel
theorem dX7_isWhite_14 : decode cX7_isWhite 14 = .ok (.iload 4, 2) := by decide +kernel
theorem dX7_isWhite_16 : decode cX7_isWhite 16 = .ok (.iload 5, 2) := by decide +kernel
theorem dX7_isWhite_18 : decode cX7_isWhite 18 = .ok (.if_icmp .eq 16, 3) := by decide +kernel
theorem dX7_isWhite_21 : decode cX7_isWhite 21 = .ok (.iload 4, 2) := by decide +kernel
theorem dX7_isWhite_23 : decode cX7_isWhite 23 = .ok (.iload 5, 2) := by decide +kernel
theorem dX7_isWhite_25 : decode cX7_isWhite 25 = .ok (.if_icmp .ge 7, 3) := by decide +kernel
theorem dX7_isWhite_28 : decode cX7_isWhite 28 = .ok (.iconst 1, 1) := by decide +kernel
theorem dX7_isWhite_29 : decode cX7_isWhite 29 = .ok (.goto 4, 3) := by decide +kernel
theorem dX7_isWhite_32 : decode cX7_isWhite 32 = .ok (.iconst 0, 1) := by decide +kernel
theorem dX7_isWhite_33 : decode cX7_isWhite 33 = .ok (.ireturn, 1) := by decide +kernel
theorem dX7_isWhite_34 : decode cX7_isWhite 34 = .ok (.aload_n 0, 1) := by decide +kernel
theorem dX7_isWhite_35 : decode cX7_isWhite 35 = .ok (.iload_n 1, 1) := by decide +kernel
theorem dX7_isWhite_36 : decode cX7_isWhite 36 = .ok (.invokevirtual 163, 3) := by decide +kernel
theorem dX7_isWhite_39 : decode cX7_isWhite 39 = .ok (.iconst 1, 1) := by decide +kernel
theorem dX7_isWhite_40 : decode cX7_isWhite 40 = .ok (.if_icmp .ne 7, 3) := by decide +kernel
theorem dX7_isWhite_43 : decode cX7_isWhite 43 = .ok (.iconst 1, 1) := by decide +kernel
theorem dX7_isWhite_44 : decode cX7_isWhite 44 = .ok (.goto 4, 3) := by decide +kernel
theorem dX7_isWhite_47 : decode cX7_isWhite 47 = .ok (.iconst 0, 1) := by decide +kernel
theorem dX7_isWhite_48 : decode cX7_isWhite 48 = .ok (.istore 6, 2) := by decide +kernel
theorem dX7_isWhite_50 : decode cX7_isWhite 50 = .ok (.aload_n 0, 1) := by decide +kernel
theorem dX7_isWhite_51 : decode cX7_isWhite 51 = .ok (.iload_n 2, 1) := by decide +kernel
theorem dX7_isWhite_52 : decode cX7_isWhite 52 = .ok (.invokevirtual 163, 3) := by decide +kernel
theorem dX7_isWhite_55 : decode cX7_isWhite 55 = .ok (.iconst 1, 1) := by decide +kernel
theorem dX7_isWhite_56 : decode cX7_isWhite 56 = .ok (.if_icmp .ne 7, 3) := by decide +kernel
theorem dX7_isWhite_59 : decode cX7_isWhite 59 = .ok (.iconst 1, 1) := by decide +kernel
theorem dX7_isWhite_60 : decode cX7_isWhite 60 = .ok (.goto 4, 3) := by decide +kernel
theorem dX7_isWhite_63 : decode cX7_isWhite 63 = .ok (.iconst 0, 1) := by decide +kernel
theorem dX7_isWhite_64 : decode cX7_isWhite 64 = .ok (.istore 7, 2) := by decide +kernel
theorem dX7_isWhite_66 : decode cX7_isWhite 66 = .ok (.iload 6, 2) := by decide +kernel
theorem dX7_isWhite_68 : decode cX7_isWhite 68 = .ok (.iload 7, 2) := by decide +kernel
theorem dX7_isWhite_70 : decode cX7_isWhite 70 = .ok (.if_icmp .eq 8, 3) := by decide +kernel
theorem dX7_isWhite_73 : decode cX7_isWhite 73 = .ok (.iload 6, 2) := by decide +kernel
theorem dX7_isWhite_75 : decode cX7_isWhite 75 = .ok (.goto 14, 3) := by decide +kernel
theorem dX7_isWhite_78 : decode cX7_isWhite 78 = .ok (.iload_n 3, 1) := by decide +kernel
theorem dX7_isWhite_79 : decode cX7_isWhite 79 = .ok (.iconst 2, 1) := by decide +kernel
theorem dX7_isWhite_80 : decode cX7_isWhite 80 = .ok (.irem, 1) := by decide +kernel
theorem dX7_isWhite_81 : decode cX7_isWhite 81 = .ok (.ifCond .ne 7, 3) := by decide +kernel
theorem dX7_isWhite_84 : decode cX7_isWhite 84 = .ok (.iconst 1, 1) := by decide +kernel
theorem dX7_isWhite_85 : decode cX7_isWhite 85 = .ok (.goto 4, 3) := by decide +kernel
theorem dX7_isWhite_88 : decode cX7_isWhite 88 = .ok (.iconst 0, 1) := by decide +kernel
theorem dX7_isWhite_89 : decode cX7_isWhite 89 = .ok (.ireturn, 1) := by decide +kernel
theorem dX7_putBoard_0 : decode cX7_putBoard 0 = .ok (.bipush 6, 2) := by decide +kernel
theorem dX7_putBoard_2 : decode cX7_putBoard 2 = .ok (.iload_n 1, 1) := by decide +kernel
theorem dX7_putBoard_3 : decode cX7_putBoard 3 = .ok (.imul, 1) := by decide +kernel
theorem dX7_putBoard_4 : decode cX7_putBoard 4 = .ok (.aload_n 0, 1) := by decide +kernel
theorem dX7_putBoard_5 : decode cX7_putBoard 5 = .ok (.getfield 16, 3) := by decide +kernel
theorem dX7_putBoard_8 : decode cX7_putBoard 8 = .ok (.iload_n 1, 1) := by decide +kernel
theorem dX7_putBoard_9 : decode cX7_putBoard 9 = .ok (.iaload, 1) := by decide +kernel
theorem dX7_putBoard_10 : decode cX7_putBoard 10 = .ok (.iadd, 1) := by decide +kernel
theorem dX7_putBoard_11 : decode cX7_putBoard 11 = .ok (.istore 4, 2) := by decide +kernel
theorem dX7_putBoard_13 : decode cX7_putBoard 13 = .ok (.aload_n 0, 1) := by decide +kernel
theorem dX7_putBoard_14 : decode cX7_putBoard 14 = .ok (.iload_n 2, 1) := by decide +kernel
theorem dX7_putBoard_15 : decode cX7_putBoard 15 = .ok (.iload_n 3, 1) := by decide +kernel
theorem dX7_putBoard_16 : decode cX7_putBoard 16 = .ok (.aload_n 0, 1) := by decide +kernel
theorem dX7_putBoard_17 : decode cX7_putBoard 17 = .ok (.getfield 16, 3) := by decide +kernel
theorem dX7_putBoard_20 : decode cX7_putBoard 20 = .ok (.iload_n 1, 1) := by decide +kernel
theorem dX7_putBoard_21 : decode cX7_putBoard 21 = .ok (.iaload, 1) := by decide +kernel
theorem dX7_putBoard_22 : decode cX7_putBoard 22 = .ok (.invokevirtual 199, 3) := by decide +kernel
theorem dX7_putBoard_25 : decode cX7_putBoard 25 = .ok (.istore 5, 2) := by decide +kernel
theorem dX7_putBoard_27 : decode cX7_putBoard 27 = .ok (.aload_n 0, 1) := by decide +kernel
theorem dX7_putBoard_28 : decode cX7_putBoard 28 = .ok (.getfield 22, 3) := by decide +kernel
theorem dX7_putBoard_31 : decode cX7_putBoard 31 = .ok (.iload 4, 2) := by decide +kernel
theorem dX7_putBoard_33 : decode cX7_putBoard 33 = .ok (.iload 5, 2) := by decide +kernel
theorem dX7_putBoard_35 : decode cX7_putBoard 35 = .ok (.ifCond .eq 7, 3) := by decide +kernel
theorem dX7_putBoard_38 : decode cX7_putBoard 38 = .ok (.iload_n 2, 1) := by decide +kernel
theorem dX7_putBoard_39 : decode cX7_putBoard 39 = .ok (.goto 4, 3) := by decide +kernel
theorem dX7_putBoard_42 : decode cX7_putBoard 42 = .ok (.iload_n 3, 1) := by decide +kernel
theorem dX7_putBoard_43 : decode cX7_putBoard 43 = .ok (.iastore, 1) := by decide +kernel
theorem dX7_putBoard_44 : decode cX7_putBoard 44 = .ok (.aload_n 0, 1) := by decide +kernel
theorem dX7_putBoard_45 : decode cX7_putBoard 45 = .ok (.getfield 25, 3) := by decide +kernel
theorem dX7_putBoard_48 : decode cX7_putBoard 48 = .ok (.iload 4, 2) := by decide +kernel
theorem dX7_putBoard_50 : decode cX7_putBoard 50 = .ok (.iload 5, 2) := by decide +kernel
theorem dX7_putBoard_52 : decode cX7_putBoard 52 = .ok (.ifCond .eq 7, 3) := by decide +kernel
theorem dX7_putBoard_55 : decode cX7_putBoard 55 = .ok (.iload_n 3, 1) := by decide +kernel
theorem dX7_putBoard_56 : decode cX7_putBoard 56 = .ok (.goto 4, 3) := by decide +kernel
theorem dX7_putBoard_59 : decode cX7_putBoard 59 = .ok (.iload_n 2, 1) := by decide +kernel
theorem dX7_putBoard_60 : decode cX7_putBoard 60 = .ok (.iastore, 1) := by decide +kernel
theorem dX7_putBoard_61 : decode cX7_putBoard 61 = .ok (.aload_n 0, 1) := by decide +kernel
theorem dX7_putBoard_62 : decode cX7_putBoard 62 = .ok (.getfield 28, 3) := by decide +kernel
theorem dX7_putBoard_65 : decode cX7_putBoard 65 = .ok (.iload 4, 2) := by decide +kernel
theorem dX7_putBoard_67 : decode cX7_putBoard 67 = .ok (.iconst 0, 1) := by decide +kernel
theorem dX7_putBoard_68 : decode cX7_putBoard 68 = .ok (.iastore, 1) := by decide +kernel
theorem dX7_putBoard_69 : decode cX7_putBoard 69 = .ok (.aload_n 0, 1) := by decide +kernel
theorem dX7_putBoard_70 : decode cX7_putBoard 70 = .ok (.getfield 16, 3) := by decide +kernel
theorem dX7_putBoard_73 : decode cX7_putBoard 73 = .ok (.iload_n 1, 1) := by decide +kernel
theorem dX7_putBoard_74 : decode cX7_putBoard 74 = .ok (.dup2, 1) := by decide +kernel
theorem dX7_putBoard_75 : decode cX7_putBoard 75 = .ok (.iaload, 1) := by decide +kernel
theorem dX7_putBoard_76 : decode cX7_putBoard 76 = .ok (.iconst 1, 1) := by decide +kernel
theorem dX7_putBoard_77 : decode cX7_putBoard 77 = .ok (.iadd, 1) := by decide +kernel
theorem dX7_putBoard_78 : decode cX7_putBoard 78 = .ok (.iastore, 1) := by decide +kernel
theorem dX7_putBoard_79 : decode cX7_putBoard 79 = .ok (.return_, 1) := by decide +kernel
theorem dX7_earliestWith_0 : decode cX7_earliestWith 0 = .ok (.iload_n 1, 1) := by decide +kernel
theorem dX7_earliestWith_1 : decode cX7_earliestWith 1 = .ok (.invokestatic 196, 3) := by decide +kernel
theorem dX7_earliestWith_4 : decode cX7_earliestWith 4 = .ok (.istore_n 2, 1) := by decide +kernel
theorem dX7_earliestWith_5 : decode cX7_earliestWith 5 = .ok (.iconst (-1), 1) := by decide +kernel
theorem dX7_earliestWith_6 : decode cX7_earliestWith 6 = .ok (.istore_n 3, 1) := by decide +kernel
theorem dX7_earliestWith_7 : decode cX7_earliestWith 7 = .ok (.aload_n 0, 1) := by decide +kernel
theorem dX7_earliestWith_8 : decode cX7_earliestWith 8 = .ok (.getfield 184, 3) := by decide +kernel
theorem dX7_earliestWith_11 : decode cX7_earliestWith 11 = .ok (.iconst 1, 1) := by decide +kernel
theorem dX7_earliestWith_12 : decode cX7_earliestWith 12 = .ok (.isub, 1) := by decide +kernel
theorem dX7_earliestWith_13 : decode cX7_earliestWith 13 = .ok (.istore 4, 2) := by decide +kernel
theorem dX7_earliestWith_15 : decode cX7_earliestWith 15 = .ok (.iload 4, 2) := by decide +kernel
theorem dX7_earliestWith_17 : decode cX7_earliestWith 17 = .ok (.iload_n 2, 1) := by decide +kernel
theorem dX7_earliestWith_18 : decode cX7_earliestWith 18 = .ok (.if_icmp .le 100, 3) := by decide +kernel
theorem dX7_earliestWith_21 : decode cX7_earliestWith 21 = .ok (.iload_n 1, 1) := by decide +kernel
theorem dX7_earliestWith_22 : decode cX7_earliestWith 22 = .ok (.iload 4, 2) := by decide +kernel
theorem dX7_earliestWith_24 : decode cX7_earliestWith 24 = .ok (.ishr, 1) := by decide +kernel
theorem dX7_earliestWith_25 : decode cX7_earliestWith 25 = .ok (.iconst 1, 1) := by decide +kernel
theorem dX7_earliestWith_26 : decode cX7_earliestWith 26 = .ok (.iand, 1) := by decide +kernel
theorem dX7_earliestWith_27 : decode cX7_earliestWith 27 = .ok (.iconst 1, 1) := by decide +kernel
theorem dX7_earliestWith_28 : decode cX7_earliestWith 28 = .ok (.if_icmp .ne 24, 3) := by decide +kernel
theorem dX7_earliestWith_31 : decode cX7_earliestWith 31 = .ok (.aload_n 0, 1) := by decide +kernel
theorem dX7_earliestWith_32 : decode cX7_earliestWith 32 = .ok (.getfield 47, 3) := by decide +kernel
theorem dX7_earliestWith_35 : decode cX7_earliestWith 35 = .ok (.bipush 12, 2) := by decide +kernel
theorem dX7_earliestWith_37 : decode cX7_earliestWith 37 = .ok (.iload_n 2, 1) := by decide +kernel
theorem dX7_earliestWith_38 : decode cX7_earliestWith 38 = .ok (.imul, 1) := by decide +kernel
theorem dX7_earliestWith_39 : decode cX7_earliestWith 39 = .ok (.iload 4, 2) := by decide +kernel
theorem dX7_earliestWith_41 : decode cX7_earliestWith 41 = .ok (.iadd, 1) := by decide +kernel
theorem dX7_earliestWith_42 : decode cX7_earliestWith 42 = .ok (.iaload, 1) := by decide +kernel
theorem dX7_earliestWith_43 : decode cX7_earliestWith 43 = .ok (.ldc 127, 2) := by decide +kernel
theorem dX7_earliestWith_45 : decode cX7_earliestWith 45 = .ok (.if_icmp .ge 7, 3) := by decide +kernel
theorem dX7_earliestWith_48 : decode cX7_earliestWith 48 = .ok (.iconst 1, 1) := by decide +kernel
theorem dX7_earliestWith_49 : decode cX7_earliestWith 49 = .ok (.goto 4, 3) := by decide +kernel
theorem dX7_earliestWith_52 : decode cX7_earliestWith 52 = .ok (.iconst 0, 1) := by decide +kernel
theorem dX7_earliestWith_53 : decode cX7_earliestWith 53 = .ok (.istore 5, 2) := by decide +kernel
theorem dX7_earliestWith_55 : decode cX7_earliestWith 55 = .ok (.iload_n 1, 1) := by decide +kernel
theorem dX7_earliestWith_56 : decode cX7_earliestWith 56 = .ok (.iconst 1, 1) := by decide +kernel
theorem dX7_earliestWith_57 : decode cX7_earliestWith 57 = .ok (.iload_n 2, 1) := by decide +kernel
theorem dX7_earliestWith_58 : decode cX7_earliestWith 58 = .ok (.ishl, 1) := by decide +kernel
theorem dX7_earliestWith_59 : decode cX7_earliestWith 59 = .ok (.iconst (-1), 1) := by decide +kernel
theorem dX7_earliestWith_60 : decode cX7_earliestWith 60 = .ok (.ixor, 1) := by decide +kernel
theorem dX7_earliestWith_61 : decode cX7_earliestWith 61 = .ok (.iand, 1) := by decide +kernel
theorem dX7_earliestWith_62 : decode cX7_earliestWith 62 = .ok (.iconst 1, 1) := by decide +kernel
theorem dX7_earliestWith_63 : decode cX7_earliestWith 63 = .ok (.iload 4, 2) := by decide +kernel
theorem dX7_earliestWith_65 : decode cX7_earliestWith 65 = .ok (.ishl, 1) := by decide +kernel
theorem dX7_earliestWith_66 : decode cX7_earliestWith 66 = .ok (.iconst (-1), 1) := by decide +kernel
theorem dX7_earliestWith_67 : decode cX7_earliestWith 67 = .ok (.ixor, 1) := by decide +kernel
theorem dX7_earliestWith_68 : decode cX7_earliestWith 68 = .ok (.iand, 1) := by decide +kernel
theorem dX7_earliestWith_69 : decode cX7_earliestWith 69 = .ok (.istore 6, 2) := by decide +kernel
theorem dX7_earliestWith_71 : decode cX7_earliestWith 71 = .ok (.iload 5, 2) := by decide +kernel
theorem dX7_earliestWith_73 : decode cX7_earliestWith 73 = .ok (.ifCond .eq 37, 3) := by decide +kernel
theorem dX7_earliestWith_76 : decode cX7_earliestWith 76 = .ok (.aload_n 0, 1) := by decide +kernel
theorem dX7_earliestWith_77 : decode cX7_earliestWith 77 = .ok (.getfield 50, 3) := by decide +kernel
theorem dX7_earliestWith_80 : decode cX7_earliestWith 80 = .ok (.iload 6, 2) := by decide +kernel
theorem dX7_earliestWith_82 : decode cX7_earliestWith 82 = .ok (.iaload, 1) := by decide +kernel
theorem dX7_earliestWith_83 : decode cX7_earliestWith 83 = .ok (.aload_n 0, 1) := by decide +kernel
theorem dX7_earliestWith_84 : decode cX7_earliestWith 84 = .ok (.getfield 47, 3) := by decide +kernel
theorem dX7_earliestWith_87 : decode cX7_earliestWith 87 = .ok (.bipush 12, 2) := by decide +kernel
theorem dX7_earliestWith_89 : decode cX7_earliestWith 89 = .ok (.iload_n 2, 1) := by decide +kernel
theorem dX7_earliestWith_90 : decode cX7_earliestWith 90 = .ok (.imul, 1) := by decide +kernel
theorem dX7_earliestWith_91 : decode cX7_earliestWith 91 = .ok (.iload 4, 2) := by decide +kernel
theorem dX7_earliestWith_93 : decode cX7_earliestWith 93 = .ok (.iadd, 1) := by decide +kernel
theorem dX7_earliestWith_94 : decode cX7_earliestWith 94 = .ok (.iaload, 1) := by decide +kernel
theorem dX7_earliestWith_95 : decode cX7_earliestWith 95 = .ok (.iadd, 1) := by decide +kernel
theorem dX7_earliestWith_96 : decode cX7_earliestWith 96 = .ok (.aload_n 0, 1) := by decide +kernel
theorem dX7_earliestWith_97 : decode cX7_earliestWith 97 = .ok (.getfield 50, 3) := by decide +kernel
theorem dX7_earliestWith_100 : decode cX7_earliestWith 100 = .ok (.iload_n 1, 1) := by decide +kernel
theorem dX7_earliestWith_101 : decode cX7_earliestWith 101 = .ok (.iaload, 1) := by decide +kernel
theorem dX7_earliestWith_102 : decode cX7_earliestWith 102 = .ok (.if_icmp .ne 8, 3) := by decide +kernel
theorem dX7_earliestWith_105 : decode cX7_earliestWith 105 = .ok (.iload 4, 2) := by decide +kernel
theorem dX7_earliestWith_107 : decode cX7_earliestWith 107 = .ok (.goto 4, 3) := by decide +kernel
theorem dX7_earliestWith_110 : decode cX7_earliestWith 110 = .ok (.iload_n 3, 1) := by decide +kernel
theorem dX7_earliestWith_111 : decode cX7_earliestWith 111 = .ok (.istore_n 3, 1) := by decide +kernel
theorem dX7_earliestWith_112 : decode cX7_earliestWith 112 = .ok (.iinc 4 (-1), 3) := by decide +kernel
theorem dX7_earliestWith_115 : decode cX7_earliestWith 115 = .ok (.goto (-100), 3) := by decide +kernel
theorem dX7_earliestWith_118 : decode cX7_earliestWith 118 = .ok (.iload_n 3, 1) := by decide +kernel
theorem dX7_earliestWith_119 : decode cX7_earliestWith 119 = .ok (.ireturn, 1) := by decide +kernel
theorem dX7_wrongPairing_0 : decode cX7_wrongPairing 0 = .ok (.aload_n 0, 1) := by decide +kernel
theorem dX7_wrongPairing_1 : decode cX7_wrongPairing 1 = .ok (.getfield 92, 3) := by decide +kernel
theorem dX7_wrongPairing_4 : decode cX7_wrongPairing 4 = .ok (.iconst 1, 1) := by decide +kernel
theorem dX7_wrongPairing_5 : decode cX7_wrongPairing 5 = .ok (.if_icmp .ne 8, 3) := by decide +kernel
theorem dX7_wrongPairing_8 : decode cX7_wrongPairing 8 = .ok (.bipush (-3), 2) := by decide +kernel
theorem dX7_wrongPairing_10 : decode cX7_wrongPairing 10 = .ok (.goto 17, 3) := by decide +kernel
theorem dX7_wrongPairing_13 : decode cX7_wrongPairing 13 = .ok (.aload_n 0, 1) := by decide +kernel
theorem dX7_wrongPairing_14 : decode cX7_wrongPairing 14 = .ok (.invokevirtual 175, 3) := by decide +kernel
theorem dX7_wrongPairing_17 : decode cX7_wrongPairing 17 = .ok (.iconst 2, 1) := by decide +kernel
theorem dX7_wrongPairing_18 : decode cX7_wrongPairing 18 = .ok (.if_icmp .ge 8, 3) := by decide +kernel
theorem dX7_wrongPairing_21 : decode cX7_wrongPairing 21 = .ok (.bipush (-2), 2) := by decide +kernel
theorem dX7_wrongPairing_23 : decode cX7_wrongPairing 23 = .ok (.goto 4, 3) := by decide +kernel
theorem dX7_wrongPairing_26 : decode cX7_wrongPairing 26 = .ok (.iconst 0, 1) := by decide +kernel
theorem dX7_wrongPairing_27 : decode cX7_wrongPairing 27 = .ok (.ireturn, 1) := by decide +kernel
theorem dX7_pair_0 : decode cX7_pair 0 = .ok (.aload_n 0, 1) := by decide +kernel
theorem dX7_pair_1 : decode cX7_pair 1 = .ok (.iconst 0, 1) := by decide +kernel
theorem dX7_pair_2 : decode cX7_pair 2 = .ok (.putfield 75, 3) := by decide +kernel
theorem dX7_pair_5 : decode cX7_pair 5 = .ok (.aload_n 0, 1) := by decide +kernel
theorem dX7_pair_6 : decode cX7_pair 6 = .ok (.invokevirtual 203, 3) := by decide +kernel
theorem dX7_pair_9 : decode cX7_pair 9 = .ok (.ifCond .ge 8, 3) := by decide +kernel
theorem dX7_pair_12 : decode cX7_pair 12 = .ok (.aload_n 0, 1) := by decide +kernel
theorem dX7_pair_13 : decode cX7_pair 13 = .ok (.invokevirtual 203, 3) := by decide +kernel
theorem dX7_pair_16 : decode cX7_pair 16 = .ok (.ireturn, 1) := by decide +kernel
theorem dX7_pair_17 : decode cX7_pair 17 = .ok (.aload_n 0, 1) := by decide +kernel
theorem dX7_pair_18 : decode cX7_pair 18 = .ok (.getfield 89, 3) := by decide +kernel
theorem dX7_pair_21 : decode cX7_pair 21 = .ok (.bipush 20, 2) := by decide +kernel
theorem dX7_pair_23 : decode cX7_pair 23 = .ok (.if_icmp .ne 6, 3) := by decide +kernel
theorem dX7_pair_26 : decode cX7_pair 26 = .ok (.bipush (-4), 2) := by decide +kernel
theorem dX7_pair_28 : decode cX7_pair 28 = .ok (.ireturn, 1) := by decide +kernel
theorem dX7_pair_29 : decode cX7_pair 29 = .ok (.aload_n 0, 1) := by decide +kernel
theorem dX7_pair_30 : decode cX7_pair 30 = .ok (.invokevirtual 206, 3) := by decide +kernel
theorem dX7_pair_33 : decode cX7_pair 33 = .ok (.iconst 1, 1) := by decide +kernel
theorem dX7_pair_34 : decode cX7_pair 34 = .ok (.aload_n 0, 1) := by decide +kernel
theorem dX7_pair_35 : decode cX7_pair 35 = .ok (.getfield 184, 3) := by decide +kernel
theorem dX7_pair_38 : decode cX7_pair 38 = .ok (.ishl, 1) := by decide +kernel
theorem dX7_pair_39 : decode cX7_pair 39 = .ok (.iconst 1, 1) := by decide +kernel
theorem dX7_pair_40 : decode cX7_pair 40 = .ok (.isub, 1) := by decide +kernel
theorem dX7_pair_41 : decode cX7_pair 41 = .ok (.istore_n 1, 1) := by decide +kernel
theorem dX7_pair_42 : decode cX7_pair 42 = .ok (.aload_n 0, 1) := by decide +kernel
theorem dX7_pair_43 : decode cX7_pair 43 = .ok (.getfield 50, 3) := by decide +kernel
theorem dX7_pair_46 : decode cX7_pair 46 = .ok (.iload_n 1, 1) := by decide +kernel
theorem dX7_pair_47 : decode cX7_pair 47 = .ok (.iaload, 1) := by decide +kernel
theorem dX7_pair_48 : decode cX7_pair 48 = .ok (.ldc 127, 2) := by decide +kernel
theorem dX7_pair_50 : decode cX7_pair 50 = .ok (.if_icmp .lt 6, 3) := by decide +kernel
theorem dX7_pair_53 : decode cX7_pair 53 = .ok (.bipush (-9), 2) := by decide +kernel
theorem dX7_pair_55 : decode cX7_pair 55 = .ok (.ireturn, 1) := by decide +kernel
theorem dX7_pair_56 : decode cX7_pair 56 = .ok (.aload_n 0, 1) := by decide +kernel
theorem dX7_pair_57 : decode cX7_pair 57 = .ok (.getfield 89, 3) := by decide +kernel
theorem dX7_pair_60 : decode cX7_pair 60 = .ok (.istore_n 2, 1) := by decide +kernel
theorem dX7_pair_61 : decode cX7_pair 61 = .ok (.aload_n 0, 1) := by decide +kernel
theorem dX7_pair_62 : decode cX7_pair 62 = .ok (.getfield 16, 3) := by decide +kernel
theorem dX7_pair_65 : decode cX7_pair 65 = .ok (.iload_n 2, 1) := by decide +kernel
theorem dX7_pair_66 : decode cX7_pair 66 = .ok (.iconst 0, 1) := by decide +kernel
theorem dX7_pair_67 : decode cX7_pair 67 = .ok (.iastore, 1) := by decide +kernel
theorem dX7_pair_68 : decode cX7_pair 68 = .ok (.aload_n 0, 1) := by decide +kernel
theorem dX7_pair_69 : decode cX7_pair 69 = .ok (.getfield 19, 3) := by decide +kernel
theorem dX7_pair_72 : decode cX7_pair 72 = .ok (.iload_n 2, 1) := by decide +kernel
theorem dX7_pair_73 : decode cX7_pair 73 = .ok (.aload_n 0, 1) := by decide +kernel
theorem dX7_pair_74 : decode cX7_pair 74 = .ok (.getfield 166, 3) := by decide +kernel
theorem dX7_pair_77 : decode cX7_pair 77 = .ok (.iastore, 1) := by decide +kernel
theorem dX7_pair_78 : decode cX7_pair 78 = .ok (.iload_n 1, 1) := by decide +kernel
theorem dX7_pair_79 : decode cX7_pair 79 = .ok (.ifCond .eq 51, 3) := by decide +kernel
theorem dX7_pair_82 : decode cX7_pair 82 = .ok (.iload_n 1, 1) := by decide +kernel
theorem dX7_pair_83 : decode cX7_pair 83 = .ok (.invokestatic 196, 3) := by decide +kernel
theorem dX7_pair_86 : decode cX7_pair 86 = .ok (.istore_n 3, 1) := by decide +kernel
theorem dX7_pair_87 : decode cX7_pair 87 = .ok (.aload_n 0, 1) := by decide +kernel
theorem dX7_pair_88 : decode cX7_pair 88 = .ok (.iload_n 1, 1) := by decide +kernel
theorem dX7_pair_89 : decode cX7_pair 89 = .ok (.invokevirtual 209, 3) := by decide +kernel
theorem dX7_pair_92 : decode cX7_pair 92 = .ok (.istore 4, 2) := by decide +kernel
theorem dX7_pair_94 : decode cX7_pair 94 = .ok (.aload_n 0, 1) := by decide +kernel
theorem dX7_pair_95 : decode cX7_pair 95 = .ok (.iload_n 2, 1) := by decide +kernel
theorem dX7_pair_96 : decode cX7_pair 96 = .ok (.aload_n 0, 1) := by decide +kernel
theorem dX7_pair_97 : decode cX7_pair 97 = .ok (.getfield 44, 3) := by decide +kernel
theorem dX7_pair_100 : decode cX7_pair 100 = .ok (.iload_n 3, 1) := by decide +kernel
theorem dX7_pair_101 : decode cX7_pair 101 = .ok (.iaload, 1) := by decide +kernel
theorem dX7_pair_102 : decode cX7_pair 102 = .ok (.aload_n 0, 1) := by decide +kernel
theorem dX7_pair_103 : decode cX7_pair 103 = .ok (.getfield 44, 3) := by decide +kernel
theorem dX7_pair_106 : decode cX7_pair 106 = .ok (.iload 4, 2) := by decide +kernel
theorem dX7_pair_108 : decode cX7_pair 108 = .ok (.iaload, 1) := by decide +kernel
theorem dX7_pair_109 : decode cX7_pair 109 = .ok (.invokevirtual 212, 3) := by decide +kernel
theorem dX7_pair_112 : decode cX7_pair 112 = .ok (.iload_n 1, 1) := by decide +kernel
theorem dX7_pair_113 : decode cX7_pair 113 = .ok (.iconst 1, 1) := by decide +kernel
theorem dX7_pair_114 : decode cX7_pair 114 = .ok (.iload_n 3, 1) := by decide +kernel
theorem dX7_pair_115 : decode cX7_pair 115 = .ok (.ishl, 1) := by decide +kernel
theorem dX7_pair_116 : decode cX7_pair 116 = .ok (.iconst (-1), 1) := by decide +kernel
theorem dX7_pair_117 : decode cX7_pair 117 = .ok (.ixor, 1) := by decide +kernel
theorem dX7_pair_118 : decode cX7_pair 118 = .ok (.iconst 1, 1) := by decide +kernel
theorem dX7_pair_119 : decode cX7_pair 119 = .ok (.iload 4, 2) := by decide +kernel
theorem dX7_pair_121 : decode cX7_pair 121 = .ok (.ishl, 1) := by decide +kernel
theorem dX7_pair_122 : decode cX7_pair 122 = .ok (.iconst (-1), 1) := by decide +kernel
theorem dX7_pair_123 : decode cX7_pair 123 = .ok (.ixor, 1) := by decide +kernel
theorem dX7_pair_124 : decode cX7_pair 124 = .ok (.iand, 1) := by decide +kernel
theorem dX7_pair_125 : decode cX7_pair 125 = .ok (.iand, 1) := by decide +kernel
theorem dX7_pair_126 : decode cX7_pair 126 = .ok (.istore_n 1, 1) := by decide +kernel
theorem dX7_pair_127 : decode cX7_pair 127 = .ok (.goto (-49), 3) := by decide +kernel
theorem dX7_pair_130 : decode cX7_pair 130 = .ok (.aload_n 0, 1) := by decide +kernel
theorem dX7_pair_131 : decode cX7_pair 131 = .ok (.dup, 1) := by decide +kernel
theorem dX7_pair_132 : decode cX7_pair 132 = .ok (.getfield 89, 3) := by decide +kernel
theorem dX7_pair_135 : decode cX7_pair 135 = .ok (.iconst 1, 1) := by decide +kernel
theorem dX7_pair_136 : decode cX7_pair 136 = .ok (.iadd, 1) := by decide +kernel
theorem dX7_pair_137 : decode cX7_pair 137 = .ok (.putfield 89, 3) := by decide +kernel
theorem dX7_pair_140 : decode cX7_pair 140 = .ok (.aload_n 0, 1) := by decide +kernel
theorem dX7_pair_141 : decode cX7_pair 141 = .ok (.iconst 1, 1) := by decide +kernel
theorem dX7_pair_142 : decode cX7_pair 142 = .ok (.putfield 92, 3) := by decide +kernel
theorem dX7_pair_145 : decode cX7_pair 145 = .ok (.aload_n 0, 1) := by decide +kernel
theorem dX7_pair_146 : decode cX7_pair 146 = .ok (.getfield 16, 3) := by decide +kernel
theorem dX7_pair_149 : decode cX7_pair 149 = .ok (.iload_n 2, 1) := by decide +kernel
theorem dX7_pair_150 : decode cX7_pair 150 = .ok (.iaload, 1) := by decide +kernel
theorem dX7_pair_151 : decode cX7_pair 151 = .ok (.ireturn, 1) := by decide +kernel
theorem dX7_least_0 : decode cX7_least 0 = .ok (.aload_n 0, 1) := by decide +kernel
theorem dX7_least_1 : decode cX7_least 1 = .ok (.iconst 0, 1) := by decide +kernel
theorem dX7_least_2 : decode cX7_least 2 = .ok (.putfield 75, 3) := by decide +kernel
theorem dX7_least_5 : decode cX7_least 5 = .ok (.aload_n 0, 1) := by decide +kernel
theorem dX7_least_6 : decode cX7_least 6 = .ok (.invokevirtual 203, 3) := by decide +kernel
theorem dX7_least_9 : decode cX7_least 9 = .ok (.ifCond .ge 8, 3) := by decide +kernel
theorem dX7_least_12 : decode cX7_least 12 = .ok (.aload_n 0, 1) := by decide +kernel
theorem dX7_least_13 : decode cX7_least 13 = .ok (.invokevirtual 203, 3) := by decide +kernel
theorem dX7_least_16 : decode cX7_least 16 = .ok (.ireturn, 1) := by decide +kernel
theorem dX7_least_17 : decode cX7_least 17 = .ok (.aload_n 0, 1) := by decide +kernel
theorem dX7_least_18 : decode cX7_least 18 = .ok (.invokevirtual 206, 3) := by decide +kernel
theorem dX7_least_21 : decode cX7_least 21 = .ok (.aload_n 0, 1) := by decide +kernel
theorem dX7_least_22 : decode cX7_least 22 = .ok (.getfield 50, 3) := by decide +kernel
theorem dX7_least_25 : decode cX7_least 25 = .ok (.iconst 1, 1) := by decide +kernel
theorem dX7_least_26 : decode cX7_least 26 = .ok (.aload_n 0, 1) := by decide +kernel
theorem dX7_least_27 : decode cX7_least 27 = .ok (.getfield 184, 3) := by decide +kernel
theorem dX7_least_30 : decode cX7_least 30 = .ok (.ishl, 1) := by decide +kernel
theorem dX7_least_31 : decode cX7_least 31 = .ok (.iconst 1, 1) := by decide +kernel
theorem dX7_least_32 : decode cX7_least 32 = .ok (.isub, 1) := by decide +kernel
theorem dX7_least_33 : decode cX7_least 33 = .ok (.iaload, 1) := by decide +kernel
theorem dX7_least_34 : decode cX7_least 34 = .ok (.istore_n 1, 1) := by decide +kernel
theorem dX7_least_35 : decode cX7_least 35 = .ok (.iload_n 1, 1) := by decide +kernel
theorem dX7_least_36 : decode cX7_least 36 = .ok (.ldc 127, 2) := by decide +kernel
theorem dX7_least_38 : decode cX7_least 38 = .ok (.if_icmp .lt 8, 3) := by decide +kernel
theorem dX7_least_41 : decode cX7_least 41 = .ok (.bipush (-9), 2) := by decide +kernel
theorem dX7_least_43 : decode cX7_least 43 = .ok (.goto 4, 3) := by decide +kernel
theorem dX7_least_46 : decode cX7_least 46 = .ok (.iload_n 1, 1) := by decide +kernel
theorem dX7_least_47 : decode cX7_least 47 = .ok (.ireturn, 1) := by decide +kernel
theorem dX7_ways_0 : decode cX7_ways 0 = .ok (.aload_n 0, 1) := by decide +kernel
theorem dX7_ways_1 : decode cX7_ways 1 = .ok (.iconst 0, 1) := by decide +kernel
theorem dX7_ways_2 : decode cX7_ways 2 = .ok (.putfield 75, 3) := by decide +kernel
theorem dX7_ways_5 : decode cX7_ways 5 = .ok (.aload_n 0, 1) := by decide +kernel
theorem dX7_ways_6 : decode cX7_ways 6 = .ok (.invokevirtual 203, 3) := by decide +kernel
theorem dX7_ways_9 : decode cX7_ways 9 = .ok (.ifCond .ge 8, 3) := by decide +kernel
theorem dX7_ways_12 : decode cX7_ways 12 = .ok (.aload_n 0, 1) := by decide +kernel
theorem dX7_ways_13 : decode cX7_ways 13 = .ok (.invokevirtual 203, 3) := by decide +kernel
theorem dX7_ways_16 : decode cX7_ways 16 = .ok (.ireturn, 1) := by decide +kernel
theorem dX7_ways_17 : decode cX7_ways 17 = .ok (.aload_n 0, 1) := by decide +kernel
theorem dX7_ways_18 : decode cX7_ways 18 = .ok (.invokevirtual 206, 3) := by decide +kernel
theorem dX7_ways_21 : decode cX7_ways 21 = .ok (.aload_n 0, 1) := by decide +kernel
theorem dX7_ways_22 : decode cX7_ways 22 = .ok (.getfield 53, 3) := by decide +kernel
theorem dX7_ways_25 : decode cX7_ways 25 = .ok (.iconst 1, 1) := by decide +kernel
theorem dX7_ways_26 : decode cX7_ways 26 = .ok (.aload_n 0, 1) := by decide +kernel
theorem dX7_ways_27 : decode cX7_ways 27 = .ok (.getfield 184, 3) := by decide +kernel
theorem dX7_ways_30 : decode cX7_ways 30 = .ok (.ishl, 1) := by decide +kernel
theorem dX7_ways_31 : decode cX7_ways 31 = .ok (.iconst 1, 1) := by decide +kernel
theorem dX7_ways_32 : decode cX7_ways 32 = .ok (.isub, 1) := by decide +kernel
theorem dX7_ways_33 : decode cX7_ways 33 = .ok (.iaload, 1) := by decide +kernel
theorem dX7_ways_34 : decode cX7_ways 34 = .ok (.ireturn, 1) := by decide +kernel
theorem dX7_join_0 : decode cX7_join 0 = .ok (.aload_n 0, 1) := by decide +kernel
theorem dX7_join_1 : decode cX7_join 1 = .ok (.iconst 0, 1) := by decide +kernel
theorem dX7_join_2 : decode cX7_join 2 = .ok (.putfield 75, 3) := by decide +kernel
theorem dX7_join_5 : decode cX7_join 5 = .ok (.iload_n 1, 1) := by decide +kernel
theorem dX7_join_6 : decode cX7_join 6 = .ok (.i2l, 1) := by decide +kernel
theorem dX7_join_7 : decode cX7_join 7 = .ok (.lconst 0, 1) := by decide +kernel
theorem dX7_join_8 : decode cX7_join 8 = .ok (.ldc2_w 216, 3) := by decide +kernel
theorem dX7_join_11 : decode cX7_join 11 = .ok (.invokestatic 81, 3) := by decide +kernel
theorem dX7_join_14 : decode cX7_join 14 = .ok (.ifCond .ne 6, 3) := by decide +kernel
theorem dX7_join_17 : decode cX7_join 17 = .ok (.bipush (-2), 2) := by decide +kernel
theorem dX7_join_19 : decode cX7_join 19 = .ok (.ireturn, 1) := by decide +kernel
theorem dX7_join_20 : decode cX7_join 20 = .ok (.aload_n 0, 1) := by decide +kernel
theorem dX7_join_21 : decode cX7_join 21 = .ok (.getfield 92, 3) := by decide +kernel
theorem dX7_join_24 : decode cX7_join 24 = .ok (.iconst 1, 1) := by decide +kernel
theorem dX7_join_25 : decode cX7_join 25 = .ok (.if_icmp .eq 12, 3) := by decide +kernel
theorem dX7_join_28 : decode cX7_join 28 = .ok (.aload_n 0, 1) := by decide +kernel
theorem dX7_join_29 : decode cX7_join 29 = .ok (.getfield 78, 3) := by decide +kernel
theorem dX7_join_32 : decode cX7_join 32 = .ok (.bipush 12, 2) := by decide +kernel
theorem dX7_join_34 : decode cX7_join 34 = .ok (.if_icmp .ne 19, 3) := by decide +kernel
theorem dX7_join_37 : decode cX7_join 37 = .ok (.aload_n 0, 1) := by decide +kernel
theorem dX7_join_38 : decode cX7_join 38 = .ok (.getfield 92, 3) := by decide +kernel
theorem dX7_join_41 : decode cX7_join 41 = .ok (.iconst 1, 1) := by decide +kernel
theorem dX7_join_42 : decode cX7_join 42 = .ok (.if_icmp .ne 8, 3) := by decide +kernel
theorem dX7_join_45 : decode cX7_join 45 = .ok (.bipush (-3), 2) := by decide +kernel
theorem dX7_join_47 : decode cX7_join 47 = .ok (.goto 5, 3) := by decide +kernel
theorem dX7_join_50 : decode cX7_join 50 = .ok (.bipush (-4), 2) := by decide +kernel
theorem dX7_join_52 : decode cX7_join 52 = .ok (.ireturn, 1) := by decide +kernel
theorem dX7_join_53 : decode cX7_join 53 = .ok (.aload_n 0, 1) := by decide +kernel
theorem dX7_join_54 : decode cX7_join 54 = .ok (.getfield 7, 3) := by decide +kernel
theorem dX7_join_57 : decode cX7_join 57 = .ok (.aload_n 0, 1) := by decide +kernel
theorem dX7_join_58 : decode cX7_join 58 = .ok (.getfield 78, 3) := by decide +kernel
theorem dX7_join_61 : decode cX7_join 61 = .ok (.iload_n 1, 1) := by decide +kernel
theorem dX7_join_62 : decode cX7_join 62 = .ok (.iastore, 1) := by decide +kernel
theorem dX7_join_63 : decode cX7_join 63 = .ok (.aload_n 0, 1) := by decide +kernel
theorem dX7_join_64 : decode cX7_join 64 = .ok (.getfield 13, 3) := by decide +kernel
theorem dX7_join_67 : decode cX7_join 67 = .ok (.aload_n 0, 1) := by decide +kernel
theorem dX7_join_68 : decode cX7_join 68 = .ok (.getfield 78, 3) := by decide +kernel
theorem dX7_join_71 : decode cX7_join 71 = .ok (.iconst 1, 1) := by decide +kernel
theorem dX7_join_72 : decode cX7_join 72 = .ok (.iastore, 1) := by decide +kernel
theorem dX7_join_73 : decode cX7_join 73 = .ok (.aload_n 0, 1) := by decide +kernel
theorem dX7_join_74 : decode cX7_join 74 = .ok (.dup, 1) := by decide +kernel
theorem dX7_join_75 : decode cX7_join 75 = .ok (.getfield 78, 3) := by decide +kernel
theorem dX7_join_78 : decode cX7_join 78 = .ok (.iconst 1, 1) := by decide +kernel
theorem dX7_join_79 : decode cX7_join 79 = .ok (.iadd, 1) := by decide +kernel
theorem dX7_join_80 : decode cX7_join 80 = .ok (.putfield 78, 3) := by decide +kernel
theorem dX7_join_83 : decode cX7_join 83 = .ok (.aload_n 0, 1) := by decide +kernel
theorem dX7_join_84 : decode cX7_join 84 = .ok (.getfield 78, 3) := by decide +kernel
theorem dX7_join_87 : decode cX7_join 87 = .ok (.iconst 1, 1) := by decide +kernel
theorem dX7_join_88 : decode cX7_join 88 = .ok (.isub, 1) := by decide +kernel
theorem dX7_join_89 : decode cX7_join 89 = .ok (.ireturn, 1) := by decide +kernel
theorem dX7_leave_0 : decode cX7_leave 0 = .ok (.aload_n 0, 1) := by decide +kernel
theorem dX7_leave_1 : decode cX7_leave 1 = .ok (.iconst 0, 1) := by decide +kernel
theorem dX7_leave_2 : decode cX7_leave 2 = .ok (.putfield 75, 3) := by decide +kernel
theorem dX7_leave_5 : decode cX7_leave 5 = .ok (.aload_n 0, 1) := by decide +kernel
theorem dX7_leave_6 : decode cX7_leave 6 = .ok (.iload_n 1, 1) := by decide +kernel
theorem dX7_leave_7 : decode cX7_leave 7 = .ok (.invokevirtual 85, 3) := by decide +kernel
theorem dX7_leave_10 : decode cX7_leave 10 = .ok (.ifCond .ne 5, 3) := by decide +kernel
theorem dX7_leave_13 : decode cX7_leave 13 = .ok (.iconst (-1), 1) := by decide +kernel
theorem dX7_leave_14 : decode cX7_leave 14 = .ok (.ireturn, 1) := by decide +kernel
theorem dX7_leave_15 : decode cX7_leave 15 = .ok (.aload_n 0, 1) := by decide +kernel
theorem dX7_leave_16 : decode cX7_leave 16 = .ok (.getfield 13, 3) := by decide +kernel
theorem dX7_leave_19 : decode cX7_leave 19 = .ok (.iload_n 1, 1) := by decide +kernel
theorem dX7_leave_20 : decode cX7_leave 20 = .ok (.iaload, 1) := by decide +kernel
theorem dX7_leave_21 : decode cX7_leave 21 = .ok (.ifCond .eq 11, 3) := by decide +kernel
theorem dX7_leave_24 : decode cX7_leave 24 = .ok (.aload_n 0, 1) := by decide +kernel
theorem dX7_leave_25 : decode cX7_leave 25 = .ok (.getfield 92, 3) := by decide +kernel
theorem dX7_leave_28 : decode cX7_leave 28 = .ok (.iconst 1, 1) := by decide +kernel
theorem dX7_leave_29 : decode cX7_leave 29 = .ok (.if_icmp .ne 6, 3) := by decide +kernel
theorem dX7_leave_32 : decode cX7_leave 32 = .ok (.bipush (-3), 2) := by decide +kernel
theorem dX7_leave_34 : decode cX7_leave 34 = .ok (.ireturn, 1) := by decide +kernel
theorem dX7_leave_35 : decode cX7_leave 35 = .ok (.aload_n 0, 1) := by decide +kernel
theorem dX7_leave_36 : decode cX7_leave 36 = .ok (.getfield 13, 3) := by decide +kernel
theorem dX7_leave_39 : decode cX7_leave 39 = .ok (.iload_n 1, 1) := by decide +kernel
theorem dX7_leave_40 : decode cX7_leave 40 = .ok (.iconst 0, 1) := by decide +kernel
theorem dX7_leave_41 : decode cX7_leave 41 = .ok (.iastore, 1) := by decide +kernel
theorem dX7_leave_42 : decode cX7_leave 42 = .ok (.aload_n 0, 1) := by decide +kernel
theorem dX7_leave_43 : decode cX7_leave 43 = .ok (.invokevirtual 175, 3) := by decide +kernel
theorem dX7_leave_46 : decode cX7_leave 46 = .ok (.ireturn, 1) := by decide +kernel
theorem dX7_back_0 : decode cX7_back 0 = .ok (.aload_n 0, 1) := by decide +kernel
theorem dX7_back_1 : decode cX7_back 1 = .ok (.iconst 0, 1) := by decide +kernel
theorem dX7_back_2 : decode cX7_back 2 = .ok (.putfield 75, 3) := by decide +kernel
theorem dX7_back_5 : decode cX7_back 5 = .ok (.aload_n 0, 1) := by decide +kernel
theorem dX7_back_6 : decode cX7_back 6 = .ok (.iload_n 1, 1) := by decide +kernel
theorem dX7_back_7 : decode cX7_back 7 = .ok (.invokevirtual 85, 3) := by decide +kernel
theorem dX7_back_10 : decode cX7_back 10 = .ok (.ifCond .ne 5, 3) := by decide +kernel
theorem dX7_back_13 : decode cX7_back 13 = .ok (.iconst (-1), 1) := by decide +kernel
theorem dX7_back_14 : decode cX7_back 14 = .ok (.ireturn, 1) := by decide +kernel
theorem dX7_back_15 : decode cX7_back 15 = .ok (.aload_n 0, 1) := by decide +kernel
theorem dX7_back_16 : decode cX7_back 16 = .ok (.getfield 13, 3) := by decide +kernel
theorem dX7_back_19 : decode cX7_back 19 = .ok (.iload_n 1, 1) := by decide +kernel
theorem dX7_back_20 : decode cX7_back 20 = .ok (.iaload, 1) := by decide +kernel
theorem dX7_back_21 : decode cX7_back 21 = .ok (.iconst 1, 1) := by decide +kernel
theorem dX7_back_22 : decode cX7_back 22 = .ok (.if_icmp .eq 11, 3) := by decide +kernel
theorem dX7_back_25 : decode cX7_back 25 = .ok (.aload_n 0, 1) := by decide +kernel
theorem dX7_back_26 : decode cX7_back 26 = .ok (.getfield 92, 3) := by decide +kernel
theorem dX7_back_29 : decode cX7_back 29 = .ok (.iconst 1, 1) := by decide +kernel
theorem dX7_back_30 : decode cX7_back 30 = .ok (.if_icmp .ne 6, 3) := by decide +kernel
theorem dX7_back_33 : decode cX7_back 33 = .ok (.bipush (-3), 2) := by decide +kernel
theorem dX7_back_35 : decode cX7_back 35 = .ok (.ireturn, 1) := by decide +kernel
theorem dX7_back_36 : decode cX7_back 36 = .ok (.aload_n 0, 1) := by decide +kernel
theorem dX7_back_37 : decode cX7_back 37 = .ok (.getfield 13, 3) := by decide +kernel
theorem dX7_back_40 : decode cX7_back 40 = .ok (.iload_n 1, 1) := by decide +kernel
theorem dX7_back_41 : decode cX7_back 41 = .ok (.iconst 1, 1) := by decide +kernel
theorem dX7_back_42 : decode cX7_back 42 = .ok (.iastore, 1) := by decide +kernel
theorem dX7_back_43 : decode cX7_back 43 = .ok (.aload_n 0, 1) := by decide +kernel
theorem dX7_back_44 : decode cX7_back 44 = .ok (.invokevirtual 175, 3) := by decide +kernel
theorem dX7_back_47 : decode cX7_back 47 = .ok (.ireturn, 1) := by decide +kernel
theorem dX7_rate_0 : decode cX7_rate 0 = .ok (.aload_n 0, 1) := by decide +kernel
theorem dX7_rate_1 : decode cX7_rate 1 = .ok (.iconst 0, 1) := by decide +kernel
theorem dX7_rate_2 : decode cX7_rate 2 = .ok (.putfield 75, 3) := by decide +kernel
theorem dX7_rate_5 : decode cX7_rate 5 = .ok (.aload_n 0, 1) := by decide +kernel
theorem dX7_rate_6 : decode cX7_rate 6 = .ok (.iload_n 1, 1) := by decide +kernel
theorem dX7_rate_7 : decode cX7_rate 7 = .ok (.invokevirtual 85, 3) := by decide +kernel
theorem dX7_rate_10 : decode cX7_rate 10 = .ok (.ifCond .ne 5, 3) := by decide +kernel
theorem dX7_rate_13 : decode cX7_rate 13 = .ok (.iconst (-1), 1) := by decide +kernel
theorem dX7_rate_14 : decode cX7_rate 14 = .ok (.ireturn, 1) := by decide +kernel
theorem dX7_rate_15 : decode cX7_rate 15 = .ok (.iload_n 2, 1) := by decide +kernel
theorem dX7_rate_16 : decode cX7_rate 16 = .ok (.i2l, 1) := by decide +kernel
theorem dX7_rate_17 : decode cX7_rate 17 = .ok (.lconst 0, 1) := by decide +kernel
theorem dX7_rate_18 : decode cX7_rate 18 = .ok (.ldc2_w 216, 3) := by decide +kernel
theorem dX7_rate_21 : decode cX7_rate 21 = .ok (.invokestatic 81, 3) := by decide +kernel
theorem dX7_rate_24 : decode cX7_rate 24 = .ok (.ifCond .ne 6, 3) := by decide +kernel
theorem dX7_rate_27 : decode cX7_rate 27 = .ok (.bipush (-2), 2) := by decide +kernel
theorem dX7_rate_29 : decode cX7_rate 29 = .ok (.ireturn, 1) := by decide +kernel
theorem dX7_rate_30 : decode cX7_rate 30 = .ok (.aload_n 0, 1) := by decide +kernel
theorem dX7_rate_31 : decode cX7_rate 31 = .ok (.getfield 7, 3) := by decide +kernel
theorem dX7_rate_34 : decode cX7_rate 34 = .ok (.iload_n 1, 1) := by decide +kernel
theorem dX7_rate_35 : decode cX7_rate 35 = .ok (.iaload, 1) := by decide +kernel
theorem dX7_rate_36 : decode cX7_rate 36 = .ok (.istore_n 3, 1) := by decide +kernel
theorem dX7_rate_37 : decode cX7_rate 37 = .ok (.aload_n 0, 1) := by decide +kernel
theorem dX7_rate_38 : decode cX7_rate 38 = .ok (.getfield 7, 3) := by decide +kernel
theorem dX7_rate_41 : decode cX7_rate 41 = .ok (.iload_n 1, 1) := by decide +kernel
theorem dX7_rate_42 : decode cX7_rate 42 = .ok (.iload_n 2, 1) := by decide +kernel
theorem dX7_rate_43 : decode cX7_rate 43 = .ok (.iastore, 1) := by decide +kernel
theorem dX7_rate_44 : decode cX7_rate 44 = .ok (.iload_n 3, 1) := by decide +kernel
theorem dX7_rate_45 : decode cX7_rate 45 = .ok (.ireturn, 1) := by decide +kernel
theorem dX7_of_0 : decode cX7_of 0 = .ok (.aload_n 0, 1) := by decide +kernel
theorem dX7_of_1 : decode cX7_of 1 = .ok (.iconst 0, 1) := by decide +kernel
theorem dX7_of_2 : decode cX7_of 2 = .ok (.putfield 75, 3) := by decide +kernel
theorem dX7_of_5 : decode cX7_of 5 = .ok (.aload_n 0, 1) := by decide +kernel
theorem dX7_of_6 : decode cX7_of 6 = .ok (.iload_n 1, 1) := by decide +kernel
theorem dX7_of_7 : decode cX7_of 7 = .ok (.invokevirtual 85, 3) := by decide +kernel
theorem dX7_of_10 : decode cX7_of 10 = .ok (.ifCond .eq 15, 3) := by decide +kernel
theorem dX7_of_13 : decode cX7_of 13 = .ok (.iload_n 2, 1) := by decide +kernel
theorem dX7_of_14 : decode cX7_of 14 = .ok (.i2l, 1) := by decide +kernel
theorem dX7_of_15 : decode cX7_of 15 = .ok (.lconst 0, 1) := by decide +kernel
theorem dX7_of_16 : decode cX7_of 16 = .ok (.ldc2_w 218, 3) := by decide +kernel
theorem dX7_of_19 : decode cX7_of 19 = .ok (.invokestatic 81, 3) := by decide +kernel
theorem dX7_of_22 : decode cX7_of 22 = .ok (.ifCond .ne 5, 3) := by decide +kernel
theorem dX7_of_25 : decode cX7_of 25 = .ok (.iconst (-1), 1) := by decide +kernel
theorem dX7_of_26 : decode cX7_of 26 = .ok (.ireturn, 1) := by decide +kernel
theorem dX7_of_27 : decode cX7_of 27 = .ok (.iload_n 2, 1) := by decide +kernel
theorem dX7_of_28 : decode cX7_of 28 = .ok (.tableswitch 99 0 8 #[52, 59, 66, 72, 78, 87, 93, 99, 72], 52) := by decide +kernel
theorem dX7_of_80 : decode cX7_of 80 = .ok (.aload_n 0, 1) := by decide +kernel
theorem dX7_of_81 : decode cX7_of 81 = .ok (.getfield 7, 3) := by decide +kernel
theorem dX7_of_84 : decode cX7_of 84 = .ok (.iload_n 1, 1) := by decide +kernel
theorem dX7_of_85 : decode cX7_of 85 = .ok (.iaload, 1) := by decide +kernel
theorem dX7_of_86 : decode cX7_of 86 = .ok (.ireturn, 1) := by decide +kernel
theorem dX7_of_87 : decode cX7_of 87 = .ok (.aload_n 0, 1) := by decide +kernel
theorem dX7_of_88 : decode cX7_of 88 = .ok (.getfield 13, 3) := by decide +kernel
theorem dX7_of_91 : decode cX7_of 91 = .ok (.iload_n 1, 1) := by decide +kernel
theorem dX7_of_92 : decode cX7_of 92 = .ok (.iaload, 1) := by decide +kernel
theorem dX7_of_93 : decode cX7_of 93 = .ok (.ireturn, 1) := by decide +kernel
theorem dX7_of_94 : decode cX7_of 94 = .ok (.aload_n 0, 1) := by decide +kernel
theorem dX7_of_95 : decode cX7_of 95 = .ok (.iload_n 1, 1) := by decide +kernel
theorem dX7_of_96 : decode cX7_of 96 = .ok (.invokevirtual 128, 3) := by decide +kernel
theorem dX7_of_99 : decode cX7_of 99 = .ok (.ireturn, 1) := by decide +kernel
theorem dX7_of_100 : decode cX7_of 100 = .ok (.aload_n 0, 1) := by decide +kernel
theorem dX7_of_101 : decode cX7_of 101 = .ok (.iload_n 1, 1) := by decide +kernel
theorem dX7_of_102 : decode cX7_of 102 = .ok (.invokevirtual 120, 3) := by decide +kernel
theorem dX7_of_105 : decode cX7_of 105 = .ok (.ireturn, 1) := by decide +kernel
theorem dX7_of_106 : decode cX7_of 106 = .ok (.aload_n 0, 1) := by decide +kernel
theorem dX7_of_107 : decode cX7_of 107 = .ok (.iload_n 1, 1) := by decide +kernel
theorem dX7_of_108 : decode cX7_of 108 = .ok (.invokevirtual 160, 3) := by decide +kernel
theorem dX7_of_111 : decode cX7_of 111 = .ok (.bipush 100, 2) := by decide +kernel
theorem dX7_of_113 : decode cX7_of 113 = .ok (.iadd, 1) := by decide +kernel
theorem dX7_of_114 : decode cX7_of 114 = .ok (.ireturn, 1) := by decide +kernel
theorem dX7_of_115 : decode cX7_of 115 = .ok (.aload_n 0, 1) := by decide +kernel
theorem dX7_of_116 : decode cX7_of 116 = .ok (.iload_n 1, 1) := by decide +kernel
theorem dX7_of_117 : decode cX7_of 117 = .ok (.invokevirtual 163, 3) := by decide +kernel
theorem dX7_of_120 : decode cX7_of 120 = .ok (.ireturn, 1) := by decide +kernel
theorem dX7_of_121 : decode cX7_of 121 = .ok (.aload_n 0, 1) := by decide +kernel
theorem dX7_of_122 : decode cX7_of 122 = .ok (.iload_n 1, 1) := by decide +kernel
theorem dX7_of_123 : decode cX7_of 123 = .ok (.invokevirtual 169, 3) := by decide +kernel
theorem dX7_of_126 : decode cX7_of 126 = .ok (.ireturn, 1) := by decide +kernel
theorem dX7_of_127 : decode cX7_of 127 = .ok (.aload_n 0, 1) := by decide +kernel
theorem dX7_of_128 : decode cX7_of 128 = .ok (.iload_n 1, 1) := by decide +kernel
theorem dX7_of_129 : decode cX7_of 129 = .ok (.invokevirtual 172, 3) := by decide +kernel
theorem dX7_of_132 : decode cX7_of 132 = .ok (.ireturn, 1) := by decide +kernel
theorem dX7_tie_0 : decode cX7_tie 0 = .ok (.aload_n 0, 1) := by decide +kernel
theorem dX7_tie_1 : decode cX7_tie 1 = .ok (.iconst 0, 1) := by decide +kernel
theorem dX7_tie_2 : decode cX7_tie 2 = .ok (.putfield 75, 3) := by decide +kernel
theorem dX7_tie_5 : decode cX7_tie 5 = .ok (.aload_n 0, 1) := by decide +kernel
theorem dX7_tie_6 : decode cX7_tie 6 = .ok (.iload_n 1, 1) := by decide +kernel
theorem dX7_tie_7 : decode cX7_tie 7 = .ok (.invokevirtual 85, 3) := by decide +kernel
theorem dX7_tie_10 : decode cX7_tie 10 = .ok (.ifCond .eq 24, 3) := by decide +kernel
theorem dX7_tie_13 : decode cX7_tie 13 = .ok (.iload_n 2, 1) := by decide +kernel
theorem dX7_tie_14 : decode cX7_tie 14 = .ok (.i2l, 1) := by decide +kernel
theorem dX7_tie_15 : decode cX7_tie 15 = .ok (.lconst 0, 1) := by decide +kernel
theorem dX7_tie_16 : decode cX7_tie 16 = .ok (.ldc2_w 218, 3) := by decide +kernel
theorem dX7_tie_19 : decode cX7_tie 19 = .ok (.invokestatic 81, 3) := by decide +kernel
theorem dX7_tie_22 : decode cX7_tie 22 = .ok (.ifCond .eq 12, 3) := by decide +kernel
theorem dX7_tie_25 : decode cX7_tie 25 = .ok (.aload_n 0, 1) := by decide +kernel
theorem dX7_tie_26 : decode cX7_tie 26 = .ok (.iload_n 1, 1) := by decide +kernel
theorem dX7_tie_27 : decode cX7_tie 27 = .ok (.iload_n 2, 1) := by decide +kernel
theorem dX7_tie_28 : decode cX7_tie 28 = .ok (.invokevirtual 154, 3) := by decide +kernel
theorem dX7_tie_31 : decode cX7_tie 31 = .ok (.goto 4, 3) := by decide +kernel
theorem dX7_tie_34 : decode cX7_tie 34 = .ok (.iconst (-1), 1) := by decide +kernel
theorem dX7_tie_35 : decode cX7_tie 35 = .ok (.ireturn, 1) := by decide +kernel
theorem dX7_rank_0 : decode cX7_rank 0 = .ok (.aload_n 0, 1) := by decide +kernel
theorem dX7_rank_1 : decode cX7_rank 1 = .ok (.iconst 0, 1) := by decide +kernel
theorem dX7_rank_2 : decode cX7_rank 2 = .ok (.putfield 75, 3) := by decide +kernel
theorem dX7_rank_5 : decode cX7_rank 5 = .ok (.aload_n 0, 1) := by decide +kernel
theorem dX7_rank_6 : decode cX7_rank 6 = .ok (.iload_n 1, 1) := by decide +kernel
theorem dX7_rank_7 : decode cX7_rank 7 = .ok (.invokevirtual 85, 3) := by decide +kernel
theorem dX7_rank_10 : decode cX7_rank 10 = .ok (.ifCond .ne 5, 3) := by decide +kernel
theorem dX7_rank_13 : decode cX7_rank 13 = .ok (.iconst (-1), 1) := by decide +kernel
theorem dX7_rank_14 : decode cX7_rank 14 = .ok (.ireturn, 1) := by decide +kernel
theorem dX7_rank_15 : decode cX7_rank 15 = .ok (.aload_n 0, 1) := by decide +kernel
theorem dX7_rank_16 : decode cX7_rank 16 = .ok (.invokevirtual 178, 3) := by decide +kernel
theorem dX7_rank_19 : decode cX7_rank 19 = .ok (.aload_n 0, 1) := by decide +kernel
theorem dX7_rank_20 : decode cX7_rank 20 = .ok (.iload_n 1, 1) := by decide +kernel
theorem dX7_rank_21 : decode cX7_rank 21 = .ok (.invokevirtual 157, 3) := by decide +kernel
theorem dX7_rank_24 : decode cX7_rank 24 = .ok (.ireturn, 1) := by decide +kernel
theorem dX7_nth_0 : decode cX7_nth 0 = .ok (.aload_n 0, 1) := by decide +kernel
theorem dX7_nth_1 : decode cX7_nth 1 = .ok (.iconst 0, 1) := by decide +kernel
theorem dX7_nth_2 : decode cX7_nth 2 = .ok (.putfield 75, 3) := by decide +kernel
theorem dX7_nth_5 : decode cX7_nth 5 = .ok (.aload_n 0, 1) := by decide +kernel
theorem dX7_nth_6 : decode cX7_nth 6 = .ok (.invokevirtual 178, 3) := by decide +kernel
theorem dX7_nth_9 : decode cX7_nth 9 = .ok (.aload_n 0, 1) := by decide +kernel
theorem dX7_nth_10 : decode cX7_nth 10 = .ok (.iload_n 1, 1) := by decide +kernel
theorem dX7_nth_11 : decode cX7_nth 11 = .ok (.invokevirtual 85, 3) := by decide +kernel
theorem dX7_nth_14 : decode cX7_nth 14 = .ok (.ifCond .eq 12, 3) := by decide +kernel
theorem dX7_nth_17 : decode cX7_nth 17 = .ok (.aload_n 0, 1) := by decide +kernel
theorem dX7_nth_18 : decode cX7_nth 18 = .ok (.getfield 41, 3) := by decide +kernel
theorem dX7_nth_21 : decode cX7_nth 21 = .ok (.iload_n 1, 1) := by decide +kernel
theorem dX7_nth_22 : decode cX7_nth 22 = .ok (.iaload, 1) := by decide +kernel
theorem dX7_nth_23 : decode cX7_nth 23 = .ok (.goto 4, 3) := by decide +kernel
theorem dX7_nth_26 : decode cX7_nth 26 = .ok (.iconst (-1), 1) := by decide +kernel
theorem dX7_nth_27 : decode cX7_nth 27 = .ok (.ireturn, 1) := by decide +kernel
theorem dX7_explain_0 : decode cX7_explain 0 = .ok (.aload_n 0, 1) := by decide +kernel
theorem dX7_explain_1 : decode cX7_explain 1 = .ok (.iconst 0, 1) := by decide +kernel
theorem dX7_explain_2 : decode cX7_explain 2 = .ok (.putfield 75, 3) := by decide +kernel
theorem dX7_explain_5 : decode cX7_explain 5 = .ok (.aload_n 0, 1) := by decide +kernel
theorem dX7_explain_6 : decode cX7_explain 6 = .ok (.iload_n 1, 1) := by decide +kernel
theorem dX7_explain_7 : decode cX7_explain 7 = .ok (.iload_n 2, 1) := by decide +kernel
theorem dX7_explain_8 : decode cX7_explain 8 = .ok (.invokevirtual 220, 3) := by decide +kernel
theorem dX7_explain_11 : decode cX7_explain 11 = .ok (.ifCond .eq 13, 3) := by decide +kernel
theorem dX7_explain_14 : decode cX7_explain 14 = .ok (.iload_n 3, 1) := by decide +kernel
theorem dX7_explain_15 : decode cX7_explain 15 = .ok (.i2l, 1) := by decide +kernel
theorem dX7_explain_16 : decode cX7_explain 16 = .ok (.lconst 0, 1) := by decide +kernel
theorem dX7_explain_17 : decode cX7_explain 17 = .ok (.lconst 1, 1) := by decide +kernel
theorem dX7_explain_18 : decode cX7_explain 18 = .ok (.invokestatic 81, 3) := by decide +kernel
theorem dX7_explain_21 : decode cX7_explain 21 = .ok (.ifCond .ne 5, 3) := by decide +kernel
theorem dX7_explain_24 : decode cX7_explain 24 = .ok (.iconst (-1), 1) := by decide +kernel
theorem dX7_explain_25 : decode cX7_explain 25 = .ok (.ireturn, 1) := by decide +kernel
theorem dX7_explain_26 : decode cX7_explain 26 = .ok (.aload_n 0, 1) := by decide +kernel
theorem dX7_explain_27 : decode cX7_explain 27 = .ok (.invokevirtual 178, 3) := by decide +kernel
theorem dX7_explain_30 : decode cX7_explain 30 = .ok (.aload_n 0, 1) := by decide +kernel
theorem dX7_explain_31 : decode cX7_explain 31 = .ok (.iload_n 1, 1) := by decide +kernel
theorem dX7_explain_32 : decode cX7_explain 32 = .ok (.iload_n 2, 1) := by decide +kernel
theorem dX7_explain_33 : decode cX7_explain 33 = .ok (.invokevirtual 147, 3) := by decide +kernel
theorem dX7_explain_36 : decode cX7_explain 36 = .ok (.istore 4, 2) := by decide +kernel
theorem dX7_explain_38 : decode cX7_explain 38 = .ok (.iload_n 3, 1) := by decide +kernel
theorem dX7_explain_39 : decode cX7_explain 39 = .ok (.ifCond .ne 16, 3) := by decide +kernel
theorem dX7_explain_42 : decode cX7_explain 42 = .ok (.iload 4, 2) := by decide +kernel
theorem dX7_explain_44 : decode cX7_explain 44 = .ok (.ifCond .ge 8, 3) := by decide +kernel
theorem dX7_explain_47 : decode cX7_explain 47 = .ok (.bipush (-5), 2) := by decide +kernel
theorem dX7_explain_49 : decode cX7_explain 49 = .ok (.goto 5, 3) := by decide +kernel
theorem dX7_explain_52 : decode cX7_explain 52 = .ok (.iload 4, 2) := by decide +kernel
theorem dX7_explain_54 : decode cX7_explain 54 = .ok (.ireturn, 1) := by decide +kernel
theorem dX7_explain_55 : decode cX7_explain 55 = .ok (.iload 4, 2) := by decide +kernel
theorem dX7_explain_57 : decode cX7_explain 57 = .ok (.ifCond .ge 9, 3) := by decide +kernel
theorem dX7_explain_60 : decode cX7_explain 60 = .ok (.iload_n 2, 1) := by decide +kernel
theorem dX7_explain_61 : decode cX7_explain 61 = .ok (.iload_n 1, 1) := by decide +kernel
theorem dX7_explain_62 : decode cX7_explain 62 = .ok (.isub, 1) := by decide +kernel
theorem dX7_explain_63 : decode cX7_explain 63 = .ok (.goto 28, 3) := by decide +kernel
theorem dX7_explain_66 : decode cX7_explain 66 = .ok (.aload_n 0, 1) := by decide +kernel
theorem dX7_explain_67 : decode cX7_explain 67 = .ok (.getfield 38, 3) := by decide +kernel
theorem dX7_explain_70 : decode cX7_explain 70 = .ok (.bipush 9, 2) := by decide +kernel
theorem dX7_explain_72 : decode cX7_explain 72 = .ok (.iload_n 1, 1) := by decide +kernel
theorem dX7_explain_73 : decode cX7_explain 73 = .ok (.imul, 1) := by decide +kernel
theorem dX7_explain_74 : decode cX7_explain 74 = .ok (.iload 4, 2) := by decide +kernel
theorem dX7_explain_76 : decode cX7_explain 76 = .ok (.iadd, 1) := by decide +kernel
theorem dX7_explain_77 : decode cX7_explain 77 = .ok (.iaload, 1) := by decide +kernel
theorem dX7_explain_78 : decode cX7_explain 78 = .ok (.aload_n 0, 1) := by decide +kernel
theorem dX7_explain_79 : decode cX7_explain 79 = .ok (.getfield 38, 3) := by decide +kernel
theorem dX7_explain_82 : decode cX7_explain 82 = .ok (.bipush 9, 2) := by decide +kernel
theorem dX7_explain_84 : decode cX7_explain 84 = .ok (.iload_n 2, 1) := by decide +kernel
theorem dX7_explain_85 : decode cX7_explain 85 = .ok (.imul, 1) := by decide +kernel
theorem dX7_explain_86 : decode cX7_explain 86 = .ok (.iload 4, 2) := by decide +kernel
theorem dX7_explain_88 : decode cX7_explain 88 = .ok (.iadd, 1) := by decide +kernel
theorem dX7_explain_89 : decode cX7_explain 89 = .ok (.iaload, 1) := by decide +kernel
theorem dX7_explain_90 : decode cX7_explain 90 = .ok (.isub, 1) := by decide +kernel
theorem dX7_explain_91 : decode cX7_explain 91 = .ok (.ireturn, 1) := by decide +kernel
theorem dX7_met_0 : decode cX7_met 0 = .ok (.aload_n 0, 1) := by decide +kernel
theorem dX7_met_1 : decode cX7_met 1 = .ok (.iconst 0, 1) := by decide +kernel
theorem dX7_met_2 : decode cX7_met 2 = .ok (.putfield 75, 3) := by decide +kernel
theorem dX7_met_5 : decode cX7_met 5 = .ok (.aload_n 0, 1) := by decide +kernel
theorem dX7_met_6 : decode cX7_met 6 = .ok (.iload_n 1, 1) := by decide +kernel
theorem dX7_met_7 : decode cX7_met 7 = .ok (.iload_n 2, 1) := by decide +kernel
theorem dX7_met_8 : decode cX7_met 8 = .ok (.invokevirtual 220, 3) := by decide +kernel
theorem dX7_met_11 : decode cX7_met 11 = .ok (.ifCond .eq 12, 3) := by decide +kernel
theorem dX7_met_14 : decode cX7_met 14 = .ok (.aload_n 0, 1) := by decide +kernel
theorem dX7_met_15 : decode cX7_met 15 = .ok (.iload_n 1, 1) := by decide +kernel
theorem dX7_met_16 : decode cX7_met 16 = .ok (.iload_n 2, 1) := by decide +kernel
theorem dX7_met_17 : decode cX7_met 17 = .ok (.invokevirtual 187, 3) := by decide +kernel
theorem dX7_met_20 : decode cX7_met 20 = .ok (.goto 4, 3) := by decide +kernel
theorem dX7_met_23 : decode cX7_met 23 = .ok (.iconst (-1), 1) := by decide +kernel
theorem dX7_met_24 : decode cX7_met 24 = .ok (.ireturn, 1) := by decide +kernel
theorem dX7_cost_0 : decode cX7_cost 0 = .ok (.aload_n 0, 1) := by decide +kernel
theorem dX7_cost_1 : decode cX7_cost 1 = .ok (.iconst 0, 1) := by decide +kernel
theorem dX7_cost_2 : decode cX7_cost 2 = .ok (.putfield 75, 3) := by decide +kernel
theorem dX7_cost_5 : decode cX7_cost 5 = .ok (.aload_n 0, 1) := by decide +kernel
theorem dX7_cost_6 : decode cX7_cost 6 = .ok (.iload_n 1, 1) := by decide +kernel
theorem dX7_cost_7 : decode cX7_cost 7 = .ok (.iload_n 2, 1) := by decide +kernel
theorem dX7_cost_8 : decode cX7_cost 8 = .ok (.invokevirtual 220, 3) := by decide +kernel
theorem dX7_cost_11 : decode cX7_cost 11 = .ok (.ifCond .ne 7, 3) := by decide +kernel
theorem dX7_cost_14 : decode cX7_cost 14 = .ok (.iconst (-1), 1) := by decide +kernel
theorem dX7_cost_15 : decode cX7_cost 15 = .ok (.goto 23, 3) := by decide +kernel
theorem dX7_cost_18 : decode cX7_cost 18 = .ok (.aload_n 0, 1) := by decide +kernel
theorem dX7_cost_19 : decode cX7_cost 19 = .ok (.iload_n 1, 1) := by decide +kernel
theorem dX7_cost_20 : decode cX7_cost 20 = .ok (.iload_n 2, 1) := by decide +kernel
theorem dX7_cost_21 : decode cX7_cost 21 = .ok (.invokevirtual 187, 3) := by decide +kernel
theorem dX7_cost_24 : decode cX7_cost 24 = .ok (.ifCond .lt 8, 3) := by decide +kernel
theorem dX7_cost_27 : decode cX7_cost 27 = .ok (.bipush (-5), 2) := by decide +kernel
theorem dX7_cost_29 : decode cX7_cost 29 = .ok (.goto 9, 3) := by decide +kernel
theorem dX7_cost_32 : decode cX7_cost 32 = .ok (.aload_n 0, 1) := by decide +kernel
theorem dX7_cost_33 : decode cX7_cost 33 = .ok (.iload_n 1, 1) := by decide +kernel
theorem dX7_cost_34 : decode cX7_cost 34 = .ok (.iload_n 2, 1) := by decide +kernel
theorem dX7_cost_35 : decode cX7_cost 35 = .ok (.invokevirtual 190, 3) := by decide +kernel
theorem dX7_cost_38 : decode cX7_cost 38 = .ok (.ireturn, 1) := by decide +kernel
theorem dX7_direct_0 : decode cX7_direct 0 = .ok (.aload_n 0, 1) := by decide +kernel
theorem dX7_direct_1 : decode cX7_direct 1 = .ok (.iconst 0, 1) := by decide +kernel
theorem dX7_direct_2 : decode cX7_direct 2 = .ok (.putfield 75, 3) := by decide +kernel
theorem dX7_direct_5 : decode cX7_direct 5 = .ok (.aload_n 0, 1) := by decide +kernel
theorem dX7_direct_6 : decode cX7_direct 6 = .ok (.iload_n 1, 1) := by decide +kernel
theorem dX7_direct_7 : decode cX7_direct 7 = .ok (.iload_n 2, 1) := by decide +kernel
theorem dX7_direct_8 : decode cX7_direct 8 = .ok (.invokevirtual 220, 3) := by decide +kernel
theorem dX7_direct_11 : decode cX7_direct 11 = .ok (.ifCond .ne 5, 3) := by decide +kernel
theorem dX7_direct_14 : decode cX7_direct 14 = .ok (.iconst (-1), 1) := by decide +kernel
theorem dX7_direct_15 : decode cX7_direct 15 = .ok (.ireturn, 1) := by decide +kernel
theorem dX7_direct_16 : decode cX7_direct 16 = .ok (.aload_n 0, 1) := by decide +kernel
theorem dX7_direct_17 : decode cX7_direct 17 = .ok (.iload_n 1, 1) := by decide +kernel
theorem dX7_direct_18 : decode cX7_direct 18 = .ok (.iload_n 2, 1) := by decide +kernel
theorem dX7_direct_19 : decode cX7_direct 19 = .ok (.invokevirtual 187, 3) := by decide +kernel
theorem dX7_direct_22 : decode cX7_direct 22 = .ok (.istore_n 3, 1) := by decide +kernel
theorem dX7_direct_23 : decode cX7_direct 23 = .ok (.iload_n 3, 1) := by decide +kernel
theorem dX7_direct_24 : decode cX7_direct 24 = .ok (.ifCond .ge 7, 3) := by decide +kernel
theorem dX7_direct_27 : decode cX7_direct 27 = .ok (.iconst 0, 1) := by decide +kernel
theorem dX7_direct_28 : decode cX7_direct 28 = .ok (.goto 14, 3) := by decide +kernel
theorem dX7_direct_31 : decode cX7_direct 31 = .ok (.aload_n 0, 1) := by decide +kernel
theorem dX7_direct_32 : decode cX7_direct 32 = .ok (.aload_n 0, 1) := by decide +kernel
theorem dX7_direct_33 : decode cX7_direct 33 = .ok (.iload_n 1, 1) := by decide +kernel
theorem dX7_direct_34 : decode cX7_direct 34 = .ok (.iload_n 3, 1) := by decide +kernel
theorem dX7_direct_35 : decode cX7_direct 35 = .ok (.invokevirtual 114, 3) := by decide +kernel
theorem dX7_direct_38 : decode cX7_direct 38 = .ok (.iload_n 1, 1) := by decide +kernel
theorem dX7_direct_39 : decode cX7_direct 39 = .ok (.invokevirtual 105, 3) := by decide +kernel
theorem dX7_direct_42 : decode cX7_direct 42 = .ok (.ireturn, 1) := by decide +kernel
theorem dX7_divisor_0 : decode cX7_divisor 0 = .ok (.iload_n 0, 1) := by decide +kernel
theorem dX7_divisor_1 : decode cX7_divisor 1 = .ok (.istore_n 2, 1) := by decide +kernel
theorem dX7_divisor_2 : decode cX7_divisor 2 = .ok (.iload_n 1, 1) := by decide +kernel
theorem dX7_divisor_3 : decode cX7_divisor 3 = .ok (.istore_n 3, 1) := by decide +kernel
theorem dX7_divisor_4 : decode cX7_divisor 4 = .ok (.iload_n 3, 1) := by decide +kernel
theorem dX7_divisor_5 : decode cX7_divisor 5 = .ok (.ifCond .eq 16, 3) := by decide +kernel
theorem dX7_divisor_8 : decode cX7_divisor 8 = .ok (.iload_n 2, 1) := by decide +kernel
theorem dX7_divisor_9 : decode cX7_divisor 9 = .ok (.iload_n 3, 1) := by decide +kernel
theorem dX7_divisor_10 : decode cX7_divisor 10 = .ok (.irem, 1) := by decide +kernel
theorem dX7_divisor_11 : decode cX7_divisor 11 = .ok (.istore 4, 2) := by decide +kernel
theorem dX7_divisor_13 : decode cX7_divisor 13 = .ok (.iload_n 3, 1) := by decide +kernel
theorem dX7_divisor_14 : decode cX7_divisor 14 = .ok (.istore_n 2, 1) := by decide +kernel
theorem dX7_divisor_15 : decode cX7_divisor 15 = .ok (.iload 4, 2) := by decide +kernel
theorem dX7_divisor_17 : decode cX7_divisor 17 = .ok (.istore_n 3, 1) := by decide +kernel
theorem dX7_divisor_18 : decode cX7_divisor 18 = .ok (.goto (-14), 3) := by decide +kernel
theorem dX7_divisor_21 : decode cX7_divisor 21 = .ok (.iload_n 2, 1) := by decide +kernel
theorem dX7_divisor_22 : decode cX7_divisor 22 = .ok (.ireturn, 1) := by decide +kernel
theorem dX7_average_0 : decode cX7_average 0 = .ok (.aload_n 0, 1) := by decide +kernel
theorem dX7_average_1 : decode cX7_average 1 = .ok (.iconst 0, 1) := by decide +kernel
theorem dX7_average_2 : decode cX7_average 2 = .ok (.putfield 75, 3) := by decide +kernel
theorem dX7_average_5 : decode cX7_average 5 = .ok (.aload_n 0, 1) := by decide +kernel
theorem dX7_average_6 : decode cX7_average 6 = .ok (.iload_n 1, 1) := by decide +kernel
theorem dX7_average_7 : decode cX7_average 7 = .ok (.invokevirtual 85, 3) := by decide +kernel
theorem dX7_average_10 : decode cX7_average 10 = .ok (.ifCond .eq 13, 3) := by decide +kernel
theorem dX7_average_13 : decode cX7_average 13 = .ok (.iload_n 2, 1) := by decide +kernel
theorem dX7_average_14 : decode cX7_average 14 = .ok (.i2l, 1) := by decide +kernel
theorem dX7_average_15 : decode cX7_average 15 = .ok (.lconst 0, 1) := by decide +kernel
theorem dX7_average_16 : decode cX7_average 16 = .ok (.lconst 1, 1) := by decide +kernel
theorem dX7_average_17 : decode cX7_average 17 = .ok (.invokestatic 81, 3) := by decide +kernel
theorem dX7_average_20 : decode cX7_average 20 = .ok (.ifCond .ne 5, 3) := by decide +kernel
theorem dX7_average_23 : decode cX7_average 23 = .ok (.iconst (-1), 1) := by decide +kernel
theorem dX7_average_24 : decode cX7_average 24 = .ok (.ireturn, 1) := by decide +kernel
theorem dX7_average_25 : decode cX7_average 25 = .ok (.iconst 0, 1) := by decide +kernel
theorem dX7_average_26 : decode cX7_average 26 = .ok (.istore_n 3, 1) := by decide +kernel
theorem dX7_average_27 : decode cX7_average 27 = .ok (.aload_n 0, 1) := by decide +kernel
theorem dX7_average_28 : decode cX7_average 28 = .ok (.iload_n 1, 1) := by decide +kernel
theorem dX7_average_29 : decode cX7_average 29 = .ok (.invokevirtual 120, 3) := by decide +kernel
theorem dX7_average_32 : decode cX7_average 32 = .ok (.istore 4, 2) := by decide +kernel
theorem dX7_average_34 : decode cX7_average 34 = .ok (.iconst 0, 1) := by decide +kernel
theorem dX7_average_35 : decode cX7_average 35 = .ok (.istore 5, 2) := by decide +kernel
theorem dX7_average_37 : decode cX7_average 37 = .ok (.iload 5, 2) := by decide +kernel
theorem dX7_average_39 : decode cX7_average 39 = .ok (.aload_n 0, 1) := by decide +kernel
theorem dX7_average_40 : decode cX7_average 40 = .ok (.invokevirtual 99, 3) := by decide +kernel
theorem dX7_average_43 : decode cX7_average 43 = .ok (.if_icmp .ge 42, 3) := by decide +kernel
theorem dX7_average_46 : decode cX7_average 46 = .ok (.aload_n 0, 1) := by decide +kernel
theorem dX7_average_47 : decode cX7_average 47 = .ok (.iload_n 1, 1) := by decide +kernel
theorem dX7_average_48 : decode cX7_average 48 = .ok (.iload 5, 2) := by decide +kernel
theorem dX7_average_50 : decode cX7_average 50 = .ok (.invokevirtual 114, 3) := by decide +kernel
theorem dX7_average_53 : decode cX7_average 53 = .ok (.istore 6, 2) := by decide +kernel
theorem dX7_average_55 : decode cX7_average 55 = .ok (.iload_n 3, 1) := by decide +kernel
theorem dX7_average_56 : decode cX7_average 56 = .ok (.iload 6, 2) := by decide +kernel
theorem dX7_average_58 : decode cX7_average 58 = .ok (.ifCond .lt 18, 3) := by decide +kernel
theorem dX7_average_61 : decode cX7_average 61 = .ok (.aload_n 0, 1) := by decide +kernel
theorem dX7_average_62 : decode cX7_average 62 = .ok (.getfield 7, 3) := by decide +kernel
theorem dX7_average_65 : decode cX7_average 65 = .ok (.aload_n 0, 1) := by decide +kernel
theorem dX7_average_66 : decode cX7_average 66 = .ok (.iload 6, 2) := by decide +kernel
theorem dX7_average_68 : decode cX7_average 68 = .ok (.iload_n 1, 1) := by decide +kernel
theorem dX7_average_69 : decode cX7_average 69 = .ok (.invokevirtual 117, 3) := by decide +kernel
theorem dX7_average_72 : decode cX7_average 72 = .ok (.iaload, 1) := by decide +kernel
theorem dX7_average_73 : decode cX7_average 73 = .ok (.goto 4, 3) := by decide +kernel
theorem dX7_average_76 : decode cX7_average 76 = .ok (.iconst 0, 1) := by decide +kernel
theorem dX7_average_77 : decode cX7_average 77 = .ok (.iadd, 1) := by decide +kernel
theorem dX7_average_78 : decode cX7_average 78 = .ok (.istore_n 3, 1) := by decide +kernel
theorem dX7_average_79 : decode cX7_average 79 = .ok (.iinc 5 1, 3) := by decide +kernel
theorem dX7_average_82 : decode cX7_average 82 = .ok (.goto (-45), 3) := by decide +kernel
theorem dX7_average_85 : decode cX7_average 85 = .ok (.iload 4, 2) := by decide +kernel
theorem dX7_average_87 : decode cX7_average 87 = .ok (.ifCond .ne 7, 3) := by decide +kernel
theorem dX7_average_90 : decode cX7_average 90 = .ok (.iconst 1, 1) := by decide +kernel
theorem dX7_average_91 : decode cX7_average 91 = .ok (.goto 5, 3) := by decide +kernel
theorem dX7_average_94 : decode cX7_average 94 = .ok (.iload 4, 2) := by decide +kernel
theorem dX7_average_96 : decode cX7_average 96 = .ok (.istore 4, 2) := by decide +kernel
theorem dX7_average_98 : decode cX7_average 98 = .ok (.iload_n 3, 1) := by decide +kernel
theorem dX7_average_99 : decode cX7_average 99 = .ok (.iload 4, 2) := by decide +kernel
theorem dX7_average_101 : decode cX7_average 101 = .ok (.invokestatic 223, 3) := by decide +kernel
theorem dX7_average_104 : decode cX7_average 104 = .ok (.istore 5, 2) := by decide +kernel
theorem dX7_average_106 : decode cX7_average 106 = .ok (.iload_n 2, 1) := by decide +kernel
theorem dX7_average_107 : decode cX7_average 107 = .ok (.ifCond .ne 10, 3) := by decide +kernel
theorem dX7_average_110 : decode cX7_average 110 = .ok (.iload_n 3, 1) := by decide +kernel
theorem dX7_average_111 : decode cX7_average 111 = .ok (.iload 5, 2) := by decide +kernel
theorem dX7_average_113 : decode cX7_average 113 = .ok (.idiv, 1) := by decide +kernel
theorem dX7_average_114 : decode cX7_average 114 = .ok (.goto 8, 3) := by decide +kernel
theorem dX7_average_117 : decode cX7_average 117 = .ok (.iload 4, 2) := by decide +kernel
theorem dX7_average_119 : decode cX7_average 119 = .ok (.iload 5, 2) := by decide +kernel
theorem dX7_average_121 : decode cX7_average 121 = .ok (.idiv, 1) := by decide +kernel
theorem dX7_average_122 : decode cX7_average 122 = .ok (.ireturn, 1) := by decide +kernel
theorem dX7_alike_0 : decode cX7_alike 0 = .ok (.aload_n 0, 1) := by decide +kernel
theorem dX7_alike_1 : decode cX7_alike 1 = .ok (.iconst 0, 1) := by decide +kernel
theorem dX7_alike_2 : decode cX7_alike 2 = .ok (.putfield 75, 3) := by decide +kernel
theorem dX7_alike_5 : decode cX7_alike 5 = .ok (.aload_n 0, 1) := by decide +kernel
theorem dX7_alike_6 : decode cX7_alike 6 = .ok (.iload_n 1, 1) := by decide +kernel
theorem dX7_alike_7 : decode cX7_alike 7 = .ok (.invokevirtual 85, 3) := by decide +kernel
theorem dX7_alike_10 : decode cX7_alike 10 = .ok (.ifCond .ne 5, 3) := by decide +kernel
theorem dX7_alike_13 : decode cX7_alike 13 = .ok (.iconst (-1), 1) := by decide +kernel
theorem dX7_alike_14 : decode cX7_alike 14 = .ok (.ireturn, 1) := by decide +kernel
theorem dX7_alike_15 : decode cX7_alike 15 = .ok (.aload_n 0, 1) := by decide +kernel
theorem dX7_alike_16 : decode cX7_alike 16 = .ok (.invokevirtual 178, 3) := by decide +kernel
theorem dX7_alike_19 : decode cX7_alike 19 = .ok (.iconst 0, 1) := by decide +kernel
theorem dX7_alike_20 : decode cX7_alike 20 = .ok (.istore_n 2, 1) := by decide +kernel
theorem dX7_alike_21 : decode cX7_alike 21 = .ok (.iconst 0, 1) := by decide +kernel
theorem dX7_alike_22 : decode cX7_alike 22 = .ok (.istore_n 3, 1) := by decide +kernel
theorem dX7_alike_23 : decode cX7_alike 23 = .ok (.iload_n 3, 1) := by decide +kernel
theorem dX7_alike_24 : decode cX7_alike 24 = .ok (.aload_n 0, 1) := by decide +kernel
theorem dX7_alike_25 : decode cX7_alike 25 = .ok (.getfield 78, 3) := by decide +kernel
theorem dX7_alike_28 : decode cX7_alike 28 = .ok (.if_icmp .ge 35, 3) := by decide +kernel
theorem dX7_alike_31 : decode cX7_alike 31 = .ok (.iload_n 2, 1) := by decide +kernel
theorem dX7_alike_32 : decode cX7_alike 32 = .ok (.aload_n 0, 1) := by decide +kernel
theorem dX7_alike_33 : decode cX7_alike 33 = .ok (.iload_n 3, 1) := by decide +kernel
theorem dX7_alike_34 : decode cX7_alike 34 = .ok (.invokevirtual 128, 3) := by decide +kernel
theorem dX7_alike_37 : decode cX7_alike 37 = .ok (.aload_n 0, 1) := by decide +kernel
theorem dX7_alike_38 : decode cX7_alike 38 = .ok (.aload_n 0, 1) := by decide +kernel
theorem dX7_alike_39 : decode cX7_alike 39 = .ok (.getfield 41, 3) := by decide +kernel
theorem dX7_alike_42 : decode cX7_alike 42 = .ok (.iload_n 1, 1) := by decide +kernel
theorem dX7_alike_43 : decode cX7_alike 43 = .ok (.iaload, 1) := by decide +kernel
theorem dX7_alike_44 : decode cX7_alike 44 = .ok (.invokevirtual 128, 3) := by decide +kernel
theorem dX7_alike_47 : decode cX7_alike 47 = .ok (.if_icmp .ne 7, 3) := by decide +kernel
theorem dX7_alike_50 : decode cX7_alike 50 = .ok (.iconst 1, 1) := by decide +kernel
theorem dX7_alike_51 : decode cX7_alike 51 = .ok (.goto 4, 3) := by decide +kernel
theorem dX7_alike_54 : decode cX7_alike 54 = .ok (.iconst 0, 1) := by decide +kernel
theorem dX7_alike_55 : decode cX7_alike 55 = .ok (.iadd, 1) := by decide +kernel
theorem dX7_alike_56 : decode cX7_alike 56 = .ok (.istore_n 2, 1) := by decide +kernel
theorem dX7_alike_57 : decode cX7_alike 57 = .ok (.iinc 3 1, 3) := by decide +kernel
theorem dX7_alike_60 : decode cX7_alike 60 = .ok (.goto (-37), 3) := by decide +kernel
theorem dX7_alike_63 : decode cX7_alike 63 = .ok (.iload_n 2, 1) := by decide +kernel
theorem dX7_alike_64 : decode cX7_alike 64 = .ok (.ireturn, 1) := by decide +kernel
theorem dX7_colours_0 : decode cX7_colours 0 = .ok (.aload_n 0, 1) := by decide +kernel
theorem dX7_colours_1 : decode cX7_colours 1 = .ok (.iconst 0, 1) := by decide +kernel
theorem dX7_colours_2 : decode cX7_colours 2 = .ok (.putfield 75, 3) := by decide +kernel
theorem dX7_colours_5 : decode cX7_colours 5 = .ok (.iload_n 1, 1) := by decide +kernel
theorem dX7_colours_6 : decode cX7_colours 6 = .ok (.i2l, 1) := by decide +kernel
theorem dX7_colours_7 : decode cX7_colours 7 = .ok (.lconst 0, 1) := by decide +kernel
theorem dX7_colours_8 : decode cX7_colours 8 = .ok (.ldc2_w 226, 3) := by decide +kernel
theorem dX7_colours_11 : decode cX7_colours 11 = .ok (.invokestatic 81, 3) := by decide +kernel
theorem dX7_colours_14 : decode cX7_colours 14 = .ok (.ifCond .ne 5, 3) := by decide +kernel
theorem dX7_colours_17 : decode cX7_colours 17 = .ok (.iconst (-1), 1) := by decide +kernel
theorem dX7_colours_18 : decode cX7_colours 18 = .ok (.ireturn, 1) := by decide +kernel
theorem dX7_colours_19 : decode cX7_colours 19 = .ok (.iconst 0, 1) := by decide +kernel
theorem dX7_colours_20 : decode cX7_colours 20 = .ok (.istore_n 2, 1) := by decide +kernel
theorem dX7_colours_21 : decode cX7_colours 21 = .ok (.iconst 0, 1) := by decide +kernel
theorem dX7_colours_22 : decode cX7_colours 22 = .ok (.istore_n 3, 1) := by decide +kernel
theorem dX7_colours_23 : decode cX7_colours 23 = .ok (.iload_n 3, 1) := by decide +kernel
theorem dX7_colours_24 : decode cX7_colours 24 = .ok (.aload_n 0, 1) := by decide +kernel
theorem dX7_colours_25 : decode cX7_colours 25 = .ok (.getfield 78, 3) := by decide +kernel
theorem dX7_colours_28 : decode cX7_colours 28 = .ok (.if_icmp .ge 60, 3) := by decide +kernel
theorem dX7_colours_31 : decode cX7_colours 31 = .ok (.aload_n 0, 1) := by decide +kernel
theorem dX7_colours_32 : decode cX7_colours 32 = .ok (.iload_n 3, 1) := by decide +kernel
theorem dX7_colours_33 : decode cX7_colours 33 = .ok (.invokevirtual 160, 3) := by decide +kernel
theorem dX7_colours_36 : decode cX7_colours 36 = .ok (.istore 4, 2) := by decide +kernel
theorem dX7_colours_38 : decode cX7_colours 38 = .ok (.iload_n 2, 1) := by decide +kernel
theorem dX7_colours_39 : decode cX7_colours 39 = .ok (.iload_n 1, 1) := by decide +kernel
theorem dX7_colours_40 : decode cX7_colours 40 = .ok (.ifCond .ne 8, 3) := by decide +kernel
theorem dX7_colours_43 : decode cX7_colours 43 = .ok (.iload 4, 2) := by decide +kernel
theorem dX7_colours_45 : decode cX7_colours 45 = .ok (.ifCond .gt 30, 3) := by decide +kernel
theorem dX7_colours_48 : decode cX7_colours 48 = .ok (.iload_n 1, 1) := by decide +kernel
theorem dX7_colours_49 : decode cX7_colours 49 = .ok (.iconst 1, 1) := by decide +kernel
theorem dX7_colours_50 : decode cX7_colours 50 = .ok (.if_icmp .ne 8, 3) := by decide +kernel
theorem dX7_colours_53 : decode cX7_colours 53 = .ok (.iload 4, 2) := by decide +kernel
theorem dX7_colours_55 : decode cX7_colours 55 = .ok (.ifCond .lt 20, 3) := by decide +kernel
theorem dX7_colours_58 : decode cX7_colours 58 = .ok (.iload_n 1, 1) := by decide +kernel
theorem dX7_colours_59 : decode cX7_colours 59 = .ok (.iconst 2, 1) := by decide +kernel
theorem dX7_colours_60 : decode cX7_colours 60 = .ok (.if_icmp .ne 19, 3) := by decide +kernel
theorem dX7_colours_63 : decode cX7_colours 63 = .ok (.iload 4, 2) := by decide +kernel
theorem dX7_colours_65 : decode cX7_colours 65 = .ok (.iconst 1, 1) := by decide +kernel
theorem dX7_colours_66 : decode cX7_colours 66 = .ok (.if_icmp .gt 9, 3) := by decide +kernel
theorem dX7_colours_69 : decode cX7_colours 69 = .ok (.iload 4, 2) := by decide +kernel
theorem dX7_colours_71 : decode cX7_colours 71 = .ok (.iconst (-1), 1) := by decide +kernel
theorem dX7_colours_72 : decode cX7_colours 72 = .ok (.if_icmp .ge 7, 3) := by decide +kernel
theorem dX7_colours_75 : decode cX7_colours 75 = .ok (.iconst 1, 1) := by decide +kernel
theorem dX7_colours_76 : decode cX7_colours 76 = .ok (.goto 4, 3) := by decide +kernel
theorem dX7_colours_79 : decode cX7_colours 79 = .ok (.iconst 0, 1) := by decide +kernel
theorem dX7_colours_80 : decode cX7_colours 80 = .ok (.iadd, 1) := by decide +kernel
theorem dX7_colours_81 : decode cX7_colours 81 = .ok (.istore_n 2, 1) := by decide +kernel
theorem dX7_colours_82 : decode cX7_colours 82 = .ok (.iinc 3 1, 3) := by decide +kernel
theorem dX7_colours_85 : decode cX7_colours 85 = .ok (.goto (-62), 3) := by decide +kernel
theorem dX7_colours_88 : decode cX7_colours 88 = .ok (.iload_n 2, 1) := by decide +kernel
theorem dX7_colours_89 : decode cX7_colours 89 = .ok (.ireturn, 1) := by decide +kernel
theorem dX7_board_0 : decode cX7_board 0 = .ok (.aload_n 0, 1) := by decide +kernel
theorem dX7_board_1 : decode cX7_board 1 = .ok (.iconst 0, 1) := by decide +kernel
theorem dX7_board_2 : decode cX7_board 2 = .ok (.putfield 75, 3) := by decide +kernel
theorem dX7_board_5 : decode cX7_board 5 = .ok (.iload_n 1, 1) := by decide +kernel
theorem dX7_board_6 : decode cX7_board 6 = .ok (.i2l, 1) := by decide +kernel
theorem dX7_board_7 : decode cX7_board 7 = .ok (.lconst 0, 1) := by decide +kernel
theorem dX7_board_8 : decode cX7_board 8 = .ok (.aload_n 0, 1) := by decide +kernel
theorem dX7_board_9 : decode cX7_board 9 = .ok (.getfield 89, 3) := by decide +kernel
theorem dX7_board_12 : decode cX7_board 12 = .ok (.iconst 1, 1) := by decide +kernel
theorem dX7_board_13 : decode cX7_board 13 = .ok (.isub, 1) := by decide +kernel
theorem dX7_board_14 : decode cX7_board 14 = .ok (.i2l, 1) := by decide +kernel
theorem dX7_board_15 : decode cX7_board 15 = .ok (.invokestatic 81, 3) := by decide +kernel
theorem dX7_board_18 : decode cX7_board 18 = .ok (.ifCond .eq 15, 3) := by decide +kernel
theorem dX7_board_21 : decode cX7_board 21 = .ok (.iload_n 3, 1) := by decide +kernel
theorem dX7_board_22 : decode cX7_board 22 = .ok (.i2l, 1) := by decide +kernel
theorem dX7_board_23 : decode cX7_board 23 = .ok (.lconst 0, 1) := by decide +kernel
theorem dX7_board_24 : decode cX7_board 24 = .ok (.ldc2_w 226, 3) := by decide +kernel
theorem dX7_board_27 : decode cX7_board 27 = .ok (.invokestatic 81, 3) := by decide +kernel
theorem dX7_board_30 : decode cX7_board 30 = .ok (.ifCond .ne 5, 3) := by decide +kernel
theorem dX7_board_33 : decode cX7_board 33 = .ok (.iconst (-1), 1) := by decide +kernel
theorem dX7_board_34 : decode cX7_board 34 = .ok (.ireturn, 1) := by decide +kernel
theorem dX7_board_35 : decode cX7_board 35 = .ok (.iload_n 2, 1) := by decide +kernel
theorem dX7_board_36 : decode cX7_board 36 = .ok (.i2l, 1) := by decide +kernel
theorem dX7_board_37 : decode cX7_board 37 = .ok (.lconst 0, 1) := by decide +kernel
theorem dX7_board_38 : decode cX7_board 38 = .ok (.aload_n 0, 1) := by decide +kernel
theorem dX7_board_39 : decode cX7_board 39 = .ok (.getfield 16, 3) := by decide +kernel
theorem dX7_board_42 : decode cX7_board 42 = .ok (.iload_n 1, 1) := by decide +kernel
theorem dX7_board_43 : decode cX7_board 43 = .ok (.iaload, 1) := by decide +kernel
theorem dX7_board_44 : decode cX7_board 44 = .ok (.iconst 1, 1) := by decide +kernel
theorem dX7_board_45 : decode cX7_board 45 = .ok (.isub, 1) := by decide +kernel
theorem dX7_board_46 : decode cX7_board 46 = .ok (.i2l, 1) := by decide +kernel
theorem dX7_board_47 : decode cX7_board 47 = .ok (.invokestatic 81, 3) := by decide +kernel
theorem dX7_board_50 : decode cX7_board 50 = .ok (.ifCond .ne 5, 3) := by decide +kernel
theorem dX7_board_53 : decode cX7_board 53 = .ok (.iconst (-1), 1) := by decide +kernel
theorem dX7_board_54 : decode cX7_board 54 = .ok (.ireturn, 1) := by decide +kernel
theorem dX7_board_55 : decode cX7_board 55 = .ok (.iload_n 3, 1) := by decide +kernel
theorem dX7_board_56 : decode cX7_board 56 = .ok (.ifCond .ne 17, 3) := by decide +kernel
theorem dX7_board_59 : decode cX7_board 59 = .ok (.aload_n 0, 1) := by decide +kernel
theorem dX7_board_60 : decode cX7_board 60 = .ok (.getfield 22, 3) := by decide +kernel
theorem dX7_board_63 : decode cX7_board 63 = .ok (.bipush 6, 2) := by decide +kernel
theorem dX7_board_65 : decode cX7_board 65 = .ok (.iload_n 1, 1) := by decide +kernel
theorem dX7_board_66 : decode cX7_board 66 = .ok (.imul, 1) := by decide +kernel
theorem dX7_board_67 : decode cX7_board 67 = .ok (.iload_n 2, 1) := by decide +kernel
theorem dX7_board_68 : decode cX7_board 68 = .ok (.iadd, 1) := by decide +kernel
theorem dX7_board_69 : decode cX7_board 69 = .ok (.iaload, 1) := by decide +kernel
theorem dX7_board_70 : decode cX7_board 70 = .ok (.goto 33, 3) := by decide +kernel
theorem dX7_board_73 : decode cX7_board 73 = .ok (.iload_n 3, 1) := by decide +kernel
theorem dX7_board_74 : decode cX7_board 74 = .ok (.iconst 1, 1) := by decide +kernel
theorem dX7_board_75 : decode cX7_board 75 = .ok (.if_icmp .ne 17, 3) := by decide +kernel
theorem dX7_board_78 : decode cX7_board 78 = .ok (.aload_n 0, 1) := by decide +kernel
theorem dX7_board_79 : decode cX7_board 79 = .ok (.getfield 25, 3) := by decide +kernel
theorem dX7_board_82 : decode cX7_board 82 = .ok (.bipush 6, 2) := by decide +kernel
theorem dX7_board_84 : decode cX7_board 84 = .ok (.iload_n 1, 1) := by decide +kernel
theorem dX7_board_85 : decode cX7_board 85 = .ok (.imul, 1) := by decide +kernel
theorem dX7_board_86 : decode cX7_board 86 = .ok (.iload_n 2, 1) := by decide +kernel
theorem dX7_board_87 : decode cX7_board 87 = .ok (.iadd, 1) := by decide +kernel
theorem dX7_board_88 : decode cX7_board 88 = .ok (.iaload, 1) := by decide +kernel
theorem dX7_board_89 : decode cX7_board 89 = .ok (.goto 14, 3) := by decide +kernel
theorem dX7_board_92 : decode cX7_board 92 = .ok (.aload_n 0, 1) := by decide +kernel
theorem dX7_board_93 : decode cX7_board 93 = .ok (.getfield 28, 3) := by decide +kernel
theorem dX7_board_96 : decode cX7_board 96 = .ok (.bipush 6, 2) := by decide +kernel
theorem dX7_board_98 : decode cX7_board 98 = .ok (.iload_n 1, 1) := by decide +kernel
theorem dX7_board_99 : decode cX7_board 99 = .ok (.imul, 1) := by decide +kernel
theorem dX7_board_100 : decode cX7_board 100 = .ok (.iload_n 2, 1) := by decide +kernel
theorem dX7_board_101 : decode cX7_board 101 = .ok (.iadd, 1) := by decide +kernel
theorem dX7_board_102 : decode cX7_board 102 = .ok (.iaload, 1) := by decide +kernel
theorem dX7_board_103 : decode cX7_board 103 = .ok (.ireturn, 1) := by decide +kernel
theorem dX7_bye_0 : decode cX7_bye 0 = .ok (.aload_n 0, 1) := by decide +kernel
theorem dX7_bye_1 : decode cX7_bye 1 = .ok (.iconst 0, 1) := by decide +kernel
theorem dX7_bye_2 : decode cX7_bye 2 = .ok (.putfield 75, 3) := by decide +kernel
theorem dX7_bye_5 : decode cX7_bye 5 = .ok (.iload_n 1, 1) := by decide +kernel
theorem dX7_bye_6 : decode cX7_bye 6 = .ok (.i2l, 1) := by decide +kernel
theorem dX7_bye_7 : decode cX7_bye 7 = .ok (.lconst 0, 1) := by decide +kernel
theorem dX7_bye_8 : decode cX7_bye 8 = .ok (.aload_n 0, 1) := by decide +kernel
theorem dX7_bye_9 : decode cX7_bye 9 = .ok (.getfield 89, 3) := by decide +kernel
theorem dX7_bye_12 : decode cX7_bye 12 = .ok (.iconst 1, 1) := by decide +kernel
theorem dX7_bye_13 : decode cX7_bye 13 = .ok (.isub, 1) := by decide +kernel
theorem dX7_bye_14 : decode cX7_bye 14 = .ok (.i2l, 1) := by decide +kernel
theorem dX7_bye_15 : decode cX7_bye 15 = .ok (.invokestatic 81, 3) := by decide +kernel
theorem dX7_bye_18 : decode cX7_bye 18 = .ok (.ifCond .eq 12, 3) := by decide +kernel
theorem dX7_bye_21 : decode cX7_bye 21 = .ok (.aload_n 0, 1) := by decide +kernel
theorem dX7_bye_22 : decode cX7_bye 22 = .ok (.getfield 19, 3) := by decide +kernel
theorem dX7_bye_25 : decode cX7_bye 25 = .ok (.iload_n 1, 1) := by decide +kernel
theorem dX7_bye_26 : decode cX7_bye 26 = .ok (.iaload, 1) := by decide +kernel
theorem dX7_bye_27 : decode cX7_bye 27 = .ok (.goto 4, 3) := by decide +kernel
theorem dX7_bye_30 : decode cX7_bye 30 = .ok (.iconst (-1), 1) := by decide +kernel
theorem dX7_bye_31 : decode cX7_bye 31 = .ok (.ireturn, 1) := by decide +kernel
theorem dX7_result_0 : decode cX7_result 0 = .ok (.aload_n 0, 1) := by decide +kernel
theorem dX7_result_1 : decode cX7_result 1 = .ok (.iconst 0, 1) := by decide +kernel
theorem dX7_result_2 : decode cX7_result 2 = .ok (.putfield 75, 3) := by decide +kernel
theorem dX7_result_5 : decode cX7_result 5 = .ok (.aload_n 0, 1) := by decide +kernel
theorem dX7_result_6 : decode cX7_result 6 = .ok (.getfield 92, 3) := by decide +kernel
theorem dX7_result_9 : decode cX7_result 9 = .ok (.ifCond .ne 6, 3) := by decide +kernel
theorem dX7_result_12 : decode cX7_result 12 = .ok (.bipush (-3), 2) := by decide +kernel
theorem dX7_result_14 : decode cX7_result 14 = .ok (.ireturn, 1) := by decide +kernel
theorem dX7_result_15 : decode cX7_result 15 = .ok (.aload_n 0, 1) := by decide +kernel
theorem dX7_result_16 : decode cX7_result 16 = .ok (.getfield 89, 3) := by decide +kernel
theorem dX7_result_19 : decode cX7_result 19 = .ok (.iconst 1, 1) := by decide +kernel
theorem dX7_result_20 : decode cX7_result 20 = .ok (.isub, 1) := by decide +kernel
theorem dX7_result_21 : decode cX7_result 21 = .ok (.istore_n 3, 1) := by decide +kernel
theorem dX7_result_22 : decode cX7_result 22 = .ok (.iload_n 1, 1) := by decide +kernel
theorem dX7_result_23 : decode cX7_result 23 = .ok (.i2l, 1) := by decide +kernel
theorem dX7_result_24 : decode cX7_result 24 = .ok (.lconst 0, 1) := by decide +kernel
theorem dX7_result_25 : decode cX7_result 25 = .ok (.aload_n 0, 1) := by decide +kernel
theorem dX7_result_26 : decode cX7_result 26 = .ok (.getfield 16, 3) := by decide +kernel
theorem dX7_result_29 : decode cX7_result 29 = .ok (.iload_n 3, 1) := by decide +kernel
theorem dX7_result_30 : decode cX7_result 30 = .ok (.iaload, 1) := by decide +kernel
theorem dX7_result_31 : decode cX7_result 31 = .ok (.iconst 1, 1) := by decide +kernel
theorem dX7_result_32 : decode cX7_result 32 = .ok (.isub, 1) := by decide +kernel
theorem dX7_result_33 : decode cX7_result 33 = .ok (.i2l, 1) := by decide +kernel
theorem dX7_result_34 : decode cX7_result 34 = .ok (.invokestatic 81, 3) := by decide +kernel
theorem dX7_result_37 : decode cX7_result 37 = .ok (.ifCond .ne 5, 3) := by decide +kernel
theorem dX7_result_40 : decode cX7_result 40 = .ok (.iconst (-1), 1) := by decide +kernel
theorem dX7_result_41 : decode cX7_result 41 = .ok (.ireturn, 1) := by decide +kernel
theorem dX7_result_42 : decode cX7_result 42 = .ok (.iload_n 2, 1) := by decide +kernel
theorem dX7_result_43 : decode cX7_result 43 = .ok (.i2l, 1) := by decide +kernel
theorem dX7_result_44 : decode cX7_result 44 = .ok (.lconst 0, 1) := by decide +kernel
theorem dX7_result_45 : decode cX7_result 45 = .ok (.ldc2_w 228, 3) := by decide +kernel
theorem dX7_result_48 : decode cX7_result 48 = .ok (.invokestatic 81, 3) := by decide +kernel
theorem dX7_result_51 : decode cX7_result 51 = .ok (.ifCond .ne 6, 3) := by decide +kernel
theorem dX7_result_54 : decode cX7_result 54 = .ok (.bipush (-2), 2) := by decide +kernel
theorem dX7_result_56 : decode cX7_result 56 = .ok (.ireturn, 1) := by decide +kernel
theorem dX7_result_57 : decode cX7_result 57 = .ok (.aload_n 0, 1) := by decide +kernel
theorem dX7_result_58 : decode cX7_result 58 = .ok (.getfield 28, 3) := by decide +kernel
theorem dX7_result_61 : decode cX7_result 61 = .ok (.bipush 6, 2) := by decide +kernel
theorem dX7_result_63 : decode cX7_result 63 = .ok (.iload_n 3, 1) := by decide +kernel
theorem dX7_result_64 : decode cX7_result 64 = .ok (.imul, 1) := by decide +kernel
theorem dX7_result_65 : decode cX7_result 65 = .ok (.iload_n 1, 1) := by decide +kernel
theorem dX7_result_66 : decode cX7_result 66 = .ok (.iadd, 1) := by decide +kernel
theorem dX7_result_67 : decode cX7_result 67 = .ok (.iaload, 1) := by decide +kernel
theorem dX7_result_68 : decode cX7_result 68 = .ok (.istore 4, 2) := by decide +kernel
theorem dX7_result_70 : decode cX7_result 70 = .ok (.aload_n 0, 1) := by decide +kernel
theorem dX7_result_71 : decode cX7_result 71 = .ok (.getfield 28, 3) := by decide +kernel
theorem dX7_result_74 : decode cX7_result 74 = .ok (.bipush 6, 2) := by decide +kernel
theorem dX7_result_76 : decode cX7_result 76 = .ok (.iload_n 3, 1) := by decide +kernel
theorem dX7_result_77 : decode cX7_result 77 = .ok (.imul, 1) := by decide +kernel
theorem dX7_result_78 : decode cX7_result 78 = .ok (.iload_n 1, 1) := by decide +kernel
theorem dX7_result_79 : decode cX7_result 79 = .ok (.iadd, 1) := by decide +kernel
theorem dX7_result_80 : decode cX7_result 80 = .ok (.iload_n 2, 1) := by decide +kernel
theorem dX7_result_81 : decode cX7_result 81 = .ok (.iastore, 1) := by decide +kernel
theorem dX7_result_82 : decode cX7_result 82 = .ok (.iload 4, 2) := by decide +kernel
theorem dX7_result_84 : decode cX7_result 84 = .ok (.ireturn, 1) := by decide +kernel
theorem dX7_withResult_0 : decode cX7_withResult 0 = .ok (.iconst 0, 1) := by decide +kernel
theorem dX7_withResult_1 : decode cX7_withResult 1 = .ok (.istore_n 1, 1) := by decide +kernel
theorem dX7_withResult_2 : decode cX7_withResult 2 = .ok (.iconst 0, 1) := by decide +kernel
theorem dX7_withResult_3 : decode cX7_withResult 3 = .ok (.istore_n 2, 1) := by decide +kernel
theorem dX7_withResult_4 : decode cX7_withResult 4 = .ok (.iload_n 2, 1) := by decide +kernel
theorem dX7_withResult_5 : decode cX7_withResult 5 = .ok (.aload_n 0, 1) := by decide +kernel
theorem dX7_withResult_6 : decode cX7_withResult 6 = .ok (.getfield 16, 3) := by decide +kernel
theorem dX7_withResult_9 : decode cX7_withResult 9 = .ok (.aload_n 0, 1) := by decide +kernel
theorem dX7_withResult_10 : decode cX7_withResult 10 = .ok (.getfield 89, 3) := by decide +kernel
theorem dX7_withResult_13 : decode cX7_withResult 13 = .ok (.iconst 1, 1) := by decide +kernel
theorem dX7_withResult_14 : decode cX7_withResult 14 = .ok (.isub, 1) := by decide +kernel
theorem dX7_withResult_15 : decode cX7_withResult 15 = .ok (.iaload, 1) := by decide +kernel
theorem dX7_withResult_16 : decode cX7_withResult 16 = .ok (.if_icmp .ge 36, 3) := by decide +kernel
theorem dX7_withResult_19 : decode cX7_withResult 19 = .ok (.iload_n 1, 1) := by decide +kernel
theorem dX7_withResult_20 : decode cX7_withResult 20 = .ok (.aload_n 0, 1) := by decide +kernel
theorem dX7_withResult_21 : decode cX7_withResult 21 = .ok (.getfield 28, 3) := by decide +kernel
theorem dX7_withResult_24 : decode cX7_withResult 24 = .ok (.bipush 6, 2) := by decide +kernel
theorem dX7_withResult_26 : decode cX7_withResult 26 = .ok (.aload_n 0, 1) := by decide +kernel
theorem dX7_withResult_27 : decode cX7_withResult 27 = .ok (.getfield 89, 3) := by decide +kernel
theorem dX7_withResult_30 : decode cX7_withResult 30 = .ok (.iconst 1, 1) := by decide +kernel
theorem dX7_withResult_31 : decode cX7_withResult 31 = .ok (.isub, 1) := by decide +kernel
theorem dX7_withResult_32 : decode cX7_withResult 32 = .ok (.imul, 1) := by decide +kernel
theorem dX7_withResult_33 : decode cX7_withResult 33 = .ok (.iload_n 2, 1) := by decide +kernel
theorem dX7_withResult_34 : decode cX7_withResult 34 = .ok (.iadd, 1) := by decide +kernel
theorem dX7_withResult_35 : decode cX7_withResult 35 = .ok (.iaload, 1) := by decide +kernel
theorem dX7_withResult_36 : decode cX7_withResult 36 = .ok (.ifCond .le 7, 3) := by decide +kernel
theorem dX7_withResult_39 : decode cX7_withResult 39 = .ok (.iconst 1, 1) := by decide +kernel
theorem dX7_withResult_40 : decode cX7_withResult 40 = .ok (.goto 4, 3) := by decide +kernel
theorem dX7_withResult_43 : decode cX7_withResult 43 = .ok (.iconst 0, 1) := by decide +kernel
theorem dX7_withResult_44 : decode cX7_withResult 44 = .ok (.iadd, 1) := by decide +kernel
theorem dX7_withResult_45 : decode cX7_withResult 45 = .ok (.istore_n 1, 1) := by decide +kernel
theorem dX7_withResult_46 : decode cX7_withResult 46 = .ok (.iinc 2 1, 3) := by decide +kernel
theorem dX7_withResult_49 : decode cX7_withResult 49 = .ok (.goto (-45), 3) := by decide +kernel
theorem dX7_withResult_52 : decode cX7_withResult 52 = .ok (.iload_n 1, 1) := by decide +kernel
theorem dX7_withResult_53 : decode cX7_withResult 53 = .ok (.ireturn, 1) := by decide +kernel
theorem dX7_close_0 : decode cX7_close 0 = .ok (.aload_n 0, 1) := by decide +kernel
theorem dX7_close_1 : decode cX7_close 1 = .ok (.iconst 0, 1) := by decide +kernel
theorem dX7_close_2 : decode cX7_close 2 = .ok (.putfield 75, 3) := by decide +kernel
theorem dX7_close_5 : decode cX7_close 5 = .ok (.aload_n 0, 1) := by decide +kernel
theorem dX7_close_6 : decode cX7_close 6 = .ok (.getfield 92, 3) := by decide +kernel
theorem dX7_close_9 : decode cX7_close 9 = .ok (.ifCond .eq 21, 3) := by decide +kernel
theorem dX7_close_12 : decode cX7_close 12 = .ok (.aload_n 0, 1) := by decide +kernel
theorem dX7_close_13 : decode cX7_close 13 = .ok (.invokevirtual 230, 3) := by decide +kernel
theorem dX7_close_16 : decode cX7_close 16 = .ok (.aload_n 0, 1) := by decide +kernel
theorem dX7_close_17 : decode cX7_close 17 = .ok (.getfield 16, 3) := by decide +kernel
theorem dX7_close_20 : decode cX7_close 20 = .ok (.aload_n 0, 1) := by decide +kernel
theorem dX7_close_21 : decode cX7_close 21 = .ok (.getfield 89, 3) := by decide +kernel
theorem dX7_close_24 : decode cX7_close 24 = .ok (.iconst 1, 1) := by decide +kernel
theorem dX7_close_25 : decode cX7_close 25 = .ok (.isub, 1) := by decide +kernel
theorem dX7_close_26 : decode cX7_close 26 = .ok (.iaload, 1) := by decide +kernel
theorem dX7_close_27 : decode cX7_close 27 = .ok (.if_icmp .ge 6, 3) := by decide +kernel
theorem dX7_close_30 : decode cX7_close 30 = .ok (.bipush (-3), 2) := by decide +kernel
theorem dX7_close_32 : decode cX7_close 32 = .ok (.ireturn, 1) := by decide +kernel
theorem dX7_close_33 : decode cX7_close 33 = .ok (.aload_n 0, 1) := by decide +kernel
theorem dX7_close_34 : decode cX7_close 34 = .ok (.iconst 0, 1) := by decide +kernel
theorem dX7_close_35 : decode cX7_close 35 = .ok (.putfield 92, 3) := by decide +kernel
theorem dX7_close_38 : decode cX7_close 38 = .ok (.aload_n 0, 1) := by decide +kernel
theorem dX7_close_39 : decode cX7_close 39 = .ok (.getfield 89, 3) := by decide +kernel
theorem dX7_close_42 : decode cX7_close 42 = .ok (.ireturn, 1) := by decide +kernel
theorem dX7_drop_0 : decode cX7_drop 0 = .ok (.aload_n 0, 1) := by decide +kernel
theorem dX7_drop_1 : decode cX7_drop 1 = .ok (.iconst 0, 1) := by decide +kernel
theorem dX7_drop_2 : decode cX7_drop 2 = .ok (.putfield 75, 3) := by decide +kernel
theorem dX7_drop_5 : decode cX7_drop 5 = .ok (.aload_n 0, 1) := by decide +kernel
theorem dX7_drop_6 : decode cX7_drop 6 = .ok (.getfield 89, 3) := by decide +kernel
theorem dX7_drop_9 : decode cX7_drop 9 = .ok (.ifCond .ne 6, 3) := by decide +kernel
theorem dX7_drop_12 : decode cX7_drop 12 = .ok (.bipush (-3), 2) := by decide +kernel
theorem dX7_drop_14 : decode cX7_drop 14 = .ok (.ireturn, 1) := by decide +kernel
theorem dX7_drop_15 : decode cX7_drop 15 = .ok (.aload_n 0, 1) := by decide +kernel
theorem dX7_drop_16 : decode cX7_drop 16 = .ok (.dup, 1) := by decide +kernel
theorem dX7_drop_17 : decode cX7_drop 17 = .ok (.getfield 89, 3) := by decide +kernel
theorem dX7_drop_20 : decode cX7_drop 20 = .ok (.iconst 1, 1) := by decide +kernel
theorem dX7_drop_21 : decode cX7_drop 21 = .ok (.isub, 1) := by decide +kernel
theorem dX7_drop_22 : decode cX7_drop 22 = .ok (.putfield 89, 3) := by decide +kernel
theorem dX7_drop_25 : decode cX7_drop 25 = .ok (.aload_n 0, 1) := by decide +kernel
theorem dX7_drop_26 : decode cX7_drop 26 = .ok (.iconst 0, 1) := by decide +kernel
theorem dX7_drop_27 : decode cX7_drop 27 = .ok (.putfield 92, 3) := by decide +kernel
theorem dX7_drop_30 : decode cX7_drop 30 = .ok (.aload_n 0, 1) := by decide +kernel
theorem dX7_drop_31 : decode cX7_drop 31 = .ok (.getfield 89, 3) := by decide +kernel
theorem dX7_drop_34 : decode cX7_drop 34 = .ok (.ireturn, 1) := by decide +kernel
theorem dX7_game_0 : decode cX7_game 0 = .ok (.aload_n 0, 1) := by decide +kernel
theorem dX7_game_1 : decode cX7_game 1 = .ok (.iconst 0, 1) := by decide +kernel
theorem dX7_game_2 : decode cX7_game 2 = .ok (.putfield 75, 3) := by decide +kernel
theorem dX7_game_5 : decode cX7_game 5 = .ok (.aload_n 0, 1) := by decide +kernel
theorem dX7_game_6 : decode cX7_game 6 = .ok (.iload_n 1, 1) := by decide +kernel
theorem dX7_game_7 : decode cX7_game 7 = .ok (.invokevirtual 85, 3) := by decide +kernel
theorem dX7_game_10 : decode cX7_game 10 = .ok (.ifCond .eq 31, 3) := by decide +kernel
theorem dX7_game_13 : decode cX7_game 13 = .ok (.iload_n 2, 1) := by decide +kernel
theorem dX7_game_14 : decode cX7_game 14 = .ok (.i2l, 1) := by decide +kernel
theorem dX7_game_15 : decode cX7_game 15 = .ok (.lconst 0, 1) := by decide +kernel
theorem dX7_game_16 : decode cX7_game 16 = .ok (.aload_n 0, 1) := by decide +kernel
theorem dX7_game_17 : decode cX7_game 17 = .ok (.getfield 89, 3) := by decide +kernel
theorem dX7_game_20 : decode cX7_game 20 = .ok (.iconst 1, 1) := by decide +kernel
theorem dX7_game_21 : decode cX7_game 21 = .ok (.isub, 1) := by decide +kernel
theorem dX7_game_22 : decode cX7_game 22 = .ok (.i2l, 1) := by decide +kernel
theorem dX7_game_23 : decode cX7_game 23 = .ok (.invokestatic 81, 3) := by decide +kernel
theorem dX7_game_26 : decode cX7_game 26 = .ok (.ifCond .eq 15, 3) := by decide +kernel
theorem dX7_game_29 : decode cX7_game 29 = .ok (.iload_n 3, 1) := by decide +kernel
theorem dX7_game_30 : decode cX7_game 30 = .ok (.i2l, 1) := by decide +kernel
theorem dX7_game_31 : decode cX7_game 31 = .ok (.lconst 0, 1) := by decide +kernel
theorem dX7_game_32 : decode cX7_game 32 = .ok (.ldc2_w 226, 3) := by decide +kernel
theorem dX7_game_35 : decode cX7_game 35 = .ok (.invokestatic 81, 3) := by decide +kernel
theorem dX7_game_38 : decode cX7_game 38 = .ok (.ifCond .ne 5, 3) := by decide +kernel
theorem dX7_game_41 : decode cX7_game 41 = .ok (.iconst (-1), 1) := by decide +kernel
theorem dX7_game_42 : decode cX7_game 42 = .ok (.ireturn, 1) := by decide +kernel
theorem dX7_game_43 : decode cX7_game 43 = .ok (.aload_n 0, 1) := by decide +kernel
theorem dX7_game_44 : decode cX7_game 44 = .ok (.iload_n 1, 1) := by decide +kernel
theorem dX7_game_45 : decode cX7_game 45 = .ok (.iload_n 2, 1) := by decide +kernel
theorem dX7_game_46 : decode cX7_game 46 = .ok (.invokevirtual 95, 3) := by decide +kernel
theorem dX7_game_49 : decode cX7_game 49 = .ok (.istore 4, 2) := by decide +kernel
theorem dX7_game_51 : decode cX7_game 51 = .ok (.iload_n 3, 1) := by decide +kernel
theorem dX7_game_52 : decode cX7_game 52 = .ok (.iconst 2, 1) := by decide +kernel
theorem dX7_game_53 : decode cX7_game 53 = .ok (.if_icmp .ne 23, 3) := by decide +kernel
theorem dX7_game_56 : decode cX7_game 56 = .ok (.iload_n 2, 1) := by decide +kernel
theorem dX7_game_57 : decode cX7_game 57 = .ok (.aload_n 0, 1) := by decide +kernel
theorem dX7_game_58 : decode cX7_game 58 = .ok (.invokevirtual 99, 3) := by decide +kernel
theorem dX7_game_61 : decode cX7_game 61 = .ok (.if_icmp .lt 8, 3) := by decide +kernel
theorem dX7_game_64 : decode cX7_game 64 = .ok (.bipush (-5), 2) := by decide +kernel
theorem dX7_game_66 : decode cX7_game 66 = .ok (.goto 9, 3) := by decide +kernel
theorem dX7_game_69 : decode cX7_game 69 = .ok (.aload_n 0, 1) := by decide +kernel
theorem dX7_game_70 : decode cX7_game 70 = .ok (.iload_n 1, 1) := by decide +kernel
theorem dX7_game_71 : decode cX7_game 71 = .ok (.iload_n 2, 1) := by decide +kernel
theorem dX7_game_72 : decode cX7_game 72 = .ok (.invokevirtual 108, 3) := by decide +kernel
theorem dX7_game_75 : decode cX7_game 75 = .ok (.ireturn, 1) := by decide +kernel
theorem dX7_game_76 : decode cX7_game 76 = .ok (.iload 4, 2) := by decide +kernel
theorem dX7_game_78 : decode cX7_game 78 = .ok (.ifCond .ge 8, 3) := by decide +kernel
theorem dX7_game_81 : decode cX7_game 81 = .ok (.bipush (-5), 2) := by decide +kernel
theorem dX7_game_83 : decode cX7_game 83 = .ok (.goto 33, 3) := by decide +kernel
theorem dX7_game_86 : decode cX7_game 86 = .ok (.iload_n 3, 1) := by decide +kernel
theorem dX7_game_87 : decode cX7_game 87 = .ok (.ifCond .ne 13, 3) := by decide +kernel
theorem dX7_game_90 : decode cX7_game 90 = .ok (.aload_n 0, 1) := by decide +kernel
theorem dX7_game_91 : decode cX7_game 91 = .ok (.iload 4, 2) := by decide +kernel
theorem dX7_game_93 : decode cX7_game 93 = .ok (.iload_n 1, 1) := by decide +kernel
theorem dX7_game_94 : decode cX7_game 94 = .ok (.invokevirtual 117, 3) := by decide +kernel
theorem dX7_game_97 : decode cX7_game 97 = .ok (.goto 19, 3) := by decide +kernel
theorem dX7_game_100 : decode cX7_game 100 = .ok (.aload_n 0, 1) := by decide +kernel
theorem dX7_game_101 : decode cX7_game 101 = .ok (.getfield 22, 3) := by decide +kernel
theorem dX7_game_104 : decode cX7_game 104 = .ok (.iload 4, 2) := by decide +kernel
theorem dX7_game_106 : decode cX7_game 106 = .ok (.iaload, 1) := by decide +kernel
theorem dX7_game_107 : decode cX7_game 107 = .ok (.iload_n 1, 1) := by decide +kernel
theorem dX7_game_108 : decode cX7_game 108 = .ok (.if_icmp .ne 7, 3) := by decide +kernel
theorem dX7_game_111 : decode cX7_game 111 = .ok (.iconst 0, 1) := by decide +kernel
theorem dX7_game_112 : decode cX7_game 112 = .ok (.goto 4, 3) := by decide +kernel
theorem dX7_game_115 : decode cX7_game 115 = .ok (.iconst 1, 1) := by decide +kernel
theorem dX7_game_116 : decode cX7_game 116 = .ok (.ireturn, 1) := by decide +kernel
theorem dX7_feed_0 : decode cX7_feed 0 = .ok (.aload_n 0, 1) := by decide +kernel
theorem dX7_feed_1 : decode cX7_feed 1 = .ok (.iconst 0, 1) := by decide +kernel
theorem dX7_feed_2 : decode cX7_feed 2 = .ok (.putfield 75, 3) := by decide +kernel
theorem dX7_feed_5 : decode cX7_feed 5 = .ok (.iload_n 1, 1) := by decide +kernel
theorem dX7_feed_6 : decode cX7_feed 6 = .ok (.i2l, 1) := by decide +kernel
theorem dX7_feed_7 : decode cX7_feed 7 = .ok (.lconst 1, 1) := by decide +kernel
theorem dX7_feed_8 : decode cX7_feed 8 = .ok (.ldc2_w 233, 3) := by decide +kernel
theorem dX7_feed_11 : decode cX7_feed 11 = .ok (.invokestatic 81, 3) := by decide +kernel
theorem dX7_feed_14 : decode cX7_feed 14 = .ok (.ifCond .ne 6, 3) := by decide +kernel
theorem dX7_feed_17 : decode cX7_feed 17 = .ok (.bipush (-2), 2) := by decide +kernel
theorem dX7_feed_19 : decode cX7_feed 19 = .ok (.ireturn, 1) := by decide +kernel
theorem dX7_feed_20 : decode cX7_feed 20 = .ok (.aload_n 0, 1) := by decide +kernel
theorem dX7_feed_21 : decode cX7_feed 21 = .ok (.getfield 235, 3) := by decide +kernel
theorem dX7_feed_24 : decode cX7_feed 24 = .ok (.bipush 40, 2) := by decide +kernel
theorem dX7_feed_26 : decode cX7_feed 26 = .ok (.if_icmp .ne 6, 3) := by decide +kernel
theorem dX7_feed_29 : decode cX7_feed 29 = .ok (.bipush (-4), 2) := by decide +kernel
theorem dX7_feed_31 : decode cX7_feed 31 = .ok (.ireturn, 1) := by decide +kernel
theorem dX7_feed_32 : decode cX7_feed 32 = .ok (.aload_n 0, 1) := by decide +kernel
theorem dX7_feed_33 : decode cX7_feed 33 = .ok (.getfield 56, 3) := by decide +kernel
theorem dX7_feed_36 : decode cX7_feed 36 = .ok (.aload_n 0, 1) := by decide +kernel
theorem dX7_feed_37 : decode cX7_feed 37 = .ok (.getfield 235, 3) := by decide +kernel
theorem dX7_feed_40 : decode cX7_feed 40 = .ok (.iload_n 1, 1) := by decide +kernel
theorem dX7_feed_41 : decode cX7_feed 41 = .ok (.iastore, 1) := by decide +kernel
theorem dX7_feed_42 : decode cX7_feed 42 = .ok (.aload_n 0, 1) := by decide +kernel
theorem dX7_feed_43 : decode cX7_feed 43 = .ok (.dup, 1) := by decide +kernel
theorem dX7_feed_44 : decode cX7_feed 44 = .ok (.getfield 235, 3) := by decide +kernel
theorem dX7_feed_47 : decode cX7_feed 47 = .ok (.iconst 1, 1) := by decide +kernel
theorem dX7_feed_48 : decode cX7_feed 48 = .ok (.iadd, 1) := by decide +kernel
theorem dX7_feed_49 : decode cX7_feed 49 = .ok (.putfield 235, 3) := by decide +kernel
theorem dX7_feed_52 : decode cX7_feed 52 = .ok (.aload_n 0, 1) := by decide +kernel
theorem dX7_feed_53 : decode cX7_feed 53 = .ok (.getfield 235, 3) := by decide +kernel
theorem dX7_feed_56 : decode cX7_feed 56 = .ok (.ireturn, 1) := by decide +kernel
theorem dX7_clear_0 : decode cX7_clear 0 = .ok (.aload_n 0, 1) := by decide +kernel
theorem dX7_clear_1 : decode cX7_clear 1 = .ok (.iconst 0, 1) := by decide +kernel
theorem dX7_clear_2 : decode cX7_clear 2 = .ok (.putfield 75, 3) := by decide +kernel
theorem dX7_clear_5 : decode cX7_clear 5 = .ok (.aload_n 0, 1) := by decide +kernel
theorem dX7_clear_6 : decode cX7_clear 6 = .ok (.getfield 235, 3) := by decide +kernel
theorem dX7_clear_9 : decode cX7_clear 9 = .ok (.istore_n 1, 1) := by decide +kernel
theorem dX7_clear_10 : decode cX7_clear 10 = .ok (.aload_n 0, 1) := by decide +kernel
theorem dX7_clear_11 : decode cX7_clear 11 = .ok (.iconst 0, 1) := by decide +kernel
theorem dX7_clear_12 : decode cX7_clear 12 = .ok (.putfield 235, 3) := by decide +kernel
theorem dX7_clear_15 : decode cX7_clear 15 = .ok (.iload_n 1, 1) := by decide +kernel
theorem dX7_clear_16 : decode cX7_clear 16 = .ok (.ireturn, 1) := by decide +kernel
theorem dX7_resultOf_0 : decode cX7_resultOf 0 = .ok (.iload_n 0, 1) := by decide +kernel
theorem dX7_resultOf_1 : decode cX7_resultOf 1 = .ok (.lookupswitch 72 #[(43, 65), (45, 67), (48, 63), (49, 59), (61, 61), (120, 69)], 59) := by decide +kernel
theorem dX7_resultOf_60 : decode cX7_resultOf 60 = .ok (.iconst 1, 1) := by decide +kernel
theorem dX7_resultOf_61 : decode cX7_resultOf 61 = .ok (.ireturn, 1) := by decide +kernel
theorem dX7_resultOf_62 : decode cX7_resultOf 62 = .ok (.iconst 2, 1) := by decide +kernel
theorem dX7_resultOf_63 : decode cX7_resultOf 63 = .ok (.ireturn, 1) := by decide +kernel
theorem dX7_resultOf_64 : decode cX7_resultOf 64 = .ok (.iconst 3, 1) := by decide +kernel
theorem dX7_resultOf_65 : decode cX7_resultOf 65 = .ok (.ireturn, 1) := by decide +kernel
theorem dX7_resultOf_66 : decode cX7_resultOf 66 = .ok (.iconst 4, 1) := by decide +kernel
theorem dX7_resultOf_67 : decode cX7_resultOf 67 = .ok (.ireturn, 1) := by decide +kernel
theorem dX7_resultOf_68 : decode cX7_resultOf 68 = .ok (.iconst 5, 1) := by decide +kernel
theorem dX7_resultOf_69 : decode cX7_resultOf 69 = .ok (.ireturn, 1) := by decide +kernel
theorem dX7_resultOf_70 : decode cX7_resultOf 70 = .ok (.bipush 6, 2) := by decide +kernel
theorem dX7_resultOf_72 : decode cX7_resultOf 72 = .ok (.ireturn, 1) := by decide +kernel
theorem dX7_resultOf_73 : decode cX7_resultOf 73 = .ok (.iload_n 0, 1) := by decide +kernel
theorem dX7_resultOf_74 : decode cX7_resultOf 74 = .ok (.bipush 46, 2) := by decide +kernel
theorem dX7_resultOf_76 : decode cX7_resultOf 76 = .ok (.if_icmp .ne 7, 3) := by decide +kernel
theorem dX7_resultOf_79 : decode cX7_resultOf 79 = .ok (.iconst 0, 1) := by decide +kernel
theorem dX7_resultOf_80 : decode cX7_resultOf 80 = .ok (.goto 4, 3) := by decide +kernel
theorem dX7_resultOf_83 : decode cX7_resultOf 83 = .ok (.iconst (-1), 1) := by decide +kernel
theorem dX7_resultOf_84 : decode cX7_resultOf 84 = .ok (.ireturn, 1) := by decide +kernel
theorem dX7_results_0 : decode cX7_results 0 = .ok (.aload_n 0, 1) := by decide +kernel
theorem dX7_results_1 : decode cX7_results 1 = .ok (.iconst 0, 1) := by decide +kernel
theorem dX7_results_2 : decode cX7_results 2 = .ok (.putfield 75, 3) := by decide +kernel
theorem dX7_results_5 : decode cX7_results 5 = .ok (.aload_n 0, 1) := by decide +kernel
theorem dX7_results_6 : decode cX7_results 6 = .ok (.getfield 235, 3) := by decide +kernel
theorem dX7_results_9 : decode cX7_results 9 = .ok (.istore_n 1, 1) := by decide +kernel
theorem dX7_results_10 : decode cX7_results 10 = .ok (.aload_n 0, 1) := by decide +kernel
theorem dX7_results_11 : decode cX7_results 11 = .ok (.iconst 0, 1) := by decide +kernel
theorem dX7_results_12 : decode cX7_results 12 = .ok (.putfield 235, 3) := by decide +kernel
theorem dX7_results_15 : decode cX7_results 15 = .ok (.aload_n 0, 1) := by decide +kernel
theorem dX7_results_16 : decode cX7_results 16 = .ok (.getfield 92, 3) := by decide +kernel
theorem dX7_results_19 : decode cX7_results 19 = .ok (.ifCond .ne 6, 3) := by decide +kernel
theorem dX7_results_22 : decode cX7_results 22 = .ok (.bipush (-3), 2) := by decide +kernel
theorem dX7_results_24 : decode cX7_results 24 = .ok (.ireturn, 1) := by decide +kernel
theorem dX7_results_25 : decode cX7_results 25 = .ok (.aload_n 0, 1) := by decide +kernel
theorem dX7_results_26 : decode cX7_results 26 = .ok (.getfield 89, 3) := by decide +kernel
theorem dX7_results_29 : decode cX7_results 29 = .ok (.iconst 1, 1) := by decide +kernel
theorem dX7_results_30 : decode cX7_results 30 = .ok (.isub, 1) := by decide +kernel
theorem dX7_results_31 : decode cX7_results 31 = .ok (.istore_n 2, 1) := by decide +kernel
theorem dX7_results_32 : decode cX7_results 32 = .ok (.iconst 0, 1) := by decide +kernel
theorem dX7_results_33 : decode cX7_results 33 = .ok (.istore_n 3, 1) := by decide +kernel
theorem dX7_results_34 : decode cX7_results 34 = .ok (.iload_n 3, 1) := by decide +kernel
theorem dX7_results_35 : decode cX7_results 35 = .ok (.iload_n 1, 1) := by decide +kernel
theorem dX7_results_36 : decode cX7_results 36 = .ok (.if_icmp .ge 31, 3) := by decide +kernel
theorem dX7_results_39 : decode cX7_results 39 = .ok (.iload_n 3, 1) := by decide +kernel
theorem dX7_results_40 : decode cX7_results 40 = .ok (.aload_n 0, 1) := by decide +kernel
theorem dX7_results_41 : decode cX7_results 41 = .ok (.getfield 16, 3) := by decide +kernel
theorem dX7_results_44 : decode cX7_results 44 = .ok (.iload_n 2, 1) := by decide +kernel
theorem dX7_results_45 : decode cX7_results 45 = .ok (.iaload, 1) := by decide +kernel
theorem dX7_results_46 : decode cX7_results 46 = .ok (.if_icmp .ge 21, 3) := by decide +kernel
theorem dX7_results_49 : decode cX7_results 49 = .ok (.aload_n 0, 1) := by decide +kernel
theorem dX7_results_50 : decode cX7_results 50 = .ok (.getfield 56, 3) := by decide +kernel
theorem dX7_results_53 : decode cX7_results 53 = .ok (.iload_n 3, 1) := by decide +kernel
theorem dX7_results_54 : decode cX7_results 54 = .ok (.iaload, 1) := by decide +kernel
theorem dX7_results_55 : decode cX7_results 55 = .ok (.invokestatic 238, 3) := by decide +kernel
theorem dX7_results_58 : decode cX7_results 58 = .ok (.ifCond .lt 9, 3) := by decide +kernel
theorem dX7_results_61 : decode cX7_results 61 = .ok (.iinc 3 1, 3) := by decide +kernel
theorem dX7_results_64 : decode cX7_results 64 = .ok (.goto (-30), 3) := by decide +kernel
theorem dX7_results_67 : decode cX7_results 67 = .ok (.iload_n 3, 1) := by decide +kernel
theorem dX7_results_68 : decode cX7_results 68 = .ok (.iload_n 1, 1) := by decide +kernel
theorem dX7_results_69 : decode cX7_results 69 = .ok (.if_icmp .lt 13, 3) := by decide +kernel
theorem dX7_results_72 : decode cX7_results 72 = .ok (.iload_n 3, 1) := by decide +kernel
theorem dX7_results_73 : decode cX7_results 73 = .ok (.aload_n 0, 1) := by decide +kernel
theorem dX7_results_74 : decode cX7_results 74 = .ok (.getfield 16, 3) := by decide +kernel
theorem dX7_results_77 : decode cX7_results 77 = .ok (.iload_n 2, 1) := by decide +kernel
theorem dX7_results_78 : decode cX7_results 78 = .ok (.iaload, 1) := by decide +kernel
theorem dX7_results_79 : decode cX7_results 79 = .ok (.if_icmp .ge 8, 3) := by decide +kernel
theorem dX7_results_82 : decode cX7_results 82 = .ok (.bipush (-100), 2) := by decide +kernel
theorem dX7_results_84 : decode cX7_results 84 = .ok (.iload_n 3, 1) := by decide +kernel
theorem dX7_results_85 : decode cX7_results 85 = .ok (.isub, 1) := by decide +kernel
theorem dX7_results_86 : decode cX7_results 86 = .ok (.ireturn, 1) := by decide +kernel
theorem dX7_results_87 : decode cX7_results 87 = .ok (.iconst 0, 1) := by decide +kernel
theorem dX7_results_88 : decode cX7_results 88 = .ok (.istore 4, 2) := by decide +kernel
theorem dX7_results_90 : decode cX7_results 90 = .ok (.iload 4, 2) := by decide +kernel
theorem dX7_results_92 : decode cX7_results 92 = .ok (.iload_n 1, 1) := by decide +kernel
theorem dX7_results_93 : decode cX7_results 93 = .ok (.if_icmp .ge 55, 3) := by decide +kernel
theorem dX7_results_96 : decode cX7_results 96 = .ok (.aload_n 0, 1) := by decide +kernel
theorem dX7_results_97 : decode cX7_results 97 = .ok (.getfield 56, 3) := by decide +kernel
theorem dX7_results_100 : decode cX7_results 100 = .ok (.iload 4, 2) := by decide +kernel
theorem dX7_results_102 : decode cX7_results 102 = .ok (.iaload, 1) := by decide +kernel
theorem dX7_results_103 : decode cX7_results 103 = .ok (.invokestatic 238, 3) := by decide +kernel
theorem dX7_results_106 : decode cX7_results 106 = .ok (.istore 5, 2) := by decide +kernel
theorem dX7_results_108 : decode cX7_results 108 = .ok (.aload_n 0, 1) := by decide +kernel
theorem dX7_results_109 : decode cX7_results 109 = .ok (.getfield 28, 3) := by decide +kernel
theorem dX7_results_112 : decode cX7_results 112 = .ok (.bipush 6, 2) := by decide +kernel
theorem dX7_results_114 : decode cX7_results 114 = .ok (.iload_n 2, 1) := by decide +kernel
theorem dX7_results_115 : decode cX7_results 115 = .ok (.imul, 1) := by decide +kernel
theorem dX7_results_116 : decode cX7_results 116 = .ok (.iload 4, 2) := by decide +kernel
theorem dX7_results_118 : decode cX7_results 118 = .ok (.iadd, 1) := by decide +kernel
theorem dX7_results_119 : decode cX7_results 119 = .ok (.iload 5, 2) := by decide +kernel
theorem dX7_results_121 : decode cX7_results 121 = .ok (.ifCond .ne 18, 3) := by decide +kernel
theorem dX7_results_124 : decode cX7_results 124 = .ok (.aload_n 0, 1) := by decide +kernel
theorem dX7_results_125 : decode cX7_results 125 = .ok (.getfield 28, 3) := by decide +kernel
theorem dX7_results_128 : decode cX7_results 128 = .ok (.bipush 6, 2) := by decide +kernel
theorem dX7_results_130 : decode cX7_results 130 = .ok (.iload_n 2, 1) := by decide +kernel
theorem dX7_results_131 : decode cX7_results 131 = .ok (.imul, 1) := by decide +kernel
theorem dX7_results_132 : decode cX7_results 132 = .ok (.iload 4, 2) := by decide +kernel
theorem dX7_results_134 : decode cX7_results 134 = .ok (.iadd, 1) := by decide +kernel
theorem dX7_results_135 : decode cX7_results 135 = .ok (.iaload, 1) := by decide +kernel
theorem dX7_results_136 : decode cX7_results 136 = .ok (.goto 5, 3) := by decide +kernel
theorem dX7_results_139 : decode cX7_results 139 = .ok (.iload 5, 2) := by decide +kernel
theorem dX7_results_141 : decode cX7_results 141 = .ok (.iastore, 1) := by decide +kernel
theorem dX7_results_142 : decode cX7_results 142 = .ok (.iinc 4 1, 3) := by decide +kernel
theorem dX7_results_145 : decode cX7_results 145 = .ok (.goto (-55), 3) := by decide +kernel
theorem dX7_results_148 : decode cX7_results 148 = .ok (.aload_n 0, 1) := by decide +kernel
theorem dX7_results_149 : decode cX7_results 149 = .ok (.invokevirtual 230, 3) := by decide +kernel
theorem dX7_results_152 : decode cX7_results 152 = .ok (.ireturn, 1) := by decide +kernel
theorem dX7_tieBy_0 : decode cX7_tieBy 0 = .ok (.iload_n 0, 1) := by decide +kernel
theorem dX7_tieBy_1 : decode cX7_tieBy 1 = .ok (.tableswitch 119 98 119 #[107, 105, 116, 119, 119, 113, 119, 119, 119, 111, 119, 119, 119, 103, 119, 119, 119, 119, 119, 119, 119, 109], 103) := by decide +kernel
theorem dX7_tieBy_104 : decode cX7_tieBy 104 = .ok (.iconst 1, 1) := by decide +kernel
theorem dX7_tieBy_105 : decode cX7_tieBy 105 = .ok (.ireturn, 1) := by decide +kernel
theorem dX7_tieBy_106 : decode cX7_tieBy 106 = .ok (.iconst 2, 1) := by decide +kernel
theorem dX7_tieBy_107 : decode cX7_tieBy 107 = .ok (.ireturn, 1) := by decide +kernel
theorem dX7_tieBy_108 : decode cX7_tieBy 108 = .ok (.iconst 3, 1) := by decide +kernel
theorem dX7_tieBy_109 : decode cX7_tieBy 109 = .ok (.ireturn, 1) := by decide +kernel
theorem dX7_tieBy_110 : decode cX7_tieBy 110 = .ok (.iconst 4, 1) := by decide +kernel
theorem dX7_tieBy_111 : decode cX7_tieBy 111 = .ok (.ireturn, 1) := by decide +kernel
theorem dX7_tieBy_112 : decode cX7_tieBy 112 = .ok (.iconst 5, 1) := by decide +kernel
theorem dX7_tieBy_113 : decode cX7_tieBy 113 = .ok (.ireturn, 1) := by decide +kernel
theorem dX7_tieBy_114 : decode cX7_tieBy 114 = .ok (.bipush 6, 2) := by decide +kernel
theorem dX7_tieBy_116 : decode cX7_tieBy 116 = .ok (.ireturn, 1) := by decide +kernel
theorem dX7_tieBy_117 : decode cX7_tieBy 117 = .ok (.bipush 7, 2) := by decide +kernel
theorem dX7_tieBy_119 : decode cX7_tieBy 119 = .ok (.ireturn, 1) := by decide +kernel
theorem dX7_tieBy_120 : decode cX7_tieBy 120 = .ok (.iload_n 0, 1) := by decide +kernel
theorem dX7_tieBy_121 : decode cX7_tieBy 121 = .ok (.bipush 114, 2) := by decide +kernel
theorem dX7_tieBy_123 : decode cX7_tieBy 123 = .ok (.if_icmp .ne 8, 3) := by decide +kernel
theorem dX7_tieBy_126 : decode cX7_tieBy 126 = .ok (.bipush 8, 2) := by decide +kernel
theorem dX7_tieBy_128 : decode cX7_tieBy 128 = .ok (.goto 4, 3) := by decide +kernel
theorem dX7_tieBy_131 : decode cX7_tieBy 131 = .ok (.iconst (-1), 1) := by decide +kernel
theorem dX7_tieBy_132 : decode cX7_tieBy 132 = .ok (.ireturn, 1) := by decide +kernel
theorem dX7_isAgain_0 : decode cX7_isAgain 0 = .ok (.iconst 0, 1) := by decide +kernel
theorem dX7_isAgain_1 : decode cX7_isAgain 1 = .ok (.istore_n 2, 1) := by decide +kernel
theorem dX7_isAgain_2 : decode cX7_isAgain 2 = .ok (.iconst 0, 1) := by decide +kernel
theorem dX7_isAgain_3 : decode cX7_isAgain 3 = .ok (.istore_n 3, 1) := by decide +kernel
theorem dX7_isAgain_4 : decode cX7_isAgain 4 = .ok (.iload_n 3, 1) := by decide +kernel
theorem dX7_isAgain_5 : decode cX7_isAgain 5 = .ok (.iload_n 1, 1) := by decide +kernel
theorem dX7_isAgain_6 : decode cX7_isAgain 6 = .ok (.if_icmp .ge 34, 3) := by decide +kernel
theorem dX7_isAgain_9 : decode cX7_isAgain 9 = .ok (.iload_n 2, 1) := by decide +kernel
theorem dX7_isAgain_10 : decode cX7_isAgain 10 = .ok (.ifCond .ne 18, 3) := by decide +kernel
theorem dX7_isAgain_13 : decode cX7_isAgain 13 = .ok (.aload_n 0, 1) := by decide +kernel
theorem dX7_isAgain_14 : decode cX7_isAgain 14 = .ok (.getfield 56, 3) := by decide +kernel
theorem dX7_isAgain_17 : decode cX7_isAgain 17 = .ok (.iload_n 3, 1) := by decide +kernel
theorem dX7_isAgain_18 : decode cX7_isAgain 18 = .ok (.iaload, 1) := by decide +kernel
theorem dX7_isAgain_19 : decode cX7_isAgain 19 = .ok (.aload_n 0, 1) := by decide +kernel
theorem dX7_isAgain_20 : decode cX7_isAgain 20 = .ok (.getfield 56, 3) := by decide +kernel
theorem dX7_isAgain_23 : decode cX7_isAgain 23 = .ok (.iload_n 1, 1) := by decide +kernel
theorem dX7_isAgain_24 : decode cX7_isAgain 24 = .ok (.iaload, 1) := by decide +kernel
theorem dX7_isAgain_25 : decode cX7_isAgain 25 = .ok (.if_icmp .ne 7, 3) := by decide +kernel
theorem dX7_isAgain_28 : decode cX7_isAgain 28 = .ok (.iconst 1, 1) := by decide +kernel
theorem dX7_isAgain_29 : decode cX7_isAgain 29 = .ok (.goto 4, 3) := by decide +kernel
theorem dX7_isAgain_32 : decode cX7_isAgain 32 = .ok (.iconst 0, 1) := by decide +kernel
theorem dX7_isAgain_33 : decode cX7_isAgain 33 = .ok (.istore_n 2, 1) := by decide +kernel
theorem dX7_isAgain_34 : decode cX7_isAgain 34 = .ok (.iinc 3 1, 3) := by decide +kernel
theorem dX7_isAgain_37 : decode cX7_isAgain 37 = .ok (.goto (-33), 3) := by decide +kernel
theorem dX7_isAgain_40 : decode cX7_isAgain 40 = .ok (.iload_n 2, 1) := by decide +kernel
theorem dX7_isAgain_41 : decode cX7_isAgain 41 = .ok (.ireturn, 1) := by decide +kernel
theorem dX7_order_0 : decode cX7_order 0 = .ok (.aload_n 0, 1) := by decide +kernel
theorem dX7_order_1 : decode cX7_order 1 = .ok (.iconst 0, 1) := by decide +kernel
theorem dX7_order_2 : decode cX7_order 2 = .ok (.putfield 75, 3) := by decide +kernel
theorem dX7_order_5 : decode cX7_order 5 = .ok (.aload_n 0, 1) := by decide +kernel
theorem dX7_order_6 : decode cX7_order 6 = .ok (.getfield 235, 3) := by decide +kernel
theorem dX7_order_9 : decode cX7_order 9 = .ok (.istore_n 1, 1) := by decide +kernel
theorem dX7_order_10 : decode cX7_order 10 = .ok (.aload_n 0, 1) := by decide +kernel
theorem dX7_order_11 : decode cX7_order 11 = .ok (.iconst 0, 1) := by decide +kernel
theorem dX7_order_12 : decode cX7_order 12 = .ok (.putfield 235, 3) := by decide +kernel
theorem dX7_order_15 : decode cX7_order 15 = .ok (.iconst 0, 1) := by decide +kernel
theorem dX7_order_16 : decode cX7_order 16 = .ok (.istore_n 2, 1) := by decide +kernel
theorem dX7_order_17 : decode cX7_order 17 = .ok (.iload_n 2, 1) := by decide +kernel
theorem dX7_order_18 : decode cX7_order 18 = .ok (.iload_n 1, 1) := by decide +kernel
theorem dX7_order_19 : decode cX7_order 19 = .ok (.if_icmp .ge 29, 3) := by decide +kernel
theorem dX7_order_22 : decode cX7_order 22 = .ok (.aload_n 0, 1) := by decide +kernel
theorem dX7_order_23 : decode cX7_order 23 = .ok (.getfield 56, 3) := by decide +kernel
theorem dX7_order_26 : decode cX7_order 26 = .ok (.iload_n 2, 1) := by decide +kernel
theorem dX7_order_27 : decode cX7_order 27 = .ok (.iaload, 1) := by decide +kernel
theorem dX7_order_28 : decode cX7_order 28 = .ok (.invokestatic 241, 3) := by decide +kernel
theorem dX7_order_31 : decode cX7_order 31 = .ok (.ifCond .le 17, 3) := by decide +kernel
theorem dX7_order_34 : decode cX7_order 34 = .ok (.aload_n 0, 1) := by decide +kernel
theorem dX7_order_35 : decode cX7_order 35 = .ok (.iload_n 2, 1) := by decide +kernel
theorem dX7_order_36 : decode cX7_order 36 = .ok (.invokevirtual 244, 3) := by decide +kernel
theorem dX7_order_39 : decode cX7_order 39 = .ok (.ifCond .ne 9, 3) := by decide +kernel
theorem dX7_order_42 : decode cX7_order 42 = .ok (.iinc 2 1, 3) := by decide +kernel
theorem dX7_order_45 : decode cX7_order 45 = .ok (.goto (-28), 3) := by decide +kernel
theorem dX7_order_48 : decode cX7_order 48 = .ok (.iload_n 2, 1) := by decide +kernel
theorem dX7_order_49 : decode cX7_order 49 = .ok (.iload_n 1, 1) := by decide +kernel
theorem dX7_order_50 : decode cX7_order 50 = .ok (.if_icmp .lt 7, 3) := by decide +kernel
theorem dX7_order_53 : decode cX7_order 53 = .ok (.iload_n 1, 1) := by decide +kernel
theorem dX7_order_54 : decode cX7_order 54 = .ok (.ifCond .ne 8, 3) := by decide +kernel
theorem dX7_order_57 : decode cX7_order 57 = .ok (.bipush (-100), 2) := by decide +kernel
theorem dX7_order_59 : decode cX7_order 59 = .ok (.iload_n 2, 1) := by decide +kernel
theorem dX7_order_60 : decode cX7_order 60 = .ok (.isub, 1) := by decide +kernel
theorem dX7_order_61 : decode cX7_order 61 = .ok (.ireturn, 1) := by decide +kernel
theorem dX7_order_62 : decode cX7_order 62 = .ok (.iconst 0, 1) := by decide +kernel
theorem dX7_order_63 : decode cX7_order 63 = .ok (.istore_n 3, 1) := by decide +kernel
theorem dX7_order_64 : decode cX7_order 64 = .ok (.iload_n 3, 1) := by decide +kernel
theorem dX7_order_65 : decode cX7_order 65 = .ok (.iload_n 1, 1) := by decide +kernel
theorem dX7_order_66 : decode cX7_order 66 = .ok (.if_icmp .ge 26, 3) := by decide +kernel
theorem dX7_order_69 : decode cX7_order 69 = .ok (.aload_n 0, 1) := by decide +kernel
theorem dX7_order_70 : decode cX7_order 70 = .ok (.getfield 35, 3) := by decide +kernel
theorem dX7_order_73 : decode cX7_order 73 = .ok (.iload_n 3, 1) := by decide +kernel
theorem dX7_order_74 : decode cX7_order 74 = .ok (.iconst 1, 1) := by decide +kernel
theorem dX7_order_75 : decode cX7_order 75 = .ok (.iadd, 1) := by decide +kernel
theorem dX7_order_76 : decode cX7_order 76 = .ok (.aload_n 0, 1) := by decide +kernel
theorem dX7_order_77 : decode cX7_order 77 = .ok (.getfield 56, 3) := by decide +kernel
theorem dX7_order_80 : decode cX7_order 80 = .ok (.iload_n 3, 1) := by decide +kernel
theorem dX7_order_81 : decode cX7_order 81 = .ok (.iaload, 1) := by decide +kernel
theorem dX7_order_82 : decode cX7_order 82 = .ok (.invokestatic 241, 3) := by decide +kernel
theorem dX7_order_85 : decode cX7_order 85 = .ok (.iastore, 1) := by decide +kernel
theorem dX7_order_86 : decode cX7_order 86 = .ok (.iinc 3 1, 3) := by decide +kernel
theorem dX7_order_89 : decode cX7_order 89 = .ok (.goto (-25), 3) := by decide +kernel
theorem dX7_order_92 : decode cX7_order 92 = .ok (.aload_n 0, 1) := by decide +kernel
theorem dX7_order_93 : decode cX7_order 93 = .ok (.iload_n 1, 1) := by decide +kernel
theorem dX7_order_94 : decode cX7_order 94 = .ok (.iconst 1, 1) := by decide +kernel
theorem dX7_order_95 : decode cX7_order 95 = .ok (.iadd, 1) := by decide +kernel
theorem dX7_order_96 : decode cX7_order 96 = .ok (.putfield 31, 3) := by decide +kernel
theorem dX7_order_99 : decode cX7_order 99 = .ok (.aload_n 0, 1) := by decide +kernel
theorem dX7_order_100 : decode cX7_order 100 = .ok (.getfield 31, 3) := by decide +kernel
theorem dX7_order_103 : decode cX7_order 103 = .ok (.ireturn, 1) := by decide +kernel
theorem dX7_ordered_0 : decode cX7_ordered 0 = .ok (.aload_n 0, 1) := by decide +kernel
theorem dX7_ordered_1 : decode cX7_ordered 1 = .ok (.iconst 0, 1) := by decide +kernel
theorem dX7_ordered_2 : decode cX7_ordered 2 = .ok (.putfield 75, 3) := by decide +kernel
theorem dX7_ordered_5 : decode cX7_ordered 5 = .ok (.iload_n 1, 1) := by decide +kernel
theorem dX7_ordered_6 : decode cX7_ordered 6 = .ok (.ifCond .ge 7, 3) := by decide +kernel
theorem dX7_ordered_9 : decode cX7_ordered 9 = .ok (.iconst (-1), 1) := by decide +kernel
theorem dX7_ordered_10 : decode cX7_ordered 10 = .ok (.goto 22, 3) := by decide +kernel
theorem dX7_ordered_13 : decode cX7_ordered 13 = .ok (.iload_n 1, 1) := by decide +kernel
theorem dX7_ordered_14 : decode cX7_ordered 14 = .ok (.aload_n 0, 1) := by decide +kernel
theorem dX7_ordered_15 : decode cX7_ordered 15 = .ok (.getfield 31, 3) := by decide +kernel
theorem dX7_ordered_18 : decode cX7_ordered 18 = .ok (.if_icmp .ge 12, 3) := by decide +kernel
theorem dX7_ordered_21 : decode cX7_ordered 21 = .ok (.aload_n 0, 1) := by decide +kernel
theorem dX7_ordered_22 : decode cX7_ordered 22 = .ok (.getfield 35, 3) := by decide +kernel
theorem dX7_ordered_25 : decode cX7_ordered 25 = .ok (.iload_n 1, 1) := by decide +kernel
theorem dX7_ordered_26 : decode cX7_ordered 26 = .ok (.iaload, 1) := by decide +kernel
theorem dX7_ordered_27 : decode cX7_ordered 27 = .ok (.goto 5, 3) := by decide +kernel
theorem dX7_ordered_30 : decode cX7_ordered 30 = .ok (.bipush (-5), 2) := by decide +kernel
theorem dX7_ordered_32 : decode cX7_ordered 32 = .ok (.ireturn, 1) := by decide +kernel
theorem dX7_writes_0 : decode cX7_writes 0 = .ok (.aload_n 0, 1) := by decide +kernel
theorem dX7_writes_1 : decode cX7_writes 1 = .ok (.getfield 59, 3) := by decide +kernel
theorem dX7_writes_4 : decode cX7_writes 4 = .ok (.aload_n 0, 1) := by decide +kernel
theorem dX7_writes_5 : decode cX7_writes 5 = .ok (.getfield 247, 3) := by decide +kernel
theorem dX7_writes_8 : decode cX7_writes 8 = .ok (.iload_n 1, 1) := by decide +kernel
theorem dX7_writes_9 : decode cX7_writes 9 = .ok (.iastore, 1) := by decide +kernel
theorem dX7_writes_10 : decode cX7_writes 10 = .ok (.aload_n 0, 1) := by decide +kernel
theorem dX7_writes_11 : decode cX7_writes 11 = .ok (.dup, 1) := by decide +kernel
theorem dX7_writes_12 : decode cX7_writes 12 = .ok (.getfield 247, 3) := by decide +kernel
theorem dX7_writes_15 : decode cX7_writes 15 = .ok (.iconst 1, 1) := by decide +kernel
theorem dX7_writes_16 : decode cX7_writes 16 = .ok (.iadd, 1) := by decide +kernel
theorem dX7_writes_17 : decode cX7_writes 17 = .ok (.putfield 247, 3) := by decide +kernel
theorem dX7_writes_20 : decode cX7_writes 20 = .ok (.return_, 1) := by decide +kernel
theorem dX7_writesNumber_0 : decode cX7_writesNumber 0 = .ok (.iload_n 1, 1) := by decide +kernel
theorem dX7_writesNumber_1 : decode cX7_writesNumber 1 = .ok (.bipush 9, 2) := by decide +kernel
theorem dX7_writesNumber_3 : decode cX7_writesNumber 3 = .ok (.if_icmp .le 14, 3) := by decide +kernel
theorem dX7_writesNumber_6 : decode cX7_writesNumber 6 = .ok (.aload_n 0, 1) := by decide +kernel
theorem dX7_writesNumber_7 : decode cX7_writesNumber 7 = .ok (.bipush 48, 2) := by decide +kernel
theorem dX7_writesNumber_9 : decode cX7_writesNumber 9 = .ok (.iload_n 1, 1) := by decide +kernel
theorem dX7_writesNumber_10 : decode cX7_writesNumber 10 = .ok (.bipush 10, 2) := by decide +kernel
theorem dX7_writesNumber_12 : decode cX7_writesNumber 12 = .ok (.idiv, 1) := by decide +kernel
theorem dX7_writesNumber_13 : decode cX7_writesNumber 13 = .ok (.iadd, 1) := by decide +kernel
theorem dX7_writesNumber_14 : decode cX7_writesNumber 14 = .ok (.invokevirtual 250, 3) := by decide +kernel
theorem dX7_writesNumber_17 : decode cX7_writesNumber 17 = .ok (.aload_n 0, 1) := by decide +kernel
theorem dX7_writesNumber_18 : decode cX7_writesNumber 18 = .ok (.bipush 48, 2) := by decide +kernel
theorem dX7_writesNumber_20 : decode cX7_writesNumber 20 = .ok (.iload_n 1, 1) := by decide +kernel
theorem dX7_writesNumber_21 : decode cX7_writesNumber 21 = .ok (.bipush 10, 2) := by decide +kernel
theorem dX7_writesNumber_23 : decode cX7_writesNumber 23 = .ok (.irem, 1) := by decide +kernel
theorem dX7_writesNumber_24 : decode cX7_writesNumber 24 = .ok (.iadd, 1) := by decide +kernel
theorem dX7_writesNumber_25 : decode cX7_writesNumber 25 = .ok (.invokevirtual 250, 3) := by decide +kernel
theorem dX7_writesNumber_28 : decode cX7_writesNumber 28 = .ok (.return_, 1) := by decide +kernel
theorem dX7_writesRound_0 : decode cX7_writesRound 0 = .ok (.aload_n 0, 1) := by decide +kernel
theorem dX7_writesRound_1 : decode cX7_writesRound 1 = .ok (.iload_n 1, 1) := by decide +kernel
theorem dX7_writesRound_2 : decode cX7_writesRound 2 = .ok (.iload_n 2, 1) := by decide +kernel
theorem dX7_writesRound_3 : decode cX7_writesRound 3 = .ok (.invokevirtual 95, 3) := by decide +kernel
theorem dX7_writesRound_6 : decode cX7_writesRound 6 = .ok (.istore_n 3, 1) := by decide +kernel
theorem dX7_writesRound_7 : decode cX7_writesRound 7 = .ok (.aload_n 0, 1) := by decide +kernel
theorem dX7_writesRound_8 : decode cX7_writesRound 8 = .ok (.bipush 32, 2) := by decide +kernel
theorem dX7_writesRound_10 : decode cX7_writesRound 10 = .ok (.invokevirtual 250, 3) := by decide +kernel
theorem dX7_writesRound_13 : decode cX7_writesRound 13 = .ok (.iload_n 3, 1) := by decide +kernel
theorem dX7_writesRound_14 : decode cX7_writesRound 14 = .ok (.ifCond .ge 25, 3) := by decide +kernel
theorem dX7_writesRound_17 : decode cX7_writesRound 17 = .ok (.aload_n 0, 1) := by decide +kernel
theorem dX7_writesRound_18 : decode cX7_writesRound 18 = .ok (.aload_n 0, 1) := by decide +kernel
theorem dX7_writesRound_19 : decode cX7_writesRound 19 = .ok (.getfield 19, 3) := by decide +kernel
theorem dX7_writesRound_22 : decode cX7_writesRound 22 = .ok (.iload_n 2, 1) := by decide +kernel
theorem dX7_writesRound_23 : decode cX7_writesRound 23 = .ok (.iaload, 1) := by decide +kernel
theorem dX7_writesRound_24 : decode cX7_writesRound 24 = .ok (.iload_n 1, 1) := by decide +kernel
theorem dX7_writesRound_25 : decode cX7_writesRound 25 = .ok (.if_icmp .ne 8, 3) := by decide +kernel
theorem dX7_writesRound_28 : decode cX7_writesRound 28 = .ok (.bipush 66, 2) := by decide +kernel
theorem dX7_writesRound_30 : decode cX7_writesRound 30 = .ok (.goto 5, 3) := by decide +kernel
theorem dX7_writesRound_33 : decode cX7_writesRound 33 = .ok (.bipush 122, 2) := by decide +kernel
theorem dX7_writesRound_35 : decode cX7_writesRound 35 = .ok (.invokevirtual 250, 3) := by decide +kernel
theorem dX7_writesRound_38 : decode cX7_writesRound 38 = .ok (.return_, 1) := by decide +kernel
theorem dX7_writesRound_39 : decode cX7_writesRound 39 = .ok (.aload_n 0, 1) := by decide +kernel
theorem dX7_writesRound_40 : decode cX7_writesRound 40 = .ok (.iload_n 3, 1) := by decide +kernel
theorem dX7_writesRound_41 : decode cX7_writesRound 41 = .ok (.iload_n 1, 1) := by decide +kernel
theorem dX7_writesRound_42 : decode cX7_writesRound 42 = .ok (.invokevirtual 105, 3) := by decide +kernel
theorem dX7_writesRound_45 : decode cX7_writesRound 45 = .ok (.istore 4, 2) := by decide +kernel
theorem dX7_writesRound_47 : decode cX7_writesRound 47 = .ok (.aload_n 0, 1) := by decide +kernel
theorem dX7_writesRound_48 : decode cX7_writesRound 48 = .ok (.aload_n 0, 1) := by decide +kernel
theorem dX7_writesRound_49 : decode cX7_writesRound 49 = .ok (.iload_n 3, 1) := by decide +kernel
theorem dX7_writesRound_50 : decode cX7_writesRound 50 = .ok (.iload_n 1, 1) := by decide +kernel
theorem dX7_writesRound_51 : decode cX7_writesRound 51 = .ok (.invokevirtual 117, 3) := by decide +kernel
theorem dX7_writesRound_54 : decode cX7_writesRound 54 = .ok (.invokevirtual 254, 3) := by decide +kernel
theorem dX7_writesRound_57 : decode cX7_writesRound 57 = .ok (.aload_n 0, 1) := by decide +kernel
theorem dX7_writesRound_58 : decode cX7_writesRound 58 = .ok (.aload_n 0, 1) := by decide +kernel
theorem dX7_writesRound_59 : decode cX7_writesRound 59 = .ok (.getfield 28, 3) := by decide +kernel
theorem dX7_writesRound_62 : decode cX7_writesRound 62 = .ok (.iload_n 3, 1) := by decide +kernel
theorem dX7_writesRound_63 : decode cX7_writesRound 63 = .ok (.iaload, 1) := by decide +kernel
theorem dX7_writesRound_64 : decode cX7_writesRound 64 = .ok (.iconst 3, 1) := by decide +kernel
theorem dX7_writesRound_65 : decode cX7_writesRound 65 = .ok (.if_icmp .le 19, 3) := by decide +kernel
theorem dX7_writesRound_68 : decode cX7_writesRound 68 = .ok (.iload 4, 2) := by decide +kernel
theorem dX7_writesRound_70 : decode cX7_writesRound 70 = .ok (.iconst 2, 1) := by decide +kernel
theorem dX7_writesRound_71 : decode cX7_writesRound 71 = .ok (.if_icmp .ne 8, 3) := by decide +kernel
theorem dX7_writesRound_74 : decode cX7_writesRound 74 = .ok (.bipush 43, 2) := by decide +kernel
theorem dX7_writesRound_76 : decode cX7_writesRound 76 = .ok (.goto 32, 3) := by decide +kernel
theorem dX7_writesRound_79 : decode cX7_writesRound 79 = .ok (.bipush 45, 2) := by decide +kernel
theorem dX7_writesRound_81 : decode cX7_writesRound 81 = .ok (.goto 27, 3) := by decide +kernel
theorem dX7_writesRound_84 : decode cX7_writesRound 84 = .ok (.iload 4, 2) := by decide +kernel
theorem dX7_writesRound_86 : decode cX7_writesRound 86 = .ok (.iconst 2, 1) := by decide +kernel
theorem dX7_writesRound_87 : decode cX7_writesRound 87 = .ok (.if_icmp .ne 8, 3) := by decide +kernel
theorem dX7_writesRound_90 : decode cX7_writesRound 90 = .ok (.bipush 49, 2) := by decide +kernel
theorem dX7_writesRound_92 : decode cX7_writesRound 92 = .ok (.goto 16, 3) := by decide +kernel
theorem dX7_writesRound_95 : decode cX7_writesRound 95 = .ok (.iload 4, 2) := by decide +kernel
theorem dX7_writesRound_97 : decode cX7_writesRound 97 = .ok (.iconst 1, 1) := by decide +kernel
theorem dX7_writesRound_98 : decode cX7_writesRound 98 = .ok (.if_icmp .ne 8, 3) := by decide +kernel
theorem dX7_writesRound_101 : decode cX7_writesRound 101 = .ok (.bipush 61, 2) := by decide +kernel
theorem dX7_writesRound_103 : decode cX7_writesRound 103 = .ok (.goto 5, 3) := by decide +kernel
theorem dX7_writesRound_106 : decode cX7_writesRound 106 = .ok (.bipush 48, 2) := by decide +kernel
theorem dX7_writesRound_108 : decode cX7_writesRound 108 = .ok (.invokevirtual 250, 3) := by decide +kernel
theorem dX7_writesRound_111 : decode cX7_writesRound 111 = .ok (.return_, 1) := by decide +kernel
theorem dX7_line_0 : decode cX7_line 0 = .ok (.aload_n 0, 1) := by decide +kernel
theorem dX7_line_1 : decode cX7_line 1 = .ok (.iconst 0, 1) := by decide +kernel
theorem dX7_line_2 : decode cX7_line 2 = .ok (.putfield 75, 3) := by decide +kernel
theorem dX7_line_5 : decode cX7_line 5 = .ok (.aload_n 0, 1) := by decide +kernel
theorem dX7_line_6 : decode cX7_line 6 = .ok (.iload_n 1, 1) := by decide +kernel
theorem dX7_line_7 : decode cX7_line 7 = .ok (.invokevirtual 85, 3) := by decide +kernel
theorem dX7_line_10 : decode cX7_line 10 = .ok (.ifCond .ne 5, 3) := by decide +kernel
theorem dX7_line_13 : decode cX7_line 13 = .ok (.iconst (-1), 1) := by decide +kernel
theorem dX7_line_14 : decode cX7_line 14 = .ok (.ireturn, 1) := by decide +kernel
theorem dX7_line_15 : decode cX7_line 15 = .ok (.aload_n 0, 1) := by decide +kernel
theorem dX7_line_16 : decode cX7_line 16 = .ok (.iconst 0, 1) := by decide +kernel
theorem dX7_line_17 : decode cX7_line 17 = .ok (.putfield 247, 3) := by decide +kernel
theorem dX7_line_20 : decode cX7_line 20 = .ok (.aload_n 0, 1) := by decide +kernel
theorem dX7_line_21 : decode cX7_line 21 = .ok (.iload_n 1, 1) := by decide +kernel
theorem dX7_line_22 : decode cX7_line 22 = .ok (.invokevirtual 254, 3) := by decide +kernel
theorem dX7_line_25 : decode cX7_line 25 = .ok (.aload_n 0, 1) := by decide +kernel
theorem dX7_line_26 : decode cX7_line 26 = .ok (.bipush 32, 2) := by decide +kernel
theorem dX7_line_28 : decode cX7_line 28 = .ok (.invokevirtual 250, 3) := by decide +kernel
theorem dX7_line_31 : decode cX7_line 31 = .ok (.aload_n 0, 1) := by decide +kernel
theorem dX7_line_32 : decode cX7_line 32 = .ok (.aload_n 0, 1) := by decide +kernel
theorem dX7_line_33 : decode cX7_line 33 = .ok (.iload_n 1, 1) := by decide +kernel
theorem dX7_line_34 : decode cX7_line 34 = .ok (.invokevirtual 128, 3) := by decide +kernel
theorem dX7_line_37 : decode cX7_line 37 = .ok (.iconst 2, 1) := by decide +kernel
theorem dX7_line_38 : decode cX7_line 38 = .ok (.idiv, 1) := by decide +kernel
theorem dX7_line_39 : decode cX7_line 39 = .ok (.invokevirtual 254, 3) := by decide +kernel
theorem dX7_line_42 : decode cX7_line 42 = .ok (.aload_n 0, 1) := by decide +kernel
theorem dX7_line_43 : decode cX7_line 43 = .ok (.iload_n 1, 1) := by decide +kernel
theorem dX7_line_44 : decode cX7_line 44 = .ok (.invokevirtual 128, 3) := by decide +kernel
theorem dX7_line_47 : decode cX7_line 47 = .ok (.iconst 2, 1) := by decide +kernel
theorem dX7_line_48 : decode cX7_line 48 = .ok (.irem, 1) := by decide +kernel
theorem dX7_line_49 : decode cX7_line 49 = .ok (.iconst 1, 1) := by decide +kernel
theorem dX7_line_50 : decode cX7_line 50 = .ok (.if_icmp .ne 15, 3) := by decide +kernel
theorem dX7_line_53 : decode cX7_line 53 = .ok (.aload_n 0, 1) := by decide +kernel
theorem dX7_line_54 : decode cX7_line 54 = .ok (.bipush 46, 2) := by decide +kernel
theorem dX7_line_56 : decode cX7_line 56 = .ok (.invokevirtual 250, 3) := by decide +kernel
theorem dX7_line_59 : decode cX7_line 59 = .ok (.aload_n 0, 1) := by decide +kernel
theorem dX7_line_60 : decode cX7_line 60 = .ok (.bipush 53, 2) := by decide +kernel
theorem dX7_line_62 : decode cX7_line 62 = .ok (.invokevirtual 250, 3) := by decide +kernel
theorem dX7_line_65 : decode cX7_line 65 = .ok (.iconst 0, 1) := by decide +kernel
theorem dX7_line_66 : decode cX7_line 66 = .ok (.istore_n 2, 1) := by decide +kernel
theorem dX7_line_67 : decode cX7_line 67 = .ok (.iload_n 2, 1) := by decide +kernel
theorem dX7_line_68 : decode cX7_line 68 = .ok (.aload_n 0, 1) := by decide +kernel
theorem dX7_line_69 : decode cX7_line 69 = .ok (.invokevirtual 99, 3) := by decide +kernel
theorem dX7_line_72 : decode cX7_line 72 = .ok (.if_icmp .ge 15, 3) := by decide +kernel
theorem dX7_line_75 : decode cX7_line 75 = .ok (.aload_n 0, 1) := by decide +kernel
theorem dX7_line_76 : decode cX7_line 76 = .ok (.iload_n 1, 1) := by decide +kernel
theorem dX7_line_77 : decode cX7_line 77 = .ok (.iload_n 2, 1) := by decide +kernel
theorem dX7_line_78 : decode cX7_line 78 = .ok (.invokevirtual 257, 3) := by decide +kernel
theorem dX7_line_81 : decode cX7_line 81 = .ok (.iinc 2 1, 3) := by decide +kernel
theorem dX7_line_84 : decode cX7_line 84 = .ok (.goto (-17), 3) := by decide +kernel
theorem dX7_line_87 : decode cX7_line 87 = .ok (.aload_n 0, 1) := by decide +kernel
theorem dX7_line_88 : decode cX7_line 88 = .ok (.getfield 247, 3) := by decide +kernel
theorem dX7_line_91 : decode cX7_line 91 = .ok (.ireturn, 1) := by decide +kernel
theorem dX7_paper_0 : decode cX7_paper 0 = .ok (.aload_n 0, 1) := by decide +kernel
theorem dX7_paper_1 : decode cX7_paper 1 = .ok (.iconst 0, 1) := by decide +kernel
theorem dX7_paper_2 : decode cX7_paper 2 = .ok (.putfield 75, 3) := by decide +kernel
theorem dX7_paper_5 : decode cX7_paper 5 = .ok (.iload_n 1, 1) := by decide +kernel
theorem dX7_paper_6 : decode cX7_paper 6 = .ok (.i2l, 1) := by decide +kernel
theorem dX7_paper_7 : decode cX7_paper 7 = .ok (.lconst 0, 1) := by decide +kernel
theorem dX7_paper_8 : decode cX7_paper 8 = .ok (.aload_n 0, 1) := by decide +kernel
theorem dX7_paper_9 : decode cX7_paper 9 = .ok (.getfield 247, 3) := by decide +kernel
theorem dX7_paper_12 : decode cX7_paper 12 = .ok (.iconst 1, 1) := by decide +kernel
theorem dX7_paper_13 : decode cX7_paper 13 = .ok (.isub, 1) := by decide +kernel
theorem dX7_paper_14 : decode cX7_paper 14 = .ok (.i2l, 1) := by decide +kernel
theorem dX7_paper_15 : decode cX7_paper 15 = .ok (.invokestatic 81, 3) := by decide +kernel
theorem dX7_paper_18 : decode cX7_paper 18 = .ok (.ifCond .eq 12, 3) := by decide +kernel
theorem dX7_paper_21 : decode cX7_paper 21 = .ok (.aload_n 0, 1) := by decide +kernel
theorem dX7_paper_22 : decode cX7_paper 22 = .ok (.getfield 59, 3) := by decide +kernel
theorem dX7_paper_25 : decode cX7_paper 25 = .ok (.iload_n 1, 1) := by decide +kernel
theorem dX7_paper_26 : decode cX7_paper 26 = .ok (.iaload, 1) := by decide +kernel
theorem dX7_paper_27 : decode cX7_paper 27 = .ok (.goto 4, 3) := by decide +kernel
theorem dX7_paper_30 : decode cX7_paper 30 = .ok (.iconst (-1), 1) := by decide +kernel
theorem dX7_paper_31 : decode cX7_paper 31 = .ok (.ireturn, 1) := by decide +kernel
theorem dX7_metTwos_0 : decode cX7_metTwos 0 = .ok (.iconst 0, 1) := by decide +kernel
theorem dX7_metTwos_1 : decode cX7_metTwos 1 = .ok (.istore_n 1, 1) := by decide +kernel
theorem dX7_metTwos_2 : decode cX7_metTwos 2 = .ok (.iconst 0, 1) := by decide +kernel
theorem dX7_metTwos_3 : decode cX7_metTwos 3 = .ok (.istore_n 2, 1) := by decide +kernel
theorem dX7_metTwos_4 : decode cX7_metTwos 4 = .ok (.iload_n 2, 1) := by decide +kernel
theorem dX7_metTwos_5 : decode cX7_metTwos 5 = .ok (.aload_n 0, 1) := by decide +kernel
theorem dX7_metTwos_6 : decode cX7_metTwos 6 = .ok (.getfield 78, 3) := by decide +kernel
theorem dX7_metTwos_9 : decode cX7_metTwos 9 = .ok (.if_icmp .ge 39, 3) := by decide +kernel
theorem dX7_metTwos_12 : decode cX7_metTwos 12 = .ok (.iconst 0, 1) := by decide +kernel
theorem dX7_metTwos_13 : decode cX7_metTwos 13 = .ok (.istore_n 3, 1) := by decide +kernel
theorem dX7_metTwos_14 : decode cX7_metTwos 14 = .ok (.iload_n 3, 1) := by decide +kernel
theorem dX7_metTwos_15 : decode cX7_metTwos 15 = .ok (.iload_n 2, 1) := by decide +kernel
theorem dX7_metTwos_16 : decode cX7_metTwos 16 = .ok (.if_icmp .ge 26, 3) := by decide +kernel
theorem dX7_metTwos_19 : decode cX7_metTwos 19 = .ok (.iload_n 1, 1) := by decide +kernel
theorem dX7_metTwos_20 : decode cX7_metTwos 20 = .ok (.aload_n 0, 1) := by decide +kernel
theorem dX7_metTwos_21 : decode cX7_metTwos 21 = .ok (.iload_n 2, 1) := by decide +kernel
theorem dX7_metTwos_22 : decode cX7_metTwos 22 = .ok (.iload_n 3, 1) := by decide +kernel
theorem dX7_metTwos_23 : decode cX7_metTwos 23 = .ok (.invokevirtual 187, 3) := by decide +kernel
theorem dX7_metTwos_26 : decode cX7_metTwos 26 = .ok (.ifCond .lt 7, 3) := by decide +kernel
theorem dX7_metTwos_29 : decode cX7_metTwos 29 = .ok (.iconst 1, 1) := by decide +kernel
theorem dX7_metTwos_30 : decode cX7_metTwos 30 = .ok (.goto 4, 3) := by decide +kernel
theorem dX7_metTwos_33 : decode cX7_metTwos 33 = .ok (.iconst 0, 1) := by decide +kernel
theorem dX7_metTwos_34 : decode cX7_metTwos 34 = .ok (.iadd, 1) := by decide +kernel
theorem dX7_metTwos_35 : decode cX7_metTwos 35 = .ok (.istore_n 1, 1) := by decide +kernel
theorem dX7_metTwos_36 : decode cX7_metTwos 36 = .ok (.iinc 3 1, 3) := by decide +kernel
theorem dX7_metTwos_39 : decode cX7_metTwos 39 = .ok (.goto (-25), 3) := by decide +kernel
theorem dX7_metTwos_42 : decode cX7_metTwos 42 = .ok (.iinc 2 1, 3) := by decide +kernel
theorem dX7_metTwos_45 : decode cX7_metTwos 45 = .ok (.goto (-41), 3) := by decide +kernel
theorem dX7_metTwos_48 : decode cX7_metTwos 48 = .ok (.iload_n 1, 1) := by decide +kernel
theorem dX7_metTwos_49 : decode cX7_metTwos 49 = .ok (.ireturn, 1) := by decide +kernel
theorem dX7_allPoints_0 : decode cX7_allPoints 0 = .ok (.iconst 0, 1) := by decide +kernel
theorem dX7_allPoints_1 : decode cX7_allPoints 1 = .ok (.istore_n 1, 1) := by decide +kernel
theorem dX7_allPoints_2 : decode cX7_allPoints 2 = .ok (.iconst 0, 1) := by decide +kernel
theorem dX7_allPoints_3 : decode cX7_allPoints 3 = .ok (.istore_n 2, 1) := by decide +kernel
theorem dX7_allPoints_4 : decode cX7_allPoints 4 = .ok (.iload_n 2, 1) := by decide +kernel
theorem dX7_allPoints_5 : decode cX7_allPoints 5 = .ok (.aload_n 0, 1) := by decide +kernel
theorem dX7_allPoints_6 : decode cX7_allPoints 6 = .ok (.getfield 78, 3) := by decide +kernel
theorem dX7_allPoints_9 : decode cX7_allPoints 9 = .ok (.if_icmp .ge 17, 3) := by decide +kernel
theorem dX7_allPoints_12 : decode cX7_allPoints 12 = .ok (.iload_n 1, 1) := by decide +kernel
theorem dX7_allPoints_13 : decode cX7_allPoints 13 = .ok (.aload_n 0, 1) := by decide +kernel
theorem dX7_allPoints_14 : decode cX7_allPoints 14 = .ok (.iload_n 2, 1) := by decide +kernel
theorem dX7_allPoints_15 : decode cX7_allPoints 15 = .ok (.invokevirtual 128, 3) := by decide +kernel
theorem dX7_allPoints_18 : decode cX7_allPoints 18 = .ok (.iadd, 1) := by decide +kernel
theorem dX7_allPoints_19 : decode cX7_allPoints 19 = .ok (.istore_n 1, 1) := by decide +kernel
theorem dX7_allPoints_20 : decode cX7_allPoints 20 = .ok (.iinc 2 1, 3) := by decide +kernel
theorem dX7_allPoints_23 : decode cX7_allPoints 23 = .ok (.goto (-19), 3) := by decide +kernel
theorem dX7_allPoints_26 : decode cX7_allPoints 26 = .ok (.iload_n 1, 1) := by decide +kernel
theorem dX7_allPoints_27 : decode cX7_allPoints 27 = .ok (.ireturn, 1) := by decide +kernel
theorem dX7_told_0 : decode cX7_told 0 = .ok (.aload_n 0, 1) := by decide +kernel
theorem dX7_told_1 : decode cX7_told 1 = .ok (.iconst 0, 1) := by decide +kernel
theorem dX7_told_2 : decode cX7_told 2 = .ok (.putfield 75, 3) := by decide +kernel
theorem dX7_told_5 : decode cX7_told 5 = .ok (.iload_n 1, 1) := by decide +kernel
theorem dX7_told_6 : decode cX7_told 6 = .ok (.tableswitch 115 0 8 #[50, 55, 60, 65, 70, 95, 100, 105, 110], 50) := by decide +kernel
theorem dX7_told_56 : decode cX7_told 56 = .ok (.aload_n 0, 1) := by decide +kernel
theorem dX7_told_57 : decode cX7_told 57 = .ok (.getfield 78, 3) := by decide +kernel
theorem dX7_told_60 : decode cX7_told 60 = .ok (.ireturn, 1) := by decide +kernel
theorem dX7_told_61 : decode cX7_told 61 = .ok (.aload_n 0, 1) := by decide +kernel
theorem dX7_told_62 : decode cX7_told 62 = .ok (.invokevirtual 175, 3) := by decide +kernel
theorem dX7_told_65 : decode cX7_told 65 = .ok (.ireturn, 1) := by decide +kernel
theorem dX7_told_66 : decode cX7_told 66 = .ok (.aload_n 0, 1) := by decide +kernel
theorem dX7_told_67 : decode cX7_told 67 = .ok (.getfield 89, 3) := by decide +kernel
theorem dX7_told_70 : decode cX7_told 70 = .ok (.ireturn, 1) := by decide +kernel
theorem dX7_told_71 : decode cX7_told 71 = .ok (.aload_n 0, 1) := by decide +kernel
theorem dX7_told_72 : decode cX7_told 72 = .ok (.invokevirtual 99, 3) := by decide +kernel
theorem dX7_told_75 : decode cX7_told 75 = .ok (.ireturn, 1) := by decide +kernel
theorem dX7_told_76 : decode cX7_told 76 = .ok (.aload_n 0, 1) := by decide +kernel
theorem dX7_told_77 : decode cX7_told 77 = .ok (.getfield 92, 3) := by decide +kernel
theorem dX7_told_80 : decode cX7_told 80 = .ok (.iconst 1, 1) := by decide +kernel
theorem dX7_told_81 : decode cX7_told 81 = .ok (.if_icmp .ne 17, 3) := by decide +kernel
theorem dX7_told_84 : decode cX7_told 84 = .ok (.aload_n 0, 1) := by decide +kernel
theorem dX7_told_85 : decode cX7_told 85 = .ok (.getfield 16, 3) := by decide +kernel
theorem dX7_told_88 : decode cX7_told 88 = .ok (.aload_n 0, 1) := by decide +kernel
theorem dX7_told_89 : decode cX7_told 89 = .ok (.getfield 89, 3) := by decide +kernel
theorem dX7_told_92 : decode cX7_told 92 = .ok (.iconst 1, 1) := by decide +kernel
theorem dX7_told_93 : decode cX7_told 93 = .ok (.isub, 1) := by decide +kernel
theorem dX7_told_94 : decode cX7_told 94 = .ok (.iaload, 1) := by decide +kernel
theorem dX7_told_95 : decode cX7_told 95 = .ok (.goto 5, 3) := by decide +kernel
theorem dX7_told_98 : decode cX7_told 98 = .ok (.bipush (-5), 2) := by decide +kernel
theorem dX7_told_100 : decode cX7_told 100 = .ok (.ireturn, 1) := by decide +kernel
theorem dX7_told_101 : decode cX7_told 101 = .ok (.aload_n 0, 1) := by decide +kernel
theorem dX7_told_102 : decode cX7_told 102 = .ok (.getfield 235, 3) := by decide +kernel
theorem dX7_told_105 : decode cX7_told 105 = .ok (.ireturn, 1) := by decide +kernel
theorem dX7_told_106 : decode cX7_told 106 = .ok (.aload_n 0, 1) := by decide +kernel
theorem dX7_told_107 : decode cX7_told 107 = .ok (.getfield 247, 3) := by decide +kernel
theorem dX7_told_110 : decode cX7_told 110 = .ok (.ireturn, 1) := by decide +kernel
theorem dX7_told_111 : decode cX7_told 111 = .ok (.aload_n 0, 1) := by decide +kernel
theorem dX7_told_112 : decode cX7_told 112 = .ok (.invokevirtual 261, 3) := by decide +kernel
theorem dX7_told_115 : decode cX7_told 115 = .ok (.ireturn, 1) := by decide +kernel
theorem dX7_told_116 : decode cX7_told 116 = .ok (.aload_n 0, 1) := by decide +kernel
theorem dX7_told_117 : decode cX7_told 117 = .ok (.invokevirtual 264, 3) := by decide +kernel
theorem dX7_told_120 : decode cX7_told 120 = .ok (.ireturn, 1) := by decide +kernel
theorem dX7_told_121 : decode cX7_told 121 = .ok (.iconst (-1), 1) := by decide +kernel
theorem dX7_told_122 : decode cX7_told 122 = .ok (.ireturn, 1) := by decide +kernel
theorem dX7_isList_0 : decode cX7_isList 0 = .ok (.iload_n 0, 1) := by decide +kernel
theorem dX7_isList_1 : decode cX7_isList 1 = .ok (.i2l, 1) := by decide +kernel
theorem dX7_isList_2 : decode cX7_isList 2 = .ok (.lconst 0, 1) := by decide +kernel
theorem dX7_isList_3 : decode cX7_isList 3 = .ok (.ldc2_w 103, 3) := by decide +kernel
theorem dX7_isList_6 : decode cX7_isList 6 = .ok (.invokestatic 81, 3) := by decide +kernel
theorem dX7_isList_9 : decode cX7_isList 9 = .ok (.ireturn, 1) := by decide +kernel
theorem dX7_list_0 : decode cX7_list 0 = .ok (.aload_n 0, 1) := by decide +kernel
theorem dX7_list_1 : decode cX7_list 1 = .ok (.iconst 0, 1) := by decide +kernel
theorem dX7_list_2 : decode cX7_list 2 = .ok (.putfield 75, 3) := by decide +kernel
theorem dX7_list_5 : decode cX7_list 5 = .ok (.iload_n 1, 1) := by decide +kernel
theorem dX7_list_6 : decode cX7_list 6 = .ok (.invokestatic 267, 3) := by decide +kernel
theorem dX7_list_9 : decode cX7_list 9 = .ok (.ifCond .ne 5, 3) := by decide +kernel
theorem dX7_list_12 : decode cX7_list 12 = .ok (.iconst (-1), 1) := by decide +kernel
theorem dX7_list_13 : decode cX7_list 13 = .ok (.ireturn, 1) := by decide +kernel
theorem dX7_list_14 : decode cX7_list 14 = .ok (.iload_n 2, 1) := by decide +kernel
theorem dX7_list_15 : decode cX7_list 15 = .ok (.bipush 20, 2) := by decide +kernel
theorem dX7_list_17 : decode cX7_list 17 = .ok (.if_icmp .gt 7, 3) := by decide +kernel
theorem dX7_list_20 : decode cX7_list 20 = .ok (.iload_n 2, 1) := by decide +kernel
theorem dX7_list_21 : decode cX7_list 21 = .ok (.ifCond .ge 15, 3) := by decide +kernel
theorem dX7_list_24 : decode cX7_list 24 = .ok (.iload_n 2, 1) := by decide +kernel
theorem dX7_list_25 : decode cX7_list 25 = .ok (.ifCond .ge 8, 3) := by decide +kernel
theorem dX7_list_28 : decode cX7_list 28 = .ok (.bipush (-14), 2) := by decide +kernel
theorem dX7_list_30 : decode cX7_list 30 = .ok (.goto 5, 3) := by decide +kernel
theorem dX7_list_33 : decode cX7_list 33 = .ok (.bipush (-2), 2) := by decide +kernel
theorem dX7_list_35 : decode cX7_list 35 = .ok (.ireturn, 1) := by decide +kernel
theorem dX7_list_36 : decode cX7_list 36 = .ok (.aload_n 0, 1) := by decide +kernel
theorem dX7_list_37 : decode cX7_list 37 = .ok (.getfield 62, 3) := by decide +kernel
theorem dX7_list_40 : decode cX7_list 40 = .ok (.iload_n 1, 1) := by decide +kernel
theorem dX7_list_41 : decode cX7_list 41 = .ok (.iconst 1, 1) := by decide +kernel
theorem dX7_list_42 : decode cX7_list 42 = .ok (.bastore, 1) := by decide +kernel
theorem dX7_list_43 : decode cX7_list 43 = .ok (.aload_n 0, 1) := by decide +kernel
theorem dX7_list_44 : decode cX7_list 44 = .ok (.getfield 66, 3) := by decide +kernel
theorem dX7_list_47 : decode cX7_list 47 = .ok (.iload_n 1, 1) := by decide +kernel
theorem dX7_list_48 : decode cX7_list 48 = .ok (.iload_n 2, 1) := by decide +kernel
theorem dX7_list_49 : decode cX7_list 49 = .ok (.iastore, 1) := by decide +kernel
theorem dX7_list_50 : decode cX7_list 50 = .ok (.iconst 0, 1) := by decide +kernel
theorem dX7_list_51 : decode cX7_list 51 = .ok (.istore_n 3, 1) := by decide +kernel
theorem dX7_list_52 : decode cX7_list 52 = .ok (.iload_n 3, 1) := by decide +kernel
theorem dX7_list_53 : decode cX7_list 53 = .ok (.bipush 20, 2) := by decide +kernel
theorem dX7_list_55 : decode cX7_list 55 = .ok (.if_icmp .ge 21, 3) := by decide +kernel
theorem dX7_list_58 : decode cX7_list 58 = .ok (.aload_n 0, 1) := by decide +kernel
theorem dX7_list_59 : decode cX7_list 59 = .ok (.getfield 69, 3) := by decide +kernel
theorem dX7_list_62 : decode cX7_list 62 = .ok (.bipush 20, 2) := by decide +kernel
theorem dX7_list_64 : decode cX7_list 64 = .ok (.iload_n 1, 1) := by decide +kernel
theorem dX7_list_65 : decode cX7_list 65 = .ok (.imul, 1) := by decide +kernel
theorem dX7_list_66 : decode cX7_list 66 = .ok (.iload_n 3, 1) := by decide +kernel
theorem dX7_list_67 : decode cX7_list 67 = .ok (.iadd, 1) := by decide +kernel
theorem dX7_list_68 : decode cX7_list 68 = .ok (.iconst 0, 1) := by decide +kernel
theorem dX7_list_69 : decode cX7_list 69 = .ok (.iastore, 1) := by decide +kernel
theorem dX7_list_70 : decode cX7_list 70 = .ok (.iinc 3 1, 3) := by decide +kernel
theorem dX7_list_73 : decode cX7_list 73 = .ok (.goto (-21), 3) := by decide +kernel
theorem dX7_list_76 : decode cX7_list 76 = .ok (.iconst 1, 1) := by decide +kernel
theorem dX7_list_77 : decode cX7_list 77 = .ok (.ireturn, 1) := by decide +kernel
theorem dX7_set_0 : decode cX7_set 0 = .ok (.aload_n 0, 1) := by decide +kernel
theorem dX7_set_1 : decode cX7_set 1 = .ok (.iconst 0, 1) := by decide +kernel
theorem dX7_set_2 : decode cX7_set 2 = .ok (.putfield 75, 3) := by decide +kernel
theorem dX7_set_5 : decode cX7_set 5 = .ok (.iload_n 1, 1) := by decide +kernel
theorem dX7_set_6 : decode cX7_set 6 = .ok (.invokestatic 267, 3) := by decide +kernel
theorem dX7_set_9 : decode cX7_set 9 = .ok (.ifCond .eq 12, 3) := by decide +kernel
theorem dX7_set_12 : decode cX7_set 12 = .ok (.aload_n 0, 1) := by decide +kernel
theorem dX7_set_13 : decode cX7_set 13 = .ok (.getfield 62, 3) := by decide +kernel
theorem dX7_set_16 : decode cX7_set 16 = .ok (.iload_n 1, 1) := by decide +kernel
theorem dX7_set_17 : decode cX7_set 17 = .ok (.baload, 1) := by decide +kernel
theorem dX7_set_18 : decode cX7_set 18 = .ok (.ifCond .ne 17, 3) := by decide +kernel
theorem dX7_set_21 : decode cX7_set 21 = .ok (.iload_n 1, 1) := by decide +kernel
theorem dX7_set_22 : decode cX7_set 22 = .ok (.invokestatic 267, 3) := by decide +kernel
theorem dX7_set_25 : decode cX7_set 25 = .ok (.ifCond .eq 8, 3) := by decide +kernel
theorem dX7_set_28 : decode cX7_set 28 = .ok (.bipush (-11), 2) := by decide +kernel
theorem dX7_set_30 : decode cX7_set 30 = .ok (.goto 4, 3) := by decide +kernel
theorem dX7_set_33 : decode cX7_set 33 = .ok (.iconst (-1), 1) := by decide +kernel
theorem dX7_set_34 : decode cX7_set 34 = .ok (.ireturn, 1) := by decide +kernel
theorem dX7_set_35 : decode cX7_set 35 = .ok (.iload_n 2, 1) := by decide +kernel
theorem dX7_set_36 : decode cX7_set 36 = .ok (.i2l, 1) := by decide +kernel
theorem dX7_set_37 : decode cX7_set 37 = .ok (.lconst 0, 1) := by decide +kernel
theorem dX7_set_38 : decode cX7_set 38 = .ok (.aload_n 0, 1) := by decide +kernel
theorem dX7_set_39 : decode cX7_set 39 = .ok (.getfield 66, 3) := by decide +kernel
theorem dX7_set_42 : decode cX7_set 42 = .ok (.iload_n 1, 1) := by decide +kernel
theorem dX7_set_43 : decode cX7_set 43 = .ok (.iaload, 1) := by decide +kernel
theorem dX7_set_44 : decode cX7_set 44 = .ok (.iconst 1, 1) := by decide +kernel
theorem dX7_set_45 : decode cX7_set 45 = .ok (.isub, 1) := by decide +kernel
theorem dX7_set_46 : decode cX7_set 46 = .ok (.i2l, 1) := by decide +kernel
theorem dX7_set_47 : decode cX7_set 47 = .ok (.invokestatic 81, 3) := by decide +kernel
theorem dX7_set_50 : decode cX7_set 50 = .ok (.ifCond .ne 6, 3) := by decide +kernel
theorem dX7_set_53 : decode cX7_set 53 = .ok (.bipush (-13), 2) := by decide +kernel
theorem dX7_set_55 : decode cX7_set 55 = .ok (.ireturn, 1) := by decide +kernel
theorem dX7_set_56 : decode cX7_set 56 = .ok (.aload_n 0, 1) := by decide +kernel
theorem dX7_set_57 : decode cX7_set 57 = .ok (.getfield 69, 3) := by decide +kernel
theorem dX7_set_60 : decode cX7_set 60 = .ok (.bipush 20, 2) := by decide +kernel
theorem dX7_set_62 : decode cX7_set 62 = .ok (.iload_n 1, 1) := by decide +kernel
theorem dX7_set_63 : decode cX7_set 63 = .ok (.imul, 1) := by decide +kernel
theorem dX7_set_64 : decode cX7_set 64 = .ok (.iload_n 2, 1) := by decide +kernel
theorem dX7_set_65 : decode cX7_set 65 = .ok (.iadd, 1) := by decide +kernel
theorem dX7_set_66 : decode cX7_set 66 = .ok (.iload_n 3, 1) := by decide +kernel
theorem dX7_set_67 : decode cX7_set 67 = .ok (.iastore, 1) := by decide +kernel
theorem dX7_set_68 : decode cX7_set 68 = .ok (.iconst 1, 1) := by decide +kernel
theorem dX7_set_69 : decode cX7_set 69 = .ok (.ireturn, 1) := by decide +kernel
theorem dX7_get_0 : decode cX7_get 0 = .ok (.aload_n 0, 1) := by decide +kernel
theorem dX7_get_1 : decode cX7_get 1 = .ok (.iconst 0, 1) := by decide +kernel
theorem dX7_get_2 : decode cX7_get 2 = .ok (.putfield 75, 3) := by decide +kernel
theorem dX7_get_5 : decode cX7_get 5 = .ok (.iload_n 1, 1) := by decide +kernel
theorem dX7_get_6 : decode cX7_get 6 = .ok (.invokestatic 267, 3) := by decide +kernel
theorem dX7_get_9 : decode cX7_get 9 = .ok (.ifCond .eq 44, 3) := by decide +kernel
theorem dX7_get_12 : decode cX7_get 12 = .ok (.aload_n 0, 1) := by decide +kernel
theorem dX7_get_13 : decode cX7_get 13 = .ok (.getfield 62, 3) := by decide +kernel
theorem dX7_get_16 : decode cX7_get 16 = .ok (.iload_n 1, 1) := by decide +kernel
theorem dX7_get_17 : decode cX7_get 17 = .ok (.baload, 1) := by decide +kernel
theorem dX7_get_18 : decode cX7_get 18 = .ok (.ifCond .eq 35, 3) := by decide +kernel
theorem dX7_get_21 : decode cX7_get 21 = .ok (.iload_n 2, 1) := by decide +kernel
theorem dX7_get_22 : decode cX7_get 22 = .ok (.i2l, 1) := by decide +kernel
theorem dX7_get_23 : decode cX7_get 23 = .ok (.lconst 0, 1) := by decide +kernel
theorem dX7_get_24 : decode cX7_get 24 = .ok (.aload_n 0, 1) := by decide +kernel
theorem dX7_get_25 : decode cX7_get 25 = .ok (.getfield 66, 3) := by decide +kernel
theorem dX7_get_28 : decode cX7_get 28 = .ok (.iload_n 1, 1) := by decide +kernel
theorem dX7_get_29 : decode cX7_get 29 = .ok (.iaload, 1) := by decide +kernel
theorem dX7_get_30 : decode cX7_get 30 = .ok (.iconst 1, 1) := by decide +kernel
theorem dX7_get_31 : decode cX7_get 31 = .ok (.isub, 1) := by decide +kernel
theorem dX7_get_32 : decode cX7_get 32 = .ok (.i2l, 1) := by decide +kernel
theorem dX7_get_33 : decode cX7_get 33 = .ok (.invokestatic 81, 3) := by decide +kernel
theorem dX7_get_36 : decode cX7_get 36 = .ok (.ifCond .eq 17, 3) := by decide +kernel
theorem dX7_get_39 : decode cX7_get 39 = .ok (.aload_n 0, 1) := by decide +kernel
theorem dX7_get_40 : decode cX7_get 40 = .ok (.getfield 69, 3) := by decide +kernel
theorem dX7_get_43 : decode cX7_get 43 = .ok (.bipush 20, 2) := by decide +kernel
theorem dX7_get_45 : decode cX7_get 45 = .ok (.iload_n 1, 1) := by decide +kernel
theorem dX7_get_46 : decode cX7_get 46 = .ok (.imul, 1) := by decide +kernel
theorem dX7_get_47 : decode cX7_get 47 = .ok (.iload_n 2, 1) := by decide +kernel
theorem dX7_get_48 : decode cX7_get 48 = .ok (.iadd, 1) := by decide +kernel
theorem dX7_get_49 : decode cX7_get 49 = .ok (.iaload, 1) := by decide +kernel
theorem dX7_get_50 : decode cX7_get 50 = .ok (.goto 6, 3) := by decide +kernel
theorem dX7_get_53 : decode cX7_get 53 = .ok (.ldc_w 270, 3) := by decide +kernel
theorem dX7_get_56 : decode cX7_get 56 = .ok (.ireturn, 1) := by decide +kernel
theorem dX7_lay_0 : decode cX7_lay 0 = .ok (.aload_n 0, 1) := by decide +kernel
theorem dX7_lay_1 : decode cX7_lay 1 = .ok (.iconst 0, 1) := by decide +kernel
theorem dX7_lay_2 : decode cX7_lay 2 = .ok (.putfield 75, 3) := by decide +kernel
theorem dX7_lay_5 : decode cX7_lay 5 = .ok (.iload_n 1, 1) := by decide +kernel
theorem dX7_lay_6 : decode cX7_lay 6 = .ok (.invokestatic 267, 3) := by decide +kernel
theorem dX7_lay_9 : decode cX7_lay 9 = .ok (.ifCond .eq 12, 3) := by decide +kernel
theorem dX7_lay_12 : decode cX7_lay 12 = .ok (.aload_n 0, 1) := by decide +kernel
theorem dX7_lay_13 : decode cX7_lay 13 = .ok (.getfield 62, 3) := by decide +kernel
theorem dX7_lay_16 : decode cX7_lay 16 = .ok (.iload_n 1, 1) := by decide +kernel
theorem dX7_lay_17 : decode cX7_lay 17 = .ok (.baload, 1) := by decide +kernel
theorem dX7_lay_18 : decode cX7_lay 18 = .ok (.ifCond .ne 17, 3) := by decide +kernel
theorem dX7_lay_21 : decode cX7_lay 21 = .ok (.iload_n 1, 1) := by decide +kernel
theorem dX7_lay_22 : decode cX7_lay 22 = .ok (.invokestatic 267, 3) := by decide +kernel
theorem dX7_lay_25 : decode cX7_lay 25 = .ok (.ifCond .eq 8, 3) := by decide +kernel
theorem dX7_lay_28 : decode cX7_lay 28 = .ok (.bipush (-11), 2) := by decide +kernel
theorem dX7_lay_30 : decode cX7_lay 30 = .ok (.goto 4, 3) := by decide +kernel
theorem dX7_lay_33 : decode cX7_lay 33 = .ok (.iconst (-1), 1) := by decide +kernel
theorem dX7_lay_34 : decode cX7_lay 34 = .ok (.ireturn, 1) := by decide +kernel
theorem dX7_lay_35 : decode cX7_lay 35 = .ok (.aload_n 0, 1) := by decide +kernel
theorem dX7_lay_36 : decode cX7_lay 36 = .ok (.invokevirtual 178, 3) := by decide +kernel
theorem dX7_lay_39 : decode cX7_lay 39 = .ok (.iconst 0, 1) := by decide +kernel
theorem dX7_lay_40 : decode cX7_lay 40 = .ok (.istore_n 3, 1) := by decide +kernel
theorem dX7_lay_41 : decode cX7_lay 41 = .ok (.iload_n 3, 1) := by decide +kernel
theorem dX7_lay_42 : decode cX7_lay 42 = .ok (.aload_n 0, 1) := by decide +kernel
theorem dX7_lay_43 : decode cX7_lay 43 = .ok (.getfield 78, 3) := by decide +kernel
theorem dX7_lay_46 : decode cX7_lay 46 = .ok (.if_icmp .ge 51, 3) := by decide +kernel
theorem dX7_lay_49 : decode cX7_lay 49 = .ok (.iload_n 2, 1) := by decide +kernel
theorem dX7_lay_50 : decode cX7_lay 50 = .ok (.ifCond .lt 19, 3) := by decide +kernel
theorem dX7_lay_53 : decode cX7_lay 53 = .ok (.iload_n 2, 1) := by decide +kernel
theorem dX7_lay_54 : decode cX7_lay 54 = .ok (.i2l, 1) := by decide +kernel
theorem dX7_lay_55 : decode cX7_lay 55 = .ok (.iload_n 3, 1) := by decide +kernel
theorem dX7_lay_56 : decode cX7_lay 56 = .ok (.i2l, 1) := by decide +kernel
theorem dX7_lay_57 : decode cX7_lay 57 = .ok (.ladd, 1) := by decide +kernel
theorem dX7_lay_58 : decode cX7_lay 58 = .ok (.aload_n 0, 1) := by decide +kernel
theorem dX7_lay_59 : decode cX7_lay 59 = .ok (.getfield 66, 3) := by decide +kernel
theorem dX7_lay_62 : decode cX7_lay 62 = .ok (.iload_n 1, 1) := by decide +kernel
theorem dX7_lay_63 : decode cX7_lay 63 = .ok (.iaload, 1) := by decide +kernel
theorem dX7_lay_64 : decode cX7_lay 64 = .ok (.i2l, 1) := by decide +kernel
theorem dX7_lay_65 : decode cX7_lay 65 = .ok (.lcmp, 1) := by decide +kernel
theorem dX7_lay_66 : decode cX7_lay 66 = .ok (.ifCond .lt 6, 3) := by decide +kernel
theorem dX7_lay_69 : decode cX7_lay 69 = .ok (.bipush (-13), 2) := by decide +kernel
theorem dX7_lay_71 : decode cX7_lay 71 = .ok (.ireturn, 1) := by decide +kernel
theorem dX7_lay_72 : decode cX7_lay 72 = .ok (.aload_n 0, 1) := by decide +kernel
theorem dX7_lay_73 : decode cX7_lay 73 = .ok (.getfield 69, 3) := by decide +kernel
theorem dX7_lay_76 : decode cX7_lay 76 = .ok (.bipush 20, 2) := by decide +kernel
theorem dX7_lay_78 : decode cX7_lay 78 = .ok (.iload_n 1, 1) := by decide +kernel
theorem dX7_lay_79 : decode cX7_lay 79 = .ok (.imul, 1) := by decide +kernel
theorem dX7_lay_80 : decode cX7_lay 80 = .ok (.iload_n 2, 1) := by decide +kernel
theorem dX7_lay_81 : decode cX7_lay 81 = .ok (.iadd, 1) := by decide +kernel
theorem dX7_lay_82 : decode cX7_lay 82 = .ok (.iload_n 3, 1) := by decide +kernel
theorem dX7_lay_83 : decode cX7_lay 83 = .ok (.iadd, 1) := by decide +kernel
theorem dX7_lay_84 : decode cX7_lay 84 = .ok (.aload_n 0, 1) := by decide +kernel
theorem dX7_lay_85 : decode cX7_lay 85 = .ok (.getfield 41, 3) := by decide +kernel
theorem dX7_lay_88 : decode cX7_lay 88 = .ok (.iload_n 3, 1) := by decide +kernel
theorem dX7_lay_89 : decode cX7_lay 89 = .ok (.iaload, 1) := by decide +kernel
theorem dX7_lay_90 : decode cX7_lay 90 = .ok (.iastore, 1) := by decide +kernel
theorem dX7_lay_91 : decode cX7_lay 91 = .ok (.iinc 3 1, 3) := by decide +kernel
theorem dX7_lay_94 : decode cX7_lay 94 = .ok (.goto (-53), 3) := by decide +kernel
theorem dX7_lay_97 : decode cX7_lay 97 = .ok (.aload_n 0, 1) := by decide +kernel
theorem dX7_lay_98 : decode cX7_lay 98 = .ok (.getfield 78, 3) := by decide +kernel
theorem dX7_lay_101 : decode cX7_lay 101 = .ok (.ireturn, 1) := by decide +kernel
theorem dX7_judge_0 : decode cX7_judge 0 = .ok (.aload_n 0, 1) := by decide +kernel
theorem dX7_judge_1 : decode cX7_judge 1 = .ok (.iconst 0, 1) := by decide +kernel
theorem dX7_judge_2 : decode cX7_judge 2 = .ok (.putfield 75, 3) := by decide +kernel
theorem dX7_judge_5 : decode cX7_judge 5 = .ok (.iload_n 1, 1) := by decide +kernel
theorem dX7_judge_6 : decode cX7_judge 6 = .ok (.invokestatic 267, 3) := by decide +kernel
theorem dX7_judge_9 : decode cX7_judge 9 = .ok (.ifCond .eq 12, 3) := by decide +kernel
theorem dX7_judge_12 : decode cX7_judge 12 = .ok (.aload_n 0, 1) := by decide +kernel
theorem dX7_judge_13 : decode cX7_judge 13 = .ok (.getfield 62, 3) := by decide +kernel
theorem dX7_judge_16 : decode cX7_judge 16 = .ok (.iload_n 1, 1) := by decide +kernel
theorem dX7_judge_17 : decode cX7_judge 17 = .ok (.baload, 1) := by decide +kernel
theorem dX7_judge_18 : decode cX7_judge 18 = .ok (.ifCond .ne 17, 3) := by decide +kernel
theorem dX7_judge_21 : decode cX7_judge 21 = .ok (.iload_n 1, 1) := by decide +kernel
theorem dX7_judge_22 : decode cX7_judge 22 = .ok (.invokestatic 267, 3) := by decide +kernel
theorem dX7_judge_25 : decode cX7_judge 25 = .ok (.ifCond .eq 8, 3) := by decide +kernel
theorem dX7_judge_28 : decode cX7_judge 28 = .ok (.bipush (-11), 2) := by decide +kernel
theorem dX7_judge_30 : decode cX7_judge 30 = .ok (.goto 4, 3) := by decide +kernel
theorem dX7_judge_33 : decode cX7_judge 33 = .ok (.iconst (-1), 1) := by decide +kernel
theorem dX7_judge_34 : decode cX7_judge 34 = .ok (.ireturn, 1) := by decide +kernel
theorem dX7_judge_35 : decode cX7_judge 35 = .ok (.aload_n 0, 1) := by decide +kernel
theorem dX7_judge_36 : decode cX7_judge 36 = .ok (.invokevirtual 178, 3) := by decide +kernel
theorem dX7_judge_39 : decode cX7_judge 39 = .ok (.iconst 0, 1) := by decide +kernel
theorem dX7_judge_40 : decode cX7_judge 40 = .ok (.istore_n 3, 1) := by decide +kernel
theorem dX7_judge_41 : decode cX7_judge 41 = .ok (.iload_n 3, 1) := by decide +kernel
theorem dX7_judge_42 : decode cX7_judge 42 = .ok (.aload_n 0, 1) := by decide +kernel
theorem dX7_judge_43 : decode cX7_judge 43 = .ok (.getfield 78, 3) := by decide +kernel
theorem dX7_judge_46 : decode cX7_judge 46 = .ok (.if_icmp .ge 58, 3) := by decide +kernel
theorem dX7_judge_49 : decode cX7_judge 49 = .ok (.iload_n 2, 1) := by decide +kernel
theorem dX7_judge_50 : decode cX7_judge 50 = .ok (.ifCond .lt 19, 3) := by decide +kernel
theorem dX7_judge_53 : decode cX7_judge 53 = .ok (.iload_n 2, 1) := by decide +kernel
theorem dX7_judge_54 : decode cX7_judge 54 = .ok (.i2l, 1) := by decide +kernel
theorem dX7_judge_55 : decode cX7_judge 55 = .ok (.iload_n 3, 1) := by decide +kernel
theorem dX7_judge_56 : decode cX7_judge 56 = .ok (.i2l, 1) := by decide +kernel
theorem dX7_judge_57 : decode cX7_judge 57 = .ok (.ladd, 1) := by decide +kernel
theorem dX7_judge_58 : decode cX7_judge 58 = .ok (.aload_n 0, 1) := by decide +kernel
theorem dX7_judge_59 : decode cX7_judge 59 = .ok (.getfield 66, 3) := by decide +kernel
theorem dX7_judge_62 : decode cX7_judge 62 = .ok (.iload_n 1, 1) := by decide +kernel
theorem dX7_judge_63 : decode cX7_judge 63 = .ok (.iaload, 1) := by decide +kernel
theorem dX7_judge_64 : decode cX7_judge 64 = .ok (.i2l, 1) := by decide +kernel
theorem dX7_judge_65 : decode cX7_judge 65 = .ok (.lcmp, 1) := by decide +kernel
theorem dX7_judge_66 : decode cX7_judge 66 = .ok (.ifCond .lt 8, 3) := by decide +kernel
theorem dX7_judge_69 : decode cX7_judge 69 = .ok (.bipush 100, 2) := by decide +kernel
theorem dX7_judge_71 : decode cX7_judge 71 = .ok (.iload_n 3, 1) := by decide +kernel
theorem dX7_judge_72 : decode cX7_judge 72 = .ok (.iadd, 1) := by decide +kernel
theorem dX7_judge_73 : decode cX7_judge 73 = .ok (.ireturn, 1) := by decide +kernel
theorem dX7_judge_74 : decode cX7_judge 74 = .ok (.aload_n 0, 1) := by decide +kernel
theorem dX7_judge_75 : decode cX7_judge 75 = .ok (.getfield 69, 3) := by decide +kernel
theorem dX7_judge_78 : decode cX7_judge 78 = .ok (.bipush 20, 2) := by decide +kernel
theorem dX7_judge_80 : decode cX7_judge 80 = .ok (.iload_n 1, 1) := by decide +kernel
theorem dX7_judge_81 : decode cX7_judge 81 = .ok (.imul, 1) := by decide +kernel
theorem dX7_judge_82 : decode cX7_judge 82 = .ok (.iload_n 2, 1) := by decide +kernel
theorem dX7_judge_83 : decode cX7_judge 83 = .ok (.iadd, 1) := by decide +kernel
theorem dX7_judge_84 : decode cX7_judge 84 = .ok (.iload_n 3, 1) := by decide +kernel
theorem dX7_judge_85 : decode cX7_judge 85 = .ok (.iadd, 1) := by decide +kernel
theorem dX7_judge_86 : decode cX7_judge 86 = .ok (.iaload, 1) := by decide +kernel
theorem dX7_judge_87 : decode cX7_judge 87 = .ok (.aload_n 0, 1) := by decide +kernel
theorem dX7_judge_88 : decode cX7_judge 88 = .ok (.getfield 41, 3) := by decide +kernel
theorem dX7_judge_91 : decode cX7_judge 91 = .ok (.iload_n 3, 1) := by decide +kernel
theorem dX7_judge_92 : decode cX7_judge 92 = .ok (.iaload, 1) := by decide +kernel
theorem dX7_judge_93 : decode cX7_judge 93 = .ok (.if_icmp .eq 5, 3) := by decide +kernel
theorem dX7_judge_96 : decode cX7_judge 96 = .ok (.iload_n 3, 1) := by decide +kernel
theorem dX7_judge_97 : decode cX7_judge 97 = .ok (.ireturn, 1) := by decide +kernel
theorem dX7_judge_98 : decode cX7_judge 98 = .ok (.iinc 3 1, 3) := by decide +kernel
theorem dX7_judge_101 : decode cX7_judge 101 = .ok (.goto (-60), 3) := by decide +kernel
theorem dX7_judge_104 : decode cX7_judge 104 = .ok (.bipush (-5), 2) := by decide +kernel
theorem dX7_judge_106 : decode cX7_judge 106 = .ok (.ireturn, 1) := by decide +kernel
theorem dX7_carry_0 : decode cX7_carry 0 = .ok (.aload_n 0, 1) := by decide +kernel
theorem dX7_carry_1 : decode cX7_carry 1 = .ok (.getfield 271, 3) := by decide +kernel
theorem dX7_carry_4 : decode cX7_carry 4 = .ok (.ifCond .eq 13, 3) := by decide +kernel
theorem dX7_carry_7 : decode cX7_carry 7 = .ok (.aload_n 0, 1) := by decide +kernel
theorem dX7_carry_8 : decode cX7_carry 8 = .ok (.getfield 275, 3) := by decide +kernel
theorem dX7_carry_11 : decode cX7_carry 11 = .ok (.aload_n 0, 1) := by decide +kernel
theorem dX7_carry_12 : decode cX7_carry 12 = .ok (.getfield 278, 3) := by decide +kernel
theorem dX7_carry_15 : decode cX7_carry 15 = .ok (.iload_n 1, 1) := by decide +kernel
theorem dX7_carry_16 : decode cX7_carry 16 = .ok (.iastore, 1) := by decide +kernel
theorem dX7_carry_17 : decode cX7_carry 17 = .ok (.aload_n 0, 1) := by decide +kernel
theorem dX7_carry_18 : decode cX7_carry 18 = .ok (.dup, 1) := by decide +kernel
theorem dX7_carry_19 : decode cX7_carry 19 = .ok (.getfield 278, 3) := by decide +kernel
theorem dX7_carry_22 : decode cX7_carry 22 = .ok (.iconst 1, 1) := by decide +kernel
theorem dX7_carry_23 : decode cX7_carry 23 = .ok (.iadd, 1) := by decide +kernel
theorem dX7_carry_24 : decode cX7_carry 24 = .ok (.putfield 278, 3) := by decide +kernel
theorem dX7_carry_27 : decode cX7_carry 27 = .ok (.aload_n 0, 1) := by decide +kernel
theorem dX7_carry_28 : decode cX7_carry 28 = .ok (.getfield 275, 3) := by decide +kernel
theorem dX7_carry_31 : decode cX7_carry 31 = .ok (.aload_n 0, 1) := by decide +kernel
theorem dX7_carry_32 : decode cX7_carry 32 = .ok (.getfield 278, 3) := by decide +kernel
theorem dX7_carry_35 : decode cX7_carry 35 = .ok (.iconst 1, 1) := by decide +kernel
theorem dX7_carry_36 : decode cX7_carry 36 = .ok (.isub, 1) := by decide +kernel
theorem dX7_carry_37 : decode cX7_carry 37 = .ok (.iaload, 1) := by decide +kernel
theorem dX7_carry_38 : decode cX7_carry 38 = .ok (.ireturn, 1) := by decide +kernel
theorem dX7_carryAll_0 : decode cX7_carryAll 0 = .ok (.aload_n 0, 1) := by decide +kernel
theorem dX7_carryAll_1 : decode cX7_carryAll 1 = .ok (.aload_n 0, 1) := by decide +kernel
theorem dX7_carryAll_2 : decode cX7_carryAll 2 = .ok (.getfield 72, 3) := by decide +kernel
theorem dX7_carryAll_5 : decode cX7_carryAll 5 = .ok (.putfield 275, 3) := by decide +kernel
theorem dX7_carryAll_8 : decode cX7_carryAll 8 = .ok (.aload_n 0, 1) := by decide +kernel
theorem dX7_carryAll_9 : decode cX7_carryAll 9 = .ok (.iload_n 1, 1) := by decide +kernel
theorem dX7_carryAll_10 : decode cX7_carryAll 10 = .ok (.putfield 271, 3) := by decide +kernel
theorem dX7_carryAll_13 : decode cX7_carryAll 13 = .ok (.aload_n 0, 1) := by decide +kernel
theorem dX7_carryAll_14 : decode cX7_carryAll 14 = .ok (.iconst 0, 1) := by decide +kernel
theorem dX7_carryAll_15 : decode cX7_carryAll 15 = .ok (.putfield 278, 3) := by decide +kernel
theorem dX7_carryAll_18 : decode cX7_carryAll 18 = .ok (.aload_n 0, 1) := by decide +kernel
theorem dX7_carryAll_19 : decode cX7_carryAll 19 = .ok (.aload_n 0, 1) := by decide +kernel
theorem dX7_carryAll_20 : decode cX7_carryAll 20 = .ok (.aload_n 0, 1) := by decide +kernel
theorem dX7_carryAll_21 : decode cX7_carryAll 21 = .ok (.getfield 78, 3) := by decide +kernel
theorem dX7_carryAll_24 : decode cX7_carryAll 24 = .ok (.invokevirtual 281, 3) := by decide +kernel
theorem dX7_carryAll_27 : decode cX7_carryAll 27 = .ok (.putfield 78, 3) := by decide +kernel
theorem dX7_carryAll_30 : decode cX7_carryAll 30 = .ok (.aload_n 0, 1) := by decide +kernel
theorem dX7_carryAll_31 : decode cX7_carryAll 31 = .ok (.aload_n 0, 1) := by decide +kernel
theorem dX7_carryAll_32 : decode cX7_carryAll 32 = .ok (.aload_n 0, 1) := by decide +kernel
theorem dX7_carryAll_33 : decode cX7_carryAll 33 = .ok (.getfield 89, 3) := by decide +kernel
theorem dX7_carryAll_36 : decode cX7_carryAll 36 = .ok (.invokevirtual 281, 3) := by decide +kernel
theorem dX7_carryAll_39 : decode cX7_carryAll 39 = .ok (.putfield 89, 3) := by decide +kernel
theorem dX7_carryAll_42 : decode cX7_carryAll 42 = .ok (.aload_n 0, 1) := by decide +kernel
theorem dX7_carryAll_43 : decode cX7_carryAll 43 = .ok (.aload_n 0, 1) := by decide +kernel
theorem dX7_carryAll_44 : decode cX7_carryAll 44 = .ok (.aload_n 0, 1) := by decide +kernel
theorem dX7_carryAll_45 : decode cX7_carryAll 45 = .ok (.getfield 92, 3) := by decide +kernel
theorem dX7_carryAll_48 : decode cX7_carryAll 48 = .ok (.invokevirtual 281, 3) := by decide +kernel
theorem dX7_carryAll_51 : decode cX7_carryAll 51 = .ok (.putfield 92, 3) := by decide +kernel
theorem dX7_carryAll_54 : decode cX7_carryAll 54 = .ok (.aload_n 0, 1) := by decide +kernel
theorem dX7_carryAll_55 : decode cX7_carryAll 55 = .ok (.aload_n 0, 1) := by decide +kernel
theorem dX7_carryAll_56 : decode cX7_carryAll 56 = .ok (.aload_n 0, 1) := by decide +kernel
theorem dX7_carryAll_57 : decode cX7_carryAll 57 = .ok (.getfield 31, 3) := by decide +kernel
theorem dX7_carryAll_60 : decode cX7_carryAll 60 = .ok (.invokevirtual 281, 3) := by decide +kernel
theorem dX7_carryAll_63 : decode cX7_carryAll 63 = .ok (.putfield 31, 3) := by decide +kernel
theorem dX7_carryAll_66 : decode cX7_carryAll 66 = .ok (.iconst 0, 1) := by decide +kernel
theorem dX7_carryAll_67 : decode cX7_carryAll 67 = .ok (.istore_n 2, 1) := by decide +kernel
theorem dX7_carryAll_68 : decode cX7_carryAll 68 = .ok (.iload_n 2, 1) := by decide +kernel
theorem dX7_carryAll_69 : decode cX7_carryAll 69 = .ok (.bipush 12, 2) := by decide +kernel
theorem dX7_carryAll_71 : decode cX7_carryAll 71 = .ok (.if_icmp .ge 41, 3) := by decide +kernel
theorem dX7_carryAll_74 : decode cX7_carryAll 74 = .ok (.aload_n 0, 1) := by decide +kernel
theorem dX7_carryAll_75 : decode cX7_carryAll 75 = .ok (.getfield 7, 3) := by decide +kernel
theorem dX7_carryAll_78 : decode cX7_carryAll 78 = .ok (.iload_n 2, 1) := by decide +kernel
theorem dX7_carryAll_79 : decode cX7_carryAll 79 = .ok (.aload_n 0, 1) := by decide +kernel
theorem dX7_carryAll_80 : decode cX7_carryAll 80 = .ok (.aload_n 0, 1) := by decide +kernel
theorem dX7_carryAll_81 : decode cX7_carryAll 81 = .ok (.getfield 7, 3) := by decide +kernel
theorem dX7_carryAll_84 : decode cX7_carryAll 84 = .ok (.iload_n 2, 1) := by decide +kernel
theorem dX7_carryAll_85 : decode cX7_carryAll 85 = .ok (.iaload, 1) := by decide +kernel
theorem dX7_carryAll_86 : decode cX7_carryAll 86 = .ok (.invokevirtual 281, 3) := by decide +kernel
theorem dX7_carryAll_89 : decode cX7_carryAll 89 = .ok (.iastore, 1) := by decide +kernel
theorem dX7_carryAll_90 : decode cX7_carryAll 90 = .ok (.aload_n 0, 1) := by decide +kernel
theorem dX7_carryAll_91 : decode cX7_carryAll 91 = .ok (.getfield 13, 3) := by decide +kernel
theorem dX7_carryAll_94 : decode cX7_carryAll 94 = .ok (.iload_n 2, 1) := by decide +kernel
theorem dX7_carryAll_95 : decode cX7_carryAll 95 = .ok (.aload_n 0, 1) := by decide +kernel
theorem dX7_carryAll_96 : decode cX7_carryAll 96 = .ok (.aload_n 0, 1) := by decide +kernel
theorem dX7_carryAll_97 : decode cX7_carryAll 97 = .ok (.getfield 13, 3) := by decide +kernel
theorem dX7_carryAll_100 : decode cX7_carryAll 100 = .ok (.iload_n 2, 1) := by decide +kernel
theorem dX7_carryAll_101 : decode cX7_carryAll 101 = .ok (.iaload, 1) := by decide +kernel
theorem dX7_carryAll_102 : decode cX7_carryAll 102 = .ok (.invokevirtual 281, 3) := by decide +kernel
theorem dX7_carryAll_105 : decode cX7_carryAll 105 = .ok (.iastore, 1) := by decide +kernel
theorem dX7_carryAll_106 : decode cX7_carryAll 106 = .ok (.iinc 2 1, 3) := by decide +kernel
theorem dX7_carryAll_109 : decode cX7_carryAll 109 = .ok (.goto (-41), 3) := by decide +kernel
theorem dX7_carryAll_112 : decode cX7_carryAll 112 = .ok (.iconst 0, 1) := by decide +kernel
theorem dX7_carryAll_113 : decode cX7_carryAll 113 = .ok (.istore_n 2, 1) := by decide +kernel
theorem dX7_carryAll_114 : decode cX7_carryAll 114 = .ok (.iload_n 2, 1) := by decide +kernel
theorem dX7_carryAll_115 : decode cX7_carryAll 115 = .ok (.bipush 9, 2) := by decide +kernel
theorem dX7_carryAll_117 : decode cX7_carryAll 117 = .ok (.if_icmp .ge 25, 3) := by decide +kernel
theorem dX7_carryAll_120 : decode cX7_carryAll 120 = .ok (.aload_n 0, 1) := by decide +kernel
theorem dX7_carryAll_121 : decode cX7_carryAll 121 = .ok (.getfield 35, 3) := by decide +kernel
theorem dX7_carryAll_124 : decode cX7_carryAll 124 = .ok (.iload_n 2, 1) := by decide +kernel
theorem dX7_carryAll_125 : decode cX7_carryAll 125 = .ok (.aload_n 0, 1) := by decide +kernel
theorem dX7_carryAll_126 : decode cX7_carryAll 126 = .ok (.aload_n 0, 1) := by decide +kernel
theorem dX7_carryAll_127 : decode cX7_carryAll 127 = .ok (.getfield 35, 3) := by decide +kernel
theorem dX7_carryAll_130 : decode cX7_carryAll 130 = .ok (.iload_n 2, 1) := by decide +kernel
theorem dX7_carryAll_131 : decode cX7_carryAll 131 = .ok (.iaload, 1) := by decide +kernel
theorem dX7_carryAll_132 : decode cX7_carryAll 132 = .ok (.invokevirtual 281, 3) := by decide +kernel
theorem dX7_carryAll_135 : decode cX7_carryAll 135 = .ok (.iastore, 1) := by decide +kernel
theorem dX7_carryAll_136 : decode cX7_carryAll 136 = .ok (.iinc 2 1, 3) := by decide +kernel
theorem dX7_carryAll_139 : decode cX7_carryAll 139 = .ok (.goto (-25), 3) := by decide +kernel
theorem dX7_carryAll_142 : decode cX7_carryAll 142 = .ok (.iconst 0, 1) := by decide +kernel
theorem dX7_carryAll_143 : decode cX7_carryAll 143 = .ok (.istore_n 2, 1) := by decide +kernel
theorem dX7_carryAll_144 : decode cX7_carryAll 144 = .ok (.iload_n 2, 1) := by decide +kernel
theorem dX7_carryAll_145 : decode cX7_carryAll 145 = .ok (.bipush 20, 2) := by decide +kernel
theorem dX7_carryAll_147 : decode cX7_carryAll 147 = .ok (.if_icmp .ge 41, 3) := by decide +kernel
theorem dX7_carryAll_150 : decode cX7_carryAll 150 = .ok (.aload_n 0, 1) := by decide +kernel
theorem dX7_carryAll_151 : decode cX7_carryAll 151 = .ok (.getfield 16, 3) := by decide +kernel
theorem dX7_carryAll_154 : decode cX7_carryAll 154 = .ok (.iload_n 2, 1) := by decide +kernel
theorem dX7_carryAll_155 : decode cX7_carryAll 155 = .ok (.aload_n 0, 1) := by decide +kernel
theorem dX7_carryAll_156 : decode cX7_carryAll 156 = .ok (.aload_n 0, 1) := by decide +kernel
theorem dX7_carryAll_157 : decode cX7_carryAll 157 = .ok (.getfield 16, 3) := by decide +kernel
theorem dX7_carryAll_160 : decode cX7_carryAll 160 = .ok (.iload_n 2, 1) := by decide +kernel
theorem dX7_carryAll_161 : decode cX7_carryAll 161 = .ok (.iaload, 1) := by decide +kernel
theorem dX7_carryAll_162 : decode cX7_carryAll 162 = .ok (.invokevirtual 281, 3) := by decide +kernel
theorem dX7_carryAll_165 : decode cX7_carryAll 165 = .ok (.iastore, 1) := by decide +kernel
theorem dX7_carryAll_166 : decode cX7_carryAll 166 = .ok (.aload_n 0, 1) := by decide +kernel
theorem dX7_carryAll_167 : decode cX7_carryAll 167 = .ok (.getfield 19, 3) := by decide +kernel
theorem dX7_carryAll_170 : decode cX7_carryAll 170 = .ok (.iload_n 2, 1) := by decide +kernel
theorem dX7_carryAll_171 : decode cX7_carryAll 171 = .ok (.aload_n 0, 1) := by decide +kernel
theorem dX7_carryAll_172 : decode cX7_carryAll 172 = .ok (.aload_n 0, 1) := by decide +kernel
theorem dX7_carryAll_173 : decode cX7_carryAll 173 = .ok (.getfield 19, 3) := by decide +kernel
theorem dX7_carryAll_176 : decode cX7_carryAll 176 = .ok (.iload_n 2, 1) := by decide +kernel
theorem dX7_carryAll_177 : decode cX7_carryAll 177 = .ok (.iaload, 1) := by decide +kernel
theorem dX7_carryAll_178 : decode cX7_carryAll 178 = .ok (.invokevirtual 281, 3) := by decide +kernel
theorem dX7_carryAll_181 : decode cX7_carryAll 181 = .ok (.iastore, 1) := by decide +kernel
theorem dX7_carryAll_182 : decode cX7_carryAll 182 = .ok (.iinc 2 1, 3) := by decide +kernel
theorem dX7_carryAll_185 : decode cX7_carryAll 185 = .ok (.goto (-41), 3) := by decide +kernel
theorem dX7_carryAll_188 : decode cX7_carryAll 188 = .ok (.iconst 0, 1) := by decide +kernel
theorem dX7_carryAll_189 : decode cX7_carryAll 189 = .ok (.istore_n 2, 1) := by decide +kernel
theorem dX7_carryAll_190 : decode cX7_carryAll 190 = .ok (.iload_n 2, 1) := by decide +kernel
theorem dX7_carryAll_191 : decode cX7_carryAll 191 = .ok (.bipush 120, 2) := by decide +kernel
theorem dX7_carryAll_193 : decode cX7_carryAll 193 = .ok (.if_icmp .ge 57, 3) := by decide +kernel
theorem dX7_carryAll_196 : decode cX7_carryAll 196 = .ok (.aload_n 0, 1) := by decide +kernel
theorem dX7_carryAll_197 : decode cX7_carryAll 197 = .ok (.getfield 22, 3) := by decide +kernel
theorem dX7_carryAll_200 : decode cX7_carryAll 200 = .ok (.iload_n 2, 1) := by decide +kernel
theorem dX7_carryAll_201 : decode cX7_carryAll 201 = .ok (.aload_n 0, 1) := by decide +kernel
theorem dX7_carryAll_202 : decode cX7_carryAll 202 = .ok (.aload_n 0, 1) := by decide +kernel
theorem dX7_carryAll_203 : decode cX7_carryAll 203 = .ok (.getfield 22, 3) := by decide +kernel
theorem dX7_carryAll_206 : decode cX7_carryAll 206 = .ok (.iload_n 2, 1) := by decide +kernel
theorem dX7_carryAll_207 : decode cX7_carryAll 207 = .ok (.iaload, 1) := by decide +kernel
theorem dX7_carryAll_208 : decode cX7_carryAll 208 = .ok (.invokevirtual 281, 3) := by decide +kernel
theorem dX7_carryAll_211 : decode cX7_carryAll 211 = .ok (.iastore, 1) := by decide +kernel
theorem dX7_carryAll_212 : decode cX7_carryAll 212 = .ok (.aload_n 0, 1) := by decide +kernel
theorem dX7_carryAll_213 : decode cX7_carryAll 213 = .ok (.getfield 25, 3) := by decide +kernel
theorem dX7_carryAll_216 : decode cX7_carryAll 216 = .ok (.iload_n 2, 1) := by decide +kernel
theorem dX7_carryAll_217 : decode cX7_carryAll 217 = .ok (.aload_n 0, 1) := by decide +kernel
theorem dX7_carryAll_218 : decode cX7_carryAll 218 = .ok (.aload_n 0, 1) := by decide +kernel
theorem dX7_carryAll_219 : decode cX7_carryAll 219 = .ok (.getfield 25, 3) := by decide +kernel
theorem dX7_carryAll_222 : decode cX7_carryAll 222 = .ok (.iload_n 2, 1) := by decide +kernel
theorem dX7_carryAll_223 : decode cX7_carryAll 223 = .ok (.iaload, 1) := by decide +kernel
theorem dX7_carryAll_224 : decode cX7_carryAll 224 = .ok (.invokevirtual 281, 3) := by decide +kernel
theorem dX7_carryAll_227 : decode cX7_carryAll 227 = .ok (.iastore, 1) := by decide +kernel
theorem dX7_carryAll_228 : decode cX7_carryAll 228 = .ok (.aload_n 0, 1) := by decide +kernel
theorem dX7_carryAll_229 : decode cX7_carryAll 229 = .ok (.getfield 28, 3) := by decide +kernel
theorem dX7_carryAll_232 : decode cX7_carryAll 232 = .ok (.iload_n 2, 1) := by decide +kernel
theorem dX7_carryAll_233 : decode cX7_carryAll 233 = .ok (.aload_n 0, 1) := by decide +kernel
theorem dX7_carryAll_234 : decode cX7_carryAll 234 = .ok (.aload_n 0, 1) := by decide +kernel
theorem dX7_carryAll_235 : decode cX7_carryAll 235 = .ok (.getfield 28, 3) := by decide +kernel
theorem dX7_carryAll_238 : decode cX7_carryAll 238 = .ok (.iload_n 2, 1) := by decide +kernel
theorem dX7_carryAll_239 : decode cX7_carryAll 239 = .ok (.iaload, 1) := by decide +kernel
theorem dX7_carryAll_240 : decode cX7_carryAll 240 = .ok (.invokevirtual 281, 3) := by decide +kernel
theorem dX7_carryAll_243 : decode cX7_carryAll 243 = .ok (.iastore, 1) := by decide +kernel
theorem dX7_carryAll_244 : decode cX7_carryAll 244 = .ok (.iinc 2 1, 3) := by decide +kernel
theorem dX7_carryAll_247 : decode cX7_carryAll 247 = .ok (.goto (-57), 3) := by decide +kernel
theorem dX7_carryAll_250 : decode cX7_carryAll 250 = .ok (.return_, 1) := by decide +kernel
theorem dX7_image_0 : decode cX7_image 0 = .ok (.aload_n 0, 1) := by decide +kernel
theorem dX7_image_1 : decode cX7_image 1 = .ok (.iconst 0, 1) := by decide +kernel
theorem dX7_image_2 : decode cX7_image 2 = .ok (.putfield 75, 3) := by decide +kernel
theorem dX7_image_5 : decode cX7_image 5 = .ok (.aload_n 0, 1) := by decide +kernel
theorem dX7_image_6 : decode cX7_image 6 = .ok (.iconst 1, 1) := by decide +kernel
theorem dX7_image_7 : decode cX7_image 7 = .ok (.putfield 284, 3) := by decide +kernel
theorem dX7_image_10 : decode cX7_image 10 = .ok (.aload_n 0, 1) := by decide +kernel
theorem dX7_image_11 : decode cX7_image 11 = .ok (.iconst 1, 1) := by decide +kernel
theorem dX7_image_12 : decode cX7_image 12 = .ok (.invokevirtual 287, 3) := by decide +kernel
theorem dX7_image_15 : decode cX7_image 15 = .ok (.aload_n 0, 1) := by decide +kernel
theorem dX7_image_16 : decode cX7_image 16 = .ok (.getfield 89, 3) := by decide +kernel
theorem dX7_image_19 : decode cX7_image 19 = .ok (.ireturn, 1) := by decide +kernel
theorem dX7_undo_0 : decode cX7_undo 0 = .ok (.aload_n 0, 1) := by decide +kernel
theorem dX7_undo_1 : decode cX7_undo 1 = .ok (.iconst 0, 1) := by decide +kernel
theorem dX7_undo_2 : decode cX7_undo 2 = .ok (.putfield 75, 3) := by decide +kernel
theorem dX7_undo_5 : decode cX7_undo 5 = .ok (.aload_n 0, 1) := by decide +kernel
theorem dX7_undo_6 : decode cX7_undo 6 = .ok (.getfield 284, 3) := by decide +kernel
theorem dX7_undo_9 : decode cX7_undo 9 = .ok (.ifCond .ne 6, 3) := by decide +kernel
theorem dX7_undo_12 : decode cX7_undo 12 = .ok (.bipush (-3), 2) := by decide +kernel
theorem dX7_undo_14 : decode cX7_undo 14 = .ok (.ireturn, 1) := by decide +kernel
theorem dX7_undo_15 : decode cX7_undo 15 = .ok (.aload_n 0, 1) := by decide +kernel
theorem dX7_undo_16 : decode cX7_undo 16 = .ok (.iconst 0, 1) := by decide +kernel
theorem dX7_undo_17 : decode cX7_undo 17 = .ok (.invokevirtual 287, 3) := by decide +kernel
theorem dX7_undo_20 : decode cX7_undo 20 = .ok (.aload_n 0, 1) := by decide +kernel
theorem dX7_undo_21 : decode cX7_undo 21 = .ok (.getfield 89, 3) := by decide +kernel
theorem dX7_undo_24 : decode cX7_undo 24 = .ok (.ireturn, 1) := by decide +kernel
end
section
theorem dL_law_0 : decode cL_law 0 = .ok (.new 7, 3) := by decide +kernel
theorem dL_law_3 : decode cL_law 3 = .ok (.dup, 1) := by decide +kernel
theorem dL_law_4 : decode cL_law 4 = .ok (.invokespecial 9, 3) := by decide +kernel
theorem dL_law_7 : decode cL_law 7 = .ok (.astore_n 1, 1) := by decide +kernel
theorem dL_law_8 : decode cL_law 8 = .ok (.new 10, 3) := by decide +kernel
theorem dL_law_11 : decode cL_law 11 = .ok (.dup, 1) := by decide +kernel
theorem dL_law_12 : decode cL_law 12 = .ok (.invokespecial 12, 3) := by decide +kernel
theorem dL_law_15 : decode cL_law 15 = .ok (.astore_n 2, 1) := by decide +kernel
theorem dL_law_16 : decode cL_law 16 = .ok (.iconst 0, 1) := by decide +kernel
theorem dL_law_17 : decode cL_law 17 = .ok (.istore_n 3, 1) := by decide +kernel
theorem dL_law_18 : decode cL_law 18 = .ok (.iload_n 3, 1) := by decide +kernel
theorem dL_law_19 : decode cL_law 19 = .ok (.aload_n 0, 1) := by decide +kernel
theorem dL_law_20 : decode cL_law 20 = .ok (.arraylength, 1) := by decide +kernel
theorem dL_law_21 : decode cL_law 21 = .ok (.iconst 4, 1) := by decide +kernel
theorem dL_law_22 : decode cL_law 22 = .ok (.isub, 1) := by decide +kernel
theorem dL_law_23 : decode cL_law 23 = .ok (.if_icmp .gt 1184, 3) := by decide +kernel
theorem dL_law_26 : decode cL_law 26 = .ok (.aload_n 0, 1) := by decide +kernel
theorem dL_law_27 : decode cL_law 27 = .ok (.iload_n 3, 1) := by decide +kernel
theorem dL_law_28 : decode cL_law 28 = .ok (.iaload, 1) := by decide +kernel
theorem dL_law_29 : decode cL_law 29 = .ok (.bipush 63, 2) := by decide +kernel
theorem dL_law_31 : decode cL_law 31 = .ok (.iand, 1) := by decide +kernel
theorem dL_law_32 : decode cL_law 32 = .ok (.tableswitch 1169 0 38 #[172, 195, 218, 241, 274, 307, 340, 363, 386, 429, 462, 495, 508, 521, 534, 577, 600, 633, 646, 659, 702, 735, 768, 791, 814, 837, 850, 863, 876, 899, 922, 945, 968, 1001, 1044, 1077, 1110, 1143, 1156], 172) := by decide +kernel
theorem dL_law_204 : decode cL_law 204 = .ok (.aload_n 1, 1) := by decide +kernel
theorem dL_law_205 : decode cL_law 205 = .ok (.aload_n 0, 1) := by decide +kernel
theorem dL_law_206 : decode cL_law 206 = .ok (.iload_n 3, 1) := by decide +kernel
theorem dL_law_207 : decode cL_law 207 = .ok (.iconst 1, 1) := by decide +kernel
theorem dL_law_208 : decode cL_law 208 = .ok (.iadd, 1) := by decide +kernel
theorem dL_law_209 : decode cL_law 209 = .ok (.iaload, 1) := by decide +kernel
theorem dL_law_210 : decode cL_law 210 = .ok (.invokevirtual 13, 3) := by decide +kernel
theorem dL_law_213 : decode cL_law 213 = .ok (.aload_n 2, 1) := by decide +kernel
theorem dL_law_214 : decode cL_law 214 = .ok (.aload_n 0, 1) := by decide +kernel
theorem dL_law_215 : decode cL_law 215 = .ok (.iload_n 3, 1) := by decide +kernel
theorem dL_law_216 : decode cL_law 216 = .ok (.iconst 1, 1) := by decide +kernel
theorem dL_law_217 : decode cL_law 217 = .ok (.iadd, 1) := by decide +kernel
theorem dL_law_218 : decode cL_law 218 = .ok (.iaload, 1) := by decide +kernel
theorem dL_law_219 : decode cL_law 219 = .ok (.invokevirtual 17, 3) := by decide +kernel
theorem dL_law_222 : decode cL_law 222 = .ok (.if_icmp .eq 979, 3) := by decide +kernel
theorem dL_law_225 : decode cL_law 225 = .ok (.iconst 0, 1) := by decide +kernel
theorem dL_law_226 : decode cL_law 226 = .ok (.ireturn, 1) := by decide +kernel
theorem dL_law_227 : decode cL_law 227 = .ok (.aload_n 1, 1) := by decide +kernel
theorem dL_law_228 : decode cL_law 228 = .ok (.aload_n 0, 1) := by decide +kernel
theorem dL_law_229 : decode cL_law 229 = .ok (.iload_n 3, 1) := by decide +kernel
theorem dL_law_230 : decode cL_law 230 = .ok (.iconst 1, 1) := by decide +kernel
theorem dL_law_231 : decode cL_law 231 = .ok (.iadd, 1) := by decide +kernel
theorem dL_law_232 : decode cL_law 232 = .ok (.iaload, 1) := by decide +kernel
theorem dL_law_233 : decode cL_law 233 = .ok (.invokevirtual 18, 3) := by decide +kernel
theorem dL_law_236 : decode cL_law 236 = .ok (.aload_n 2, 1) := by decide +kernel
theorem dL_law_237 : decode cL_law 237 = .ok (.aload_n 0, 1) := by decide +kernel
theorem dL_law_238 : decode cL_law 238 = .ok (.iload_n 3, 1) := by decide +kernel
theorem dL_law_239 : decode cL_law 239 = .ok (.iconst 1, 1) := by decide +kernel
theorem dL_law_240 : decode cL_law 240 = .ok (.iadd, 1) := by decide +kernel
theorem dL_law_241 : decode cL_law 241 = .ok (.iaload, 1) := by decide +kernel
theorem dL_law_242 : decode cL_law 242 = .ok (.invokevirtual 21, 3) := by decide +kernel
theorem dL_law_245 : decode cL_law 245 = .ok (.if_icmp .eq 956, 3) := by decide +kernel
theorem dL_law_248 : decode cL_law 248 = .ok (.iconst 0, 1) := by decide +kernel
theorem dL_law_249 : decode cL_law 249 = .ok (.ireturn, 1) := by decide +kernel
theorem dL_law_250 : decode cL_law 250 = .ok (.aload_n 1, 1) := by decide +kernel
theorem dL_law_251 : decode cL_law 251 = .ok (.aload_n 0, 1) := by decide +kernel
theorem dL_law_252 : decode cL_law 252 = .ok (.iload_n 3, 1) := by decide +kernel
theorem dL_law_253 : decode cL_law 253 = .ok (.iconst 1, 1) := by decide +kernel
theorem dL_law_254 : decode cL_law 254 = .ok (.iadd, 1) := by decide +kernel
theorem dL_law_255 : decode cL_law 255 = .ok (.iaload, 1) := by decide +kernel
theorem dL_law_256 : decode cL_law 256 = .ok (.invokevirtual 22, 3) := by decide +kernel
theorem dL_law_259 : decode cL_law 259 = .ok (.aload_n 2, 1) := by decide +kernel
theorem dL_law_260 : decode cL_law 260 = .ok (.aload_n 0, 1) := by decide +kernel
theorem dL_law_261 : decode cL_law 261 = .ok (.iload_n 3, 1) := by decide +kernel
theorem dL_law_262 : decode cL_law 262 = .ok (.iconst 1, 1) := by decide +kernel
theorem dL_law_263 : decode cL_law 263 = .ok (.iadd, 1) := by decide +kernel
theorem dL_law_264 : decode cL_law 264 = .ok (.iaload, 1) := by decide +kernel
theorem dL_law_265 : decode cL_law 265 = .ok (.invokevirtual 25, 3) := by decide +kernel
theorem dL_law_268 : decode cL_law 268 = .ok (.if_icmp .eq 933, 3) := by decide +kernel
theorem dL_law_271 : decode cL_law 271 = .ok (.iconst 0, 1) := by decide +kernel
theorem dL_law_272 : decode cL_law 272 = .ok (.ireturn, 1) := by decide +kernel
theorem dL_law_273 : decode cL_law 273 = .ok (.aload_n 1, 1) := by decide +kernel
theorem dL_law_274 : decode cL_law 274 = .ok (.aload_n 0, 1) := by decide +kernel
theorem dL_law_275 : decode cL_law 275 = .ok (.iload_n 3, 1) := by decide +kernel
theorem dL_law_276 : decode cL_law 276 = .ok (.iconst 1, 1) := by decide +kernel
theorem dL_law_277 : decode cL_law 277 = .ok (.iadd, 1) := by decide +kernel
theorem dL_law_278 : decode cL_law 278 = .ok (.iaload, 1) := by decide +kernel
theorem dL_law_279 : decode cL_law 279 = .ok (.aload_n 0, 1) := by decide +kernel
theorem dL_law_280 : decode cL_law 280 = .ok (.iload_n 3, 1) := by decide +kernel
theorem dL_law_281 : decode cL_law 281 = .ok (.iconst 2, 1) := by decide +kernel
theorem dL_law_282 : decode cL_law 282 = .ok (.iadd, 1) := by decide +kernel
theorem dL_law_283 : decode cL_law 283 = .ok (.iaload, 1) := by decide +kernel
theorem dL_law_284 : decode cL_law 284 = .ok (.invokevirtual 26, 3) := by decide +kernel
theorem dL_law_287 : decode cL_law 287 = .ok (.aload_n 2, 1) := by decide +kernel
theorem dL_law_288 : decode cL_law 288 = .ok (.aload_n 0, 1) := by decide +kernel
theorem dL_law_289 : decode cL_law 289 = .ok (.iload_n 3, 1) := by decide +kernel
theorem dL_law_290 : decode cL_law 290 = .ok (.iconst 1, 1) := by decide +kernel
theorem dL_law_291 : decode cL_law 291 = .ok (.iadd, 1) := by decide +kernel
theorem dL_law_292 : decode cL_law 292 = .ok (.iaload, 1) := by decide +kernel
theorem dL_law_293 : decode cL_law 293 = .ok (.aload_n 0, 1) := by decide +kernel
theorem dL_law_294 : decode cL_law 294 = .ok (.iload_n 3, 1) := by decide +kernel
theorem dL_law_295 : decode cL_law 295 = .ok (.iconst 2, 1) := by decide +kernel
theorem dL_law_296 : decode cL_law 296 = .ok (.iadd, 1) := by decide +kernel
theorem dL_law_297 : decode cL_law 297 = .ok (.iaload, 1) := by decide +kernel
theorem dL_law_298 : decode cL_law 298 = .ok (.invokevirtual 30, 3) := by decide +kernel
theorem dL_law_301 : decode cL_law 301 = .ok (.if_icmp .eq 900, 3) := by decide +kernel
theorem dL_law_304 : decode cL_law 304 = .ok (.iconst 0, 1) := by decide +kernel
theorem dL_law_305 : decode cL_law 305 = .ok (.ireturn, 1) := by decide +kernel
theorem dL_law_306 : decode cL_law 306 = .ok (.aload_n 1, 1) := by decide +kernel
theorem dL_law_307 : decode cL_law 307 = .ok (.aload_n 0, 1) := by decide +kernel
theorem dL_law_308 : decode cL_law 308 = .ok (.iload_n 3, 1) := by decide +kernel
theorem dL_law_309 : decode cL_law 309 = .ok (.iconst 1, 1) := by decide +kernel
theorem dL_law_310 : decode cL_law 310 = .ok (.iadd, 1) := by decide +kernel
theorem dL_law_311 : decode cL_law 311 = .ok (.iaload, 1) := by decide +kernel
theorem dL_law_312 : decode cL_law 312 = .ok (.aload_n 0, 1) := by decide +kernel
theorem dL_law_313 : decode cL_law 313 = .ok (.iload_n 3, 1) := by decide +kernel
theorem dL_law_314 : decode cL_law 314 = .ok (.iconst 2, 1) := by decide +kernel
theorem dL_law_315 : decode cL_law 315 = .ok (.iadd, 1) := by decide +kernel
theorem dL_law_316 : decode cL_law 316 = .ok (.iaload, 1) := by decide +kernel
theorem dL_law_317 : decode cL_law 317 = .ok (.invokevirtual 31, 3) := by decide +kernel
theorem dL_law_320 : decode cL_law 320 = .ok (.aload_n 2, 1) := by decide +kernel
theorem dL_law_321 : decode cL_law 321 = .ok (.aload_n 0, 1) := by decide +kernel
theorem dL_law_322 : decode cL_law 322 = .ok (.iload_n 3, 1) := by decide +kernel
theorem dL_law_323 : decode cL_law 323 = .ok (.iconst 1, 1) := by decide +kernel
theorem dL_law_324 : decode cL_law 324 = .ok (.iadd, 1) := by decide +kernel
theorem dL_law_325 : decode cL_law 325 = .ok (.iaload, 1) := by decide +kernel
theorem dL_law_326 : decode cL_law 326 = .ok (.aload_n 0, 1) := by decide +kernel
theorem dL_law_327 : decode cL_law 327 = .ok (.iload_n 3, 1) := by decide +kernel
theorem dL_law_328 : decode cL_law 328 = .ok (.iconst 2, 1) := by decide +kernel
theorem dL_law_329 : decode cL_law 329 = .ok (.iadd, 1) := by decide +kernel
theorem dL_law_330 : decode cL_law 330 = .ok (.iaload, 1) := by decide +kernel
theorem dL_law_331 : decode cL_law 331 = .ok (.invokevirtual 34, 3) := by decide +kernel
theorem dL_law_334 : decode cL_law 334 = .ok (.if_icmp .eq 867, 3) := by decide +kernel
theorem dL_law_337 : decode cL_law 337 = .ok (.iconst 0, 1) := by decide +kernel
theorem dL_law_338 : decode cL_law 338 = .ok (.ireturn, 1) := by decide +kernel
theorem dL_law_339 : decode cL_law 339 = .ok (.aload_n 1, 1) := by decide +kernel
theorem dL_law_340 : decode cL_law 340 = .ok (.aload_n 0, 1) := by decide +kernel
theorem dL_law_341 : decode cL_law 341 = .ok (.iload_n 3, 1) := by decide +kernel
theorem dL_law_342 : decode cL_law 342 = .ok (.iconst 1, 1) := by decide +kernel
theorem dL_law_343 : decode cL_law 343 = .ok (.iadd, 1) := by decide +kernel
theorem dL_law_344 : decode cL_law 344 = .ok (.iaload, 1) := by decide +kernel
theorem dL_law_345 : decode cL_law 345 = .ok (.aload_n 0, 1) := by decide +kernel
theorem dL_law_346 : decode cL_law 346 = .ok (.iload_n 3, 1) := by decide +kernel
theorem dL_law_347 : decode cL_law 347 = .ok (.iconst 2, 1) := by decide +kernel
theorem dL_law_348 : decode cL_law 348 = .ok (.iadd, 1) := by decide +kernel
theorem dL_law_349 : decode cL_law 349 = .ok (.iaload, 1) := by decide +kernel
theorem dL_law_350 : decode cL_law 350 = .ok (.invokevirtual 35, 3) := by decide +kernel
theorem dL_law_353 : decode cL_law 353 = .ok (.aload_n 2, 1) := by decide +kernel
theorem dL_law_354 : decode cL_law 354 = .ok (.aload_n 0, 1) := by decide +kernel
theorem dL_law_355 : decode cL_law 355 = .ok (.iload_n 3, 1) := by decide +kernel
theorem dL_law_356 : decode cL_law 356 = .ok (.iconst 1, 1) := by decide +kernel
theorem dL_law_357 : decode cL_law 357 = .ok (.iadd, 1) := by decide +kernel
theorem dL_law_358 : decode cL_law 358 = .ok (.iaload, 1) := by decide +kernel
theorem dL_law_359 : decode cL_law 359 = .ok (.aload_n 0, 1) := by decide +kernel
theorem dL_law_360 : decode cL_law 360 = .ok (.iload_n 3, 1) := by decide +kernel
theorem dL_law_361 : decode cL_law 361 = .ok (.iconst 2, 1) := by decide +kernel
theorem dL_law_362 : decode cL_law 362 = .ok (.iadd, 1) := by decide +kernel
theorem dL_law_363 : decode cL_law 363 = .ok (.iaload, 1) := by decide +kernel
theorem dL_law_364 : decode cL_law 364 = .ok (.invokevirtual 38, 3) := by decide +kernel
theorem dL_law_367 : decode cL_law 367 = .ok (.if_icmp .eq 834, 3) := by decide +kernel
theorem dL_law_370 : decode cL_law 370 = .ok (.iconst 0, 1) := by decide +kernel
theorem dL_law_371 : decode cL_law 371 = .ok (.ireturn, 1) := by decide +kernel
theorem dL_law_372 : decode cL_law 372 = .ok (.aload_n 1, 1) := by decide +kernel
theorem dL_law_373 : decode cL_law 373 = .ok (.aload_n 0, 1) := by decide +kernel
theorem dL_law_374 : decode cL_law 374 = .ok (.iload_n 3, 1) := by decide +kernel
theorem dL_law_375 : decode cL_law 375 = .ok (.iconst 1, 1) := by decide +kernel
theorem dL_law_376 : decode cL_law 376 = .ok (.iadd, 1) := by decide +kernel
theorem dL_law_377 : decode cL_law 377 = .ok (.iaload, 1) := by decide +kernel
theorem dL_law_378 : decode cL_law 378 = .ok (.invokevirtual 39, 3) := by decide +kernel
theorem dL_law_381 : decode cL_law 381 = .ok (.aload_n 2, 1) := by decide +kernel
theorem dL_law_382 : decode cL_law 382 = .ok (.aload_n 0, 1) := by decide +kernel
theorem dL_law_383 : decode cL_law 383 = .ok (.iload_n 3, 1) := by decide +kernel
theorem dL_law_384 : decode cL_law 384 = .ok (.iconst 1, 1) := by decide +kernel
theorem dL_law_385 : decode cL_law 385 = .ok (.iadd, 1) := by decide +kernel
theorem dL_law_386 : decode cL_law 386 = .ok (.iaload, 1) := by decide +kernel
theorem dL_law_387 : decode cL_law 387 = .ok (.invokevirtual 42, 3) := by decide +kernel
theorem dL_law_390 : decode cL_law 390 = .ok (.if_icmp .eq 811, 3) := by decide +kernel
theorem dL_law_393 : decode cL_law 393 = .ok (.iconst 0, 1) := by decide +kernel
theorem dL_law_394 : decode cL_law 394 = .ok (.ireturn, 1) := by decide +kernel
theorem dL_law_395 : decode cL_law 395 = .ok (.aload_n 1, 1) := by decide +kernel
theorem dL_law_396 : decode cL_law 396 = .ok (.aload_n 0, 1) := by decide +kernel
theorem dL_law_397 : decode cL_law 397 = .ok (.iload_n 3, 1) := by decide +kernel
theorem dL_law_398 : decode cL_law 398 = .ok (.iconst 1, 1) := by decide +kernel
theorem dL_law_399 : decode cL_law 399 = .ok (.iadd, 1) := by decide +kernel
theorem dL_law_400 : decode cL_law 400 = .ok (.iaload, 1) := by decide +kernel
theorem dL_law_401 : decode cL_law 401 = .ok (.invokevirtual 43, 3) := by decide +kernel
theorem dL_law_404 : decode cL_law 404 = .ok (.aload_n 2, 1) := by decide +kernel
theorem dL_law_405 : decode cL_law 405 = .ok (.aload_n 0, 1) := by decide +kernel
theorem dL_law_406 : decode cL_law 406 = .ok (.iload_n 3, 1) := by decide +kernel
theorem dL_law_407 : decode cL_law 407 = .ok (.iconst 1, 1) := by decide +kernel
theorem dL_law_408 : decode cL_law 408 = .ok (.iadd, 1) := by decide +kernel
theorem dL_law_409 : decode cL_law 409 = .ok (.iaload, 1) := by decide +kernel
theorem dL_law_410 : decode cL_law 410 = .ok (.invokevirtual 46, 3) := by decide +kernel
theorem dL_law_413 : decode cL_law 413 = .ok (.if_icmp .eq 788, 3) := by decide +kernel
theorem dL_law_416 : decode cL_law 416 = .ok (.iconst 0, 1) := by decide +kernel
theorem dL_law_417 : decode cL_law 417 = .ok (.ireturn, 1) := by decide +kernel
theorem dL_law_418 : decode cL_law 418 = .ok (.aload_n 1, 1) := by decide +kernel
theorem dL_law_419 : decode cL_law 419 = .ok (.aload_n 0, 1) := by decide +kernel
theorem dL_law_420 : decode cL_law 420 = .ok (.iload_n 3, 1) := by decide +kernel
theorem dL_law_421 : decode cL_law 421 = .ok (.iconst 1, 1) := by decide +kernel
theorem dL_law_422 : decode cL_law 422 = .ok (.iadd, 1) := by decide +kernel
theorem dL_law_423 : decode cL_law 423 = .ok (.iaload, 1) := by decide +kernel
theorem dL_law_424 : decode cL_law 424 = .ok (.aload_n 0, 1) := by decide +kernel
theorem dL_law_425 : decode cL_law 425 = .ok (.iload_n 3, 1) := by decide +kernel
theorem dL_law_426 : decode cL_law 426 = .ok (.iconst 2, 1) := by decide +kernel
theorem dL_law_427 : decode cL_law 427 = .ok (.iadd, 1) := by decide +kernel
theorem dL_law_428 : decode cL_law 428 = .ok (.iaload, 1) := by decide +kernel
theorem dL_law_429 : decode cL_law 429 = .ok (.aload_n 0, 1) := by decide +kernel
theorem dL_law_430 : decode cL_law 430 = .ok (.iload_n 3, 1) := by decide +kernel
theorem dL_law_431 : decode cL_law 431 = .ok (.iconst 3, 1) := by decide +kernel
theorem dL_law_432 : decode cL_law 432 = .ok (.iadd, 1) := by decide +kernel
theorem dL_law_433 : decode cL_law 433 = .ok (.iaload, 1) := by decide +kernel
theorem dL_law_434 : decode cL_law 434 = .ok (.invokevirtual 47, 3) := by decide +kernel
theorem dL_law_437 : decode cL_law 437 = .ok (.aload_n 2, 1) := by decide +kernel
theorem dL_law_438 : decode cL_law 438 = .ok (.aload_n 0, 1) := by decide +kernel
theorem dL_law_439 : decode cL_law 439 = .ok (.iload_n 3, 1) := by decide +kernel
theorem dL_law_440 : decode cL_law 440 = .ok (.iconst 1, 1) := by decide +kernel
theorem dL_law_441 : decode cL_law 441 = .ok (.iadd, 1) := by decide +kernel
theorem dL_law_442 : decode cL_law 442 = .ok (.iaload, 1) := by decide +kernel
theorem dL_law_443 : decode cL_law 443 = .ok (.aload_n 0, 1) := by decide +kernel
theorem dL_law_444 : decode cL_law 444 = .ok (.iload_n 3, 1) := by decide +kernel
theorem dL_law_445 : decode cL_law 445 = .ok (.iconst 2, 1) := by decide +kernel
theorem dL_law_446 : decode cL_law 446 = .ok (.iadd, 1) := by decide +kernel
theorem dL_law_447 : decode cL_law 447 = .ok (.iaload, 1) := by decide +kernel
theorem dL_law_448 : decode cL_law 448 = .ok (.aload_n 0, 1) := by decide +kernel
theorem dL_law_449 : decode cL_law 449 = .ok (.iload_n 3, 1) := by decide +kernel
theorem dL_law_450 : decode cL_law 450 = .ok (.iconst 3, 1) := by decide +kernel
theorem dL_law_451 : decode cL_law 451 = .ok (.iadd, 1) := by decide +kernel
theorem dL_law_452 : decode cL_law 452 = .ok (.iaload, 1) := by decide +kernel
theorem dL_law_453 : decode cL_law 453 = .ok (.invokevirtual 51, 3) := by decide +kernel
theorem dL_law_456 : decode cL_law 456 = .ok (.if_icmp .eq 745, 3) := by decide +kernel
theorem dL_law_459 : decode cL_law 459 = .ok (.iconst 0, 1) := by decide +kernel
theorem dL_law_460 : decode cL_law 460 = .ok (.ireturn, 1) := by decide +kernel
theorem dL_law_461 : decode cL_law 461 = .ok (.aload_n 1, 1) := by decide +kernel
theorem dL_law_462 : decode cL_law 462 = .ok (.aload_n 0, 1) := by decide +kernel
theorem dL_law_463 : decode cL_law 463 = .ok (.iload_n 3, 1) := by decide +kernel
theorem dL_law_464 : decode cL_law 464 = .ok (.iconst 1, 1) := by decide +kernel
theorem dL_law_465 : decode cL_law 465 = .ok (.iadd, 1) := by decide +kernel
theorem dL_law_466 : decode cL_law 466 = .ok (.iaload, 1) := by decide +kernel
theorem dL_law_467 : decode cL_law 467 = .ok (.aload_n 0, 1) := by decide +kernel
theorem dL_law_468 : decode cL_law 468 = .ok (.iload_n 3, 1) := by decide +kernel
theorem dL_law_469 : decode cL_law 469 = .ok (.iconst 2, 1) := by decide +kernel
theorem dL_law_470 : decode cL_law 470 = .ok (.iadd, 1) := by decide +kernel
theorem dL_law_471 : decode cL_law 471 = .ok (.iaload, 1) := by decide +kernel
theorem dL_law_472 : decode cL_law 472 = .ok (.invokevirtual 52, 3) := by decide +kernel
theorem dL_law_475 : decode cL_law 475 = .ok (.aload_n 2, 1) := by decide +kernel
theorem dL_law_476 : decode cL_law 476 = .ok (.aload_n 0, 1) := by decide +kernel
theorem dL_law_477 : decode cL_law 477 = .ok (.iload_n 3, 1) := by decide +kernel
theorem dL_law_478 : decode cL_law 478 = .ok (.iconst 1, 1) := by decide +kernel
theorem dL_law_479 : decode cL_law 479 = .ok (.iadd, 1) := by decide +kernel
theorem dL_law_480 : decode cL_law 480 = .ok (.iaload, 1) := by decide +kernel
theorem dL_law_481 : decode cL_law 481 = .ok (.aload_n 0, 1) := by decide +kernel
theorem dL_law_482 : decode cL_law 482 = .ok (.iload_n 3, 1) := by decide +kernel
theorem dL_law_483 : decode cL_law 483 = .ok (.iconst 2, 1) := by decide +kernel
theorem dL_law_484 : decode cL_law 484 = .ok (.iadd, 1) := by decide +kernel
theorem dL_law_485 : decode cL_law 485 = .ok (.iaload, 1) := by decide +kernel
theorem dL_law_486 : decode cL_law 486 = .ok (.invokevirtual 55, 3) := by decide +kernel
theorem dL_law_489 : decode cL_law 489 = .ok (.if_icmp .eq 712, 3) := by decide +kernel
theorem dL_law_492 : decode cL_law 492 = .ok (.iconst 0, 1) := by decide +kernel
theorem dL_law_493 : decode cL_law 493 = .ok (.ireturn, 1) := by decide +kernel
theorem dL_law_494 : decode cL_law 494 = .ok (.aload_n 1, 1) := by decide +kernel
theorem dL_law_495 : decode cL_law 495 = .ok (.aload_n 0, 1) := by decide +kernel
theorem dL_law_496 : decode cL_law 496 = .ok (.iload_n 3, 1) := by decide +kernel
theorem dL_law_497 : decode cL_law 497 = .ok (.iconst 1, 1) := by decide +kernel
theorem dL_law_498 : decode cL_law 498 = .ok (.iadd, 1) := by decide +kernel
theorem dL_law_499 : decode cL_law 499 = .ok (.iaload, 1) := by decide +kernel
theorem dL_law_500 : decode cL_law 500 = .ok (.aload_n 0, 1) := by decide +kernel
theorem dL_law_501 : decode cL_law 501 = .ok (.iload_n 3, 1) := by decide +kernel
theorem dL_law_502 : decode cL_law 502 = .ok (.iconst 2, 1) := by decide +kernel
theorem dL_law_503 : decode cL_law 503 = .ok (.iadd, 1) := by decide +kernel
theorem dL_law_504 : decode cL_law 504 = .ok (.iaload, 1) := by decide +kernel
theorem dL_law_505 : decode cL_law 505 = .ok (.invokevirtual 56, 3) := by decide +kernel
theorem dL_law_508 : decode cL_law 508 = .ok (.aload_n 2, 1) := by decide +kernel
theorem dL_law_509 : decode cL_law 509 = .ok (.aload_n 0, 1) := by decide +kernel
theorem dL_law_510 : decode cL_law 510 = .ok (.iload_n 3, 1) := by decide +kernel
theorem dL_law_511 : decode cL_law 511 = .ok (.iconst 1, 1) := by decide +kernel
theorem dL_law_512 : decode cL_law 512 = .ok (.iadd, 1) := by decide +kernel
theorem dL_law_513 : decode cL_law 513 = .ok (.iaload, 1) := by decide +kernel
theorem dL_law_514 : decode cL_law 514 = .ok (.aload_n 0, 1) := by decide +kernel
theorem dL_law_515 : decode cL_law 515 = .ok (.iload_n 3, 1) := by decide +kernel
theorem dL_law_516 : decode cL_law 516 = .ok (.iconst 2, 1) := by decide +kernel
theorem dL_law_517 : decode cL_law 517 = .ok (.iadd, 1) := by decide +kernel
theorem dL_law_518 : decode cL_law 518 = .ok (.iaload, 1) := by decide +kernel
theorem dL_law_519 : decode cL_law 519 = .ok (.invokevirtual 59, 3) := by decide +kernel
theorem dL_law_522 : decode cL_law 522 = .ok (.if_icmp .eq 679, 3) := by decide +kernel
theorem dL_law_525 : decode cL_law 525 = .ok (.iconst 0, 1) := by decide +kernel
theorem dL_law_526 : decode cL_law 526 = .ok (.ireturn, 1) := by decide +kernel
theorem dL_law_527 : decode cL_law 527 = .ok (.aload_n 1, 1) := by decide +kernel
theorem dL_law_528 : decode cL_law 528 = .ok (.invokevirtual 60, 3) := by decide +kernel
theorem dL_law_531 : decode cL_law 531 = .ok (.aload_n 2, 1) := by decide +kernel
theorem dL_law_532 : decode cL_law 532 = .ok (.invokevirtual 64, 3) := by decide +kernel
theorem dL_law_535 : decode cL_law 535 = .ok (.if_icmp .eq 666, 3) := by decide +kernel
theorem dL_law_538 : decode cL_law 538 = .ok (.iconst 0, 1) := by decide +kernel
theorem dL_law_539 : decode cL_law 539 = .ok (.ireturn, 1) := by decide +kernel
theorem dL_law_540 : decode cL_law 540 = .ok (.aload_n 1, 1) := by decide +kernel
theorem dL_law_541 : decode cL_law 541 = .ok (.invokevirtual 65, 3) := by decide +kernel
theorem dL_law_544 : decode cL_law 544 = .ok (.aload_n 2, 1) := by decide +kernel
theorem dL_law_545 : decode cL_law 545 = .ok (.invokevirtual 68, 3) := by decide +kernel
theorem dL_law_548 : decode cL_law 548 = .ok (.if_icmp .eq 653, 3) := by decide +kernel
theorem dL_law_551 : decode cL_law 551 = .ok (.iconst 0, 1) := by decide +kernel
theorem dL_law_552 : decode cL_law 552 = .ok (.ireturn, 1) := by decide +kernel
theorem dL_law_553 : decode cL_law 553 = .ok (.aload_n 1, 1) := by decide +kernel
theorem dL_law_554 : decode cL_law 554 = .ok (.invokevirtual 69, 3) := by decide +kernel
theorem dL_law_557 : decode cL_law 557 = .ok (.aload_n 2, 1) := by decide +kernel
theorem dL_law_558 : decode cL_law 558 = .ok (.invokevirtual 72, 3) := by decide +kernel
theorem dL_law_561 : decode cL_law 561 = .ok (.if_icmp .eq 640, 3) := by decide +kernel
theorem dL_law_564 : decode cL_law 564 = .ok (.iconst 0, 1) := by decide +kernel
theorem dL_law_565 : decode cL_law 565 = .ok (.ireturn, 1) := by decide +kernel
theorem dL_law_566 : decode cL_law 566 = .ok (.aload_n 1, 1) := by decide +kernel
theorem dL_law_567 : decode cL_law 567 = .ok (.aload_n 0, 1) := by decide +kernel
theorem dL_law_568 : decode cL_law 568 = .ok (.iload_n 3, 1) := by decide +kernel
theorem dL_law_569 : decode cL_law 569 = .ok (.iconst 1, 1) := by decide +kernel
theorem dL_law_570 : decode cL_law 570 = .ok (.iadd, 1) := by decide +kernel
theorem dL_law_571 : decode cL_law 571 = .ok (.iaload, 1) := by decide +kernel
theorem dL_law_572 : decode cL_law 572 = .ok (.aload_n 0, 1) := by decide +kernel
theorem dL_law_573 : decode cL_law 573 = .ok (.iload_n 3, 1) := by decide +kernel
theorem dL_law_574 : decode cL_law 574 = .ok (.iconst 2, 1) := by decide +kernel
theorem dL_law_575 : decode cL_law 575 = .ok (.iadd, 1) := by decide +kernel
theorem dL_law_576 : decode cL_law 576 = .ok (.iaload, 1) := by decide +kernel
theorem dL_law_577 : decode cL_law 577 = .ok (.aload_n 0, 1) := by decide +kernel
theorem dL_law_578 : decode cL_law 578 = .ok (.iload_n 3, 1) := by decide +kernel
theorem dL_law_579 : decode cL_law 579 = .ok (.iconst 3, 1) := by decide +kernel
theorem dL_law_580 : decode cL_law 580 = .ok (.iadd, 1) := by decide +kernel
theorem dL_law_581 : decode cL_law 581 = .ok (.iaload, 1) := by decide +kernel
theorem dL_law_582 : decode cL_law 582 = .ok (.invokevirtual 73, 3) := by decide +kernel
theorem dL_law_585 : decode cL_law 585 = .ok (.aload_n 2, 1) := by decide +kernel
theorem dL_law_586 : decode cL_law 586 = .ok (.aload_n 0, 1) := by decide +kernel
theorem dL_law_587 : decode cL_law 587 = .ok (.iload_n 3, 1) := by decide +kernel
theorem dL_law_588 : decode cL_law 588 = .ok (.iconst 1, 1) := by decide +kernel
theorem dL_law_589 : decode cL_law 589 = .ok (.iadd, 1) := by decide +kernel
theorem dL_law_590 : decode cL_law 590 = .ok (.iaload, 1) := by decide +kernel
theorem dL_law_591 : decode cL_law 591 = .ok (.aload_n 0, 1) := by decide +kernel
theorem dL_law_592 : decode cL_law 592 = .ok (.iload_n 3, 1) := by decide +kernel
theorem dL_law_593 : decode cL_law 593 = .ok (.iconst 2, 1) := by decide +kernel
theorem dL_law_594 : decode cL_law 594 = .ok (.iadd, 1) := by decide +kernel
theorem dL_law_595 : decode cL_law 595 = .ok (.iaload, 1) := by decide +kernel
theorem dL_law_596 : decode cL_law 596 = .ok (.aload_n 0, 1) := by decide +kernel
theorem dL_law_597 : decode cL_law 597 = .ok (.iload_n 3, 1) := by decide +kernel
theorem dL_law_598 : decode cL_law 598 = .ok (.iconst 3, 1) := by decide +kernel
theorem dL_law_599 : decode cL_law 599 = .ok (.iadd, 1) := by decide +kernel
theorem dL_law_600 : decode cL_law 600 = .ok (.iaload, 1) := by decide +kernel
theorem dL_law_601 : decode cL_law 601 = .ok (.invokevirtual 76, 3) := by decide +kernel
theorem dL_law_604 : decode cL_law 604 = .ok (.if_icmp .eq 597, 3) := by decide +kernel
theorem dL_law_607 : decode cL_law 607 = .ok (.iconst 0, 1) := by decide +kernel
theorem dL_law_608 : decode cL_law 608 = .ok (.ireturn, 1) := by decide +kernel
theorem dL_law_609 : decode cL_law 609 = .ok (.aload_n 1, 1) := by decide +kernel
theorem dL_law_610 : decode cL_law 610 = .ok (.aload_n 0, 1) := by decide +kernel
theorem dL_law_611 : decode cL_law 611 = .ok (.iload_n 3, 1) := by decide +kernel
theorem dL_law_612 : decode cL_law 612 = .ok (.iconst 1, 1) := by decide +kernel
theorem dL_law_613 : decode cL_law 613 = .ok (.iadd, 1) := by decide +kernel
theorem dL_law_614 : decode cL_law 614 = .ok (.iaload, 1) := by decide +kernel
theorem dL_law_615 : decode cL_law 615 = .ok (.invokevirtual 77, 3) := by decide +kernel
theorem dL_law_618 : decode cL_law 618 = .ok (.aload_n 2, 1) := by decide +kernel
theorem dL_law_619 : decode cL_law 619 = .ok (.aload_n 0, 1) := by decide +kernel
theorem dL_law_620 : decode cL_law 620 = .ok (.iload_n 3, 1) := by decide +kernel
theorem dL_law_621 : decode cL_law 621 = .ok (.iconst 1, 1) := by decide +kernel
theorem dL_law_622 : decode cL_law 622 = .ok (.iadd, 1) := by decide +kernel
theorem dL_law_623 : decode cL_law 623 = .ok (.iaload, 1) := by decide +kernel
theorem dL_law_624 : decode cL_law 624 = .ok (.invokevirtual 80, 3) := by decide +kernel
theorem dL_law_627 : decode cL_law 627 = .ok (.if_icmp .eq 574, 3) := by decide +kernel
theorem dL_law_630 : decode cL_law 630 = .ok (.iconst 0, 1) := by decide +kernel
theorem dL_law_631 : decode cL_law 631 = .ok (.ireturn, 1) := by decide +kernel
theorem dL_law_632 : decode cL_law 632 = .ok (.aload_n 1, 1) := by decide +kernel
theorem dL_law_633 : decode cL_law 633 = .ok (.aload_n 0, 1) := by decide +kernel
theorem dL_law_634 : decode cL_law 634 = .ok (.iload_n 3, 1) := by decide +kernel
theorem dL_law_635 : decode cL_law 635 = .ok (.iconst 1, 1) := by decide +kernel
theorem dL_law_636 : decode cL_law 636 = .ok (.iadd, 1) := by decide +kernel
theorem dL_law_637 : decode cL_law 637 = .ok (.iaload, 1) := by decide +kernel
theorem dL_law_638 : decode cL_law 638 = .ok (.aload_n 0, 1) := by decide +kernel
theorem dL_law_639 : decode cL_law 639 = .ok (.iload_n 3, 1) := by decide +kernel
theorem dL_law_640 : decode cL_law 640 = .ok (.iconst 2, 1) := by decide +kernel
theorem dL_law_641 : decode cL_law 641 = .ok (.iadd, 1) := by decide +kernel
theorem dL_law_642 : decode cL_law 642 = .ok (.iaload, 1) := by decide +kernel
theorem dL_law_643 : decode cL_law 643 = .ok (.invokevirtual 81, 3) := by decide +kernel
theorem dL_law_646 : decode cL_law 646 = .ok (.aload_n 2, 1) := by decide +kernel
theorem dL_law_647 : decode cL_law 647 = .ok (.aload_n 0, 1) := by decide +kernel
theorem dL_law_648 : decode cL_law 648 = .ok (.iload_n 3, 1) := by decide +kernel
theorem dL_law_649 : decode cL_law 649 = .ok (.iconst 1, 1) := by decide +kernel
theorem dL_law_650 : decode cL_law 650 = .ok (.iadd, 1) := by decide +kernel
theorem dL_law_651 : decode cL_law 651 = .ok (.iaload, 1) := by decide +kernel
theorem dL_law_652 : decode cL_law 652 = .ok (.aload_n 0, 1) := by decide +kernel
theorem dL_law_653 : decode cL_law 653 = .ok (.iload_n 3, 1) := by decide +kernel
theorem dL_law_654 : decode cL_law 654 = .ok (.iconst 2, 1) := by decide +kernel
theorem dL_law_655 : decode cL_law 655 = .ok (.iadd, 1) := by decide +kernel
theorem dL_law_656 : decode cL_law 656 = .ok (.iaload, 1) := by decide +kernel
theorem dL_law_657 : decode cL_law 657 = .ok (.invokevirtual 84, 3) := by decide +kernel
theorem dL_law_660 : decode cL_law 660 = .ok (.if_icmp .eq 541, 3) := by decide +kernel
theorem dL_law_663 : decode cL_law 663 = .ok (.iconst 0, 1) := by decide +kernel
theorem dL_law_664 : decode cL_law 664 = .ok (.ireturn, 1) := by decide +kernel
theorem dL_law_665 : decode cL_law 665 = .ok (.aload_n 1, 1) := by decide +kernel
theorem dL_law_666 : decode cL_law 666 = .ok (.invokevirtual 85, 3) := by decide +kernel
theorem dL_law_669 : decode cL_law 669 = .ok (.aload_n 2, 1) := by decide +kernel
theorem dL_law_670 : decode cL_law 670 = .ok (.invokevirtual 88, 3) := by decide +kernel
theorem dL_law_673 : decode cL_law 673 = .ok (.if_icmp .eq 528, 3) := by decide +kernel
theorem dL_law_676 : decode cL_law 676 = .ok (.iconst 0, 1) := by decide +kernel
theorem dL_law_677 : decode cL_law 677 = .ok (.ireturn, 1) := by decide +kernel
theorem dL_law_678 : decode cL_law 678 = .ok (.aload_n 1, 1) := by decide +kernel
theorem dL_law_679 : decode cL_law 679 = .ok (.invokevirtual 89, 3) := by decide +kernel
theorem dL_law_682 : decode cL_law 682 = .ok (.aload_n 2, 1) := by decide +kernel
theorem dL_law_683 : decode cL_law 683 = .ok (.invokevirtual 92, 3) := by decide +kernel
theorem dL_law_686 : decode cL_law 686 = .ok (.if_icmp .eq 515, 3) := by decide +kernel
theorem dL_law_689 : decode cL_law 689 = .ok (.iconst 0, 1) := by decide +kernel
theorem dL_law_690 : decode cL_law 690 = .ok (.ireturn, 1) := by decide +kernel
theorem dL_law_691 : decode cL_law 691 = .ok (.aload_n 1, 1) := by decide +kernel
theorem dL_law_692 : decode cL_law 692 = .ok (.aload_n 0, 1) := by decide +kernel
theorem dL_law_693 : decode cL_law 693 = .ok (.iload_n 3, 1) := by decide +kernel
theorem dL_law_694 : decode cL_law 694 = .ok (.iconst 1, 1) := by decide +kernel
theorem dL_law_695 : decode cL_law 695 = .ok (.iadd, 1) := by decide +kernel
theorem dL_law_696 : decode cL_law 696 = .ok (.iaload, 1) := by decide +kernel
theorem dL_law_697 : decode cL_law 697 = .ok (.aload_n 0, 1) := by decide +kernel
theorem dL_law_698 : decode cL_law 698 = .ok (.iload_n 3, 1) := by decide +kernel
theorem dL_law_699 : decode cL_law 699 = .ok (.iconst 2, 1) := by decide +kernel
theorem dL_law_700 : decode cL_law 700 = .ok (.iadd, 1) := by decide +kernel
theorem dL_law_701 : decode cL_law 701 = .ok (.iaload, 1) := by decide +kernel
theorem dL_law_702 : decode cL_law 702 = .ok (.aload_n 0, 1) := by decide +kernel
theorem dL_law_703 : decode cL_law 703 = .ok (.iload_n 3, 1) := by decide +kernel
theorem dL_law_704 : decode cL_law 704 = .ok (.iconst 3, 1) := by decide +kernel
theorem dL_law_705 : decode cL_law 705 = .ok (.iadd, 1) := by decide +kernel
theorem dL_law_706 : decode cL_law 706 = .ok (.iaload, 1) := by decide +kernel
theorem dL_law_707 : decode cL_law 707 = .ok (.invokevirtual 93, 3) := by decide +kernel
theorem dL_law_710 : decode cL_law 710 = .ok (.aload_n 2, 1) := by decide +kernel
theorem dL_law_711 : decode cL_law 711 = .ok (.aload_n 0, 1) := by decide +kernel
theorem dL_law_712 : decode cL_law 712 = .ok (.iload_n 3, 1) := by decide +kernel
theorem dL_law_713 : decode cL_law 713 = .ok (.iconst 1, 1) := by decide +kernel
theorem dL_law_714 : decode cL_law 714 = .ok (.iadd, 1) := by decide +kernel
theorem dL_law_715 : decode cL_law 715 = .ok (.iaload, 1) := by decide +kernel
theorem dL_law_716 : decode cL_law 716 = .ok (.aload_n 0, 1) := by decide +kernel
theorem dL_law_717 : decode cL_law 717 = .ok (.iload_n 3, 1) := by decide +kernel
theorem dL_law_718 : decode cL_law 718 = .ok (.iconst 2, 1) := by decide +kernel
theorem dL_law_719 : decode cL_law 719 = .ok (.iadd, 1) := by decide +kernel
theorem dL_law_720 : decode cL_law 720 = .ok (.iaload, 1) := by decide +kernel
theorem dL_law_721 : decode cL_law 721 = .ok (.aload_n 0, 1) := by decide +kernel
theorem dL_law_722 : decode cL_law 722 = .ok (.iload_n 3, 1) := by decide +kernel
theorem dL_law_723 : decode cL_law 723 = .ok (.iconst 3, 1) := by decide +kernel
theorem dL_law_724 : decode cL_law 724 = .ok (.iadd, 1) := by decide +kernel
theorem dL_law_725 : decode cL_law 725 = .ok (.iaload, 1) := by decide +kernel
theorem dL_law_726 : decode cL_law 726 = .ok (.invokevirtual 96, 3) := by decide +kernel
theorem dL_law_729 : decode cL_law 729 = .ok (.if_icmp .eq 472, 3) := by decide +kernel
theorem dL_law_732 : decode cL_law 732 = .ok (.iconst 0, 1) := by decide +kernel
theorem dL_law_733 : decode cL_law 733 = .ok (.ireturn, 1) := by decide +kernel
theorem dL_law_734 : decode cL_law 734 = .ok (.aload_n 1, 1) := by decide +kernel
theorem dL_law_735 : decode cL_law 735 = .ok (.aload_n 0, 1) := by decide +kernel
theorem dL_law_736 : decode cL_law 736 = .ok (.iload_n 3, 1) := by decide +kernel
theorem dL_law_737 : decode cL_law 737 = .ok (.iconst 1, 1) := by decide +kernel
theorem dL_law_738 : decode cL_law 738 = .ok (.iadd, 1) := by decide +kernel
theorem dL_law_739 : decode cL_law 739 = .ok (.iaload, 1) := by decide +kernel
theorem dL_law_740 : decode cL_law 740 = .ok (.aload_n 0, 1) := by decide +kernel
theorem dL_law_741 : decode cL_law 741 = .ok (.iload_n 3, 1) := by decide +kernel
theorem dL_law_742 : decode cL_law 742 = .ok (.iconst 2, 1) := by decide +kernel
theorem dL_law_743 : decode cL_law 743 = .ok (.iadd, 1) := by decide +kernel
theorem dL_law_744 : decode cL_law 744 = .ok (.iaload, 1) := by decide +kernel
theorem dL_law_745 : decode cL_law 745 = .ok (.invokevirtual 97, 3) := by decide +kernel
theorem dL_law_748 : decode cL_law 748 = .ok (.aload_n 2, 1) := by decide +kernel
theorem dL_law_749 : decode cL_law 749 = .ok (.aload_n 0, 1) := by decide +kernel
theorem dL_law_750 : decode cL_law 750 = .ok (.iload_n 3, 1) := by decide +kernel
theorem dL_law_751 : decode cL_law 751 = .ok (.iconst 1, 1) := by decide +kernel
theorem dL_law_752 : decode cL_law 752 = .ok (.iadd, 1) := by decide +kernel
theorem dL_law_753 : decode cL_law 753 = .ok (.iaload, 1) := by decide +kernel
theorem dL_law_754 : decode cL_law 754 = .ok (.aload_n 0, 1) := by decide +kernel
theorem dL_law_755 : decode cL_law 755 = .ok (.iload_n 3, 1) := by decide +kernel
theorem dL_law_756 : decode cL_law 756 = .ok (.iconst 2, 1) := by decide +kernel
theorem dL_law_757 : decode cL_law 757 = .ok (.iadd, 1) := by decide +kernel
theorem dL_law_758 : decode cL_law 758 = .ok (.iaload, 1) := by decide +kernel
theorem dL_law_759 : decode cL_law 759 = .ok (.invokevirtual 100, 3) := by decide +kernel
theorem dL_law_762 : decode cL_law 762 = .ok (.if_icmp .eq 439, 3) := by decide +kernel
theorem dL_law_765 : decode cL_law 765 = .ok (.iconst 0, 1) := by decide +kernel
theorem dL_law_766 : decode cL_law 766 = .ok (.ireturn, 1) := by decide +kernel
theorem dL_law_767 : decode cL_law 767 = .ok (.aload_n 1, 1) := by decide +kernel
theorem dL_law_768 : decode cL_law 768 = .ok (.aload_n 0, 1) := by decide +kernel
theorem dL_law_769 : decode cL_law 769 = .ok (.iload_n 3, 1) := by decide +kernel
theorem dL_law_770 : decode cL_law 770 = .ok (.iconst 1, 1) := by decide +kernel
theorem dL_law_771 : decode cL_law 771 = .ok (.iadd, 1) := by decide +kernel
theorem dL_law_772 : decode cL_law 772 = .ok (.iaload, 1) := by decide +kernel
theorem dL_law_773 : decode cL_law 773 = .ok (.aload_n 0, 1) := by decide +kernel
theorem dL_law_774 : decode cL_law 774 = .ok (.iload_n 3, 1) := by decide +kernel
theorem dL_law_775 : decode cL_law 775 = .ok (.iconst 2, 1) := by decide +kernel
theorem dL_law_776 : decode cL_law 776 = .ok (.iadd, 1) := by decide +kernel
theorem dL_law_777 : decode cL_law 777 = .ok (.iaload, 1) := by decide +kernel
theorem dL_law_778 : decode cL_law 778 = .ok (.invokevirtual 101, 3) := by decide +kernel
theorem dL_law_781 : decode cL_law 781 = .ok (.aload_n 2, 1) := by decide +kernel
theorem dL_law_782 : decode cL_law 782 = .ok (.aload_n 0, 1) := by decide +kernel
theorem dL_law_783 : decode cL_law 783 = .ok (.iload_n 3, 1) := by decide +kernel
theorem dL_law_784 : decode cL_law 784 = .ok (.iconst 1, 1) := by decide +kernel
theorem dL_law_785 : decode cL_law 785 = .ok (.iadd, 1) := by decide +kernel
theorem dL_law_786 : decode cL_law 786 = .ok (.iaload, 1) := by decide +kernel
theorem dL_law_787 : decode cL_law 787 = .ok (.aload_n 0, 1) := by decide +kernel
theorem dL_law_788 : decode cL_law 788 = .ok (.iload_n 3, 1) := by decide +kernel
theorem dL_law_789 : decode cL_law 789 = .ok (.iconst 2, 1) := by decide +kernel
theorem dL_law_790 : decode cL_law 790 = .ok (.iadd, 1) := by decide +kernel
theorem dL_law_791 : decode cL_law 791 = .ok (.iaload, 1) := by decide +kernel
theorem dL_law_792 : decode cL_law 792 = .ok (.invokevirtual 104, 3) := by decide +kernel
theorem dL_law_795 : decode cL_law 795 = .ok (.if_icmp .eq 406, 3) := by decide +kernel
theorem dL_law_798 : decode cL_law 798 = .ok (.iconst 0, 1) := by decide +kernel
theorem dL_law_799 : decode cL_law 799 = .ok (.ireturn, 1) := by decide +kernel
theorem dL_law_800 : decode cL_law 800 = .ok (.aload_n 1, 1) := by decide +kernel
theorem dL_law_801 : decode cL_law 801 = .ok (.aload_n 0, 1) := by decide +kernel
theorem dL_law_802 : decode cL_law 802 = .ok (.iload_n 3, 1) := by decide +kernel
theorem dL_law_803 : decode cL_law 803 = .ok (.iconst 1, 1) := by decide +kernel
theorem dL_law_804 : decode cL_law 804 = .ok (.iadd, 1) := by decide +kernel
theorem dL_law_805 : decode cL_law 805 = .ok (.iaload, 1) := by decide +kernel
theorem dL_law_806 : decode cL_law 806 = .ok (.invokevirtual 105, 3) := by decide +kernel
theorem dL_law_809 : decode cL_law 809 = .ok (.aload_n 2, 1) := by decide +kernel
theorem dL_law_810 : decode cL_law 810 = .ok (.aload_n 0, 1) := by decide +kernel
theorem dL_law_811 : decode cL_law 811 = .ok (.iload_n 3, 1) := by decide +kernel
theorem dL_law_812 : decode cL_law 812 = .ok (.iconst 1, 1) := by decide +kernel
theorem dL_law_813 : decode cL_law 813 = .ok (.iadd, 1) := by decide +kernel
theorem dL_law_814 : decode cL_law 814 = .ok (.iaload, 1) := by decide +kernel
theorem dL_law_815 : decode cL_law 815 = .ok (.invokevirtual 108, 3) := by decide +kernel
theorem dL_law_818 : decode cL_law 818 = .ok (.if_icmp .eq 383, 3) := by decide +kernel
theorem dL_law_821 : decode cL_law 821 = .ok (.iconst 0, 1) := by decide +kernel
theorem dL_law_822 : decode cL_law 822 = .ok (.ireturn, 1) := by decide +kernel
theorem dL_law_823 : decode cL_law 823 = .ok (.aload_n 1, 1) := by decide +kernel
theorem dL_law_824 : decode cL_law 824 = .ok (.aload_n 0, 1) := by decide +kernel
theorem dL_law_825 : decode cL_law 825 = .ok (.iload_n 3, 1) := by decide +kernel
theorem dL_law_826 : decode cL_law 826 = .ok (.iconst 1, 1) := by decide +kernel
theorem dL_law_827 : decode cL_law 827 = .ok (.iadd, 1) := by decide +kernel
theorem dL_law_828 : decode cL_law 828 = .ok (.iaload, 1) := by decide +kernel
theorem dL_law_829 : decode cL_law 829 = .ok (.invokevirtual 109, 3) := by decide +kernel
theorem dL_law_832 : decode cL_law 832 = .ok (.aload_n 2, 1) := by decide +kernel
theorem dL_law_833 : decode cL_law 833 = .ok (.aload_n 0, 1) := by decide +kernel
theorem dL_law_834 : decode cL_law 834 = .ok (.iload_n 3, 1) := by decide +kernel
theorem dL_law_835 : decode cL_law 835 = .ok (.iconst 1, 1) := by decide +kernel
theorem dL_law_836 : decode cL_law 836 = .ok (.iadd, 1) := by decide +kernel
theorem dL_law_837 : decode cL_law 837 = .ok (.iaload, 1) := by decide +kernel
theorem dL_law_838 : decode cL_law 838 = .ok (.invokevirtual 112, 3) := by decide +kernel
theorem dL_law_841 : decode cL_law 841 = .ok (.if_icmp .eq 360, 3) := by decide +kernel
theorem dL_law_844 : decode cL_law 844 = .ok (.iconst 0, 1) := by decide +kernel
theorem dL_law_845 : decode cL_law 845 = .ok (.ireturn, 1) := by decide +kernel
theorem dL_law_846 : decode cL_law 846 = .ok (.aload_n 1, 1) := by decide +kernel
theorem dL_law_847 : decode cL_law 847 = .ok (.aload_n 0, 1) := by decide +kernel
theorem dL_law_848 : decode cL_law 848 = .ok (.iload_n 3, 1) := by decide +kernel
theorem dL_law_849 : decode cL_law 849 = .ok (.iconst 1, 1) := by decide +kernel
theorem dL_law_850 : decode cL_law 850 = .ok (.iadd, 1) := by decide +kernel
theorem dL_law_851 : decode cL_law 851 = .ok (.iaload, 1) := by decide +kernel
theorem dL_law_852 : decode cL_law 852 = .ok (.invokevirtual 113, 3) := by decide +kernel
theorem dL_law_855 : decode cL_law 855 = .ok (.aload_n 2, 1) := by decide +kernel
theorem dL_law_856 : decode cL_law 856 = .ok (.aload_n 0, 1) := by decide +kernel
theorem dL_law_857 : decode cL_law 857 = .ok (.iload_n 3, 1) := by decide +kernel
theorem dL_law_858 : decode cL_law 858 = .ok (.iconst 1, 1) := by decide +kernel
theorem dL_law_859 : decode cL_law 859 = .ok (.iadd, 1) := by decide +kernel
theorem dL_law_860 : decode cL_law 860 = .ok (.iaload, 1) := by decide +kernel
theorem dL_law_861 : decode cL_law 861 = .ok (.invokevirtual 116, 3) := by decide +kernel
theorem dL_law_864 : decode cL_law 864 = .ok (.if_icmp .eq 337, 3) := by decide +kernel
theorem dL_law_867 : decode cL_law 867 = .ok (.iconst 0, 1) := by decide +kernel
theorem dL_law_868 : decode cL_law 868 = .ok (.ireturn, 1) := by decide +kernel
theorem dL_law_869 : decode cL_law 869 = .ok (.aload_n 1, 1) := by decide +kernel
theorem dL_law_870 : decode cL_law 870 = .ok (.invokevirtual 117, 3) := by decide +kernel
theorem dL_law_873 : decode cL_law 873 = .ok (.aload_n 2, 1) := by decide +kernel
theorem dL_law_874 : decode cL_law 874 = .ok (.invokevirtual 120, 3) := by decide +kernel
theorem dL_law_877 : decode cL_law 877 = .ok (.if_icmp .eq 324, 3) := by decide +kernel
theorem dL_law_880 : decode cL_law 880 = .ok (.iconst 0, 1) := by decide +kernel
theorem dL_law_881 : decode cL_law 881 = .ok (.ireturn, 1) := by decide +kernel
theorem dL_law_882 : decode cL_law 882 = .ok (.aload_n 1, 1) := by decide +kernel
theorem dL_law_883 : decode cL_law 883 = .ok (.invokevirtual 121, 3) := by decide +kernel
theorem dL_law_886 : decode cL_law 886 = .ok (.aload_n 2, 1) := by decide +kernel
theorem dL_law_887 : decode cL_law 887 = .ok (.invokevirtual 124, 3) := by decide +kernel
theorem dL_law_890 : decode cL_law 890 = .ok (.if_icmp .eq 311, 3) := by decide +kernel
theorem dL_law_893 : decode cL_law 893 = .ok (.iconst 0, 1) := by decide +kernel
theorem dL_law_894 : decode cL_law 894 = .ok (.ireturn, 1) := by decide +kernel
theorem dL_law_895 : decode cL_law 895 = .ok (.aload_n 1, 1) := by decide +kernel
theorem dL_law_896 : decode cL_law 896 = .ok (.invokevirtual 125, 3) := by decide +kernel
theorem dL_law_899 : decode cL_law 899 = .ok (.aload_n 2, 1) := by decide +kernel
theorem dL_law_900 : decode cL_law 900 = .ok (.invokevirtual 128, 3) := by decide +kernel
theorem dL_law_903 : decode cL_law 903 = .ok (.if_icmp .eq 298, 3) := by decide +kernel
theorem dL_law_906 : decode cL_law 906 = .ok (.iconst 0, 1) := by decide +kernel
theorem dL_law_907 : decode cL_law 907 = .ok (.ireturn, 1) := by decide +kernel
theorem dL_law_908 : decode cL_law 908 = .ok (.aload_n 1, 1) := by decide +kernel
theorem dL_law_909 : decode cL_law 909 = .ok (.aload_n 0, 1) := by decide +kernel
theorem dL_law_910 : decode cL_law 910 = .ok (.iload_n 3, 1) := by decide +kernel
theorem dL_law_911 : decode cL_law 911 = .ok (.iconst 1, 1) := by decide +kernel
theorem dL_law_912 : decode cL_law 912 = .ok (.iadd, 1) := by decide +kernel
theorem dL_law_913 : decode cL_law 913 = .ok (.iaload, 1) := by decide +kernel
theorem dL_law_914 : decode cL_law 914 = .ok (.invokevirtual 129, 3) := by decide +kernel
theorem dL_law_917 : decode cL_law 917 = .ok (.aload_n 2, 1) := by decide +kernel
theorem dL_law_918 : decode cL_law 918 = .ok (.aload_n 0, 1) := by decide +kernel
theorem dL_law_919 : decode cL_law 919 = .ok (.iload_n 3, 1) := by decide +kernel
theorem dL_law_920 : decode cL_law 920 = .ok (.iconst 1, 1) := by decide +kernel
theorem dL_law_921 : decode cL_law 921 = .ok (.iadd, 1) := by decide +kernel
theorem dL_law_922 : decode cL_law 922 = .ok (.iaload, 1) := by decide +kernel
theorem dL_law_923 : decode cL_law 923 = .ok (.invokevirtual 132, 3) := by decide +kernel
theorem dL_law_926 : decode cL_law 926 = .ok (.if_icmp .eq 275, 3) := by decide +kernel
theorem dL_law_929 : decode cL_law 929 = .ok (.iconst 0, 1) := by decide +kernel
theorem dL_law_930 : decode cL_law 930 = .ok (.ireturn, 1) := by decide +kernel
theorem dL_law_931 : decode cL_law 931 = .ok (.aload_n 1, 1) := by decide +kernel
theorem dL_law_932 : decode cL_law 932 = .ok (.aload_n 0, 1) := by decide +kernel
theorem dL_law_933 : decode cL_law 933 = .ok (.iload_n 3, 1) := by decide +kernel
theorem dL_law_934 : decode cL_law 934 = .ok (.iconst 1, 1) := by decide +kernel
theorem dL_law_935 : decode cL_law 935 = .ok (.iadd, 1) := by decide +kernel
theorem dL_law_936 : decode cL_law 936 = .ok (.iaload, 1) := by decide +kernel
theorem dL_law_937 : decode cL_law 937 = .ok (.invokevirtual 133, 3) := by decide +kernel
theorem dL_law_940 : decode cL_law 940 = .ok (.aload_n 2, 1) := by decide +kernel
theorem dL_law_941 : decode cL_law 941 = .ok (.aload_n 0, 1) := by decide +kernel
theorem dL_law_942 : decode cL_law 942 = .ok (.iload_n 3, 1) := by decide +kernel
theorem dL_law_943 : decode cL_law 943 = .ok (.iconst 1, 1) := by decide +kernel
theorem dL_law_944 : decode cL_law 944 = .ok (.iadd, 1) := by decide +kernel
theorem dL_law_945 : decode cL_law 945 = .ok (.iaload, 1) := by decide +kernel
theorem dL_law_946 : decode cL_law 946 = .ok (.invokevirtual 136, 3) := by decide +kernel
theorem dL_law_949 : decode cL_law 949 = .ok (.if_icmp .eq 252, 3) := by decide +kernel
theorem dL_law_952 : decode cL_law 952 = .ok (.iconst 0, 1) := by decide +kernel
theorem dL_law_953 : decode cL_law 953 = .ok (.ireturn, 1) := by decide +kernel
theorem dL_law_954 : decode cL_law 954 = .ok (.aload_n 1, 1) := by decide +kernel
theorem dL_law_955 : decode cL_law 955 = .ok (.aload_n 0, 1) := by decide +kernel
theorem dL_law_956 : decode cL_law 956 = .ok (.iload_n 3, 1) := by decide +kernel
theorem dL_law_957 : decode cL_law 957 = .ok (.iconst 1, 1) := by decide +kernel
theorem dL_law_958 : decode cL_law 958 = .ok (.iadd, 1) := by decide +kernel
theorem dL_law_959 : decode cL_law 959 = .ok (.iaload, 1) := by decide +kernel
theorem dL_law_960 : decode cL_law 960 = .ok (.invokevirtual 137, 3) := by decide +kernel
theorem dL_law_963 : decode cL_law 963 = .ok (.aload_n 2, 1) := by decide +kernel
theorem dL_law_964 : decode cL_law 964 = .ok (.aload_n 0, 1) := by decide +kernel
theorem dL_law_965 : decode cL_law 965 = .ok (.iload_n 3, 1) := by decide +kernel
theorem dL_law_966 : decode cL_law 966 = .ok (.iconst 1, 1) := by decide +kernel
theorem dL_law_967 : decode cL_law 967 = .ok (.iadd, 1) := by decide +kernel
theorem dL_law_968 : decode cL_law 968 = .ok (.iaload, 1) := by decide +kernel
theorem dL_law_969 : decode cL_law 969 = .ok (.invokevirtual 140, 3) := by decide +kernel
theorem dL_law_972 : decode cL_law 972 = .ok (.if_icmp .eq 229, 3) := by decide +kernel
theorem dL_law_975 : decode cL_law 975 = .ok (.iconst 0, 1) := by decide +kernel
theorem dL_law_976 : decode cL_law 976 = .ok (.ireturn, 1) := by decide +kernel
theorem dL_law_977 : decode cL_law 977 = .ok (.aload_n 1, 1) := by decide +kernel
theorem dL_law_978 : decode cL_law 978 = .ok (.aload_n 0, 1) := by decide +kernel
theorem dL_law_979 : decode cL_law 979 = .ok (.iload_n 3, 1) := by decide +kernel
theorem dL_law_980 : decode cL_law 980 = .ok (.iconst 1, 1) := by decide +kernel
theorem dL_law_981 : decode cL_law 981 = .ok (.iadd, 1) := by decide +kernel
theorem dL_law_982 : decode cL_law 982 = .ok (.iaload, 1) := by decide +kernel
theorem dL_law_983 : decode cL_law 983 = .ok (.invokevirtual 141, 3) := by decide +kernel
theorem dL_law_986 : decode cL_law 986 = .ok (.aload_n 2, 1) := by decide +kernel
theorem dL_law_987 : decode cL_law 987 = .ok (.aload_n 0, 1) := by decide +kernel
theorem dL_law_988 : decode cL_law 988 = .ok (.iload_n 3, 1) := by decide +kernel
theorem dL_law_989 : decode cL_law 989 = .ok (.iconst 1, 1) := by decide +kernel
theorem dL_law_990 : decode cL_law 990 = .ok (.iadd, 1) := by decide +kernel
theorem dL_law_991 : decode cL_law 991 = .ok (.iaload, 1) := by decide +kernel
theorem dL_law_992 : decode cL_law 992 = .ok (.invokevirtual 144, 3) := by decide +kernel
theorem dL_law_995 : decode cL_law 995 = .ok (.if_icmp .eq 206, 3) := by decide +kernel
theorem dL_law_998 : decode cL_law 998 = .ok (.iconst 0, 1) := by decide +kernel
theorem dL_law_999 : decode cL_law 999 = .ok (.ireturn, 1) := by decide +kernel
theorem dL_law_1000 : decode cL_law 1000 = .ok (.aload_n 1, 1) := by decide +kernel
theorem dL_law_1001 : decode cL_law 1001 = .ok (.aload_n 0, 1) := by decide +kernel
theorem dL_law_1002 : decode cL_law 1002 = .ok (.iload_n 3, 1) := by decide +kernel
theorem dL_law_1003 : decode cL_law 1003 = .ok (.iconst 1, 1) := by decide +kernel
theorem dL_law_1004 : decode cL_law 1004 = .ok (.iadd, 1) := by decide +kernel
theorem dL_law_1005 : decode cL_law 1005 = .ok (.iaload, 1) := by decide +kernel
theorem dL_law_1006 : decode cL_law 1006 = .ok (.aload_n 0, 1) := by decide +kernel
theorem dL_law_1007 : decode cL_law 1007 = .ok (.iload_n 3, 1) := by decide +kernel
theorem dL_law_1008 : decode cL_law 1008 = .ok (.iconst 2, 1) := by decide +kernel
theorem dL_law_1009 : decode cL_law 1009 = .ok (.iadd, 1) := by decide +kernel
theorem dL_law_1010 : decode cL_law 1010 = .ok (.iaload, 1) := by decide +kernel
theorem dL_law_1011 : decode cL_law 1011 = .ok (.invokevirtual 145, 3) := by decide +kernel
theorem dL_law_1014 : decode cL_law 1014 = .ok (.aload_n 2, 1) := by decide +kernel
theorem dL_law_1015 : decode cL_law 1015 = .ok (.aload_n 0, 1) := by decide +kernel
theorem dL_law_1016 : decode cL_law 1016 = .ok (.iload_n 3, 1) := by decide +kernel
theorem dL_law_1017 : decode cL_law 1017 = .ok (.iconst 1, 1) := by decide +kernel
theorem dL_law_1018 : decode cL_law 1018 = .ok (.iadd, 1) := by decide +kernel
theorem dL_law_1019 : decode cL_law 1019 = .ok (.iaload, 1) := by decide +kernel
theorem dL_law_1020 : decode cL_law 1020 = .ok (.aload_n 0, 1) := by decide +kernel
theorem dL_law_1021 : decode cL_law 1021 = .ok (.iload_n 3, 1) := by decide +kernel
theorem dL_law_1022 : decode cL_law 1022 = .ok (.iconst 2, 1) := by decide +kernel
theorem dL_law_1023 : decode cL_law 1023 = .ok (.iadd, 1) := by decide +kernel
theorem dL_law_1024 : decode cL_law 1024 = .ok (.iaload, 1) := by decide +kernel
theorem dL_law_1025 : decode cL_law 1025 = .ok (.invokevirtual 148, 3) := by decide +kernel
theorem dL_law_1028 : decode cL_law 1028 = .ok (.if_icmp .eq 173, 3) := by decide +kernel
theorem dL_law_1031 : decode cL_law 1031 = .ok (.iconst 0, 1) := by decide +kernel
theorem dL_law_1032 : decode cL_law 1032 = .ok (.ireturn, 1) := by decide +kernel
theorem dL_law_1033 : decode cL_law 1033 = .ok (.aload_n 1, 1) := by decide +kernel
theorem dL_law_1034 : decode cL_law 1034 = .ok (.aload_n 0, 1) := by decide +kernel
theorem dL_law_1035 : decode cL_law 1035 = .ok (.iload_n 3, 1) := by decide +kernel
theorem dL_law_1036 : decode cL_law 1036 = .ok (.iconst 1, 1) := by decide +kernel
theorem dL_law_1037 : decode cL_law 1037 = .ok (.iadd, 1) := by decide +kernel
theorem dL_law_1038 : decode cL_law 1038 = .ok (.iaload, 1) := by decide +kernel
theorem dL_law_1039 : decode cL_law 1039 = .ok (.aload_n 0, 1) := by decide +kernel
theorem dL_law_1040 : decode cL_law 1040 = .ok (.iload_n 3, 1) := by decide +kernel
theorem dL_law_1041 : decode cL_law 1041 = .ok (.iconst 2, 1) := by decide +kernel
theorem dL_law_1042 : decode cL_law 1042 = .ok (.iadd, 1) := by decide +kernel
theorem dL_law_1043 : decode cL_law 1043 = .ok (.iaload, 1) := by decide +kernel
theorem dL_law_1044 : decode cL_law 1044 = .ok (.aload_n 0, 1) := by decide +kernel
theorem dL_law_1045 : decode cL_law 1045 = .ok (.iload_n 3, 1) := by decide +kernel
theorem dL_law_1046 : decode cL_law 1046 = .ok (.iconst 3, 1) := by decide +kernel
theorem dL_law_1047 : decode cL_law 1047 = .ok (.iadd, 1) := by decide +kernel
theorem dL_law_1048 : decode cL_law 1048 = .ok (.iaload, 1) := by decide +kernel
theorem dL_law_1049 : decode cL_law 1049 = .ok (.invokevirtual 149, 3) := by decide +kernel
theorem dL_law_1052 : decode cL_law 1052 = .ok (.aload_n 2, 1) := by decide +kernel
theorem dL_law_1053 : decode cL_law 1053 = .ok (.aload_n 0, 1) := by decide +kernel
theorem dL_law_1054 : decode cL_law 1054 = .ok (.iload_n 3, 1) := by decide +kernel
theorem dL_law_1055 : decode cL_law 1055 = .ok (.iconst 1, 1) := by decide +kernel
theorem dL_law_1056 : decode cL_law 1056 = .ok (.iadd, 1) := by decide +kernel
theorem dL_law_1057 : decode cL_law 1057 = .ok (.iaload, 1) := by decide +kernel
theorem dL_law_1058 : decode cL_law 1058 = .ok (.aload_n 0, 1) := by decide +kernel
theorem dL_law_1059 : decode cL_law 1059 = .ok (.iload_n 3, 1) := by decide +kernel
theorem dL_law_1060 : decode cL_law 1060 = .ok (.iconst 2, 1) := by decide +kernel
theorem dL_law_1061 : decode cL_law 1061 = .ok (.iadd, 1) := by decide +kernel
theorem dL_law_1062 : decode cL_law 1062 = .ok (.iaload, 1) := by decide +kernel
theorem dL_law_1063 : decode cL_law 1063 = .ok (.aload_n 0, 1) := by decide +kernel
theorem dL_law_1064 : decode cL_law 1064 = .ok (.iload_n 3, 1) := by decide +kernel
theorem dL_law_1065 : decode cL_law 1065 = .ok (.iconst 3, 1) := by decide +kernel
theorem dL_law_1066 : decode cL_law 1066 = .ok (.iadd, 1) := by decide +kernel
theorem dL_law_1067 : decode cL_law 1067 = .ok (.iaload, 1) := by decide +kernel
theorem dL_law_1068 : decode cL_law 1068 = .ok (.invokevirtual 152, 3) := by decide +kernel
theorem dL_law_1071 : decode cL_law 1071 = .ok (.if_icmp .eq 130, 3) := by decide +kernel
theorem dL_law_1074 : decode cL_law 1074 = .ok (.iconst 0, 1) := by decide +kernel
theorem dL_law_1075 : decode cL_law 1075 = .ok (.ireturn, 1) := by decide +kernel
theorem dL_law_1076 : decode cL_law 1076 = .ok (.aload_n 1, 1) := by decide +kernel
theorem dL_law_1077 : decode cL_law 1077 = .ok (.aload_n 0, 1) := by decide +kernel
theorem dL_law_1078 : decode cL_law 1078 = .ok (.iload_n 3, 1) := by decide +kernel
theorem dL_law_1079 : decode cL_law 1079 = .ok (.iconst 1, 1) := by decide +kernel
theorem dL_law_1080 : decode cL_law 1080 = .ok (.iadd, 1) := by decide +kernel
theorem dL_law_1081 : decode cL_law 1081 = .ok (.iaload, 1) := by decide +kernel
theorem dL_law_1082 : decode cL_law 1082 = .ok (.aload_n 0, 1) := by decide +kernel
theorem dL_law_1083 : decode cL_law 1083 = .ok (.iload_n 3, 1) := by decide +kernel
theorem dL_law_1084 : decode cL_law 1084 = .ok (.iconst 2, 1) := by decide +kernel
theorem dL_law_1085 : decode cL_law 1085 = .ok (.iadd, 1) := by decide +kernel
theorem dL_law_1086 : decode cL_law 1086 = .ok (.iaload, 1) := by decide +kernel
theorem dL_law_1087 : decode cL_law 1087 = .ok (.invokevirtual 153, 3) := by decide +kernel
theorem dL_law_1090 : decode cL_law 1090 = .ok (.aload_n 2, 1) := by decide +kernel
theorem dL_law_1091 : decode cL_law 1091 = .ok (.aload_n 0, 1) := by decide +kernel
theorem dL_law_1092 : decode cL_law 1092 = .ok (.iload_n 3, 1) := by decide +kernel
theorem dL_law_1093 : decode cL_law 1093 = .ok (.iconst 1, 1) := by decide +kernel
theorem dL_law_1094 : decode cL_law 1094 = .ok (.iadd, 1) := by decide +kernel
theorem dL_law_1095 : decode cL_law 1095 = .ok (.iaload, 1) := by decide +kernel
theorem dL_law_1096 : decode cL_law 1096 = .ok (.aload_n 0, 1) := by decide +kernel
theorem dL_law_1097 : decode cL_law 1097 = .ok (.iload_n 3, 1) := by decide +kernel
theorem dL_law_1098 : decode cL_law 1098 = .ok (.iconst 2, 1) := by decide +kernel
theorem dL_law_1099 : decode cL_law 1099 = .ok (.iadd, 1) := by decide +kernel
theorem dL_law_1100 : decode cL_law 1100 = .ok (.iaload, 1) := by decide +kernel
theorem dL_law_1101 : decode cL_law 1101 = .ok (.invokevirtual 156, 3) := by decide +kernel
theorem dL_law_1104 : decode cL_law 1104 = .ok (.if_icmp .eq 97, 3) := by decide +kernel
theorem dL_law_1107 : decode cL_law 1107 = .ok (.iconst 0, 1) := by decide +kernel
theorem dL_law_1108 : decode cL_law 1108 = .ok (.ireturn, 1) := by decide +kernel
theorem dL_law_1109 : decode cL_law 1109 = .ok (.aload_n 1, 1) := by decide +kernel
theorem dL_law_1110 : decode cL_law 1110 = .ok (.aload_n 0, 1) := by decide +kernel
theorem dL_law_1111 : decode cL_law 1111 = .ok (.iload_n 3, 1) := by decide +kernel
theorem dL_law_1112 : decode cL_law 1112 = .ok (.iconst 1, 1) := by decide +kernel
theorem dL_law_1113 : decode cL_law 1113 = .ok (.iadd, 1) := by decide +kernel
theorem dL_law_1114 : decode cL_law 1114 = .ok (.iaload, 1) := by decide +kernel
theorem dL_law_1115 : decode cL_law 1115 = .ok (.aload_n 0, 1) := by decide +kernel
theorem dL_law_1116 : decode cL_law 1116 = .ok (.iload_n 3, 1) := by decide +kernel
theorem dL_law_1117 : decode cL_law 1117 = .ok (.iconst 2, 1) := by decide +kernel
theorem dL_law_1118 : decode cL_law 1118 = .ok (.iadd, 1) := by decide +kernel
theorem dL_law_1119 : decode cL_law 1119 = .ok (.iaload, 1) := by decide +kernel
theorem dL_law_1120 : decode cL_law 1120 = .ok (.invokevirtual 157, 3) := by decide +kernel
theorem dL_law_1123 : decode cL_law 1123 = .ok (.aload_n 2, 1) := by decide +kernel
theorem dL_law_1124 : decode cL_law 1124 = .ok (.aload_n 0, 1) := by decide +kernel
theorem dL_law_1125 : decode cL_law 1125 = .ok (.iload_n 3, 1) := by decide +kernel
theorem dL_law_1126 : decode cL_law 1126 = .ok (.iconst 1, 1) := by decide +kernel
theorem dL_law_1127 : decode cL_law 1127 = .ok (.iadd, 1) := by decide +kernel
theorem dL_law_1128 : decode cL_law 1128 = .ok (.iaload, 1) := by decide +kernel
theorem dL_law_1129 : decode cL_law 1129 = .ok (.aload_n 0, 1) := by decide +kernel
theorem dL_law_1130 : decode cL_law 1130 = .ok (.iload_n 3, 1) := by decide +kernel
theorem dL_law_1131 : decode cL_law 1131 = .ok (.iconst 2, 1) := by decide +kernel
theorem dL_law_1132 : decode cL_law 1132 = .ok (.iadd, 1) := by decide +kernel
theorem dL_law_1133 : decode cL_law 1133 = .ok (.iaload, 1) := by decide +kernel
theorem dL_law_1134 : decode cL_law 1134 = .ok (.invokevirtual 160, 3) := by decide +kernel
theorem dL_law_1137 : decode cL_law 1137 = .ok (.if_icmp .eq 64, 3) := by decide +kernel
theorem dL_law_1140 : decode cL_law 1140 = .ok (.iconst 0, 1) := by decide +kernel
theorem dL_law_1141 : decode cL_law 1141 = .ok (.ireturn, 1) := by decide +kernel
theorem dL_law_1142 : decode cL_law 1142 = .ok (.aload_n 1, 1) := by decide +kernel
theorem dL_law_1143 : decode cL_law 1143 = .ok (.aload_n 0, 1) := by decide +kernel
theorem dL_law_1144 : decode cL_law 1144 = .ok (.iload_n 3, 1) := by decide +kernel
theorem dL_law_1145 : decode cL_law 1145 = .ok (.iconst 1, 1) := by decide +kernel
theorem dL_law_1146 : decode cL_law 1146 = .ok (.iadd, 1) := by decide +kernel
theorem dL_law_1147 : decode cL_law 1147 = .ok (.iaload, 1) := by decide +kernel
theorem dL_law_1148 : decode cL_law 1148 = .ok (.aload_n 0, 1) := by decide +kernel
theorem dL_law_1149 : decode cL_law 1149 = .ok (.iload_n 3, 1) := by decide +kernel
theorem dL_law_1150 : decode cL_law 1150 = .ok (.iconst 2, 1) := by decide +kernel
theorem dL_law_1151 : decode cL_law 1151 = .ok (.iadd, 1) := by decide +kernel
theorem dL_law_1152 : decode cL_law 1152 = .ok (.iaload, 1) := by decide +kernel
theorem dL_law_1153 : decode cL_law 1153 = .ok (.invokevirtual 161, 3) := by decide +kernel
theorem dL_law_1156 : decode cL_law 1156 = .ok (.aload_n 2, 1) := by decide +kernel
theorem dL_law_1157 : decode cL_law 1157 = .ok (.aload_n 0, 1) := by decide +kernel
theorem dL_law_1158 : decode cL_law 1158 = .ok (.iload_n 3, 1) := by decide +kernel
theorem dL_law_1159 : decode cL_law 1159 = .ok (.iconst 1, 1) := by decide +kernel
theorem dL_law_1160 : decode cL_law 1160 = .ok (.iadd, 1) := by decide +kernel
theorem dL_law_1161 : decode cL_law 1161 = .ok (.iaload, 1) := by decide +kernel
theorem dL_law_1162 : decode cL_law 1162 = .ok (.aload_n 0, 1) := by decide +kernel
theorem dL_law_1163 : decode cL_law 1163 = .ok (.iload_n 3, 1) := by decide +kernel
theorem dL_law_1164 : decode cL_law 1164 = .ok (.iconst 2, 1) := by decide +kernel
theorem dL_law_1165 : decode cL_law 1165 = .ok (.iadd, 1) := by decide +kernel
theorem dL_law_1166 : decode cL_law 1166 = .ok (.iaload, 1) := by decide +kernel
theorem dL_law_1167 : decode cL_law 1167 = .ok (.invokevirtual 164, 3) := by decide +kernel
theorem dL_law_1170 : decode cL_law 1170 = .ok (.if_icmp .eq 31, 3) := by decide +kernel
theorem dL_law_1173 : decode cL_law 1173 = .ok (.iconst 0, 1) := by decide +kernel
theorem dL_law_1174 : decode cL_law 1174 = .ok (.ireturn, 1) := by decide +kernel
theorem dL_law_1175 : decode cL_law 1175 = .ok (.aload_n 1, 1) := by decide +kernel
theorem dL_law_1176 : decode cL_law 1176 = .ok (.invokevirtual 165, 3) := by decide +kernel
theorem dL_law_1179 : decode cL_law 1179 = .ok (.aload_n 2, 1) := by decide +kernel
theorem dL_law_1180 : decode cL_law 1180 = .ok (.invokevirtual 168, 3) := by decide +kernel
theorem dL_law_1183 : decode cL_law 1183 = .ok (.if_icmp .eq 18, 3) := by decide +kernel
theorem dL_law_1186 : decode cL_law 1186 = .ok (.iconst 0, 1) := by decide +kernel
theorem dL_law_1187 : decode cL_law 1187 = .ok (.ireturn, 1) := by decide +kernel
theorem dL_law_1188 : decode cL_law 1188 = .ok (.aload_n 1, 1) := by decide +kernel
theorem dL_law_1189 : decode cL_law 1189 = .ok (.invokevirtual 169, 3) := by decide +kernel
theorem dL_law_1192 : decode cL_law 1192 = .ok (.aload_n 2, 1) := by decide +kernel
theorem dL_law_1193 : decode cL_law 1193 = .ok (.invokevirtual 172, 3) := by decide +kernel
theorem dL_law_1196 : decode cL_law 1196 = .ok (.if_icmp .eq 5, 3) := by decide +kernel
theorem dL_law_1199 : decode cL_law 1199 = .ok (.iconst 0, 1) := by decide +kernel
theorem dL_law_1200 : decode cL_law 1200 = .ok (.ireturn, 1) := by decide +kernel
theorem dL_law_1201 : decode cL_law 1201 = .ok (.iinc 3 4, 3) := by decide +kernel
theorem dL_law_1204 : decode cL_law 1204 = .ok (.goto (-1186), 3) := by decide +kernel
theorem dL_law_1207 : decode cL_law 1207 = .ok (.iconst 1, 1) := by decide +kernel
theorem dL_law_1208 : decode cL_law 1208 = .ok (.ireturn, 1) := by decide +kernel
end
section
def nestWord : Cond → Bool
  | .fieldLinkNest .. => true
  | .methodLinkNest .. => true
  | _ => false
def wsL_law : List Cond := lw_tbl.filter (fun w => goodWord w || nestWord w)
theorem wsL_law_in : ∀ w ∈ wsL_law, w ∈ lw_tbl := fun _ h => (List.mem_filter.mp h).1
theorem w_in {w : Cond} (h : w ∈ lw_tbl) (g : (goodWord w || nestWord w) = true) : w ∈ wsL_law := List.mem_filter.mpr ⟨h, g⟩
theorem in_t1 {w : Cond} (h : w ∈ tables_1_1) : w ∈ lw_tbl := List.mem_append_right _ (List.mem_append_left _ h)
theorem in_t2 {w : Cond} (h : w ∈ tables_1_2) : w ∈ lw_tbl := List.mem_append_right _ (List.mem_append_right _ (List.mem_append_left _ h))
theorem in_t3 {w : Cond} (h : w ∈ tables_1_3) : w ∈ lw_tbl := List.mem_append_right _ (List.mem_append_right _ (List.mem_append_right _ (List.mem_append_left _ h)))
theorem in_t4 {w : Cond} (h : w ∈ tables_1_4) : w ∈ lw_tbl := List.mem_append_right _ (List.mem_append_right _ (List.mem_append_right _ (List.mem_append_right _ (List.mem_append_left _ h))))
theorem in_t5 {w : Cond} (h : w ∈ tables_1_5) : w ∈ lw_tbl := List.mem_append_right _ (List.mem_append_right _ (List.mem_append_right _ (List.mem_append_right _ (List.mem_append_right _ (List.mem_append_left _ h)))))
theorem in_t6 {w : Cond} (h : w ∈ tables_1_6) : w ∈ lw_tbl := List.mem_append_right _ (List.mem_append_right _ (List.mem_append_right _ (List.mem_append_right _ (List.mem_append_right _ (List.mem_append_right _ h)))))
theorem in_sel {w : Cond} (h : w ∈ k2_sels lw_privs) : w ∈ lw_tbl := List.mem_append_left _ h
theorem in_priv1 {q : MethodName × Nat} (h : q ∈ lw_privs_1) : q ∈ lw_privs := List.mem_append_left _ h
theorem in_priv2 {q : MethodName × Nat} (h : q ∈ lw_privs_2) : q ∈ lw_privs := List.mem_append_right _ (List.mem_append_left _ h)
theorem in_priv3 {q : MethodName × Nat} (h : q ∈ lw_privs_3) : q ∈ lw_privs := List.mem_append_right _ (List.mem_append_right _ (List.mem_append_left _ h))
theorem in_priv4 {q : MethodName × Nat} (h : q ∈ lw_privs_4) : q ∈ lw_privs := List.mem_append_right _ (List.mem_append_right _ (List.mem_append_right _ (List.mem_append_left _ h)))
theorem in_priv5 {q : MethodName × Nat} (h : q ∈ lw_privs_5) : q ∈ lw_privs := List.mem_append_right _ (List.mem_append_right _ (List.mem_append_right _ (List.mem_append_right _ h)))
theorem ikX0 : ∀ k, k < 12 → u_lay RX0 TX0 k ∈ wsL_law
  | 0, _ => w_in (in_t1 (List.mem_of_getElem? (i := 82) (by decide +kernel))) rfl
  | 1, _ => w_in (in_t1 (List.mem_of_getElem? (i := 84) (by decide +kernel))) rfl
  | 2, _ => w_in (in_t1 (List.mem_of_getElem? (i := 86) (by decide +kernel))) rfl
  | 3, _ => w_in (in_t1 (List.mem_of_getElem? (i := 88) (by decide +kernel))) rfl
  | 4, _ => w_in (in_t1 (List.mem_of_getElem? (i := 90) (by decide +kernel))) rfl
  | 5, _ => w_in (in_t1 (List.mem_of_getElem? (i := 92) (by decide +kernel))) rfl
  | 6, _ => w_in (in_t1 (List.mem_of_getElem? (i := 94) (by decide +kernel))) rfl
  | 7, _ => w_in (in_t1 (List.mem_of_getElem? (i := 96) (by decide +kernel))) rfl
  | 8, _ => w_in (in_t1 (List.mem_of_getElem? (i := 98) (by decide +kernel))) rfl
  | 9, _ => w_in (in_t1 (List.mem_of_getElem? (i := 100) (by decide +kernel))) rfl
  | 10, _ => w_in (in_t1 (List.mem_of_getElem? (i := 102) (by decide +kernel))) rfl
  | 11, _ => w_in (in_t1 (List.mem_of_getElem? (i := 104) (by decide +kernel))) rfl
  | n + 12, h => absurd h (by omega)
theorem inlX0 : ∀ w ∈ u_ws RX0 TX0 12, w ∈ wsL_law := by
  intro w h
  obtain ⟨k, hk, rfl⟩ := List.mem_map.mp h
  exact ikX0 k (List.mem_range.mp hk)
theorem ikX1 : ∀ k, k < 8 → u_lay RX1 TX1 k ∈ wsL_law
  | 0, _ => w_in (in_t1 (List.mem_of_getElem? (i := 173) (by decide +kernel))) rfl
  | 1, _ => w_in (in_t1 (List.mem_of_getElem? (i := 175) (by decide +kernel))) rfl
  | 2, _ => w_in (in_t1 (List.mem_of_getElem? (i := 177) (by decide +kernel))) rfl
  | 3, _ => w_in (in_t1 (List.mem_of_getElem? (i := 179) (by decide +kernel))) rfl
  | 4, _ => w_in (in_t1 (List.mem_of_getElem? (i := 181) (by decide +kernel))) rfl
  | 5, _ => w_in (in_t1 (List.mem_of_getElem? (i := 183) (by decide +kernel))) rfl
  | 6, _ => w_in (in_t1 (List.mem_of_getElem? (i := 185) (by decide +kernel))) rfl
  | 7, _ => w_in (in_t1 (List.mem_of_getElem? (i := 187) (by decide +kernel))) rfl
  | n + 8, h => absurd h (by omega)
theorem inlX1 : ∀ w ∈ u_ws RX1 TX1 8, w ∈ wsL_law := by
  intro w h
  obtain ⟨k, hk, rfl⟩ := List.mem_map.mp h
  exact ikX1 k (List.mem_range.mp hk)
theorem ikX2 : ∀ k, k < 1 → u_lay RX2 TX2 k ∈ wsL_law
  | 0, _ => w_in (in_t1 (List.mem_of_getElem? (i := 40) (by decide +kernel))) rfl
  | n + 1, h => absurd h (by omega)
theorem inlX2 : ∀ w ∈ u_ws RX2 TX2 1, w ∈ wsL_law := by
  intro w h
  obtain ⟨k, hk, rfl⟩ := List.mem_map.mp h
  exact ikX2 k (List.mem_range.mp hk)
theorem ikX3 : ∀ k, k < 2 → u_lay RX3 TX3 k ∈ wsL_law
  | 0, _ => w_in (in_t1 (List.mem_of_getElem? (i := 220) (by decide +kernel))) rfl
  | 1, _ => w_in (in_t1 (List.mem_of_getElem? (i := 222) (by decide +kernel))) rfl
  | n + 2, h => absurd h (by omega)
theorem inlX3 : ∀ w ∈ u_ws RX3 TX3 2, w ∈ wsL_law := by
  intro w h
  obtain ⟨k, hk, rfl⟩ := List.mem_map.mp h
  exact ikX3 k (List.mem_range.mp hk)
theorem ikX4 : ∀ k, k < 10 → u_lay RX4 TX4 k ∈ wsL_law
  | 0, _ => w_in (in_t1 (List.mem_of_getElem? (i := 136) (by decide +kernel))) rfl
  | 1, _ => w_in (in_t1 (List.mem_of_getElem? (i := 138) (by decide +kernel))) rfl
  | 2, _ => w_in (in_t1 (List.mem_of_getElem? (i := 140) (by decide +kernel))) rfl
  | 3, _ => w_in (in_t1 (List.mem_of_getElem? (i := 142) (by decide +kernel))) rfl
  | 4, _ => w_in (in_t1 (List.mem_of_getElem? (i := 144) (by decide +kernel))) rfl
  | 5, _ => w_in (in_t1 (List.mem_of_getElem? (i := 146) (by decide +kernel))) rfl
  | 6, _ => w_in (in_t1 (List.mem_of_getElem? (i := 148) (by decide +kernel))) rfl
  | 7, _ => w_in (in_t1 (List.mem_of_getElem? (i := 150) (by decide +kernel))) rfl
  | 8, _ => w_in (in_t1 (List.mem_of_getElem? (i := 152) (by decide +kernel))) rfl
  | 9, _ => w_in (in_t1 (List.mem_of_getElem? (i := 154) (by decide +kernel))) rfl
  | n + 10, h => absurd h (by omega)
theorem inlX4 : ∀ w ∈ u_ws RX4 TX4 10, w ∈ wsL_law := by
  intro w h
  obtain ⟨k, hk, rfl⟩ := List.mem_map.mp h
  exact ikX4 k (List.mem_range.mp hk)
theorem ikX5 : ∀ k, k < 2 → u_lay RX5 TX5 k ∈ wsL_law
  | 0, _ => w_in (in_t1 (List.mem_of_getElem? (i := 201) (by decide +kernel))) rfl
  | 1, _ => w_in (in_t1 (List.mem_of_getElem? (i := 203) (by decide +kernel))) rfl
  | n + 2, h => absurd h (by omega)
theorem inlX5 : ∀ w ∈ u_ws RX5 TX5 2, w ∈ wsL_law := by
  intro w h
  obtain ⟨k, hk, rfl⟩ := List.mem_map.mp h
  exact ikX5 k (List.mem_range.mp hk)
theorem ikX6 : ∀ k, k < 8 → u_lay RX6 TX6 k ∈ wsL_law
  | 0, _ => w_in (in_t1 (List.mem_of_getElem? (i := 233) (by decide +kernel))) rfl
  | 1, _ => w_in (in_t1 (List.mem_of_getElem? (i := 235) (by decide +kernel))) rfl
  | 2, _ => w_in (in_t1 (List.mem_of_getElem? (i := 237) (by decide +kernel))) rfl
  | 3, _ => w_in (in_t1 (List.mem_of_getElem? (i := 239) (by decide +kernel))) rfl
  | 4, _ => w_in (in_t2 (List.mem_of_getElem? (i := 1) (by decide +kernel))) rfl
  | 5, _ => w_in (in_t2 (List.mem_of_getElem? (i := 3) (by decide +kernel))) rfl
  | 6, _ => w_in (in_t2 (List.mem_of_getElem? (i := 5) (by decide +kernel))) rfl
  | 7, _ => w_in (in_t2 (List.mem_of_getElem? (i := 7) (by decide +kernel))) rfl
  | n + 8, h => absurd h (by omega)
theorem inlX6 : ∀ w ∈ u_ws RX6 TX6 8, w ∈ wsL_law := by
  intro w h
  obtain ⟨k, hk, rfl⟩ := List.mem_map.mp h
  exact ikX6 k (List.mem_range.mp hk)
theorem ikX7 : ∀ k, k < 33 → u_lay RX7 TX7 k ∈ wsL_law
  | 0, _ => w_in (in_t4 (List.mem_of_getElem? (i := 166) (by decide +kernel))) rfl
  | 1, _ => w_in (in_t4 (List.mem_of_getElem? (i := 168) (by decide +kernel))) rfl
  | 2, _ => w_in (in_t4 (List.mem_of_getElem? (i := 170) (by decide +kernel))) rfl
  | 3, _ => w_in (in_t4 (List.mem_of_getElem? (i := 172) (by decide +kernel))) rfl
  | 4, _ => w_in (in_t4 (List.mem_of_getElem? (i := 174) (by decide +kernel))) rfl
  | 5, _ => w_in (in_t4 (List.mem_of_getElem? (i := 176) (by decide +kernel))) rfl
  | 6, _ => w_in (in_t4 (List.mem_of_getElem? (i := 178) (by decide +kernel))) rfl
  | 7, _ => w_in (in_t4 (List.mem_of_getElem? (i := 180) (by decide +kernel))) rfl
  | 8, _ => w_in (in_t4 (List.mem_of_getElem? (i := 182) (by decide +kernel))) rfl
  | 9, _ => w_in (in_t4 (List.mem_of_getElem? (i := 184) (by decide +kernel))) rfl
  | 10, _ => w_in (in_t4 (List.mem_of_getElem? (i := 186) (by decide +kernel))) rfl
  | 11, _ => w_in (in_t4 (List.mem_of_getElem? (i := 188) (by decide +kernel))) rfl
  | 12, _ => w_in (in_t4 (List.mem_of_getElem? (i := 190) (by decide +kernel))) rfl
  | 13, _ => w_in (in_t4 (List.mem_of_getElem? (i := 192) (by decide +kernel))) rfl
  | 14, _ => w_in (in_t4 (List.mem_of_getElem? (i := 194) (by decide +kernel))) rfl
  | 15, _ => w_in (in_t4 (List.mem_of_getElem? (i := 196) (by decide +kernel))) rfl
  | 16, _ => w_in (in_t4 (List.mem_of_getElem? (i := 198) (by decide +kernel))) rfl
  | 17, _ => w_in (in_t4 (List.mem_of_getElem? (i := 200) (by decide +kernel))) rfl
  | 18, _ => w_in (in_t4 (List.mem_of_getElem? (i := 202) (by decide +kernel))) rfl
  | 19, _ => w_in (in_t4 (List.mem_of_getElem? (i := 204) (by decide +kernel))) rfl
  | 20, _ => w_in (in_t4 (List.mem_of_getElem? (i := 206) (by decide +kernel))) rfl
  | 21, _ => w_in (in_t4 (List.mem_of_getElem? (i := 208) (by decide +kernel))) rfl
  | 22, _ => w_in (in_t4 (List.mem_of_getElem? (i := 210) (by decide +kernel))) rfl
  | 23, _ => w_in (in_t4 (List.mem_of_getElem? (i := 212) (by decide +kernel))) rfl
  | 24, _ => w_in (in_t4 (List.mem_of_getElem? (i := 214) (by decide +kernel))) rfl
  | 25, _ => w_in (in_t4 (List.mem_of_getElem? (i := 216) (by decide +kernel))) rfl
  | 26, _ => w_in (in_t4 (List.mem_of_getElem? (i := 218) (by decide +kernel))) rfl
  | 27, _ => w_in (in_t4 (List.mem_of_getElem? (i := 220) (by decide +kernel))) rfl
  | 28, _ => w_in (in_t4 (List.mem_of_getElem? (i := 222) (by decide +kernel))) rfl
  | 29, _ => w_in (in_t4 (List.mem_of_getElem? (i := 224) (by decide +kernel))) rfl
  | 30, _ => w_in (in_t4 (List.mem_of_getElem? (i := 226) (by decide +kernel))) rfl
  | 31, _ => w_in (in_t4 (List.mem_of_getElem? (i := 228) (by decide +kernel))) rfl
  | 32, _ => w_in (in_t4 (List.mem_of_getElem? (i := 230) (by decide +kernel))) rfl
  | n + 33, h => absurd h (by omega)
theorem inlX7 : ∀ w ∈ u_ws RX7 TX7 33, w ∈ wsL_law := by
  intro w h
  obtain ⟨k, hk, rfl⟩ := List.mem_map.mp h
  exact ikX7 k (List.mem_range.mp hk)
theorem q0 : Cond.initialized RL ∈ wsL_law := w_in (in_t1 (List.mem_of_getElem? (i := 0) (by decide +kernel))) rfl
theorem q1 : Cond.initialized RX6 ∈ wsL_law := w_in (in_t1 (List.mem_of_getElem? (i := 1) (by decide +kernel))) rfl
theorem q2 : Cond.initialized RX0 ∈ wsL_law := w_in (in_t1 (List.mem_of_getElem? (i := 2) (by decide +kernel))) rfl
theorem q3 : Cond.initialized RX2 ∈ wsL_law := w_in (in_t1 (List.mem_of_getElem? (i := 3) (by decide +kernel))) rfl
theorem q4 : Cond.initialized RJ9 ∈ wsL_law := w_in (in_t1 (List.mem_of_getElem? (i := 4) (by decide +kernel))) rfl
theorem q5 : Cond.initialized RX4 ∈ wsL_law := w_in (in_t1 (List.mem_of_getElem? (i := 5) (by decide +kernel))) rfl
theorem q6 : Cond.initialized RX1 ∈ wsL_law := w_in (in_t1 (List.mem_of_getElem? (i := 6) (by decide +kernel))) rfl
theorem q7 : Cond.initialized RX5 ∈ wsL_law := w_in (in_t1 (List.mem_of_getElem? (i := 7) (by decide +kernel))) rfl
theorem q8 : Cond.initialized RX3 ∈ wsL_law := w_in (in_t1 (List.mem_of_getElem? (i := 8) (by decide +kernel))) rfl
theorem q9 : Cond.initialized RX7 ∈ wsL_law := w_in (in_t1 (List.mem_of_getElem? (i := 9) (by decide +kernel))) rfl
theorem q10 : Cond.initialized RJ6 ∈ wsL_law := w_in (in_t1 (List.mem_of_getElem? (i := 10) (by decide +kernel))) rfl
theorem q11 : Cond.initialized RJ0 ∈ wsL_law := w_in (in_t1 (List.mem_of_getElem? (i := 11) (by decide +kernel))) rfl
theorem q12 : Cond.initialized RJ1 ∈ wsL_law := w_in (in_t1 (List.mem_of_getElem? (i := 12) (by decide +kernel))) rfl
theorem q13 : Cond.initialized RJ2 ∈ wsL_law := w_in (in_t1 (List.mem_of_getElem? (i := 13) (by decide +kernel))) rfl
theorem q14 : Cond.initialized RJ3 ∈ wsL_law := w_in (in_t1 (List.mem_of_getElem? (i := 14) (by decide +kernel))) rfl
theorem q15 : Cond.initialized RJ11 ∈ wsL_law := w_in (in_t1 (List.mem_of_getElem? (i := 15) (by decide +kernel))) rfl
theorem q16 : Cond.classLink RL 7 RX6 ∈ wsL_law := w_in (in_t1 (List.mem_of_getElem? (i := 16) (by decide +kernel))) rfl
theorem q17 : Cond.instantiable RX6 8 ∈ wsL_law := w_in (in_t1 (List.mem_of_getElem? (i := 17) (by decide +kernel))) rfl
theorem q18 : Cond.methodLink RL 9 yX6_init ∈ wsL_law := w_in (in_t1 (List.mem_of_getElem? (i := 18) (by decide +kernel))) rfl
theorem q19 : Cond.instanceMethod yX6_init ∈ wsL_law := w_in (in_t1 (List.mem_of_getElem? (i := 19) (by decide +kernel))) rfl
theorem q20 : Cond.code yX6_init cX6_init 1 (none : Option FieldType) ∈ wsL_law := w_in (in_t1 (List.mem_of_getElem? (i := 20) (by decide +kernel))) rfl
theorem q21 : Cond.methodLink RX6 1 objectInit ∈ wsL_law := w_in (in_t1 (List.mem_of_getElem? (i := 21) (by decide +kernel))) rfl
theorem q22 : Cond.instanceMethod objectInit ∈ wsL_law := w_in (in_t1 (List.mem_of_getElem? (i := 22) (by decide +kernel))) rfl
theorem q23 : Cond.code objectInit object_method_1_code 1 (none : Option FieldType) ∈ wsL_law := w_in (in_t1 (List.mem_of_getElem? (i := 23) (by decide +kernel))) rfl
theorem q24 : Cond.classLink RX6 7 RX0 ∈ wsL_law := w_in (in_t1 (List.mem_of_getElem? (i := 24) (by decide +kernel))) rfl
theorem q25 : Cond.instantiable RX0 12 ∈ wsL_law := w_in (in_t1 (List.mem_of_getElem? (i := 25) (by decide +kernel))) rfl
theorem q26 : Cond.methodLink RX6 9 yX0_init ∈ wsL_law := w_in (in_t1 (List.mem_of_getElem? (i := 26) (by decide +kernel))) rfl
theorem q27 : Cond.instanceMethod yX0_init ∈ wsL_law := w_in (in_t1 (List.mem_of_getElem? (i := 27) (by decide +kernel))) rfl
theorem q28 : Cond.code yX0_init cX0_init 1 (none : Option FieldType) ∈ wsL_law := w_in (in_t1 (List.mem_of_getElem? (i := 28) (by decide +kernel))) rfl
theorem q29 : Cond.methodLink RX0 3 objectInit ∈ wsL_law := w_in (in_t1 (List.mem_of_getElem? (i := 29) (by decide +kernel))) rfl
theorem q30 : Cond.classLink RX0 9 RX2 ∈ wsL_law := w_in (in_t1 (List.mem_of_getElem? (i := 30) (by decide +kernel))) rfl
theorem q31 : Cond.instantiable RX2 1 ∈ wsL_law := w_in (in_t1 (List.mem_of_getElem? (i := 31) (by decide +kernel))) rfl
theorem q32 : Cond.methodLink RX0 11 yX2_init ∈ wsL_law := w_in (in_t1 (List.mem_of_getElem? (i := 32) (by decide +kernel))) rfl
theorem q33 : Cond.instanceMethod yX2_init ∈ wsL_law := w_in (in_t1 (List.mem_of_getElem? (i := 33) (by decide +kernel))) rfl
theorem q34 : Cond.code yX2_init cX2_init 2 (none : Option FieldType) ∈ wsL_law := w_in (in_t1 (List.mem_of_getElem? (i := 34) (by decide +kernel))) rfl
theorem q35 : Cond.methodLink RX2 1 objectInit ∈ wsL_law := w_in (in_t1 (List.mem_of_getElem? (i := 35) (by decide +kernel))) rfl
theorem q36 : Cond.methodLink RX2 7 yJ9_max_7cf53 ∈ wsL_law := w_in (in_t1 (List.mem_of_getElem? (i := 36) (by decide +kernel))) rfl
theorem q37 : Cond.static yJ9_max_7cf53 ∈ wsL_law := w_in (in_t1 (List.mem_of_getElem? (i := 37) (by decide +kernel))) rfl
theorem q38 : Cond.code yJ9_max_7cf53 cJ9_max_7cf53 2 (some FieldType.int) ∈ wsL_law := w_in (in_t1 (List.mem_of_getElem? (i := 38) (by decide +kernel))) rfl
theorem q39 : Cond.fieldLink RX2 13 RX2 "cells" "[I" ∈ wsL_law := w_in (in_t1 (List.mem_of_getElem? (i := 39) (by decide +kernel))) rfl
theorem q41 : Cond.arrayClass FieldType.int ∈ wsL_law := w_in (in_t1 (List.mem_of_getElem? (i := 43) (by decide +kernel))) rfl
theorem q42 : Cond.methodLink RX0 45 yX2_put ∈ wsL_law := w_in (in_t1 (List.mem_of_getElem? (i := 44) (by decide +kernel))) rfl
theorem q43 : Cond.instanceMethod yX2_put ∈ wsL_law := w_in (in_t1 (List.mem_of_getElem? (i := 45) (by decide +kernel))) rfl
theorem q44 : Cond.selects RX2 yX2_put yX2_put ∈ wsL_law := w_in (in_t1 (List.mem_of_getElem? (i := 46) (by decide +kernel))) rfl
theorem q45 : Cond.code yX2_put cX2_put 3 (none : Option FieldType) ∈ wsL_law := w_in (in_t1 (List.mem_of_getElem? (i := 47) (by decide +kernel))) rfl
theorem q46 : Cond.fieldLink RX0 49 RX0 "players" "I" ∈ wsL_law := w_in (in_t1 (List.mem_of_getElem? (i := 48) (by decide +kernel))) rfl
theorem q47 : Cond.fieldLinkNest RX6 64 RX0 "players" "I" RX6 ∈ wsL_law := w_in (in_t1 (List.mem_of_getElem? (i := 49) (by decide +kernel))) rfl
theorem q48 : Cond.fieldLinkNest RX4 75 RX0 "players" "I" RX6 ∈ wsL_law := w_in (in_t1 (List.mem_of_getElem? (i := 50) (by decide +kernel))) rfl
theorem q49 : Cond.fieldLinkNest RX1 96 RX0 "players" "I" RX6 ∈ wsL_law := w_in (in_t1 (List.mem_of_getElem? (i := 51) (by decide +kernel))) rfl
theorem q50 : Cond.fieldLink RX0 14 RX0 "ratings" "LSwissRounds$Row;" ∈ wsL_law := w_in (in_t1 (List.mem_of_getElem? (i := 52) (by decide +kernel))) rfl
theorem q51 : Cond.fieldLinkNest RX6 99 RX0 "ratings" "LSwissRounds$Row;" RX6 ∈ wsL_law := w_in (in_t1 (List.mem_of_getElem? (i := 53) (by decide +kernel))) rfl
theorem q52 : Cond.fieldLinkNest RX4 82 RX0 "ratings" "LSwissRounds$Row;" RX6 ∈ wsL_law := w_in (in_t1 (List.mem_of_getElem? (i := 54) (by decide +kernel))) rfl
theorem q53 : Cond.fieldLink RX0 20 RX0 "inside" "LSwissRounds$Row;" ∈ wsL_law := w_in (in_t1 (List.mem_of_getElem? (i := 55) (by decide +kernel))) rfl
theorem q54 : Cond.fieldLinkNest RX6 82 RX0 "inside" "LSwissRounds$Row;" RX6 ∈ wsL_law := w_in (in_t1 (List.mem_of_getElem? (i := 56) (by decide +kernel))) rfl
theorem q55 : Cond.fieldLinkNest RX1 104 RX0 "inside" "LSwissRounds$Row;" RX6 ∈ wsL_law := w_in (in_t1 (List.mem_of_getElem? (i := 57) (by decide +kernel))) rfl
theorem q56 : Cond.fieldLink RX0 56 RX0 "rounds" "I" ∈ wsL_law := w_in (in_t1 (List.mem_of_getElem? (i := 58) (by decide +kernel))) rfl
theorem q57 : Cond.fieldLinkNest RX6 148 RX0 "rounds" "I" RX6 ∈ wsL_law := w_in (in_t1 (List.mem_of_getElem? (i := 59) (by decide +kernel))) rfl
theorem q58 : Cond.fieldLinkNest RX6 60 RX0 "open" "Z" RX6 ∈ wsL_law := w_in (in_t1 (List.mem_of_getElem? (i := 60) (by decide +kernel))) rfl
theorem q59 : Cond.fieldLink RX0 59 RX0 "open" "Z" ∈ wsL_law := w_in (in_t1 (List.mem_of_getElem? (i := 61) (by decide +kernel))) rfl
theorem q60 : Cond.fieldLink RX0 23 RX0 "boards" "LSwissRounds$Row;" ∈ wsL_law := w_in (in_t1 (List.mem_of_getElem? (i := 62) (by decide +kernel))) rfl
theorem q61 : Cond.fieldLinkNest RX4 95 RX0 "boards" "LSwissRounds$Row;" RX6 ∈ wsL_law := w_in (in_t1 (List.mem_of_getElem? (i := 63) (by decide +kernel))) rfl
theorem q62 : Cond.fieldLinkNest RX6 160 RX0 "boards" "LSwissRounds$Row;" RX6 ∈ wsL_law := w_in (in_t1 (List.mem_of_getElem? (i := 64) (by decide +kernel))) rfl
theorem q63 : Cond.fieldLink RX0 26 RX0 "byes" "LSwissRounds$Row;" ∈ wsL_law := w_in (in_t1 (List.mem_of_getElem? (i := 65) (by decide +kernel))) rfl
theorem q64 : Cond.fieldLinkNest RX4 110 RX0 "byes" "LSwissRounds$Row;" RX6 ∈ wsL_law := w_in (in_t1 (List.mem_of_getElem? (i := 66) (by decide +kernel))) rfl
theorem q65 : Cond.fieldLinkNest RX6 181 RX0 "byes" "LSwissRounds$Row;" RX6 ∈ wsL_law := w_in (in_t1 (List.mem_of_getElem? (i := 67) (by decide +kernel))) rfl
theorem q66 : Cond.fieldLink RX0 29 RX0 "whites" "LSwissRounds$Row;" ∈ wsL_law := w_in (in_t1 (List.mem_of_getElem? (i := 68) (by decide +kernel))) rfl
theorem q67 : Cond.fieldLinkNest RX4 101 RX0 "whites" "LSwissRounds$Row;" RX6 ∈ wsL_law := w_in (in_t1 (List.mem_of_getElem? (i := 69) (by decide +kernel))) rfl
theorem q68 : Cond.fieldLinkNest RX6 172 RX0 "whites" "LSwissRounds$Row;" RX6 ∈ wsL_law := w_in (in_t1 (List.mem_of_getElem? (i := 70) (by decide +kernel))) rfl
theorem q69 : Cond.fieldLink RX0 32 RX0 "blacks" "LSwissRounds$Row;" ∈ wsL_law := w_in (in_t1 (List.mem_of_getElem? (i := 71) (by decide +kernel))) rfl
theorem q70 : Cond.fieldLinkNest RX4 107 RX0 "blacks" "LSwissRounds$Row;" RX6 ∈ wsL_law := w_in (in_t1 (List.mem_of_getElem? (i := 72) (by decide +kernel))) rfl
theorem q71 : Cond.fieldLinkNest RX6 175 RX0 "blacks" "LSwissRounds$Row;" RX6 ∈ wsL_law := w_in (in_t1 (List.mem_of_getElem? (i := 73) (by decide +kernel))) rfl
theorem q72 : Cond.fieldLink RX0 35 RX0 "outcomes" "LSwissRounds$Row;" ∈ wsL_law := w_in (in_t1 (List.mem_of_getElem? (i := 74) (by decide +kernel))) rfl
theorem q73 : Cond.fieldLinkNest RX6 178 RX0 "outcomes" "LSwissRounds$Row;" RX6 ∈ wsL_law := w_in (in_t1 (List.mem_of_getElem? (i := 75) (by decide +kernel))) rfl
theorem q74 : Cond.fieldLink RX0 38 RX0 "breaks" "I" ∈ wsL_law := w_in (in_t1 (List.mem_of_getElem? (i := 76) (by decide +kernel))) rfl
theorem q75 : Cond.fieldLinkNest RX4 158 RX0 "breaks" "I" RX6 ∈ wsL_law := w_in (in_t1 (List.mem_of_getElem? (i := 77) (by decide +kernel))) rfl
theorem q76 : Cond.fieldLinkNest RX6 241 RX0 "breaks" "I" RX6 ∈ wsL_law := w_in (in_t1 (List.mem_of_getElem? (i := 78) (by decide +kernel))) rfl
theorem q77 : Cond.fieldLink RX0 42 RX0 "breakOrder" "LSwissRounds$Row;" ∈ wsL_law := w_in (in_t1 (List.mem_of_getElem? (i := 79) (by decide +kernel))) rfl
theorem q78 : Cond.fieldLinkNest RX4 161 RX0 "breakOrder" "LSwissRounds$Row;" RX6 ∈ wsL_law := w_in (in_t1 (List.mem_of_getElem? (i := 80) (by decide +kernel))) rfl
theorem q79 : Cond.fieldLinkNest RX6 246 RX0 "breakOrder" "LSwissRounds$Row;" RX6 ∈ wsL_law := w_in (in_t1 (List.mem_of_getElem? (i := 81) (by decide +kernel))) rfl
theorem q92 : Cond.classLink RX6 19 RX4 ∈ wsL_law := w_in (in_t1 (List.mem_of_getElem? (i := 107) (by decide +kernel))) rfl
theorem q93 : Cond.instantiable RX4 10 ∈ wsL_law := w_in (in_t1 (List.mem_of_getElem? (i := 108) (by decide +kernel))) rfl
theorem q94 : Cond.methodLink RX6 21 yX4_init ∈ wsL_law := w_in (in_t1 (List.mem_of_getElem? (i := 109) (by decide +kernel))) rfl
theorem q95 : Cond.instanceMethod yX4_init ∈ wsL_law := w_in (in_t1 (List.mem_of_getElem? (i := 110) (by decide +kernel))) rfl
theorem q96 : Cond.code yX4_init cX4_init 2 (none : Option FieldType) ∈ wsL_law := w_in (in_t1 (List.mem_of_getElem? (i := 111) (by decide +kernel))) rfl
theorem q97 : Cond.methodLink RX4 3 objectInit ∈ wsL_law := w_in (in_t1 (List.mem_of_getElem? (i := 112) (by decide +kernel))) rfl
theorem q98 : Cond.classLink RX4 9 RX2 ∈ wsL_law := w_in (in_t1 (List.mem_of_getElem? (i := 113) (by decide +kernel))) rfl
theorem q99 : Cond.methodLink RX4 11 yX2_init ∈ wsL_law := w_in (in_t1 (List.mem_of_getElem? (i := 114) (by decide +kernel))) rfl
theorem q100 : Cond.fieldLink RX4 44 RX4 "book" "LSwissRounds$Book;" ∈ wsL_law := w_in (in_t1 (List.mem_of_getElem? (i := 115) (by decide +kernel))) rfl
theorem q101 : Cond.fieldLink RX4 14 RX4 "ties" "LSwissRounds$Row;" ∈ wsL_law := w_in (in_t1 (List.mem_of_getElem? (i := 116) (by decide +kernel))) rfl
theorem q102 : Cond.fieldLink RX4 20 RX4 "played" "LSwissRounds$Row;" ∈ wsL_law := w_in (in_t1 (List.mem_of_getElem? (i := 117) (by decide +kernel))) rfl
theorem q103 : Cond.fieldLinkNest RX6 105 RX4 "played" "LSwissRounds$Row;" RX6 ∈ wsL_law := w_in (in_t1 (List.mem_of_getElem? (i := 118) (by decide +kernel))) rfl
theorem q104 : Cond.fieldLink RX4 23 RX4 "balances" "LSwissRounds$Row;" ∈ wsL_law := w_in (in_t1 (List.mem_of_getElem? (i := 119) (by decide +kernel))) rfl
theorem q105 : Cond.fieldLinkNest RX6 108 RX4 "balances" "LSwissRounds$Row;" RX6 ∈ wsL_law := w_in (in_t1 (List.mem_of_getElem? (i := 120) (by decide +kernel))) rfl
theorem q106 : Cond.fieldLinkNest RX1 135 RX4 "balances" "LSwissRounds$Row;" RX6 ∈ wsL_law := w_in (in_t1 (List.mem_of_getElem? (i := 121) (by decide +kernel))) rfl
theorem q107 : Cond.fieldLink RX4 26 RX4 "latest" "LSwissRounds$Row;" ∈ wsL_law := w_in (in_t1 (List.mem_of_getElem? (i := 122) (by decide +kernel))) rfl
theorem q108 : Cond.fieldLinkNest RX6 111 RX4 "latest" "LSwissRounds$Row;" RX6 ∈ wsL_law := w_in (in_t1 (List.mem_of_getElem? (i := 123) (by decide +kernel))) rfl
theorem q109 : Cond.fieldLinkNest RX1 138 RX4 "latest" "LSwissRounds$Row;" RX6 ∈ wsL_law := w_in (in_t1 (List.mem_of_getElem? (i := 124) (by decide +kernel))) rfl
theorem q110 : Cond.fieldLink RX4 29 RX4 "byes" "LSwissRounds$Row;" ∈ wsL_law := w_in (in_t1 (List.mem_of_getElem? (i := 125) (by decide +kernel))) rfl
theorem q111 : Cond.fieldLinkNest RX6 114 RX4 "byes" "LSwissRounds$Row;" RX6 ∈ wsL_law := w_in (in_t1 (List.mem_of_getElem? (i := 126) (by decide +kernel))) rfl
theorem q112 : Cond.fieldLinkNest RX1 110 RX4 "byes" "LSwissRounds$Row;" RX6 ∈ wsL_law := w_in (in_t1 (List.mem_of_getElem? (i := 127) (by decide +kernel))) rfl
theorem q113 : Cond.fieldLink RX4 32 RX4 "forfeits" "LSwissRounds$Row;" ∈ wsL_law := w_in (in_t1 (List.mem_of_getElem? (i := 128) (by decide +kernel))) rfl
theorem q114 : Cond.fieldLinkNest RX6 117 RX4 "forfeits" "LSwissRounds$Row;" RX6 ∈ wsL_law := w_in (in_t1 (List.mem_of_getElem? (i := 129) (by decide +kernel))) rfl
theorem q115 : Cond.fieldLinkNest RX1 113 RX4 "forfeits" "LSwissRounds$Row;" RX6 ∈ wsL_law := w_in (in_t1 (List.mem_of_getElem? (i := 130) (by decide +kernel))) rfl
theorem q116 : Cond.fieldLink RX4 35 RX4 "meetings" "LSwissRounds$Row;" ∈ wsL_law := w_in (in_t1 (List.mem_of_getElem? (i := 131) (by decide +kernel))) rfl
theorem q117 : Cond.fieldLink RX4 38 RX4 "made" "LSwissRounds$Row;" ∈ wsL_law := w_in (in_t1 (List.mem_of_getElem? (i := 132) (by decide +kernel))) rfl
theorem q118 : Cond.fieldLink RX4 41 RX4 "standing" "LSwissRounds$Row;" ∈ wsL_law := w_in (in_t1 (List.mem_of_getElem? (i := 133) (by decide +kernel))) rfl
theorem q119 : Cond.fieldLinkNest RX1 99 RX4 "standing" "LSwissRounds$Row;" RX6 ∈ wsL_law := w_in (in_t1 (List.mem_of_getElem? (i := 134) (by decide +kernel))) rfl
theorem q120 : Cond.fieldLinkNest RX6 126 RX4 "standing" "LSwissRounds$Row;" RX6 ∈ wsL_law := w_in (in_t1 (List.mem_of_getElem? (i := 135) (by decide +kernel))) rfl
theorem q131 : Cond.classLink RX6 28 RX1 ∈ wsL_law := w_in (in_t1 (List.mem_of_getElem? (i := 157) (by decide +kernel))) rfl
theorem q132 : Cond.instantiable RX1 8 ∈ wsL_law := w_in (in_t1 (List.mem_of_getElem? (i := 158) (by decide +kernel))) rfl
theorem q133 : Cond.methodLink RX6 30 yX1_init ∈ wsL_law := w_in (in_t1 (List.mem_of_getElem? (i := 159) (by decide +kernel))) rfl
theorem q134 : Cond.instanceMethod yX1_init ∈ wsL_law := w_in (in_t1 (List.mem_of_getElem? (i := 160) (by decide +kernel))) rfl
theorem q135 : Cond.code yX1_init cX1_init 3 (none : Option FieldType) ∈ wsL_law := w_in (in_t1 (List.mem_of_getElem? (i := 161) (by decide +kernel))) rfl
theorem q136 : Cond.methodLink RX1 3 objectInit ∈ wsL_law := w_in (in_t1 (List.mem_of_getElem? (i := 162) (by decide +kernel))) rfl
theorem q137 : Cond.classLink RX1 9 RX2 ∈ wsL_law := w_in (in_t1 (List.mem_of_getElem? (i := 163) (by decide +kernel))) rfl
theorem q138 : Cond.methodLink RX1 11 yX2_init ∈ wsL_law := w_in (in_t1 (List.mem_of_getElem? (i := 164) (by decide +kernel))) rfl
theorem q139 : Cond.fieldLink RX1 29 RX1 "book" "LSwissRounds$Book;" ∈ wsL_law := w_in (in_t1 (List.mem_of_getElem? (i := 165) (by decide +kernel))) rfl
theorem q140 : Cond.fieldLink RX1 33 RX1 "table" "LSwissRounds$Table;" ∈ wsL_law := w_in (in_t1 (List.mem_of_getElem? (i := 166) (by decide +kernel))) rfl
theorem q141 : Cond.fieldLink RX1 14 RX1 "seats" "LSwissRounds$Row;" ∈ wsL_law := w_in (in_t1 (List.mem_of_getElem? (i := 167) (by decide +kernel))) rfl
theorem q142 : Cond.fieldLink RX1 74 RX1 "count" "I" ∈ wsL_law := w_in (in_t1 (List.mem_of_getElem? (i := 168) (by decide +kernel))) rfl
theorem q143 : Cond.fieldLink RX1 65 RX1 "resting" "I" ∈ wsL_law := w_in (in_t1 (List.mem_of_getElem? (i := 169) (by decide +kernel))) rfl
theorem q144 : Cond.fieldLink RX1 20 RX1 "costs" "LSwissRounds$Row;" ∈ wsL_law := w_in (in_t1 (List.mem_of_getElem? (i := 170) (by decide +kernel))) rfl
theorem q145 : Cond.fieldLink RX1 23 RX1 "sums" "LSwissRounds$Row;" ∈ wsL_law := w_in (in_t1 (List.mem_of_getElem? (i := 171) (by decide +kernel))) rfl
theorem q146 : Cond.fieldLink RX1 26 RX1 "numbers" "LSwissRounds$Row;" ∈ wsL_law := w_in (in_t1 (List.mem_of_getElem? (i := 172) (by decide +kernel))) rfl
theorem q155 : Cond.classLink RX6 37 RX5 ∈ wsL_law := w_in (in_t1 (List.mem_of_getElem? (i := 190) (by decide +kernel))) rfl
theorem q156 : Cond.instantiable RX5 2 ∈ wsL_law := w_in (in_t1 (List.mem_of_getElem? (i := 191) (by decide +kernel))) rfl
theorem q157 : Cond.methodLink RX6 39 yX5_init ∈ wsL_law := w_in (in_t1 (List.mem_of_getElem? (i := 192) (by decide +kernel))) rfl
theorem q158 : Cond.instanceMethod yX5_init ∈ wsL_law := w_in (in_t1 (List.mem_of_getElem? (i := 193) (by decide +kernel))) rfl
theorem q159 : Cond.code yX5_init cX5_init 2 (none : Option FieldType) ∈ wsL_law := w_in (in_t1 (List.mem_of_getElem? (i := 194) (by decide +kernel))) rfl
theorem q160 : Cond.methodLink RX5 1 objectInit ∈ wsL_law := w_in (in_t1 (List.mem_of_getElem? (i := 195) (by decide +kernel))) rfl
theorem q161 : Cond.classLink RX5 7 RX2 ∈ wsL_law := w_in (in_t1 (List.mem_of_getElem? (i := 196) (by decide +kernel))) rfl
theorem q162 : Cond.methodLink RX5 9 yX2_init ∈ wsL_law := w_in (in_t1 (List.mem_of_getElem? (i := 197) (by decide +kernel))) rfl
theorem q163 : Cond.fieldLink RX5 12 RX5 "bytes" "LSwissRounds$Row;" ∈ wsL_law := w_in (in_t1 (List.mem_of_getElem? (i := 198) (by decide +kernel))) rfl
theorem q164 : Cond.fieldLink RX5 22 RX5 "length" "I" ∈ wsL_law := w_in (in_t1 (List.mem_of_getElem? (i := 199) (by decide +kernel))) rfl
theorem q165 : Cond.fieldLinkNest RX6 213 RX5 "length" "I" RX6 ∈ wsL_law := w_in (in_t1 (List.mem_of_getElem? (i := 200) (by decide +kernel))) rfl
theorem q168 : Cond.classLink RX6 49 RX3 ∈ wsL_law := w_in (in_t1 (List.mem_of_getElem? (i := 206) (by decide +kernel))) rfl
theorem q169 : Cond.instantiable RX3 2 ∈ wsL_law := w_in (in_t1 (List.mem_of_getElem? (i := 207) (by decide +kernel))) rfl
theorem q170 : Cond.methodLink RX6 51 yX3_init ∈ wsL_law := w_in (in_t1 (List.mem_of_getElem? (i := 208) (by decide +kernel))) rfl
theorem q171 : Cond.instanceMethod yX3_init ∈ wsL_law := w_in (in_t1 (List.mem_of_getElem? (i := 209) (by decide +kernel))) rfl
theorem q172 : Cond.code yX3_init cX3_init 1 (none : Option FieldType) ∈ wsL_law := w_in (in_t1 (List.mem_of_getElem? (i := 210) (by decide +kernel))) rfl
theorem q173 : Cond.methodLink RX3 3 objectInit ∈ wsL_law := w_in (in_t1 (List.mem_of_getElem? (i := 211) (by decide +kernel))) rfl
theorem q174 : Cond.classLink RX3 9 RX2 ∈ wsL_law := w_in (in_t1 (List.mem_of_getElem? (i := 212) (by decide +kernel))) rfl
theorem q175 : Cond.methodLink RX3 11 yX2_init ∈ wsL_law := w_in (in_t1 (List.mem_of_getElem? (i := 213) (by decide +kernel))) rfl
theorem q176 : Cond.methodLink RX3 23 yX2_fill ∈ wsL_law := w_in (in_t1 (List.mem_of_getElem? (i := 214) (by decide +kernel))) rfl
theorem q177 : Cond.instanceMethod yX2_fill ∈ wsL_law := w_in (in_t1 (List.mem_of_getElem? (i := 215) (by decide +kernel))) rfl
theorem q178 : Cond.selects RX2 yX2_fill yX2_fill ∈ wsL_law := w_in (in_t1 (List.mem_of_getElem? (i := 216) (by decide +kernel))) rfl
theorem q179 : Cond.code yX2_fill cX2_fill 3 (none : Option FieldType) ∈ wsL_law := w_in (in_t1 (List.mem_of_getElem? (i := 217) (by decide +kernel))) rfl
theorem q180 : Cond.fieldLink RX3 14 RX3 "sizes" "LSwissRounds$Row;" ∈ wsL_law := w_in (in_t1 (List.mem_of_getElem? (i := 218) (by decide +kernel))) rfl
theorem q181 : Cond.fieldLink RX3 20 RX3 "cells" "LSwissRounds$Row;" ∈ wsL_law := w_in (in_t1 (List.mem_of_getElem? (i := 219) (by decide +kernel))) rfl
theorem q184 : Cond.fieldLink RX6 10 RX6 "book" "LSwissRounds$Book;" ∈ wsL_law := w_in (in_t1 (List.mem_of_getElem? (i := 225) (by decide +kernel))) rfl
theorem q185 : Cond.fieldLink RX6 16 RX6 "saved" "LSwissRounds$Book;" ∈ wsL_law := w_in (in_t1 (List.mem_of_getElem? (i := 226) (by decide +kernel))) rfl
theorem q186 : Cond.fieldLink RX6 294 RX6 "isSaved" "Z" ∈ wsL_law := w_in (in_t1 (List.mem_of_getElem? (i := 227) (by decide +kernel))) rfl
theorem q187 : Cond.fieldLink RX6 24 RX6 "table" "LSwissRounds$Table;" ∈ wsL_law := w_in (in_t1 (List.mem_of_getElem? (i := 228) (by decide +kernel))) rfl
theorem q188 : Cond.fieldLink RX6 33 RX6 "pairing" "LSwissRounds$Pairing;" ∈ wsL_law := w_in (in_t1 (List.mem_of_getElem? (i := 229) (by decide +kernel))) rfl
theorem q189 : Cond.fieldLink RX6 42 RX6 "tape" "LSwissRounds$Text;" ∈ wsL_law := w_in (in_t1 (List.mem_of_getElem? (i := 230) (by decide +kernel))) rfl
theorem q190 : Cond.fieldLink RX6 46 RX6 "sheet" "LSwissRounds$Text;" ∈ wsL_law := w_in (in_t1 (List.mem_of_getElem? (i := 231) (by decide +kernel))) rfl
theorem q191 : Cond.fieldLink RX6 52 RX6 "shelf" "LSwissRounds$Shelf;" ∈ wsL_law := w_in (in_t1 (List.mem_of_getElem? (i := 232) (by decide +kernel))) rfl
theorem q200 : Cond.methodLink RL 13 yX6_join ∈ wsL_law := w_in (in_t2 (List.mem_of_getElem? (i := 10) (by decide +kernel))) rfl
theorem q201 : Cond.instanceMethod yX6_join ∈ wsL_law := w_in (in_t2 (List.mem_of_getElem? (i := 11) (by decide +kernel))) rfl
theorem q202 : Cond.selects RX6 yX6_join yX6_join ∈ wsL_law := w_in (in_t2 (List.mem_of_getElem? (i := 12) (by decide +kernel))) rfl
theorem q203 : Cond.code yX6_join cX6_join 3 (some FieldType.int) ∈ wsL_law := w_in (in_t2 (List.mem_of_getElem? (i := 13) (by decide +kernel))) rfl
theorem q204 : Cond.methodLink RX6 56 yX6_isRating ∈ wsL_law := w_in (in_t2 (List.mem_of_getElem? (i := 14) (by decide +kernel))) rfl
theorem q205 : Cond.static yX6_isRating ∈ wsL_law := w_in (in_t2 (List.mem_of_getElem? (i := 15) (by decide +kernel))) rfl
theorem q206 : Cond.code yX6_isRating cX6_isRating 1 (some FieldType.boolean) ∈ wsL_law := w_in (in_t2 (List.mem_of_getElem? (i := 16) (by decide +kernel))) rfl
theorem q207 : Cond.methodLink RX6 68 yX0_enter ∈ wsL_law := w_in (in_t2 (List.mem_of_getElem? (i := 17) (by decide +kernel))) rfl
theorem q208 : Cond.instanceMethod yX0_enter ∈ wsL_law := w_in (in_t2 (List.mem_of_getElem? (i := 18) (by decide +kernel))) rfl
theorem q209 : Cond.selects RX0 yX0_enter yX0_enter ∈ wsL_law := w_in (in_t2 (List.mem_of_getElem? (i := 19) (by decide +kernel))) rfl
theorem q210 : Cond.code yX0_enter cX0_enter 3 (some FieldType.int) ∈ wsL_law := w_in (in_t2 (List.mem_of_getElem? (i := 20) (by decide +kernel))) rfl
theorem q211 : Cond.methodLink RX6 72 yX4_reckon ∈ wsL_law := w_in (in_t2 (List.mem_of_getElem? (i := 21) (by decide +kernel))) rfl
theorem q212 : Cond.instanceMethod yX4_reckon ∈ wsL_law := w_in (in_t2 (List.mem_of_getElem? (i := 22) (by decide +kernel))) rfl
theorem q213 : Cond.selects RX4 yX4_reckon yX4_reckon ∈ wsL_law := w_in (in_t2 (List.mem_of_getElem? (i := 23) (by decide +kernel))) rfl
theorem q214 : Cond.code yX4_reckon cX4_reckon 2 (none : Option FieldType) ∈ wsL_law := w_in (in_t2 (List.mem_of_getElem? (i := 24) (by decide +kernel))) rfl
theorem q215 : Cond.methodLink RX4 63 yX4_wipe ∈ wsL_law := w_in (in_t2 (List.mem_of_getElem? (i := 25) (by decide +kernel))) rfl
theorem q216 : Cond.instanceMethod yX4_wipe ∈ wsL_law := w_in (in_t2 (List.mem_of_getElem? (i := 27) (by decide +kernel))) rfl
theorem q217 : Cond.code yX4_wipe cX4_wipe 1 (none : Option FieldType) ∈ wsL_law := w_in (in_t2 (List.mem_of_getElem? (i := 28) (by decide +kernel))) rfl
theorem q218 : Cond.methodLink RX4 92 yX2_fill ∈ wsL_law := w_in (in_t2 (List.mem_of_getElem? (i := 29) (by decide +kernel))) rfl
theorem q219 : Cond.methodLink RX4 66 yX0_countDone ∈ wsL_law := w_in (in_t2 (List.mem_of_getElem? (i := 30) (by decide +kernel))) rfl
theorem q220 : Cond.instanceMethod yX0_countDone ∈ wsL_law := w_in (in_t2 (List.mem_of_getElem? (i := 31) (by decide +kernel))) rfl
theorem q221 : Cond.selects RX0 yX0_countDone yX0_countDone ∈ wsL_law := w_in (in_t2 (List.mem_of_getElem? (i := 32) (by decide +kernel))) rfl
theorem q222 : Cond.code yX0_countDone cX0_countDone 1 (some FieldType.int) ∈ wsL_law := w_in (in_t2 (List.mem_of_getElem? (i := 33) (by decide +kernel))) rfl
theorem q223 : Cond.methodLink RX4 72 yX4_countRound ∈ wsL_law := w_in (in_t2 (List.mem_of_getElem? (i := 34) (by decide +kernel))) rfl
theorem q224 : Cond.instanceMethod yX4_countRound ∈ wsL_law := w_in (in_t2 (List.mem_of_getElem? (i := 36) (by decide +kernel))) rfl
theorem q225 : Cond.code yX4_countRound cX4_countRound 4 (none : Option FieldType) ∈ wsL_law := w_in (in_t2 (List.mem_of_getElem? (i := 37) (by decide +kernel))) rfl
theorem q226 : Cond.methodLink RX4 48 yX2_at ∈ wsL_law := w_in (in_t2 (List.mem_of_getElem? (i := 38) (by decide +kernel))) rfl
theorem q227 : Cond.instanceMethod yX2_at ∈ wsL_law := w_in (in_t2 (List.mem_of_getElem? (i := 39) (by decide +kernel))) rfl
theorem q228 : Cond.selects RX2 yX2_at yX2_at ∈ wsL_law := w_in (in_t2 (List.mem_of_getElem? (i := 40) (by decide +kernel))) rfl
theorem q229 : Cond.code yX2_at cX2_at 2 (some FieldType.int) ∈ wsL_law := w_in (in_t2 (List.mem_of_getElem? (i := 41) (by decide +kernel))) rfl
theorem q230 : Cond.methodLink RX4 98 yX0_boardCell ∈ wsL_law := w_in (in_t2 (List.mem_of_getElem? (i := 42) (by decide +kernel))) rfl
theorem q231 : Cond.static yX0_boardCell ∈ wsL_law := w_in (in_t2 (List.mem_of_getElem? (i := 43) (by decide +kernel))) rfl
theorem q232 : Cond.code yX0_boardCell cX0_boardCell 2 (some FieldType.int) ∈ wsL_law := w_in (in_t2 (List.mem_of_getElem? (i := 44) (by decide +kernel))) rfl
theorem q233 : Cond.methodLink RX4 104 yX4_countSide ∈ wsL_law := w_in (in_t2 (List.mem_of_getElem? (i := 45) (by decide +kernel))) rfl
theorem q234 : Cond.instanceMethod yX4_countSide ∈ wsL_law := w_in (in_t2 (List.mem_of_getElem? (i := 47) (by decide +kernel))) rfl
theorem q235 : Cond.code yX4_countSide cX4_countSide 5 (none : Option FieldType) ∈ wsL_law := w_in (in_t2 (List.mem_of_getElem? (i := 48) (by decide +kernel))) rfl
theorem q236 : Cond.methodLink RX4 114 yX0_outcomeFor ∈ wsL_law := w_in (in_t2 (List.mem_of_getElem? (i := 49) (by decide +kernel))) rfl
theorem q237 : Cond.instanceMethod yX0_outcomeFor ∈ wsL_law := w_in (in_t2 (List.mem_of_getElem? (i := 50) (by decide +kernel))) rfl
theorem q238 : Cond.selects RX0 yX0_outcomeFor yX0_outcomeFor ∈ wsL_law := w_in (in_t2 (List.mem_of_getElem? (i := 51) (by decide +kernel))) rfl
theorem q239 : Cond.code yX0_outcomeFor cX0_outcomeFor 5 (some FieldType.int) ∈ wsL_law := w_in (in_t2 (List.mem_of_getElem? (i := 52) (by decide +kernel))) rfl
theorem q240 : Cond.methodLink RX0 67 yX0_boardCell ∈ wsL_law := w_in (in_t2 (List.mem_of_getElem? (i := 53) (by decide +kernel))) rfl
theorem q241 : Cond.methodLink RX0 63 yX2_at ∈ wsL_law := w_in (in_t2 (List.mem_of_getElem? (i := 54) (by decide +kernel))) rfl
theorem q242 : Cond.methodLink RX0 74 yX0_colourAt ∈ wsL_law := w_in (in_t2 (List.mem_of_getElem? (i := 55) (by decide +kernel))) rfl
theorem q243 : Cond.instanceMethod yX0_colourAt ∈ wsL_law := w_in (in_t2 (List.mem_of_getElem? (i := 56) (by decide +kernel))) rfl
theorem q244 : Cond.selects RX0 yX0_colourAt yX0_colourAt ∈ wsL_law := w_in (in_t2 (List.mem_of_getElem? (i := 57) (by decide +kernel))) rfl
theorem q245 : Cond.code yX0_colourAt cX0_colourAt 4 (some FieldType.int) ∈ wsL_law := w_in (in_t2 (List.mem_of_getElem? (i := 58) (by decide +kernel))) rfl
theorem q246 : Cond.methodLinkNest RX0 78 yX6_mirrored RX6 ∈ wsL_law := w_in (in_t2 (List.mem_of_getElem? (i := 59) (by decide +kernel))) rfl
theorem q247 : Cond.static yX6_mirrored ∈ wsL_law := w_in (in_t2 (List.mem_of_getElem? (i := 60) (by decide +kernel))) rfl
theorem q248 : Cond.code yX6_mirrored cX6_mirrored 1 (some FieldType.int) ∈ wsL_law := w_in (in_t2 (List.mem_of_getElem? (i := 61) (by decide +kernel))) rfl
theorem q249 : Cond.methodLinkNest RX4 118 yX6_pointsFor RX6 ∈ wsL_law := w_in (in_t2 (List.mem_of_getElem? (i := 62) (by decide +kernel))) rfl
theorem q250 : Cond.static yX6_pointsFor ∈ wsL_law := w_in (in_t2 (List.mem_of_getElem? (i := 63) (by decide +kernel))) rfl
theorem q251 : Cond.code yX6_pointsFor cX6_pointsFor 1 (some FieldType.int) ∈ wsL_law := w_in (in_t2 (List.mem_of_getElem? (i := 64) (by decide +kernel))) rfl
theorem q252 : Cond.methodLink RX4 85 yX4_addTie ∈ wsL_law := w_in (in_t2 (List.mem_of_getElem? (i := 65) (by decide +kernel))) rfl
theorem q253 : Cond.instanceMethod yX4_addTie ∈ wsL_law := w_in (in_t2 (List.mem_of_getElem? (i := 67) (by decide +kernel))) rfl
theorem q254 : Cond.code yX4_addTie cX4_addTie 4 (none : Option FieldType) ∈ wsL_law := w_in (in_t2 (List.mem_of_getElem? (i := 68) (by decide +kernel))) rfl
theorem q255 : Cond.methodLink RX4 52 yX2_add ∈ wsL_law := w_in (in_t2 (List.mem_of_getElem? (i := 69) (by decide +kernel))) rfl
theorem q256 : Cond.instanceMethod yX2_add ∈ wsL_law := w_in (in_t2 (List.mem_of_getElem? (i := 70) (by decide +kernel))) rfl
theorem q257 : Cond.selects RX2 yX2_add yX2_add ∈ wsL_law := w_in (in_t2 (List.mem_of_getElem? (i := 71) (by decide +kernel))) rfl
theorem q258 : Cond.code yX2_add cX2_add 3 (none : Option FieldType) ∈ wsL_law := w_in (in_t2 (List.mem_of_getElem? (i := 72) (by decide +kernel))) rfl
theorem q259 : Cond.methodLinkNest RX4 121 yX6_isOverTheBoard RX6 ∈ wsL_law := w_in (in_t2 (List.mem_of_getElem? (i := 73) (by decide +kernel))) rfl
theorem q260 : Cond.static yX6_isOverTheBoard ∈ wsL_law := w_in (in_t2 (List.mem_of_getElem? (i := 74) (by decide +kernel))) rfl
theorem q261 : Cond.code yX6_isOverTheBoard cX6_isOverTheBoard 1 (some FieldType.boolean) ∈ wsL_law := w_in (in_t2 (List.mem_of_getElem? (i := 75) (by decide +kernel))) rfl
theorem q262 : Cond.methodLink RX4 125 yX4_countPlayed ∈ wsL_law := w_in (in_t2 (List.mem_of_getElem? (i := 76) (by decide +kernel))) rfl
theorem q263 : Cond.instanceMethod yX4_countPlayed ∈ wsL_law := w_in (in_t2 (List.mem_of_getElem? (i := 78) (by decide +kernel))) rfl
theorem q264 : Cond.code yX4_countPlayed cX4_countPlayed 7 (none : Option FieldType) ∈ wsL_law := w_in (in_t2 (List.mem_of_getElem? (i := 79) (by decide +kernel))) rfl
theorem q265 : Cond.methodLink RX4 128 yX0_colourAt ∈ wsL_law := w_in (in_t2 (List.mem_of_getElem? (i := 80) (by decide +kernel))) rfl
theorem q266 : Cond.methodLink RX4 131 yX0_otherAt ∈ wsL_law := w_in (in_t2 (List.mem_of_getElem? (i := 81) (by decide +kernel))) rfl
theorem q267 : Cond.instanceMethod yX0_otherAt ∈ wsL_law := w_in (in_t2 (List.mem_of_getElem? (i := 82) (by decide +kernel))) rfl
theorem q268 : Cond.selects RX0 yX0_otherAt yX0_otherAt ∈ wsL_law := w_in (in_t2 (List.mem_of_getElem? (i := 83) (by decide +kernel))) rfl
theorem q269 : Cond.code yX0_otherAt cX0_otherAt 5 (some FieldType.int) ∈ wsL_law := w_in (in_t2 (List.mem_of_getElem? (i := 84) (by decide +kernel))) rfl
theorem q270 : Cond.methodLink RX4 56 yX4_twoCell ∈ wsL_law := w_in (in_t2 (List.mem_of_getElem? (i := 85) (by decide +kernel))) rfl
theorem q271 : Cond.static yX4_twoCell ∈ wsL_law := w_in (in_t2 (List.mem_of_getElem? (i := 86) (by decide +kernel))) rfl
theorem q272 : Cond.code yX4_twoCell cX4_twoCell 2 (some FieldType.int) ∈ wsL_law := w_in (in_t2 (List.mem_of_getElem? (i := 87) (by decide +kernel))) rfl
theorem q273 : Cond.methodLink RX4 134 yX2_put ∈ wsL_law := w_in (in_t2 (List.mem_of_getElem? (i := 88) (by decide +kernel))) rfl
theorem q274 : Cond.methodLink RX4 111 yX4_tieOf ∈ wsL_law := w_in (in_t2 (List.mem_of_getElem? (i := 89) (by decide +kernel))) rfl
theorem q275 : Cond.instanceMethod yX4_tieOf ∈ wsL_law := w_in (in_t2 (List.mem_of_getElem? (i := 90) (by decide +kernel))) rfl
theorem q276 : Cond.selects RX4 yX4_tieOf yX4_tieOf ∈ wsL_law := w_in (in_t2 (List.mem_of_getElem? (i := 91) (by decide +kernel))) rfl
theorem q277 : Cond.code yX4_tieOf cX4_tieOf 3 (some FieldType.int) ∈ wsL_law := w_in (in_t2 (List.mem_of_getElem? (i := 92) (by decide +kernel))) rfl
theorem q278 : Cond.methodLink RX4 79 yX4_compareWithOpponents ∈ wsL_law := w_in (in_t2 (List.mem_of_getElem? (i := 93) (by decide +kernel))) rfl
theorem q279 : Cond.instanceMethod yX4_compareWithOpponents ∈ wsL_law := w_in (in_t2 (List.mem_of_getElem? (i := 95) (by decide +kernel))) rfl
theorem q280 : Cond.code yX4_compareWithOpponents cX4_compareWithOpponents 7 (none : Option FieldType) ∈ wsL_law := w_in (in_t2 (List.mem_of_getElem? (i := 96) (by decide +kernel))) rfl
theorem q281 : Cond.methodLink RX4 137 yX4_haveMet ∈ wsL_law := w_in (in_t2 (List.mem_of_getElem? (i := 97) (by decide +kernel))) rfl
theorem q282 : Cond.instanceMethod yX4_haveMet ∈ wsL_law := w_in (in_t2 (List.mem_of_getElem? (i := 98) (by decide +kernel))) rfl
theorem q283 : Cond.selects RX4 yX4_haveMet yX4_haveMet ∈ wsL_law := w_in (in_t2 (List.mem_of_getElem? (i := 99) (by decide +kernel))) rfl
theorem q284 : Cond.code yX4_haveMet cX4_haveMet 3 (some FieldType.boolean) ∈ wsL_law := w_in (in_t2 (List.mem_of_getElem? (i := 100) (by decide +kernel))) rfl
theorem q285 : Cond.methodLink RX4 60 yX4_meetingOf ∈ wsL_law := w_in (in_t2 (List.mem_of_getElem? (i := 101) (by decide +kernel))) rfl
theorem q286 : Cond.instanceMethod yX4_meetingOf ∈ wsL_law := w_in (in_t2 (List.mem_of_getElem? (i := 102) (by decide +kernel))) rfl
theorem q287 : Cond.selects RX4 yX4_meetingOf yX4_meetingOf ∈ wsL_law := w_in (in_t2 (List.mem_of_getElem? (i := 103) (by decide +kernel))) rfl
theorem q288 : Cond.code yX4_meetingOf cX4_meetingOf 3 (some FieldType.int) ∈ wsL_law := w_in (in_t2 (List.mem_of_getElem? (i := 104) (by decide +kernel))) rfl
theorem q289 : Cond.methodLink RX4 141 yX4_madeAgainst ∈ wsL_law := w_in (in_t2 (List.mem_of_getElem? (i := 105) (by decide +kernel))) rfl
theorem q290 : Cond.instanceMethod yX4_madeAgainst ∈ wsL_law := w_in (in_t2 (List.mem_of_getElem? (i := 106) (by decide +kernel))) rfl
theorem q291 : Cond.selects RX4 yX4_madeAgainst yX4_madeAgainst ∈ wsL_law := w_in (in_t2 (List.mem_of_getElem? (i := 107) (by decide +kernel))) rfl
theorem q292 : Cond.code yX4_madeAgainst cX4_madeAgainst 3 (some FieldType.int) ∈ wsL_law := w_in (in_t2 (List.mem_of_getElem? (i := 108) (by decide +kernel))) rfl
theorem q293 : Cond.methodLink RX4 144 yJ9_min_7cf53 ∈ wsL_law := w_in (in_t2 (List.mem_of_getElem? (i := 109) (by decide +kernel))) rfl
theorem q294 : Cond.static yJ9_min_7cf53 ∈ wsL_law := w_in (in_t2 (List.mem_of_getElem? (i := 110) (by decide +kernel))) rfl
theorem q295 : Cond.code yJ9_min_7cf53 cJ9_min_7cf53 2 (some FieldType.int) ∈ wsL_law := w_in (in_t2 (List.mem_of_getElem? (i := 111) (by decide +kernel))) rfl
theorem q296 : Cond.methodLink RX4 149 yJ9_max_7cf53 ∈ wsL_law := w_in (in_t2 (List.mem_of_getElem? (i := 112) (by decide +kernel))) rfl
theorem q297 : Cond.methodLink RX4 89 yX4_stand ∈ wsL_law := w_in (in_t2 (List.mem_of_getElem? (i := 113) (by decide +kernel))) rfl
theorem q298 : Cond.instanceMethod yX4_stand ∈ wsL_law := w_in (in_t2 (List.mem_of_getElem? (i := 115) (by decide +kernel))) rfl
theorem q299 : Cond.code yX4_stand cX4_stand 3 (none : Option FieldType) ∈ wsL_law := w_in (in_t2 (List.mem_of_getElem? (i := 116) (by decide +kernel))) rfl
theorem q300 : Cond.methodLink RX4 152 yX4_isAhead ∈ wsL_law := w_in (in_t2 (List.mem_of_getElem? (i := 117) (by decide +kernel))) rfl
theorem q301 : Cond.instanceMethod yX4_isAhead ∈ wsL_law := w_in (in_t2 (List.mem_of_getElem? (i := 119) (by decide +kernel))) rfl
theorem q302 : Cond.code yX4_isAhead cX4_isAhead 4 (some FieldType.boolean) ∈ wsL_law := w_in (in_t2 (List.mem_of_getElem? (i := 120) (by decide +kernel))) rfl
theorem q303 : Cond.methodLink RX4 155 yX4_firstDifference ∈ wsL_law := w_in (in_t2 (List.mem_of_getElem? (i := 121) (by decide +kernel))) rfl
theorem q304 : Cond.instanceMethod yX4_firstDifference ∈ wsL_law := w_in (in_t2 (List.mem_of_getElem? (i := 122) (by decide +kernel))) rfl
theorem q305 : Cond.selects RX4 yX4_firstDifference yX4_firstDifference ∈ wsL_law := w_in (in_t2 (List.mem_of_getElem? (i := 123) (by decide +kernel))) rfl
theorem q306 : Cond.code yX4_firstDifference cX4_firstDifference 5 (some FieldType.int) ∈ wsL_law := w_in (in_t2 (List.mem_of_getElem? (i := 124) (by decide +kernel))) rfl
theorem q307 : Cond.methodLink RL 18 yX6_leave ∈ wsL_law := w_in (in_t2 (List.mem_of_getElem? (i := 125) (by decide +kernel))) rfl
theorem q308 : Cond.instanceMethod yX6_leave ∈ wsL_law := w_in (in_t2 (List.mem_of_getElem? (i := 126) (by decide +kernel))) rfl
theorem q309 : Cond.selects RX6 yX6_leave yX6_leave ∈ wsL_law := w_in (in_t2 (List.mem_of_getElem? (i := 127) (by decide +kernel))) rfl
theorem q310 : Cond.code yX6_leave cX6_leave 2 (some FieldType.int) ∈ wsL_law := w_in (in_t2 (List.mem_of_getElem? (i := 128) (by decide +kernel))) rfl
theorem q311 : Cond.methodLink RX6 75 yX6_move ∈ wsL_law := w_in (in_t2 (List.mem_of_getElem? (i := 129) (by decide +kernel))) rfl
theorem q312 : Cond.instanceMethod yX6_move ∈ wsL_law := w_in (in_t2 (List.mem_of_getElem? (i := 131) (by decide +kernel))) rfl
theorem q313 : Cond.code yX6_move cX6_move 3 (some FieldType.int) ∈ wsL_law := w_in (in_t2 (List.mem_of_getElem? (i := 132) (by decide +kernel))) rfl
theorem q314 : Cond.methodLink RX6 79 yX6_isPlayer ∈ wsL_law := w_in (in_t2 (List.mem_of_getElem? (i := 133) (by decide +kernel))) rfl
theorem q315 : Cond.instanceMethod yX6_isPlayer ∈ wsL_law := w_in (in_t2 (List.mem_of_getElem? (i := 135) (by decide +kernel))) rfl
theorem q316 : Cond.code yX6_isPlayer cX6_isPlayer 2 (some FieldType.boolean) ∈ wsL_law := w_in (in_t2 (List.mem_of_getElem? (i := 136) (by decide +kernel))) rfl
theorem q317 : Cond.methodLink RX6 86 yX2_at ∈ wsL_law := w_in (in_t2 (List.mem_of_getElem? (i := 137) (by decide +kernel))) rfl
theorem q318 : Cond.methodLink RX6 91 yX2_put ∈ wsL_law := w_in (in_t2 (List.mem_of_getElem? (i := 138) (by decide +kernel))) rfl
theorem q319 : Cond.methodLink RX6 95 yX0_countInside ∈ wsL_law := w_in (in_t2 (List.mem_of_getElem? (i := 139) (by decide +kernel))) rfl
theorem q320 : Cond.instanceMethod yX0_countInside ∈ wsL_law := w_in (in_t2 (List.mem_of_getElem? (i := 140) (by decide +kernel))) rfl
theorem q321 : Cond.selects RX0 yX0_countInside yX0_countInside ∈ wsL_law := w_in (in_t2 (List.mem_of_getElem? (i := 141) (by decide +kernel))) rfl
theorem q322 : Cond.code yX0_countInside cX0_countInside 3 (some FieldType.int) ∈ wsL_law := w_in (in_t2 (List.mem_of_getElem? (i := 142) (by decide +kernel))) rfl
theorem q323 : Cond.methodLink RL 22 yX6_back ∈ wsL_law := w_in (in_t2 (List.mem_of_getElem? (i := 143) (by decide +kernel))) rfl
theorem q324 : Cond.instanceMethod yX6_back ∈ wsL_law := w_in (in_t2 (List.mem_of_getElem? (i := 144) (by decide +kernel))) rfl
theorem q325 : Cond.selects RX6 yX6_back yX6_back ∈ wsL_law := w_in (in_t2 (List.mem_of_getElem? (i := 145) (by decide +kernel))) rfl
theorem q326 : Cond.code yX6_back cX6_back 2 (some FieldType.int) ∈ wsL_law := w_in (in_t2 (List.mem_of_getElem? (i := 146) (by decide +kernel))) rfl
theorem q327 : Cond.methodLink RL 26 yX6_rate ∈ wsL_law := w_in (in_t2 (List.mem_of_getElem? (i := 147) (by decide +kernel))) rfl
theorem q328 : Cond.instanceMethod yX6_rate ∈ wsL_law := w_in (in_t2 (List.mem_of_getElem? (i := 148) (by decide +kernel))) rfl
theorem q329 : Cond.selects RX6 yX6_rate yX6_rate ∈ wsL_law := w_in (in_t2 (List.mem_of_getElem? (i := 149) (by decide +kernel))) rfl
theorem q330 : Cond.code yX6_rate cX6_rate 4 (some FieldType.int) ∈ wsL_law := w_in (in_t2 (List.mem_of_getElem? (i := 150) (by decide +kernel))) rfl
theorem q331 : Cond.methodLink RL 31 yX6_of ∈ wsL_law := w_in (in_t2 (List.mem_of_getElem? (i := 151) (by decide +kernel))) rfl
theorem q332 : Cond.instanceMethod yX6_of ∈ wsL_law := w_in (in_t2 (List.mem_of_getElem? (i := 152) (by decide +kernel))) rfl
theorem q333 : Cond.selects RX6 yX6_of yX6_of ∈ wsL_law := w_in (in_t2 (List.mem_of_getElem? (i := 153) (by decide +kernel))) rfl
theorem q334 : Cond.code yX6_of cX6_of 3 (some FieldType.int) ∈ wsL_law := w_in (in_t2 (List.mem_of_getElem? (i := 154) (by decide +kernel))) rfl
theorem q335 : Cond.methodLink RX6 102 yX4_tieOf ∈ wsL_law := w_in (in_t2 (List.mem_of_getElem? (i := 155) (by decide +kernel))) rfl
theorem q336 : Cond.methodLink RX6 120 yX4_countMet ∈ wsL_law := w_in (in_t2 (List.mem_of_getElem? (i := 156) (by decide +kernel))) rfl
theorem q337 : Cond.instanceMethod yX4_countMet ∈ wsL_law := w_in (in_t2 (List.mem_of_getElem? (i := 157) (by decide +kernel))) rfl
theorem q338 : Cond.selects RX4 yX4_countMet yX4_countMet ∈ wsL_law := w_in (in_t2 (List.mem_of_getElem? (i := 158) (by decide +kernel))) rfl
theorem q339 : Cond.code yX4_countMet cX4_countMet 4 (some FieldType.int) ∈ wsL_law := w_in (in_t2 (List.mem_of_getElem? (i := 159) (by decide +kernel))) rfl
theorem q340 : Cond.methodLink RL 35 yX6_tie ∈ wsL_law := w_in (in_t2 (List.mem_of_getElem? (i := 160) (by decide +kernel))) rfl
theorem q341 : Cond.instanceMethod yX6_tie ∈ wsL_law := w_in (in_t2 (List.mem_of_getElem? (i := 161) (by decide +kernel))) rfl
theorem q342 : Cond.selects RX6 yX6_tie yX6_tie ∈ wsL_law := w_in (in_t2 (List.mem_of_getElem? (i := 162) (by decide +kernel))) rfl
theorem q343 : Cond.code yX6_tie cX6_tie 3 (some FieldType.int) ∈ wsL_law := w_in (in_t2 (List.mem_of_getElem? (i := 163) (by decide +kernel))) rfl
theorem q344 : Cond.methodLink RL 39 yX6_rank ∈ wsL_law := w_in (in_t2 (List.mem_of_getElem? (i := 164) (by decide +kernel))) rfl
theorem q345 : Cond.instanceMethod yX6_rank ∈ wsL_law := w_in (in_t2 (List.mem_of_getElem? (i := 165) (by decide +kernel))) rfl
theorem q346 : Cond.selects RX6 yX6_rank yX6_rank ∈ wsL_law := w_in (in_t2 (List.mem_of_getElem? (i := 166) (by decide +kernel))) rfl
theorem q347 : Cond.code yX6_rank cX6_rank 2 (some FieldType.int) ∈ wsL_law := w_in (in_t2 (List.mem_of_getElem? (i := 167) (by decide +kernel))) rfl
theorem q348 : Cond.methodLink RX6 123 yX4_placeOf ∈ wsL_law := w_in (in_t2 (List.mem_of_getElem? (i := 168) (by decide +kernel))) rfl
theorem q349 : Cond.instanceMethod yX4_placeOf ∈ wsL_law := w_in (in_t2 (List.mem_of_getElem? (i := 169) (by decide +kernel))) rfl
theorem q350 : Cond.selects RX4 yX4_placeOf yX4_placeOf ∈ wsL_law := w_in (in_t2 (List.mem_of_getElem? (i := 170) (by decide +kernel))) rfl
theorem q351 : Cond.code yX4_placeOf cX4_placeOf 3 (some FieldType.int) ∈ wsL_law := w_in (in_t2 (List.mem_of_getElem? (i := 171) (by decide +kernel))) rfl
theorem q352 : Cond.methodLink RL 43 yX6_nth ∈ wsL_law := w_in (in_t2 (List.mem_of_getElem? (i := 172) (by decide +kernel))) rfl
theorem q353 : Cond.instanceMethod yX6_nth ∈ wsL_law := w_in (in_t2 (List.mem_of_getElem? (i := 173) (by decide +kernel))) rfl
theorem q354 : Cond.selects RX6 yX6_nth yX6_nth ∈ wsL_law := w_in (in_t2 (List.mem_of_getElem? (i := 174) (by decide +kernel))) rfl
theorem q355 : Cond.code yX6_nth cX6_nth 2 (some FieldType.int) ∈ wsL_law := w_in (in_t2 (List.mem_of_getElem? (i := 175) (by decide +kernel))) rfl
theorem q356 : Cond.methodLink RL 47 yX6_explain ∈ wsL_law := w_in (in_t2 (List.mem_of_getElem? (i := 176) (by decide +kernel))) rfl
theorem q357 : Cond.instanceMethod yX6_explain ∈ wsL_law := w_in (in_t2 (List.mem_of_getElem? (i := 177) (by decide +kernel))) rfl
theorem q358 : Cond.selects RX6 yX6_explain yX6_explain ∈ wsL_law := w_in (in_t2 (List.mem_of_getElem? (i := 178) (by decide +kernel))) rfl
theorem q359 : Cond.code yX6_explain cX6_explain 5 (some FieldType.int) ∈ wsL_law := w_in (in_t2 (List.mem_of_getElem? (i := 179) (by decide +kernel))) rfl
theorem q360 : Cond.methodLink RX6 129 yX6_areTwo ∈ wsL_law := w_in (in_t2 (List.mem_of_getElem? (i := 180) (by decide +kernel))) rfl
theorem q361 : Cond.instanceMethod yX6_areTwo ∈ wsL_law := w_in (in_t2 (List.mem_of_getElem? (i := 182) (by decide +kernel))) rfl
theorem q362 : Cond.code yX6_areTwo cX6_areTwo 3 (some FieldType.boolean) ∈ wsL_law := w_in (in_t2 (List.mem_of_getElem? (i := 183) (by decide +kernel))) rfl
theorem q363 : Cond.methodLink RX6 133 yX4_firstDifference ∈ wsL_law := w_in (in_t2 (List.mem_of_getElem? (i := 184) (by decide +kernel))) rfl
theorem q364 : Cond.methodLink RL 105 yX6_alike ∈ wsL_law := w_in (in_t2 (List.mem_of_getElem? (i := 185) (by decide +kernel))) rfl
theorem q365 : Cond.instanceMethod yX6_alike ∈ wsL_law := w_in (in_t2 (List.mem_of_getElem? (i := 186) (by decide +kernel))) rfl
theorem q366 : Cond.selects RX6 yX6_alike yX6_alike ∈ wsL_law := w_in (in_t2 (List.mem_of_getElem? (i := 187) (by decide +kernel))) rfl
theorem q367 : Cond.code yX6_alike cX6_alike 5 (some FieldType.int) ∈ wsL_law := w_in (in_t2 (List.mem_of_getElem? (i := 188) (by decide +kernel))) rfl
theorem q368 : Cond.methodLink RL 109 yX6_colours ∈ wsL_law := w_in (in_t2 (List.mem_of_getElem? (i := 189) (by decide +kernel))) rfl
theorem q369 : Cond.instanceMethod yX6_colours ∈ wsL_law := w_in (in_t2 (List.mem_of_getElem? (i := 190) (by decide +kernel))) rfl
theorem q370 : Cond.selects RX6 yX6_colours yX6_colours ∈ wsL_law := w_in (in_t2 (List.mem_of_getElem? (i := 191) (by decide +kernel))) rfl
theorem q371 : Cond.code yX6_colours cX6_colours 4 (some FieldType.int) ∈ wsL_law := w_in (in_t2 (List.mem_of_getElem? (i := 192) (by decide +kernel))) rfl
theorem q372 : Cond.methodLink RX6 136 yX6_isBalance ∈ wsL_law := w_in (in_t2 (List.mem_of_getElem? (i := 193) (by decide +kernel))) rfl
theorem q373 : Cond.static yX6_isBalance ∈ wsL_law := w_in (in_t2 (List.mem_of_getElem? (i := 194) (by decide +kernel))) rfl
theorem q374 : Cond.code yX6_isBalance cX6_isBalance 2 (some FieldType.boolean) ∈ wsL_law := w_in (in_t2 (List.mem_of_getElem? (i := 195) (by decide +kernel))) rfl
theorem q375 : Cond.methodLink RL 52 yX6_met ∈ wsL_law := w_in (in_t2 (List.mem_of_getElem? (i := 196) (by decide +kernel))) rfl
theorem q376 : Cond.instanceMethod yX6_met ∈ wsL_law := w_in (in_t2 (List.mem_of_getElem? (i := 197) (by decide +kernel))) rfl
theorem q377 : Cond.selects RX6 yX6_met yX6_met ∈ wsL_law := w_in (in_t2 (List.mem_of_getElem? (i := 198) (by decide +kernel))) rfl
theorem q378 : Cond.code yX6_met cX6_met 3 (some FieldType.int) ∈ wsL_law := w_in (in_t2 (List.mem_of_getElem? (i := 199) (by decide +kernel))) rfl
theorem q379 : Cond.methodLink RX6 139 yX4_meetingOf ∈ wsL_law := w_in (in_t2 (List.mem_of_getElem? (i := 200) (by decide +kernel))) rfl
theorem q380 : Cond.methodLink RL 56 yX6_cost ∈ wsL_law := w_in (in_t2 (List.mem_of_getElem? (i := 201) (by decide +kernel))) rfl
theorem q381 : Cond.instanceMethod yX6_cost ∈ wsL_law := w_in (in_t2 (List.mem_of_getElem? (i := 202) (by decide +kernel))) rfl
theorem q382 : Cond.selects RX6 yX6_cost yX6_cost ∈ wsL_law := w_in (in_t2 (List.mem_of_getElem? (i := 203) (by decide +kernel))) rfl
theorem q383 : Cond.code yX6_cost cX6_cost 3 (some FieldType.int) ∈ wsL_law := w_in (in_t2 (List.mem_of_getElem? (i := 204) (by decide +kernel))) rfl
theorem q384 : Cond.methodLink RX6 142 yX4_costOf ∈ wsL_law := w_in (in_t2 (List.mem_of_getElem? (i := 205) (by decide +kernel))) rfl
theorem q385 : Cond.instanceMethod yX4_costOf ∈ wsL_law := w_in (in_t2 (List.mem_of_getElem? (i := 206) (by decide +kernel))) rfl
theorem q386 : Cond.selects RX4 yX4_costOf yX4_costOf ∈ wsL_law := w_in (in_t2 (List.mem_of_getElem? (i := 207) (by decide +kernel))) rfl
theorem q387 : Cond.code yX4_costOf cX4_costOf 4 (some FieldType.int) ∈ wsL_law := w_in (in_t2 (List.mem_of_getElem? (i := 208) (by decide +kernel))) rfl
theorem q388 : Cond.methodLink RX4 167 yJ9_abs_0f7a4 ∈ wsL_law := w_in (in_t2 (List.mem_of_getElem? (i := 209) (by decide +kernel))) rfl
theorem q389 : Cond.static yJ9_abs_0f7a4 ∈ wsL_law := w_in (in_t2 (List.mem_of_getElem? (i := 210) (by decide +kernel))) rfl
theorem q390 : Cond.code yJ9_abs_0f7a4 cJ9_abs_0f7a4 1 (some FieldType.int) ∈ wsL_law := w_in (in_t2 (List.mem_of_getElem? (i := 211) (by decide +kernel))) rfl
theorem q391 : Cond.methodLink RL 97 yX6_direct ∈ wsL_law := w_in (in_t2 (List.mem_of_getElem? (i := 212) (by decide +kernel))) rfl
theorem q392 : Cond.instanceMethod yX6_direct ∈ wsL_law := w_in (in_t2 (List.mem_of_getElem? (i := 213) (by decide +kernel))) rfl
theorem q393 : Cond.selects RX6 yX6_direct yX6_direct ∈ wsL_law := w_in (in_t2 (List.mem_of_getElem? (i := 214) (by decide +kernel))) rfl
theorem q394 : Cond.code yX6_direct cX6_direct 3 (some FieldType.int) ∈ wsL_law := w_in (in_t2 (List.mem_of_getElem? (i := 215) (by decide +kernel))) rfl
theorem q395 : Cond.methodLink RX6 145 yX4_madeAgainst ∈ wsL_law := w_in (in_t2 (List.mem_of_getElem? (i := 216) (by decide +kernel))) rfl
theorem q396 : Cond.methodLink RL 60 yX6_pair ∈ wsL_law := w_in (in_t2 (List.mem_of_getElem? (i := 217) (by decide +kernel))) rfl
theorem q397 : Cond.instanceMethod yX6_pair ∈ wsL_law := w_in (in_t2 (List.mem_of_getElem? (i := 218) (by decide +kernel))) rfl
theorem q398 : Cond.selects RX6 yX6_pair yX6_pair ∈ wsL_law := w_in (in_t2 (List.mem_of_getElem? (i := 219) (by decide +kernel))) rfl
theorem q399 : Cond.code yX6_pair cX6_pair 1 (some FieldType.int) ∈ wsL_law := w_in (in_t2 (List.mem_of_getElem? (i := 220) (by decide +kernel))) rfl
theorem q400 : Cond.methodLink RX6 151 yX1_arrange ∈ wsL_law := w_in (in_t2 (List.mem_of_getElem? (i := 221) (by decide +kernel))) rfl
theorem q401 : Cond.instanceMethod yX1_arrange ∈ wsL_law := w_in (in_t2 (List.mem_of_getElem? (i := 222) (by decide +kernel))) rfl
theorem q402 : Cond.selects RX1 yX1_arrange yX1_arrange ∈ wsL_law := w_in (in_t2 (List.mem_of_getElem? (i := 223) (by decide +kernel))) rfl
theorem q403 : Cond.code yX1_arrange cX1_arrange 3 (none : Option FieldType) ∈ wsL_law := w_in (in_t2 (List.mem_of_getElem? (i := 224) (by decide +kernel))) rfl
theorem q404 : Cond.methodLink RX1 37 yX1_seatAll ∈ wsL_law := w_in (in_t2 (List.mem_of_getElem? (i := 225) (by decide +kernel))) rfl
theorem q405 : Cond.instanceMethod yX1_seatAll ∈ wsL_law := w_in (in_t2 (List.mem_of_getElem? (i := 227) (by decide +kernel))) rfl
theorem q406 : Cond.code yX1_seatAll cX1_seatAll 3 (none : Option FieldType) ∈ wsL_law := w_in (in_t2 (List.mem_of_getElem? (i := 228) (by decide +kernel))) rfl
theorem q407 : Cond.methodLink RX1 61 yX2_at ∈ wsL_law := w_in (in_t2 (List.mem_of_getElem? (i := 229) (by decide +kernel))) rfl
theorem q408 : Cond.methodLink RX1 46 yX2_put ∈ wsL_law := w_in (in_t2 (List.mem_of_getElem? (i := 230) (by decide +kernel))) rfl
theorem q409 : Cond.methodLink RX1 40 yX1_giveBye ∈ wsL_law := w_in (in_t2 (List.mem_of_getElem? (i := 231) (by decide +kernel))) rfl
theorem q410 : Cond.instanceMethod yX1_giveBye ∈ wsL_law := w_in (in_t2 (List.mem_of_getElem? (i := 233) (by decide +kernel))) rfl
theorem q411 : Cond.code yX1_giveBye cX1_giveBye 3 (none : Option FieldType) ∈ wsL_law := w_in (in_t2 (List.mem_of_getElem? (i := 234) (by decide +kernel))) rfl
theorem q412 : Cond.methodLink RX1 107 yX1_seatOfBye ∈ wsL_law := w_in (in_t2 (List.mem_of_getElem? (i := 235) (by decide +kernel))) rfl
theorem q413 : Cond.instanceMethod yX1_seatOfBye ∈ wsL_law := w_in (in_t2 (List.mem_of_getElem? (i := 237) (by decide +kernel))) rfl
theorem q414 : Cond.code yX1_seatOfBye cX1_seatOfBye 3 (some FieldType.int) ∈ wsL_law := w_in (in_t2 (List.mem_of_getElem? (i := 238) (by decide +kernel))) rfl
theorem q415 : Cond.methodLink RX1 43 yX1_noteCosts ∈ wsL_law := w_in (in_t2 (List.mem_of_getElem? (i := 239) (by decide +kernel))) rfl
theorem q416 : Cond.instanceMethod yX1_noteCosts ∈ wsL_law := w_in (in_t3 (List.mem_of_getElem? (i := 1) (by decide +kernel))) rfl
theorem q417 : Cond.code yX1_noteCosts cX1_noteCosts 3 (none : Option FieldType) ∈ wsL_law := w_in (in_t3 (List.mem_of_getElem? (i := 2) (by decide +kernel))) rfl
theorem q418 : Cond.methodLink RX1 116 yX4_costOf ∈ wsL_law := w_in (in_t3 (List.mem_of_getElem? (i := 3) (by decide +kernel))) rfl
theorem q419 : Cond.methodLink RX1 50 yX1_wholeSet ∈ wsL_law := w_in (in_t3 (List.mem_of_getElem? (i := 4) (by decide +kernel))) rfl
theorem q420 : Cond.instanceMethod yX1_wholeSet ∈ wsL_law := w_in (in_t3 (List.mem_of_getElem? (i := 6) (by decide +kernel))) rfl
theorem q421 : Cond.code yX1_wholeSet cX1_wholeSet 1 (some FieldType.int) ∈ wsL_law := w_in (in_t3 (List.mem_of_getElem? (i := 7) (by decide +kernel))) rfl
theorem q422 : Cond.methodLink RX1 54 yX1_isReached ∈ wsL_law := w_in (in_t3 (List.mem_of_getElem? (i := 8) (by decide +kernel))) rfl
theorem q423 : Cond.instanceMethod yX1_isReached ∈ wsL_law := w_in (in_t3 (List.mem_of_getElem? (i := 10) (by decide +kernel))) rfl
theorem q424 : Cond.code yX1_isReached cX1_isReached 3 (some FieldType.boolean) ∈ wsL_law := w_in (in_t3 (List.mem_of_getElem? (i := 11) (by decide +kernel))) rfl
theorem q425 : Cond.methodLink RX1 91 yJ6_bitCount_0f7a4 ∈ wsL_law := w_in (in_t3 (List.mem_of_getElem? (i := 12) (by decide +kernel))) rfl
theorem q426 : Cond.static yJ6_bitCount_0f7a4 ∈ wsL_law := w_in (in_t3 (List.mem_of_getElem? (i := 13) (by decide +kernel))) rfl
theorem q427 : Cond.code yJ6_bitCount_0f7a4 cJ6_bitCount_0f7a4 1 (some FieldType.int) ∈ wsL_law := w_in (in_t3 (List.mem_of_getElem? (i := 14) (by decide +kernel))) rfl
theorem q428 : Cond.constant RJ6 265 1431655765 ∈ wsL_law := w_in (in_t3 (List.mem_of_getElem? (i := 15) (by decide +kernel))) rfl
theorem q429 : Cond.constant RJ6 266 858993459 ∈ wsL_law := w_in (in_t3 (List.mem_of_getElem? (i := 16) (by decide +kernel))) rfl
theorem q430 : Cond.constant RJ6 267 252645135 ∈ wsL_law := w_in (in_t3 (List.mem_of_getElem? (i := 17) (by decide +kernel))) rfl
theorem q431 : Cond.methodLink RX1 77 yX1_firstSeat ∈ wsL_law := w_in (in_t3 (List.mem_of_getElem? (i := 18) (by decide +kernel))) rfl
theorem q432 : Cond.static yX1_firstSeat ∈ wsL_law := w_in (in_t3 (List.mem_of_getElem? (i := 19) (by decide +kernel))) rfl
theorem q433 : Cond.code yX1_firstSeat cX1_firstSeat 1 (some FieldType.int) ∈ wsL_law := w_in (in_t3 (List.mem_of_getElem? (i := 20) (by decide +kernel))) rfl
theorem q434 : Cond.methodLink RX1 58 yX1_weigh ∈ wsL_law := w_in (in_t3 (List.mem_of_getElem? (i := 21) (by decide +kernel))) rfl
theorem q435 : Cond.instanceMethod yX1_weigh ∈ wsL_law := w_in (in_t3 (List.mem_of_getElem? (i := 23) (by decide +kernel))) rfl
theorem q436 : Cond.code yX1_weigh cX1_weigh 7 (none : Option FieldType) ∈ wsL_law := w_in (in_t3 (List.mem_of_getElem? (i := 24) (by decide +kernel))) rfl
theorem q437 : Cond.methodLink RX1 120 yX1_sumWith ∈ wsL_law := w_in (in_t3 (List.mem_of_getElem? (i := 25) (by decide +kernel))) rfl
theorem q438 : Cond.instanceMethod yX1_sumWith ∈ wsL_law := w_in (in_t3 (List.mem_of_getElem? (i := 27) (by decide +kernel))) rfl
theorem q439 : Cond.code yX1_sumWith cX1_sumWith 6 (some FieldType.int) ∈ wsL_law := w_in (in_t3 (List.mem_of_getElem? (i := 28) (by decide +kernel))) rfl
theorem q440 : Cond.methodLink RX1 87 yX1_without ∈ wsL_law := w_in (in_t3 (List.mem_of_getElem? (i := 29) (by decide +kernel))) rfl
theorem q441 : Cond.static yX1_without ∈ wsL_law := w_in (in_t3 (List.mem_of_getElem? (i := 30) (by decide +kernel))) rfl
theorem q442 : Cond.code yX1_without cX1_without 3 (some FieldType.int) ∈ wsL_law := w_in (in_t3 (List.mem_of_getElem? (i := 31) (by decide +kernel))) rfl
theorem q443 : Cond.methodLink RX1 123 yJ9_min_7cf53 ∈ wsL_law := w_in (in_t3 (List.mem_of_getElem? (i := 32) (by decide +kernel))) rfl
theorem q444 : Cond.methodLink RX6 154 yX1_leastCost ∈ wsL_law := w_in (in_t3 (List.mem_of_getElem? (i := 33) (by decide +kernel))) rfl
theorem q445 : Cond.instanceMethod yX1_leastCost ∈ wsL_law := w_in (in_t3 (List.mem_of_getElem? (i := 34) (by decide +kernel))) rfl
theorem q446 : Cond.selects RX1 yX1_leastCost yX1_leastCost ∈ wsL_law := w_in (in_t3 (List.mem_of_getElem? (i := 35) (by decide +kernel))) rfl
theorem q447 : Cond.code yX1_leastCost cX1_leastCost 1 (some FieldType.int) ∈ wsL_law := w_in (in_t3 (List.mem_of_getElem? (i := 36) (by decide +kernel))) rfl
theorem q448 : Cond.methodLink RX6 157 yX1_openRound ∈ wsL_law := w_in (in_t3 (List.mem_of_getElem? (i := 37) (by decide +kernel))) rfl
theorem q449 : Cond.instanceMethod yX1_openRound ∈ wsL_law := w_in (in_t3 (List.mem_of_getElem? (i := 38) (by decide +kernel))) rfl
theorem q450 : Cond.selects RX1 yX1_openRound yX1_openRound ∈ wsL_law := w_in (in_t3 (List.mem_of_getElem? (i := 39) (by decide +kernel))) rfl
theorem q451 : Cond.code yX1_openRound cX1_openRound 5 (none : Option FieldType) ∈ wsL_law := w_in (in_t3 (List.mem_of_getElem? (i := 40) (by decide +kernel))) rfl
theorem q452 : Cond.methodLink RX1 69 yX0_startRound ∈ wsL_law := w_in (in_t3 (List.mem_of_getElem? (i := 41) (by decide +kernel))) rfl
theorem q453 : Cond.instanceMethod yX0_startRound ∈ wsL_law := w_in (in_t3 (List.mem_of_getElem? (i := 42) (by decide +kernel))) rfl
theorem q454 : Cond.selects RX0 yX0_startRound yX0_startRound ∈ wsL_law := w_in (in_t3 (List.mem_of_getElem? (i := 43) (by decide +kernel))) rfl
theorem q455 : Cond.code yX0_startRound cX0_startRound 2 (none : Option FieldType) ∈ wsL_law := w_in (in_t3 (List.mem_of_getElem? (i := 44) (by decide +kernel))) rfl
theorem q456 : Cond.methodLink RX1 80 yX1_earliestMate ∈ wsL_law := w_in (in_t3 (List.mem_of_getElem? (i := 45) (by decide +kernel))) rfl
theorem q457 : Cond.instanceMethod yX1_earliestMate ∈ wsL_law := w_in (in_t3 (List.mem_of_getElem? (i := 47) (by decide +kernel))) rfl
theorem q458 : Cond.code yX1_earliestMate cX1_earliestMate 5 (some FieldType.int) ∈ wsL_law := w_in (in_t3 (List.mem_of_getElem? (i := 48) (by decide +kernel))) rfl
theorem q459 : Cond.methodLink RX1 83 yX1_seatBoard ∈ wsL_law := w_in (in_t3 (List.mem_of_getElem? (i := 49) (by decide +kernel))) rfl
theorem q460 : Cond.instanceMethod yX1_seatBoard ∈ wsL_law := w_in (in_t3 (List.mem_of_getElem? (i := 51) (by decide +kernel))) rfl
theorem q461 : Cond.code yX1_seatBoard cX1_seatBoard 4 (none : Option FieldType) ∈ wsL_law := w_in (in_t3 (List.mem_of_getElem? (i := 52) (by decide +kernel))) rfl
theorem q462 : Cond.methodLink RX1 128 yX1_hasWhite ∈ wsL_law := w_in (in_t3 (List.mem_of_getElem? (i := 53) (by decide +kernel))) rfl
theorem q463 : Cond.instanceMethod yX1_hasWhite ∈ wsL_law := w_in (in_t3 (List.mem_of_getElem? (i := 55) (by decide +kernel))) rfl
theorem q464 : Cond.code yX1_hasWhite cX1_hasWhite 8 (some FieldType.boolean) ∈ wsL_law := w_in (in_t3 (List.mem_of_getElem? (i := 56) (by decide +kernel))) rfl
theorem q465 : Cond.methodLink RX1 132 yX0_addBoard ∈ wsL_law := w_in (in_t3 (List.mem_of_getElem? (i := 57) (by decide +kernel))) rfl
theorem q466 : Cond.instanceMethod yX0_addBoard ∈ wsL_law := w_in (in_t3 (List.mem_of_getElem? (i := 58) (by decide +kernel))) rfl
theorem q467 : Cond.selects RX0 yX0_addBoard yX0_addBoard ∈ wsL_law := w_in (in_t3 (List.mem_of_getElem? (i := 59) (by decide +kernel))) rfl
theorem q468 : Cond.code yX0_addBoard cX0_addBoard 5 (none : Option FieldType) ∈ wsL_law := w_in (in_t3 (List.mem_of_getElem? (i := 60) (by decide +kernel))) rfl
theorem q469 : Cond.methodLink RX0 71 yX2_add ∈ wsL_law := w_in (in_t3 (List.mem_of_getElem? (i := 61) (by decide +kernel))) rfl
theorem q470 : Cond.methodLink RL 65 yX6_least ∈ wsL_law := w_in (in_t3 (List.mem_of_getElem? (i := 62) (by decide +kernel))) rfl
theorem q471 : Cond.instanceMethod yX6_least ∈ wsL_law := w_in (in_t3 (List.mem_of_getElem? (i := 63) (by decide +kernel))) rfl
theorem q472 : Cond.selects RX6 yX6_least yX6_least ∈ wsL_law := w_in (in_t3 (List.mem_of_getElem? (i := 64) (by decide +kernel))) rfl
theorem q473 : Cond.code yX6_least cX6_least 1 (some FieldType.int) ∈ wsL_law := w_in (in_t3 (List.mem_of_getElem? (i := 65) (by decide +kernel))) rfl
theorem q474 : Cond.methodLink RL 69 yX6_ways ∈ wsL_law := w_in (in_t3 (List.mem_of_getElem? (i := 66) (by decide +kernel))) rfl
theorem q475 : Cond.instanceMethod yX6_ways ∈ wsL_law := w_in (in_t3 (List.mem_of_getElem? (i := 67) (by decide +kernel))) rfl
theorem q476 : Cond.selects RX6 yX6_ways yX6_ways ∈ wsL_law := w_in (in_t3 (List.mem_of_getElem? (i := 68) (by decide +kernel))) rfl
theorem q477 : Cond.code yX6_ways cX6_ways 1 (some FieldType.int) ∈ wsL_law := w_in (in_t3 (List.mem_of_getElem? (i := 69) (by decide +kernel))) rfl
theorem q478 : Cond.methodLink RX6 163 yX1_countWays ∈ wsL_law := w_in (in_t3 (List.mem_of_getElem? (i := 70) (by decide +kernel))) rfl
theorem q479 : Cond.instanceMethod yX1_countWays ∈ wsL_law := w_in (in_t3 (List.mem_of_getElem? (i := 71) (by decide +kernel))) rfl
theorem q480 : Cond.selects RX1 yX1_countWays yX1_countWays ∈ wsL_law := w_in (in_t3 (List.mem_of_getElem? (i := 72) (by decide +kernel))) rfl
theorem q481 : Cond.code yX1_countWays cX1_countWays 1 (some FieldType.int) ∈ wsL_law := w_in (in_t3 (List.mem_of_getElem? (i := 73) (by decide +kernel))) rfl
theorem q482 : Cond.methodLink RL 73 yX6_board ∈ wsL_law := w_in (in_t3 (List.mem_of_getElem? (i := 74) (by decide +kernel))) rfl
theorem q483 : Cond.instanceMethod yX6_board ∈ wsL_law := w_in (in_t3 (List.mem_of_getElem? (i := 75) (by decide +kernel))) rfl
theorem q484 : Cond.selects RX6 yX6_board yX6_board ∈ wsL_law := w_in (in_t3 (List.mem_of_getElem? (i := 76) (by decide +kernel))) rfl
theorem q485 : Cond.code yX6_board cX6_board 5 (some FieldType.int) ∈ wsL_law := w_in (in_t3 (List.mem_of_getElem? (i := 77) (by decide +kernel))) rfl
theorem q486 : Cond.methodLink RX6 166 yX6_isRound ∈ wsL_law := w_in (in_t3 (List.mem_of_getElem? (i := 78) (by decide +kernel))) rfl
theorem q487 : Cond.instanceMethod yX6_isRound ∈ wsL_law := w_in (in_t3 (List.mem_of_getElem? (i := 80) (by decide +kernel))) rfl
theorem q488 : Cond.code yX6_isRound cX6_isRound 2 (some FieldType.boolean) ∈ wsL_law := w_in (in_t3 (List.mem_of_getElem? (i := 81) (by decide +kernel))) rfl
theorem q489 : Cond.methodLink RX6 169 yX0_boardCell ∈ wsL_law := w_in (in_t3 (List.mem_of_getElem? (i := 82) (by decide +kernel))) rfl
theorem q490 : Cond.methodLink RL 77 yX6_bye ∈ wsL_law := w_in (in_t3 (List.mem_of_getElem? (i := 83) (by decide +kernel))) rfl
theorem q491 : Cond.instanceMethod yX6_bye ∈ wsL_law := w_in (in_t3 (List.mem_of_getElem? (i := 84) (by decide +kernel))) rfl
theorem q492 : Cond.selects RX6 yX6_bye yX6_bye ∈ wsL_law := w_in (in_t3 (List.mem_of_getElem? (i := 85) (by decide +kernel))) rfl
theorem q493 : Cond.code yX6_bye cX6_bye 2 (some FieldType.int) ∈ wsL_law := w_in (in_t3 (List.mem_of_getElem? (i := 86) (by decide +kernel))) rfl
theorem q494 : Cond.methodLink RL 81 yX6_result ∈ wsL_law := w_in (in_t3 (List.mem_of_getElem? (i := 87) (by decide +kernel))) rfl
theorem q495 : Cond.instanceMethod yX6_result ∈ wsL_law := w_in (in_t3 (List.mem_of_getElem? (i := 88) (by decide +kernel))) rfl
theorem q496 : Cond.selects RX6 yX6_result yX6_result ∈ wsL_law := w_in (in_t3 (List.mem_of_getElem? (i := 89) (by decide +kernel))) rfl
theorem q497 : Cond.code yX6_result cX6_result 6 (some FieldType.int) ∈ wsL_law := w_in (in_t3 (List.mem_of_getElem? (i := 90) (by decide +kernel))) rfl
theorem q498 : Cond.methodLink RL 85 yX6_close ∈ wsL_law := w_in (in_t3 (List.mem_of_getElem? (i := 91) (by decide +kernel))) rfl
theorem q499 : Cond.instanceMethod yX6_close ∈ wsL_law := w_in (in_t3 (List.mem_of_getElem? (i := 92) (by decide +kernel))) rfl
theorem q500 : Cond.selects RX6 yX6_close yX6_close ∈ wsL_law := w_in (in_t3 (List.mem_of_getElem? (i := 93) (by decide +kernel))) rfl
theorem q501 : Cond.code yX6_close cX6_close 2 (some FieldType.int) ∈ wsL_law := w_in (in_t3 (List.mem_of_getElem? (i := 94) (by decide +kernel))) rfl
theorem q502 : Cond.methodLink RX6 182 yX0_countOutcomes ∈ wsL_law := w_in (in_t3 (List.mem_of_getElem? (i := 95) (by decide +kernel))) rfl
theorem q503 : Cond.instanceMethod yX0_countOutcomes ∈ wsL_law := w_in (in_t3 (List.mem_of_getElem? (i := 96) (by decide +kernel))) rfl
theorem q504 : Cond.selects RX0 yX0_countOutcomes yX0_countOutcomes ∈ wsL_law := w_in (in_t3 (List.mem_of_getElem? (i := 97) (by decide +kernel))) rfl
theorem q505 : Cond.code yX0_countOutcomes cX0_countOutcomes 4 (some FieldType.int) ∈ wsL_law := w_in (in_t3 (List.mem_of_getElem? (i := 98) (by decide +kernel))) rfl
theorem q506 : Cond.methodLink RL 89 yX6_drop ∈ wsL_law := w_in (in_t3 (List.mem_of_getElem? (i := 99) (by decide +kernel))) rfl
theorem q507 : Cond.instanceMethod yX6_drop ∈ wsL_law := w_in (in_t3 (List.mem_of_getElem? (i := 100) (by decide +kernel))) rfl
theorem q508 : Cond.selects RX6 yX6_drop yX6_drop ∈ wsL_law := w_in (in_t3 (List.mem_of_getElem? (i := 101) (by decide +kernel))) rfl
theorem q509 : Cond.code yX6_drop cX6_drop 1 (some FieldType.int) ∈ wsL_law := w_in (in_t3 (List.mem_of_getElem? (i := 102) (by decide +kernel))) rfl
theorem q510 : Cond.methodLink RL 93 yX6_game ∈ wsL_law := w_in (in_t3 (List.mem_of_getElem? (i := 103) (by decide +kernel))) rfl
theorem q511 : Cond.instanceMethod yX6_game ∈ wsL_law := w_in (in_t3 (List.mem_of_getElem? (i := 104) (by decide +kernel))) rfl
theorem q512 : Cond.selects RX6 yX6_game yX6_game ∈ wsL_law := w_in (in_t3 (List.mem_of_getElem? (i := 105) (by decide +kernel))) rfl
theorem q513 : Cond.code yX6_game cX6_game 5 (some FieldType.int) ∈ wsL_law := w_in (in_t3 (List.mem_of_getElem? (i := 106) (by decide +kernel))) rfl
theorem q514 : Cond.methodLink RX6 185 yX0_boardWith ∈ wsL_law := w_in (in_t3 (List.mem_of_getElem? (i := 107) (by decide +kernel))) rfl
theorem q515 : Cond.instanceMethod yX0_boardWith ∈ wsL_law := w_in (in_t3 (List.mem_of_getElem? (i := 108) (by decide +kernel))) rfl
theorem q516 : Cond.selects RX0 yX0_boardWith yX0_boardWith ∈ wsL_law := w_in (in_t3 (List.mem_of_getElem? (i := 109) (by decide +kernel))) rfl
theorem q517 : Cond.code yX0_boardWith cX0_boardWith 5 (some FieldType.int) ∈ wsL_law := w_in (in_t3 (List.mem_of_getElem? (i := 110) (by decide +kernel))) rfl
theorem q518 : Cond.methodLink RX6 188 yX0_otherAt ∈ wsL_law := w_in (in_t3 (List.mem_of_getElem? (i := 111) (by decide +kernel))) rfl
theorem q519 : Cond.methodLink RX6 192 yX0_colourAt ∈ wsL_law := w_in (in_t3 (List.mem_of_getElem? (i := 112) (by decide +kernel))) rfl
theorem q520 : Cond.methodLink RX6 195 yX0_countDone ∈ wsL_law := w_in (in_t3 (List.mem_of_getElem? (i := 113) (by decide +kernel))) rfl
theorem q521 : Cond.methodLink RX6 198 yX6_pointsMade ∈ wsL_law := w_in (in_t3 (List.mem_of_getElem? (i := 114) (by decide +kernel))) rfl
theorem q522 : Cond.instanceMethod yX6_pointsMade ∈ wsL_law := w_in (in_t3 (List.mem_of_getElem? (i := 116) (by decide +kernel))) rfl
theorem q523 : Cond.code yX6_pointsMade cX6_pointsMade 4 (some FieldType.int) ∈ wsL_law := w_in (in_t3 (List.mem_of_getElem? (i := 117) (by decide +kernel))) rfl
theorem q524 : Cond.methodLink RX6 201 yX0_outcomeFor ∈ wsL_law := w_in (in_t3 (List.mem_of_getElem? (i := 118) (by decide +kernel))) rfl
theorem q525 : Cond.methodLink RX6 204 yX6_pointsFor ∈ wsL_law := w_in (in_t3 (List.mem_of_getElem? (i := 119) (by decide +kernel))) rfl
theorem q526 : Cond.methodLink RL 101 yX6_average ∈ wsL_law := w_in (in_t3 (List.mem_of_getElem? (i := 120) (by decide +kernel))) rfl
theorem q527 : Cond.instanceMethod yX6_average ∈ wsL_law := w_in (in_t3 (List.mem_of_getElem? (i := 121) (by decide +kernel))) rfl
theorem q528 : Cond.selects RX6 yX6_average yX6_average ∈ wsL_law := w_in (in_t3 (List.mem_of_getElem? (i := 122) (by decide +kernel))) rfl
theorem q529 : Cond.code yX6_average cX6_average 6 (some FieldType.int) ∈ wsL_law := w_in (in_t3 (List.mem_of_getElem? (i := 123) (by decide +kernel))) rfl
theorem q530 : Cond.methodLink RX6 207 yX4_sumRatings ∈ wsL_law := w_in (in_t3 (List.mem_of_getElem? (i := 124) (by decide +kernel))) rfl
theorem q531 : Cond.instanceMethod yX4_sumRatings ∈ wsL_law := w_in (in_t3 (List.mem_of_getElem? (i := 125) (by decide +kernel))) rfl
theorem q532 : Cond.selects RX4 yX4_sumRatings yX4_sumRatings ∈ wsL_law := w_in (in_t3 (List.mem_of_getElem? (i := 126) (by decide +kernel))) rfl
theorem q533 : Cond.code yX4_sumRatings cX4_sumRatings 4 (some FieldType.int) ∈ wsL_law := w_in (in_t3 (List.mem_of_getElem? (i := 127) (by decide +kernel))) rfl
theorem q534 : Cond.methodLink RX6 210 yX6_commonDivisor ∈ wsL_law := w_in (in_t3 (List.mem_of_getElem? (i := 128) (by decide +kernel))) rfl
theorem q535 : Cond.static yX6_commonDivisor ∈ wsL_law := w_in (in_t3 (List.mem_of_getElem? (i := 129) (by decide +kernel))) rfl
theorem q536 : Cond.code yX6_commonDivisor cX6_commonDivisor 3 (some FieldType.int) ∈ wsL_law := w_in (in_t3 (List.mem_of_getElem? (i := 130) (by decide +kernel))) rfl
theorem q537 : Cond.methodLink RL 113 yX6_feed ∈ wsL_law := w_in (in_t3 (List.mem_of_getElem? (i := 131) (by decide +kernel))) rfl
theorem q538 : Cond.instanceMethod yX6_feed ∈ wsL_law := w_in (in_t3 (List.mem_of_getElem? (i := 132) (by decide +kernel))) rfl
theorem q539 : Cond.selects RX6 yX6_feed yX6_feed ∈ wsL_law := w_in (in_t3 (List.mem_of_getElem? (i := 133) (by decide +kernel))) rfl
theorem q540 : Cond.code yX6_feed cX6_feed 2 (some FieldType.int) ∈ wsL_law := w_in (in_t3 (List.mem_of_getElem? (i := 134) (by decide +kernel))) rfl
theorem q541 : Cond.methodLink RX6 216 yX5_append ∈ wsL_law := w_in (in_t3 (List.mem_of_getElem? (i := 135) (by decide +kernel))) rfl
theorem q542 : Cond.instanceMethod yX5_append ∈ wsL_law := w_in (in_t3 (List.mem_of_getElem? (i := 136) (by decide +kernel))) rfl
theorem q543 : Cond.selects RX5 yX5_append yX5_append ∈ wsL_law := w_in (in_t3 (List.mem_of_getElem? (i := 137) (by decide +kernel))) rfl
theorem q544 : Cond.code yX5_append cX5_append 2 (none : Option FieldType) ∈ wsL_law := w_in (in_t3 (List.mem_of_getElem? (i := 138) (by decide +kernel))) rfl
theorem q545 : Cond.methodLink RX5 26 yX2_put ∈ wsL_law := w_in (in_t3 (List.mem_of_getElem? (i := 139) (by decide +kernel))) rfl
theorem q546 : Cond.methodLink RL 117 yX6_clear ∈ wsL_law := w_in (in_t3 (List.mem_of_getElem? (i := 140) (by decide +kernel))) rfl
theorem q547 : Cond.instanceMethod yX6_clear ∈ wsL_law := w_in (in_t3 (List.mem_of_getElem? (i := 141) (by decide +kernel))) rfl
theorem q548 : Cond.selects RX6 yX6_clear yX6_clear ∈ wsL_law := w_in (in_t3 (List.mem_of_getElem? (i := 142) (by decide +kernel))) rfl
theorem q549 : Cond.code yX6_clear cX6_clear 2 (some FieldType.int) ∈ wsL_law := w_in (in_t3 (List.mem_of_getElem? (i := 143) (by decide +kernel))) rfl
theorem q550 : Cond.methodLink RL 121 yX6_results ∈ wsL_law := w_in (in_t3 (List.mem_of_getElem? (i := 144) (by decide +kernel))) rfl
theorem q551 : Cond.instanceMethod yX6_results ∈ wsL_law := w_in (in_t3 (List.mem_of_getElem? (i := 145) (by decide +kernel))) rfl
theorem q552 : Cond.selects RX6 yX6_results yX6_results ∈ wsL_law := w_in (in_t3 (List.mem_of_getElem? (i := 146) (by decide +kernel))) rfl
theorem q553 : Cond.code yX6_results cX6_results 2 (some FieldType.int) ∈ wsL_law := w_in (in_t3 (List.mem_of_getElem? (i := 147) (by decide +kernel))) rfl
theorem q554 : Cond.methodLink RX6 219 yX6_readResults ∈ wsL_law := w_in (in_t3 (List.mem_of_getElem? (i := 148) (by decide +kernel))) rfl
theorem q555 : Cond.instanceMethod yX6_readResults ∈ wsL_law := w_in (in_t3 (List.mem_of_getElem? (i := 150) (by decide +kernel))) rfl
theorem q556 : Cond.code yX6_readResults cX6_readResults 6 (some FieldType.int) ∈ wsL_law := w_in (in_t3 (List.mem_of_getElem? (i := 151) (by decide +kernel))) rfl
theorem q557 : Cond.methodLink RX6 222 yX6_faultOfResults ∈ wsL_law := w_in (in_t3 (List.mem_of_getElem? (i := 152) (by decide +kernel))) rfl
theorem q558 : Cond.instanceMethod yX6_faultOfResults ∈ wsL_law := w_in (in_t3 (List.mem_of_getElem? (i := 154) (by decide +kernel))) rfl
theorem q559 : Cond.code yX6_faultOfResults cX6_faultOfResults 3 (some FieldType.int) ∈ wsL_law := w_in (in_t3 (List.mem_of_getElem? (i := 155) (by decide +kernel))) rfl
theorem q560 : Cond.methodLink RX6 227 yX5_byteAt ∈ wsL_law := w_in (in_t3 (List.mem_of_getElem? (i := 157) (by decide +kernel))) rfl
theorem q561 : Cond.instanceMethod yX5_byteAt ∈ wsL_law := w_in (in_t3 (List.mem_of_getElem? (i := 158) (by decide +kernel))) rfl
theorem q562 : Cond.selects RX5 yX5_byteAt yX5_byteAt ∈ wsL_law := w_in (in_t3 (List.mem_of_getElem? (i := 159) (by decide +kernel))) rfl
theorem q563 : Cond.code yX5_byteAt cX5_byteAt 2 (some FieldType.int) ∈ wsL_law := w_in (in_t3 (List.mem_of_getElem? (i := 160) (by decide +kernel))) rfl
theorem q564 : Cond.methodLink RX5 18 yX2_at ∈ wsL_law := w_in (in_t3 (List.mem_of_getElem? (i := 161) (by decide +kernel))) rfl
theorem q565 : Cond.methodLink RX6 230 yJ0_indexOf_0f7a4 ∈ wsL_law := w_in (in_t3 (List.mem_of_getElem? (i := 162) (by decide +kernel))) rfl
theorem q566 : Cond.instanceMethod yJ0_indexOf_0f7a4 ∈ wsL_law := w_in (in_t3 (List.mem_of_getElem? (i := 163) (by decide +kernel))) rfl
theorem q567 : Cond.selects RJ0 yJ0_indexOf_0f7a4 yJ0_indexOf_0f7a4 ∈ wsL_law := w_in (in_t3 (List.mem_of_getElem? (i := 164) (by decide +kernel))) rfl
theorem q568 : Cond.code yJ0_indexOf_0f7a4 cJ0_indexOf_0f7a4 2 (some FieldType.int) ∈ wsL_law := w_in (in_t3 (List.mem_of_getElem? (i := 165) (by decide +kernel))) rfl
theorem q569 : Cond.methodLink RJ0 633 yJ0_indexOf_7cf53 ∈ wsL_law := w_in (in_t3 (List.mem_of_getElem? (i := 166) (by decide +kernel))) rfl
theorem q570 : Cond.instanceMethod yJ0_indexOf_7cf53 ∈ wsL_law := w_in (in_t3 (List.mem_of_getElem? (i := 167) (by decide +kernel))) rfl
theorem q571 : Cond.selects RJ0 yJ0_indexOf_7cf53 yJ0_indexOf_7cf53 ∈ wsL_law := w_in (in_t3 (List.mem_of_getElem? (i := 168) (by decide +kernel))) rfl
theorem q572 : Cond.code yJ0_indexOf_7cf53 cJ0_indexOf_7cf53 3 (some FieldType.int) ∈ wsL_law := w_in (in_t3 (List.mem_of_getElem? (i := 169) (by decide +kernel))) rfl
theorem q573 : Cond.methodLink RJ0 492 yJ0_isLatin1_aae02 ∈ wsL_law := w_in (in_t3 (List.mem_of_getElem? (i := 170) (by decide +kernel))) rfl
theorem q574 : Cond.instanceMethod yJ0_isLatin1_aae02 ∈ wsL_law := w_in (in_t3 (List.mem_of_getElem? (i := 171) (by decide +kernel))) rfl
theorem q575 : Cond.selects RJ0 yJ0_isLatin1_aae02 yJ0_isLatin1_aae02 ∈ wsL_law := w_in (in_t3 (List.mem_of_getElem? (i := 172) (by decide +kernel))) rfl
theorem q576 : Cond.code yJ0_isLatin1_aae02 cJ0_isLatin1_aae02 1 (some FieldType.boolean) ∈ wsL_law := w_in (in_t3 (List.mem_of_getElem? (i := 173) (by decide +kernel))) rfl
theorem q577 : Cond.fieldLink RJ0 38 RJ0 "COMPACT_STRINGS" "Z" ∈ wsL_law := w_in (in_t3 (List.mem_of_getElem? (i := 174) (by decide +kernel))) rfl
theorem q578 : Cond.methodLink RJ0 505 yJ0_length_8abf5 ∈ wsL_law := w_in (in_t3 (List.mem_of_getElem? (i := 176) (by decide +kernel))) rfl
theorem q579 : Cond.instanceMethod yJ0_length_8abf5 ∈ wsL_law := w_in (in_t3 (List.mem_of_getElem? (i := 177) (by decide +kernel))) rfl
theorem q580 : Cond.selects RJ0 yJ0_length_8abf5 yJ0_length_8abf5 ∈ wsL_law := w_in (in_t3 (List.mem_of_getElem? (i := 178) (by decide +kernel))) rfl
theorem q581 : Cond.code yJ0_length_8abf5 cJ0_length_8abf5 1 (some FieldType.int) ∈ wsL_law := w_in (in_t3 (List.mem_of_getElem? (i := 179) (by decide +kernel))) rfl
theorem q582 : Cond.methodLink RJ0 335 yJ0_coder_7d493 ∈ wsL_law := w_in (in_t3 (List.mem_of_getElem? (i := 180) (by decide +kernel))) rfl
theorem q583 : Cond.instanceMethod yJ0_coder_7d493 ∈ wsL_law := w_in (in_t3 (List.mem_of_getElem? (i := 181) (by decide +kernel))) rfl
theorem q584 : Cond.selects RJ0 yJ0_coder_7d493 yJ0_coder_7d493 ∈ wsL_law := w_in (in_t3 (List.mem_of_getElem? (i := 182) (by decide +kernel))) rfl
theorem q585 : Cond.code yJ0_coder_7d493 cJ0_coder_7d493 1 (some FieldType.byte) ∈ wsL_law := w_in (in_t3 (List.mem_of_getElem? (i := 183) (by decide +kernel))) rfl
theorem q586 : Cond.methodLink RJ0 637 yJ1_indexOf_4cfef ∈ wsL_law := w_in (in_t3 (List.mem_of_getElem? (i := 184) (by decide +kernel))) rfl
theorem q587 : Cond.static yJ1_indexOf_4cfef ∈ wsL_law := w_in (in_t3 (List.mem_of_getElem? (i := 185) (by decide +kernel))) rfl
theorem q588 : Cond.code yJ1_indexOf_4cfef cJ1_indexOf_4cfef 4 (some FieldType.int) ∈ wsL_law := w_in (in_t3 (List.mem_of_getElem? (i := 186) (by decide +kernel))) rfl
theorem q589 : Cond.methodLink RJ1 88 yJ1_canEncode_9a6ad ∈ wsL_law := w_in (in_t3 (List.mem_of_getElem? (i := 187) (by decide +kernel))) rfl
theorem q590 : Cond.static yJ1_canEncode_9a6ad ∈ wsL_law := w_in (in_t3 (List.mem_of_getElem? (i := 188) (by decide +kernel))) rfl
theorem q591 : Cond.code yJ1_canEncode_9a6ad cJ1_canEncode_9a6ad 1 (some FieldType.boolean) ∈ wsL_law := w_in (in_t3 (List.mem_of_getElem? (i := 189) (by decide +kernel))) rfl
theorem q592 : Cond.methodLink RJ1 92 yJ9_max_7cf53 ∈ wsL_law := w_in (in_t3 (List.mem_of_getElem? (i := 190) (by decide +kernel))) rfl
theorem q593 : Cond.methodLink RJ1 38 yJ9_min_7cf53 ∈ wsL_law := w_in (in_t3 (List.mem_of_getElem? (i := 191) (by decide +kernel))) rfl
theorem q594 : Cond.methodLink RJ1 95 yJ1_indexOfChar_4cfef ∈ wsL_law := w_in (in_t3 (List.mem_of_getElem? (i := 192) (by decide +kernel))) rfl
theorem q595 : Cond.static yJ1_indexOfChar_4cfef ∈ wsL_law := w_in (in_t3 (List.mem_of_getElem? (i := 193) (by decide +kernel))) rfl
theorem q596 : Cond.code yJ1_indexOfChar_4cfef cJ1_indexOfChar_4cfef 6 (some FieldType.int) ∈ wsL_law := w_in (in_t3 (List.mem_of_getElem? (i := 194) (by decide +kernel))) rfl
theorem q597 : Cond.methodLink RJ0 640 yJ2_indexOf_4cfef ∈ wsL_law := w_in (in_t3 (List.mem_of_getElem? (i := 195) (by decide +kernel))) rfl
theorem q598 : Cond.static yJ2_indexOf_4cfef ∈ wsL_law := w_in (in_t3 (List.mem_of_getElem? (i := 196) (by decide +kernel))) rfl
theorem q599 : Cond.code yJ2_indexOf_4cfef cJ2_indexOf_4cfef 4 (some FieldType.int) ∈ wsL_law := w_in (in_t3 (List.mem_of_getElem? (i := 197) (by decide +kernel))) rfl
theorem q600 : Cond.methodLink RJ2 224 yJ9_max_7cf53 ∈ wsL_law := w_in (in_t3 (List.mem_of_getElem? (i := 198) (by decide +kernel))) rfl
theorem q601 : Cond.methodLink RJ2 183 yJ9_min_7cf53 ∈ wsL_law := w_in (in_t3 (List.mem_of_getElem? (i := 199) (by decide +kernel))) rfl
theorem q602 : Cond.constant RJ2 227 65536 ∈ wsL_law := w_in (in_t3 (List.mem_of_getElem? (i := 200) (by decide +kernel))) rfl
theorem q603 : Cond.methodLink RJ2 228 yJ2_indexOfChar_4cfef ∈ wsL_law := w_in (in_t3 (List.mem_of_getElem? (i := 201) (by decide +kernel))) rfl
theorem q604 : Cond.static yJ2_indexOfChar_4cfef ∈ wsL_law := w_in (in_t3 (List.mem_of_getElem? (i := 202) (by decide +kernel))) rfl
theorem q605 : Cond.code yJ2_indexOfChar_4cfef cJ2_indexOfChar_4cfef 4 (some FieldType.int) ∈ wsL_law := w_in (in_t3 (List.mem_of_getElem? (i := 203) (by decide +kernel))) rfl
theorem q606 : Cond.methodLink RJ2 96 yJ2_checkBoundsBeginEnd_d044e ∈ wsL_law := w_in (in_t3 (List.mem_of_getElem? (i := 204) (by decide +kernel))) rfl
theorem q607 : Cond.static yJ2_checkBoundsBeginEnd_d044e ∈ wsL_law := w_in (in_t3 (List.mem_of_getElem? (i := 205) (by decide +kernel))) rfl
theorem q608 : Cond.code yJ2_checkBoundsBeginEnd_d044e cJ2_checkBoundsBeginEnd_d044e 3 (none : Option FieldType) ∈ wsL_law := w_in (in_t3 (List.mem_of_getElem? (i := 206) (by decide +kernel))) rfl
theorem q609 : Cond.methodLink RJ2 48 yJ2_length_9d52b ∈ wsL_law := w_in (in_t3 (List.mem_of_getElem? (i := 207) (by decide +kernel))) rfl
theorem q610 : Cond.static yJ2_length_9d52b ∈ wsL_law := w_in (in_t3 (List.mem_of_getElem? (i := 208) (by decide +kernel))) rfl
theorem q611 : Cond.code yJ2_length_9d52b cJ2_length_9d52b 1 (some FieldType.int) ∈ wsL_law := w_in (in_t3 (List.mem_of_getElem? (i := 209) (by decide +kernel))) rfl
theorem q612 : Cond.methodLink RJ2 241 yJ0_checkBoundsBeginEnd_23922 ∈ wsL_law := w_in (in_t3 (List.mem_of_getElem? (i := 210) (by decide +kernel))) rfl
theorem q613 : Cond.static yJ0_checkBoundsBeginEnd_23922 ∈ wsL_law := w_in (in_t3 (List.mem_of_getElem? (i := 211) (by decide +kernel))) rfl
theorem q614 : Cond.code yJ0_checkBoundsBeginEnd_23922 cJ0_checkBoundsBeginEnd_23922 3 (none : Option FieldType) ∈ wsL_law := w_in (in_t3 (List.mem_of_getElem? (i := 212) (by decide +kernel))) rfl
theorem q615 : Cond.fieldLink RJ0 1053 RJ3 "SIOOBE_FORMATTER" "Ljava/util/function/BiFunction;" ∈ wsL_law := w_in (in_t3 (List.mem_of_getElem? (i := 213) (by decide +kernel))) rfl
theorem q616 : Cond.methodLink RJ0 1062 yJ3_checkFromToIndex_8c36e ∈ wsL_law := w_in (in_t3 (List.mem_of_getElem? (i := 215) (by decide +kernel))) rfl
theorem q617 : Cond.static yJ3_checkFromToIndex_8c36e ∈ wsL_law := w_in (in_t3 (List.mem_of_getElem? (i := 216) (by decide +kernel))) rfl
theorem q618 : Cond.code yJ3_checkFromToIndex_8c36e cJ3_checkFromToIndex_8c36e 4 (some FieldType.int) ∈ wsL_law := w_in (in_t3 (List.mem_of_getElem? (i := 217) (by decide +kernel))) rfl
theorem q619 : Cond.methodLink RJ2 244 yJ2_indexOfCharUnsafe_4cfef ∈ wsL_law := w_in (in_t3 (List.mem_of_getElem? (i := 218) (by decide +kernel))) rfl
theorem q620 : Cond.static yJ2_indexOfCharUnsafe_4cfef ∈ wsL_law := w_in (in_t3 (List.mem_of_getElem? (i := 219) (by decide +kernel))) rfl
theorem q621 : Cond.code yJ2_indexOfCharUnsafe_4cfef cJ2_indexOfCharUnsafe_4cfef 5 (some FieldType.int) ∈ wsL_law := w_in (in_t3 (List.mem_of_getElem? (i := 220) (by decide +kernel))) rfl
theorem q622 : Cond.methodLink RJ2 71 yJ2_getChar_3b067 ∈ wsL_law := w_in (in_t3 (List.mem_of_getElem? (i := 221) (by decide +kernel))) rfl
theorem q623 : Cond.static yJ2_getChar_3b067 ∈ wsL_law := w_in (in_t3 (List.mem_of_getElem? (i := 222) (by decide +kernel))) rfl
theorem q624 : Cond.code yJ2_getChar_3b067 cJ2_getChar_3b067 2 (some FieldType.char) ∈ wsL_law := w_in (in_t3 (List.mem_of_getElem? (i := 223) (by decide +kernel))) rfl
theorem q625 : Cond.fieldLink RJ2 44 RJ2 "$assertionsDisabled" "Z" ∈ wsL_law := w_in (in_t3 (List.mem_of_getElem? (i := 224) (by decide +kernel))) rfl
theorem q626 : Cond.fieldLink RJ2 59 RJ2 "HI_BYTE_SHIFT" "I" ∈ wsL_law := w_in (in_t3 (List.mem_of_getElem? (i := 226) (by decide +kernel))) rfl
theorem q627 : Cond.fieldLink RJ2 63 RJ2 "LO_BYTE_SHIFT" "I" ∈ wsL_law := w_in (in_t3 (List.mem_of_getElem? (i := 228) (by decide +kernel))) rfl
theorem q628 : Cond.methodLink RJ2 232 yJ2_indexOfSupplementary_4cfef ∈ wsL_law := w_in (in_t3 (List.mem_of_getElem? (i := 230) (by decide +kernel))) rfl
theorem q629 : Cond.static yJ2_indexOfSupplementary_4cfef ∈ wsL_law := w_in (in_t3 (List.mem_of_getElem? (i := 231) (by decide +kernel))) rfl
theorem q630 : Cond.code yJ2_indexOfSupplementary_4cfef cJ2_indexOfSupplementary_4cfef 7 (some FieldType.int) ∈ wsL_law := w_in (in_t3 (List.mem_of_getElem? (i := 232) (by decide +kernel))) rfl
theorem q631 : Cond.methodLink RJ2 164 yJ11_isValidCodePoint_9a6ad ∈ wsL_law := w_in (in_t3 (List.mem_of_getElem? (i := 233) (by decide +kernel))) rfl
theorem q632 : Cond.static yJ11_isValidCodePoint_9a6ad ∈ wsL_law := w_in (in_t3 (List.mem_of_getElem? (i := 234) (by decide +kernel))) rfl
theorem q633 : Cond.code yJ11_isValidCodePoint_9a6ad cJ11_isValidCodePoint_9a6ad 2 (some FieldType.boolean) ∈ wsL_law := w_in (in_t3 (List.mem_of_getElem? (i := 235) (by decide +kernel))) rfl
theorem q634 : Cond.methodLink RJ2 157 yJ11_highSurrogate_5068e ∈ wsL_law := w_in (in_t3 (List.mem_of_getElem? (i := 236) (by decide +kernel))) rfl
theorem q635 : Cond.static yJ11_highSurrogate_5068e ∈ wsL_law := w_in (in_t3 (List.mem_of_getElem? (i := 237) (by decide +kernel))) rfl
theorem q636 : Cond.code yJ11_highSurrogate_5068e cJ11_highSurrogate_5068e 1 (some FieldType.char) ∈ wsL_law := w_in (in_t3 (List.mem_of_getElem? (i := 238) (by decide +kernel))) rfl
theorem q637 : Cond.constant RJ11 110 55232 ∈ wsL_law := w_in (in_t3 (List.mem_of_getElem? (i := 239) (by decide +kernel))) rfl
theorem q638 : Cond.methodLink RJ2 161 yJ11_lowSurrogate_5068e ∈ wsL_law := w_in (in_t4 (List.mem_of_getElem? (i := 0) (by decide +kernel))) rfl
theorem q639 : Cond.static yJ11_lowSurrogate_5068e ∈ wsL_law := w_in (in_t4 (List.mem_of_getElem? (i := 1) (by decide +kernel))) rfl
theorem q640 : Cond.code yJ11_lowSurrogate_5068e cJ11_lowSurrogate_5068e 1 (some FieldType.char) ∈ wsL_law := w_in (in_t4 (List.mem_of_getElem? (i := 2) (by decide +kernel))) rfl
theorem q641 : Cond.constant RJ11 76 56320 ∈ wsL_law := w_in (in_t4 (List.mem_of_getElem? (i := 3) (by decide +kernel))) rfl
theorem q642 : Cond.arrayClass FieldType.byte ∈ wsL_law := w_in (in_t4 (List.mem_of_getElem? (i := 4) (by decide +kernel))) rfl
theorem q643 : Cond.methodLink RL 125 yX6_order ∈ wsL_law := w_in (in_t4 (List.mem_of_getElem? (i := 5) (by decide +kernel))) rfl
theorem q644 : Cond.instanceMethod yX6_order ∈ wsL_law := w_in (in_t4 (List.mem_of_getElem? (i := 6) (by decide +kernel))) rfl
theorem q645 : Cond.selects RX6 yX6_order yX6_order ∈ wsL_law := w_in (in_t4 (List.mem_of_getElem? (i := 7) (by decide +kernel))) rfl
theorem q646 : Cond.code yX6_order cX6_order 2 (some FieldType.int) ∈ wsL_law := w_in (in_t4 (List.mem_of_getElem? (i := 8) (by decide +kernel))) rfl
theorem q647 : Cond.methodLink RX6 235 yX6_faultOfOrder ∈ wsL_law := w_in (in_t4 (List.mem_of_getElem? (i := 9) (by decide +kernel))) rfl
theorem q648 : Cond.instanceMethod yX6_faultOfOrder ∈ wsL_law := w_in (in_t4 (List.mem_of_getElem? (i := 11) (by decide +kernel))) rfl
theorem q649 : Cond.code yX6_faultOfOrder cX6_faultOfOrder 4 (some FieldType.int) ∈ wsL_law := w_in (in_t4 (List.mem_of_getElem? (i := 12) (by decide +kernel))) rfl
theorem q650 : Cond.methodLink RX6 238 yX6_readOrder ∈ wsL_law := w_in (in_t4 (List.mem_of_getElem? (i := 14) (by decide +kernel))) rfl
theorem q651 : Cond.instanceMethod yX6_readOrder ∈ wsL_law := w_in (in_t4 (List.mem_of_getElem? (i := 16) (by decide +kernel))) rfl
theorem q652 : Cond.code yX6_readOrder cX6_readOrder 2 (none : Option FieldType) ∈ wsL_law := w_in (in_t4 (List.mem_of_getElem? (i := 17) (by decide +kernel))) rfl
theorem q653 : Cond.methodLink RL 129 yX6_ordered ∈ wsL_law := w_in (in_t4 (List.mem_of_getElem? (i := 18) (by decide +kernel))) rfl
theorem q654 : Cond.instanceMethod yX6_ordered ∈ wsL_law := w_in (in_t4 (List.mem_of_getElem? (i := 19) (by decide +kernel))) rfl
theorem q655 : Cond.selects RX6 yX6_ordered yX6_ordered ∈ wsL_law := w_in (in_t4 (List.mem_of_getElem? (i := 20) (by decide +kernel))) rfl
theorem q656 : Cond.code yX6_ordered cX6_ordered 2 (some FieldType.int) ∈ wsL_law := w_in (in_t4 (List.mem_of_getElem? (i := 21) (by decide +kernel))) rfl
theorem q657 : Cond.methodLink RL 133 yX6_line ∈ wsL_law := w_in (in_t4 (List.mem_of_getElem? (i := 22) (by decide +kernel))) rfl
theorem q658 : Cond.instanceMethod yX6_line ∈ wsL_law := w_in (in_t4 (List.mem_of_getElem? (i := 23) (by decide +kernel))) rfl
theorem q659 : Cond.selects RX6 yX6_line yX6_line ∈ wsL_law := w_in (in_t4 (List.mem_of_getElem? (i := 24) (by decide +kernel))) rfl
theorem q660 : Cond.code yX6_line cX6_line 3 (some FieldType.int) ∈ wsL_law := w_in (in_t4 (List.mem_of_getElem? (i := 25) (by decide +kernel))) rfl
theorem q661 : Cond.methodLink RX6 249 yX5_appendNumber ∈ wsL_law := w_in (in_t4 (List.mem_of_getElem? (i := 26) (by decide +kernel))) rfl
theorem q662 : Cond.instanceMethod yX5_appendNumber ∈ wsL_law := w_in (in_t4 (List.mem_of_getElem? (i := 27) (by decide +kernel))) rfl
theorem q663 : Cond.selects RX5 yX5_appendNumber yX5_appendNumber ∈ wsL_law := w_in (in_t4 (List.mem_of_getElem? (i := 28) (by decide +kernel))) rfl
theorem q664 : Cond.code yX5_appendNumber cX5_appendNumber 2 (none : Option FieldType) ∈ wsL_law := w_in (in_t4 (List.mem_of_getElem? (i := 29) (by decide +kernel))) rfl
theorem q665 : Cond.methodLink RX5 30 yX5_append ∈ wsL_law := w_in (in_t4 (List.mem_of_getElem? (i := 30) (by decide +kernel))) rfl
theorem q666 : Cond.methodLink RX6 252 yX6_writeHalved ∈ wsL_law := w_in (in_t4 (List.mem_of_getElem? (i := 31) (by decide +kernel))) rfl
theorem q667 : Cond.instanceMethod yX6_writeHalved ∈ wsL_law := w_in (in_t4 (List.mem_of_getElem? (i := 33) (by decide +kernel))) rfl
theorem q668 : Cond.code yX6_writeHalved cX6_writeHalved 2 (none : Option FieldType) ∈ wsL_law := w_in (in_t4 (List.mem_of_getElem? (i := 34) (by decide +kernel))) rfl
theorem q669 : Cond.methodLink RX6 255 yX6_writeRound ∈ wsL_law := w_in (in_t4 (List.mem_of_getElem? (i := 35) (by decide +kernel))) rfl
theorem q670 : Cond.instanceMethod yX6_writeRound ∈ wsL_law := w_in (in_t4 (List.mem_of_getElem? (i := 37) (by decide +kernel))) rfl
theorem q671 : Cond.code yX6_writeRound cX6_writeRound 4 (none : Option FieldType) ∈ wsL_law := w_in (in_t4 (List.mem_of_getElem? (i := 38) (by decide +kernel))) rfl
theorem q672 : Cond.methodLink RX6 258 yX6_markFor ∈ wsL_law := w_in (in_t4 (List.mem_of_getElem? (i := 39) (by decide +kernel))) rfl
theorem q673 : Cond.static yX6_markFor ∈ wsL_law := w_in (in_t4 (List.mem_of_getElem? (i := 40) (by decide +kernel))) rfl
theorem q674 : Cond.code yX6_markFor cX6_markFor 1 (some FieldType.char) ∈ wsL_law := w_in (in_t4 (List.mem_of_getElem? (i := 41) (by decide +kernel))) rfl
theorem q675 : Cond.methodLink RL 137 yX6_paper ∈ wsL_law := w_in (in_t4 (List.mem_of_getElem? (i := 42) (by decide +kernel))) rfl
theorem q676 : Cond.instanceMethod yX6_paper ∈ wsL_law := w_in (in_t4 (List.mem_of_getElem? (i := 43) (by decide +kernel))) rfl
theorem q677 : Cond.selects RX6 yX6_paper yX6_paper ∈ wsL_law := w_in (in_t4 (List.mem_of_getElem? (i := 44) (by decide +kernel))) rfl
theorem q678 : Cond.code yX6_paper cX6_paper 2 (some FieldType.int) ∈ wsL_law := w_in (in_t4 (List.mem_of_getElem? (i := 45) (by decide +kernel))) rfl
theorem q679 : Cond.methodLink RL 141 yX6_told ∈ wsL_law := w_in (in_t4 (List.mem_of_getElem? (i := 46) (by decide +kernel))) rfl
theorem q680 : Cond.instanceMethod yX6_told ∈ wsL_law := w_in (in_t4 (List.mem_of_getElem? (i := 47) (by decide +kernel))) rfl
theorem q681 : Cond.selects RX6 yX6_told yX6_told ∈ wsL_law := w_in (in_t4 (List.mem_of_getElem? (i := 48) (by decide +kernel))) rfl
theorem q682 : Cond.code yX6_told cX6_told 2 (some FieldType.int) ∈ wsL_law := w_in (in_t4 (List.mem_of_getElem? (i := 49) (by decide +kernel))) rfl
theorem q683 : Cond.methodLink RX6 262 yX4_countMeetings ∈ wsL_law := w_in (in_t4 (List.mem_of_getElem? (i := 50) (by decide +kernel))) rfl
theorem q684 : Cond.instanceMethod yX4_countMeetings ∈ wsL_law := w_in (in_t4 (List.mem_of_getElem? (i := 51) (by decide +kernel))) rfl
theorem q685 : Cond.selects RX4 yX4_countMeetings yX4_countMeetings ∈ wsL_law := w_in (in_t4 (List.mem_of_getElem? (i := 52) (by decide +kernel))) rfl
theorem q686 : Cond.code yX4_countMeetings cX4_countMeetings 3 (some FieldType.int) ∈ wsL_law := w_in (in_t4 (List.mem_of_getElem? (i := 53) (by decide +kernel))) rfl
theorem q687 : Cond.methodLink RX4 164 yX4_countMet ∈ wsL_law := w_in (in_t4 (List.mem_of_getElem? (i := 54) (by decide +kernel))) rfl
theorem q688 : Cond.methodLink RX6 265 yX4_sumPoints ∈ wsL_law := w_in (in_t4 (List.mem_of_getElem? (i := 55) (by decide +kernel))) rfl
theorem q689 : Cond.instanceMethod yX4_sumPoints ∈ wsL_law := w_in (in_t4 (List.mem_of_getElem? (i := 56) (by decide +kernel))) rfl
theorem q690 : Cond.selects RX4 yX4_sumPoints yX4_sumPoints ∈ wsL_law := w_in (in_t4 (List.mem_of_getElem? (i := 57) (by decide +kernel))) rfl
theorem q691 : Cond.code yX4_sumPoints cX4_sumPoints 3 (some FieldType.int) ∈ wsL_law := w_in (in_t4 (List.mem_of_getElem? (i := 58) (by decide +kernel))) rfl
theorem q692 : Cond.methodLink RL 145 yX6_list ∈ wsL_law := w_in (in_t4 (List.mem_of_getElem? (i := 59) (by decide +kernel))) rfl
theorem q693 : Cond.instanceMethod yX6_list ∈ wsL_law := w_in (in_t4 (List.mem_of_getElem? (i := 60) (by decide +kernel))) rfl
theorem q694 : Cond.selects RX6 yX6_list yX6_list ∈ wsL_law := w_in (in_t4 (List.mem_of_getElem? (i := 61) (by decide +kernel))) rfl
theorem q695 : Cond.code yX6_list cX6_list 3 (some FieldType.int) ∈ wsL_law := w_in (in_t4 (List.mem_of_getElem? (i := 62) (by decide +kernel))) rfl
theorem q696 : Cond.methodLink RX6 268 yX3_isList ∈ wsL_law := w_in (in_t4 (List.mem_of_getElem? (i := 63) (by decide +kernel))) rfl
theorem q697 : Cond.static yX3_isList ∈ wsL_law := w_in (in_t4 (List.mem_of_getElem? (i := 64) (by decide +kernel))) rfl
theorem q698 : Cond.code yX3_isList cX3_isList 1 (some FieldType.boolean) ∈ wsL_law := w_in (in_t4 (List.mem_of_getElem? (i := 65) (by decide +kernel))) rfl
theorem q699 : Cond.methodLink RX6 271 yX3_hold ∈ wsL_law := w_in (in_t4 (List.mem_of_getElem? (i := 66) (by decide +kernel))) rfl
theorem q700 : Cond.instanceMethod yX3_hold ∈ wsL_law := w_in (in_t4 (List.mem_of_getElem? (i := 67) (by decide +kernel))) rfl
theorem q701 : Cond.selects RX3 yX3_hold yX3_hold ∈ wsL_law := w_in (in_t4 (List.mem_of_getElem? (i := 68) (by decide +kernel))) rfl
theorem q702 : Cond.code yX3_hold cX3_hold 4 (none : Option FieldType) ∈ wsL_law := w_in (in_t4 (List.mem_of_getElem? (i := 69) (by decide +kernel))) rfl
theorem q703 : Cond.methodLink RX3 30 yX2_put ∈ wsL_law := w_in (in_t4 (List.mem_of_getElem? (i := 70) (by decide +kernel))) rfl
theorem q704 : Cond.methodLink RX3 34 yX3_putAt ∈ wsL_law := w_in (in_t4 (List.mem_of_getElem? (i := 71) (by decide +kernel))) rfl
theorem q705 : Cond.instanceMethod yX3_putAt ∈ wsL_law := w_in (in_t4 (List.mem_of_getElem? (i := 72) (by decide +kernel))) rfl
theorem q706 : Cond.selects RX3 yX3_putAt yX3_putAt ∈ wsL_law := w_in (in_t4 (List.mem_of_getElem? (i := 73) (by decide +kernel))) rfl
theorem q707 : Cond.code yX3_putAt cX3_putAt 4 (none : Option FieldType) ∈ wsL_law := w_in (in_t4 (List.mem_of_getElem? (i := 74) (by decide +kernel))) rfl
theorem q708 : Cond.methodLink RL 149 yX6_set ∈ wsL_law := w_in (in_t4 (List.mem_of_getElem? (i := 75) (by decide +kernel))) rfl
theorem q709 : Cond.instanceMethod yX6_set ∈ wsL_law := w_in (in_t4 (List.mem_of_getElem? (i := 76) (by decide +kernel))) rfl
theorem q710 : Cond.selects RX6 yX6_set yX6_set ∈ wsL_law := w_in (in_t4 (List.mem_of_getElem? (i := 77) (by decide +kernel))) rfl
theorem q711 : Cond.code yX6_set cX6_set 5 (some FieldType.int) ∈ wsL_law := w_in (in_t4 (List.mem_of_getElem? (i := 78) (by decide +kernel))) rfl
theorem q712 : Cond.methodLink RX6 274 yX6_refusalOfList ∈ wsL_law := w_in (in_t4 (List.mem_of_getElem? (i := 79) (by decide +kernel))) rfl
theorem q713 : Cond.instanceMethod yX6_refusalOfList ∈ wsL_law := w_in (in_t4 (List.mem_of_getElem? (i := 81) (by decide +kernel))) rfl
theorem q714 : Cond.code yX6_refusalOfList cX6_refusalOfList 2 (some FieldType.int) ∈ wsL_law := w_in (in_t4 (List.mem_of_getElem? (i := 82) (by decide +kernel))) rfl
theorem q715 : Cond.methodLink RX6 288 yX3_isHeld ∈ wsL_law := w_in (in_t4 (List.mem_of_getElem? (i := 83) (by decide +kernel))) rfl
theorem q716 : Cond.instanceMethod yX3_isHeld ∈ wsL_law := w_in (in_t4 (List.mem_of_getElem? (i := 84) (by decide +kernel))) rfl
theorem q717 : Cond.selects RX3 yX3_isHeld yX3_isHeld ∈ wsL_law := w_in (in_t4 (List.mem_of_getElem? (i := 85) (by decide +kernel))) rfl
theorem q718 : Cond.code yX3_isHeld cX3_isHeld 2 (some FieldType.boolean) ∈ wsL_law := w_in (in_t4 (List.mem_of_getElem? (i := 86) (by decide +kernel))) rfl
theorem q719 : Cond.methodLink RX3 26 yX2_at ∈ wsL_law := w_in (in_t4 (List.mem_of_getElem? (i := 87) (by decide +kernel))) rfl
theorem q720 : Cond.methodLink RX6 277 yX3_hasPlace ∈ wsL_law := w_in (in_t4 (List.mem_of_getElem? (i := 88) (by decide +kernel))) rfl
theorem q721 : Cond.instanceMethod yX3_hasPlace ∈ wsL_law := w_in (in_t4 (List.mem_of_getElem? (i := 89) (by decide +kernel))) rfl
theorem q722 : Cond.selects RX3 yX3_hasPlace yX3_hasPlace ∈ wsL_law := w_in (in_t4 (List.mem_of_getElem? (i := 90) (by decide +kernel))) rfl
theorem q723 : Cond.code yX3_hasPlace cX3_hasPlace 3 (some FieldType.boolean) ∈ wsL_law := w_in (in_t4 (List.mem_of_getElem? (i := 91) (by decide +kernel))) rfl
theorem q724 : Cond.methodLink RX6 280 yX3_putAt ∈ wsL_law := w_in (in_t4 (List.mem_of_getElem? (i := 92) (by decide +kernel))) rfl
theorem q725 : Cond.methodLink RL 153 yX6_get ∈ wsL_law := w_in (in_t4 (List.mem_of_getElem? (i := 93) (by decide +kernel))) rfl
theorem q726 : Cond.instanceMethod yX6_get ∈ wsL_law := w_in (in_t4 (List.mem_of_getElem? (i := 94) (by decide +kernel))) rfl
theorem q727 : Cond.selects RX6 yX6_get yX6_get ∈ wsL_law := w_in (in_t4 (List.mem_of_getElem? (i := 95) (by decide +kernel))) rfl
theorem q728 : Cond.code yX6_get cX6_get 3 (some FieldType.int) ∈ wsL_law := w_in (in_t4 (List.mem_of_getElem? (i := 96) (by decide +kernel))) rfl
theorem q729 : Cond.constant RX6 284 (-2000000000) ∈ wsL_law := w_in (in_t4 (List.mem_of_getElem? (i := 97) (by decide +kernel))) rfl
theorem q730 : Cond.methodLink RX6 285 yX3_valueAt ∈ wsL_law := w_in (in_t4 (List.mem_of_getElem? (i := 98) (by decide +kernel))) rfl
theorem q731 : Cond.instanceMethod yX3_valueAt ∈ wsL_law := w_in (in_t4 (List.mem_of_getElem? (i := 99) (by decide +kernel))) rfl
theorem q732 : Cond.selects RX3 yX3_valueAt yX3_valueAt ∈ wsL_law := w_in (in_t4 (List.mem_of_getElem? (i := 100) (by decide +kernel))) rfl
theorem q733 : Cond.code yX3_valueAt cX3_valueAt 3 (some FieldType.int) ∈ wsL_law := w_in (in_t4 (List.mem_of_getElem? (i := 101) (by decide +kernel))) rfl
theorem q734 : Cond.methodLink RL 157 yX6_lay ∈ wsL_law := w_in (in_t4 (List.mem_of_getElem? (i := 102) (by decide +kernel))) rfl
theorem q735 : Cond.instanceMethod yX6_lay ∈ wsL_law := w_in (in_t4 (List.mem_of_getElem? (i := 103) (by decide +kernel))) rfl
theorem q736 : Cond.selects RX6 yX6_lay yX6_lay ∈ wsL_law := w_in (in_t4 (List.mem_of_getElem? (i := 104) (by decide +kernel))) rfl
theorem q737 : Cond.code yX6_lay cX6_lay 5 (some FieldType.int) ∈ wsL_law := w_in (in_t4 (List.mem_of_getElem? (i := 105) (by decide +kernel))) rfl
theorem q738 : Cond.methodLink RL 161 yX6_judge ∈ wsL_law := w_in (in_t4 (List.mem_of_getElem? (i := 106) (by decide +kernel))) rfl
theorem q739 : Cond.instanceMethod yX6_judge ∈ wsL_law := w_in (in_t4 (List.mem_of_getElem? (i := 107) (by decide +kernel))) rfl
theorem q740 : Cond.selects RX6 yX6_judge yX6_judge ∈ wsL_law := w_in (in_t4 (List.mem_of_getElem? (i := 108) (by decide +kernel))) rfl
theorem q741 : Cond.code yX6_judge cX6_judge 5 (some FieldType.int) ∈ wsL_law := w_in (in_t4 (List.mem_of_getElem? (i := 109) (by decide +kernel))) rfl
theorem q742 : Cond.methodLink RL 165 yX6_image ∈ wsL_law := w_in (in_t4 (List.mem_of_getElem? (i := 110) (by decide +kernel))) rfl
theorem q743 : Cond.instanceMethod yX6_image ∈ wsL_law := w_in (in_t4 (List.mem_of_getElem? (i := 111) (by decide +kernel))) rfl
theorem q744 : Cond.selects RX6 yX6_image yX6_image ∈ wsL_law := w_in (in_t4 (List.mem_of_getElem? (i := 112) (by decide +kernel))) rfl
theorem q745 : Cond.code yX6_image cX6_image 1 (some FieldType.int) ∈ wsL_law := w_in (in_t4 (List.mem_of_getElem? (i := 113) (by decide +kernel))) rfl
theorem q746 : Cond.methodLink RX6 291 yX0_copy ∈ wsL_law := w_in (in_t4 (List.mem_of_getElem? (i := 114) (by decide +kernel))) rfl
theorem q747 : Cond.instanceMethod yX0_copy ∈ wsL_law := w_in (in_t4 (List.mem_of_getElem? (i := 115) (by decide +kernel))) rfl
theorem q748 : Cond.selects RX0 yX0_copy yX0_copy ∈ wsL_law := w_in (in_t4 (List.mem_of_getElem? (i := 116) (by decide +kernel))) rfl
theorem q749 : Cond.code yX0_copy cX0_copy 2 (none : Option FieldType) ∈ wsL_law := w_in (in_t4 (List.mem_of_getElem? (i := 117) (by decide +kernel))) rfl
theorem q750 : Cond.methodLink RX0 52 yX2_copy ∈ wsL_law := w_in (in_t4 (List.mem_of_getElem? (i := 118) (by decide +kernel))) rfl
theorem q751 : Cond.instanceMethod yX2_copy ∈ wsL_law := w_in (in_t4 (List.mem_of_getElem? (i := 119) (by decide +kernel))) rfl
theorem q752 : Cond.selects RX2 yX2_copy yX2_copy ∈ wsL_law := w_in (in_t4 (List.mem_of_getElem? (i := 120) (by decide +kernel))) rfl
theorem q753 : Cond.code yX2_copy cX2_copy 3 (none : Option FieldType) ∈ wsL_law := w_in (in_t4 (List.mem_of_getElem? (i := 121) (by decide +kernel))) rfl
theorem q754 : Cond.methodLink RX2 19 yX2_at ∈ wsL_law := w_in (in_t4 (List.mem_of_getElem? (i := 122) (by decide +kernel))) rfl
theorem q755 : Cond.methodLink RL 169 yX6_undo ∈ wsL_law := w_in (in_t4 (List.mem_of_getElem? (i := 123) (by decide +kernel))) rfl
theorem q756 : Cond.instanceMethod yX6_undo ∈ wsL_law := w_in (in_t4 (List.mem_of_getElem? (i := 124) (by decide +kernel))) rfl
theorem q757 : Cond.selects RX6 yX6_undo yX6_undo ∈ wsL_law := w_in (in_t4 (List.mem_of_getElem? (i := 125) (by decide +kernel))) rfl
theorem q758 : Cond.code yX6_undo cX6_undo 1 (some FieldType.int) ∈ wsL_law := w_in (in_t4 (List.mem_of_getElem? (i := 126) (by decide +kernel))) rfl
theorem q759 : Cond.classLink RL 10 RX7 ∈ wsL_law := w_in (in_t4 (List.mem_of_getElem? (i := 127) (by decide +kernel))) rfl
theorem q760 : Cond.instantiable RX7 33 ∈ wsL_law := w_in (in_t4 (List.mem_of_getElem? (i := 128) (by decide +kernel))) rfl
theorem q761 : Cond.methodLink RL 12 yX7_init ∈ wsL_law := w_in (in_t4 (List.mem_of_getElem? (i := 129) (by decide +kernel))) rfl
theorem q762 : Cond.instanceMethod yX7_init ∈ wsL_law := w_in (in_t4 (List.mem_of_getElem? (i := 130) (by decide +kernel))) rfl
theorem q763 : Cond.code yX7_init cX7_init 1 (none : Option FieldType) ∈ wsL_law := w_in (in_t4 (List.mem_of_getElem? (i := 131) (by decide +kernel))) rfl
theorem q764 : Cond.methodLink RX7 1 objectInit ∈ wsL_law := w_in (in_t4 (List.mem_of_getElem? (i := 132) (by decide +kernel))) rfl
theorem q765 : Cond.fieldLink RX7 78 RX7 "players" "I" ∈ wsL_law := w_in (in_t4 (List.mem_of_getElem? (i := 133) (by decide +kernel))) rfl
theorem q766 : Cond.fieldLink RX7 7 RX7 "ratings" "[I" ∈ wsL_law := w_in (in_t4 (List.mem_of_getElem? (i := 134) (by decide +kernel))) rfl
theorem q767 : Cond.fieldLink RX7 13 RX7 "isIn" "[I" ∈ wsL_law := w_in (in_t4 (List.mem_of_getElem? (i := 135) (by decide +kernel))) rfl
theorem q768 : Cond.fieldLink RX7 89 RX7 "rounds" "I" ∈ wsL_law := w_in (in_t4 (List.mem_of_getElem? (i := 136) (by decide +kernel))) rfl
theorem q769 : Cond.fieldLink RX7 92 RX7 "isOpen" "I" ∈ wsL_law := w_in (in_t4 (List.mem_of_getElem? (i := 137) (by decide +kernel))) rfl
theorem q770 : Cond.fieldLink RX7 16 RX7 "boardMany" "[I" ∈ wsL_law := w_in (in_t4 (List.mem_of_getElem? (i := 138) (by decide +kernel))) rfl
theorem q771 : Cond.fieldLink RX7 19 RX7 "byes" "[I" ∈ wsL_law := w_in (in_t4 (List.mem_of_getElem? (i := 139) (by decide +kernel))) rfl
theorem q772 : Cond.fieldLink RX7 22 RX7 "whites" "[I" ∈ wsL_law := w_in (in_t4 (List.mem_of_getElem? (i := 140) (by decide +kernel))) rfl
theorem q773 : Cond.fieldLink RX7 25 RX7 "blacks" "[I" ∈ wsL_law := w_in (in_t4 (List.mem_of_getElem? (i := 141) (by decide +kernel))) rfl
theorem q774 : Cond.fieldLink RX7 28 RX7 "results0" "[I" ∈ wsL_law := w_in (in_t4 (List.mem_of_getElem? (i := 142) (by decide +kernel))) rfl
theorem q775 : Cond.fieldLink RX7 31 RX7 "tieMany" "I" ∈ wsL_law := w_in (in_t4 (List.mem_of_getElem? (i := 143) (by decide +kernel))) rfl
theorem q776 : Cond.fieldLink RX7 35 RX7 "ties" "[I" ∈ wsL_law := w_in (in_t4 (List.mem_of_getElem? (i := 144) (by decide +kernel))) rfl
theorem q777 : Cond.fieldLink RX7 75 RX7 "thrown" "I" ∈ wsL_law := w_in (in_t4 (List.mem_of_getElem? (i := 145) (by decide +kernel))) rfl
theorem q778 : Cond.fieldLink RX7 38 RX7 "tiesOf" "[I" ∈ wsL_law := w_in (in_t4 (List.mem_of_getElem? (i := 146) (by decide +kernel))) rfl
theorem q779 : Cond.fieldLink RX7 41 RX7 "standing" "[I" ∈ wsL_law := w_in (in_t4 (List.mem_of_getElem? (i := 147) (by decide +kernel))) rfl
theorem q780 : Cond.fieldLink RX7 184 RX7 "paired" "I" ∈ wsL_law := w_in (in_t4 (List.mem_of_getElem? (i := 148) (by decide +kernel))) rfl
theorem q781 : Cond.fieldLink RX7 44 RX7 "atPlace" "[I" ∈ wsL_law := w_in (in_t4 (List.mem_of_getElem? (i := 149) (by decide +kernel))) rfl
theorem q782 : Cond.fieldLink RX7 166 RX7 "byeNow" "I" ∈ wsL_law := w_in (in_t4 (List.mem_of_getElem? (i := 150) (by decide +kernel))) rfl
theorem q783 : Cond.fieldLink RX7 47 RX7 "costs" "[I" ∈ wsL_law := w_in (in_t4 (List.mem_of_getElem? (i := 151) (by decide +kernel))) rfl
theorem q784 : Cond.fieldLink RX7 50 RX7 "bests" "[I" ∈ wsL_law := w_in (in_t4 (List.mem_of_getElem? (i := 152) (by decide +kernel))) rfl
theorem q785 : Cond.fieldLink RX7 53 RX7 "manyWays" "[I" ∈ wsL_law := w_in (in_t4 (List.mem_of_getElem? (i := 153) (by decide +kernel))) rfl
theorem q786 : Cond.fieldLink RX7 56 RX7 "tape" "[I" ∈ wsL_law := w_in (in_t4 (List.mem_of_getElem? (i := 154) (by decide +kernel))) rfl
theorem q787 : Cond.fieldLink RX7 235 RX7 "size" "I" ∈ wsL_law := w_in (in_t4 (List.mem_of_getElem? (i := 155) (by decide +kernel))) rfl
theorem q788 : Cond.fieldLink RX7 59 RX7 "paper0" "[I" ∈ wsL_law := w_in (in_t4 (List.mem_of_getElem? (i := 156) (by decide +kernel))) rfl
theorem q789 : Cond.fieldLink RX7 247 RX7 "paperSize" "I" ∈ wsL_law := w_in (in_t4 (List.mem_of_getElem? (i := 157) (by decide +kernel))) rfl
theorem q790 : Cond.fieldLink RX7 62 RX7 "holdsList" "[Z" ∈ wsL_law := w_in (in_t4 (List.mem_of_getElem? (i := 158) (by decide +kernel))) rfl
theorem q791 : Cond.fieldLink RX7 66 RX7 "listMany" "[I" ∈ wsL_law := w_in (in_t4 (List.mem_of_getElem? (i := 159) (by decide +kernel))) rfl
theorem q792 : Cond.fieldLink RX7 69 RX7 "listed" "[I" ∈ wsL_law := w_in (in_t4 (List.mem_of_getElem? (i := 160) (by decide +kernel))) rfl
theorem q793 : Cond.fieldLink RX7 284 RX7 "hasImage" "Z" ∈ wsL_law := w_in (in_t4 (List.mem_of_getElem? (i := 161) (by decide +kernel))) rfl
theorem q794 : Cond.fieldLink RX7 72 RX7 "imaged" "[I" ∈ wsL_law := w_in (in_t4 (List.mem_of_getElem? (i := 162) (by decide +kernel))) rfl
theorem q795 : Cond.fieldLink RX7 278 RX7 "place0" "I" ∈ wsL_law := w_in (in_t4 (List.mem_of_getElem? (i := 163) (by decide +kernel))) rfl
theorem q796 : Cond.fieldLink RX7 271 RX7 "isTaking" "Z" ∈ wsL_law := w_in (in_t4 (List.mem_of_getElem? (i := 164) (by decide +kernel))) rfl
theorem q797 : Cond.fieldLink RX7 275 RX7 "keptIn" "[I" ∈ wsL_law := w_in (in_t4 (List.mem_of_getElem? (i := 165) (by decide +kernel))) rfl
theorem q831 : Cond.arrayClass FieldType.boolean ∈ wsL_law := w_in (in_t4 (List.mem_of_getElem? (i := 233) (by decide +kernel))) rfl
theorem q832 : Cond.methodLink RL 64 yX7_pair ∈ wsL_law := w_in (in_t4 (List.mem_of_getElem? (i := 234) (by decide +kernel))) rfl
theorem q833 : Cond.instanceMethod yX7_pair ∈ wsL_law := w_in (in_t4 (List.mem_of_getElem? (i := 235) (by decide +kernel))) rfl
theorem q834 : Cond.selects RX7 yX7_pair yX7_pair ∈ wsL_law := w_in (in_t4 (List.mem_of_getElem? (i := 236) (by decide +kernel))) rfl
theorem q835 : Cond.code yX7_pair cX7_pair 5 (some FieldType.int) ∈ wsL_law := w_in (in_t4 (List.mem_of_getElem? (i := 237) (by decide +kernel))) rfl
theorem q836 : Cond.methodLink RX7 203 yX7_wrongPairing ∈ wsL_law := w_in (in_t4 (List.mem_of_getElem? (i := 238) (by decide +kernel))) rfl
theorem q837 : Cond.instanceMethod yX7_wrongPairing ∈ wsL_law := w_in (in_t5 (List.mem_of_getElem? (i := 0) (by decide +kernel))) rfl
theorem q838 : Cond.code yX7_wrongPairing cX7_wrongPairing 1 (some FieldType.int) ∈ wsL_law := w_in (in_t5 (List.mem_of_getElem? (i := 1) (by decide +kernel))) rfl
theorem q839 : Cond.methodLink RX7 175 yX7_manyIn ∈ wsL_law := w_in (in_t5 (List.mem_of_getElem? (i := 2) (by decide +kernel))) rfl
theorem q840 : Cond.instanceMethod yX7_manyIn ∈ wsL_law := w_in (in_t5 (List.mem_of_getElem? (i := 4) (by decide +kernel))) rfl
theorem q841 : Cond.code yX7_manyIn cX7_manyIn 3 (some FieldType.int) ∈ wsL_law := w_in (in_t5 (List.mem_of_getElem? (i := 5) (by decide +kernel))) rfl
theorem q842 : Cond.methodLink RX7 206 yX7_layBests ∈ wsL_law := w_in (in_t5 (List.mem_of_getElem? (i := 6) (by decide +kernel))) rfl
theorem q843 : Cond.instanceMethod yX7_layBests ∈ wsL_law := w_in (in_t5 (List.mem_of_getElem? (i := 8) (by decide +kernel))) rfl
theorem q844 : Cond.code yX7_layBests cX7_layBests 6 (none : Option FieldType) ∈ wsL_law := w_in (in_t5 (List.mem_of_getElem? (i := 9) (by decide +kernel))) rfl
theorem q845 : Cond.methodLink RX7 193 yX7_layPlaces ∈ wsL_law := w_in (in_t5 (List.mem_of_getElem? (i := 10) (by decide +kernel))) rfl
theorem q846 : Cond.instanceMethod yX7_layPlaces ∈ wsL_law := w_in (in_t5 (List.mem_of_getElem? (i := 12) (by decide +kernel))) rfl
theorem q847 : Cond.code yX7_layPlaces cX7_layPlaces 4 (none : Option FieldType) ∈ wsL_law := w_in (in_t5 (List.mem_of_getElem? (i := 13) (by decide +kernel))) rfl
theorem q848 : Cond.methodLink RX7 178 yX7_layStanding ∈ wsL_law := w_in (in_t5 (List.mem_of_getElem? (i := 14) (by decide +kernel))) rfl
theorem q849 : Cond.instanceMethod yX7_layStanding ∈ wsL_law := w_in (in_t5 (List.mem_of_getElem? (i := 16) (by decide +kernel))) rfl
theorem q850 : Cond.code yX7_layStanding cX7_layStanding 3 (none : Option FieldType) ∈ wsL_law := w_in (in_t5 (List.mem_of_getElem? (i := 17) (by decide +kernel))) rfl
theorem q851 : Cond.methodLink RX7 154 yX7_tieOf ∈ wsL_law := w_in (in_t5 (List.mem_of_getElem? (i := 18) (by decide +kernel))) rfl
theorem q852 : Cond.instanceMethod yX7_tieOf ∈ wsL_law := w_in (in_t5 (List.mem_of_getElem? (i := 20) (by decide +kernel))) rfl
theorem q853 : Cond.code yX7_tieOf cX7_tieOf 3 (some FieldType.int) ∈ wsL_law := w_in (in_t5 (List.mem_of_getElem? (i := 21) (by decide +kernel))) rfl
theorem q854 : Cond.methodLink RX7 128 yX7_pointsOf ∈ wsL_law := w_in (in_t5 (List.mem_of_getElem? (i := 22) (by decide +kernel))) rfl
theorem q855 : Cond.instanceMethod yX7_pointsOf ∈ wsL_law := w_in (in_t5 (List.mem_of_getElem? (i := 24) (by decide +kernel))) rfl
theorem q856 : Cond.code yX7_pointsOf cX7_pointsOf 2 (some FieldType.int) ∈ wsL_law := w_in (in_t5 (List.mem_of_getElem? (i := 25) (by decide +kernel))) rfl
theorem q857 : Cond.methodLink RX7 99 yX7_done ∈ wsL_law := w_in (in_t5 (List.mem_of_getElem? (i := 26) (by decide +kernel))) rfl
theorem q858 : Cond.instanceMethod yX7_done ∈ wsL_law := w_in (in_t5 (List.mem_of_getElem? (i := 28) (by decide +kernel))) rfl
theorem q859 : Cond.code yX7_done cX7_done 1 (some FieldType.int) ∈ wsL_law := w_in (in_t5 (List.mem_of_getElem? (i := 29) (by decide +kernel))) rfl
theorem q860 : Cond.methodLink RX7 111 yX7_pointsBehind ∈ wsL_law := w_in (in_t5 (List.mem_of_getElem? (i := 30) (by decide +kernel))) rfl
theorem q861 : Cond.instanceMethod yX7_pointsBehind ∈ wsL_law := w_in (in_t5 (List.mem_of_getElem? (i := 32) (by decide +kernel))) rfl
theorem q862 : Cond.code yX7_pointsBehind cX7_pointsBehind 5 (some FieldType.int) ∈ wsL_law := w_in (in_t5 (List.mem_of_getElem? (i := 33) (by decide +kernel))) rfl
theorem q863 : Cond.methodLink RX7 108 yX7_madeIn ∈ wsL_law := w_in (in_t5 (List.mem_of_getElem? (i := 34) (by decide +kernel))) rfl
theorem q864 : Cond.instanceMethod yX7_madeIn ∈ wsL_law := w_in (in_t5 (List.mem_of_getElem? (i := 36) (by decide +kernel))) rfl
theorem q865 : Cond.code yX7_madeIn cX7_madeIn 4 (some FieldType.int) ∈ wsL_law := w_in (in_t5 (List.mem_of_getElem? (i := 37) (by decide +kernel))) rfl
theorem q866 : Cond.methodLink RX7 95 yX7_boardOf ∈ wsL_law := w_in (in_t5 (List.mem_of_getElem? (i := 38) (by decide +kernel))) rfl
theorem q867 : Cond.instanceMethod yX7_boardOf ∈ wsL_law := w_in (in_t5 (List.mem_of_getElem? (i := 40) (by decide +kernel))) rfl
theorem q868 : Cond.code yX7_boardOf cX7_boardOf 5 (some FieldType.int) ∈ wsL_law := w_in (in_t5 (List.mem_of_getElem? (i := 41) (by decide +kernel))) rfl
theorem q869 : Cond.methodLink RX7 105 yX7_madeOn ∈ wsL_law := w_in (in_t5 (List.mem_of_getElem? (i := 42) (by decide +kernel))) rfl
theorem q870 : Cond.instanceMethod yX7_madeOn ∈ wsL_law := w_in (in_t5 (List.mem_of_getElem? (i := 44) (by decide +kernel))) rfl
theorem q871 : Cond.code yX7_madeOn cX7_madeOn 5 (some FieldType.int) ∈ wsL_law := w_in (in_t5 (List.mem_of_getElem? (i := 45) (by decide +kernel))) rfl
theorem q872 : Cond.methodLink RX7 131 yX7_opponentsOf ∈ wsL_law := w_in (in_t5 (List.mem_of_getElem? (i := 46) (by decide +kernel))) rfl
theorem q873 : Cond.instanceMethod yX7_opponentsOf ∈ wsL_law := w_in (in_t5 (List.mem_of_getElem? (i := 48) (by decide +kernel))) rfl
theorem q874 : Cond.code yX7_opponentsOf cX7_opponentsOf 8 (some FieldType.int) ∈ wsL_law := w_in (in_t5 (List.mem_of_getElem? (i := 49) (by decide +kernel))) rfl
theorem q875 : Cond.constant RX7 127 1000000 ∈ wsL_law := w_in (in_t5 (List.mem_of_getElem? (i := 50) (by decide +kernel))) rfl
theorem q876 : Cond.methodLink RX7 114 yX7_playedIn ∈ wsL_law := w_in (in_t5 (List.mem_of_getElem? (i := 51) (by decide +kernel))) rfl
theorem q877 : Cond.instanceMethod yX7_playedIn ∈ wsL_law := w_in (in_t5 (List.mem_of_getElem? (i := 53) (by decide +kernel))) rfl
theorem q878 : Cond.code yX7_playedIn cX7_playedIn 4 (some FieldType.int) ∈ wsL_law := w_in (in_t5 (List.mem_of_getElem? (i := 54) (by decide +kernel))) rfl
theorem q879 : Cond.constantLong RX7 103 3 ∈ wsL_law := w_in (in_t5 (List.mem_of_getElem? (i := 55) (by decide +kernel))) rfl
theorem q880 : Cond.methodLink RX7 81 yX7_in ∈ wsL_law := w_in (in_t5 (List.mem_of_getElem? (i := 56) (by decide +kernel))) rfl
theorem q881 : Cond.static yX7_in ∈ wsL_law := w_in (in_t5 (List.mem_of_getElem? (i := 57) (by decide +kernel))) rfl
theorem q882 : Cond.code yX7_in cX7_in 6 (some FieldType.boolean) ∈ wsL_law := w_in (in_t5 (List.mem_of_getElem? (i := 58) (by decide +kernel))) rfl
theorem q883 : Cond.methodLink RX7 117 yX7_otherOn ∈ wsL_law := w_in (in_t5 (List.mem_of_getElem? (i := 59) (by decide +kernel))) rfl
theorem q884 : Cond.instanceMethod yX7_otherOn ∈ wsL_law := w_in (in_t5 (List.mem_of_getElem? (i := 61) (by decide +kernel))) rfl
theorem q885 : Cond.code yX7_otherOn cX7_otherOn 3 (some FieldType.int) ∈ wsL_law := w_in (in_t5 (List.mem_of_getElem? (i := 62) (by decide +kernel))) rfl
theorem q886 : Cond.methodLink RX7 135 yX7_beatenOf ∈ wsL_law := w_in (in_t5 (List.mem_of_getElem? (i := 63) (by decide +kernel))) rfl
theorem q887 : Cond.instanceMethod yX7_beatenOf ∈ wsL_law := w_in (in_t5 (List.mem_of_getElem? (i := 65) (by decide +kernel))) rfl
theorem q888 : Cond.code yX7_beatenOf cX7_beatenOf 5 (some FieldType.int) ∈ wsL_law := w_in (in_t5 (List.mem_of_getElem? (i := 66) (by decide +kernel))) rfl
theorem q889 : Cond.methodLink RX7 138 yX7_winsOf ∈ wsL_law := w_in (in_t5 (List.mem_of_getElem? (i := 67) (by decide +kernel))) rfl
theorem q890 : Cond.instanceMethod yX7_winsOf ∈ wsL_law := w_in (in_t5 (List.mem_of_getElem? (i := 69) (by decide +kernel))) rfl
theorem q891 : Cond.code yX7_winsOf cX7_winsOf 5 (some FieldType.int) ∈ wsL_law := w_in (in_t5 (List.mem_of_getElem? (i := 70) (by decide +kernel))) rfl
theorem q892 : Cond.methodLink RX7 124 yX7_blacksOf ∈ wsL_law := w_in (in_t5 (List.mem_of_getElem? (i := 71) (by decide +kernel))) rfl
theorem q893 : Cond.instanceMethod yX7_blacksOf ∈ wsL_law := w_in (in_t5 (List.mem_of_getElem? (i := 73) (by decide +kernel))) rfl
theorem q894 : Cond.code yX7_blacksOf cX7_blacksOf 4 (some FieldType.int) ∈ wsL_law := w_in (in_t5 (List.mem_of_getElem? (i := 74) (by decide +kernel))) rfl
theorem q895 : Cond.methodLink RX7 141 yX7_growthOf ∈ wsL_law := w_in (in_t5 (List.mem_of_getElem? (i := 75) (by decide +kernel))) rfl
theorem q896 : Cond.instanceMethod yX7_growthOf ∈ wsL_law := w_in (in_t5 (List.mem_of_getElem? (i := 77) (by decide +kernel))) rfl
theorem q897 : Cond.code yX7_growthOf cX7_growthOf 4 (some FieldType.int) ∈ wsL_law := w_in (in_t5 (List.mem_of_getElem? (i := 78) (by decide +kernel))) rfl
theorem q898 : Cond.methodLink RX7 144 yX7_directOf ∈ wsL_law := w_in (in_t5 (List.mem_of_getElem? (i := 79) (by decide +kernel))) rfl
theorem q899 : Cond.instanceMethod yX7_directOf ∈ wsL_law := w_in (in_t5 (List.mem_of_getElem? (i := 81) (by decide +kernel))) rfl
theorem q900 : Cond.code yX7_directOf cX7_directOf 5 (some FieldType.int) ∈ wsL_law := w_in (in_t5 (List.mem_of_getElem? (i := 82) (by decide +kernel))) rfl
theorem q901 : Cond.methodLink RX7 157 yX7_aheadOf ∈ wsL_law := w_in (in_t5 (List.mem_of_getElem? (i := 83) (by decide +kernel))) rfl
theorem q902 : Cond.instanceMethod yX7_aheadOf ∈ wsL_law := w_in (in_t5 (List.mem_of_getElem? (i := 85) (by decide +kernel))) rfl
theorem q903 : Cond.code yX7_aheadOf cX7_aheadOf 4 (some FieldType.int) ∈ wsL_law := w_in (in_t5 (List.mem_of_getElem? (i := 86) (by decide +kernel))) rfl
theorem q904 : Cond.methodLink RX7 150 yX7_isAhead ∈ wsL_law := w_in (in_t5 (List.mem_of_getElem? (i := 87) (by decide +kernel))) rfl
theorem q905 : Cond.instanceMethod yX7_isAhead ∈ wsL_law := w_in (in_t5 (List.mem_of_getElem? (i := 89) (by decide +kernel))) rfl
theorem q906 : Cond.code yX7_isAhead cX7_isAhead 4 (some FieldType.boolean) ∈ wsL_law := w_in (in_t5 (List.mem_of_getElem? (i := 90) (by decide +kernel))) rfl
theorem q907 : Cond.methodLink RX7 147 yX7_differsIn ∈ wsL_law := w_in (in_t5 (List.mem_of_getElem? (i := 91) (by decide +kernel))) rfl
theorem q908 : Cond.instanceMethod yX7_differsIn ∈ wsL_law := w_in (in_t5 (List.mem_of_getElem? (i := 93) (by decide +kernel))) rfl
theorem q909 : Cond.code yX7_differsIn cX7_differsIn 5 (some FieldType.int) ∈ wsL_law := w_in (in_t5 (List.mem_of_getElem? (i := 94) (by decide +kernel))) rfl
theorem q910 : Cond.methodLink RX7 181 yX7_layBye ∈ wsL_law := w_in (in_t5 (List.mem_of_getElem? (i := 95) (by decide +kernel))) rfl
theorem q911 : Cond.instanceMethod yX7_layBye ∈ wsL_law := w_in (in_t5 (List.mem_of_getElem? (i := 97) (by decide +kernel))) rfl
theorem q912 : Cond.code yX7_layBye cX7_layBye 4 (none : Option FieldType) ∈ wsL_law := w_in (in_t5 (List.mem_of_getElem? (i := 98) (by decide +kernel))) rfl
theorem q913 : Cond.methodLink RX7 169 yX7_byesOf ∈ wsL_law := w_in (in_t5 (List.mem_of_getElem? (i := 99) (by decide +kernel))) rfl
theorem q914 : Cond.instanceMethod yX7_byesOf ∈ wsL_law := w_in (in_t5 (List.mem_of_getElem? (i := 101) (by decide +kernel))) rfl
theorem q915 : Cond.code yX7_byesOf cX7_byesOf 4 (some FieldType.int) ∈ wsL_law := w_in (in_t5 (List.mem_of_getElem? (i := 102) (by decide +kernel))) rfl
theorem q916 : Cond.methodLink RX7 172 yX7_forfeitsOf ∈ wsL_law := w_in (in_t5 (List.mem_of_getElem? (i := 103) (by decide +kernel))) rfl
theorem q917 : Cond.instanceMethod yX7_forfeitsOf ∈ wsL_law := w_in (in_t5 (List.mem_of_getElem? (i := 105) (by decide +kernel))) rfl
theorem q918 : Cond.code yX7_forfeitsOf cX7_forfeitsOf 5 (some FieldType.int) ∈ wsL_law := w_in (in_t5 (List.mem_of_getElem? (i := 106) (by decide +kernel))) rfl
theorem q919 : Cond.methodLink RX7 187 yX7_metIn ∈ wsL_law := w_in (in_t5 (List.mem_of_getElem? (i := 107) (by decide +kernel))) rfl
theorem q920 : Cond.instanceMethod yX7_metIn ∈ wsL_law := w_in (in_t5 (List.mem_of_getElem? (i := 109) (by decide +kernel))) rfl
theorem q921 : Cond.code yX7_metIn cX7_metIn 6 (some FieldType.int) ∈ wsL_law := w_in (in_t5 (List.mem_of_getElem? (i := 110) (by decide +kernel))) rfl
theorem q922 : Cond.methodLink RX7 190 yX7_costOf ∈ wsL_law := w_in (in_t5 (List.mem_of_getElem? (i := 111) (by decide +kernel))) rfl
theorem q923 : Cond.instanceMethod yX7_costOf ∈ wsL_law := w_in (in_t5 (List.mem_of_getElem? (i := 113) (by decide +kernel))) rfl
theorem q924 : Cond.code yX7_costOf cX7_costOf 7 (some FieldType.int) ∈ wsL_law := w_in (in_t5 (List.mem_of_getElem? (i := 114) (by decide +kernel))) rfl
theorem q925 : Cond.methodLink RX7 160 yX7_balanceOf ∈ wsL_law := w_in (in_t5 (List.mem_of_getElem? (i := 115) (by decide +kernel))) rfl
theorem q926 : Cond.instanceMethod yX7_balanceOf ∈ wsL_law := w_in (in_t5 (List.mem_of_getElem? (i := 117) (by decide +kernel))) rfl
theorem q927 : Cond.code yX7_balanceOf cX7_balanceOf 2 (some FieldType.int) ∈ wsL_law := w_in (in_t5 (List.mem_of_getElem? (i := 118) (by decide +kernel))) rfl
theorem q928 : Cond.methodLink RX7 120 yX7_playedMany ∈ wsL_law := w_in (in_t5 (List.mem_of_getElem? (i := 119) (by decide +kernel))) rfl
theorem q929 : Cond.instanceMethod yX7_playedMany ∈ wsL_law := w_in (in_t5 (List.mem_of_getElem? (i := 121) (by decide +kernel))) rfl
theorem q930 : Cond.code yX7_playedMany cX7_playedMany 4 (some FieldType.int) ∈ wsL_law := w_in (in_t5 (List.mem_of_getElem? (i := 122) (by decide +kernel))) rfl
theorem q931 : Cond.methodLink RX7 163 yX7_latestOf ∈ wsL_law := w_in (in_t5 (List.mem_of_getElem? (i := 123) (by decide +kernel))) rfl
theorem q932 : Cond.instanceMethod yX7_latestOf ∈ wsL_law := w_in (in_t5 (List.mem_of_getElem? (i := 125) (by decide +kernel))) rfl
theorem q933 : Cond.code yX7_latestOf cX7_latestOf 5 (some FieldType.int) ∈ wsL_law := w_in (in_t5 (List.mem_of_getElem? (i := 126) (by decide +kernel))) rfl
theorem q934 : Cond.methodLink RX7 196 yX7_leastBit ∈ wsL_law := w_in (in_t5 (List.mem_of_getElem? (i := 127) (by decide +kernel))) rfl
theorem q935 : Cond.static yX7_leastBit ∈ wsL_law := w_in (in_t5 (List.mem_of_getElem? (i := 128) (by decide +kernel))) rfl
theorem q936 : Cond.code yX7_leastBit cX7_leastBit 2 (some FieldType.int) ∈ wsL_law := w_in (in_t5 (List.mem_of_getElem? (i := 129) (by decide +kernel))) rfl
theorem q937 : Cond.methodLink RX7 209 yX7_earliestWith ∈ wsL_law := w_in (in_t5 (List.mem_of_getElem? (i := 130) (by decide +kernel))) rfl
theorem q938 : Cond.instanceMethod yX7_earliestWith ∈ wsL_law := w_in (in_t5 (List.mem_of_getElem? (i := 132) (by decide +kernel))) rfl
theorem q939 : Cond.code yX7_earliestWith cX7_earliestWith 7 (some FieldType.int) ∈ wsL_law := w_in (in_t5 (List.mem_of_getElem? (i := 133) (by decide +kernel))) rfl
theorem q940 : Cond.methodLink RX7 212 yX7_putBoard ∈ wsL_law := w_in (in_t5 (List.mem_of_getElem? (i := 134) (by decide +kernel))) rfl
theorem q941 : Cond.instanceMethod yX7_putBoard ∈ wsL_law := w_in (in_t5 (List.mem_of_getElem? (i := 136) (by decide +kernel))) rfl
theorem q942 : Cond.code yX7_putBoard cX7_putBoard 6 (none : Option FieldType) ∈ wsL_law := w_in (in_t5 (List.mem_of_getElem? (i := 137) (by decide +kernel))) rfl
theorem q943 : Cond.methodLink RX7 199 yX7_isWhite ∈ wsL_law := w_in (in_t5 (List.mem_of_getElem? (i := 138) (by decide +kernel))) rfl
theorem q944 : Cond.instanceMethod yX7_isWhite ∈ wsL_law := w_in (in_t5 (List.mem_of_getElem? (i := 140) (by decide +kernel))) rfl
theorem q945 : Cond.code yX7_isWhite cX7_isWhite 8 (some FieldType.boolean) ∈ wsL_law := w_in (in_t5 (List.mem_of_getElem? (i := 141) (by decide +kernel))) rfl
theorem q946 : Cond.methodLink RL 68 yX7_least ∈ wsL_law := w_in (in_t5 (List.mem_of_getElem? (i := 142) (by decide +kernel))) rfl
theorem q947 : Cond.instanceMethod yX7_least ∈ wsL_law := w_in (in_t5 (List.mem_of_getElem? (i := 143) (by decide +kernel))) rfl
theorem q948 : Cond.selects RX7 yX7_least yX7_least ∈ wsL_law := w_in (in_t5 (List.mem_of_getElem? (i := 144) (by decide +kernel))) rfl
theorem q949 : Cond.code yX7_least cX7_least 2 (some FieldType.int) ∈ wsL_law := w_in (in_t5 (List.mem_of_getElem? (i := 145) (by decide +kernel))) rfl
theorem q950 : Cond.methodLink RL 72 yX7_ways ∈ wsL_law := w_in (in_t5 (List.mem_of_getElem? (i := 146) (by decide +kernel))) rfl
theorem q951 : Cond.instanceMethod yX7_ways ∈ wsL_law := w_in (in_t5 (List.mem_of_getElem? (i := 147) (by decide +kernel))) rfl
theorem q952 : Cond.selects RX7 yX7_ways yX7_ways ∈ wsL_law := w_in (in_t5 (List.mem_of_getElem? (i := 148) (by decide +kernel))) rfl
theorem q953 : Cond.code yX7_ways cX7_ways 1 (some FieldType.int) ∈ wsL_law := w_in (in_t5 (List.mem_of_getElem? (i := 149) (by decide +kernel))) rfl
theorem q954 : Cond.methodLink RL 17 yX7_join ∈ wsL_law := w_in (in_t5 (List.mem_of_getElem? (i := 150) (by decide +kernel))) rfl
theorem q955 : Cond.instanceMethod yX7_join ∈ wsL_law := w_in (in_t5 (List.mem_of_getElem? (i := 151) (by decide +kernel))) rfl
theorem q956 : Cond.selects RX7 yX7_join yX7_join ∈ wsL_law := w_in (in_t5 (List.mem_of_getElem? (i := 152) (by decide +kernel))) rfl
theorem q957 : Cond.code yX7_join cX7_join 2 (some FieldType.int) ∈ wsL_law := w_in (in_t5 (List.mem_of_getElem? (i := 153) (by decide +kernel))) rfl
theorem q958 : Cond.constantLong RX7 216 3000 ∈ wsL_law := w_in (in_t5 (List.mem_of_getElem? (i := 154) (by decide +kernel))) rfl
theorem q959 : Cond.methodLink RL 21 yX7_leave ∈ wsL_law := w_in (in_t5 (List.mem_of_getElem? (i := 155) (by decide +kernel))) rfl
theorem q960 : Cond.instanceMethod yX7_leave ∈ wsL_law := w_in (in_t5 (List.mem_of_getElem? (i := 156) (by decide +kernel))) rfl
theorem q961 : Cond.selects RX7 yX7_leave yX7_leave ∈ wsL_law := w_in (in_t5 (List.mem_of_getElem? (i := 157) (by decide +kernel))) rfl
theorem q962 : Cond.code yX7_leave cX7_leave 2 (some FieldType.int) ∈ wsL_law := w_in (in_t5 (List.mem_of_getElem? (i := 158) (by decide +kernel))) rfl
theorem q963 : Cond.methodLink RX7 85 yX7_isPlayer ∈ wsL_law := w_in (in_t5 (List.mem_of_getElem? (i := 159) (by decide +kernel))) rfl
theorem q964 : Cond.instanceMethod yX7_isPlayer ∈ wsL_law := w_in (in_t5 (List.mem_of_getElem? (i := 161) (by decide +kernel))) rfl
theorem q965 : Cond.code yX7_isPlayer cX7_isPlayer 2 (some FieldType.boolean) ∈ wsL_law := w_in (in_t5 (List.mem_of_getElem? (i := 162) (by decide +kernel))) rfl
theorem q966 : Cond.methodLink RL 25 yX7_back ∈ wsL_law := w_in (in_t5 (List.mem_of_getElem? (i := 163) (by decide +kernel))) rfl
theorem q967 : Cond.instanceMethod yX7_back ∈ wsL_law := w_in (in_t5 (List.mem_of_getElem? (i := 164) (by decide +kernel))) rfl
theorem q968 : Cond.selects RX7 yX7_back yX7_back ∈ wsL_law := w_in (in_t5 (List.mem_of_getElem? (i := 165) (by decide +kernel))) rfl
theorem q969 : Cond.code yX7_back cX7_back 2 (some FieldType.int) ∈ wsL_law := w_in (in_t5 (List.mem_of_getElem? (i := 166) (by decide +kernel))) rfl
theorem q970 : Cond.methodLink RL 30 yX7_rate ∈ wsL_law := w_in (in_t5 (List.mem_of_getElem? (i := 167) (by decide +kernel))) rfl
theorem q971 : Cond.instanceMethod yX7_rate ∈ wsL_law := w_in (in_t5 (List.mem_of_getElem? (i := 168) (by decide +kernel))) rfl
theorem q972 : Cond.selects RX7 yX7_rate yX7_rate ∈ wsL_law := w_in (in_t5 (List.mem_of_getElem? (i := 169) (by decide +kernel))) rfl
theorem q973 : Cond.code yX7_rate cX7_rate 4 (some FieldType.int) ∈ wsL_law := w_in (in_t5 (List.mem_of_getElem? (i := 170) (by decide +kernel))) rfl
theorem q974 : Cond.methodLink RL 34 yX7_of ∈ wsL_law := w_in (in_t5 (List.mem_of_getElem? (i := 171) (by decide +kernel))) rfl
theorem q975 : Cond.instanceMethod yX7_of ∈ wsL_law := w_in (in_t5 (List.mem_of_getElem? (i := 172) (by decide +kernel))) rfl
theorem q976 : Cond.selects RX7 yX7_of yX7_of ∈ wsL_law := w_in (in_t5 (List.mem_of_getElem? (i := 173) (by decide +kernel))) rfl
theorem q977 : Cond.code yX7_of cX7_of 3 (some FieldType.int) ∈ wsL_law := w_in (in_t5 (List.mem_of_getElem? (i := 174) (by decide +kernel))) rfl
theorem q978 : Cond.constantLong RX7 218 8 ∈ wsL_law := w_in (in_t5 (List.mem_of_getElem? (i := 175) (by decide +kernel))) rfl
theorem q979 : Cond.methodLink RL 38 yX7_tie ∈ wsL_law := w_in (in_t5 (List.mem_of_getElem? (i := 176) (by decide +kernel))) rfl
theorem q980 : Cond.instanceMethod yX7_tie ∈ wsL_law := w_in (in_t5 (List.mem_of_getElem? (i := 177) (by decide +kernel))) rfl
theorem q981 : Cond.selects RX7 yX7_tie yX7_tie ∈ wsL_law := w_in (in_t5 (List.mem_of_getElem? (i := 178) (by decide +kernel))) rfl
theorem q982 : Cond.code yX7_tie cX7_tie 3 (some FieldType.int) ∈ wsL_law := w_in (in_t5 (List.mem_of_getElem? (i := 179) (by decide +kernel))) rfl
theorem q983 : Cond.methodLink RL 42 yX7_rank ∈ wsL_law := w_in (in_t5 (List.mem_of_getElem? (i := 180) (by decide +kernel))) rfl
theorem q984 : Cond.instanceMethod yX7_rank ∈ wsL_law := w_in (in_t5 (List.mem_of_getElem? (i := 181) (by decide +kernel))) rfl
theorem q985 : Cond.selects RX7 yX7_rank yX7_rank ∈ wsL_law := w_in (in_t5 (List.mem_of_getElem? (i := 182) (by decide +kernel))) rfl
theorem q986 : Cond.code yX7_rank cX7_rank 2 (some FieldType.int) ∈ wsL_law := w_in (in_t5 (List.mem_of_getElem? (i := 183) (by decide +kernel))) rfl
theorem q987 : Cond.methodLink RL 46 yX7_nth ∈ wsL_law := w_in (in_t5 (List.mem_of_getElem? (i := 184) (by decide +kernel))) rfl
theorem q988 : Cond.instanceMethod yX7_nth ∈ wsL_law := w_in (in_t5 (List.mem_of_getElem? (i := 185) (by decide +kernel))) rfl
theorem q989 : Cond.selects RX7 yX7_nth yX7_nth ∈ wsL_law := w_in (in_t5 (List.mem_of_getElem? (i := 186) (by decide +kernel))) rfl
theorem q990 : Cond.code yX7_nth cX7_nth 2 (some FieldType.int) ∈ wsL_law := w_in (in_t5 (List.mem_of_getElem? (i := 187) (by decide +kernel))) rfl
theorem q991 : Cond.methodLink RL 51 yX7_explain ∈ wsL_law := w_in (in_t5 (List.mem_of_getElem? (i := 188) (by decide +kernel))) rfl
theorem q992 : Cond.instanceMethod yX7_explain ∈ wsL_law := w_in (in_t5 (List.mem_of_getElem? (i := 189) (by decide +kernel))) rfl
theorem q993 : Cond.selects RX7 yX7_explain yX7_explain ∈ wsL_law := w_in (in_t5 (List.mem_of_getElem? (i := 190) (by decide +kernel))) rfl
theorem q994 : Cond.code yX7_explain cX7_explain 5 (some FieldType.int) ∈ wsL_law := w_in (in_t5 (List.mem_of_getElem? (i := 191) (by decide +kernel))) rfl
theorem q995 : Cond.methodLink RX7 220 yX7_areTwo ∈ wsL_law := w_in (in_t5 (List.mem_of_getElem? (i := 192) (by decide +kernel))) rfl
theorem q996 : Cond.instanceMethod yX7_areTwo ∈ wsL_law := w_in (in_t5 (List.mem_of_getElem? (i := 194) (by decide +kernel))) rfl
theorem q997 : Cond.code yX7_areTwo cX7_areTwo 3 (some FieldType.boolean) ∈ wsL_law := w_in (in_t5 (List.mem_of_getElem? (i := 195) (by decide +kernel))) rfl
theorem q998 : Cond.methodLink RL 55 yX7_met ∈ wsL_law := w_in (in_t5 (List.mem_of_getElem? (i := 196) (by decide +kernel))) rfl
theorem q999 : Cond.instanceMethod yX7_met ∈ wsL_law := w_in (in_t5 (List.mem_of_getElem? (i := 197) (by decide +kernel))) rfl
theorem q1000 : Cond.selects RX7 yX7_met yX7_met ∈ wsL_law := w_in (in_t5 (List.mem_of_getElem? (i := 198) (by decide +kernel))) rfl
theorem q1001 : Cond.code yX7_met cX7_met 3 (some FieldType.int) ∈ wsL_law := w_in (in_t5 (List.mem_of_getElem? (i := 199) (by decide +kernel))) rfl
theorem q1002 : Cond.methodLink RL 59 yX7_cost ∈ wsL_law := w_in (in_t5 (List.mem_of_getElem? (i := 200) (by decide +kernel))) rfl
theorem q1003 : Cond.instanceMethod yX7_cost ∈ wsL_law := w_in (in_t5 (List.mem_of_getElem? (i := 201) (by decide +kernel))) rfl
theorem q1004 : Cond.selects RX7 yX7_cost yX7_cost ∈ wsL_law := w_in (in_t5 (List.mem_of_getElem? (i := 202) (by decide +kernel))) rfl
theorem q1005 : Cond.code yX7_cost cX7_cost 3 (some FieldType.int) ∈ wsL_law := w_in (in_t5 (List.mem_of_getElem? (i := 203) (by decide +kernel))) rfl
theorem q1006 : Cond.methodLink RL 100 yX7_direct ∈ wsL_law := w_in (in_t5 (List.mem_of_getElem? (i := 204) (by decide +kernel))) rfl
theorem q1007 : Cond.instanceMethod yX7_direct ∈ wsL_law := w_in (in_t5 (List.mem_of_getElem? (i := 205) (by decide +kernel))) rfl
theorem q1008 : Cond.selects RX7 yX7_direct yX7_direct ∈ wsL_law := w_in (in_t5 (List.mem_of_getElem? (i := 206) (by decide +kernel))) rfl
theorem q1009 : Cond.code yX7_direct cX7_direct 4 (some FieldType.int) ∈ wsL_law := w_in (in_t5 (List.mem_of_getElem? (i := 207) (by decide +kernel))) rfl
theorem q1010 : Cond.methodLink RL 104 yX7_average ∈ wsL_law := w_in (in_t5 (List.mem_of_getElem? (i := 208) (by decide +kernel))) rfl
theorem q1011 : Cond.instanceMethod yX7_average ∈ wsL_law := w_in (in_t5 (List.mem_of_getElem? (i := 209) (by decide +kernel))) rfl
theorem q1012 : Cond.selects RX7 yX7_average yX7_average ∈ wsL_law := w_in (in_t5 (List.mem_of_getElem? (i := 210) (by decide +kernel))) rfl
theorem q1013 : Cond.code yX7_average cX7_average 7 (some FieldType.int) ∈ wsL_law := w_in (in_t5 (List.mem_of_getElem? (i := 211) (by decide +kernel))) rfl
theorem q1014 : Cond.methodLink RX7 223 yX7_divisor ∈ wsL_law := w_in (in_t5 (List.mem_of_getElem? (i := 212) (by decide +kernel))) rfl
theorem q1015 : Cond.static yX7_divisor ∈ wsL_law := w_in (in_t5 (List.mem_of_getElem? (i := 213) (by decide +kernel))) rfl
theorem q1016 : Cond.code yX7_divisor cX7_divisor 5 (some FieldType.int) ∈ wsL_law := w_in (in_t5 (List.mem_of_getElem? (i := 214) (by decide +kernel))) rfl
theorem q1017 : Cond.methodLink RL 108 yX7_alike ∈ wsL_law := w_in (in_t5 (List.mem_of_getElem? (i := 215) (by decide +kernel))) rfl
theorem q1018 : Cond.instanceMethod yX7_alike ∈ wsL_law := w_in (in_t5 (List.mem_of_getElem? (i := 216) (by decide +kernel))) rfl
theorem q1019 : Cond.selects RX7 yX7_alike yX7_alike ∈ wsL_law := w_in (in_t5 (List.mem_of_getElem? (i := 217) (by decide +kernel))) rfl
theorem q1020 : Cond.code yX7_alike cX7_alike 4 (some FieldType.int) ∈ wsL_law := w_in (in_t5 (List.mem_of_getElem? (i := 218) (by decide +kernel))) rfl
theorem q1021 : Cond.methodLink RL 112 yX7_colours ∈ wsL_law := w_in (in_t5 (List.mem_of_getElem? (i := 219) (by decide +kernel))) rfl
theorem q1022 : Cond.instanceMethod yX7_colours ∈ wsL_law := w_in (in_t5 (List.mem_of_getElem? (i := 220) (by decide +kernel))) rfl
theorem q1023 : Cond.selects RX7 yX7_colours yX7_colours ∈ wsL_law := w_in (in_t5 (List.mem_of_getElem? (i := 221) (by decide +kernel))) rfl
theorem q1024 : Cond.code yX7_colours cX7_colours 5 (some FieldType.int) ∈ wsL_law := w_in (in_t5 (List.mem_of_getElem? (i := 222) (by decide +kernel))) rfl
theorem q1025 : Cond.constantLong RX7 226 2 ∈ wsL_law := w_in (in_t5 (List.mem_of_getElem? (i := 223) (by decide +kernel))) rfl
theorem q1026 : Cond.methodLink RL 76 yX7_board ∈ wsL_law := w_in (in_t5 (List.mem_of_getElem? (i := 224) (by decide +kernel))) rfl
theorem q1027 : Cond.instanceMethod yX7_board ∈ wsL_law := w_in (in_t5 (List.mem_of_getElem? (i := 225) (by decide +kernel))) rfl
theorem q1028 : Cond.selects RX7 yX7_board yX7_board ∈ wsL_law := w_in (in_t5 (List.mem_of_getElem? (i := 226) (by decide +kernel))) rfl
theorem q1029 : Cond.code yX7_board cX7_board 4 (some FieldType.int) ∈ wsL_law := w_in (in_t5 (List.mem_of_getElem? (i := 227) (by decide +kernel))) rfl
theorem q1030 : Cond.methodLink RL 80 yX7_bye ∈ wsL_law := w_in (in_t5 (List.mem_of_getElem? (i := 228) (by decide +kernel))) rfl
theorem q1031 : Cond.instanceMethod yX7_bye ∈ wsL_law := w_in (in_t5 (List.mem_of_getElem? (i := 229) (by decide +kernel))) rfl
theorem q1032 : Cond.selects RX7 yX7_bye yX7_bye ∈ wsL_law := w_in (in_t5 (List.mem_of_getElem? (i := 230) (by decide +kernel))) rfl
theorem q1033 : Cond.code yX7_bye cX7_bye 2 (some FieldType.int) ∈ wsL_law := w_in (in_t5 (List.mem_of_getElem? (i := 231) (by decide +kernel))) rfl
theorem q1034 : Cond.methodLink RL 84 yX7_result ∈ wsL_law := w_in (in_t5 (List.mem_of_getElem? (i := 232) (by decide +kernel))) rfl
theorem q1035 : Cond.instanceMethod yX7_result ∈ wsL_law := w_in (in_t5 (List.mem_of_getElem? (i := 233) (by decide +kernel))) rfl
theorem q1036 : Cond.selects RX7 yX7_result yX7_result ∈ wsL_law := w_in (in_t5 (List.mem_of_getElem? (i := 234) (by decide +kernel))) rfl
theorem q1037 : Cond.code yX7_result cX7_result 5 (some FieldType.int) ∈ wsL_law := w_in (in_t5 (List.mem_of_getElem? (i := 235) (by decide +kernel))) rfl
theorem q1038 : Cond.constantLong RX7 228 6 ∈ wsL_law := w_in (in_t5 (List.mem_of_getElem? (i := 236) (by decide +kernel))) rfl
theorem q1039 : Cond.methodLink RL 88 yX7_close ∈ wsL_law := w_in (in_t5 (List.mem_of_getElem? (i := 237) (by decide +kernel))) rfl
theorem q1040 : Cond.instanceMethod yX7_close ∈ wsL_law := w_in (in_t5 (List.mem_of_getElem? (i := 238) (by decide +kernel))) rfl
theorem q1041 : Cond.selects RX7 yX7_close yX7_close ∈ wsL_law := w_in (in_t5 (List.mem_of_getElem? (i := 239) (by decide +kernel))) rfl
theorem q1042 : Cond.code yX7_close cX7_close 1 (some FieldType.int) ∈ wsL_law := w_in (in_t6 (List.mem_of_getElem? (i := 0) (by decide +kernel))) rfl
theorem q1043 : Cond.methodLink RX7 230 yX7_withResult ∈ wsL_law := w_in (in_t6 (List.mem_of_getElem? (i := 1) (by decide +kernel))) rfl
theorem q1044 : Cond.instanceMethod yX7_withResult ∈ wsL_law := w_in (in_t6 (List.mem_of_getElem? (i := 3) (by decide +kernel))) rfl
theorem q1045 : Cond.code yX7_withResult cX7_withResult 3 (some FieldType.int) ∈ wsL_law := w_in (in_t6 (List.mem_of_getElem? (i := 4) (by decide +kernel))) rfl
theorem q1046 : Cond.methodLink RL 92 yX7_drop ∈ wsL_law := w_in (in_t6 (List.mem_of_getElem? (i := 5) (by decide +kernel))) rfl
theorem q1047 : Cond.instanceMethod yX7_drop ∈ wsL_law := w_in (in_t6 (List.mem_of_getElem? (i := 6) (by decide +kernel))) rfl
theorem q1048 : Cond.selects RX7 yX7_drop yX7_drop ∈ wsL_law := w_in (in_t6 (List.mem_of_getElem? (i := 7) (by decide +kernel))) rfl
theorem q1049 : Cond.code yX7_drop cX7_drop 1 (some FieldType.int) ∈ wsL_law := w_in (in_t6 (List.mem_of_getElem? (i := 8) (by decide +kernel))) rfl
theorem q1050 : Cond.methodLink RL 96 yX7_game ∈ wsL_law := w_in (in_t6 (List.mem_of_getElem? (i := 9) (by decide +kernel))) rfl
theorem q1051 : Cond.instanceMethod yX7_game ∈ wsL_law := w_in (in_t6 (List.mem_of_getElem? (i := 10) (by decide +kernel))) rfl
theorem q1052 : Cond.selects RX7 yX7_game yX7_game ∈ wsL_law := w_in (in_t6 (List.mem_of_getElem? (i := 11) (by decide +kernel))) rfl
theorem q1053 : Cond.code yX7_game cX7_game 5 (some FieldType.int) ∈ wsL_law := w_in (in_t6 (List.mem_of_getElem? (i := 12) (by decide +kernel))) rfl
theorem q1054 : Cond.methodLink RL 116 yX7_feed ∈ wsL_law := w_in (in_t6 (List.mem_of_getElem? (i := 13) (by decide +kernel))) rfl
theorem q1055 : Cond.instanceMethod yX7_feed ∈ wsL_law := w_in (in_t6 (List.mem_of_getElem? (i := 14) (by decide +kernel))) rfl
theorem q1056 : Cond.selects RX7 yX7_feed yX7_feed ∈ wsL_law := w_in (in_t6 (List.mem_of_getElem? (i := 15) (by decide +kernel))) rfl
theorem q1057 : Cond.code yX7_feed cX7_feed 2 (some FieldType.int) ∈ wsL_law := w_in (in_t6 (List.mem_of_getElem? (i := 16) (by decide +kernel))) rfl
theorem q1058 : Cond.constantLong RX7 233 127 ∈ wsL_law := w_in (in_t6 (List.mem_of_getElem? (i := 17) (by decide +kernel))) rfl
theorem q1059 : Cond.methodLink RL 120 yX7_clear ∈ wsL_law := w_in (in_t6 (List.mem_of_getElem? (i := 18) (by decide +kernel))) rfl
theorem q1060 : Cond.instanceMethod yX7_clear ∈ wsL_law := w_in (in_t6 (List.mem_of_getElem? (i := 19) (by decide +kernel))) rfl
theorem q1061 : Cond.selects RX7 yX7_clear yX7_clear ∈ wsL_law := w_in (in_t6 (List.mem_of_getElem? (i := 20) (by decide +kernel))) rfl
theorem q1062 : Cond.code yX7_clear cX7_clear 2 (some FieldType.int) ∈ wsL_law := w_in (in_t6 (List.mem_of_getElem? (i := 21) (by decide +kernel))) rfl
theorem q1063 : Cond.methodLink RL 124 yX7_results ∈ wsL_law := w_in (in_t6 (List.mem_of_getElem? (i := 22) (by decide +kernel))) rfl
theorem q1064 : Cond.instanceMethod yX7_results ∈ wsL_law := w_in (in_t6 (List.mem_of_getElem? (i := 23) (by decide +kernel))) rfl
theorem q1065 : Cond.selects RX7 yX7_results yX7_results ∈ wsL_law := w_in (in_t6 (List.mem_of_getElem? (i := 24) (by decide +kernel))) rfl
theorem q1066 : Cond.code yX7_results cX7_results 6 (some FieldType.int) ∈ wsL_law := w_in (in_t6 (List.mem_of_getElem? (i := 25) (by decide +kernel))) rfl
theorem q1067 : Cond.methodLink RX7 238 yX7_resultOf ∈ wsL_law := w_in (in_t6 (List.mem_of_getElem? (i := 26) (by decide +kernel))) rfl
theorem q1068 : Cond.static yX7_resultOf ∈ wsL_law := w_in (in_t6 (List.mem_of_getElem? (i := 27) (by decide +kernel))) rfl
theorem q1069 : Cond.code yX7_resultOf cX7_resultOf 1 (some FieldType.int) ∈ wsL_law := w_in (in_t6 (List.mem_of_getElem? (i := 28) (by decide +kernel))) rfl
theorem q1070 : Cond.methodLink RL 128 yX7_order ∈ wsL_law := w_in (in_t6 (List.mem_of_getElem? (i := 29) (by decide +kernel))) rfl
theorem q1071 : Cond.instanceMethod yX7_order ∈ wsL_law := w_in (in_t6 (List.mem_of_getElem? (i := 30) (by decide +kernel))) rfl
theorem q1072 : Cond.selects RX7 yX7_order yX7_order ∈ wsL_law := w_in (in_t6 (List.mem_of_getElem? (i := 31) (by decide +kernel))) rfl
theorem q1073 : Cond.code yX7_order cX7_order 4 (some FieldType.int) ∈ wsL_law := w_in (in_t6 (List.mem_of_getElem? (i := 32) (by decide +kernel))) rfl
theorem q1074 : Cond.methodLink RX7 241 yX7_tieBy ∈ wsL_law := w_in (in_t6 (List.mem_of_getElem? (i := 33) (by decide +kernel))) rfl
theorem q1075 : Cond.static yX7_tieBy ∈ wsL_law := w_in (in_t6 (List.mem_of_getElem? (i := 34) (by decide +kernel))) rfl
theorem q1076 : Cond.code yX7_tieBy cX7_tieBy 1 (some FieldType.int) ∈ wsL_law := w_in (in_t6 (List.mem_of_getElem? (i := 35) (by decide +kernel))) rfl
theorem q1077 : Cond.methodLink RX7 244 yX7_isAgain ∈ wsL_law := w_in (in_t6 (List.mem_of_getElem? (i := 36) (by decide +kernel))) rfl
theorem q1078 : Cond.instanceMethod yX7_isAgain ∈ wsL_law := w_in (in_t6 (List.mem_of_getElem? (i := 38) (by decide +kernel))) rfl
theorem q1079 : Cond.code yX7_isAgain cX7_isAgain 4 (some FieldType.boolean) ∈ wsL_law := w_in (in_t6 (List.mem_of_getElem? (i := 39) (by decide +kernel))) rfl
theorem q1080 : Cond.methodLink RL 132 yX7_ordered ∈ wsL_law := w_in (in_t6 (List.mem_of_getElem? (i := 40) (by decide +kernel))) rfl
theorem q1081 : Cond.instanceMethod yX7_ordered ∈ wsL_law := w_in (in_t6 (List.mem_of_getElem? (i := 41) (by decide +kernel))) rfl
theorem q1082 : Cond.selects RX7 yX7_ordered yX7_ordered ∈ wsL_law := w_in (in_t6 (List.mem_of_getElem? (i := 42) (by decide +kernel))) rfl
theorem q1083 : Cond.code yX7_ordered cX7_ordered 2 (some FieldType.int) ∈ wsL_law := w_in (in_t6 (List.mem_of_getElem? (i := 43) (by decide +kernel))) rfl
theorem q1084 : Cond.methodLink RL 136 yX7_line ∈ wsL_law := w_in (in_t6 (List.mem_of_getElem? (i := 44) (by decide +kernel))) rfl
theorem q1085 : Cond.instanceMethod yX7_line ∈ wsL_law := w_in (in_t6 (List.mem_of_getElem? (i := 45) (by decide +kernel))) rfl
theorem q1086 : Cond.selects RX7 yX7_line yX7_line ∈ wsL_law := w_in (in_t6 (List.mem_of_getElem? (i := 46) (by decide +kernel))) rfl
theorem q1087 : Cond.code yX7_line cX7_line 3 (some FieldType.int) ∈ wsL_law := w_in (in_t6 (List.mem_of_getElem? (i := 47) (by decide +kernel))) rfl
theorem q1088 : Cond.methodLink RX7 254 yX7_writesNumber ∈ wsL_law := w_in (in_t6 (List.mem_of_getElem? (i := 48) (by decide +kernel))) rfl
theorem q1089 : Cond.instanceMethod yX7_writesNumber ∈ wsL_law := w_in (in_t6 (List.mem_of_getElem? (i := 50) (by decide +kernel))) rfl
theorem q1090 : Cond.code yX7_writesNumber cX7_writesNumber 2 (none : Option FieldType) ∈ wsL_law := w_in (in_t6 (List.mem_of_getElem? (i := 51) (by decide +kernel))) rfl
theorem q1091 : Cond.methodLink RX7 250 yX7_writes ∈ wsL_law := w_in (in_t6 (List.mem_of_getElem? (i := 52) (by decide +kernel))) rfl
theorem q1092 : Cond.instanceMethod yX7_writes ∈ wsL_law := w_in (in_t6 (List.mem_of_getElem? (i := 54) (by decide +kernel))) rfl
theorem q1093 : Cond.code yX7_writes cX7_writes 2 (none : Option FieldType) ∈ wsL_law := w_in (in_t6 (List.mem_of_getElem? (i := 55) (by decide +kernel))) rfl
theorem q1094 : Cond.methodLink RX7 257 yX7_writesRound ∈ wsL_law := w_in (in_t6 (List.mem_of_getElem? (i := 56) (by decide +kernel))) rfl
theorem q1095 : Cond.instanceMethod yX7_writesRound ∈ wsL_law := w_in (in_t6 (List.mem_of_getElem? (i := 58) (by decide +kernel))) rfl
theorem q1096 : Cond.code yX7_writesRound cX7_writesRound 5 (none : Option FieldType) ∈ wsL_law := w_in (in_t6 (List.mem_of_getElem? (i := 59) (by decide +kernel))) rfl
theorem q1097 : Cond.methodLink RL 140 yX7_paper ∈ wsL_law := w_in (in_t6 (List.mem_of_getElem? (i := 60) (by decide +kernel))) rfl
theorem q1098 : Cond.instanceMethod yX7_paper ∈ wsL_law := w_in (in_t6 (List.mem_of_getElem? (i := 61) (by decide +kernel))) rfl
theorem q1099 : Cond.selects RX7 yX7_paper yX7_paper ∈ wsL_law := w_in (in_t6 (List.mem_of_getElem? (i := 62) (by decide +kernel))) rfl
theorem q1100 : Cond.code yX7_paper cX7_paper 2 (some FieldType.int) ∈ wsL_law := w_in (in_t6 (List.mem_of_getElem? (i := 63) (by decide +kernel))) rfl
theorem q1101 : Cond.methodLink RL 144 yX7_told ∈ wsL_law := w_in (in_t6 (List.mem_of_getElem? (i := 64) (by decide +kernel))) rfl
theorem q1102 : Cond.instanceMethod yX7_told ∈ wsL_law := w_in (in_t6 (List.mem_of_getElem? (i := 65) (by decide +kernel))) rfl
theorem q1103 : Cond.selects RX7 yX7_told yX7_told ∈ wsL_law := w_in (in_t6 (List.mem_of_getElem? (i := 66) (by decide +kernel))) rfl
theorem q1104 : Cond.code yX7_told cX7_told 2 (some FieldType.int) ∈ wsL_law := w_in (in_t6 (List.mem_of_getElem? (i := 67) (by decide +kernel))) rfl
theorem q1105 : Cond.methodLink RX7 261 yX7_metTwos ∈ wsL_law := w_in (in_t6 (List.mem_of_getElem? (i := 68) (by decide +kernel))) rfl
theorem q1106 : Cond.instanceMethod yX7_metTwos ∈ wsL_law := w_in (in_t6 (List.mem_of_getElem? (i := 70) (by decide +kernel))) rfl
theorem q1107 : Cond.code yX7_metTwos cX7_metTwos 4 (some FieldType.int) ∈ wsL_law := w_in (in_t6 (List.mem_of_getElem? (i := 71) (by decide +kernel))) rfl
theorem q1108 : Cond.methodLink RX7 264 yX7_allPoints ∈ wsL_law := w_in (in_t6 (List.mem_of_getElem? (i := 72) (by decide +kernel))) rfl
theorem q1109 : Cond.instanceMethod yX7_allPoints ∈ wsL_law := w_in (in_t6 (List.mem_of_getElem? (i := 74) (by decide +kernel))) rfl
theorem q1110 : Cond.code yX7_allPoints cX7_allPoints 3 (some FieldType.int) ∈ wsL_law := w_in (in_t6 (List.mem_of_getElem? (i := 75) (by decide +kernel))) rfl
theorem q1111 : Cond.methodLink RL 148 yX7_list ∈ wsL_law := w_in (in_t6 (List.mem_of_getElem? (i := 76) (by decide +kernel))) rfl
theorem q1112 : Cond.instanceMethod yX7_list ∈ wsL_law := w_in (in_t6 (List.mem_of_getElem? (i := 77) (by decide +kernel))) rfl
theorem q1113 : Cond.selects RX7 yX7_list yX7_list ∈ wsL_law := w_in (in_t6 (List.mem_of_getElem? (i := 78) (by decide +kernel))) rfl
theorem q1114 : Cond.code yX7_list cX7_list 4 (some FieldType.int) ∈ wsL_law := w_in (in_t6 (List.mem_of_getElem? (i := 79) (by decide +kernel))) rfl
theorem q1115 : Cond.methodLink RX7 267 yX7_isList ∈ wsL_law := w_in (in_t6 (List.mem_of_getElem? (i := 80) (by decide +kernel))) rfl
theorem q1116 : Cond.static yX7_isList ∈ wsL_law := w_in (in_t6 (List.mem_of_getElem? (i := 81) (by decide +kernel))) rfl
theorem q1117 : Cond.code yX7_isList cX7_isList 1 (some FieldType.boolean) ∈ wsL_law := w_in (in_t6 (List.mem_of_getElem? (i := 82) (by decide +kernel))) rfl
theorem q1118 : Cond.methodLink RL 152 yX7_set ∈ wsL_law := w_in (in_t6 (List.mem_of_getElem? (i := 83) (by decide +kernel))) rfl
theorem q1119 : Cond.instanceMethod yX7_set ∈ wsL_law := w_in (in_t6 (List.mem_of_getElem? (i := 84) (by decide +kernel))) rfl
theorem q1120 : Cond.selects RX7 yX7_set yX7_set ∈ wsL_law := w_in (in_t6 (List.mem_of_getElem? (i := 85) (by decide +kernel))) rfl
theorem q1121 : Cond.code yX7_set cX7_set 4 (some FieldType.int) ∈ wsL_law := w_in (in_t6 (List.mem_of_getElem? (i := 86) (by decide +kernel))) rfl
theorem q1122 : Cond.methodLink RL 156 yX7_get ∈ wsL_law := w_in (in_t6 (List.mem_of_getElem? (i := 87) (by decide +kernel))) rfl
theorem q1123 : Cond.instanceMethod yX7_get ∈ wsL_law := w_in (in_t6 (List.mem_of_getElem? (i := 88) (by decide +kernel))) rfl
theorem q1124 : Cond.selects RX7 yX7_get yX7_get ∈ wsL_law := w_in (in_t6 (List.mem_of_getElem? (i := 89) (by decide +kernel))) rfl
theorem q1125 : Cond.code yX7_get cX7_get 3 (some FieldType.int) ∈ wsL_law := w_in (in_t6 (List.mem_of_getElem? (i := 90) (by decide +kernel))) rfl
theorem q1126 : Cond.constant RX7 270 (-2000000000) ∈ wsL_law := w_in (in_t6 (List.mem_of_getElem? (i := 91) (by decide +kernel))) rfl
theorem q1127 : Cond.methodLink RL 160 yX7_lay ∈ wsL_law := w_in (in_t6 (List.mem_of_getElem? (i := 92) (by decide +kernel))) rfl
theorem q1128 : Cond.instanceMethod yX7_lay ∈ wsL_law := w_in (in_t6 (List.mem_of_getElem? (i := 93) (by decide +kernel))) rfl
theorem q1129 : Cond.selects RX7 yX7_lay yX7_lay ∈ wsL_law := w_in (in_t6 (List.mem_of_getElem? (i := 94) (by decide +kernel))) rfl
theorem q1130 : Cond.code yX7_lay cX7_lay 4 (some FieldType.int) ∈ wsL_law := w_in (in_t6 (List.mem_of_getElem? (i := 95) (by decide +kernel))) rfl
theorem q1131 : Cond.methodLink RL 164 yX7_judge ∈ wsL_law := w_in (in_t6 (List.mem_of_getElem? (i := 96) (by decide +kernel))) rfl
theorem q1132 : Cond.instanceMethod yX7_judge ∈ wsL_law := w_in (in_t6 (List.mem_of_getElem? (i := 97) (by decide +kernel))) rfl
theorem q1133 : Cond.selects RX7 yX7_judge yX7_judge ∈ wsL_law := w_in (in_t6 (List.mem_of_getElem? (i := 98) (by decide +kernel))) rfl
theorem q1134 : Cond.code yX7_judge cX7_judge 4 (some FieldType.int) ∈ wsL_law := w_in (in_t6 (List.mem_of_getElem? (i := 99) (by decide +kernel))) rfl
theorem q1135 : Cond.methodLink RL 168 yX7_image ∈ wsL_law := w_in (in_t6 (List.mem_of_getElem? (i := 100) (by decide +kernel))) rfl
theorem q1136 : Cond.instanceMethod yX7_image ∈ wsL_law := w_in (in_t6 (List.mem_of_getElem? (i := 101) (by decide +kernel))) rfl
theorem q1137 : Cond.selects RX7 yX7_image yX7_image ∈ wsL_law := w_in (in_t6 (List.mem_of_getElem? (i := 102) (by decide +kernel))) rfl
theorem q1138 : Cond.code yX7_image cX7_image 1 (some FieldType.int) ∈ wsL_law := w_in (in_t6 (List.mem_of_getElem? (i := 103) (by decide +kernel))) rfl
theorem q1139 : Cond.methodLink RX7 287 yX7_carryAll ∈ wsL_law := w_in (in_t6 (List.mem_of_getElem? (i := 104) (by decide +kernel))) rfl
theorem q1140 : Cond.instanceMethod yX7_carryAll ∈ wsL_law := w_in (in_t6 (List.mem_of_getElem? (i := 106) (by decide +kernel))) rfl
theorem q1141 : Cond.code yX7_carryAll cX7_carryAll 3 (none : Option FieldType) ∈ wsL_law := w_in (in_t6 (List.mem_of_getElem? (i := 107) (by decide +kernel))) rfl
theorem q1142 : Cond.methodLink RX7 281 yX7_carry ∈ wsL_law := w_in (in_t6 (List.mem_of_getElem? (i := 108) (by decide +kernel))) rfl
theorem q1143 : Cond.instanceMethod yX7_carry ∈ wsL_law := w_in (in_t6 (List.mem_of_getElem? (i := 110) (by decide +kernel))) rfl
theorem q1144 : Cond.code yX7_carry cX7_carry 2 (some FieldType.int) ∈ wsL_law := w_in (in_t6 (List.mem_of_getElem? (i := 111) (by decide +kernel))) rfl
theorem q1145 : Cond.methodLink RL 172 yX7_undo ∈ wsL_law := w_in (in_t6 (List.mem_of_getElem? (i := 112) (by decide +kernel))) rfl
theorem q1146 : Cond.instanceMethod yX7_undo ∈ wsL_law := w_in (in_t6 (List.mem_of_getElem? (i := 113) (by decide +kernel))) rfl
theorem q1147 : Cond.selects RX7 yX7_undo yX7_undo ∈ wsL_law := w_in (in_t6 (List.mem_of_getElem? (i := 114) (by decide +kernel))) rfl
theorem q1148 : Cond.code yX7_undo cX7_undo 1 (some FieldType.int) ∈ wsL_law := w_in (in_t6 (List.mem_of_getElem? (i := 115) (by decide +kernel))) rfl
theorem q1149 : Cond.fieldLink RJ0 15 RJ0 "coder" "B" ∈ wsL_law := w_in (in_t6 (List.mem_of_getElem? (i := 116) (by decide +kernel))) rfl
theorem q1150 : Cond.fieldLink RJ0 9 RJ0 "value" "[B" ∈ wsL_law := w_in (in_t6 (List.mem_of_getElem? (i := 117) (by decide +kernel))) rfl
theorem q1151 : Cond.selects RX4 yX4_wipe yX4_wipe ∈ wsL_law := w_in (in_sel (List.mem_map.mpr ⟨(yX4_wipe, 10), in_priv1 (List.mem_of_getElem? (i := 0) (by decide +kernel)), rfl⟩)) rfl
theorem q1152 : Cond.selects RX4 yX4_countRound yX4_countRound ∈ wsL_law := w_in (in_sel (List.mem_map.mpr ⟨(yX4_countRound, 10), in_priv1 (List.mem_of_getElem? (i := 1) (by decide +kernel)), rfl⟩)) rfl
theorem q1153 : Cond.selects RX4 yX4_countSide yX4_countSide ∈ wsL_law := w_in (in_sel (List.mem_map.mpr ⟨(yX4_countSide, 10), in_priv1 (List.mem_of_getElem? (i := 2) (by decide +kernel)), rfl⟩)) rfl
theorem q1154 : Cond.selects RX4 yX4_addTie yX4_addTie ∈ wsL_law := w_in (in_sel (List.mem_map.mpr ⟨(yX4_addTie, 10), in_priv1 (List.mem_of_getElem? (i := 3) (by decide +kernel)), rfl⟩)) rfl
theorem q1155 : Cond.selects RX4 yX4_countPlayed yX4_countPlayed ∈ wsL_law := w_in (in_sel (List.mem_map.mpr ⟨(yX4_countPlayed, 10), in_priv1 (List.mem_of_getElem? (i := 4) (by decide +kernel)), rfl⟩)) rfl
theorem q1156 : Cond.selects RX4 yX4_compareWithOpponents yX4_compareWithOpponents ∈ wsL_law := w_in (in_sel (List.mem_map.mpr ⟨(yX4_compareWithOpponents, 10), in_priv1 (List.mem_of_getElem? (i := 5) (by decide +kernel)), rfl⟩)) rfl
theorem q1157 : Cond.selects RX4 yX4_stand yX4_stand ∈ wsL_law := w_in (in_sel (List.mem_map.mpr ⟨(yX4_stand, 10), in_priv1 (List.mem_of_getElem? (i := 6) (by decide +kernel)), rfl⟩)) rfl
theorem q1158 : Cond.selects RX4 yX4_isAhead yX4_isAhead ∈ wsL_law := w_in (in_sel (List.mem_map.mpr ⟨(yX4_isAhead, 10), in_priv1 (List.mem_of_getElem? (i := 7) (by decide +kernel)), rfl⟩)) rfl
theorem q1159 : Cond.selects RX6 yX6_move yX6_move ∈ wsL_law := w_in (in_sel (List.mem_map.mpr ⟨(yX6_move, 8), in_priv1 (List.mem_of_getElem? (i := 8) (by decide +kernel)), rfl⟩)) rfl
theorem q1160 : Cond.selects RX6 yX6_isPlayer yX6_isPlayer ∈ wsL_law := w_in (in_sel (List.mem_map.mpr ⟨(yX6_isPlayer, 8), in_priv1 (List.mem_of_getElem? (i := 9) (by decide +kernel)), rfl⟩)) rfl
theorem q1161 : Cond.selects RX6 yX6_areTwo yX6_areTwo ∈ wsL_law := w_in (in_sel (List.mem_map.mpr ⟨(yX6_areTwo, 8), in_priv1 (List.mem_of_getElem? (i := 10) (by decide +kernel)), rfl⟩)) rfl
theorem q1162 : Cond.selects RX1 yX1_seatAll yX1_seatAll ∈ wsL_law := w_in (in_sel (List.mem_map.mpr ⟨(yX1_seatAll, 8), in_priv1 (List.mem_of_getElem? (i := 11) (by decide +kernel)), rfl⟩)) rfl
theorem q1163 : Cond.selects RX1 yX1_giveBye yX1_giveBye ∈ wsL_law := w_in (in_sel (List.mem_map.mpr ⟨(yX1_giveBye, 8), in_priv1 (List.mem_of_getElem? (i := 12) (by decide +kernel)), rfl⟩)) rfl
theorem q1164 : Cond.selects RX1 yX1_seatOfBye yX1_seatOfBye ∈ wsL_law := w_in (in_sel (List.mem_map.mpr ⟨(yX1_seatOfBye, 8), in_priv1 (List.mem_of_getElem? (i := 13) (by decide +kernel)), rfl⟩)) rfl
theorem q1165 : Cond.selects RX1 yX1_noteCosts yX1_noteCosts ∈ wsL_law := w_in (in_sel (List.mem_map.mpr ⟨(yX1_noteCosts, 8), in_priv1 (List.mem_of_getElem? (i := 14) (by decide +kernel)), rfl⟩)) rfl
theorem q1166 : Cond.selects RX1 yX1_wholeSet yX1_wholeSet ∈ wsL_law := w_in (in_sel (List.mem_map.mpr ⟨(yX1_wholeSet, 8), in_priv1 (List.mem_of_getElem? (i := 15) (by decide +kernel)), rfl⟩)) rfl
theorem q1167 : Cond.selects RX1 yX1_isReached yX1_isReached ∈ wsL_law := w_in (in_sel (List.mem_map.mpr ⟨(yX1_isReached, 8), in_priv2 (List.mem_of_getElem? (i := 0) (by decide +kernel)), rfl⟩)) rfl
theorem q1168 : Cond.selects RX1 yX1_weigh yX1_weigh ∈ wsL_law := w_in (in_sel (List.mem_map.mpr ⟨(yX1_weigh, 8), in_priv2 (List.mem_of_getElem? (i := 1) (by decide +kernel)), rfl⟩)) rfl
theorem q1169 : Cond.selects RX1 yX1_sumWith yX1_sumWith ∈ wsL_law := w_in (in_sel (List.mem_map.mpr ⟨(yX1_sumWith, 8), in_priv2 (List.mem_of_getElem? (i := 2) (by decide +kernel)), rfl⟩)) rfl
theorem q1170 : Cond.selects RX1 yX1_earliestMate yX1_earliestMate ∈ wsL_law := w_in (in_sel (List.mem_map.mpr ⟨(yX1_earliestMate, 8), in_priv2 (List.mem_of_getElem? (i := 3) (by decide +kernel)), rfl⟩)) rfl
theorem q1171 : Cond.selects RX1 yX1_seatBoard yX1_seatBoard ∈ wsL_law := w_in (in_sel (List.mem_map.mpr ⟨(yX1_seatBoard, 8), in_priv2 (List.mem_of_getElem? (i := 4) (by decide +kernel)), rfl⟩)) rfl
theorem q1172 : Cond.selects RX1 yX1_hasWhite yX1_hasWhite ∈ wsL_law := w_in (in_sel (List.mem_map.mpr ⟨(yX1_hasWhite, 8), in_priv2 (List.mem_of_getElem? (i := 5) (by decide +kernel)), rfl⟩)) rfl
theorem q1173 : Cond.selects RX6 yX6_isRound yX6_isRound ∈ wsL_law := w_in (in_sel (List.mem_map.mpr ⟨(yX6_isRound, 8), in_priv2 (List.mem_of_getElem? (i := 6) (by decide +kernel)), rfl⟩)) rfl
theorem q1174 : Cond.selects RX6 yX6_pointsMade yX6_pointsMade ∈ wsL_law := w_in (in_sel (List.mem_map.mpr ⟨(yX6_pointsMade, 8), in_priv2 (List.mem_of_getElem? (i := 7) (by decide +kernel)), rfl⟩)) rfl
theorem q1175 : Cond.selects RX6 yX6_readResults yX6_readResults ∈ wsL_law := w_in (in_sel (List.mem_map.mpr ⟨(yX6_readResults, 8), in_priv2 (List.mem_of_getElem? (i := 8) (by decide +kernel)), rfl⟩)) rfl
theorem q1176 : Cond.selects RX6 yX6_faultOfResults yX6_faultOfResults ∈ wsL_law := w_in (in_sel (List.mem_map.mpr ⟨(yX6_faultOfResults, 8), in_priv2 (List.mem_of_getElem? (i := 9) (by decide +kernel)), rfl⟩)) rfl
theorem q1177 : Cond.selects RX6 yX6_faultOfOrder yX6_faultOfOrder ∈ wsL_law := w_in (in_sel (List.mem_map.mpr ⟨(yX6_faultOfOrder, 8), in_priv2 (List.mem_of_getElem? (i := 10) (by decide +kernel)), rfl⟩)) rfl
theorem q1178 : Cond.selects RX6 yX6_readOrder yX6_readOrder ∈ wsL_law := w_in (in_sel (List.mem_map.mpr ⟨(yX6_readOrder, 8), in_priv2 (List.mem_of_getElem? (i := 11) (by decide +kernel)), rfl⟩)) rfl
theorem q1179 : Cond.selects RX6 yX6_writeHalved yX6_writeHalved ∈ wsL_law := w_in (in_sel (List.mem_map.mpr ⟨(yX6_writeHalved, 8), in_priv2 (List.mem_of_getElem? (i := 12) (by decide +kernel)), rfl⟩)) rfl
theorem q1180 : Cond.selects RX6 yX6_writeRound yX6_writeRound ∈ wsL_law := w_in (in_sel (List.mem_map.mpr ⟨(yX6_writeRound, 8), in_priv2 (List.mem_of_getElem? (i := 13) (by decide +kernel)), rfl⟩)) rfl
theorem q1181 : Cond.selects RX6 yX6_refusalOfList yX6_refusalOfList ∈ wsL_law := w_in (in_sel (List.mem_map.mpr ⟨(yX6_refusalOfList, 8), in_priv2 (List.mem_of_getElem? (i := 14) (by decide +kernel)), rfl⟩)) rfl
theorem q1182 : Cond.selects RX7 yX7_wrongPairing yX7_wrongPairing ∈ wsL_law := w_in (in_sel (List.mem_map.mpr ⟨(yX7_wrongPairing, 33), in_priv2 (List.mem_of_getElem? (i := 15) (by decide +kernel)), rfl⟩)) rfl
theorem q1183 : Cond.selects RX7 yX7_manyIn yX7_manyIn ∈ wsL_law := w_in (in_sel (List.mem_map.mpr ⟨(yX7_manyIn, 33), in_priv3 (List.mem_of_getElem? (i := 0) (by decide +kernel)), rfl⟩)) rfl
theorem q1184 : Cond.selects RX7 yX7_layBests yX7_layBests ∈ wsL_law := w_in (in_sel (List.mem_map.mpr ⟨(yX7_layBests, 33), in_priv3 (List.mem_of_getElem? (i := 1) (by decide +kernel)), rfl⟩)) rfl
theorem q1185 : Cond.selects RX7 yX7_layPlaces yX7_layPlaces ∈ wsL_law := w_in (in_sel (List.mem_map.mpr ⟨(yX7_layPlaces, 33), in_priv3 (List.mem_of_getElem? (i := 2) (by decide +kernel)), rfl⟩)) rfl
theorem q1186 : Cond.selects RX7 yX7_layStanding yX7_layStanding ∈ wsL_law := w_in (in_sel (List.mem_map.mpr ⟨(yX7_layStanding, 33), in_priv3 (List.mem_of_getElem? (i := 3) (by decide +kernel)), rfl⟩)) rfl
theorem q1187 : Cond.selects RX7 yX7_tieOf yX7_tieOf ∈ wsL_law := w_in (in_sel (List.mem_map.mpr ⟨(yX7_tieOf, 33), in_priv3 (List.mem_of_getElem? (i := 4) (by decide +kernel)), rfl⟩)) rfl
theorem q1188 : Cond.selects RX7 yX7_pointsOf yX7_pointsOf ∈ wsL_law := w_in (in_sel (List.mem_map.mpr ⟨(yX7_pointsOf, 33), in_priv3 (List.mem_of_getElem? (i := 5) (by decide +kernel)), rfl⟩)) rfl
theorem q1189 : Cond.selects RX7 yX7_done yX7_done ∈ wsL_law := w_in (in_sel (List.mem_map.mpr ⟨(yX7_done, 33), in_priv3 (List.mem_of_getElem? (i := 6) (by decide +kernel)), rfl⟩)) rfl
theorem q1190 : Cond.selects RX7 yX7_pointsBehind yX7_pointsBehind ∈ wsL_law := w_in (in_sel (List.mem_map.mpr ⟨(yX7_pointsBehind, 33), in_priv3 (List.mem_of_getElem? (i := 7) (by decide +kernel)), rfl⟩)) rfl
theorem q1191 : Cond.selects RX7 yX7_madeIn yX7_madeIn ∈ wsL_law := w_in (in_sel (List.mem_map.mpr ⟨(yX7_madeIn, 33), in_priv3 (List.mem_of_getElem? (i := 8) (by decide +kernel)), rfl⟩)) rfl
theorem q1192 : Cond.selects RX7 yX7_boardOf yX7_boardOf ∈ wsL_law := w_in (in_sel (List.mem_map.mpr ⟨(yX7_boardOf, 33), in_priv3 (List.mem_of_getElem? (i := 9) (by decide +kernel)), rfl⟩)) rfl
theorem q1193 : Cond.selects RX7 yX7_madeOn yX7_madeOn ∈ wsL_law := w_in (in_sel (List.mem_map.mpr ⟨(yX7_madeOn, 33), in_priv3 (List.mem_of_getElem? (i := 10) (by decide +kernel)), rfl⟩)) rfl
theorem q1194 : Cond.selects RX7 yX7_opponentsOf yX7_opponentsOf ∈ wsL_law := w_in (in_sel (List.mem_map.mpr ⟨(yX7_opponentsOf, 33), in_priv3 (List.mem_of_getElem? (i := 11) (by decide +kernel)), rfl⟩)) rfl
theorem q1195 : Cond.selects RX7 yX7_playedIn yX7_playedIn ∈ wsL_law := w_in (in_sel (List.mem_map.mpr ⟨(yX7_playedIn, 33), in_priv3 (List.mem_of_getElem? (i := 12) (by decide +kernel)), rfl⟩)) rfl
theorem q1196 : Cond.selects RX7 yX7_otherOn yX7_otherOn ∈ wsL_law := w_in (in_sel (List.mem_map.mpr ⟨(yX7_otherOn, 33), in_priv3 (List.mem_of_getElem? (i := 13) (by decide +kernel)), rfl⟩)) rfl
theorem q1197 : Cond.selects RX7 yX7_beatenOf yX7_beatenOf ∈ wsL_law := w_in (in_sel (List.mem_map.mpr ⟨(yX7_beatenOf, 33), in_priv3 (List.mem_of_getElem? (i := 14) (by decide +kernel)), rfl⟩)) rfl
theorem q1198 : Cond.selects RX7 yX7_winsOf yX7_winsOf ∈ wsL_law := w_in (in_sel (List.mem_map.mpr ⟨(yX7_winsOf, 33), in_priv3 (List.mem_of_getElem? (i := 15) (by decide +kernel)), rfl⟩)) rfl
theorem q1199 : Cond.selects RX7 yX7_blacksOf yX7_blacksOf ∈ wsL_law := w_in (in_sel (List.mem_map.mpr ⟨(yX7_blacksOf, 33), in_priv4 (List.mem_of_getElem? (i := 0) (by decide +kernel)), rfl⟩)) rfl
theorem q1200 : Cond.selects RX7 yX7_growthOf yX7_growthOf ∈ wsL_law := w_in (in_sel (List.mem_map.mpr ⟨(yX7_growthOf, 33), in_priv4 (List.mem_of_getElem? (i := 1) (by decide +kernel)), rfl⟩)) rfl
theorem q1201 : Cond.selects RX7 yX7_directOf yX7_directOf ∈ wsL_law := w_in (in_sel (List.mem_map.mpr ⟨(yX7_directOf, 33), in_priv4 (List.mem_of_getElem? (i := 2) (by decide +kernel)), rfl⟩)) rfl
theorem q1202 : Cond.selects RX7 yX7_aheadOf yX7_aheadOf ∈ wsL_law := w_in (in_sel (List.mem_map.mpr ⟨(yX7_aheadOf, 33), in_priv4 (List.mem_of_getElem? (i := 3) (by decide +kernel)), rfl⟩)) rfl
theorem q1203 : Cond.selects RX7 yX7_isAhead yX7_isAhead ∈ wsL_law := w_in (in_sel (List.mem_map.mpr ⟨(yX7_isAhead, 33), in_priv4 (List.mem_of_getElem? (i := 4) (by decide +kernel)), rfl⟩)) rfl
theorem q1204 : Cond.selects RX7 yX7_differsIn yX7_differsIn ∈ wsL_law := w_in (in_sel (List.mem_map.mpr ⟨(yX7_differsIn, 33), in_priv4 (List.mem_of_getElem? (i := 5) (by decide +kernel)), rfl⟩)) rfl
theorem q1205 : Cond.selects RX7 yX7_layBye yX7_layBye ∈ wsL_law := w_in (in_sel (List.mem_map.mpr ⟨(yX7_layBye, 33), in_priv4 (List.mem_of_getElem? (i := 6) (by decide +kernel)), rfl⟩)) rfl
theorem q1206 : Cond.selects RX7 yX7_byesOf yX7_byesOf ∈ wsL_law := w_in (in_sel (List.mem_map.mpr ⟨(yX7_byesOf, 33), in_priv4 (List.mem_of_getElem? (i := 7) (by decide +kernel)), rfl⟩)) rfl
theorem q1207 : Cond.selects RX7 yX7_forfeitsOf yX7_forfeitsOf ∈ wsL_law := w_in (in_sel (List.mem_map.mpr ⟨(yX7_forfeitsOf, 33), in_priv4 (List.mem_of_getElem? (i := 8) (by decide +kernel)), rfl⟩)) rfl
theorem q1208 : Cond.selects RX7 yX7_metIn yX7_metIn ∈ wsL_law := w_in (in_sel (List.mem_map.mpr ⟨(yX7_metIn, 33), in_priv4 (List.mem_of_getElem? (i := 9) (by decide +kernel)), rfl⟩)) rfl
theorem q1209 : Cond.selects RX7 yX7_costOf yX7_costOf ∈ wsL_law := w_in (in_sel (List.mem_map.mpr ⟨(yX7_costOf, 33), in_priv4 (List.mem_of_getElem? (i := 10) (by decide +kernel)), rfl⟩)) rfl
theorem q1210 : Cond.selects RX7 yX7_balanceOf yX7_balanceOf ∈ wsL_law := w_in (in_sel (List.mem_map.mpr ⟨(yX7_balanceOf, 33), in_priv4 (List.mem_of_getElem? (i := 11) (by decide +kernel)), rfl⟩)) rfl
theorem q1211 : Cond.selects RX7 yX7_playedMany yX7_playedMany ∈ wsL_law := w_in (in_sel (List.mem_map.mpr ⟨(yX7_playedMany, 33), in_priv4 (List.mem_of_getElem? (i := 12) (by decide +kernel)), rfl⟩)) rfl
theorem q1212 : Cond.selects RX7 yX7_latestOf yX7_latestOf ∈ wsL_law := w_in (in_sel (List.mem_map.mpr ⟨(yX7_latestOf, 33), in_priv4 (List.mem_of_getElem? (i := 13) (by decide +kernel)), rfl⟩)) rfl
theorem q1213 : Cond.selects RX7 yX7_earliestWith yX7_earliestWith ∈ wsL_law := w_in (in_sel (List.mem_map.mpr ⟨(yX7_earliestWith, 33), in_priv4 (List.mem_of_getElem? (i := 14) (by decide +kernel)), rfl⟩)) rfl
theorem q1214 : Cond.selects RX7 yX7_putBoard yX7_putBoard ∈ wsL_law := w_in (in_sel (List.mem_map.mpr ⟨(yX7_putBoard, 33), in_priv4 (List.mem_of_getElem? (i := 15) (by decide +kernel)), rfl⟩)) rfl
theorem q1215 : Cond.selects RX7 yX7_isWhite yX7_isWhite ∈ wsL_law := w_in (in_sel (List.mem_map.mpr ⟨(yX7_isWhite, 33), in_priv5 (List.mem_of_getElem? (i := 0) (by decide +kernel)), rfl⟩)) rfl
theorem q1216 : Cond.selects RX7 yX7_isPlayer yX7_isPlayer ∈ wsL_law := w_in (in_sel (List.mem_map.mpr ⟨(yX7_isPlayer, 33), in_priv5 (List.mem_of_getElem? (i := 1) (by decide +kernel)), rfl⟩)) rfl
theorem q1217 : Cond.selects RX7 yX7_areTwo yX7_areTwo ∈ wsL_law := w_in (in_sel (List.mem_map.mpr ⟨(yX7_areTwo, 33), in_priv5 (List.mem_of_getElem? (i := 2) (by decide +kernel)), rfl⟩)) rfl
theorem q1218 : Cond.selects RX7 yX7_withResult yX7_withResult ∈ wsL_law := w_in (in_sel (List.mem_map.mpr ⟨(yX7_withResult, 33), in_priv5 (List.mem_of_getElem? (i := 3) (by decide +kernel)), rfl⟩)) rfl
theorem q1219 : Cond.selects RX7 yX7_isAgain yX7_isAgain ∈ wsL_law := w_in (in_sel (List.mem_map.mpr ⟨(yX7_isAgain, 33), in_priv5 (List.mem_of_getElem? (i := 4) (by decide +kernel)), rfl⟩)) rfl
theorem q1220 : Cond.selects RX7 yX7_writesNumber yX7_writesNumber ∈ wsL_law := w_in (in_sel (List.mem_map.mpr ⟨(yX7_writesNumber, 33), in_priv5 (List.mem_of_getElem? (i := 5) (by decide +kernel)), rfl⟩)) rfl
theorem q1221 : Cond.selects RX7 yX7_writes yX7_writes ∈ wsL_law := w_in (in_sel (List.mem_map.mpr ⟨(yX7_writes, 33), in_priv5 (List.mem_of_getElem? (i := 6) (by decide +kernel)), rfl⟩)) rfl
theorem q1222 : Cond.selects RX7 yX7_writesRound yX7_writesRound ∈ wsL_law := w_in (in_sel (List.mem_map.mpr ⟨(yX7_writesRound, 33), in_priv5 (List.mem_of_getElem? (i := 7) (by decide +kernel)), rfl⟩)) rfl
theorem q1223 : Cond.selects RX7 yX7_metTwos yX7_metTwos ∈ wsL_law := w_in (in_sel (List.mem_map.mpr ⟨(yX7_metTwos, 33), in_priv5 (List.mem_of_getElem? (i := 8) (by decide +kernel)), rfl⟩)) rfl
theorem q1224 : Cond.selects RX7 yX7_allPoints yX7_allPoints ∈ wsL_law := w_in (in_sel (List.mem_map.mpr ⟨(yX7_allPoints, 33), in_priv5 (List.mem_of_getElem? (i := 9) (by decide +kernel)), rfl⟩)) rfl
theorem q1225 : Cond.selects RX7 yX7_carryAll yX7_carryAll ∈ wsL_law := w_in (in_sel (List.mem_map.mpr ⟨(yX7_carryAll, 33), in_priv5 (List.mem_of_getElem? (i := 10) (by decide +kernel)), rfl⟩)) rfl
theorem q1226 : Cond.selects RX7 yX7_carry yX7_carry ∈ wsL_law := w_in (in_sel (List.mem_map.mpr ⟨(yX7_carry, 33), in_priv5 (List.mem_of_getElem? (i := 11) (by decide +kernel)), rfl⟩)) rfl
end
section
/-! the memory of a system: rows of ints by their number; a single int is a constant row -/
abbrev Mm : Type := Nat → Nat → Int32
def st (σ : Mm) (k : Nat) (f : Nat → Int32) : Mm := fun j => if j = k then f else σ j
theorem st_eq (σ : Mm) (k : Nat) (f : Nat → Int32) : st σ k f k = f := if_pos rfl
theorem st_ne (σ : Mm) {j k : Nat} (f : Nat → Int32) (h : j ≠ k) : st σ k f j = σ j := if_neg h
def sc (σ : Mm) (k : Nat) (v : Int32) : Mm := st σ k (fun _ => v)
/-- reading and writing a row of n places; none where the machine would throw -/
def ald (n : Nat) (f : Nat → Int32) (i : Int32) : Option Int32 := if i < 0 ∨ n ≤ i.toNatClampNeg then none else some (f i.toNatClampNeg)
def ast (n : Nat) (σ : Mm) (k : Nat) (i v : Int32) : Option Mm := if i < 0 ∨ n ≤ i.toNatClampNeg then none else some (st σ k (upd (σ k) i.toNatClampNeg v))
def nz (y x : Int32) : Option Int32 := if y = 0 then none else some x
def zb (v : Int32) : Option Int32 := if v = 0 ∨ v = 1 then some v else none
/-- a Row's methods -/
def rat (n : Nat) (f : Nat → Int32) (i : Int32) : Int32 := if i < 0 ∨ n ≤ i.toNatClampNeg then 0 else f i.toNatClampNeg
def rput (n : Nat) (σ : Mm) (k : Nat) (i v : Int32) : Mm := if i < 0 ∨ n ≤ i.toNatClampNeg then σ else st σ k (upd (σ k) i.toNatClampNeg v)
def radd (n : Nat) (σ : Mm) (k : Nat) (i v : Int32) : Mm := if i < 0 ∨ n ≤ i.toNatClampNeg then σ else st σ k (upd (σ k) i.toNatClampNeg (σ k i.toNatClampNeg + v))
def rfill (n : Nat) (σ : Mm) (k : Nat) (v : Int32) : Mm := st σ k (fun j => if j < n then v else σ k j)
def rcopy (n : Nat) (σ : Mm) (k : Nat) (n2 k2 : Nat) : Mm := st σ k (fun j => if j < n then (if j < n2 then σ k2 j else 0) else σ k j)
theorem no_none {α : Type} {x : α} {P : Prop} (h : (none : Option α) = some x) : P := by cases h
/-- loops: a step told of the loop itself, so many times at most -/
def wh1 {A1 α : Type} (f : (A1 → Option α) → A1 → Option α) : Nat → A1 → Option α
  | 0, _ => none
  | n + 1, a1 => f (wh1 f n) a1
def wh2 {A1 A2 α : Type} (f : (A1 → A2 → Option α) → A1 → A2 → Option α) : Nat → A1 → A2 → Option α
  | 0, _, _ => none
  | n + 1, a1, a2 => f (wh2 f n) a1 a2
def wh3 {A1 A2 A3 α : Type} (f : (A1 → A2 → A3 → Option α) → A1 → A2 → A3 → Option α) : Nat → A1 → A2 → A3 → Option α
  | 0, _, _, _ => none
  | n + 1, a1, a2, a3 => f (wh3 f n) a1 a2 a3
def wh4 {A1 A2 A3 A4 α : Type} (f : (A1 → A2 → A3 → A4 → Option α) → A1 → A2 → A3 → A4 → Option α) : Nat → A1 → A2 → A3 → A4 → Option α
  | 0, _, _, _, _ => none
  | n + 1, a1, a2, a3, a4 => f (wh4 f n) a1 a2 a3 a4
def wh5 {A1 A2 A3 A4 A5 α : Type} (f : (A1 → A2 → A3 → A4 → A5 → Option α) → A1 → A2 → A3 → A4 → A5 → Option α) : Nat → A1 → A2 → A3 → A4 → A5 → Option α
  | 0, _, _, _, _, _ => none
  | n + 1, a1, a2, a3, a4, a5 => f (wh5 f n) a1 a2 a3 a4 a5
/-- a world that is a memory's: where its rows and its numbers stand -/
def IsA (ww : Mm → va_W) (cA : ClassId) (k n p a : Nat) : Prop := (∀ σ, (ww σ)[p]? = some (a, .inl (cA, n, .inl (σ k)))) ∧ ∀ (σ : Mm) (f : Nat → Int32), (ww σ).set p (a, .inl (cA, n, .inl f)) = ww (st σ k f)
def IsO (ww : Mm → va_W) (ci q a : Nat) : Prop := ∀ σ, ∃ fs, (ww σ)[q]? = some (a, .inr (ci, fs))
def IsV (ww : Mm → va_W) (ci q a i : Nat) (v : Value) : Prop := ∀ σ, ∃ fs, (ww σ)[q]? = some (a, .inr (ci, fs)) ∧ fs[i]? = some v
def IsI (ww : Mm → va_W) (ci q a i k : Nat) : Prop := ∀ σ, ∃ fs, (ww σ)[q]? = some (a, .inr (ci, fs)) ∧ fs[i]? = some (.int (σ k 0)) ∧ ∀ v, (ww σ).set q (a, .inr (ci, fs.set i (.int v))) = ww (sc σ k v)
theorem IsV.o {ww : Mm → va_W} {ci q a i : Nat} {v : Value} (h : IsV ww ci q a i v) : IsO ww ci q a := fun σ => by obtain ⟨fs, h1, -⟩ := h σ; exact ⟨fs, h1⟩
theorem IsI.o {ww : Mm → va_W} {ci q a i k : Nat} (h : IsI ww ci q a i k) : IsO ww ci q a := fun σ => by obtain ⟨fs, h1, -⟩ := h σ; exact ⟨fs, h1⟩
def BD (D : va_G) (A : Nat → Prop) (H0 : Heap) (ws : va_W) (H : Heap) (locs : List Loc) : Prop := va_P D vwCl ws H ∧ va_D A ws ∧ va_S A H0 H locs
/-- contracts: from a memory, by a function that says what comes; int, void, and an int that changes nothing -/
def QI (D : va_G) (tys : List (ClassId × FieldType)) (ww : Mm → va_W) (A : Nat → Prop) (out : Int32 × Mm) : Array Value → State → Outcome → State → Prop :=
  va_Qi (fun (r : Int32) (u : Mm) => r = out.1 ∧ u = out.2) (fun u t => va_P D vwCl (ww u) t.heap ∧ va_K D vwCl tys t ∧ va_D A (ww u)) A
def QV (D : va_G) (tys : List (ClassId × FieldType)) (ww : Mm → va_W) (A : Nat → Prop) (out : Mm) : Array Value → State → Outcome → State → Prop :=
  va_Qv (fun (u : Mm) => u = out) (fun u t => va_P D vwCl (ww u) t.heap ∧ va_K D vwCl tys t ∧ va_D A (ww u)) A
def PC (D : va_G) (tys : List (ClassId × FieldType)) (ws : va_W) (as : List Value) (sz : Nat) : Array Value → State → Prop :=
  va_Pc as (fun U => U.heap.size = sz ∧ va_P D vwCl ws U.heap ∧ va_K D vwCl tys U ∧ va_D (fun _ => True) ws)
def CTi (l : Launch) (D : va_G) (tys : List (ClassId × FieldType)) (ww : Mm → va_W) (y : MethodName) (wds : List Cond) (rm : Room) (as : List Value) (f : Mm → Option (Int32 × Mm)) : Prop :=
  ∀ (sz : Nat) (σ : Mm) (out : Int32 × Mm), f σ = some out → Met l y wds rm (PC D tys (ww σ) as sz) (QI D tys ww (va_A (ww σ) sz) out) 0 0 (va_A (ww σ) sz)
def CTv (l : Launch) (D : va_G) (tys : List (ClassId × FieldType)) (ww : Mm → va_W) (y : MethodName) (wds : List Cond) (rm : Room) (as : List Value) (f : Mm → Option Mm) : Prop :=
  ∀ (sz : Nat) (σ : Mm) (out : Mm), f σ = some out → Met l y wds rm (PC D tys (ww σ) as sz) (QV D tys ww (va_A (ww σ) sz) out) 0 0 (va_A (ww σ) sz)
def CTr (l : Launch) (D : va_G) (tys : List (ClassId × FieldType)) (ww : Mm → va_W) (y : MethodName) (wds : List Cond) (rm : Room) (as : List Value) (f : Mm → Option Int32) : Prop :=
  ∀ (sz : Nat) (σ : Mm) (r : Int32), f σ = some r → Met l y wds rm (PC D tys (ww σ) as sz) (QI D tys ww (va_A (ww σ) sz) (r, σ)) 0 0 (va_A (ww σ) sz)
/-- what the tables say of a method that is called -/
def MI (y : MethodName) (bytes : ByteArray) (maxL : Nat) (ret : Option FieldType) (n : Nat) : Prop :=
  (y.cls ≠ "java/lang/invoke/MethodHandle" ∧ y.cls ≠ "java/lang/invoke/VarHandle" ∧ (parseMethodDescriptor y.desc).map (fun d => d.parameters.length) = some n) ∧ Cond.initialized y.cls ∈ wsL_law ∧ Cond.code y bytes maxL ret ∈ wsL_law
def MV (y : MethodName) : Prop := Cond.instanceMethod y ∈ wsL_law ∧ Cond.selects y.cls y y ∈ wsL_law
/-- every word of the list holds wherever the launch has got to -/
theorem w_pay {s : State} {args : Array Value} (hT : ∀ w ∈ wsL_law, w.before args s = true) : ∀ w ∈ wsL_law, ∀ (a' : Array Value) (U : State), s.WarmedH U.vm → w.before a' U = true := by
  intro w hw a' U hW
  have h := hT w hw
  have hg := (List.mem_filter.mp hw).2
  rcases (Bool.or_eq_true _ _).mp hg with g | g
  · exact word_at hW (good_of_word g) h
  · cases w <;> first | (cases g; done) | exact va_Nw.use rfl (va_Nw.warmF hW (va_Nw.of rfl h)) | exact va_Nw.use rfl (va_Nw.warmM hW (va_Nw.of rfl h))
theorem w_payC {s : State} {args : Array Value} {v : Cond} (hT : ∀ w ∈ wsL_law, w.before args s = true) (hv : v ∈ wsL_law) : ∀ w ∈ v :: wsL_law, ∀ (a' : Array Value) (U : State), s.WarmedH U.vm → w.before a' U = true := by
  intro w hw
  rcases List.mem_cons.mp hw with rfl | hw
  · exact w_pay hT _ hv
  · exact w_pay hT _ hw
theorem cb_of {s : State} {args : Array Value} {R rm : Room} {own : String} {index maxL n : Nat} {y : MethodName} {bytes : ByteArray} {ret : Option FieldType} (hT : ∀ w ∈ wsL_law, w.before args s = true) (hy : MI y bytes maxL ret n) (hl : Cond.methodLink own index y ∈ wsL_law) (hrc : rm.cells = 0 ∧ rm.slots = 0) (hR : rm.frames + 1 ≤ R.frames ∧ 8 + (maxL + 11) + rm.locals ≤ R.locals) :
    CallB R s args own index y bytes maxL ret (.code y bytes maxL ret :: wsL_law) rm 0 0 n := by
  obtain ⟨⟨h1, h2, h3⟩, h4, h5⟩ := hy
  refine ⟨hrc.1, hrc.2, hR.1, hR.2, w_payC hT h5, List.mem_cons_self, hT _ h5, hT _ h4, ⟨h1, h2⟩, fun sig h => ?_, hT _ hl⟩
  rw [h] at h3
  exact (Option.some.inj h3).symm
theorem cn_of {s : State} {args : Array Value} {R rm : Room} {own host : String} {index maxL n : Nat} {y : MethodName} {bytes : ByteArray} {ret : Option FieldType} (hT : ∀ w ∈ wsL_law, w.before args s = true) (hy : MI y bytes maxL ret n) (hl : Cond.methodLinkNest own index y host ∈ wsL_law) (hrc : rm.cells = 0 ∧ rm.slots = 0) (hR : rm.frames + 1 ≤ R.frames ∧ 8 + (maxL + 11) + rm.locals ≤ R.locals) :
    va_CN R s args own index y host bytes maxL ret (.code y bytes maxL ret :: wsL_law) rm 0 0 n := by
  obtain ⟨⟨h1, h2, h3⟩, h4, h5⟩ := hy
  refine ⟨⟨hrc.1, hrc.2, hR.1, hR.2, w_payC hT h5, List.mem_cons_self⟩, hT _ h5, hT _ h4, ⟨h1, h2⟩, fun sig h => ?_, hT _ hl⟩
  rw [h] at h3
  exact (Option.some.inj h3).symm
theorem fr_all {A : Nat → Prop} {ws : va_W} {H0 H : Heap} {locs : List Loc} (hD : va_D A ws) (hS : va_S A H0 H locs) (hA : ∀ q, H0.size ≤ q → A q) : ∀ q, va_A ws H.size q → A q := by
  intro q h
  rcases h with ⟨k, e, h⟩ | h
  · exact hD.2 k (q, e) h
  · exact hA q (Nat.le_trans hS.1 h)
theorem pc_blind {D : va_G} {tys : List (ClassId × FieldType)} {ws : va_W} {as : List Value} {sz : Nat} : FrameBlind (PC D tys ws as sz) := by
  intro a U g mk q
  obtain ⟨q0, q1, qP, qK, qD⟩ := q
  exact ⟨q0, q1, qP, va_K.moved (u := U) (U := U.calling g mk a) (Vm.Alike.refl U.vm) qK, qD⟩
section XR
variable {p : Program} {l : Launch} {e : Env} {R : Room} {s : State} {m : MethodId} {args : Array Value} {below : List Frame} {meth : Method} {c : Code} {H : Heap} {locs : List Loc} {Q : State → Prop}
variable {cc : ByteArray} {pc : Nat} {ls : Array Slot} {rest : List Value} {D : va_G} {A : Nat → Prop} {a : Nat} {tys : List (ClassId × FieldType)} {ww : Mm → va_W} {H0 : Heap} {σ : Mm} {α : Type} {out : α}
theorem x_getv {own ref C : String} {T : u_T} {N ci index q k : Nat} {v : Value} (hx : p.tables.exec = Jvm.exec) (hb : c.code = cc) (hT : ∀ w ∈ wsL_law, w.before args s = true) (hown : s.vm.findClass own = some m.cls) (hK : va_K D vwCl tys s) (B : BD D A H0 (ww σ) H locs)
    (hV : IsV ww ci q a k v) (hin : ∀ w ∈ u_ws C T N, w ∈ wsL_law) (hc : vwCl[ci]? = some (C, T, N)) (hk : k < N) (hlk : Cond.fieldLink own index ref (T k).2.1 (T k).2.2.1 ∈ wsL_law) (hr : ref = (T k).1) (hdg : decode cc pc = .ok (.getfield index, 3))
    (kk : W p l e R s m args below meth c H locs 0 0 Q (F0 m (pc + 3) ls (v :: rest))) : W p l e R s m args below meth c H locs 0 0 Q (F0 m pc ls (.ref a :: rest)) := by
  obtain ⟨fs, h1, h2⟩ := hV σ
  subst hr
  exact va_get hx hb hT hin hown hK B.1 q h1 hc k hk (hT _ hlk) (fun _ h9 => h9) h2 hdg kk
theorem x_geti {own ref C : String} {T : u_T} {N ci index q k i : Nat} (hx : p.tables.exec = Jvm.exec) (hb : c.code = cc) (hT : ∀ w ∈ wsL_law, w.before args s = true) (hown : s.vm.findClass own = some m.cls) (hK : va_K D vwCl tys s) (B : BD D A H0 (ww σ) H locs)
    (hV : IsI ww ci q a i k) (hin : ∀ w ∈ u_ws C T N, w ∈ wsL_law) (hc : vwCl[ci]? = some (C, T, N)) (hk : i < N) (hlk : Cond.fieldLink own index ref (T i).2.1 (T i).2.2.1 ∈ wsL_law) (hr : ref = (T i).1) (hdg : decode cc pc = .ok (.getfield index, 3))
    (kk : W p l e R s m args below meth c H locs 0 0 Q (F0 m (pc + 3) ls (.int (σ k 0) :: rest))) : W p l e R s m args below meth c H locs 0 0 Q (F0 m pc ls (.ref a :: rest)) := by
  obtain ⟨fs, h1, h2, -⟩ := hV σ
  subst hr
  exact va_get hx hb hT hin hown hK B.1 q h1 hc i hk (hT _ hlk) (fun _ h9 => h9) h2 hdg kk
theorem x_puti {own ref C : String} {T : u_T} {N ci index q k i : Nat} {ty0 : Nat → FieldType} {ty : FieldType} {v : Int32} {body : Mm → Option α} (hx : p.tables.exec = Jvm.exec) (hb : c.code = cc) (hT : ∀ w ∈ wsL_law, w.before args s = true) (hown : s.vm.findClass own = some m.cls) (hK : va_K D vwCl tys s) (B : BD D A H0 (ww σ) H locs)
    (hV : IsI ww ci q a i k) (hin : ∀ w ∈ u_ws C T N, w ∈ wsL_law) (hty : ∀ k, k < N → parseFieldDescriptor (T k).2.2.1 = some (ty0 k)) (hnm : ∀ a, a < N → ∀ b, b < N → a ≠ b → (T a).2.1 ≠ (T b).2.1) (hc : vwCl[ci]? = some (C, T, N)) (hk : i < N) (hlk : Cond.fieldLink own index ref (T i).2.1 (T i).2.2.1 ∈ wsL_law) (hr : ref = (T i).1) (hfin : (T i).2.2.2 = false) (hd : ty0 i = ty) (hn : narrow ty (.int v) = .int v) (hfit : fits ty (.int v) = true) (hdg : decode cc pc = .ok (.putfield index, 3))
    (hm : (some (sc σ k v)).bind body = some out)
    (kk : ∀ (σ1 : Mm) (H1 : Heap) (locs1 : List Loc), BD D A H0 (ww σ1) H1 locs1 → body σ1 = some out → W p l e R s m args below meth c H1 locs1 0 0 Q (F0 m (pc + 3) ls rest)) : W p l e R s m args below meth c H locs 0 0 Q (F0 m pc ls (.int v :: .ref a :: rest)) := by
  obtain ⟨fs, h1, h2, h3⟩ := hV σ
  subst hr
  refine va_put hx hb hT hin ty0 hty hnm hown hK B.1 B.2.1 B.2.2 q h1 hc i hk (hT _ hlk) (fun _ h9 => h9) hfin (hty i hk) (by rw [hd]; exact hn) (by rw [hd]; exact hfit) (List.getElem?_eq_some_iff.mp h2).1 hdg (fun H1 locs1 hP hD hS => ?_)
  rw [h3 v] at hP hD
  exact kk (sc σ k v) H1 locs1 ⟨hP, hD, hS⟩ hm
theorem x_getib {own ref C : String} {T : u_T} {N ci index q k i : Nat} {body : Int32 → Option α} (hx : p.tables.exec = Jvm.exec) (hb : c.code = cc) (hT : ∀ w ∈ wsL_law, w.before args s = true) (hown : s.vm.findClass own = some m.cls) (hK : va_K D vwCl tys s) (B : BD D A H0 (ww σ) H locs)
    (hV : IsI ww ci q a i k) (hin : ∀ w ∈ u_ws C T N, w ∈ wsL_law) (hc : vwCl[ci]? = some (C, T, N)) (hk : i < N) (hlk : Cond.fieldLink own index ref (T i).2.1 (T i).2.2.1 ∈ wsL_law) (hr : ref = (T i).1) (hdg : decode cc pc = .ok (.getfield index, 3))
    (hm : (some (σ k 0)).bind body = some out) (kk : ∀ v : Int32, body v = some out → W p l e R s m args below meth c H locs 0 0 Q (F0 m (pc + 3) ls (.int v :: rest))) : W p l e R s m args below meth c H locs 0 0 Q (F0 m pc ls (.ref a :: rest)) := by
  obtain ⟨fs, h1, h2, -⟩ := hV σ
  subst hr
  exact va_get hx hb hT hin hown hK B.1 q h1 hc i hk (hT _ hlk) (fun _ h9 => h9) h2 hdg (kk _ hm)
theorem x_getvN {own ref C host : String} {T : u_T} {N ci index q k : Nat} {v : Value} (hx : p.tables.exec = Jvm.exec) (hb : c.code = cc) (hT : ∀ w ∈ wsL_law, w.before args s = true) (hown : s.vm.findClass own = some m.cls) (hK : va_K D vwCl tys s) (B : BD D A H0 (ww σ) H locs)
    (hV : IsV ww ci q a k v) (hin : ∀ w ∈ u_ws C T N, w ∈ wsL_law) (hc : vwCl[ci]? = some (C, T, N)) (hk : k < N) (hlk : Cond.fieldLinkNest own index ref (T k).2.1 (T k).2.2.1 host ∈ wsL_law) (hr : ref = (T k).1) (hdg : decode cc pc = .ok (.getfield index, 3))
    (kk : W p l e R s m args below meth c H locs 0 0 Q (F0 m (pc + 3) ls (v :: rest))) : W p l e R s m args below meth c H locs 0 0 Q (F0 m pc ls (.ref a :: rest)) := by
  obtain ⟨fs, h1, h2⟩ := hV σ
  subst hr
  exact va_getN hx hb hT hin hown hK B.1 q h1 hc k hk (hT _ hlk) (fun _ h9 => h9) h2 hdg kk
theorem x_getiN {own ref C host : String} {T : u_T} {N ci index q k i : Nat} (hx : p.tables.exec = Jvm.exec) (hb : c.code = cc) (hT : ∀ w ∈ wsL_law, w.before args s = true) (hown : s.vm.findClass own = some m.cls) (hK : va_K D vwCl tys s) (B : BD D A H0 (ww σ) H locs)
    (hV : IsI ww ci q a i k) (hin : ∀ w ∈ u_ws C T N, w ∈ wsL_law) (hc : vwCl[ci]? = some (C, T, N)) (hk : i < N) (hlk : Cond.fieldLinkNest own index ref (T i).2.1 (T i).2.2.1 host ∈ wsL_law) (hr : ref = (T i).1) (hdg : decode cc pc = .ok (.getfield index, 3))
    (kk : W p l e R s m args below meth c H locs 0 0 Q (F0 m (pc + 3) ls (.int (σ k 0) :: rest))) : W p l e R s m args below meth c H locs 0 0 Q (F0 m pc ls (.ref a :: rest)) := by
  obtain ⟨fs, h1, h2, -⟩ := hV σ
  subst hr
  exact va_getN hx hb hT hin hown hK B.1 q h1 hc i hk (hT _ hlk) (fun _ h9 => h9) h2 hdg kk
theorem x_getibN {own ref C host : String} {T : u_T} {N ci index q k i : Nat} {body : Int32 → Option α} (hx : p.tables.exec = Jvm.exec) (hb : c.code = cc) (hT : ∀ w ∈ wsL_law, w.before args s = true) (hown : s.vm.findClass own = some m.cls) (hK : va_K D vwCl tys s) (B : BD D A H0 (ww σ) H locs)
    (hV : IsI ww ci q a i k) (hin : ∀ w ∈ u_ws C T N, w ∈ wsL_law) (hc : vwCl[ci]? = some (C, T, N)) (hk : i < N) (hlk : Cond.fieldLinkNest own index ref (T i).2.1 (T i).2.2.1 host ∈ wsL_law) (hr : ref = (T i).1) (hdg : decode cc pc = .ok (.getfield index, 3))
    (hm : (some (σ k 0)).bind body = some out) (kk : ∀ v : Int32, body v = some out → W p l e R s m args below meth c H locs 0 0 Q (F0 m (pc + 3) ls (.int v :: rest))) : W p l e R s m args below meth c H locs 0 0 Q (F0 m pc ls (.ref a :: rest)) := by
  obtain ⟨fs, h1, h2, -⟩ := hV σ
  subst hr
  exact va_getN hx hb hT hin hown hK B.1 q h1 hc i hk (hT _ hlk) (fun _ h9 => h9) h2 hdg (kk _ hm)
theorem x_putiN {own ref C host : String} {T : u_T} {N ci index q k i : Nat} {ty0 : Nat → FieldType} {ty : FieldType} {v : Int32} {body : Mm → Option α} (hx : p.tables.exec = Jvm.exec) (hb : c.code = cc) (hT : ∀ w ∈ wsL_law, w.before args s = true) (hown : s.vm.findClass own = some m.cls) (hK : va_K D vwCl tys s) (B : BD D A H0 (ww σ) H locs)
    (hV : IsI ww ci q a i k) (hin : ∀ w ∈ u_ws C T N, w ∈ wsL_law) (hty : ∀ k, k < N → parseFieldDescriptor (T k).2.2.1 = some (ty0 k)) (hnm : ∀ a, a < N → ∀ b, b < N → a ≠ b → (T a).2.1 ≠ (T b).2.1) (hc : vwCl[ci]? = some (C, T, N)) (hk : i < N) (hlk : Cond.fieldLinkNest own index ref (T i).2.1 (T i).2.2.1 host ∈ wsL_law) (hr : ref = (T i).1) (hfin : (T i).2.2.2 = false) (hd : ty0 i = ty) (hn : narrow ty (.int v) = .int v) (hfit : fits ty (.int v) = true) (hdg : decode cc pc = .ok (.putfield index, 3))
    (hm : (some (sc σ k v)).bind body = some out)
    (kk : ∀ (σ1 : Mm) (H1 : Heap) (locs1 : List Loc), BD D A H0 (ww σ1) H1 locs1 → body σ1 = some out → W p l e R s m args below meth c H1 locs1 0 0 Q (F0 m (pc + 3) ls rest)) : W p l e R s m args below meth c H locs 0 0 Q (F0 m pc ls (.int v :: .ref a :: rest)) := by
  obtain ⟨fs, h1, h2, h3⟩ := hV σ
  subst hr
  refine va_putN hx hb hT hin ty0 hty hnm hown hK B.1 B.2.1 B.2.2 q h1 hc i hk (hT _ hlk) (fun _ h9 => h9) hfin (hty i hk) (by rw [hd]; exact hn) (by rw [hd]; exact hfit) (List.getElem?_eq_some_iff.mp h2).1 hdg (fun H1 locs1 hP hD hS => ?_)
  rw [h3 v] at hP hD
  exact kk (sc σ k v) H1 locs1 ⟨hP, hD, hS⟩ hm
theorem x_iald {cA : ClassId} {k n q t0 : Nat} {i : Int32} {body : Int32 → Option α} (hx : p.tables.exec = Jvm.exec) (hb : c.code = cc) (hK : va_K D vwCl tys s) (B : BD D A H0 (ww σ) H locs) (hI : IsA ww cA k n q a) (ht : tys[t0]? = some (cA, .int)) (hdg : decode cc pc = .ok (.iaload, 1))
    (hm : (ald n (σ k) i).bind body = some out) (kk : ∀ v : Int32, body v = some out → W p l e R s m args below meth c H locs 0 0 Q (F0 m (pc + 1) ls (.int v :: rest))) : W p l e R s m args below meth c H locs 0 0 Q (F0 m pc ls (.int i :: .ref a :: rest)) := by
  unfold ald at hm
  split at hm
  · exact no_none hm
  · rename_i h
    exact va_iald hx hb hK B.1 q t0 (hI.1 σ) ht h hdg (kk _ hm)
theorem x_zald {cA : ClassId} {k n q t0 : Nat} {i : Int32} {body : Int32 → Option α} (hx : p.tables.exec = Jvm.exec) (hb : c.code = cc) (hK : va_K D vwCl tys s) (B : BD D A H0 (ww σ) H locs) (hI : IsA ww cA k n q a) (ht : tys[t0]? = some (cA, .boolean)) (hdg : decode cc pc = .ok (.baload, 1))
    (hm : (ald n (σ k) i).bind body = some out) (kk : ∀ v : Int32, body v = some out → W p l e R s m args below meth c H locs 0 0 Q (F0 m (pc + 1) ls (.int v :: rest))) : W p l e R s m args below meth c H locs 0 0 Q (F0 m pc ls (.int i :: .ref a :: rest)) := by
  unfold ald at hm
  split at hm
  · exact no_none hm
  · rename_i h
    exact va_zald hx hb hK B.1 q t0 (hI.1 σ) ht h hdg (kk _ hm)
theorem x_iast {cA : ClassId} {k n q t0 : Nat} {i v : Int32} {body : Mm → Option α} (hx : p.tables.exec = Jvm.exec) (hb : c.code = cc) (hK : va_K D vwCl tys s) (B : BD D A H0 (ww σ) H locs) (hI : IsA ww cA k n q a) (ht : tys[t0]? = some (cA, .int)) (hdg : decode cc pc = .ok (.iastore, 1))
    (hm : (ast n σ k i v).bind body = some out) (kk : ∀ (σ1 : Mm) (H1 : Heap) (locs1 : List Loc), BD D A H0 (ww σ1) H1 locs1 → body σ1 = some out → W p l e R s m args below meth c H1 locs1 0 0 Q (F0 m (pc + 1) ls rest)) : W p l e R s m args below meth c H locs 0 0 Q (F0 m pc ls (.int v :: .int i :: .ref a :: rest)) := by
  unfold ast at hm
  split at hm
  · exact no_none hm
  · rename_i h
    refine va_iast hx hb hK B.1 B.2.1 B.2.2 q t0 (hI.1 σ) ht h hdg (fun H1 locs1 hP hD hS => ?_)
    rw [hI.2] at hP hD
    exact kk _ H1 locs1 ⟨hP, hD, hS⟩ hm
theorem x_zast {cA : ClassId} {k n q t0 : Nat} {i v : Int32} {body : Mm → Option α} (hx : p.tables.exec = Jvm.exec) (hb : c.code = cc) (hK : va_K D vwCl tys s) (B : BD D A H0 (ww σ) H locs) (hI : IsA ww cA k n q a) (ht : tys[t0]? = some (cA, .boolean)) (hv : vp_nar .boolean v = v) (hdg : decode cc pc = .ok (.bastore, 1))
    (hm : (ast n σ k i v).bind body = some out) (kk : ∀ (σ1 : Mm) (H1 : Heap) (locs1 : List Loc), BD D A H0 (ww σ1) H1 locs1 → body σ1 = some out → W p l e R s m args below meth c H1 locs1 0 0 Q (F0 m (pc + 1) ls rest)) : W p l e R s m args below meth c H locs 0 0 Q (F0 m pc ls (.int v :: .int i :: .ref a :: rest)) := by
  unfold ast at hm
  split at hm
  · exact no_none hm
  · rename_i h
    refine va_zast hx hb hK B.1 B.2.1 B.2.2 q t0 (hI.1 σ) ht h hdg (fun H1 locs1 hP hD hS => ?_)
    rw [hv, hI.2] at hP hD
    exact kk _ H1 locs1 ⟨hP, hD, hS⟩ hm
theorem x_alen {cA : ClassId} {k n q t0 : Nat} {ty : FieldType} {v : Int32} (hx : p.tables.exec = Jvm.exec) (hb : c.code = cc) (hK : va_K D vwCl tys s) (B : BD D A H0 (ww σ) H locs) (hI : IsA ww cA k n q a) (ht : tys[t0]? = some (cA, ty)) (hv : Int32.ofNat n = v) (hdg : decode cc pc = .ok (.arraylength, 1))
    (kk : W p l e R s m args below meth c H locs 0 0 Q (F0 m (pc + 1) ls (.int v :: rest))) : W p l e R s m args below meth c H locs 0 0 Q (F0 m pc ls (.ref a :: rest)) :=
  va_alen hx hb hK B.1 q t0 (hI.1 σ) ht hv hdg kk
theorem x_idiv {x y : Int32} {body : Int32 → Option α} (hx : p.tables.exec = Jvm.exec) (hb : c.code = cc) (hdg : decode cc pc = .ok (.idiv, 1)) (hm : (nz y (x / y)).bind body = some out)
    (kk : ∀ v : Int32, body v = some out → W p l e R s m args below meth c H locs 0 0 Q (F0 m (pc + 1) ls (.int v :: rest))) : W p l e R s m args below meth c H locs 0 0 Q (F0 m pc ls (.int y :: .int x :: rest)) := by
  unfold nz at hm
  split at hm
  · exact no_none hm
  · rename_i h
    exact lv_idiv hx hb hdg h (kk _ hm)
theorem x_irem {x y : Int32} {body : Int32 → Option α} (hx : p.tables.exec = Jvm.exec) (hb : c.code = cc) (hdg : decode cc pc = .ok (.irem, 1)) (hm : (nz y (x - x / y * y)).bind body = some out)
    (kk : ∀ v : Int32, body v = some out → W p l e R s m args below meth c H locs 0 0 Q (F0 m (pc + 1) ls (.int v :: rest))) : W p l e R s m args below meth c H locs 0 0 Q (F0 m pc ls (.int y :: .int x :: rest)) := by
  unfold nz at hm
  split at hm
  · exact no_none hm
  · rename_i h
    exact lv_irem hx hb hdg h (kk _ hm)
end XR
section XC
variable {p : Program} {l : Launch} {e : Env} {R : Room} {s : State} {m : MethodId} {args : Array Value} {below : List Frame} {meth : Method} {c : Code} {H : Heap} {locs : List Loc} {Q : State → Prop}
variable {cc : ByteArray} {pc nL : Nat} {ls : Array Slot} {rest : List Value} {D : va_G} {A : Nat → Prop} {a : Nat} {tys : List (ClassId × FieldType)} {ww : Mm → va_W} {H0 : Heap} {σ : Mm} {α : Type} {out : α}
/-- behind a call that had the whole world -/
theorem bd_back {σ1 : Mm} {H1 : Heap} {locs1 : List Loc} (hA : ∀ q, H0.size ≤ q → A q) (B : BD D A H0 (ww σ) H locs) (hP1 : va_P D vwCl (ww σ1) H1) (hD1 : va_D (va_A (ww σ) H.size) (ww σ1)) (hS1 : va_S A H0 H1 locs1) : BD D A H0 (ww σ1) H1 locs1 :=
  ⟨hP1, hD1.weaken (fun _ q _ h => fr_all B.2.1 B.2.2 hA q.1 h), hS1⟩
theorem x_callVi {own : String} {index maxL n ci q : Nat} {y : MethodName} {bytes : ByteArray} {ret : Option FieldType} {rm : Room} {As : List Value} {f : Mm → Option (Int32 × Mm)} {body : Int32 × Mm → Option α}
    (hx : p.tables.exec = Jvm.exec) (hb : c.code = cc) (hml : c.maxLocals = nL) (hT : ∀ w ∈ wsL_law, w.before args s = true) (hown : s.vm.findClass own = some m.cls) (hK : va_K D vwCl tys s) (hA : ∀ q, H0.size ≤ q → A q) (B : BD D A H0 (ww σ) H locs) (hl : ls.size = nL)
    (hM : CTi l D tys ww y (.code y bytes maxL ret :: wsL_law) rm (.ref a :: As) f) (hy : MI y bytes maxL ret n) (hv : MV y) (hO : IsO ww ci q a) (hc : (vwCl[ci]?).map (fun r => r.1) = some y.cls) (hlk : Cond.methodLink own index y ∈ wsL_law)
    (hrc : rm.cells = 0 ∧ rm.slots = 0) (hR : rm.frames + 1 ≤ R.frames ∧ 8 + (maxL + 11) + rm.locals ≤ R.locals) (hn : As.length = n) {st0 : List Value} (hst : st0 = As.reverse ++ .ref a :: rest) (hW : (rest.map fun v => v.category).sum ≤ 8) (hdg : decode cc pc = .ok (.invokevirtual index, 3))
    (hm : (f σ).bind body = some out) (kk : ∀ (r : Int32) (σ1 : Mm) (H1 : Heap) (locs1 : List Loc), BD D A H0 (ww σ1) H1 locs1 → body (r, σ1) = some out → W p l e R s m args below meth c H1 locs1 0 0 Q (F0 m (pc + 3) ls (.int r :: rest))) : W p l e R s m args below meth c H locs 0 0 Q (F0 m pc ls st0) := by
  obtain ⟨⟨r0, σ1⟩, hf, hm⟩ := Option.bind_eq_some_iff.mp hm
  obtain ⟨fs, hO⟩ := hO σ
  obtain ⟨rc, hc1, hc2⟩ := Option.map_eq_some_iff.mp hc
  subst hst
  refine va_calli (va_runV (As := As) (rest := rest) (C := y.cls) (n := n) ⟨hx, hb, hml, hown, hT⟩ (hM H.size σ _ hf) ⟨cb_of hT hy hlk hrc hR, hT _ hv.1, hT _ hv.2⟩ ⟨pc_blind, by rw [← hc2]; exact va_recv hK B.1 hc1 hO, fun U hU hW => ⟨rfl, by rw [hU], by rw [hU]; exact B.1, va_K.moved hW.alike hK, B.2.1.weaken (fun _ _ _ _ => trivial)⟩⟩ rfl hn hl rfl (lv_room hW) hdg ⟨Nat.zero_le _, Nat.zero_le _⟩) B.2.2 (fun q _ h => fr_all B.2.1 B.2.2 hA q h) (fr_all B.2.1 B.2.2 hA) (fun r u t H1 locs1 ht hvm hw hB hz1 hk1 hS => ?_)
  obtain ⟨e1, e2⟩ := hw
  obtain ⟨hP1, hK1, hD1⟩ := hB
  rw [ht] at hP1
  dsimp only at e1 e2
  subst e1; subst e2
  exact kk _ _ H1 locs1 (bd_back hA B hP1 hD1 hS) hm
theorem x_callVv {own : String} {index maxL n ci q : Nat} {y : MethodName} {bytes : ByteArray} {ret : Option FieldType} {rm : Room} {As : List Value} {f : Mm → Option Mm} {body : Mm → Option α}
    (hx : p.tables.exec = Jvm.exec) (hb : c.code = cc) (hml : c.maxLocals = nL) (hT : ∀ w ∈ wsL_law, w.before args s = true) (hown : s.vm.findClass own = some m.cls) (hK : va_K D vwCl tys s) (hA : ∀ q, H0.size ≤ q → A q) (B : BD D A H0 (ww σ) H locs) (hl : ls.size = nL)
    (hM : CTv l D tys ww y (.code y bytes maxL ret :: wsL_law) rm (.ref a :: As) f) (hy : MI y bytes maxL ret n) (hv : MV y) (hO : IsO ww ci q a) (hc : (vwCl[ci]?).map (fun r => r.1) = some y.cls) (hlk : Cond.methodLink own index y ∈ wsL_law)
    (hrc : rm.cells = 0 ∧ rm.slots = 0) (hR : rm.frames + 1 ≤ R.frames ∧ 8 + (maxL + 11) + rm.locals ≤ R.locals) (hn : As.length = n) {st0 : List Value} (hst : st0 = As.reverse ++ .ref a :: rest) (hW : (rest.map fun v => v.category).sum ≤ 8) (hdg : decode cc pc = .ok (.invokevirtual index, 3))
    (hm : (f σ).bind body = some out) (kk : ∀ (σ1 : Mm) (H1 : Heap) (locs1 : List Loc), BD D A H0 (ww σ1) H1 locs1 → body σ1 = some out → W p l e R s m args below meth c H1 locs1 0 0 Q (F0 m (pc + 3) ls rest)) : W p l e R s m args below meth c H locs 0 0 Q (F0 m pc ls st0) := by
  obtain ⟨σ1, hf, hm⟩ := Option.bind_eq_some_iff.mp hm
  obtain ⟨fs, hO⟩ := hO σ
  obtain ⟨rc, hc1, hc2⟩ := Option.map_eq_some_iff.mp hc
  subst hst
  refine va_callv (va_runV (As := As) (rest := rest) (C := y.cls) (n := n) ⟨hx, hb, hml, hown, hT⟩ (hM H.size σ _ hf) ⟨cb_of hT hy hlk hrc hR, hT _ hv.1, hT _ hv.2⟩ ⟨pc_blind, by rw [← hc2]; exact va_recv hK B.1 hc1 hO, fun U hU hW => ⟨rfl, by rw [hU], by rw [hU]; exact B.1, va_K.moved hW.alike hK, B.2.1.weaken (fun _ _ _ _ => trivial)⟩⟩ rfl hn hl rfl (lv_room hW) hdg ⟨Nat.zero_le _, Nat.zero_le _⟩) B.2.2 (fun q _ h => fr_all B.2.1 B.2.2 hA q h) (fr_all B.2.1 B.2.2 hA) (fun u t H1 locs1 ht hvm hw hB hz1 hk1 hS => ?_)
  obtain ⟨hP1, hK1, hD1⟩ := hB
  rw [ht] at hP1
  subst hw
  exact kk _ H1 locs1 (bd_back hA B hP1 hD1 hS) hm
theorem x_callVr {own : String} {index maxL n ci q : Nat} {y : MethodName} {bytes : ByteArray} {ret : Option FieldType} {rm : Room} {As : List Value} {f : Mm → Option Int32} {body : Int32 → Option α}
    (hx : p.tables.exec = Jvm.exec) (hb : c.code = cc) (hml : c.maxLocals = nL) (hT : ∀ w ∈ wsL_law, w.before args s = true) (hown : s.vm.findClass own = some m.cls) (hK : va_K D vwCl tys s) (hA : ∀ q, H0.size ≤ q → A q) (B : BD D A H0 (ww σ) H locs) (hl : ls.size = nL)
    (hM : CTr l D tys ww y (.code y bytes maxL ret :: wsL_law) rm (.ref a :: As) f) (hy : MI y bytes maxL ret n) (hv : MV y) (hO : IsO ww ci q a) (hc : (vwCl[ci]?).map (fun r => r.1) = some y.cls) (hlk : Cond.methodLink own index y ∈ wsL_law)
    (hrc : rm.cells = 0 ∧ rm.slots = 0) (hR : rm.frames + 1 ≤ R.frames ∧ 8 + (maxL + 11) + rm.locals ≤ R.locals) (hn : As.length = n) {st0 : List Value} (hst : st0 = As.reverse ++ .ref a :: rest) (hW : (rest.map fun v => v.category).sum ≤ 8) (hdg : decode cc pc = .ok (.invokevirtual index, 3))
    (hm : (f σ).bind body = some out) (kk : ∀ (r : Int32) (H1 : Heap) (locs1 : List Loc), BD D A H0 (ww σ) H1 locs1 → body r = some out → W p l e R s m args below meth c H1 locs1 0 0 Q (F0 m (pc + 3) ls (.int r :: rest))) : W p l e R s m args below meth c H locs 0 0 Q (F0 m pc ls st0) := by
  obtain ⟨r0, hf, hm⟩ := Option.bind_eq_some_iff.mp hm
  obtain ⟨fs, hO⟩ := hO σ
  obtain ⟨rc, hc1, hc2⟩ := Option.map_eq_some_iff.mp hc
  subst hst
  refine va_calli (va_runV (As := As) (rest := rest) (C := y.cls) (n := n) ⟨hx, hb, hml, hown, hT⟩ (hM H.size σ _ hf) ⟨cb_of hT hy hlk hrc hR, hT _ hv.1, hT _ hv.2⟩ ⟨pc_blind, by rw [← hc2]; exact va_recv hK B.1 hc1 hO, fun U hU hW => ⟨rfl, by rw [hU], by rw [hU]; exact B.1, va_K.moved hW.alike hK, B.2.1.weaken (fun _ _ _ _ => trivial)⟩⟩ rfl hn hl rfl (lv_room hW) hdg ⟨Nat.zero_le _, Nat.zero_le _⟩) B.2.2 (fun q _ h => fr_all B.2.1 B.2.2 hA q h) (fr_all B.2.1 B.2.2 hA) (fun r u t H1 locs1 ht hvm hw hB hz1 hk1 hS => ?_)
  obtain ⟨e1, e2⟩ := hw
  obtain ⟨hP1, hK1, hD1⟩ := hB
  rw [ht] at hP1
  dsimp only at e1 e2
  subst e1; subst e2
  exact kk _ H1 locs1 (bd_back hA B hP1 hD1 hS) hm
theorem x_callSr {own : String} {index maxL n : Nat} {y : MethodName} {bytes : ByteArray} {ret : Option FieldType} {rm : Room} {As : List Value} {f : Mm → Option Int32} {body : Int32 → Option α}
    (hx : p.tables.exec = Jvm.exec) (hb : c.code = cc) (hml : c.maxLocals = nL) (hT : ∀ w ∈ wsL_law, w.before args s = true) (hown : s.vm.findClass own = some m.cls) (hK : va_K D vwCl tys s) (hA : ∀ q, H0.size ≤ q → A q) (B : BD D A H0 (ww σ) H locs) (hl : ls.size = nL)
    (hM : CTr l D tys ww y (.code y bytes maxL ret :: wsL_law) rm As f) (hy : MI y bytes maxL ret n) (hv : Cond.static y ∈ wsL_law) (hlk : Cond.methodLink own index y ∈ wsL_law)
    (hrc : rm.cells = 0 ∧ rm.slots = 0) (hR : rm.frames + 1 ≤ R.frames ∧ 8 + (maxL + 11) + rm.locals ≤ R.locals) (hn : As.length = n) {st0 : List Value} (hst : st0 = As.reverse ++ rest) (hW : (rest.map fun v => v.category).sum ≤ 8) (hdg : decode cc pc = .ok (.invokestatic index, 3))
    (hm : (f σ).bind body = some out) (kk : ∀ (r : Int32) (H1 : Heap) (locs1 : List Loc), BD D A H0 (ww σ) H1 locs1 → body r = some out → W p l e R s m args below meth c H1 locs1 0 0 Q (F0 m (pc + 3) ls (.int r :: rest))) : W p l e R s m args below meth c H locs 0 0 Q (F0 m pc ls st0) := by
  obtain ⟨r0, hf, hm⟩ := Option.bind_eq_some_iff.mp hm
  subst hst
  refine va_calli (va_runS (As := As) (rest := rest) (n := n) ⟨hx, hb, hml, hown, hT⟩ (hM H.size σ _ hf) ⟨cb_of hT hy hlk hrc hR, hT _ hv⟩ ⟨pc_blind, fun U hU hW => ⟨rfl, by rw [hU], by rw [hU]; exact B.1, va_K.moved hW.alike hK, B.2.1.weaken (fun _ _ _ _ => trivial)⟩⟩ rfl hn hl rfl (lv_room hW) hdg ⟨Nat.zero_le _, Nat.zero_le _⟩) B.2.2 (fun q _ h => fr_all B.2.1 B.2.2 hA q h) (fr_all B.2.1 B.2.2 hA) (fun r u t H1 locs1 ht hvm hw hB hz1 hk1 hS => ?_)
  obtain ⟨e1, e2⟩ := hw
  obtain ⟨hP1, hK1, hD1⟩ := hB
  rw [ht] at hP1
  dsimp only at e1 e2
  subst e1; subst e2
  exact kk _ H1 locs1 (bd_back hA B hP1 hD1 hS) hm
theorem x_callSrN {own host : String} {index maxL n : Nat} {y : MethodName} {bytes : ByteArray} {ret : Option FieldType} {rm : Room} {As : List Value} {f : Mm → Option Int32} {body : Int32 → Option α}
    (hx : p.tables.exec = Jvm.exec) (hb : c.code = cc) (hml : c.maxLocals = nL) (hT : ∀ w ∈ wsL_law, w.before args s = true) (hown : s.vm.findClass own = some m.cls) (hK : va_K D vwCl tys s) (hA : ∀ q, H0.size ≤ q → A q) (B : BD D A H0 (ww σ) H locs) (hl : ls.size = nL)
    (hM : CTr l D tys ww y (.code y bytes maxL ret :: wsL_law) rm As f) (hy : MI y bytes maxL ret n) (hv : Cond.static y ∈ wsL_law) (hlk : Cond.methodLinkNest own index y host ∈ wsL_law)
    (hrc : rm.cells = 0 ∧ rm.slots = 0) (hR : rm.frames + 1 ≤ R.frames ∧ 8 + (maxL + 11) + rm.locals ≤ R.locals) (hn : As.length = n) {st0 : List Value} (hst : st0 = As.reverse ++ rest) (hW : (rest.map fun v => v.category).sum ≤ 8) (hdg : decode cc pc = .ok (.invokestatic index, 3))
    (hm : (f σ).bind body = some out) (kk : ∀ (r : Int32) (H1 : Heap) (locs1 : List Loc), BD D A H0 (ww σ) H1 locs1 → body r = some out → W p l e R s m args below meth c H1 locs1 0 0 Q (F0 m (pc + 3) ls (.int r :: rest))) : W p l e R s m args below meth c H locs 0 0 Q (F0 m pc ls st0) := by
  obtain ⟨r0, hf, hm⟩ := Option.bind_eq_some_iff.mp hm
  subst hst
  refine va_calli (va_runSN (As := As) (rest := rest) (n := n) ⟨hx, hb, hml, hown, hT⟩ (hM H.size σ _ hf) ⟨cn_of hT hy hlk hrc hR, hT _ hv, trivial⟩ ⟨pc_blind, fun U hU hW => ⟨rfl, by rw [hU], by rw [hU]; exact B.1, va_K.moved hW.alike hK, B.2.1.weaken (fun _ _ _ _ => trivial)⟩⟩ rfl hn hl rfl (lv_room hW) hdg ⟨Nat.zero_le _, Nat.zero_le _⟩) B.2.2 (fun q _ h => fr_all B.2.1 B.2.2 hA q h) (fr_all B.2.1 B.2.2 hA) (fun r u t H1 locs1 ht hvm hw hB hz1 hk1 hS => ?_)
  obtain ⟨e1, e2⟩ := hw
  obtain ⟨hP1, hK1, hD1⟩ := hB
  rw [ht] at hP1
  dsimp only at e1 e2
  subst e1; subst e2
  exact kk _ H1 locs1 (bd_back hA B hP1 hD1 hS) hm
/-- the ends -/
theorem x_iret {v : Int32} {out : Int32 × Mm} (hx : p.tables.exec = Jvm.exec) (hb : c.code = cc) (hr : meth.sig.returnType = some .int) (hlk : meth.locks = false) (hK : va_K D vwCl tys s) (B : BD D A s.heap (ww σ) H locs) (hdg : decode cc pc = .ok (.ireturn, 1)) (hm : some (v, σ) = some out) :
    W p l e R s m args below meth c H locs 0 0 (MQ below (QI D tys ww A out) args s 0 0 A) (F0 m pc ls [.int v]) := by
  cases hm
  exact W.iret (v := v) hx hb hr (fun t ht hW => ⟨⟨v, σ, rfl, ⟨rfl, rfl⟩, by rw [ht]; exact B.1, va_K.moved hW.alike hK, B.2.1⟩, B.2.2.F ht⟩) B.2.2.2.2 hdg hlk
theorem x_iretr {v r : Int32} (hx : p.tables.exec = Jvm.exec) (hb : c.code = cc) (hr : meth.sig.returnType = some .int) (hlk : meth.locks = false) (hK : va_K D vwCl tys s) (B : BD D A s.heap (ww σ) H locs) (hdg : decode cc pc = .ok (.ireturn, 1)) (hm : some v = some r) :
    W p l e R s m args below meth c H locs 0 0 (MQ below (QI D tys ww A (r, σ)) args s 0 0 A) (F0 m pc ls [.int v]) := by
  cases hm
  exact W.iret (v := v) hx hb hr (fun t ht hW => ⟨⟨v, σ, rfl, ⟨rfl, rfl⟩, by rw [ht]; exact B.1, va_K.moved hW.alike hK, B.2.1⟩, B.2.2.F ht⟩) B.2.2.2.2 hdg hlk
theorem x_zretr {v r : Int32} {ty : FieldType} (hx : p.tables.exec = Jvm.exec) (hb : c.code = cc) (hr : meth.sig.returnType = some ty) (hlk : meth.locks = false) (hK : va_K D vwCl tys s) (B : BD D A s.heap (ww σ) H locs) (hn : narrow ty (.int v) = .int v) (hdg : decode cc pc = .ok (.ireturn, 1)) (hm : some v = some r) :
    W p l e R s m args below meth c H locs 0 0 (MQ below (QI D tys ww A (r, σ)) args s 0 0 A) (F0 m pc ls [.int v]) := by
  cases hm
  exact W.zret (v := v) hx hb hr hn (fun t ht hW => ⟨⟨v, σ, rfl, ⟨rfl, rfl⟩, by rw [ht]; exact B.1, va_K.moved hW.alike hK, B.2.1⟩, B.2.2.F ht⟩) B.2.2.2.2 hdg hlk
theorem zb_narrow {v w : Int32} (h : zb v = some w) : narrow .boolean (.int v) = .int v ∧ w = v := by
  unfold zb at h
  split at h
  · rename_i q
    cases h
    rcases q with rfl | rfl <;> exact ⟨rfl, rfl⟩
  · cases h
theorem x_zbretr {v r : Int32} (hx : p.tables.exec = Jvm.exec) (hb : c.code = cc) (hr : meth.sig.returnType = some .boolean) (hlk : meth.locks = false) (hK : va_K D vwCl tys s) (B : BD D A s.heap (ww σ) H locs) (hdg : decode cc pc = .ok (.ireturn, 1)) (hm : zb v = some r) :
    W p l e R s m args below meth c H locs 0 0 (MQ below (QI D tys ww A (r, σ)) args s 0 0 A) (F0 m pc ls [.int v]) := by
  obtain ⟨h1, h2⟩ := zb_narrow hm
  exact x_zretr hx hb hr hlk hK B h1 hdg (by rw [h2])
theorem x_vret {out : Mm} (hx : p.tables.exec = Jvm.exec) (hb : c.code = cc) (hr : meth.sig.returnType = none) (hlk : meth.locks = false) (hK : va_K D vwCl tys s) (B : BD D A s.heap (ww σ) H locs) (hdg : decode cc pc = .ok (.return_, 1)) (hm : some σ = some out) :
    W p l e R s m args below meth c H locs 0 0 (MQ below (QV D tys ww A out) args s 0 0 A) (F0 m pc ls []) := by
  cases hm
  exact W.vret hx hb hr (fun t ht hW => ⟨⟨σ, rfl, rfl, by rw [ht]; exact B.1, va_K.moved hW.alike hK, B.2.1⟩, B.2.2.F ht⟩) B.2.2.2.2 hdg hlk
end XC
section XB
variable {l : Launch} {D : va_G} {tys : List (ClassId × FieldType)} {ww : Mm → va_W} {y : MethodName} {cc : ByteArray} {nL : Nat} {ret : Option FieldType} {rm : Room} {as : List Value}
def BodyW (l : Launch) (D : va_G) (tys : List (ClassId × FieldType)) (ww : Mm → va_W) (y : MethodName) (cc : ByteArray) (nL : Nat) (ret : Option FieldType) (rm : Room) (as : List Value) (σ : Mm) (QQ : (Nat → Prop) → Array Value → State → Outcome → State → Prop) : Prop :=
  ∀ (p : Program) (e : Env) (s : State) (m : MethodId) (below : List Frame) (meth : Method) (c : Code) (A : Nat → Prop) (ls : Array Slot), p.tables.exec = Jvm.exec → c.code = cc → meth.sig.returnType = ret → meth.locks = false → c.maxLocals = nL → (∀ w ∈ wsL_law, w.before as.toArray s = true) → s.vm.findClass y.cls = some m.cls → va_K D vwCl tys s → (∀ q, s.heap.size ≤ q → A q) → BD D A s.heap (ww σ) s.heap [] → lv_has ls nL (lv_args 0 as) → W p l e rm s m as.toArray below meth c s.heap [] 0 0 (MQ below (QQ A) as.toArray s 0 0 A) (F0 m 0 ls [])
theorem met_of {sz : Nat} {σ : Mm} {QQ : (Nat → Prop) → Array Value → State → Outcome → State → Prop} (hy : plainName y.cls = true) (hn : (lg_sl as).length ≤ nL) (h : BodyW l D tys ww y cc nL ret rm as σ QQ) :
    Met l y (.code y cc nL ret :: wsL_law) rm (PC D tys (ww σ) as sz) (QQ (va_A (ww σ) sz)) 0 0 (va_A (ww σ) sz) := by
  refine Met.ofW (cc := cc) (maxL := nL) (ret := ret) hy rfl ?_
  intro p e s m args below meth c s₁ B hml hv
  obtain ⟨rfl, hsz, hP, hK, hD0⟩ := hv
  subst hsz
  have hts := atoms_spec (ws := .code y cc nL ret :: wsL_law) B.pre
  have hl := lv_entry as (n := nL) hn
  rw [lg_entry_eq]
  exact h p e s m below meth c (va_A (ww σ) s.heap.size) _ B.exec B.bytes B.returns B.notSynchronized hml (fun w hw => hts w (List.mem_cons_of_mem _ hw)) (findClass_of_methodNamed B.named) hK (fun q h => Or.inr h) ⟨hP, hD0.self, va_S.rf⟩ hl
theorem CTi.of {f : Mm → Option (Int32 × Mm)} (hy : plainName y.cls = true) (hn : (lg_sl as).length ≤ nL) (h : ∀ σ out, f σ = some out → BodyW l D tys ww y cc nL ret rm as σ (fun A => QI D tys ww A out)) : CTi l D tys ww y (.code y cc nL ret :: wsL_law) rm as f :=
  fun _ σ out hf => met_of hy hn (h σ out hf)
theorem CTv.of {f : Mm → Option Mm} (hy : plainName y.cls = true) (hn : (lg_sl as).length ≤ nL) (h : ∀ σ out, f σ = some out → BodyW l D tys ww y cc nL ret rm as σ (fun A => QV D tys ww A out)) : CTv l D tys ww y (.code y cc nL ret :: wsL_law) rm as f :=
  fun _ σ out hf => met_of hy hn (h σ out hf)
theorem CTr.of {f : Mm → Option Int32} (hy : plainName y.cls = true) (hn : (lg_sl as).length ≤ nL) (h : ∀ σ r, f σ = some r → BodyW l D tys ww y cc nL ret rm as σ (fun A => QI D tys ww A (r, σ))) : CTr l D tys ww y (.code y cc nL ret :: wsL_law) rm as f :=
  fun _ σ r hf => met_of hy hn (h σ r hf)
end XB
theorem ift {α : Type} {c : Prop} [Decidable c] {A B : Option α} {x : α} (h : (if c then A else B) = some x) (hc : c) : A = some x := by rwa [if_pos hc] at h
theorem iff {α : Type} {c : Prop} [Decidable c] {A B : Option α} {x : α} (h : (if c then A else B) = some x) (hc : ¬ c) : B = some x := by rwa [if_neg hc] at h
theorem loop1 {A1 α : Type} {f : (A1 → Option α) → A1 → Option α} {P : A1 → Prop} {out : α} (hs : ∀ r : A1 → Option α, (∀ a1, r a1 = some out → P a1) → ∀ a1, f r a1 = some out → P a1) : ∀ n a1, wh1 f n a1 = some out → P a1
  | 0, _, h => no_none h
  | n + 1, a1, h => hs (wh1 f n) (loop1 hs n) a1 h
theorem loop2 {A1 A2 α : Type} {f : (A1 → A2 → Option α) → A1 → A2 → Option α} {P : A1 → A2 → Prop} {out : α} (hs : ∀ r : A1 → A2 → Option α, (∀ a1 a2, r a1 a2 = some out → P a1 a2) → ∀ a1 a2, f r a1 a2 = some out → P a1 a2) : ∀ n a1 a2, wh2 f n a1 a2 = some out → P a1 a2
  | 0, _, _, h => no_none h
  | n + 1, a1, a2, h => hs (wh2 f n) (loop2 hs n) a1 a2 h
theorem loop3 {A1 A2 A3 α : Type} {f : (A1 → A2 → A3 → Option α) → A1 → A2 → A3 → Option α} {P : A1 → A2 → A3 → Prop} {out : α} (hs : ∀ r : A1 → A2 → A3 → Option α, (∀ a1 a2 a3, r a1 a2 a3 = some out → P a1 a2 a3) → ∀ a1 a2 a3, f r a1 a2 a3 = some out → P a1 a2 a3) : ∀ n a1 a2 a3, wh3 f n a1 a2 a3 = some out → P a1 a2 a3
  | 0, _, _, _, h => no_none h
  | n + 1, a1, a2, a3, h => hs (wh3 f n) (loop3 hs n) a1 a2 a3 h
theorem loop4 {A1 A2 A3 A4 α : Type} {f : (A1 → A2 → A3 → A4 → Option α) → A1 → A2 → A3 → A4 → Option α} {P : A1 → A2 → A3 → A4 → Prop} {out : α} (hs : ∀ r : A1 → A2 → A3 → A4 → Option α, (∀ a1 a2 a3 a4, r a1 a2 a3 a4 = some out → P a1 a2 a3 a4) → ∀ a1 a2 a3 a4, f r a1 a2 a3 a4 = some out → P a1 a2 a3 a4) : ∀ n a1 a2 a3 a4, wh4 f n a1 a2 a3 a4 = some out → P a1 a2 a3 a4
  | 0, _, _, _, _, h => no_none h
  | n + 1, a1, a2, a3, a4, h => hs (wh4 f n) (loop4 hs n) a1 a2 a3 a4 h
theorem loop5 {A1 A2 A3 A4 A5 α : Type} {f : (A1 → A2 → A3 → A4 → A5 → Option α) → A1 → A2 → A3 → A4 → A5 → Option α} {P : A1 → A2 → A3 → A4 → A5 → Prop} {out : α} (hs : ∀ r : A1 → A2 → A3 → A4 → A5 → Option α, (∀ a1 a2 a3 a4 a5, r a1 a2 a3 a4 a5 = some out → P a1 a2 a3 a4 a5) → ∀ a1 a2 a3 a4 a5, f r a1 a2 a3 a4 a5 = some out → P a1 a2 a3 a4 a5) : ∀ n a1 a2 a3 a4 a5, wh5 f n a1 a2 a3 a4 a5 = some out → P a1 a2 a3 a4 a5
  | 0, _, _, _, _, _, h => no_none h
  | n + 1, a1, a2, a3, a4, a5, h => hs (wh5 f n) (loop5 hs n) a1 a2 a3 a4 a5 h
theorem zb_all {v w : Int32} (h : zb v = some w) : narrow .boolean (.int v) = .int v ∧ fits .boolean (.int v) = true ∧ w = v := by
  unfold zb at h
  split at h
  · rename_i q
    cases h
    rcases q with rfl | rfl <;> exact ⟨rfl, rfl, rfl⟩
  · cases h
section XM
variable {p : Program} {l : Launch} {e : Env} {R : Room} {s : State} {m : MethodId} {args : Array Value} {below : List Frame} {meth : Method} {c : Code} {H : Heap} {locs : List Loc} {Q : State → Prop}
variable {pc : Nat} {ls : Array Slot} {rest : List Value} {cc : ByteArray} {α : Type} {out : α}
theorem x_mmax {own : String} {index : Nat} {x y : Int32} {body : Int32 → Option α} (hx : p.tables.exec = Jvm.exec) (hb : c.code = cc) (hml : c.maxLocals = ls.size) (hown : s.vm.findClass own = some m.cls) (hlink : (Cond.methodLink own index Lib.Math.max.name).before args s = true) (hstat : (Cond.static Lib.Math.max.name).before args s = true) (hini : (Cond.initialized "java/lang/Math").before args s = true) (hcode : (Cond.code Lib.Math.max.name Lib.Math.max.code 2 (some .int)).before args s = true)
    (hframes : 1 ≤ R.frames) (hlocals : (rest.map fun v => v.category).sum + 13 ≤ R.locals) (hdg : decode cc pc = .ok (.invokestatic index, 3)) (hm : (some (if x < y then y else x)).bind body = some out)
    (kk : ∀ v : Int32, body v = some out → W p l e R s m args below meth c H locs 0 0 Q (F0 m (pc + 3) ls (.int v :: rest))) : W p l e R s m args below meth c H locs 0 0 Q (F0 m pc ls (.int y :: .int x :: rest)) :=
  va_mmax hx hb hml hown hlink hstat hini hcode hframes hlocals (Nat.zero_le _) (Nat.zero_le _) hdg (kk _ hm)
theorem x_mmin {own : String} {index : Nat} {x y : Int32} {body : Int32 → Option α} (hx : p.tables.exec = Jvm.exec) (hb : c.code = cc) (hml : c.maxLocals = ls.size) (hown : s.vm.findClass own = some m.cls) (hlink : (Cond.methodLink own index Lib.Math.min.name).before args s = true) (hstat : (Cond.static Lib.Math.min.name).before args s = true) (hini : (Cond.initialized "java/lang/Math").before args s = true) (hcode : (Cond.code Lib.Math.min.name Lib.Math.min.code 2 (some .int)).before args s = true)
    (hframes : 1 ≤ R.frames) (hlocals : (rest.map fun v => v.category).sum + 13 ≤ R.locals) (hdg : decode cc pc = .ok (.invokestatic index, 3)) (hm : (some (if y < x then y else x)).bind body = some out)
    (kk : ∀ v : Int32, body v = some out → W p l e R s m args below meth c H locs 0 0 Q (F0 m (pc + 3) ls (.int v :: rest))) : W p l e R s m args below meth c H locs 0 0 Q (F0 m pc ls (.int y :: .int x :: rest)) :=
  va_mmin hx hb hml hown hlink hstat hini hcode hframes hlocals (Nat.zero_le _) (Nat.zero_le _) hdg (kk _ hm)
theorem x_mabs {own : String} {index : Nat} {x : Int32} {body : Int32 → Option α} (hx : p.tables.exec = Jvm.exec) (hb : c.code = cc) (hml : c.maxLocals = ls.size) (hown : s.vm.findClass own = some m.cls) (hlink : (Cond.methodLink own index Lib.Math.abs.name).before args s = true) (hstat : (Cond.static Lib.Math.abs.name).before args s = true) (hini : (Cond.initialized "java/lang/Math").before args s = true) (hcode : (Cond.code Lib.Math.abs.name Lib.Math.abs.code 1 (some .int)).before args s = true)
    (hframes : 1 ≤ R.frames) (hlocals : (rest.map fun v => v.category).sum + 13 ≤ R.locals) (hdg : decode cc pc = .ok (.invokestatic index, 3)) (hm : (some (if 0 ≤ x then x else 0 - x)).bind body = some out)
    (kk : ∀ v : Int32, body v = some out → W p l e R s m args below meth c H locs 0 0 Q (F0 m (pc + 3) ls (.int v :: rest))) : W p l e R s m args below meth c H locs 0 0 Q (F0 m pc ls (.int x :: rest)) :=
  va_mabs hx hb hml hown hlink hstat hini hcode hframes hlocals (Nat.zero_le _) (Nat.zero_le _) hdg (kk _ hm)
end XM
end
