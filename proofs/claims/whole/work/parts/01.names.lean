-- ===== PART A: goes FIRST, ahead of the names: the tables' words, and 'selects' of the private methods out of them =====
/-- a private method of a class that the tables say can be made, by its rows of tables_1 -/
def lw_okq (q : MethodName × Nat) : Prop := (q.1.cls ≠ "java/lang/invoke/MethodHandle" ∧ q.1.cls ≠ "java/lang/invoke/VarHandle") ∧ Cond.instantiable q.1.cls q.2 ∈ tables_1 ∧ Cond.privateMethod q.1 ∈ tables_1 ∧ Cond.instanceMethod q.1 ∈ tables_1
theorem lw_p0 : lw_okq (⟨"RiceHall$Land", "earliestToPassOn", "()I"⟩, 7) := ⟨⟨by decide +kernel, by decide +kernel⟩, List.mem_of_getElem? (i := 30) (by decide +kernel), List.mem_of_getElem? (i := 299) (by decide +kernel), List.mem_of_getElem? (i := 300) (by decide +kernel)⟩
theorem lw_p1 : lw_okq (⟨"RiceHall$Land", "passOn", "(I)V"⟩, 7) := ⟨⟨by decide +kernel, by decide +kernel⟩, List.mem_of_getElem? (i := 30) (by decide +kernel), List.mem_of_getElem? (i := 303) (by decide +kernel), List.mem_of_getElem? (i := 304) (by decide +kernel)⟩
theorem lw_p2 : lw_okq (⟨"RiceHall$Land", "arrival", "(II)I"⟩, 7) := ⟨⟨by decide +kernel, by decide +kernel⟩, List.mem_of_getElem? (i := 30) (by decide +kernel), List.mem_of_getElem? (i := 307) (by decide +kernel), List.mem_of_getElem? (i := 308) (by decide +kernel)⟩
theorem lw_p3 : lw_okq (⟨"RiceHall$Land", "flagsSeen", "(III)I"⟩, 7) := ⟨⟨by decide +kernel, by decide +kernel⟩, List.mem_of_getElem? (i := 30) (by decide +kernel), List.mem_of_getElem? (i := 311) (by decide +kernel), List.mem_of_getElem? (i := 312) (by decide +kernel)⟩
theorem lw_p4 : lw_okq (⟨"RiceHall$Land", "pastFog", "(II)I"⟩, 7) := ⟨⟨by decide +kernel, by decide +kernel⟩, List.mem_of_getElem? (i := 30) (by decide +kernel), List.mem_of_getElem? (i := 318) (by decide +kernel), List.mem_of_getElem? (i := 319) (by decide +kernel)⟩
theorem lw_p5 : lw_okq (⟨"RiceHall", "minuteHeard", "(I)I"⟩, 18) := ⟨⟨by decide +kernel, by decide +kernel⟩, List.mem_of_getElem? (i := 22) (by decide +kernel), List.mem_of_getElem? (i := 384) (by decide +kernel), List.mem_of_getElem? (i := 385) (by decide +kernel)⟩
theorem lw_p6 : lw_okq (⟨"RiceHall", "heardAhead", "(I)I"⟩, 18) := ⟨⟨by decide +kernel, by decide +kernel⟩, List.mem_of_getElem? (i := 22) (by decide +kernel), List.mem_of_getElem? (i := 388) (by decide +kernel), List.mem_of_getElem? (i := 389) (by decide +kernel)⟩
theorem lw_p7 : lw_okq (⟨"RiceHall", "isStore", "(I)Z"⟩, 18) := ⟨⟨by decide +kernel, by decide +kernel⟩, List.mem_of_getElem? (i := 22) (by decide +kernel), List.mem_of_getElem? (i := 454) (by decide +kernel), List.mem_of_getElem? (i := 455) (by decide +kernel)⟩
theorem lw_p8 : lw_okq (⟨"RiceHall", "isPerson", "(I)Z"⟩, 18) := ⟨⟨by decide +kernel, by decide +kernel⟩, List.mem_of_getElem? (i := 22) (by decide +kernel), List.mem_of_getElem? (i := 458) (by decide +kernel), List.mem_of_getElem? (i := 459) (by decide +kernel)⟩
theorem lw_p9 : lw_okq (⟨"RiceHall", "holdsPaper", "(III)Z"⟩, 18) := ⟨⟨by decide +kernel, by decide +kernel⟩, List.mem_of_getElem? (i := 22) (by decide +kernel), List.mem_of_getElem? (i := 474) (by decide +kernel), List.mem_of_getElem? (i := 475) (by decide +kernel)⟩
theorem lw_p10 : lw_okq (⟨"RiceHall", "askLaw", "(I)I"⟩, 18) := ⟨⟨by decide +kernel, by decide +kernel⟩, List.mem_of_getElem? (i := 22) (by decide +kernel), List.mem_of_getElem? (i := 500) (by decide +kernel), List.mem_of_getElem? (i := 501) (by decide +kernel)⟩
theorem lw_p11 : lw_okq (⟨"RiceHall", "lookAround", "()V"⟩, 18) := ⟨⟨by decide +kernel, by decide +kernel⟩, List.mem_of_getElem? (i := 22) (by decide +kernel), List.mem_of_getElem? (i := 504) (by decide +kernel), List.mem_of_getElem? (i := 505) (by decide +kernel)⟩
theorem lw_p12 : lw_okq (⟨"RiceHall$Edict", "holds", "(II[I)Z"⟩, 5) := ⟨⟨by decide +kernel, by decide +kernel⟩, List.mem_of_getElem? (i := 534) (by decide +kernel), List.mem_of_getElem? (i := 532) (by decide +kernel), List.mem_of_getElem? (i := 533) (by decide +kernel)⟩
theorem lw_p13 : lw_okq (⟨"RiceHall", "spoilPaper", "(II)V"⟩, 18) := ⟨⟨by decide +kernel, by decide +kernel⟩, List.mem_of_getElem? (i := 22) (by decide +kernel), List.mem_of_getElem? (i := 547) (by decide +kernel), List.mem_of_getElem? (i := 548) (by decide +kernel)⟩
theorem lw_p14 : lw_okq (⟨"RiceHall", "addBytes", "(I)V"⟩, 18) := ⟨⟨by decide +kernel, by decide +kernel⟩, List.mem_of_getElem? (i := 22) (by decide +kernel), List.mem_of_getElem? (i := 612) (by decide +kernel), List.mem_of_getElem? (i := 613) (by decide +kernel)⟩
theorem lw_p15 : lw_okq (⟨"RiceHall$Scribe", "take", "(I)Z"⟩, 11) := ⟨⟨by decide +kernel, by decide +kernel⟩, List.mem_of_getElem? (i := 74) (by decide +kernel), List.mem_of_getElem? (i := 713) (by decide +kernel), List.mem_of_getElem? (i := 714) (by decide +kernel)⟩
def lw_privs_1 : List (MethodName × Nat) := [(⟨"RiceHall$Land", "earliestToPassOn", "()I"⟩, 7), (⟨"RiceHall$Land", "passOn", "(I)V"⟩, 7), (⟨"RiceHall$Land", "arrival", "(II)I"⟩, 7), (⟨"RiceHall$Land", "flagsSeen", "(III)I"⟩, 7), (⟨"RiceHall$Land", "pastFog", "(II)I"⟩, 7), (⟨"RiceHall", "minuteHeard", "(I)I"⟩, 18), (⟨"RiceHall", "heardAhead", "(I)I"⟩, 18), (⟨"RiceHall", "isStore", "(I)Z"⟩, 18), (⟨"RiceHall", "isPerson", "(I)Z"⟩, 18), (⟨"RiceHall", "holdsPaper", "(III)Z"⟩, 18), (⟨"RiceHall", "askLaw", "(I)I"⟩, 18), (⟨"RiceHall", "lookAround", "()V"⟩, 18), (⟨"RiceHall$Edict", "holds", "(II[I)Z"⟩, 5), (⟨"RiceHall", "spoilPaper", "(II)V"⟩, 18), (⟨"RiceHall", "addBytes", "(I)V"⟩, 18), (⟨"RiceHall$Scribe", "take", "(I)Z"⟩, 11)]
theorem lw_r1 : ∀ q ∈ lw_privs_1, lw_okq q := List.forall_mem_cons.mpr ⟨lw_p0, List.forall_mem_cons.mpr ⟨lw_p1, List.forall_mem_cons.mpr ⟨lw_p2, List.forall_mem_cons.mpr ⟨lw_p3, List.forall_mem_cons.mpr ⟨lw_p4, List.forall_mem_cons.mpr ⟨lw_p5, List.forall_mem_cons.mpr ⟨lw_p6, List.forall_mem_cons.mpr ⟨lw_p7, List.forall_mem_cons.mpr ⟨lw_p8, List.forall_mem_cons.mpr ⟨lw_p9, List.forall_mem_cons.mpr ⟨lw_p10, List.forall_mem_cons.mpr ⟨lw_p11, List.forall_mem_cons.mpr ⟨lw_p12, List.forall_mem_cons.mpr ⟨lw_p13, List.forall_mem_cons.mpr ⟨lw_p14, List.forall_mem_cons.mpr ⟨lw_p15, fun _ h => absurd h List.not_mem_nil⟩⟩⟩⟩⟩⟩⟩⟩⟩⟩⟩⟩⟩⟩⟩⟩
theorem lw_p16 : lw_okq (⟨"RiceHall$Scribe", "readCondition", "(I)Z"⟩, 11) := ⟨⟨by decide +kernel, by decide +kernel⟩, List.mem_of_getElem? (i := 74) (by decide +kernel), List.mem_of_getElem? (i := 717) (by decide +kernel), List.mem_of_getElem? (i := 718) (by decide +kernel)⟩
theorem lw_p17 : lw_okq (⟨"RiceHall$Scribe", "readAll", "(I)Z"⟩, 11) := ⟨⟨by decide +kernel, by decide +kernel⟩, List.mem_of_getElem? (i := 74) (by decide +kernel), List.mem_of_getElem? (i := 721) (by decide +kernel), List.mem_of_getElem? (i := 722) (by decide +kernel)⟩
theorem lw_p18 : lw_okq (⟨"RiceHall$Scribe", "readFact", "(I)Z"⟩, 11) := ⟨⟨by decide +kernel, by decide +kernel⟩, List.mem_of_getElem? (i := 74) (by decide +kernel), List.mem_of_getElem? (i := 725) (by decide +kernel), List.mem_of_getElem? (i := 726) (by decide +kernel)⟩
theorem lw_p19 : lw_okq (⟨"RiceHall$Scribe", "put", "(I)Z"⟩, 11) := ⟨⟨by decide +kernel, by decide +kernel⟩, List.mem_of_getElem? (i := 74) (by decide +kernel), List.mem_of_getElem? (i := 729) (by decide +kernel), List.mem_of_getElem? (i := 730) (by decide +kernel)⟩
theorem lw_p20 : lw_okq (⟨"RiceHall$Scribe", "readComparison", "()Z"⟩, 11) := ⟨⟨by decide +kernel, by decide +kernel⟩, List.mem_of_getElem? (i := 74) (by decide +kernel), List.mem_of_getElem? (i := 733) (by decide +kernel), List.mem_of_getElem? (i := 734) (by decide +kernel)⟩
theorem lw_p21 : lw_okq (⟨"RiceHall$Scribe", "takeOf", "(II)I"⟩, 11) := ⟨⟨by decide +kernel, by decide +kernel⟩, List.mem_of_getElem? (i := 74) (by decide +kernel), List.mem_of_getElem? (i := 737) (by decide +kernel), List.mem_of_getElem? (i := 738) (by decide +kernel)⟩
theorem lw_p22 : lw_okq (⟨"RiceHall$Scribe", "takeNumber", "(I)I"⟩, 11) := ⟨⟨by decide +kernel, by decide +kernel⟩, List.mem_of_getElem? (i := 74) (by decide +kernel), List.mem_of_getElem? (i := 741) (by decide +kernel), List.mem_of_getElem? (i := 742) (by decide +kernel)⟩
theorem lw_p23 : lw_okq (⟨"RiceHall$Scribe", "readValue", "(I)I"⟩, 11) := ⟨⟨by decide +kernel, by decide +kernel⟩, List.mem_of_getElem? (i := 74) (by decide +kernel), List.mem_of_getElem? (i := 746) (by decide +kernel), List.mem_of_getElem? (i := 747) (by decide +kernel)⟩
theorem lw_p24 : lw_okq (⟨"RiceHall$Session", "bestPartner", "(I[I)I"⟩, 11) := ⟨⟨by decide +kernel, by decide +kernel⟩, List.mem_of_getElem? (i := 819) (by decide +kernel), List.mem_of_getElem? (i := 920) (by decide +kernel), List.mem_of_getElem? (i := 921) (by decide +kernel)⟩
theorem lw_p25 : lw_okq (⟨"RiceHall", "burnOneMinute", "()V"⟩, 18) := ⟨⟨by decide +kernel, by decide +kernel⟩, List.mem_of_getElem? (i := 22) (by decide +kernel), List.mem_of_getElem? (i := 1034) (by decide +kernel), List.mem_of_getElem? (i := 1035) (by decide +kernel)⟩
theorem lw_p26 : lw_okq (⟨"RiceHall", "endSession", "()V"⟩, 18) := ⟨⟨by decide +kernel, by decide +kernel⟩, List.mem_of_getElem? (i := 22) (by decide +kernel), List.mem_of_getElem? (i := 1038) (by decide +kernel), List.mem_of_getElem? (i := 1039) (by decide +kernel)⟩
theorem lw_p27 : lw_okq (⟨"RiceHall$Bargain", "standAs", "(II)V"⟩, 14) := ⟨⟨by decide +kernel, by decide +kernel⟩, List.mem_of_getElem? (i := 935) (by decide +kernel), List.mem_of_getElem? (i := 1050) (by decide +kernel), List.mem_of_getElem? (i := 1051) (by decide +kernel)⟩
theorem lw_p28 : lw_okq (⟨"RiceHall$House", "closeOut", "(LRiceHall$Person;)V"⟩, 7) := ⟨⟨by decide +kernel, by decide +kernel⟩, List.mem_of_getElem? (i := 141) (by decide +kernel), List.mem_of_getElem? (i := 1073) (by decide +kernel), List.mem_of_getElem? (i := 1074) (by decide +kernel)⟩
theorem lw_p29 : lw_okq (⟨"RiceHall$House", "partOf", "(IJJJ)J"⟩, 7) := ⟨⟨by decide +kernel, by decide +kernel⟩, List.mem_of_getElem? (i := 141) (by decide +kernel), List.mem_of_getElem? (i := 1085) (by decide +kernel), List.mem_of_getElem? (i := 1086) (by decide +kernel)⟩
theorem lw_p30 : lw_okq (⟨"RiceHall$House", "greatestRemainder", "(I)I"⟩, 7) := ⟨⟨by decide +kernel, by decide +kernel⟩, List.mem_of_getElem? (i := 141) (by decide +kernel), List.mem_of_getElem? (i := 1089) (by decide +kernel), List.mem_of_getElem? (i := 1090) (by decide +kernel)⟩
theorem lw_p31 : lw_okq (⟨"RiceHall", "isSession", "(I)Z"⟩, 18) := ⟨⟨by decide +kernel, by decide +kernel⟩, List.mem_of_getElem? (i := 22) (by decide +kernel), List.mem_of_getElem? (i := 1101) (by decide +kernel), List.mem_of_getElem? (i := 1102) (by decide +kernel)⟩
def lw_privs_2 : List (MethodName × Nat) := [(⟨"RiceHall$Scribe", "readCondition", "(I)Z"⟩, 11), (⟨"RiceHall$Scribe", "readAll", "(I)Z"⟩, 11), (⟨"RiceHall$Scribe", "readFact", "(I)Z"⟩, 11), (⟨"RiceHall$Scribe", "put", "(I)Z"⟩, 11), (⟨"RiceHall$Scribe", "readComparison", "()Z"⟩, 11), (⟨"RiceHall$Scribe", "takeOf", "(II)I"⟩, 11), (⟨"RiceHall$Scribe", "takeNumber", "(I)I"⟩, 11), (⟨"RiceHall$Scribe", "readValue", "(I)I"⟩, 11), (⟨"RiceHall$Session", "bestPartner", "(I[I)I"⟩, 11), (⟨"RiceHall", "burnOneMinute", "()V"⟩, 18), (⟨"RiceHall", "endSession", "()V"⟩, 18), (⟨"RiceHall$Bargain", "standAs", "(II)V"⟩, 14), (⟨"RiceHall$House", "closeOut", "(LRiceHall$Person;)V"⟩, 7), (⟨"RiceHall$House", "partOf", "(IJJJ)J"⟩, 7), (⟨"RiceHall$House", "greatestRemainder", "(I)I"⟩, 7), (⟨"RiceHall", "isSession", "(I)Z"⟩, 18)]
theorem lw_r2 : ∀ q ∈ lw_privs_2, lw_okq q := List.forall_mem_cons.mpr ⟨lw_p16, List.forall_mem_cons.mpr ⟨lw_p17, List.forall_mem_cons.mpr ⟨lw_p18, List.forall_mem_cons.mpr ⟨lw_p19, List.forall_mem_cons.mpr ⟨lw_p20, List.forall_mem_cons.mpr ⟨lw_p21, List.forall_mem_cons.mpr ⟨lw_p22, List.forall_mem_cons.mpr ⟨lw_p23, List.forall_mem_cons.mpr ⟨lw_p24, List.forall_mem_cons.mpr ⟨lw_p25, List.forall_mem_cons.mpr ⟨lw_p26, List.forall_mem_cons.mpr ⟨lw_p27, List.forall_mem_cons.mpr ⟨lw_p28, List.forall_mem_cons.mpr ⟨lw_p29, List.forall_mem_cons.mpr ⟨lw_p30, List.forall_mem_cons.mpr ⟨lw_p31, fun _ h => absurd h List.not_mem_nil⟩⟩⟩⟩⟩⟩⟩⟩⟩⟩⟩⟩⟩⟩⟩⟩
theorem lw_p32 : lw_okq (⟨"RiceHall$Ruin", "failAll", "([LRiceHall$Person;II)V"⟩, 5) := ⟨⟨by decide +kernel, by decide +kernel⟩, List.mem_of_getElem? (i := 173) (by decide +kernel), List.mem_of_getElem? (i := 1137) (by decide +kernel), List.mem_of_getElem? (i := 1138) (by decide +kernel)⟩
theorem lw_p33 : lw_okq (⟨"RiceHall$Ruin", "owedTo", "(I[LRiceHall$Person;II)J"⟩, 5) := ⟨⟨by decide +kernel, by decide +kernel⟩, List.mem_of_getElem? (i := 173) (by decide +kernel), List.mem_of_getElem? (i := 1141) (by decide +kernel), List.mem_of_getElem? (i := 1142) (by decide +kernel)⟩
theorem lw_p34 : lw_okq (⟨"RiceHall$Session", "dropTakenBack", "(I[I)V"⟩, 11) := ⟨⟨by decide +kernel, by decide +kernel⟩, List.mem_of_getElem? (i := 819) (by decide +kernel), List.mem_of_getElem? (i := 1156) (by decide +kernel), List.mem_of_getElem? (i := 1157) (by decide +kernel)⟩
theorem lw_p35 : lw_okq (⟨"RiceHall$Session", "meetAgain", "(I[I)I"⟩, 11) := ⟨⟨by decide +kernel, by decide +kernel⟩, List.mem_of_getElem? (i := 819) (by decide +kernel), List.mem_of_getElem? (i := 1161) (by decide +kernel), List.mem_of_getElem? (i := 1162) (by decide +kernel)⟩
theorem lw_p36 : lw_okq (⟨"RiceHallModel", "isTown", "(I)Z"⟩, 107) := ⟨⟨by decide +kernel, by decide +kernel⟩, List.mem_of_getElem? (i := 1193) (by decide +kernel), List.mem_of_getElem? (i := 1529) (by decide +kernel), List.mem_of_getElem? (i := 1530) (by decide +kernel)⟩
theorem lw_p37 : lw_okq (⟨"RiceHallModel", "spreads", "(II)V"⟩, 107) := ⟨⟨by decide +kernel, by decide +kernel⟩, List.mem_of_getElem? (i := 1193) (by decide +kernel), List.mem_of_getElem? (i := 1545) (by decide +kernel), List.mem_of_getElem? (i := 1546) (by decide +kernel)⟩
theorem lw_p38 : lw_okq (⟨"RiceHallModel", "goes", "(III)I"⟩, 107) := ⟨⟨by decide +kernel, by decide +kernel⟩, List.mem_of_getElem? (i := 1193) (by decide +kernel), List.mem_of_getElem? (i := 1549) (by decide +kernel), List.mem_of_getElem? (i := 1550) (by decide +kernel)⟩
theorem lw_p39 : lw_okq (⟨"RiceHallModel", "hasFog", "(II)Z"⟩, 107) := ⟨⟨by decide +kernel, by decide +kernel⟩, List.mem_of_getElem? (i := 1193) (by decide +kernel), List.mem_of_getElem? (i := 1553) (by decide +kernel), List.mem_of_getElem? (i := 1554) (by decide +kernel)⟩
theorem lw_p40 : lw_okq (⟨"RiceHallModel", "isStore", "(I)Z"⟩, 107) := ⟨⟨by decide +kernel, by decide +kernel⟩, List.mem_of_getElem? (i := 1193) (by decide +kernel), List.mem_of_getElem? (i := 1573) (by decide +kernel), List.mem_of_getElem? (i := 1574) (by decide +kernel)⟩
theorem lw_p41 : lw_okq (⟨"RiceHallModel", "isPerson", "(I)Z"⟩, 107) := ⟨⟨by decide +kernel, by decide +kernel⟩, List.mem_of_getElem? (i := 1193) (by decide +kernel), List.mem_of_getElem? (i := 1577) (by decide +kernel), List.mem_of_getElem? (i := 1578) (by decide +kernel)⟩
theorem lw_p42 : lw_okq (⟨"RiceHallModel", "outOf", "(I)I"⟩, 107) := ⟨⟨by decide +kernel, by decide +kernel⟩, List.mem_of_getElem? (i := 1193) (by decide +kernel), List.mem_of_getElem? (i := 1581) (by decide +kernel), List.mem_of_getElem? (i := 1582) (by decide +kernel)⟩
theorem lw_p43 : lw_okq (⟨"RiceHallModel", "serves", "(I)I"⟩, 107) := ⟨⟨by decide +kernel, by decide +kernel⟩, List.mem_of_getElem? (i := 1193) (by decide +kernel), List.mem_of_getElem? (i := 1593) (by decide +kernel), List.mem_of_getElem? (i := 1594) (by decide +kernel)⟩
theorem lw_p44 : lw_okq (⟨"RiceHallModel", "asked", "(I)I"⟩, 107) := ⟨⟨by decide +kernel, by decide +kernel⟩, List.mem_of_getElem? (i := 1193) (by decide +kernel), List.mem_of_getElem? (i := 1609) (by decide +kernel), List.mem_of_getElem? (i := 1610) (by decide +kernel)⟩
theorem lw_p45 : lw_okq (⟨"RiceHallModel", "inForce", "()I"⟩, 107) := ⟨⟨by decide +kernel, by decide +kernel⟩, List.mem_of_getElem? (i := 1193) (by decide +kernel), List.mem_of_getElem? (i := 1616) (by decide +kernel), List.mem_of_getElem? (i := 1617) (by decide +kernel)⟩
theorem lw_p46 : lw_okq (⟨"RiceHallModel", "holds", "(I)Z"⟩, 107) := ⟨⟨by decide +kernel, by decide +kernel⟩, List.mem_of_getElem? (i := 1193) (by decide +kernel), List.mem_of_getElem? (i := 1620) (by decide +kernel), List.mem_of_getElem? (i := 1621) (by decide +kernel)⟩
theorem lw_p47 : lw_okq (⟨"RiceHallModel", "known", "(I)I"⟩, 107) := ⟨⟨by decide +kernel, by decide +kernel⟩, List.mem_of_getElem? (i := 1193) (by decide +kernel), List.mem_of_getElem? (i := 1624) (by decide +kernel), List.mem_of_getElem? (i := 1625) (by decide +kernel)⟩
def lw_privs_3 : List (MethodName × Nat) := [(⟨"RiceHall$Ruin", "failAll", "([LRiceHall$Person;II)V"⟩, 5), (⟨"RiceHall$Ruin", "owedTo", "(I[LRiceHall$Person;II)J"⟩, 5), (⟨"RiceHall$Session", "dropTakenBack", "(I[I)V"⟩, 11), (⟨"RiceHall$Session", "meetAgain", "(I[I)I"⟩, 11), (⟨"RiceHallModel", "isTown", "(I)Z"⟩, 107), (⟨"RiceHallModel", "spreads", "(II)V"⟩, 107), (⟨"RiceHallModel", "goes", "(III)I"⟩, 107), (⟨"RiceHallModel", "hasFog", "(II)Z"⟩, 107), (⟨"RiceHallModel", "isStore", "(I)Z"⟩, 107), (⟨"RiceHallModel", "isPerson", "(I)Z"⟩, 107), (⟨"RiceHallModel", "outOf", "(I)I"⟩, 107), (⟨"RiceHallModel", "serves", "(I)I"⟩, 107), (⟨"RiceHallModel", "asked", "(I)I"⟩, 107), (⟨"RiceHallModel", "inForce", "()I"⟩, 107), (⟨"RiceHallModel", "holds", "(I)Z"⟩, 107), (⟨"RiceHallModel", "known", "(I)I"⟩, 107)]
theorem lw_r3 : ∀ q ∈ lw_privs_3, lw_okq q := List.forall_mem_cons.mpr ⟨lw_p32, List.forall_mem_cons.mpr ⟨lw_p33, List.forall_mem_cons.mpr ⟨lw_p34, List.forall_mem_cons.mpr ⟨lw_p35, List.forall_mem_cons.mpr ⟨lw_p36, List.forall_mem_cons.mpr ⟨lw_p37, List.forall_mem_cons.mpr ⟨lw_p38, List.forall_mem_cons.mpr ⟨lw_p39, List.forall_mem_cons.mpr ⟨lw_p40, List.forall_mem_cons.mpr ⟨lw_p41, List.forall_mem_cons.mpr ⟨lw_p42, List.forall_mem_cons.mpr ⟨lw_p43, List.forall_mem_cons.mpr ⟨lw_p44, List.forall_mem_cons.mpr ⟨lw_p45, List.forall_mem_cons.mpr ⟨lw_p46, List.forall_mem_cons.mpr ⟨lw_p47, fun _ h => absurd h List.not_mem_nil⟩⟩⟩⟩⟩⟩⟩⟩⟩⟩⟩⟩⟩⟩⟩⟩
theorem lw_p48 : lw_okq (⟨"RiceHallModel", "firstWait", "(I)I"⟩, 107) := ⟨⟨by decide +kernel, by decide +kernel⟩, List.mem_of_getElem? (i := 1193) (by decide +kernel), List.mem_of_getElem? (i := 1639) (by decide +kernel), List.mem_of_getElem? (i := 1640) (by decide +kernel)⟩
theorem lw_p49 : lw_okq (⟨"RiceHallModel", "shareOf", "(I)I"⟩, 107) := ⟨⟨by decide +kernel, by decide +kernel⟩, List.mem_of_getElem? (i := 1193) (by decide +kernel), List.mem_of_getElem? (i := 1643) (by decide +kernel), List.mem_of_getElem? (i := 1644) (by decide +kernel)⟩
theorem lw_p50 : lw_okq (⟨"RiceHallModel", "needOf", "(I)J"⟩, 107) := ⟨⟨by decide +kernel, by decide +kernel⟩, List.mem_of_getElem? (i := 1193) (by decide +kernel), List.mem_of_getElem? (i := 1653) (by decide +kernel), List.mem_of_getElem? (i := 1654) (by decide +kernel)⟩
theorem lw_p51 : lw_okq (⟨"RiceHallModel", "next", "()V"⟩, 107) := ⟨⟨by decide +kernel, by decide +kernel⟩, List.mem_of_getElem? (i := 1193) (by decide +kernel), List.mem_of_getElem? (i := 1683) (by decide +kernel), List.mem_of_getElem? (i := 1684) (by decide +kernel)⟩
theorem lw_p52 : lw_okq (⟨"RiceHallModel", "here", "()I"⟩, 107) := ⟨⟨by decide +kernel, by decide +kernel⟩, List.mem_of_getElem? (i := 1193) (by decide +kernel), List.mem_of_getElem? (i := 1687) (by decide +kernel), List.mem_of_getElem? (i := 1688) (by decide +kernel)⟩
theorem lw_p53 : lw_okq (⟨"RiceHallModel", "fails", "()V"⟩, 107) := ⟨⟨by decide +kernel, by decide +kernel⟩, List.mem_of_getElem? (i := 1193) (by decide +kernel), List.mem_of_getElem? (i := 1694) (by decide +kernel), List.mem_of_getElem? (i := 1695) (by decide +kernel)⟩
theorem lw_p54 : lw_okq (⟨"RiceHallModel", "statement", "(I)V"⟩, 107) := ⟨⟨by decide +kernel, by decide +kernel⟩, List.mem_of_getElem? (i := 1193) (by decide +kernel), List.mem_of_getElem? (i := 1698) (by decide +kernel), List.mem_of_getElem? (i := 1699) (by decide +kernel)⟩
theorem lw_p55 : lw_okq (⟨"RiceHallModel", "isWord", "(J)Z"⟩, 107) := ⟨⟨by decide +kernel, by decide +kernel⟩, List.mem_of_getElem? (i := 1193) (by decide +kernel), List.mem_of_getElem? (i := 1703) (by decide +kernel), List.mem_of_getElem? (i := 1704) (by decide +kernel)⟩
theorem lw_p56 : lw_okq (⟨"RiceHallModel", "condition", "()I"⟩, 107) := ⟨⟨by decide +kernel, by decide +kernel⟩, List.mem_of_getElem? (i := 1193) (by decide +kernel), List.mem_of_getElem? (i := 1707) (by decide +kernel), List.mem_of_getElem? (i := 1708) (by decide +kernel)⟩
theorem lw_p57 : lw_okq (⟨"RiceHallModel", "begin", "(I)V"⟩, 107) := ⟨⟨by decide +kernel, by decide +kernel⟩, List.mem_of_getElem? (i := 1193) (by decide +kernel), List.mem_of_getElem? (i := 1711) (by decide +kernel), List.mem_of_getElem? (i := 1712) (by decide +kernel)⟩
theorem lw_p58 : lw_okq (⟨"RiceHallModel", "fact", "(I)V"⟩, 107) := ⟨⟨by decide +kernel, by decide +kernel⟩, List.mem_of_getElem? (i := 1193) (by decide +kernel), List.mem_of_getElem? (i := 1715) (by decide +kernel), List.mem_of_getElem? (i := 1716) (by decide +kernel)⟩
theorem lw_p59 : lw_okq (⟨"RiceHallModel", "opens", "()V"⟩, 107) := ⟨⟨by decide +kernel, by decide +kernel⟩, List.mem_of_getElem? (i := 1193) (by decide +kernel), List.mem_of_getElem? (i := 1720) (by decide +kernel), List.mem_of_getElem? (i := 1721) (by decide +kernel)⟩
theorem lw_p60 : lw_okq (⟨"RiceHallModel", "isSign", "(I)Z"⟩, 107) := ⟨⟨by decide +kernel, by decide +kernel⟩, List.mem_of_getElem? (i := 1193) (by decide +kernel), List.mem_of_getElem? (i := 1724) (by decide +kernel), List.mem_of_getElem? (i := 1725) (by decide +kernel)⟩
theorem lw_p61 : lw_okq (⟨"RiceHallModel", "nameOf", "(J)I"⟩, 107) := ⟨⟨by decide +kernel, by decide +kernel⟩, List.mem_of_getElem? (i := 1193) (by decide +kernel), List.mem_of_getElem? (i := 1728) (by decide +kernel), List.mem_of_getElem? (i := 1729) (by decide +kernel)⟩
theorem lw_p62 : lw_okq (⟨"RiceHallModel", "number", "(I)I"⟩, 107) := ⟨⟨by decide +kernel, by decide +kernel⟩, List.mem_of_getElem? (i := 1193) (by decide +kernel), List.mem_of_getElem? (i := 1739) (by decide +kernel), List.mem_of_getElem? (i := 1740) (by decide +kernel)⟩
theorem lw_p63 : lw_okq (⟨"RiceHallModel", "node", "(IIII)I"⟩, 107) := ⟨⟨by decide +kernel, by decide +kernel⟩, List.mem_of_getElem? (i := 1193) (by decide +kernel), List.mem_of_getElem? (i := 1743) (by decide +kernel), List.mem_of_getElem? (i := 1744) (by decide +kernel)⟩
def lw_privs_4 : List (MethodName × Nat) := [(⟨"RiceHallModel", "firstWait", "(I)I"⟩, 107), (⟨"RiceHallModel", "shareOf", "(I)I"⟩, 107), (⟨"RiceHallModel", "needOf", "(I)J"⟩, 107), (⟨"RiceHallModel", "next", "()V"⟩, 107), (⟨"RiceHallModel", "here", "()I"⟩, 107), (⟨"RiceHallModel", "fails", "()V"⟩, 107), (⟨"RiceHallModel", "statement", "(I)V"⟩, 107), (⟨"RiceHallModel", "isWord", "(J)Z"⟩, 107), (⟨"RiceHallModel", "condition", "()I"⟩, 107), (⟨"RiceHallModel", "begin", "(I)V"⟩, 107), (⟨"RiceHallModel", "fact", "(I)V"⟩, 107), (⟨"RiceHallModel", "opens", "()V"⟩, 107), (⟨"RiceHallModel", "isSign", "(I)Z"⟩, 107), (⟨"RiceHallModel", "nameOf", "(J)I"⟩, 107), (⟨"RiceHallModel", "number", "(I)I"⟩, 107), (⟨"RiceHallModel", "node", "(IIII)I"⟩, 107)]
theorem lw_r4 : ∀ q ∈ lw_privs_4, lw_okq q := List.forall_mem_cons.mpr ⟨lw_p48, List.forall_mem_cons.mpr ⟨lw_p49, List.forall_mem_cons.mpr ⟨lw_p50, List.forall_mem_cons.mpr ⟨lw_p51, List.forall_mem_cons.mpr ⟨lw_p52, List.forall_mem_cons.mpr ⟨lw_p53, List.forall_mem_cons.mpr ⟨lw_p54, List.forall_mem_cons.mpr ⟨lw_p55, List.forall_mem_cons.mpr ⟨lw_p56, List.forall_mem_cons.mpr ⟨lw_p57, List.forall_mem_cons.mpr ⟨lw_p58, List.forall_mem_cons.mpr ⟨lw_p59, List.forall_mem_cons.mpr ⟨lw_p60, List.forall_mem_cons.mpr ⟨lw_p61, List.forall_mem_cons.mpr ⟨lw_p62, List.forall_mem_cons.mpr ⟨lw_p63, fun _ h => absurd h List.not_mem_nil⟩⟩⟩⟩⟩⟩⟩⟩⟩⟩⟩⟩⟩⟩⟩⟩
theorem lw_p64 : lw_okq (⟨"RiceHallModel", "ends", "(I)V"⟩, 107) := ⟨⟨by decide +kernel, by decide +kernel⟩, List.mem_of_getElem? (i := 1193) (by decide +kernel), List.mem_of_getElem? (i := 1747) (by decide +kernel), List.mem_of_getElem? (i := 1748) (by decide +kernel)⟩
theorem lw_p65 : lw_okq (⟨"RiceHallModel", "chain", "(IZ)V"⟩, 107) := ⟨⟨by decide +kernel, by decide +kernel⟩, List.mem_of_getElem? (i := 1193) (by decide +kernel), List.mem_of_getElem? (i := 1751) (by decide +kernel), List.mem_of_getElem? (i := 1752) (by decide +kernel)⟩
theorem lw_p66 : lw_okq (⟨"RiceHallModel", "wordOf", "(J)I"⟩, 107) := ⟨⟨by decide +kernel, by decide +kernel⟩, List.mem_of_getElem? (i := 1193) (by decide +kernel), List.mem_of_getElem? (i := 1757) (by decide +kernel), List.mem_of_getElem? (i := 1758) (by decide +kernel)⟩
theorem lw_p67 : lw_okq (⟨"RiceHallModel", "against", "(III)I"⟩, 107) := ⟨⟨by decide +kernel, by decide +kernel⟩, List.mem_of_getElem? (i := 1193) (by decide +kernel), List.mem_of_getElem? (i := 1798) (by decide +kernel), List.mem_of_getElem? (i := 1799) (by decide +kernel)⟩
theorem lw_p68 : lw_okq (⟨"RiceHallModel", "isBargain", "(I)Z"⟩, 107) := ⟨⟨by decide +kernel, by decide +kernel⟩, List.mem_of_getElem? (i := 1193) (by decide +kernel), List.mem_of_getElem? (i := 1810) (by decide +kernel), List.mem_of_getElem? (i := 1811) (by decide +kernel)⟩
theorem lw_p69 : lw_okq (⟨"RiceHallModel", "closesSession", "(I)V"⟩, 107) := ⟨⟨by decide +kernel, by decide +kernel⟩, List.mem_of_getElem? (i := 1193) (by decide +kernel), List.mem_of_getElem? (i := 1822) (by decide +kernel), List.mem_of_getElem? (i := 1823) (by decide +kernel)⟩
theorem lw_p70 : lw_okq (⟨"RiceHallModel", "judges", "(II)V"⟩, 107) := ⟨⟨by decide +kernel, by decide +kernel⟩, List.mem_of_getElem? (i := 1193) (by decide +kernel), List.mem_of_getElem? (i := 1826) (by decide +kernel), List.mem_of_getElem? (i := 1827) (by decide +kernel)⟩
theorem lw_p71 : lw_okq (⟨"RiceHallModel", "clears", "(III)V"⟩, 107) := ⟨⟨by decide +kernel, by decide +kernel⟩, List.mem_of_getElem? (i := 1193) (by decide +kernel), List.mem_of_getElem? (i := 1830) (by decide +kernel), List.mem_of_getElem? (i := 1831) (by decide +kernel)⟩
theorem lw_p72 : lw_okq (⟨"RiceHallModel", "margin", "(II)V"⟩, 107) := ⟨⟨by decide +kernel, by decide +kernel⟩, List.mem_of_getElem? (i := 1193) (by decide +kernel), List.mem_of_getElem? (i := 1834) (by decide +kernel), List.mem_of_getElem? (i := 1835) (by decide +kernel)⟩
theorem lw_p73 : lw_okq (⟨"RiceHallModel", "bears", "()V"⟩, 107) := ⟨⟨by decide +kernel, by decide +kernel⟩, List.mem_of_getElem? (i := 1193) (by decide +kernel), List.mem_of_getElem? (i := 1838) (by decide +kernel), List.mem_of_getElem? (i := 1839) (by decide +kernel)⟩
theorem lw_p74 : lw_okq (⟨"RiceHallModel", "parts", "(IJJ)V"⟩, 107) := ⟨⟨by decide +kernel, by decide +kernel⟩, List.mem_of_getElem? (i := 1193) (by decide +kernel), List.mem_of_getElem? (i := 1842) (by decide +kernel), List.mem_of_getElem? (i := 1843) (by decide +kernel)⟩
theorem lw_p75 : lw_okq (⟨"RiceHallModel", "assets", "(II)J"⟩, 107) := ⟨⟨by decide +kernel, by decide +kernel⟩, List.mem_of_getElem? (i := 1193) (by decide +kernel), List.mem_of_getElem? (i := 1866) (by decide +kernel), List.mem_of_getElem? (i := 1867) (by decide +kernel)⟩
theorem lw_p76 : lw_okq (⟨"RiceHallModel", "debts", "(I)J"⟩, 107) := ⟨⟨by decide +kernel, by decide +kernel⟩, List.mem_of_getElem? (i := 1193) (by decide +kernel), List.mem_of_getElem? (i := 1870) (by decide +kernel), List.mem_of_getElem? (i := 1871) (by decide +kernel)⟩
def lw_privs_5 : List (MethodName × Nat) := [(⟨"RiceHallModel", "ends", "(I)V"⟩, 107), (⟨"RiceHallModel", "chain", "(IZ)V"⟩, 107), (⟨"RiceHallModel", "wordOf", "(J)I"⟩, 107), (⟨"RiceHallModel", "against", "(III)I"⟩, 107), (⟨"RiceHallModel", "isBargain", "(I)Z"⟩, 107), (⟨"RiceHallModel", "closesSession", "(I)V"⟩, 107), (⟨"RiceHallModel", "judges", "(II)V"⟩, 107), (⟨"RiceHallModel", "clears", "(III)V"⟩, 107), (⟨"RiceHallModel", "margin", "(II)V"⟩, 107), (⟨"RiceHallModel", "bears", "()V"⟩, 107), (⟨"RiceHallModel", "parts", "(IJJ)V"⟩, 107), (⟨"RiceHallModel", "assets", "(II)J"⟩, 107), (⟨"RiceHallModel", "debts", "(I)J"⟩, 107)]
theorem lw_r5 : ∀ q ∈ lw_privs_5, lw_okq q := List.forall_mem_cons.mpr ⟨lw_p64, List.forall_mem_cons.mpr ⟨lw_p65, List.forall_mem_cons.mpr ⟨lw_p66, List.forall_mem_cons.mpr ⟨lw_p67, List.forall_mem_cons.mpr ⟨lw_p68, List.forall_mem_cons.mpr ⟨lw_p69, List.forall_mem_cons.mpr ⟨lw_p70, List.forall_mem_cons.mpr ⟨lw_p71, List.forall_mem_cons.mpr ⟨lw_p72, List.forall_mem_cons.mpr ⟨lw_p73, List.forall_mem_cons.mpr ⟨lw_p74, List.forall_mem_cons.mpr ⟨lw_p75, List.forall_mem_cons.mpr ⟨lw_p76, fun _ h => absurd h List.not_mem_nil⟩⟩⟩⟩⟩⟩⟩⟩⟩⟩⟩⟩⟩
def lw_privs : List (MethodName × Nat) := lw_privs_1 ++ (lw_privs_2 ++ (lw_privs_3 ++ (lw_privs_4 ++ (lw_privs_5))))
def lw_tbl : List Cond := k2_sels lw_privs ++ tables_1
theorem lw_privs_ok : ∀ q ∈ lw_privs, lw_okq q := by
  show ∀ q ∈ lw_privs_1 ++ (lw_privs_2 ++ (lw_privs_3 ++ (lw_privs_4 ++ (lw_privs_5)))), lw_okq q
  exact List.forall_mem_append.mpr ⟨lw_r1, List.forall_mem_append.mpr ⟨lw_r2, List.forall_mem_append.mpr ⟨lw_r3, List.forall_mem_append.mpr ⟨lw_r4, lw_r5⟩⟩⟩⟩

def RX0 : String := "RiceHall$Bargain"
def TX0 : u_T := fun k => match k with
  | 0 => ("RiceHall$Bargain", "buyer", "I", true)
  | 1 => ("RiceHall$Bargain", "seller", "I", true)
  | 2 => ("RiceHall$Bargain", "lots", "I", true)
  | 3 => ("RiceHall$Bargain", "price", "I", true)
  | 4 => ("RiceHall$Bargain", "minute", "I", true)
  | 5 => ("RiceHall$Bargain", "buyerLots", "I", false)
  | 6 => ("RiceHall$Bargain", "buyerPrice", "I", false)
  | 7 => ("RiceHall$Bargain", "sellerLots", "I", false)
  | 8 => ("RiceHall$Bargain", "sellerPrice", "I", false)
  | 9 => ("RiceHall$Bargain", "buyerDenied", "Z", false)
  | 10 => ("RiceHall$Bargain", "sellerDenied", "Z", false)
  | 11 => ("RiceHall$Bargain", "buyerDeniedFirst", "Z", false)
  | 12 => ("RiceHall$Bargain", "stoodLots", "I", false)
  | _ => ("RiceHall$Bargain", "stoodPrice", "I", false)
def tyX0 : Nat → FieldType := fun k => match k with
  | 0 => .int
  | 1 => .int
  | 2 => .int
  | 3 => .int
  | 4 => .int
  | 5 => .int
  | 6 => .int
  | 7 => .int
  | 8 => .int
  | 9 => .boolean
  | 10 => .boolean
  | 11 => .boolean
  | 12 => .int
  | _ => .int
theorem nmX0 : ∀ a, a < 14 → ∀ b, b < 14 → a ≠ b → (TX0 a).2.1 ≠ (TX0 b).2.1 := by decide +kernel
theorem tyX0_ok : ∀ k, k < 14 → parseFieldDescriptor (TX0 k).2.2.1 = some (tyX0 k) := by decide +kernel
abbrev cX0_init : ByteArray := prog_2_method_1_code
def yX0_init : MethodName := ⟨RX0, "<init>", "(LRiceHall$Cry;LRiceHall$Cry;I)V"⟩
abbrev cX0_write : ByteArray := prog_2_method_2_code
def yX0_write : MethodName := ⟨RX0, "write", "(ZII)V"⟩
abbrev cX0_isDenied : ByteArray := prog_2_method_3_code
def yX0_isDenied : MethodName := ⟨RX0, "isDenied", "()Z"⟩
abbrev cX0_denyBy : ByteArray := prog_2_method_4_code
def yX0_denyBy : MethodName := ⟨RX0, "denyBy", "(Z)Z"⟩
abbrev cX0_judge : ByteArray := prog_2_method_5_code
def yX0_judge : MethodName := ⟨RX0, "judge", "()V"⟩
abbrev cX0_standAs : ByteArray := prog_2_method_6_code
def yX0_standAs : MethodName := ⟨RX0, "standAs", "(II)V"⟩
def RX1 : String := "RiceHall$Cry"
def TX1 : u_T := fun k => match k with
  | 0 => ("RiceHall$Cry", "person", "I", true)
  | 1 => ("RiceHall$Cry", "buys", "Z", true)
  | 2 => ("RiceHall$Cry", "lots", "I", true)
  | 3 => ("RiceHall$Cry", "price", "I", true)
  | 4 => ("RiceHall$Cry", "minute", "I", true)
  | _ => ("RiceHall$Cry", "backAhead", "I", false)
def tyX1 : Nat → FieldType := fun k => match k with
  | 0 => .int
  | 1 => .boolean
  | 2 => .int
  | 3 => .int
  | 4 => .int
  | _ => .int
theorem nmX1 : ∀ a, a < 6 → ∀ b, b < 6 → a ≠ b → (TX1 a).2.1 ≠ (TX1 b).2.1 := by decide +kernel
theorem tyX1_ok : ∀ k, k < 6 → parseFieldDescriptor (TX1 k).2.2.1 = some (tyX1 k) := by decide +kernel
abbrev cX1_init : ByteArray := prog_3_method_1_code
def yX1_init : MethodName := ⟨RX1, "<init>", "(IZIII)V"⟩
abbrev cX1_meets : ByteArray := prog_3_method_2_code
def yX1_meets : MethodName := ⟨RX1, "meets", "(LRiceHall$Cry;)Z"⟩
abbrev cX1_isBetterThan : ByteArray := prog_3_method_3_code
def yX1_isBetterThan : MethodName := ⟨RX1, "isBetterThan", "(LRiceHall$Cry;)Z"⟩
def RX2 : String := "RiceHall$Edict"
def TX2 : u_T := fun k => match k with
  | 0 => ("RiceHall$Edict", "minute", "I", true)
  | 1 => ("RiceHall$Edict", "words", "[I", true)
  | 2 => ("RiceHall$Edict", "values", "[I", true)
  | 3 => ("RiceHall$Edict", "conditionEnds", "[I", true)
  | _ => ("RiceHall$Edict", "code", "[I", true)
def tyX2 : Nat → FieldType := fun k => match k with
  | 0 => .int
  | 1 => .array .int
  | 2 => .array .int
  | 3 => .array .int
  | _ => .array .int
theorem nmX2 : ∀ a, a < 5 → ∀ b, b < 5 → a ≠ b → (TX2 a).2.1 ≠ (TX2 b).2.1 := by decide +kernel
theorem tyX2_ok : ∀ k, k < 5 → parseFieldDescriptor (TX2 k).2.2.1 = some (tyX2 k) := by decide +kernel
abbrev cX2_init : ByteArray := prog_4_method_1_code
def yX2_init : MethodName := ⟨RX2, "<init>", "(LRiceHall$Scribe;I)V"⟩
abbrev cX2_lastThatHolds : ByteArray := prog_4_method_2_code
def yX2_lastThatHolds : MethodName := ⟨RX2, "lastThatHolds", "(I[I)I"⟩
abbrev cX2_holds : ByteArray := prog_4_method_3_code
def yX2_holds : MethodName := ⟨RX2, "holds", "(II[I)Z"⟩
abbrev cX2_isFact : ByteArray := prog_4_method_4_code
def yX2_isFact : MethodName := ⟨RX2, "isFact", "(I[I)Z"⟩
def RX3 : String := "RiceHall$House"
def TX3 : u_T := fun k => match k with
  | 0 => ("RiceHall$House", "closes", "[I", true)
  | 1 => ("RiceHall$House", "remainders", "[J", true)
  | 2 => ("RiceHall$House", "closeCount", "I", false)
  | 3 => ("RiceHall$House", "position", "I", false)
  | 4 => ("RiceHall$House", "fund", "J", false)
  | 5 => ("RiceHall$House", "paid", "J", false)
  | _ => ("RiceHall$House", "drawn", "J", false)
def tyX3 : Nat → FieldType := fun k => match k with
  | 0 => .array .int
  | 1 => .array .long
  | 2 => .int
  | 3 => .int
  | 4 => .long
  | 5 => .long
  | _ => .long
theorem nmX3 : ∀ a, a < 7 → ∀ b, b < 7 → a ≠ b → (TX3 a).2.1 ≠ (TX3 b).2.1 := by decide +kernel
theorem tyX3_ok : ∀ k, k < 7 → parseFieldDescriptor (TX3 k).2.2.1 = some (tyX3 k) := by decide +kernel
abbrev cX3_init : ByteArray := prog_5_method_1_code
def yX3_init : MethodName := ⟨RX3, "<init>", "()V"⟩
abbrev cX3_latestClose : ByteArray := prog_5_method_2_code
def yX3_latestClose : MethodName := ⟨RX3, "latestClose", "()I"⟩
abbrev cX3_addClose : ByteArray := prog_5_method_3_code
def yX3_addClose : MethodName := ⟨RX3, "addClose", "(I)V"⟩
abbrev cX3_allCoins : ByteArray := prog_5_method_4_code
def yX3_allCoins : MethodName := ⟨RX3, "allCoins", "([LRiceHall$Person;I)J"⟩
abbrev cX3_widest : ByteArray := prog_5_method_5_code
def yX3_widest : MethodName := ⟨RX3, "widest", "(II)I"⟩
abbrev cX3_mark : ByteArray := prog_5_method_6_code
def yX3_mark : MethodName := ⟨RX3, "mark", "([LRiceHall$Person;II)V"⟩
abbrev cX3_enter : ByteArray := prog_5_method_7_code
def yX3_enter : MethodName := ⟨RX3, "enter", "([LRiceHall$Person;LRiceHall$Session;)V"⟩
abbrev cX3_callMargins : ByteArray := prog_5_method_8_code
def yX3_callMargins : MethodName := ⟨RX3, "callMargins", "([LRiceHall$Person;IIII)V"⟩
abbrev cX3_closeOut : ByteArray := prog_5_method_9_code
def yX3_closeOut : MethodName := ⟨RX3, "closeOut", "(LRiceHall$Person;)V"⟩
abbrev cX3_partTheLack : ByteArray := prog_5_method_10_code
def yX3_partTheLack : MethodName := ⟨RX3, "partTheLack", "([LRiceHall$Person;I)V"⟩
abbrev cX3_partOf : ByteArray := prog_5_method_11_code
def yX3_partOf : MethodName := ⟨RX3, "partOf", "(IJJJ)J"⟩
abbrev cX3_greatestRemainder : ByteArray := prog_5_method_12_code
def yX3_greatestRemainder : MethodName := ⟨RX3, "greatestRemainder", "(I)I"⟩
abbrev cX3_settleAt : ByteArray := prog_5_method_13_code
def yX3_settleAt : MethodName := ⟨RX3, "settleAt", "([LRiceHall$Person;II)V"⟩
def RX4 : String := "RiceHall$Land"
def TX4 : u_T := fun k => match k with
  | 0 => ("RiceHall$Land", "fogFrom", "[I", true)
  | 1 => ("RiceHall$Land", "fogTo", "[I", true)
  | 2 => ("RiceHall$Land", "flagMinutes", "[I", true)
  | 3 => ("RiceHall$Land", "walkMinutes", "[I", true)
  | 4 => ("RiceHall$Land", "reached", "[I", true)
  | 5 => ("RiceHall$Land", "passedOn", "[Z", true)
  | _ => ("RiceHall$Land", "towns", "I", false)
def tyX4 : Nat → FieldType := fun k => match k with
  | 0 => .array .int
  | 1 => .array .int
  | 2 => .array .int
  | 3 => .array .int
  | 4 => .array .int
  | 5 => .array .boolean
  | _ => .int
theorem nmX4 : ∀ a, a < 7 → ∀ b, b < 7 → a ≠ b → (TX4 a).2.1 ≠ (TX4 b).2.1 := by decide +kernel
theorem tyX4_ok : ∀ k, k < 7 → parseFieldDescriptor (TX4 k).2.2.1 = some (tyX4 k) := by decide +kernel
abbrev cX4_init : ByteArray := prog_6_method_1_code
def yX4_init : MethodName := ⟨RX4, "<init>", "()V"⟩
abbrev cX4_has : ByteArray := prog_6_method_2_code
def yX4_has : MethodName := ⟨RX4, "has", "(I)Z"⟩
abbrev cX4_addTown : ByteArray := prog_6_method_3_code
def yX4_addTown : MethodName := ⟨RX4, "addTown", "()I"⟩
abbrev cX4_setFog : ByteArray := prog_6_method_4_code
def yX4_setFog : MethodName := ⟨RX4, "setFog", "(III)Z"⟩
abbrev cX4_setRoad : ByteArray := prog_6_method_5_code
def yX4_setRoad : MethodName := ⟨RX4, "setRoad", "(IIII)Z"⟩
abbrev cX4_spread : ByteArray := prog_6_method_6_code
def yX4_spread : MethodName := ⟨RX4, "spread", "(II)V"⟩
abbrev cX4_minuteIn : ByteArray := prog_6_method_7_code
def yX4_minuteIn : MethodName := ⟨RX4, "minuteIn", "(I)I"⟩
abbrev cX4_earliestToPassOn : ByteArray := prog_6_method_8_code
def yX4_earliestToPassOn : MethodName := ⟨RX4, "earliestToPassOn", "()I"⟩
abbrev cX4_passOn : ByteArray := prog_6_method_9_code
def yX4_passOn : MethodName := ⟨RX4, "passOn", "(I)V"⟩
abbrev cX4_arrival : ByteArray := prog_6_method_10_code
def yX4_arrival : MethodName := ⟨RX4, "arrival", "(II)I"⟩
abbrev cX4_flagsSeen : ByteArray := prog_6_method_11_code
def yX4_flagsSeen : MethodName := ⟨RX4, "flagsSeen", "(III)I"⟩
abbrev cX4_pastNight : ByteArray := prog_6_method_12_code
def yX4_pastNight : MethodName := ⟨RX4, "pastNight", "(I)I"⟩
abbrev cX4_pastFog : ByteArray := prog_6_method_13_code
def yX4_pastFog : MethodName := ⟨RX4, "pastFog", "(II)I"⟩
def RX5 : String := "RiceHall$Law"
def TX5 : u_T := fun k => match k with
  | 0 => ("RiceHall$Law", "scribe", "LRiceHall$Scribe;", true)
  | 1 => ("RiceHall$Law", "edicts", "[LRiceHall$Edict;", true)
  | 2 => ("RiceHall$Law", "facts", "[I", true)
  | 3 => ("RiceHall$Law", "edictCount", "I", false)
  | _ => ("RiceHall$Law", "latestFault", "I", false)
def tyX5 : Nat → FieldType := fun k => match k with
  | 0 => .object "RiceHall$Scribe"
  | 1 => .array (.object "RiceHall$Edict")
  | 2 => .array .int
  | 3 => .int
  | _ => .int
theorem nmX5 : ∀ a, a < 5 → ∀ b, b < 5 → a ≠ b → (TX5 a).2.1 ≠ (TX5 b).2.1 := by decide +kernel
theorem tyX5_ok : ∀ k, k < 5 → parseFieldDescriptor (TX5 k).2.2.1 = some (tyX5 k) := by decide +kernel
abbrev cX5_init : ByteArray := prog_7_method_1_code
def yX5_init : MethodName := ⟨RX5, "<init>", "()V"⟩
abbrev cX5_isFull : ByteArray := prog_7_method_2_code
def yX5_isFull : MethodName := ⟨RX5, "isFull", "()Z"⟩
abbrev cX5_read : ByteArray := prog_7_method_3_code
def yX5_read : MethodName := ⟨RX5, "read", "([BI)Z"⟩
abbrev cX5_keep : ByteArray := prog_7_method_4_code
def yX5_keep : MethodName := ⟨RX5, "keep", "(I)I"⟩
abbrev cX5_minuteOf : ByteArray := prog_7_method_5_code
def yX5_minuteOf : MethodName := ⟨RX5, "minuteOf", "(I)I"⟩
abbrev cX5_inForce : ByteArray := prog_7_method_6_code
def yX5_inForce : MethodName := ⟨RX5, "inForce", "(I)I"⟩
abbrev cX5_lookAtClock : ByteArray := prog_7_method_7_code
def yX5_lookAtClock : MethodName := ⟨RX5, "lookAtClock", "(II)V"⟩
abbrev cX5_lookAtMarket : ByteArray := prog_7_method_8_code
def yX5_lookAtMarket : MethodName := ⟨RX5, "lookAtMarket", "(IIII)V"⟩
abbrev cX5_ask : ByteArray := prog_7_method_9_code
def yX5_ask : MethodName := ⟨RX5, "ask", "(II)I"⟩
def RX6 : String := "RiceHall$Person"
def TX6 : u_T := fun k => match k with
  | 0 => ("RiceHall$Person", "town", "I", true)
  | 1 => ("RiceHall$Person", "paper", "[I", true)
  | 2 => ("RiceHall$Person", "owes", "[I", true)
  | 3 => ("RiceHall$Person", "coins", "J", false)
  | 4 => ("RiceHall$Person", "position", "I", false)
  | 5 => ("RiceHall$Person", "bales", "I", false)
  | 6 => ("RiceHall$Person", "calledFrom", "I", false)
  | 7 => ("RiceHall$Person", "closedOut", "I", false)
  | _ => ("RiceHall$Person", "failed", "I", false)
def tyX6 : Nat → FieldType := fun k => match k with
  | 0 => .int
  | 1 => .array .int
  | 2 => .array .int
  | 3 => .long
  | 4 => .int
  | 5 => .int
  | 6 => .int
  | 7 => .int
  | _ => .int
theorem nmX6 : ∀ a, a < 9 → ∀ b, b < 9 → a ≠ b → (TX6 a).2.1 ≠ (TX6 b).2.1 := by decide +kernel
theorem tyX6_ok : ∀ k, k < 9 → parseFieldDescriptor (TX6 k).2.2.1 = some (tyX6 k) := by decide +kernel
abbrev cX6_init : ByteArray := prog_8_method_1_code
def yX6_init : MethodName := ⟨RX6, "<init>", "(I)V"⟩
abbrev cX6_need : ByteArray := prog_8_method_2_code
def yX6_need : MethodName := ⟨RX6, "need", "(I)J"⟩
def RX7 : String := "RiceHall$Ruin"
def TX7 : u_T := fun k => match k with
  | 0 => ("RiceHall$Ruin", "round", "[I", true)
  | 1 => ("RiceHall$Ruin", "parts", "[I", true)
  | 2 => ("RiceHall$Ruin", "own", "[J", true)
  | 3 => ("RiceHall$Ruin", "failed", "I", false)
  | _ => ("RiceHall$Ruin", "rounds", "I", false)
def tyX7 : Nat → FieldType := fun k => match k with
  | 0 => .array .int
  | 1 => .array .int
  | 2 => .array .long
  | 3 => .int
  | _ => .int
theorem nmX7 : ∀ a, a < 5 → ∀ b, b < 5 → a ≠ b → (TX7 a).2.1 ≠ (TX7 b).2.1 := by decide +kernel
theorem tyX7_ok : ∀ k, k < 5 → parseFieldDescriptor (TX7 k).2.2.1 = some (tyX7 k) := by decide +kernel
abbrev cX7_init : ByteArray := prog_9_method_1_code
def yX7_init : MethodName := ⟨RX7, "<init>", "()V"⟩
abbrev cX7_reckon : ByteArray := prog_9_method_2_code
def yX7_reckon : MethodName := ⟨RX7, "reckon", "([LRiceHall$Person;I[LRiceHall$Store;II)V"⟩
abbrev cX7_failAll : ByteArray := prog_9_method_3_code
def yX7_failAll : MethodName := ⟨RX7, "failAll", "([LRiceHall$Person;II)V"⟩
abbrev cX7_owedTo : ByteArray := prog_9_method_4_code
def yX7_owedTo : MethodName := ⟨RX7, "owedTo", "(I[LRiceHall$Person;II)J"⟩
abbrev cX7_debtsOf : ByteArray := prog_9_method_5_code
def yX7_debtsOf : MethodName := ⟨RX7, "debtsOf", "(LRiceHall$Person;I)J"⟩
def RX8 : String := "RiceHall$Scribe"
def TX8 : u_T := fun k => match k with
  | 0 => ("RiceHall$Scribe", "words", "[I", true)
  | 1 => ("RiceHall$Scribe", "values", "[I", true)
  | 2 => ("RiceHall$Scribe", "conditionEnds", "[I", true)
  | 3 => ("RiceHall$Scribe", "code", "[I", true)
  | 4 => ("RiceHall$Scribe", "statements", "I", false)
  | 5 => ("RiceHall$Scribe", "codeLength", "I", false)
  | 6 => ("RiceHall$Scribe", "kinds", "[I", true)
  | 7 => ("RiceHall$Scribe", "places", "[I", true)
  | 8 => ("RiceHall$Scribe", "numbers", "[I", true)
  | 9 => ("RiceHall$Scribe", "tokens", "I", false)
  | _ => ("RiceHall$Scribe", "next", "I", false)
def tyX8 : Nat → FieldType := fun k => match k with
  | 0 => .array .int
  | 1 => .array .int
  | 2 => .array .int
  | 3 => .array .int
  | 4 => .int
  | 5 => .int
  | 6 => .array .int
  | 7 => .array .int
  | 8 => .array .int
  | 9 => .int
  | _ => .int
theorem nmX8 : ∀ a, a < 11 → ∀ b, b < 11 → a ≠ b → (TX8 a).2.1 ≠ (TX8 b).2.1 := by decide +kernel
theorem tyX8_ok : ∀ k, k < 11 → parseFieldDescriptor (TX8 k).2.2.1 = some (tyX8 k) := by decide +kernel
abbrev cX8_init : ByteArray := prog_10_method_1_code
def yX8_init : MethodName := ⟨RX8, "<init>", "()V"⟩
abbrev cX8_begin : ByteArray := prog_10_method_2_code
def yX8_begin : MethodName := ⟨RX8, "begin", "([BI)V"⟩
abbrev cX8_isAtEnd : ByteArray := prog_10_method_3_code
def yX8_isAtEnd : MethodName := ⟨RX8, "isAtEnd", "()Z"⟩
abbrev cX8_placeReached : ByteArray := prog_10_method_4_code
def yX8_placeReached : MethodName := ⟨RX8, "placeReached", "()I"⟩
abbrev cX8_isLetter : ByteArray := prog_10_method_5_code
def yX8_isLetter : MethodName := ⟨RX8, "isLetter", "(B)Z"⟩
abbrev cX8_isDigit : ByteArray := prog_10_method_6_code
def yX8_isDigit : MethodName := ⟨RX8, "isDigit", "(B)Z"⟩
abbrev cX8_tokenEnd : ByteArray := prog_10_method_7_code
def yX8_tokenEnd : MethodName := ⟨RX8, "tokenEnd", "([BII)I"⟩
abbrev cX8_kindOf : ByteArray := prog_10_method_8_code
def yX8_kindOf : MethodName := ⟨RX8, "kindOf", "([BII)I"⟩
abbrev cX8_wordOf : ByteArray := prog_10_method_9_code
def yX8_wordOf : MethodName := ⟨RX8, "wordOf", "([BII)I"⟩
abbrev cX8_isSame : ByteArray := prog_10_method_10_code
def yX8_isSame : MethodName := ⟨RX8, "isSame", "([BIII)Z"⟩
abbrev cX8_numberOf : ByteArray := prog_10_method_11_code
def yX8_numberOf : MethodName := ⟨RX8, "numberOf", "([BII)I"⟩
abbrev cX8_take : ByteArray := prog_10_method_12_code
def yX8_take : MethodName := ⟨RX8, "take", "(I)Z"⟩
abbrev cX8_takeOf : ByteArray := prog_10_method_13_code
def yX8_takeOf : MethodName := ⟨RX8, "takeOf", "(II)I"⟩
abbrev cX8_takeNumber : ByteArray := prog_10_method_14_code
def yX8_takeNumber : MethodName := ⟨RX8, "takeNumber", "(I)I"⟩
abbrev cX8_readStatement : ByteArray := prog_10_method_15_code
def yX8_readStatement : MethodName := ⟨RX8, "readStatement", "()Z"⟩
abbrev cX8_readValue : ByteArray := prog_10_method_16_code
def yX8_readValue : MethodName := ⟨RX8, "readValue", "(I)I"⟩
abbrev cX8_readCondition : ByteArray := prog_10_method_17_code
def yX8_readCondition : MethodName := ⟨RX8, "readCondition", "(I)Z"⟩
abbrev cX8_readAll : ByteArray := prog_10_method_18_code
def yX8_readAll : MethodName := ⟨RX8, "readAll", "(I)Z"⟩
abbrev cX8_readFact : ByteArray := prog_10_method_19_code
def yX8_readFact : MethodName := ⟨RX8, "readFact", "(I)Z"⟩
abbrev cX8_readComparison : ByteArray := prog_10_method_20_code
def yX8_readComparison : MethodName := ⟨RX8, "readComparison", "()Z"⟩
abbrev cX8_put : ByteArray := prog_10_method_21_code
def yX8_put : MethodName := ⟨RX8, "put", "(I)Z"⟩
def RX9 : String := "RiceHall$Session"
def TX9 : u_T := fun k => match k with
  | 0 => ("RiceHall$Session", "litAt", "I", true)
  | 1 => ("RiceHall$Session", "cries", "[LRiceHall$Cry;", true)
  | 2 => ("RiceHall$Session", "standing", "[I", true)
  | 3 => ("RiceHall$Session", "bargains", "[LRiceHall$Bargain;", true)
  | 4 => ("RiceHall$Session", "cryCount", "I", false)
  | 5 => ("RiceHall$Session", "bargainCount", "I", false)
  | 6 => ("RiceHall$Session", "stood", "I", false)
  | 7 => ("RiceHall$Session", "fuse", "I", false)
  | 8 => ("RiceHall$Session", "endedAt", "I", false)
  | 9 => ("RiceHall$Session", "close", "I", false)
  | _ => ("RiceHall$Session", "gap", "I", false)
def tyX9 : Nat → FieldType := fun k => match k with
  | 0 => .int
  | 1 => .array (.object "RiceHall$Cry")
  | 2 => .array .int
  | 3 => .array (.object "RiceHall$Bargain")
  | 4 => .int
  | 5 => .int
  | 6 => .int
  | 7 => .int
  | 8 => .int
  | 9 => .int
  | _ => .int
theorem nmX9 : ∀ a, a < 11 → ∀ b, b < 11 → a ≠ b → (TX9 a).2.1 ≠ (TX9 b).2.1 := by decide +kernel
theorem tyX9_ok : ∀ k, k < 11 → parseFieldDescriptor (TX9 k).2.2.1 = some (tyX9 k) := by decide +kernel
abbrev cX9_init : ByteArray := prog_11_method_1_code
def yX9_init : MethodName := ⟨RX9, "<init>", "(II)V"⟩
abbrev cX9_hasBargain : ByteArray := prog_11_method_2_code
def yX9_hasBargain : MethodName := ⟨RX9, "hasBargain", "(I)Z"⟩
abbrev cX9_addCry : ByteArray := prog_11_method_3_code
def yX9_addCry : MethodName := ⟨RX9, "addCry", "(LRiceHall$Cry;)I"⟩
abbrev cX9_meet : ByteArray := prog_11_method_4_code
def yX9_meet : MethodName := ⟨RX9, "meet", "(I)V"⟩
abbrev cX9_bestPartner : ByteArray := prog_11_method_5_code
def yX9_bestPartner : MethodName := ⟨RX9, "bestPartner", "(I[I)I"⟩
abbrev cX9_strike : ByteArray := prog_11_method_6_code
def yX9_strike : MethodName := ⟨RX9, "strike", "(II[I)I"⟩
abbrev cX9_takeBack : ByteArray := prog_11_method_7_code
def yX9_takeBack : MethodName := ⟨RX9, "takeBack", "(I)I"⟩
abbrev cX9_bestPrice : ByteArray := prog_11_method_8_code
def yX9_bestPrice : MethodName := ⟨RX9, "bestPrice", "(Z)I"⟩
abbrev cX9_lotsAt : ByteArray := prog_11_method_9_code
def yX9_lotsAt : MethodName := ⟨RX9, "lotsAt", "(ZI)I"⟩
abbrev cX9_end : ByteArray := prog_11_method_10_code
def yX9_end : MethodName := ⟨RX9, "end", "(II)V"⟩
abbrev cX9_otherClose : ByteArray := prog_11_method_11_code
def yX9_otherClose : MethodName := ⟨RX9, "otherClose", "(II[I)I"⟩
abbrev cX9_dropTakenBack : ByteArray := prog_11_method_12_code
def yX9_dropTakenBack : MethodName := ⟨RX9, "dropTakenBack", "(I[I)V"⟩
abbrev cX9_meetAgain : ByteArray := prog_11_method_13_code
def yX9_meetAgain : MethodName := ⟨RX9, "meetAgain", "(I[I)I"⟩
def RX10 : String := "RiceHall$Store"
def TX10 : u_T := fun k => match k with
  | 0 => ("RiceHall$Store", "issued", "[I", true)
  | 1 => ("RiceHall$Store", "knownFrom", "[I", true)
  | 2 => ("RiceHall$Store", "issues", "I", false)
  | 3 => ("RiceHall$Store", "waiter", "[I", true)
  | 4 => ("RiceHall$Store", "waitLeft", "[I", true)
  | 5 => ("RiceHall$Store", "waitFrom", "[I", true)
  | 6 => ("RiceHall$Store", "firstWait", "I", false)
  | 7 => ("RiceHall$Store", "waits", "I", false)
  | 8 => ("RiceHall$Store", "rice", "I", false)
  | 9 => ("RiceHall$Store", "held", "I", false)
  | 10 => ("RiceHall$Store", "waiting", "I", false)
  | 11 => ("RiceHall$Store", "served", "I", false)
  | 12 => ("RiceHall$Store", "spoiledRice", "I", false)
  | _ => ("RiceHall$Store", "spoiledPaper", "I", false)
def tyX10 : Nat → FieldType := fun k => match k with
  | 0 => .array .int
  | 1 => .array .int
  | 2 => .int
  | 3 => .array .int
  | 4 => .array .int
  | 5 => .array .int
  | 6 => .int
  | 7 => .int
  | 8 => .int
  | 9 => .int
  | 10 => .int
  | 11 => .int
  | 12 => .int
  | _ => .int
theorem nmX10 : ∀ a, a < 14 → ∀ b, b < 14 → a ≠ b → (TX10 a).2.1 ≠ (TX10 b).2.1 := by decide +kernel
theorem tyX10_ok : ∀ k, k < 14 → parseFieldDescriptor (TX10 k).2.2.1 = some (tyX10 k) := by decide +kernel
abbrev cX10_init : ByteArray := prog_12_method_1_code
def yX10_init : MethodName := ⟨RX10, "<init>", "()V"⟩
abbrev cX10_out : ByteArray := prog_12_method_2_code
def yX10_out : MethodName := ⟨RX10, "out", "()I"⟩
abbrev cX10_addIssue : ByteArray := prog_12_method_3_code
def yX10_addIssue : MethodName := ⟨RX10, "addIssue", "(II)V"⟩
abbrev cX10_addWait : ByteArray := prog_12_method_4_code
def yX10_addWait : MethodName := ⟨RX10, "addWait", "(III)V"⟩
abbrev cX10_serve : ByteArray := prog_12_method_5_code
def yX10_serve : MethodName := ⟨RX10, "serve", "([LRiceHall$Person;)I"⟩
abbrev cX10_spoilRice : ByteArray := prog_12_method_6_code
def yX10_spoilRice : MethodName := ⟨RX10, "spoilRice", "(I)I"⟩
abbrev cX10_overAsKnown : ByteArray := prog_12_method_7_code
def yX10_overAsKnown : MethodName := ⟨RX10, "overAsKnown", "(I)I"⟩
abbrev cX10_cannot : ByteArray := prog_12_method_8_code
def yX10_cannot : MethodName := ⟨RX10, "cannot", "(I)Z"⟩
abbrev cX10_firstWaiter : ByteArray := prog_12_method_9_code
def yX10_firstWaiter : MethodName := ⟨RX10, "firstWaiter", "()I"⟩
abbrev cX10_share : ByteArray := prog_12_method_10_code
def yX10_share : MethodName := ⟨RX10, "share", "()I"⟩
def RX11 : String := "RiceHall"
def TX11 : u_T := fun k => match k with
  | 0 => ("RiceHall", "land", "LRiceHall$Land;", true)
  | 1 => ("RiceHall", "persons", "[LRiceHall$Person;", true)
  | 2 => ("RiceHall", "personCount", "I", false)
  | 3 => ("RiceHall", "stores", "[LRiceHall$Store;", true)
  | 4 => ("RiceHall", "storeCount", "I", false)
  | 5 => ("RiceHall", "issueCount", "I", false)
  | 6 => ("RiceHall", "waitCount", "I", false)
  | 7 => ("RiceHall", "tape", "[B", true)
  | 8 => ("RiceHall", "tapeLength", "I", false)
  | 9 => ("RiceHall", "law", "LRiceHall$Law;", true)
  | 10 => ("RiceHall", "house", "LRiceHall$House;", true)
  | 11 => ("RiceHall", "ruin", "LRiceHall$Ruin;", true)
  | 12 => ("RiceHall", "sessions", "[LRiceHall$Session;", true)
  | 13 => ("RiceHall", "sessionCount", "I", false)
  | 14 => ("RiceHall", "lit", "LRiceHall$Session;", false)
  | 15 => ("RiceHall", "standingAgain", "[I", true)
  | 16 => ("RiceHall", "now", "I", false)
  | _ => ("RiceHall", "windNow", "I", false)
def tyX11 : Nat → FieldType := fun k => match k with
  | 0 => .object "RiceHall$Land"
  | 1 => .array (.object "RiceHall$Person")
  | 2 => .int
  | 3 => .array (.object "RiceHall$Store")
  | 4 => .int
  | 5 => .int
  | 6 => .int
  | 7 => .array .byte
  | 8 => .int
  | 9 => .object "RiceHall$Law"
  | 10 => .object "RiceHall$House"
  | 11 => .object "RiceHall$Ruin"
  | 12 => .array (.object "RiceHall$Session")
  | 13 => .int
  | 14 => .object "RiceHall$Session"
  | 15 => .array .int
  | 16 => .int
  | _ => .int
theorem nmX11 : ∀ a, a < 18 → ∀ b, b < 18 → a ≠ b → (TX11 a).2.1 ≠ (TX11 b).2.1 := by decide +kernel
theorem tyX11_ok : ∀ k, k < 18 → parseFieldDescriptor (TX11 k).2.2.1 = some (tyX11 k) := by decide +kernel
abbrev cX11_init : ByteArray := prog_1_method_1_code
def yX11_init : MethodName := ⟨RX11, "<init>", "()V"⟩
abbrev cX11_town : ByteArray := prog_1_method_2_code
def yX11_town : MethodName := ⟨RX11, "town", "()I"⟩
abbrev cX11_fog : ByteArray := prog_1_method_3_code
def yX11_fog : MethodName := ⟨RX11, "fog", "(III)Z"⟩
abbrev cX11_road : ByteArray := prog_1_method_4_code
def yX11_road : MethodName := ⟨RX11, "road", "(IIII)Z"⟩
abbrev cX11_news : ByteArray := prog_1_method_5_code
def yX11_news : MethodName := ⟨RX11, "news", "(III)I"⟩
abbrev cX11_person : ByteArray := prog_1_method_6_code
def yX11_person : MethodName := ⟨RX11, "person", "(I)I"⟩
abbrev cX11_hears : ByteArray := prog_1_method_7_code
def yX11_hears : MethodName := ⟨RX11, "hears", "(III)I"⟩
abbrev cX11_store : ByteArray := prog_1_method_8_code
def yX11_store : MethodName := ⟨RX11, "store", "()I"⟩
abbrev cX11_issue : ByteArray := prog_1_method_9_code
def yX11_issue : MethodName := ⟨RX11, "issue", "(IIII)I"⟩
abbrev cX11_give : ByteArray := prog_1_method_10_code
def yX11_give : MethodName := ⟨RX11, "give", "(IIII)Z"⟩
abbrev cX11_call : ByteArray := prog_1_method_11_code
def yX11_call : MethodName := ⟨RX11, "call", "(III)I"⟩
abbrev cX11_come : ByteArray := prog_1_method_12_code
def yX11_come : MethodName := ⟨RX11, "come", "(II)I"⟩
abbrev cX11_spoil : ByteArray := prog_1_method_13_code
def yX11_spoil : MethodName := ⟨RX11, "spoil", "(II)I"⟩
abbrev cX11_over : ByteArray := prog_1_method_14_code
def yX11_over : MethodName := ⟨RX11, "over", "(II)I"⟩
abbrev cX11_storeOf : ByteArray := prog_1_method_15_code
def yX11_storeOf : MethodName := ⟨RX11, "storeOf", "(II)I"⟩
abbrev cX11_told : ByteArray := prog_1_method_16_code
def yX11_told : MethodName := ⟨RX11, "told", "(II)I"⟩
abbrev cX11_coins : ByteArray := prog_1_method_17_code
def yX11_coins : MethodName := ⟨RX11, "coins", "(I)J"⟩
abbrev cX11_pay : ByteArray := prog_1_method_18_code
def yX11_pay : MethodName := ⟨RX11, "pay", "(II)Z"⟩
abbrev cX11_draw : ByteArray := prog_1_method_19_code
def yX11_draw : MethodName := ⟨RX11, "draw", "(II)Z"⟩
abbrev cX11_feed : ByteArray := prog_1_method_20_code
def yX11_feed : MethodName := ⟨RX11, "feed", "(IIIII)I"⟩
abbrev cX11_rules : ByteArray := prog_1_method_21_code
def yX11_rules : MethodName := ⟨RX11, "rules", "(II)I"⟩
abbrev cX11_fault : ByteArray := prog_1_method_22_code
def yX11_fault : MethodName := ⟨RX11, "fault", "()I"⟩
abbrev cX11_rule : ByteArray := prog_1_method_23_code
def yX11_rule : MethodName := ⟨RX11, "rule", "(I)I"⟩
abbrev cX11_heard : ByteArray := prog_1_method_24_code
def yX11_heard : MethodName := ⟨RX11, "heard", "(I)I"⟩
abbrev cX11_wind : ByteArray := prog_1_method_25_code
def yX11_wind : MethodName := ⟨RX11, "wind", "(I)Z"⟩
abbrev cX11_light : ByteArray := prog_1_method_26_code
def yX11_light : MethodName := ⟨RX11, "light", "()I"⟩
abbrev cX11_cry : ByteArray := prog_1_method_27_code
def yX11_cry : MethodName := ⟨RX11, "cry", "(IZII)I"⟩
abbrev cX11_back : ByteArray := prog_1_method_28_code
def yX11_back : MethodName := ⟨RX11, "back", "(I)I"⟩
abbrev cX11_note : ByteArray := prog_1_method_29_code
def yX11_note : MethodName := ⟨RX11, "note", "(IZII)Z"⟩
abbrev cX11_deny : ByteArray := prog_1_method_30_code
def yX11_deny : MethodName := ⟨RX11, "deny", "(IZ)Z"⟩
abbrev cX11_pass : ByteArray := prog_1_method_31_code
def yX11_pass : MethodName := ⟨RX11, "pass", "(I)I"⟩
abbrev cX11_session : ByteArray := prog_1_method_32_code
def yX11_session : MethodName := ⟨RX11, "session", "(II)I"⟩
abbrev cX11_bargain : ByteArray := prog_1_method_33_code
def yX11_bargain : MethodName := ⟨RX11, "bargain", "(III)I"⟩
abbrev cX11_best : ByteArray := prog_1_method_34_code
def yX11_best : MethodName := ⟨RX11, "best", "(I)I"⟩
abbrev cX11_owe : ByteArray := prog_1_method_35_code
def yX11_owe : MethodName := ⟨RX11, "owe", "(III)Z"⟩
abbrev cX11_fails : ByteArray := prog_1_method_36_code
def yX11_fails : MethodName := ⟨RX11, "fails", "(II)I"⟩
abbrev cX11_other : ByteArray := prog_1_method_37_code
def yX11_other : MethodName := ⟨RX11, "other", "(III)I"⟩
abbrev cX11_least : ByteArray := prog_1_method_38_code
def yX11_least : MethodName := ⟨RX11, "least", "(I)I"⟩
abbrev cX11_judged : ByteArray := prog_1_method_39_code
def yX11_judged : MethodName := ⟨RX11, "judged", "(II)I"⟩
abbrev cX11_count : ByteArray := prog_1_method_40_code
def yX11_count : MethodName := ⟨RX11, "count", "(I)I"⟩
abbrev cX11_sum : ByteArray := prog_1_method_41_code
def yX11_sum : MethodName := ⟨RX11, "sum", "(I)J"⟩
abbrev cX11_isWithin : ByteArray := prog_1_method_42_code
def yX11_isWithin : MethodName := ⟨RX11, "isWithin", "(III)Z"⟩
abbrev cX11_isPerson : ByteArray := prog_1_method_43_code
def yX11_isPerson : MethodName := ⟨RX11, "isPerson", "(I)Z"⟩
abbrev cX11_isStore : ByteArray := prog_1_method_44_code
def yX11_isStore : MethodName := ⟨RX11, "isStore", "(I)Z"⟩
abbrev cX11_isSession : ByteArray := prog_1_method_45_code
def yX11_isSession : MethodName := ⟨RX11, "isSession", "(I)Z"⟩
abbrev cX11_holdsPaper : ByteArray := prog_1_method_46_code
def yX11_holdsPaper : MethodName := ⟨RX11, "holdsPaper", "(III)Z"⟩
abbrev cX11_minuteHeard : ByteArray := prog_1_method_47_code
def yX11_minuteHeard : MethodName := ⟨RX11, "minuteHeard", "(I)I"⟩
abbrev cX11_heardAhead : ByteArray := prog_1_method_48_code
def yX11_heardAhead : MethodName := ⟨RX11, "heardAhead", "(I)I"⟩
abbrev cX11_spoilPaper : ByteArray := prog_1_method_49_code
def yX11_spoilPaper : MethodName := ⟨RX11, "spoilPaper", "(II)V"⟩
abbrev cX11_addBytes : ByteArray := prog_1_method_50_code
def yX11_addBytes : MethodName := ⟨RX11, "addBytes", "(I)V"⟩
abbrev cX11_askLaw : ByteArray := prog_1_method_51_code
def yX11_askLaw : MethodName := ⟨RX11, "askLaw", "(I)I"⟩
abbrev cX11_lookAround : ByteArray := prog_1_method_52_code
def yX11_lookAround : MethodName := ⟨RX11, "lookAround", "()V"⟩
abbrev cX11_burnOneMinute : ByteArray := prog_1_method_53_code
def yX11_burnOneMinute : MethodName := ⟨RX11, "burnOneMinute", "()V"⟩
abbrev cX11_endSession : ByteArray := prog_1_method_54_code
def yX11_endSession : MethodName := ⟨RX11, "endSession", "()V"⟩
def RX12 : String := "RiceHallModel"
def TX12 : u_T := fun k => match k with
  | 0 => ("RiceHallModel", "now", "I", false)
  | 1 => ("RiceHallModel", "windNow", "I", false)
  | 2 => ("RiceHallModel", "towns", "I", false)
  | 3 => ("RiceHallModel", "fogFrom", "[I", true)
  | 4 => ("RiceHallModel", "fogTo", "[I", true)
  | 5 => ("RiceHallModel", "roadFlags", "[I", true)
  | 6 => ("RiceHallModel", "roadWalk", "[I", true)
  | 7 => ("RiceHallModel", "heardAt", "[I", true)
  | 8 => ("RiceHallModel", "isDone", "[Z", true)
  | 9 => ("RiceHallModel", "persons", "I", false)
  | 10 => ("RiceHallModel", "townOf", "[I", true)
  | 11 => ("RiceHallModel", "position", "[I", true)
  | 12 => ("RiceHallModel", "balesOf", "[I", true)
  | 13 => ("RiceHallModel", "calledAt", "[I", true)
  | 14 => ("RiceHallModel", "closedOut", "[I", true)
  | 15 => ("RiceHallModel", "failedOut", "[I", true)
  | 16 => ("RiceHallModel", "coinsOf", "[J", true)
  | 17 => ("RiceHallModel", "paper", "[I", true)
  | 18 => ("RiceHallModel", "fund", "J", false)
  | 19 => ("RiceHallModel", "paidIn", "J", false)
  | 20 => ("RiceHallModel", "drawnOut", "J", false)
  | 21 => ("RiceHallModel", "housePosition", "I", false)
  | 22 => ("RiceHallModel", "stores", "I", false)
  | 23 => ("RiceHallModel", "issues", "I", false)
  | 24 => ("RiceHallModel", "waits", "I", false)
  | 25 => ("RiceHallModel", "rice", "[I", true)
  | 26 => ("RiceHallModel", "issued", "[I", true)
  | 27 => ("RiceHallModel", "served", "[I", true)
  | 28 => ("RiceHallModel", "spoiledPaper", "[I", true)
  | 29 => ("RiceHallModel", "spoiledRice", "[I", true)
  | 30 => ("RiceHallModel", "issueStore", "[I", true)
  | 31 => ("RiceHallModel", "issueMany", "[I", true)
  | 32 => ("RiceHallModel", "issueKnown", "[I", true)
  | 33 => ("RiceHallModel", "waitStore", "[I", true)
  | 34 => ("RiceHallModel", "waitWho", "[I", true)
  | 35 => ("RiceHallModel", "waitLeft", "[I", true)
  | 36 => ("RiceHallModel", "waitSince", "[I", true)
  | 37 => ("RiceHallModel", "texts", "I", false)
  | 38 => ("RiceHallModel", "textFirst", "[I", true)
  | 39 => ("RiceHallModel", "textMany", "[I", true)
  | 40 => ("RiceHallModel", "textHeard", "[I", true)
  | 41 => ("RiceHallModel", "stWord", "[I", true)
  | 42 => ("RiceHallModel", "stNumber", "[I", true)
  | 43 => ("RiceHallModel", "stRoot", "[I", true)
  | 44 => ("RiceHallModel", "stFrom", "[I", true)
  | 45 => ("RiceHallModel", "stTo", "[I", true)
  | 46 => ("RiceHallModel", "statements", "I", false)
  | 47 => ("RiceHallModel", "nodeKind", "[I", true)
  | 48 => ("RiceHallModel", "nodeA", "[I", true)
  | 49 => ("RiceHallModel", "nodeB", "[I", true)
  | 50 => ("RiceHallModel", "nodeC", "[I", true)
  | 51 => ("RiceHallModel", "nodeIs", "[Z", true)
  | 52 => ("RiceHallModel", "nodes", "I", false)
  | 53 => ("RiceHallModel", "tape", "[B", true)
  | 54 => ("RiceHallModel", "taped", "I", false)
  | 55 => ("RiceHallModel", "faultAt", "I", false)
  | 56 => ("RiceHallModel", "limit", "I", false)
  | 57 => ("RiceHallModel", "point", "I", false)
  | 58 => ("RiceHallModel", "from", "I", false)
  | 59 => ("RiceHallModel", "token", "I", false)
  | 60 => ("RiceHallModel", "sign", "I", false)
  | 61 => ("RiceHallModel", "value", "I", false)
  | 62 => ("RiceHallModel", "open", "I", false)
  | 63 => ("RiceHallModel", "got", "I", false)
  | 64 => ("RiceHallModel", "word", "J", false)
  | 65 => ("RiceHallModel", "isWrong", "Z", false)
  | 66 => ("RiceHallModel", "what", "[I", true)
  | 67 => ("RiceHallModel", "at", "[I", true)
  | 68 => ("RiceHallModel", "one", "[I", true)
  | 69 => ("RiceHallModel", "deep", "I", false)
  | 70 => ("RiceHallModel", "sessions", "I", false)
  | 71 => ("RiceHallModel", "closes", "I", false)
  | 72 => ("RiceHallModel", "fuse", "I", false)
  | 73 => ("RiceHallModel", "isOn", "Z", false)
  | 74 => ("RiceHallModel", "litAt", "[I", true)
  | 75 => ("RiceHallModel", "endAt", "[I", true)
  | 76 => ("RiceHallModel", "sessionClose", "[I", true)
  | 77 => ("RiceHallModel", "sessionGap", "[I", true)
  | 78 => ("RiceHallModel", "cryMany", "[I", true)
  | 79 => ("RiceHallModel", "bargainMany", "[I", true)
  | 80 => ("RiceHallModel", "stoodMany", "[I", true)
  | 81 => ("RiceHallModel", "eventMany", "[I", true)
  | 82 => ("RiceHallModel", "closePrice", "[I", true)
  | 83 => ("RiceHallModel", "cryWho", "[I", true)
  | 84 => ("RiceHallModel", "cryLots", "[I", true)
  | 85 => ("RiceHallModel", "cryPrice", "[I", true)
  | 86 => ("RiceHallModel", "cryMinute", "[I", true)
  | 87 => ("RiceHallModel", "event", "[I", true)
  | 88 => ("RiceHallModel", "cryBuys", "[Z", true)
  | 89 => ("RiceHallModel", "bBuyer", "[I", true)
  | 90 => ("RiceHallModel", "bSeller", "[I", true)
  | 91 => ("RiceHallModel", "bLots", "[I", true)
  | 92 => ("RiceHallModel", "bPrice", "[I", true)
  | 93 => ("RiceHallModel", "bMinute", "[I", true)
  | 94 => ("RiceHallModel", "bStood", "[I", true)
  | 95 => ("RiceHallModel", "bStoodPrice", "[I", true)
  | 96 => ("RiceHallModel", "bDenied", "[I", true)
  | 97 => ("RiceHallModel", "bFirst", "[I", true)
  | 98 => ("RiceHallModel", "noteLots", "[I", true)
  | 99 => ("RiceHallModel", "notePrice", "[I", true)
  | 100 => ("RiceHallModel", "stands", "[I", true)
  | 101 => ("RiceHallModel", "bears", "[J", true)
  | 102 => ("RiceHallModel", "rest", "[J", true)
  | 103 => ("RiceHallModel", "debt", "[I", true)
  | 104 => ("RiceHallModel", "failedIn", "[I", true)
  | 105 => ("RiceHallModel", "partsOf", "[I", true)
  | _ => ("RiceHallModel", "kept", "[I", true)
def tyX12 : Nat → FieldType := fun k => match k with
  | 0 => .int
  | 1 => .int
  | 2 => .int
  | 3 => .array .int
  | 4 => .array .int
  | 5 => .array .int
  | 6 => .array .int
  | 7 => .array .int
  | 8 => .array .boolean
  | 9 => .int
  | 10 => .array .int
  | 11 => .array .int
  | 12 => .array .int
  | 13 => .array .int
  | 14 => .array .int
  | 15 => .array .int
  | 16 => .array .long
  | 17 => .array .int
  | 18 => .long
  | 19 => .long
  | 20 => .long
  | 21 => .int
  | 22 => .int
  | 23 => .int
  | 24 => .int
  | 25 => .array .int
  | 26 => .array .int
  | 27 => .array .int
  | 28 => .array .int
  | 29 => .array .int
  | 30 => .array .int
  | 31 => .array .int
  | 32 => .array .int
  | 33 => .array .int
  | 34 => .array .int
  | 35 => .array .int
  | 36 => .array .int
  | 37 => .int
  | 38 => .array .int
  | 39 => .array .int
  | 40 => .array .int
  | 41 => .array .int
  | 42 => .array .int
  | 43 => .array .int
  | 44 => .array .int
  | 45 => .array .int
  | 46 => .int
  | 47 => .array .int
  | 48 => .array .int
  | 49 => .array .int
  | 50 => .array .int
  | 51 => .array .boolean
  | 52 => .int
  | 53 => .array .byte
  | 54 => .int
  | 55 => .int
  | 56 => .int
  | 57 => .int
  | 58 => .int
  | 59 => .int
  | 60 => .int
  | 61 => .int
  | 62 => .int
  | 63 => .int
  | 64 => .long
  | 65 => .boolean
  | 66 => .array .int
  | 67 => .array .int
  | 68 => .array .int
  | 69 => .int
  | 70 => .int
  | 71 => .int
  | 72 => .int
  | 73 => .boolean
  | 74 => .array .int
  | 75 => .array .int
  | 76 => .array .int
  | 77 => .array .int
  | 78 => .array .int
  | 79 => .array .int
  | 80 => .array .int
  | 81 => .array .int
  | 82 => .array .int
  | 83 => .array .int
  | 84 => .array .int
  | 85 => .array .int
  | 86 => .array .int
  | 87 => .array .int
  | 88 => .array .boolean
  | 89 => .array .int
  | 90 => .array .int
  | 91 => .array .int
  | 92 => .array .int
  | 93 => .array .int
  | 94 => .array .int
  | 95 => .array .int
  | 96 => .array .int
  | 97 => .array .int
  | 98 => .array .int
  | 99 => .array .int
  | 100 => .array .int
  | 101 => .array .long
  | 102 => .array .long
  | 103 => .array .int
  | 104 => .array .int
  | 105 => .array .int
  | _ => .array .int
theorem nmX12 : ∀ a, a < 107 → ∀ b, b < 107 → a ≠ b → (TX12 a).2.1 ≠ (TX12 b).2.1 := by decide +kernel
theorem tyX12_ok : ∀ k, k < 107 → parseFieldDescriptor (TX12 k).2.2.1 = some (tyX12 k) := by decide +kernel
abbrev cX12_init : ByteArray := prog_14_method_1_code
def yX12_init : MethodName := ⟨RX12, "<init>", "()V"⟩
abbrev cX12_in : ByteArray := prog_14_method_3_code
def yX12_in : MethodName := ⟨RX12, "in", "(III)Z"⟩
abbrev cX12_abs : ByteArray := prog_14_method_4_code
def yX12_abs : MethodName := ⟨RX12, "abs", "(I)I"⟩
abbrev cX12_min : ByteArray := prog_14_method_5_code
def yX12_min : MethodName := ⟨RX12, "min", "(II)I"⟩
abbrev cX12_max : ByteArray := prog_14_method_6_code
def yX12_max : MethodName := ⟨RX12, "max", "(II)I"⟩
abbrev cX12_isTown : ByteArray := prog_14_method_7_code
def yX12_isTown : MethodName := ⟨RX12, "isTown", "(I)Z"⟩
abbrev cX12_town : ByteArray := prog_14_method_8_code
def yX12_town : MethodName := ⟨RX12, "town", "()I"⟩
abbrev cX12_fog : ByteArray := prog_14_method_9_code
def yX12_fog : MethodName := ⟨RX12, "fog", "(III)Z"⟩
abbrev cX12_road : ByteArray := prog_14_method_10_code
def yX12_road : MethodName := ⟨RX12, "road", "(IIII)Z"⟩
abbrev cX12_hasFog : ByteArray := prog_14_method_11_code
def yX12_hasFog : MethodName := ⟨RX12, "hasFog", "(II)Z"⟩
abbrev cX12_goes : ByteArray := prog_14_method_12_code
def yX12_goes : MethodName := ⟨RX12, "goes", "(III)I"⟩
abbrev cX12_spreads : ByteArray := prog_14_method_13_code
def yX12_spreads : MethodName := ⟨RX12, "spreads", "(II)V"⟩
abbrev cX12_news : ByteArray := prog_14_method_14_code
def yX12_news : MethodName := ⟨RX12, "news", "(III)I"⟩
abbrev cX12_isPerson : ByteArray := prog_14_method_15_code
def yX12_isPerson : MethodName := ⟨RX12, "isPerson", "(I)Z"⟩
abbrev cX12_person : ByteArray := prog_14_method_16_code
def yX12_person : MethodName := ⟨RX12, "person", "(I)I"⟩
abbrev cX12_hears : ByteArray := prog_14_method_17_code
def yX12_hears : MethodName := ⟨RX12, "hears", "(III)I"⟩
abbrev cX12_isStore : ByteArray := prog_14_method_18_code
def yX12_isStore : MethodName := ⟨RX12, "isStore", "(I)Z"⟩
abbrev cX12_store : ByteArray := prog_14_method_19_code
def yX12_store : MethodName := ⟨RX12, "store", "()I"⟩
abbrev cX12_outOf : ByteArray := prog_14_method_20_code
def yX12_outOf : MethodName := ⟨RX12, "outOf", "(I)I"⟩
abbrev cX12_issue : ByteArray := prog_14_method_21_code
def yX12_issue : MethodName := ⟨RX12, "issue", "(IIII)I"⟩
abbrev cX12_give : ByteArray := prog_14_method_22_code
def yX12_give : MethodName := ⟨RX12, "give", "(IIII)Z"⟩
abbrev cX12_serves : ByteArray := prog_14_method_23_code
def yX12_serves : MethodName := ⟨RX12, "serves", "(I)I"⟩
abbrev cX12_call : ByteArray := prog_14_method_24_code
def yX12_call : MethodName := ⟨RX12, "call", "(III)I"⟩
abbrev cX12_come : ByteArray := prog_14_method_25_code
def yX12_come : MethodName := ⟨RX12, "come", "(II)I"⟩
abbrev cX12_spoil : ByteArray := prog_14_method_26_code
def yX12_spoil : MethodName := ⟨RX12, "spoil", "(II)I"⟩
abbrev cX12_over : ByteArray := prog_14_method_27_code
def yX12_over : MethodName := ⟨RX12, "over", "(II)I"⟩
abbrev cX12_firstWait : ByteArray := prog_14_method_28_code
def yX12_firstWait : MethodName := ⟨RX12, "firstWait", "(I)I"⟩
abbrev cX12_shareOf : ByteArray := prog_14_method_29_code
def yX12_shareOf : MethodName := ⟨RX12, "shareOf", "(I)I"⟩
abbrev cX12_storeOf : ByteArray := prog_14_method_30_code
def yX12_storeOf : MethodName := ⟨RX12, "storeOf", "(II)I"⟩
abbrev cX12_needOf : ByteArray := prog_14_method_31_code
def yX12_needOf : MethodName := ⟨RX12, "needOf", "(I)J"⟩
abbrev cX12_told : ByteArray := prog_14_method_32_code
def yX12_told : MethodName := ⟨RX12, "told", "(II)I"⟩
abbrev cX12_coins : ByteArray := prog_14_method_33_code
def yX12_coins : MethodName := ⟨RX12, "coins", "(I)J"⟩
abbrev cX12_pay : ByteArray := prog_14_method_34_code
def yX12_pay : MethodName := ⟨RX12, "pay", "(II)Z"⟩
abbrev cX12_draw : ByteArray := prog_14_method_35_code
def yX12_draw : MethodName := ⟨RX12, "draw", "(II)Z"⟩
abbrev cX12_feed : ByteArray := prog_14_method_36_code
def yX12_feed : MethodName := ⟨RX12, "feed", "(IIIII)I"⟩
abbrev cX12_here : ByteArray := prog_14_method_37_code
def yX12_here : MethodName := ⟨RX12, "here", "()I"⟩
abbrev cX12_next : ByteArray := prog_14_method_38_code
def yX12_next : MethodName := ⟨RX12, "next", "()V"⟩
abbrev cX12_fails : ByteArray := prog_14_method_39_code
def yX12_fails : MethodName := ⟨RX12, "fails", "()V"⟩
abbrev cX12_isWord : ByteArray := prog_14_method_40_code
def yX12_isWord : MethodName := ⟨RX12, "isWord", "(J)Z"⟩
abbrev cX12_isSign : ByteArray := prog_14_method_41_code
def yX12_isSign : MethodName := ⟨RX12, "isSign", "(I)Z"⟩
abbrev cX12_number : ByteArray := prog_14_method_42_code
def yX12_number : MethodName := ⟨RX12, "number", "(I)I"⟩
abbrev cX12_nameOf : ByteArray := prog_14_method_43_code
def yX12_nameOf : MethodName := ⟨RX12, "nameOf", "(J)I"⟩
abbrev cX12_wordOf : ByteArray := prog_14_method_44_code
def yX12_wordOf : MethodName := ⟨RX12, "wordOf", "(J)I"⟩
abbrev cX12_node : ByteArray := prog_14_method_45_code
def yX12_node : MethodName := ⟨RX12, "node", "(IIII)I"⟩
abbrev cX12_begin : ByteArray := prog_14_method_46_code
def yX12_begin : MethodName := ⟨RX12, "begin", "(I)V"⟩
abbrev cX12_ends : ByteArray := prog_14_method_47_code
def yX12_ends : MethodName := ⟨RX12, "ends", "(I)V"⟩
abbrev cX12_opens : ByteArray := prog_14_method_48_code
def yX12_opens : MethodName := ⟨RX12, "opens", "()V"⟩
abbrev cX12_condition : ByteArray := prog_14_method_49_code
def yX12_condition : MethodName := ⟨RX12, "condition", "()I"⟩
abbrev cX12_chain : ByteArray := prog_14_method_50_code
def yX12_chain : MethodName := ⟨RX12, "chain", "(IZ)V"⟩
abbrev cX12_fact : ByteArray := prog_14_method_51_code
def yX12_fact : MethodName := ⟨RX12, "fact", "(I)V"⟩
abbrev cX12_statement : ByteArray := prog_14_method_52_code
def yX12_statement : MethodName := ⟨RX12, "statement", "(I)V"⟩
abbrev cX12_rules : ByteArray := prog_14_method_53_code
def yX12_rules : MethodName := ⟨RX12, "rules", "(II)I"⟩
abbrev cX12_fault : ByteArray := prog_14_method_54_code
def yX12_fault : MethodName := ⟨RX12, "fault", "()I"⟩
abbrev cX12_heard : ByteArray := prog_14_method_55_code
def yX12_heard : MethodName := ⟨RX12, "heard", "(I)I"⟩
abbrev cX12_inForce : ByteArray := prog_14_method_56_code
def yX12_inForce : MethodName := ⟨RX12, "inForce", "()I"⟩
abbrev cX12_known : ByteArray := prog_14_method_57_code
def yX12_known : MethodName := ⟨RX12, "known", "(I)I"⟩
abbrev cX12_holds : ByteArray := prog_14_method_58_code
def yX12_holds : MethodName := ⟨RX12, "holds", "(I)Z"⟩
abbrev cX12_bare : ByteArray := prog_14_method_59_code
def yX12_bare : MethodName := ⟨RX12, "bare", "(I)I"⟩
abbrev cX12_asked : ByteArray := prog_14_method_60_code
def yX12_asked : MethodName := ⟨RX12, "asked", "(I)I"⟩
abbrev cX12_rule : ByteArray := prog_14_method_61_code
def yX12_rule : MethodName := ⟨RX12, "rule", "(I)I"⟩
abbrev cX12_wind : ByteArray := prog_14_method_62_code
def yX12_wind : MethodName := ⟨RX12, "wind", "(I)Z"⟩
abbrev cX12_light : ByteArray := prog_14_method_63_code
def yX12_light : MethodName := ⟨RX12, "light", "()I"⟩
abbrev cX12_against : ByteArray := prog_14_method_64_code
def yX12_against : MethodName := ⟨RX12, "against", "(III)I"⟩
abbrev cX12_cry : ByteArray := prog_14_method_65_code
def yX12_cry : MethodName := ⟨RX12, "cry", "(IZII)I"⟩
abbrev cX12_back : ByteArray := prog_14_method_66_code
def yX12_back : MethodName := ⟨RX12, "back", "(I)I"⟩
abbrev cX12_isBargain : ByteArray := prog_14_method_67_code
def yX12_isBargain : MethodName := ⟨RX12, "isBargain", "(I)Z"⟩
abbrev cX12_note : ByteArray := prog_14_method_68_code
def yX12_note : MethodName := ⟨RX12, "note", "(IZII)Z"⟩
abbrev cX12_deny : ByteArray := prog_14_method_69_code
def yX12_deny : MethodName := ⟨RX12, "deny", "(IZ)Z"⟩
abbrev cX12_judges : ByteArray := prog_14_method_70_code
def yX12_judges : MethodName := ⟨RX12, "judges", "(II)V"⟩
abbrev cX12_closesSession : ByteArray := prog_14_method_71_code
def yX12_closesSession : MethodName := ⟨RX12, "closesSession", "(I)V"⟩
abbrev cX12_clears : ByteArray := prog_14_method_72_code
def yX12_clears : MethodName := ⟨RX12, "clears", "(III)V"⟩
abbrev cX12_margin : ByteArray := prog_14_method_73_code
def yX12_margin : MethodName := ⟨RX12, "margin", "(II)V"⟩
abbrev cX12_bears : ByteArray := prog_14_method_74_code
def yX12_bears : MethodName := ⟨RX12, "bears", "()V"⟩
abbrev cX12_parts : ByteArray := prog_14_method_75_code
def yX12_parts : MethodName := ⟨RX12, "parts", "(IJJ)V"⟩
abbrev cX12_pass : ByteArray := prog_14_method_76_code
def yX12_pass : MethodName := ⟨RX12, "pass", "(I)I"⟩
abbrev cX12_session : ByteArray := prog_14_method_77_code
def yX12_session : MethodName := ⟨RX12, "session", "(II)I"⟩
abbrev cX12_bargain : ByteArray := prog_14_method_78_code
def yX12_bargain : MethodName := ⟨RX12, "bargain", "(III)I"⟩
abbrev cX12_best : ByteArray := prog_14_method_79_code
def yX12_best : MethodName := ⟨RX12, "best", "(I)I"⟩
abbrev cX12_owe : ByteArray := prog_14_method_80_code
def yX12_owe : MethodName := ⟨RX12, "owe", "(III)Z"⟩
abbrev cX12_assets : ByteArray := prog_14_method_81_code
def yX12_assets : MethodName := ⟨RX12, "assets", "(II)J"⟩
abbrev cX12_debts : ByteArray := prog_14_method_82_code
def yX12_debts : MethodName := ⟨RX12, "debts", "(I)J"⟩
abbrev cX12_fails_ : ByteArray := prog_14_method_83_code
def yX12_fails_ : MethodName := ⟨RX12, "fails", "(II)I"⟩
abbrev cX12_other : ByteArray := prog_14_method_84_code
def yX12_other : MethodName := ⟨RX12, "other", "(III)I"⟩
abbrev cX12_least : ByteArray := prog_14_method_85_code
def yX12_least : MethodName := ⟨RX12, "least", "(I)I"⟩
abbrev cX12_judged : ByteArray := prog_14_method_86_code
def yX12_judged : MethodName := ⟨RX12, "judged", "(II)I"⟩
abbrev cX12_count : ByteArray := prog_14_method_87_code
def yX12_count : MethodName := ⟨RX12, "count", "(I)I"⟩
abbrev cX12_sum : ByteArray := prog_14_method_88_code
def yX12_sum : MethodName := ⟨RX12, "sum", "(I)J"⟩
def RJx8e188 : String := "java/lang/Cloneable"
def RJ9 : String := "java/lang/Math"
abbrev cJ9_abs_0f7a4 : ByteArray := prog_16_method_59_code
def yJ9_abs_0f7a4 : MethodName := ⟨RJ9, "abs", "(I)I"⟩
abbrev cJ9_max_7cf53 : ByteArray := prog_16_method_65_code
def yJ9_max_7cf53 : MethodName := ⟨RJ9, "max", "(II)I"⟩
abbrev cJ9_max_f86c9 : ByteArray := prog_16_method_66_code
def yJ9_max_f86c9 : MethodName := ⟨RJ9, "max", "(JJ)J"⟩
abbrev cJ9_min_7cf53 : ByteArray := prog_16_method_69_code
def yJ9_min_7cf53 : MethodName := ⟨RJ9, "min", "(II)I"⟩
abbrev cJ9_min_f86c9 : ByteArray := prog_16_method_70_code
def yJ9_min_f86c9 : MethodName := ⟨RJ9, "min", "(JJ)J"⟩
def RJ0 : String := "java/lang/String"
abbrev cJ0_length_8abf5 : ByteArray := prog_17_method_54_code
def yJ0_length_8abf5 : MethodName := ⟨RJ0, "length", "()I"⟩
abbrev cJ0_charAt_5068e : ByteArray := prog_17_method_56_code
def yJ0_charAt_5068e : MethodName := ⟨RJ0, "charAt", "(I)C"⟩
abbrev cJ0_coder_7d493 : ByteArray := prog_17_method_152_code
def yJ0_coder_7d493 : MethodName := ⟨RJ0, "coder", "()B"⟩
abbrev cJ0_isLatin1_aae02 : ByteArray := prog_17_method_154_code
def yJ0_isLatin1_aae02 : MethodName := ⟨RJ0, "isLatin1", "()Z"⟩
abbrev cJ0_checkIndex_df160 : ByteArray := prog_17_method_155_code
def yJ0_checkIndex_df160 : MethodName := ⟨RJ0, "checkIndex", "(II)V"⟩
def RJ1 : String := "java/lang/StringLatin1"
abbrev cJ1_charAt_3b067 : ByteArray := prog_18_method_2_code
def yJ1_charAt_3b067 : MethodName := ⟨RJ1, "charAt", "([BI)C"⟩
def RJ2 : String := "java/lang/StringUTF16"
abbrev cJ2_getChar_3b067 : ByteArray := prog_19_method_5_code
def yJ2_getChar_3b067 : MethodName := ⟨RJ2, "getChar", "([BI)C"⟩
abbrev cJ2_length_9d52b : ByteArray := prog_19_method_6_code
def yJ2_length_9d52b : MethodName := ⟨RJ2, "length", "([B)I"⟩
abbrev cJ2_charAt_3b067 : ByteArray := prog_19_method_83_code
def yJ2_charAt_3b067 : MethodName := ⟨RJ2, "charAt", "([BI)C"⟩
abbrev cJ2_checkIndex_2214a : ByteArray := prog_19_method_91_code
def yJ2_checkIndex_2214a : MethodName := ⟨RJ2, "checkIndex", "(I[B)V"⟩
def RJ10 : String := "java/lang/System"
def RJ7 : String := "java/util/Arrays"
abbrev cJ7_fill_53178 : ByteArray := prog_21_method_103_code
def yJ7_fill_53178 : MethodName := ⟨RJ7, "fill", "([II)V"⟩
abbrev cJ7_copyOf_59c91 : ByteArray := prog_21_method_123_code
def yJ7_copyOf_59c91 : MethodName := ⟨RJ7, "copyOf", "([II)[I"⟩
def RJ3 : String := "jdk/internal/util/Preconditions"
abbrev cJ3_checkIndex_8e157 : ByteArray := prog_22_method_11_code
def yJ3_checkIndex_8e157 : MethodName := ⟨RJ3, "checkIndex", "(IILjava/util/function/BiFunction;)I"⟩
def RL : String := "RiceHallLaw"
abbrev cL_law : ByteArray := code
def yL_law : MethodName := ⟨RL, "law", "([I)Z"⟩

abbrev vwCl : List vw_C := [(RX0, TX0, 14), (RX1, TX1, 6), (RX2, TX2, 5), (RX3, TX3, 7), (RX4, TX4, 7), (RX5, TX5, 5), (RX6, TX6, 9), (RX7, TX7, 5), (RX8, TX8, 11), (RX9, TX9, 11), (RX10, TX10, 14), (RX11, TX11, 18), (RX12, TX12, 107)]
