section
-- ===== PART A: goes FIRST, ahead of the names: the tables' words, and 'selects' of the private methods out of them =====
/-- a private method of a class that the tables say can be made, by its rows of tables_1 -/
def lw_okq (q : MethodName × Nat) : Prop := (q.1.cls ≠ "java/lang/invoke/MethodHandle" ∧ q.1.cls ≠ "java/lang/invoke/VarHandle") ∧ Cond.instantiable q.1.cls q.2 ∈ tables_1 ∧ Cond.privateMethod q.1 ∈ tables_1 ∧ Cond.instanceMethod q.1 ∈ tables_1
theorem lw_p0 : lw_okq (⟨"ParkRows", "refused", "(I)I"⟩, 8) := ⟨⟨by decide +kernel, by decide +kernel⟩, List.mem_of_getElem? (i := 8) (by decide +kernel), List.mem_of_getElem? (i := 50) (by decide +kernel), List.mem_of_getElem? (i := 51) (by decide +kernel)⟩
theorem lw_p1 : lw_okq (⟨"ParkRows", "rideAt", "(I)LParkRows$Ride;"⟩, 8) := ⟨⟨by decide +kernel, by decide +kernel⟩, List.mem_of_getElem? (i := 8) (by decide +kernel), List.mem_of_getElem? (i := 189) (by decide +kernel), List.mem_of_getElem? (i := 190) (by decide +kernel)⟩
theorem lw_p2 : lw_okq (⟨"ParkRows", "walkBetween", "(II)I"⟩, 8) := ⟨⟨by decide +kernel, by decide +kernel⟩, List.mem_of_getElem? (i := 8) (by decide +kernel), List.mem_of_getElem? (i := 193) (by decide +kernel), List.mem_of_getElem? (i := 194) (by decide +kernel)⟩
theorem lw_p3 : lw_okq (⟨"ParkRows", "setWalk", "(III)V"⟩, 8) := ⟨⟨by decide +kernel, by decide +kernel⟩, List.mem_of_getElem? (i := 8) (by decide +kernel), List.mem_of_getElem? (i := 197) (by decide +kernel), List.mem_of_getElem? (i := 198) (by decide +kernel)⟩
theorem lw_p4 : lw_okq (⟨"ParkRows", "groupAt", "(I)LParkRows$Group;"⟩, 8) := ⟨⟨by decide +kernel, by decide +kernel⟩, List.mem_of_getElem? (i := 8) (by decide +kernel), List.mem_of_getElem? (i := 209) (by decide +kernel), List.mem_of_getElem? (i := 210) (by decide +kernel)⟩
theorem lw_p5 : lw_okq (⟨"ParkRows", "windowToTake", "(LParkRows$Group;LParkRows$Ride;)I"⟩, 8) := ⟨⟨by decide +kernel, by decide +kernel⟩, List.mem_of_getElem? (i := 8) (by decide +kernel), List.mem_of_getElem? (i := 213) (by decide +kernel), List.mem_of_getElem? (i := 214) (by decide +kernel)⟩
theorem lw_p6 : lw_okq (⟨"ParkRows$Ride", "windowAt", "(I)I"⟩, 16) := ⟨⟨by decide +kernel, by decide +kernel⟩, List.mem_of_getElem? (i := 53) (by decide +kernel), List.mem_of_getElem? (i := 217) (by decide +kernel), List.mem_of_getElem? (i := 218) (by decide +kernel)⟩
theorem lw_p7 : lw_okq (⟨"ParkRows$Ride", "hasRoom", "(II)Z"⟩, 16) := ⟨⟨by decide +kernel, by decide +kernel⟩, List.mem_of_getElem? (i := 53) (by decide +kernel), List.mem_of_getElem? (i := 221) (by decide +kernel), List.mem_of_getElem? (i := 222) (by decide +kernel)⟩
theorem lw_p8 : lw_okq (⟨"ParkRows$Ride", "givenOf", "(I)I"⟩, 16) := ⟨⟨by decide +kernel, by decide +kernel⟩, List.mem_of_getElem? (i := 53) (by decide +kernel), List.mem_of_getElem? (i := 225) (by decide +kernel), List.mem_of_getElem? (i := 226) (by decide +kernel)⟩
theorem lw_p9 : lw_okq (⟨"ParkRows$Ride", "roomOfWindow", "()I"⟩, 16) := ⟨⟨by decide +kernel, by decide +kernel⟩, List.mem_of_getElem? (i := 53) (by decide +kernel), List.mem_of_getElem? (i := 229) (by decide +kernel), List.mem_of_getElem? (i := 230) (by decide +kernel)⟩
theorem lw_p10 : lw_okq (⟨"ParkRows", "overlapsAny", "(LParkRows$Group;LParkRows$Ride;I)Z"⟩, 8) := ⟨⟨by decide +kernel, by decide +kernel⟩, List.mem_of_getElem? (i := 8) (by decide +kernel), List.mem_of_getElem? (i := 233) (by decide +kernel), List.mem_of_getElem? (i := 234) (by decide +kernel)⟩
theorem lw_p11 : lw_okq (⟨"ParkRows$Group", "rideOfTime", "(I)I"⟩, 12) := ⟨⟨by decide +kernel, by decide +kernel⟩, List.mem_of_getElem? (i := 137) (by decide +kernel), List.mem_of_getElem? (i := 237) (by decide +kernel), List.mem_of_getElem? (i := 238) (by decide +kernel)⟩
theorem lw_p12 : lw_okq (⟨"ParkRows$Group", "hasTime", "(I)Z"⟩, 12) := ⟨⟨by decide +kernel, by decide +kernel⟩, List.mem_of_getElem? (i := 137) (by decide +kernel), List.mem_of_getElem? (i := 241) (by decide +kernel), List.mem_of_getElem? (i := 242) (by decide +kernel)⟩
theorem lw_p13 : lw_okq (⟨"ParkRows$Group", "windowOfTime", "(I)I"⟩, 12) := ⟨⟨by decide +kernel, by decide +kernel⟩, List.mem_of_getElem? (i := 137) (by decide +kernel), List.mem_of_getElem? (i := 245) (by decide +kernel), List.mem_of_getElem? (i := 246) (by decide +kernel)⟩
theorem lw_p14 : lw_okq (⟨"ParkRows", "overlaps", "(LParkRows$Ride;ILParkRows$Ride;I)Z"⟩, 8) := ⟨⟨by decide +kernel, by decide +kernel⟩, List.mem_of_getElem? (i := 8) (by decide +kernel), List.mem_of_getElem? (i := 249) (by decide +kernel), List.mem_of_getElem? (i := 250) (by decide +kernel)⟩
theorem lw_p15 : lw_okq (⟨"ParkRows$Ride", "lastTickOf", "(I)I"⟩, 16) := ⟨⟨by decide +kernel, by decide +kernel⟩, List.mem_of_getElem? (i := 53) (by decide +kernel), List.mem_of_getElem? (i := 253) (by decide +kernel), List.mem_of_getElem? (i := 254) (by decide +kernel)⟩
def lw_privs_1 : List (MethodName × Nat) := [(⟨"ParkRows", "refused", "(I)I"⟩, 8), (⟨"ParkRows", "rideAt", "(I)LParkRows$Ride;"⟩, 8), (⟨"ParkRows", "walkBetween", "(II)I"⟩, 8), (⟨"ParkRows", "setWalk", "(III)V"⟩, 8), (⟨"ParkRows", "groupAt", "(I)LParkRows$Group;"⟩, 8), (⟨"ParkRows", "windowToTake", "(LParkRows$Group;LParkRows$Ride;)I"⟩, 8), (⟨"ParkRows$Ride", "windowAt", "(I)I"⟩, 16), (⟨"ParkRows$Ride", "hasRoom", "(II)Z"⟩, 16), (⟨"ParkRows$Ride", "givenOf", "(I)I"⟩, 16), (⟨"ParkRows$Ride", "roomOfWindow", "()I"⟩, 16), (⟨"ParkRows", "overlapsAny", "(LParkRows$Group;LParkRows$Ride;I)Z"⟩, 8), (⟨"ParkRows$Group", "rideOfTime", "(I)I"⟩, 12), (⟨"ParkRows$Group", "hasTime", "(I)Z"⟩, 12), (⟨"ParkRows$Group", "windowOfTime", "(I)I"⟩, 12), (⟨"ParkRows", "overlaps", "(LParkRows$Ride;ILParkRows$Ride;I)Z"⟩, 8), (⟨"ParkRows$Ride", "lastTickOf", "(I)I"⟩, 16)]
theorem lw_r1 : ∀ q ∈ lw_privs_1, lw_okq q := List.forall_mem_cons.mpr ⟨lw_p0, List.forall_mem_cons.mpr ⟨lw_p1, List.forall_mem_cons.mpr ⟨lw_p2, List.forall_mem_cons.mpr ⟨lw_p3, List.forall_mem_cons.mpr ⟨lw_p4, List.forall_mem_cons.mpr ⟨lw_p5, List.forall_mem_cons.mpr ⟨lw_p6, List.forall_mem_cons.mpr ⟨lw_p7, List.forall_mem_cons.mpr ⟨lw_p8, List.forall_mem_cons.mpr ⟨lw_p9, List.forall_mem_cons.mpr ⟨lw_p10, List.forall_mem_cons.mpr ⟨lw_p11, List.forall_mem_cons.mpr ⟨lw_p12, List.forall_mem_cons.mpr ⟨lw_p13, List.forall_mem_cons.mpr ⟨lw_p14, List.forall_mem_cons.mpr ⟨lw_p15, fun _ h => absurd h List.not_mem_nil⟩⟩⟩⟩⟩⟩⟩⟩⟩⟩⟩⟩⟩⟩⟩⟩
theorem lw_p16 : lw_okq (⟨"ParkRows$Ride", "firstTickOf", "(I)I"⟩, 16) := ⟨⟨by decide +kernel, by decide +kernel⟩, List.mem_of_getElem? (i := 53) (by decide +kernel), List.mem_of_getElem? (i := 257) (by decide +kernel), List.mem_of_getElem? (i := 258) (by decide +kernel)⟩
theorem lw_p17 : lw_okq (⟨"ParkRows$Ride", "addGiven", "(II)V"⟩, 16) := ⟨⟨by decide +kernel, by decide +kernel⟩, List.mem_of_getElem? (i := 53) (by decide +kernel), List.mem_of_getElem? (i := 262) (by decide +kernel), List.mem_of_getElem? (i := 263) (by decide +kernel)⟩
theorem lw_p18 : lw_okq (⟨"ParkRows$Group", "addTime", "(II)V"⟩, 12) := ⟨⟨by decide +kernel, by decide +kernel⟩, List.mem_of_getElem? (i := 137) (by decide +kernel), List.mem_of_getElem? (i := 266) (by decide +kernel), List.mem_of_getElem? (i := 267) (by decide +kernel)⟩
theorem lw_p19 : lw_okq (⟨"ParkRows", "giveBack", "(LParkRows$Group;I)I"⟩, 8) := ⟨⟨by decide +kernel, by decide +kernel⟩, List.mem_of_getElem? (i := 8) (by decide +kernel), List.mem_of_getElem? (i := 275) (by decide +kernel), List.mem_of_getElem? (i := 276) (by decide +kernel)⟩
theorem lw_p20 : lw_okq (⟨"ParkRows$Group", "dropTime", "(I)V"⟩, 12) := ⟨⟨by decide +kernel, by decide +kernel⟩, List.mem_of_getElem? (i := 137) (by decide +kernel), List.mem_of_getElem? (i := 279) (by decide +kernel), List.mem_of_getElem? (i := 280) (by decide +kernel)⟩
theorem lw_p21 : lw_okq (⟨"ParkRows$Group", "placeOfTime", "(II)I"⟩, 12) := ⟨⟨by decide +kernel, by decide +kernel⟩, List.mem_of_getElem? (i := 137) (by decide +kernel), List.mem_of_getElem? (i := 287) (by decide +kernel), List.mem_of_getElem? (i := 288) (by decide +kernel)⟩
theorem lw_p22 : lw_okq (⟨"ParkRows$Group", "turnTo", "(II)V"⟩, 12) := ⟨⟨by decide +kernel, by decide +kernel⟩, List.mem_of_getElem? (i := 137) (by decide +kernel), List.mem_of_getElem? (i := 293) (by decide +kernel), List.mem_of_getElem? (i := 294) (by decide +kernel)⟩
theorem lw_p23 : lw_okq (⟨"ParkRows$Row", "append", "(I)I"⟩, 2) := ⟨⟨by decide +kernel, by decide +kernel⟩, List.mem_of_getElem? (i := 62) (by decide +kernel), List.mem_of_getElem? (i := 297) (by decide +kernel), List.mem_of_getElem? (i := 298) (by decide +kernel)⟩
theorem lw_p24 : lw_okq (⟨"ParkRows", "rowOf", "(LParkRows$Group;)LParkRows$Row;"⟩, 8) := ⟨⟨by decide +kernel, by decide +kernel⟩, List.mem_of_getElem? (i := 8) (by decide +kernel), List.mem_of_getElem? (i := 309) (by decide +kernel), List.mem_of_getElem? (i := 310) (by decide +kernel)⟩
theorem lw_p25 : lw_okq (⟨"ParkRows$Row", "placeOf", "(I)I"⟩, 2) := ⟨⟨by decide +kernel, by decide +kernel⟩, List.mem_of_getElem? (i := 62) (by decide +kernel), List.mem_of_getElem? (i := 313) (by decide +kernel), List.mem_of_getElem? (i := 314) (by decide +kernel)⟩
theorem lw_p26 : lw_okq (⟨"ParkRows$Row", "at", "(I)I"⟩, 2) := ⟨⟨by decide +kernel, by decide +kernel⟩, List.mem_of_getElem? (i := 62) (by decide +kernel), List.mem_of_getElem? (i := 317) (by decide +kernel), List.mem_of_getElem? (i := 318) (by decide +kernel)⟩
theorem lw_p27 : lw_okq (⟨"ParkRows$Row", "removeAt", "(I)V"⟩, 2) := ⟨⟨by decide +kernel, by decide +kernel⟩, List.mem_of_getElem? (i := 62) (by decide +kernel), List.mem_of_getElem? (i := 321) (by decide +kernel), List.mem_of_getElem? (i := 322) (by decide +kernel)⟩
theorem lw_p28 : lw_okq (⟨"ParkRows", "passTick", "()I"⟩, 8) := ⟨⟨by decide +kernel, by decide +kernel⟩, List.mem_of_getElem? (i := 8) (by decide +kernel), List.mem_of_getElem? (i := 341) (by decide +kernel), List.mem_of_getElem? (i := 342) (by decide +kernel)⟩
theorem lw_p29 : lw_okq (⟨"ParkRows", "endRound", "(LParkRows$Ride;)V"⟩, 8) := ⟨⟨by decide +kernel, by decide +kernel⟩, List.mem_of_getElem? (i := 8) (by decide +kernel), List.mem_of_getElem? (i := 345) (by decide +kernel), List.mem_of_getElem? (i := 346) (by decide +kernel)⟩
theorem lw_p30 : lw_okq (⟨"ParkRows$Ride", "beginsRound", "(IZ)Z"⟩, 16) := ⟨⟨by decide +kernel, by decide +kernel⟩, List.mem_of_getElem? (i := 53) (by decide +kernel), List.mem_of_getElem? (i := 349) (by decide +kernel), List.mem_of_getElem? (i := 350) (by decide +kernel)⟩
theorem lw_p31 : lw_okq (⟨"ParkRows$Ride", "runs", "(Z)Z"⟩, 16) := ⟨⟨by decide +kernel, by decide +kernel⟩, List.mem_of_getElem? (i := 53) (by decide +kernel), List.mem_of_getElem? (i := 353) (by decide +kernel), List.mem_of_getElem? (i := 354) (by decide +kernel)⟩
def lw_privs_2 : List (MethodName × Nat) := [(⟨"ParkRows$Ride", "firstTickOf", "(I)I"⟩, 16), (⟨"ParkRows$Ride", "addGiven", "(II)V"⟩, 16), (⟨"ParkRows$Group", "addTime", "(II)V"⟩, 12), (⟨"ParkRows", "giveBack", "(LParkRows$Group;I)I"⟩, 8), (⟨"ParkRows$Group", "dropTime", "(I)V"⟩, 12), (⟨"ParkRows$Group", "placeOfTime", "(II)I"⟩, 12), (⟨"ParkRows$Group", "turnTo", "(II)V"⟩, 12), (⟨"ParkRows$Row", "append", "(I)I"⟩, 2), (⟨"ParkRows", "rowOf", "(LParkRows$Group;)LParkRows$Row;"⟩, 8), (⟨"ParkRows$Row", "placeOf", "(I)I"⟩, 2), (⟨"ParkRows$Row", "at", "(I)I"⟩, 2), (⟨"ParkRows$Row", "removeAt", "(I)V"⟩, 2), (⟨"ParkRows", "passTick", "()I"⟩, 8), (⟨"ParkRows", "endRound", "(LParkRows$Ride;)V"⟩, 8), (⟨"ParkRows$Ride", "beginsRound", "(IZ)Z"⟩, 16), (⟨"ParkRows$Ride", "runs", "(Z)Z"⟩, 16)]
theorem lw_r2 : ∀ q ∈ lw_privs_2, lw_okq q := List.forall_mem_cons.mpr ⟨lw_p16, List.forall_mem_cons.mpr ⟨lw_p17, List.forall_mem_cons.mpr ⟨lw_p18, List.forall_mem_cons.mpr ⟨lw_p19, List.forall_mem_cons.mpr ⟨lw_p20, List.forall_mem_cons.mpr ⟨lw_p21, List.forall_mem_cons.mpr ⟨lw_p22, List.forall_mem_cons.mpr ⟨lw_p23, List.forall_mem_cons.mpr ⟨lw_p24, List.forall_mem_cons.mpr ⟨lw_p25, List.forall_mem_cons.mpr ⟨lw_p26, List.forall_mem_cons.mpr ⟨lw_p27, List.forall_mem_cons.mpr ⟨lw_p28, List.forall_mem_cons.mpr ⟨lw_p29, List.forall_mem_cons.mpr ⟨lw_p30, List.forall_mem_cons.mpr ⟨lw_p31, fun _ h => absurd h List.not_mem_nil⟩⟩⟩⟩⟩⟩⟩⟩⟩⟩⟩⟩⟩⟩⟩⟩
theorem lw_p32 : lw_okq (⟨"ParkRows", "beginRound", "(LParkRows$Ride;)I"⟩, 8) := ⟨⟨by decide +kernel, by decide +kernel⟩, List.mem_of_getElem? (i := 8) (by decide +kernel), List.mem_of_getElem? (i := 357) (by decide +kernel), List.mem_of_getElem? (i := 358) (by decide +kernel)⟩
theorem lw_p33 : lw_okq (⟨"ParkRows", "boardInOrder", "(LParkRows$Ride;LParkRows$Row;I)I"⟩, 8) := ⟨⟨by decide +kernel, by decide +kernel⟩, List.mem_of_getElem? (i := 8) (by decide +kernel), List.mem_of_getElem? (i := 361) (by decide +kernel), List.mem_of_getElem? (i := 362) (by decide +kernel)⟩
theorem lw_p34 : lw_okq (⟨"ParkRows", "board", "(LParkRows$Ride;LParkRows$Row;ILParkRows$Group;)I"⟩, 8) := ⟨⟨by decide +kernel, by decide +kernel⟩, List.mem_of_getElem? (i := 8) (by decide +kernel), List.mem_of_getElem? (i := 366) (by decide +kernel), List.mem_of_getElem? (i := 367) (by decide +kernel)⟩
theorem lw_p35 : lw_okq (⟨"ParkRows", "boardSingles", "(LParkRows$Ride;I)I"⟩, 8) := ⟨⟨by decide +kernel, by decide +kernel⟩, List.mem_of_getElem? (i := 8) (by decide +kernel), List.mem_of_getElem? (i := 370) (by decide +kernel), List.mem_of_getElem? (i := 371) (by decide +kernel)⟩
theorem lw_p36 : lw_okq (⟨"ParkRows$Ride", "beginsWindow", "(I)Z"⟩, 16) := ⟨⟨by decide +kernel, by decide +kernel⟩, List.mem_of_getElem? (i := 53) (by decide +kernel), List.mem_of_getElem? (i := 374) (by decide +kernel), List.mem_of_getElem? (i := 375) (by decide +kernel)⟩
theorem lw_p37 : lw_okq (⟨"ParkRows", "endWindow", "(LParkRows$Ride;I)V"⟩, 8) := ⟨⟨by decide +kernel, by decide +kernel⟩, List.mem_of_getElem? (i := 8) (by decide +kernel), List.mem_of_getElem? (i := 378) (by decide +kernel), List.mem_of_getElem? (i := 379) (by decide +kernel)⟩
theorem lw_p38 : lw_okq (⟨"ParkRows", "endTimes", "(LParkRows$Group;LParkRows$Ride;IZ)V"⟩, 8) := ⟨⟨by decide +kernel, by decide +kernel⟩, List.mem_of_getElem? (i := 8) (by decide +kernel), List.mem_of_getElem? (i := 383) (by decide +kernel), List.mem_of_getElem? (i := 384) (by decide +kernel)⟩
theorem lw_p39 : lw_okq (⟨"ParkRows", "moveTime", "(LParkRows$Group;ILParkRows$Ride;I)Z"⟩, 8) := ⟨⟨by decide +kernel, by decide +kernel⟩, List.mem_of_getElem? (i := 8) (by decide +kernel), List.mem_of_getElem? (i := 387) (by decide +kernel), List.mem_of_getElem? (i := 388) (by decide +kernel)⟩
theorem lw_p40 : lw_okq (⟨"ParkRows$Group", "moveTimeTo", "(II)V"⟩, 12) := ⟨⟨by decide +kernel, by decide +kernel⟩, List.mem_of_getElem? (i := 137) (by decide +kernel), List.mem_of_getElem? (i := 391) (by decide +kernel), List.mem_of_getElem? (i := 392) (by decide +kernel)⟩
theorem lw_p41 : lw_okq (⟨"ParkRows", "roundsTillOn", "(LParkRows$Ride;I)I"⟩, 8) := ⟨⟨by decide +kernel, by decide +kernel⟩, List.mem_of_getElem? (i := 8) (by decide +kernel), List.mem_of_getElem? (i := 399) (by decide +kernel), List.mem_of_getElem? (i := 400) (by decide +kernel)⟩
theorem lw_p42 : lw_okq (⟨"ParkRows", "placeInRow", "(LParkRows$Group;)I"⟩, 8) := ⟨⟨by decide +kernel, by decide +kernel⟩, List.mem_of_getElem? (i := 8) (by decide +kernel), List.mem_of_getElem? (i := 411) (by decide +kernel), List.mem_of_getElem? (i := 412) (by decide +kernel)⟩
theorem lw_p43 : lw_okq (⟨"ParkRows", "refusalsAt", "(I)I"⟩, 8) := ⟨⟨by decide +kernel, by decide +kernel⟩, List.mem_of_getElem? (i := 8) (by decide +kernel), List.mem_of_getElem? (i := 437) (by decide +kernel), List.mem_of_getElem? (i := 438) (by decide +kernel)⟩
theorem lw_p44 : lw_okq (⟨"ParkRows", "peopleDoing", "(II)I"⟩, 8) := ⟨⟨by decide +kernel, by decide +kernel⟩, List.mem_of_getElem? (i := 8) (by decide +kernel), List.mem_of_getElem? (i := 441) (by decide +kernel), List.mem_of_getElem? (i := 442) (by decide +kernel)⟩
theorem lw_p45 : lw_okq (⟨"ParkRowsModel", "refuse", "(I)I"⟩, 30) := ⟨⟨by decide +kernel, by decide +kernel⟩, List.mem_of_getElem? (i := 445) (by decide +kernel), List.mem_of_getElem? (i := 547) (by decide +kernel), List.mem_of_getElem? (i := 548) (by decide +kernel)⟩
theorem lw_p46 : lw_okq (⟨"ParkRowsModel", "isRide", "(I)Z"⟩, 30) := ⟨⟨by decide +kernel, by decide +kernel⟩, List.mem_of_getElem? (i := 445) (by decide +kernel), List.mem_of_getElem? (i := 559) (by decide +kernel), List.mem_of_getElem? (i := 560) (by decide +kernel)⟩
theorem lw_p47 : lw_okq (⟨"ParkRowsModel", "lackOfTaking", "(II)I"⟩, 30) := ⟨⟨by decide +kernel, by decide +kernel⟩, List.mem_of_getElem? (i := 445) (by decide +kernel), List.mem_of_getElem? (i := 574) (by decide +kernel), List.mem_of_getElem? (i := 575) (by decide +kernel)⟩
def lw_privs_3 : List (MethodName × Nat) := [(⟨"ParkRows", "beginRound", "(LParkRows$Ride;)I"⟩, 8), (⟨"ParkRows", "boardInOrder", "(LParkRows$Ride;LParkRows$Row;I)I"⟩, 8), (⟨"ParkRows", "board", "(LParkRows$Ride;LParkRows$Row;ILParkRows$Group;)I"⟩, 8), (⟨"ParkRows", "boardSingles", "(LParkRows$Ride;I)I"⟩, 8), (⟨"ParkRows$Ride", "beginsWindow", "(I)Z"⟩, 16), (⟨"ParkRows", "endWindow", "(LParkRows$Ride;I)V"⟩, 8), (⟨"ParkRows", "endTimes", "(LParkRows$Group;LParkRows$Ride;IZ)V"⟩, 8), (⟨"ParkRows", "moveTime", "(LParkRows$Group;ILParkRows$Ride;I)Z"⟩, 8), (⟨"ParkRows$Group", "moveTimeTo", "(II)V"⟩, 12), (⟨"ParkRows", "roundsTillOn", "(LParkRows$Ride;I)I"⟩, 8), (⟨"ParkRows", "placeInRow", "(LParkRows$Group;)I"⟩, 8), (⟨"ParkRows", "refusalsAt", "(I)I"⟩, 8), (⟨"ParkRows", "peopleDoing", "(II)I"⟩, 8), (⟨"ParkRowsModel", "refuse", "(I)I"⟩, 30), (⟨"ParkRowsModel", "isRide", "(I)Z"⟩, 30), (⟨"ParkRowsModel", "lackOfTaking", "(II)I"⟩, 30)]
theorem lw_r3 : ∀ q ∈ lw_privs_3, lw_okq q := List.forall_mem_cons.mpr ⟨lw_p32, List.forall_mem_cons.mpr ⟨lw_p33, List.forall_mem_cons.mpr ⟨lw_p34, List.forall_mem_cons.mpr ⟨lw_p35, List.forall_mem_cons.mpr ⟨lw_p36, List.forall_mem_cons.mpr ⟨lw_p37, List.forall_mem_cons.mpr ⟨lw_p38, List.forall_mem_cons.mpr ⟨lw_p39, List.forall_mem_cons.mpr ⟨lw_p40, List.forall_mem_cons.mpr ⟨lw_p41, List.forall_mem_cons.mpr ⟨lw_p42, List.forall_mem_cons.mpr ⟨lw_p43, List.forall_mem_cons.mpr ⟨lw_p44, List.forall_mem_cons.mpr ⟨lw_p45, List.forall_mem_cons.mpr ⟨lw_p46, List.forall_mem_cons.mpr ⟨lw_p47, fun _ h => absurd h List.not_mem_nil⟩⟩⟩⟩⟩⟩⟩⟩⟩⟩⟩⟩⟩⟩⟩⟩
theorem lw_p48 : lw_okq (⟨"ParkRowsModel", "isGroup", "(I)Z"⟩, 30) := ⟨⟨by decide +kernel, by decide +kernel⟩, List.mem_of_getElem? (i := 445) (by decide +kernel), List.mem_of_getElem? (i := 578) (by decide +kernel), List.mem_of_getElem? (i := 579) (by decide +kernel)⟩
theorem lw_p49 : lw_okq (⟨"ParkRowsModel", "firstFree", "(II)I"⟩, 30) := ⟨⟨by decide +kernel, by decide +kernel⟩, List.mem_of_getElem? (i := 445) (by decide +kernel), List.mem_of_getElem? (i := 582) (by decide +kernel), List.mem_of_getElem? (i := 583) (by decide +kernel)⟩
theorem lw_p50 : lw_okq (⟨"ParkRowsModel", "width", "(I)I"⟩, 30) := ⟨⟨by decide +kernel, by decide +kernel⟩, List.mem_of_getElem? (i := 445) (by decide +kernel), List.mem_of_getElem? (i := 586) (by decide +kernel), List.mem_of_getElem? (i := 587) (by decide +kernel)⟩
theorem lw_p51 : lw_okq (⟨"ParkRowsModel", "turn", "(I)I"⟩, 30) := ⟨⟨by decide +kernel, by decide +kernel⟩, List.mem_of_getElem? (i := 445) (by decide +kernel), List.mem_of_getElem? (i := 590) (by decide +kernel), List.mem_of_getElem? (i := 591) (by decide +kernel)⟩
theorem lw_p52 : lw_okq (⟨"ParkRowsModel", "fits", "(III)Z"⟩, 30) := ⟨⟨by decide +kernel, by decide +kernel⟩, List.mem_of_getElem? (i := 445) (by decide +kernel), List.mem_of_getElem? (i := 594) (by decide +kernel), List.mem_of_getElem? (i := 595) (by decide +kernel)⟩
theorem lw_p53 : lw_okq (⟨"ParkRowsModel", "roomOf", "(I)I"⟩, 30) := ⟨⟨by decide +kernel, by decide +kernel⟩, List.mem_of_getElem? (i := 445) (by decide +kernel), List.mem_of_getElem? (i := 598) (by decide +kernel), List.mem_of_getElem? (i := 599) (by decide +kernel)⟩
theorem lw_p54 : lw_okq (⟨"ParkRowsModel", "overlaps", "(III)Z"⟩, 30) := ⟨⟨by decide +kernel, by decide +kernel⟩, List.mem_of_getElem? (i := 445) (by decide +kernel), List.mem_of_getElem? (i := 602) (by decide +kernel), List.mem_of_getElem? (i := 603) (by decide +kernel)⟩
theorem lw_p55 : lw_okq (⟨"ParkRowsModel", "dropTime", "(II)V"⟩, 30) := ⟨⟨by decide +kernel, by decide +kernel⟩, List.mem_of_getElem? (i := 445) (by decide +kernel), List.mem_of_getElem? (i := 614) (by decide +kernel), List.mem_of_getElem? (i := 615) (by decide +kernel)⟩
theorem lw_p56 : lw_okq (⟨"ParkRowsModel", "join", "(III)V"⟩, 30) := ⟨⟨by decide +kernel, by decide +kernel⟩, List.mem_of_getElem? (i := 445) (by decide +kernel), List.mem_of_getElem? (i := 622) (by decide +kernel), List.mem_of_getElem? (i := 623) (by decide +kernel)⟩
theorem lw_p57 : lw_okq (⟨"ParkRowsModel", "placeOf", "(I)I"⟩, 30) := ⟨⟨by decide +kernel, by decide +kernel⟩, List.mem_of_getElem? (i := 445) (by decide +kernel), List.mem_of_getElem? (i := 626) (by decide +kernel), List.mem_of_getElem? (i := 627) (by decide +kernel)⟩
theorem lw_p58 : lw_okq (⟨"ParkRowsModel", "tickOne", "()I"⟩, 30) := ⟨⟨by decide +kernel, by decide +kernel⟩, List.mem_of_getElem? (i := 445) (by decide +kernel), List.mem_of_getElem? (i := 654) (by decide +kernel), List.mem_of_getElem? (i := 655) (by decide +kernel)⟩
theorem lw_p59 : lw_okq (⟨"ParkRowsModel", "runs", "(I)Z"⟩, 30) := ⟨⟨by decide +kernel, by decide +kernel⟩, List.mem_of_getElem? (i := 445) (by decide +kernel), List.mem_of_getElem? (i := 658) (by decide +kernel), List.mem_of_getElem? (i := 659) (by decide +kernel)⟩
theorem lw_p60 : lw_okq (⟨"ParkRowsModel", "begin", "(I)V"⟩, 30) := ⟨⟨by decide +kernel, by decide +kernel⟩, List.mem_of_getElem? (i := 445) (by decide +kernel), List.mem_of_getElem? (i := 662) (by decide +kernel), List.mem_of_getElem? (i := 663) (by decide +kernel)⟩
theorem lw_p61 : lw_okq (⟨"ParkRowsModel", "fill", "(III)I"⟩, 30) := ⟨⟨by decide +kernel, by decide +kernel⟩, List.mem_of_getElem? (i := 445) (by decide +kernel), List.mem_of_getElem? (i := 666) (by decide +kernel), List.mem_of_getElem? (i := 667) (by decide +kernel)⟩
theorem lw_p62 : lw_okq (⟨"ParkRowsModel", "next", "(III)I"⟩, 30) := ⟨⟨by decide +kernel, by decide +kernel⟩, List.mem_of_getElem? (i := 445) (by decide +kernel), List.mem_of_getElem? (i := 670) (by decide +kernel), List.mem_of_getElem? (i := 671) (by decide +kernel)⟩
theorem lw_p63 : lw_okq (⟨"ParkRowsModel", "board", "(I)V"⟩, 30) := ⟨⟨by decide +kernel, by decide +kernel⟩, List.mem_of_getElem? (i := 445) (by decide +kernel), List.mem_of_getElem? (i := 674) (by decide +kernel), List.mem_of_getElem? (i := 675) (by decide +kernel)⟩
def lw_privs_4 : List (MethodName × Nat) := [(⟨"ParkRowsModel", "isGroup", "(I)Z"⟩, 30), (⟨"ParkRowsModel", "firstFree", "(II)I"⟩, 30), (⟨"ParkRowsModel", "width", "(I)I"⟩, 30), (⟨"ParkRowsModel", "turn", "(I)I"⟩, 30), (⟨"ParkRowsModel", "fits", "(III)Z"⟩, 30), (⟨"ParkRowsModel", "roomOf", "(I)I"⟩, 30), (⟨"ParkRowsModel", "overlaps", "(III)Z"⟩, 30), (⟨"ParkRowsModel", "dropTime", "(II)V"⟩, 30), (⟨"ParkRowsModel", "join", "(III)V"⟩, 30), (⟨"ParkRowsModel", "placeOf", "(I)I"⟩, 30), (⟨"ParkRowsModel", "tickOne", "()I"⟩, 30), (⟨"ParkRowsModel", "runs", "(I)Z"⟩, 30), (⟨"ParkRowsModel", "begin", "(I)V"⟩, 30), (⟨"ParkRowsModel", "fill", "(III)I"⟩, 30), (⟨"ParkRowsModel", "next", "(III)I"⟩, 30), (⟨"ParkRowsModel", "board", "(I)V"⟩, 30)]
theorem lw_r4 : ∀ q ∈ lw_privs_4, lw_okq q := List.forall_mem_cons.mpr ⟨lw_p48, List.forall_mem_cons.mpr ⟨lw_p49, List.forall_mem_cons.mpr ⟨lw_p50, List.forall_mem_cons.mpr ⟨lw_p51, List.forall_mem_cons.mpr ⟨lw_p52, List.forall_mem_cons.mpr ⟨lw_p53, List.forall_mem_cons.mpr ⟨lw_p54, List.forall_mem_cons.mpr ⟨lw_p55, List.forall_mem_cons.mpr ⟨lw_p56, List.forall_mem_cons.mpr ⟨lw_p57, List.forall_mem_cons.mpr ⟨lw_p58, List.forall_mem_cons.mpr ⟨lw_p59, List.forall_mem_cons.mpr ⟨lw_p60, List.forall_mem_cons.mpr ⟨lw_p61, List.forall_mem_cons.mpr ⟨lw_p62, List.forall_mem_cons.mpr ⟨lw_p63, fun _ h => absurd h List.not_mem_nil⟩⟩⟩⟩⟩⟩⟩⟩⟩⟩⟩⟩⟩⟩⟩⟩
theorem lw_p64 : lw_okq (⟨"ParkRowsModel", "windowEnded", "(II)V"⟩, 30) := ⟨⟨by decide +kernel, by decide +kernel⟩, List.mem_of_getElem? (i := 445) (by decide +kernel), List.mem_of_getElem? (i := 678) (by decide +kernel), List.mem_of_getElem? (i := 679) (by decide +kernel)⟩
theorem lw_p65 : lw_okq (⟨"ParkRowsModel", "move", "(III)Z"⟩, 30) := ⟨⟨by decide +kernel, by decide +kernel⟩, List.mem_of_getElem? (i := 445) (by decide +kernel), List.mem_of_getElem? (i := 682) (by decide +kernel), List.mem_of_getElem? (i := 683) (by decide +kernel)⟩
theorem lw_p66 : lw_okq (⟨"ParkRowsModel", "manyAt", "(IIZ)I"⟩, 30) := ⟨⟨by decide +kernel, by decide +kernel⟩, List.mem_of_getElem? (i := 445) (by decide +kernel), List.mem_of_getElem? (i := 702) (by decide +kernel), List.mem_of_getElem? (i := 703) (by decide +kernel)⟩
def lw_privs_5 : List (MethodName × Nat) := [(⟨"ParkRowsModel", "windowEnded", "(II)V"⟩, 30), (⟨"ParkRowsModel", "move", "(III)Z"⟩, 30), (⟨"ParkRowsModel", "manyAt", "(IIZ)I"⟩, 30)]
theorem lw_r5 : ∀ q ∈ lw_privs_5, lw_okq q := List.forall_mem_cons.mpr ⟨lw_p64, List.forall_mem_cons.mpr ⟨lw_p65, List.forall_mem_cons.mpr ⟨lw_p66, fun _ h => absurd h List.not_mem_nil⟩⟩⟩
def lw_privs : List (MethodName × Nat) := lw_privs_1 ++ (lw_privs_2 ++ (lw_privs_3 ++ (lw_privs_4 ++ (lw_privs_5))))
def lw_tbl : List Cond := k2_sels lw_privs ++ tables_1
theorem lw_privs_ok : ∀ q ∈ lw_privs, lw_okq q := by
  show ∀ q ∈ lw_privs_1 ++ (lw_privs_2 ++ (lw_privs_3 ++ (lw_privs_4 ++ (lw_privs_5)))), lw_okq q
  exact List.forall_mem_append.mpr ⟨lw_r1, List.forall_mem_append.mpr ⟨lw_r2, List.forall_mem_append.mpr ⟨lw_r3, List.forall_mem_append.mpr ⟨lw_r4, lw_r5⟩⟩⟩⟩
-- ===== class tables =====
def pw_R0 : String := "ParkRows$Group"
def pw_T0 : u_T := fun k => match k with
  | 0 => ("ParkRows$Group", "number", "I", true)
  | 1 => ("ParkRows$Group", "many", "I", true)
  | 2 => ("ParkRows$Group", "timeRides", "[I", true)
  | 3 => ("ParkRows$Group", "timeWindows", "[I", true)
  | 4 => ("ParkRows$Group", "times", "I", false)
  | 5 => ("ParkRows$Group", "doing", "I", false)
  | 6 => ("ParkRows$Group", "ride", "I", false)
  | 7 => ("ParkRows$Group", "since", "I", false)
  | 8 => ("ParkRows$Group", "anys", "I", false)
  | 9 => ("ParkRows$Group", "rounds", "I", false)
  | 10 => ("ParkRows$Group", "missed", "I", false)
  | _ => ("ParkRows$Group", "moved", "I", false)
def pw_y0 : Nat → FieldType := fun k => match k with
  | 0 => .int
  | 1 => .int
  | 2 => .array .int
  | 3 => .array .int
  | 4 => .int
  | 5 => .int
  | 6 => .int
  | 7 => .int
  | 8 => .int
  | 9 => .int
  | 10 => .int
  | _ => .int
def pw_R1 : String := "ParkRows$Ride"
def pw_T1 : u_T := fun k => match k with
  | 0 => ("ParkRows$Ride", "number", "I", true)
  | 1 => ("ParkRows$Ride", "seats", "I", true)
  | 2 => ("ParkRows$Ride", "round", "I", true)
  | 3 => ("ParkRows$Ride", "kind", "I", true)
  | 4 => ("ParkRows$Ride", "period", "I", true)
  | 5 => ("ParkRows$Ride", "windowLength", "I", true)
  | 6 => ("ParkRows$Ride", "standing", "LParkRows$Row;", true)
  | 7 => ("ParkRows$Ride", "back", "LParkRows$Row;", true)
  | 8 => ("ParkRows$Ride", "given", "[I", true)
  | 9 => ("ParkRows$Ride", "part", "I", false)
  | 10 => ("ParkRows$Ride", "spare", "I", false)
  | 11 => ("ParkRows$Ride", "stopped", "Z", false)
  | 12 => ("ParkRows$Ride", "peopleOn", "I", false)
  | 13 => ("ParkRows$Ride", "peopleInAll", "I", false)
  | 14 => ("ParkRows$Ride", "emptySeats", "I", false)
  | _ => ("ParkRows$Ride", "rounds", "I", false)
def pw_y1 : Nat → FieldType := fun k => match k with
  | 0 => .int
  | 1 => .int
  | 2 => .int
  | 3 => .int
  | 4 => .int
  | 5 => .int
  | 6 => .object "ParkRows$Row"
  | 7 => .object "ParkRows$Row"
  | 8 => .array .int
  | 9 => .int
  | 10 => .int
  | 11 => .boolean
  | 12 => .int
  | 13 => .int
  | 14 => .int
  | _ => .int
def pw_R2 : String := "ParkRows$Row"
def pw_T2 : u_T := fun k => match k with
  | 0 => ("ParkRows$Row", "numbers", "[I", true)
  | _ => ("ParkRows$Row", "size", "I", false)
def pw_y2 : Nat → FieldType := fun k => match k with
  | 0 => .array .int
  | _ => .int
def pw_R3 : String := "ParkRows"
def pw_T3 : u_T := fun k => match k with
  | 0 => ("ParkRows", "rides", "[LParkRows$Ride;", true)
  | 1 => ("ParkRows", "groups", "[LParkRows$Group;", true)
  | 2 => ("ParkRows", "walks", "[I", true)
  | 3 => ("ParkRows", "refusals", "[I", true)
  | 4 => ("ParkRows", "rideTotal", "I", false)
  | 5 => ("ParkRows", "groupTotal", "I", false)
  | 6 => ("ParkRows", "tick", "I", false)
  | _ => ("ParkRows", "raining", "Z", false)
def pw_y3 : Nat → FieldType := fun k => match k with
  | 0 => .array (.object "ParkRows$Ride")
  | 1 => .array (.object "ParkRows$Group")
  | 2 => .array .int
  | 3 => .array .int
  | 4 => .int
  | 5 => .int
  | 6 => .int
  | _ => .boolean
def pw_R4 : String := "ParkRowsModel"
def pw_T4 : u_T := fun k => match k with
  | 0 => ("ParkRowsModel", "tick", "I", false)
  | 1 => ("ParkRowsModel", "rains", "Z", false)
  | 2 => ("ParkRowsModel", "rides", "I", false)
  | 3 => ("ParkRowsModel", "seats", "[I", true)
  | 4 => ("ParkRowsModel", "round", "[I", true)
  | 5 => ("ParkRowsModel", "part", "[I", true)
  | 6 => ("ParkRowsModel", "spare", "[I", true)
  | 7 => ("ParkRowsModel", "kind", "[I", true)
  | 8 => ("ParkRowsModel", "stopped", "[Z", true)
  | 9 => ("ParkRowsModel", "rode", "[I", true)
  | 10 => ("ParkRowsModel", "unfilled", "[I", true)
  | 11 => ("ParkRowsModel", "began", "[I", true)
  | 12 => ("ParkRowsModel", "walks", "[I", true)
  | 13 => ("ParkRowsModel", "given", "[I", true)
  | 14 => ("ParkRowsModel", "groups", "I", false)
  | 15 => ("ParkRowsModel", "many", "[I", true)
  | 16 => ("ParkRowsModel", "does", "[I", true)
  | 17 => ("ParkRowsModel", "at", "[I", true)
  | 18 => ("ParkRowsModel", "order", "[I", true)
  | 19 => ("ParkRowsModel", "orders", "I", false)
  | 20 => ("ParkRowsModel", "since", "[I", true)
  | 21 => ("ParkRowsModel", "times", "[I", true)
  | 22 => ("ParkRowsModel", "timeRide", "[I", true)
  | 23 => ("ParkRowsModel", "timeWindow", "[I", true)
  | 24 => ("ParkRowsModel", "anys", "[I", true)
  | 25 => ("ParkRowsModel", "wasOn", "[I", true)
  | 26 => ("ParkRowsModel", "missed", "[I", true)
  | 27 => ("ParkRowsModel", "moved", "[I", true)
  | 28 => ("ParkRowsModel", "refused", "[I", true)
  | _ => ("ParkRowsModel", "left", "I", false)
def pw_y4 : Nat → FieldType := fun k => match k with
  | 0 => .int
  | 1 => .boolean
  | 2 => .int
  | 3 => .array .int
  | 4 => .array .int
  | 5 => .array .int
  | 6 => .array .int
  | 7 => .array .int
  | 8 => .array .boolean
  | 9 => .array .int
  | 10 => .array .int
  | 11 => .array .int
  | 12 => .array .int
  | 13 => .array .int
  | 14 => .int
  | 15 => .array .int
  | 16 => .array .int
  | 17 => .array .int
  | 18 => .array .int
  | 19 => .int
  | 20 => .array .int
  | 21 => .array .int
  | 22 => .array .int
  | 23 => .array .int
  | 24 => .array .int
  | 25 => .array .int
  | 26 => .array .int
  | 27 => .array .int
  | 28 => .array .int
  | _ => .int
abbrev pw_cl : List vw_C := [(pw_R0, pw_T0, 12), (pw_R1, pw_T1, 16), (pw_R2, pw_T2, 2), (pw_R3, pw_T3, 8), (pw_R4, pw_T4, 30)]
def pw_fty (ci k : Nat) : FieldType := match ci with
  | 0 => pw_y0 k
  | 1 => pw_y1 k
  | 2 => pw_y2 k
  | 3 => pw_y3 k
  | _ => pw_y4 k
-- a method: its name, its code, its locals, what it answers, (level, cells, slots)
abbrev pw_M : Type := MethodName × ByteArray × Nat × Option FieldType × (Nat × Nat × Nat)
abbrev pm_G_turnTo : pw_M := (⟨"ParkRows$Group", "turnTo", "(II)V"⟩, prog_2_method_2_code, 3, none, (1, 0, 0))
abbrev pm_G_hasTime : pw_M := (⟨"ParkRows$Group", "hasTime", "(I)Z"⟩, prog_2_method_3_code, 2, (some .boolean), (1, 0, 0))
abbrev pm_G_addTime : pw_M := (⟨"ParkRows$Group", "addTime", "(II)V"⟩, prog_2_method_7_code, 3, none, (1, 0, 0))
abbrev pm_D_runs : pw_M := (⟨"ParkRows$Ride", "runs", "(Z)Z"⟩, prog_3_method_2_code, 2, (some .boolean), (1, 0, 0))
abbrev pm_D_beginsWindow : pw_M := (⟨"ParkRows$Ride", "beginsWindow", "(I)Z"⟩, prog_3_method_4_code, 2, (some .boolean), (1, 0, 0))
abbrev pm_D_windowAt : pw_M := (⟨"ParkRows$Ride", "windowAt", "(I)I"⟩, prog_3_method_5_code, 2, (some .int), (1, 0, 0))
abbrev pm_D_firstTickOf : pw_M := (⟨"ParkRows$Ride", "firstTickOf", "(I)I"⟩, prog_3_method_6_code, 2, (some .int), (1, 0, 0))
abbrev pm_D_givenOf : pw_M := (⟨"ParkRows$Ride", "givenOf", "(I)I"⟩, prog_3_method_9_code, 2, (some .int), (1, 0, 0))
abbrev pm_D_addGiven : pw_M := (⟨"ParkRows$Ride", "addGiven", "(II)V"⟩, prog_3_method_11_code, 3, none, (1, 0, 0))
abbrev pm_W_at : pw_M := (⟨"ParkRows$Row", "at", "(I)I"⟩, prog_4_method_2_code, 2, (some .int), (1, 0, 0))
abbrev pm_W_append : pw_M := (⟨"ParkRows$Row", "append", "(I)I"⟩, prog_4_method_4_code, 2, (some .int), (1, 0, 0))
abbrev pm_W_removeAt : pw_M := (⟨"ParkRows$Row", "removeAt", "(I)V"⟩, prog_4_method_5_code, 3, none, (1, 0, 0))
abbrev pm_P_rain : pw_M := (⟨"ParkRows", "rain", "(Z)Z"⟩, prog_1_method_13_code, 2, (some .boolean), (1, 0, 0))
abbrev pm_P_refused : pw_M := (⟨"ParkRows", "refused", "(I)I"⟩, prog_1_method_23_code, 3, (some .int), (1, 0, 0))
abbrev pm_P_refusalsAt : pw_M := (⟨"ParkRows", "refusalsAt", "(I)I"⟩, prog_1_method_24_code, 2, (some .int), (1, 0, 0))
abbrev pm_P_rideAt : pw_M := (⟨"ParkRows", "rideAt", "(I)LParkRows$Ride;"⟩, prog_1_method_25_code, 2, (some (.object "ParkRows$Ride")), (1, 0, 0))
abbrev pm_P_groupAt : pw_M := (⟨"ParkRows", "groupAt", "(I)LParkRows$Group;"⟩, prog_1_method_26_code, 2, (some (.object "ParkRows$Group")), (1, 0, 0))
abbrev pm_P_walkBetween : pw_M := (⟨"ParkRows", "walkBetween", "(II)I"⟩, prog_1_method_27_code, 4, (some .int), (1, 0, 0))
abbrev pm_P_setWalk : pw_M := (⟨"ParkRows", "setWalk", "(III)V"⟩, prog_1_method_28_code, 5, none, (1, 0, 0))
abbrev pm_M_in : pw_M := (⟨"ParkRowsModel", "in", "(III)Z"⟩, prog_6_method_3_code, 3, (some .boolean), (1, 0, 0))
abbrev pm_M_refuse : pw_M := (⟨"ParkRowsModel", "refuse", "(I)I"⟩, prog_6_method_4_code, 2, (some .int), (1, 0, 0))
abbrev pm_M_turn : pw_M := (⟨"ParkRowsModel", "turn", "(I)I"⟩, prog_6_method_11_code, 2, (some .int), (1, 0, 0))
abbrev pm_M_roomOf : pw_M := (⟨"ParkRowsModel", "roomOf", "(I)I"⟩, prog_6_method_13_code, 3, (some .int), (1, 0, 0))
abbrev pm_M_dropTime : pw_M := (⟨"ParkRowsModel", "dropTime", "(II)V"⟩, prog_6_method_20_code, 3, none, (1, 0, 0))
abbrev pm_M_join : pw_M := (⟨"ParkRowsModel", "join", "(III)V"⟩, prog_6_method_22_code, 4, none, (1, 0, 0))
abbrev pm_M_placeOf : pw_M := (⟨"ParkRowsModel", "placeOf", "(I)I"⟩, prog_6_method_23_code, 4, (some .int), (1, 0, 0))
abbrev pm_M_next : pw_M := (⟨"ParkRowsModel", "next", "(III)I"⟩, prog_6_method_24_code, 7, (some .int), (1, 0, 0))
abbrev pm_M_rain : pw_M := (⟨"ParkRowsModel", "rain", "(Z)Z"⟩, prog_6_method_30_code, 3, (some .boolean), (1, 0, 0))
abbrev pm_M_runs : pw_M := (⟨"ParkRowsModel", "runs", "(I)Z"⟩, prog_6_method_31_code, 2, (some .boolean), (1, 0, 0))
abbrev pm_M_board : pw_M := (⟨"ParkRowsModel", "board", "(I)V"⟩, prog_6_method_32_code, 2, none, (1, 0, 0))
abbrev pm_M_manyAt : pw_M := (⟨"ParkRowsModel", "manyAt", "(IIZ)I"⟩, prog_6_method_42_code, 6, (some .int), (1, 0, 0))
abbrev pm_G_init : pw_M := (⟨"ParkRows$Group", "<init>", "(II)V"⟩, prog_2_method_1_code, 3, none, (2, 2, 4))
abbrev pm_G_rideOfTime : pw_M := (⟨"ParkRows$Group", "rideOfTime", "(I)I"⟩, prog_2_method_4_code, 2, (some .int), (2, 0, 0))
abbrev pm_G_windowOfTime : pw_M := (⟨"ParkRows$Group", "windowOfTime", "(I)I"⟩, prog_2_method_5_code, 2, (some .int), (2, 0, 0))
abbrev pm_G_moveTimeTo : pw_M := (⟨"ParkRows$Group", "moveTimeTo", "(II)V"⟩, prog_2_method_8_code, 3, none, (2, 0, 0))
abbrev pm_G_dropTime : pw_M := (⟨"ParkRows$Group", "dropTime", "(I)V"⟩, prog_2_method_9_code, 3, none, (2, 0, 0))
abbrev pm_D_beginsRound : pw_M := (⟨"ParkRows$Ride", "beginsRound", "(IZ)Z"⟩, prog_3_method_3_code, 3, (some .boolean), (2, 0, 0))
abbrev pm_D_lastTickOf : pw_M := (⟨"ParkRows$Ride", "lastTickOf", "(I)I"⟩, prog_3_method_7_code, 2, (some .int), (2, 0, 0))
abbrev pm_D_roomOfWindow : pw_M := (⟨"ParkRows$Ride", "roomOfWindow", "()I"⟩, prog_3_method_8_code, 1, (some .int), (2, 0, 0))
abbrev pm_W_init : pw_M := (⟨"ParkRows$Row", "<init>", "()V"⟩, prog_4_method_1_code, 1, none, (2, 1, 60))
abbrev pm_W_placeOf : pw_M := (⟨"ParkRows$Row", "placeOf", "(I)I"⟩, prog_4_method_3_code, 3, (some .int), (2, 0, 0))
abbrev pm_P_init : pw_M := (⟨"ParkRows", "<init>", "()V"⟩, prog_1_method_1_code, 1, none, (2, 4, 138))
abbrev pm_P_walk : pw_M := (⟨"ParkRows", "walk", "(III)I"⟩, prog_1_method_4_code, 5, (some .int), (2, 0, 0))
abbrev pm_P_part : pw_M := (⟨"ParkRows", "part", "(III)I"⟩, prog_1_method_5_code, 5, (some .int), (2, 0, 0))
abbrev pm_P_stand : pw_M := (⟨"ParkRows", "stand", "(II)I"⟩, prog_1_method_9_code, 5, (some .int), (2, 0, 0))
abbrev pm_P_stop : pw_M := (⟨"ParkRows", "stop", "(IZ)Z"⟩, prog_1_method_12_code, 4, (some .boolean), (2, 0, 0))
abbrev pm_P_rideOf : pw_M := (⟨"ParkRows", "rideOf", "(II)I"⟩, prog_1_method_19_code, 4, (some .int), (2, 0, 0))
abbrev pm_P_row : pw_M := (⟨"ParkRows", "row", "(IZI)I"⟩, prog_1_method_21_code, 6, (some .int), (2, 0, 0))
abbrev pm_P_rowOf : pw_M := (⟨"ParkRows", "rowOf", "(LParkRows$Group;)LParkRows$Row;"⟩, prog_1_method_29_code, 3, (some (.object "ParkRows$Row")), (2, 0, 0))
abbrev pm_P_peopleDoing : pw_M := (⟨"ParkRows", "peopleDoing", "(II)I"⟩, prog_1_method_31_code, 6, (some .int), (2, 0, 0))
abbrev pm_P_roundsTillOn : pw_M := (⟨"ParkRows", "roundsTillOn", "(LParkRows$Ride;I)I"⟩, prog_1_method_36_code, 8, (some .int), (2, 0, 0))
abbrev pm_P_endRound : pw_M := (⟨"ParkRows", "endRound", "(LParkRows$Ride;)V"⟩, prog_1_method_38_code, 4, none, (2, 0, 0))
abbrev pm_P_board : pw_M := (⟨"ParkRows", "board", "(LParkRows$Ride;LParkRows$Row;ILParkRows$Group;)I"⟩, prog_1_method_42_code, 5, (some .int), (2, 0, 0))
abbrev pm_M_init : pw_M := (⟨"ParkRowsModel", "<init>", "()V"⟩, prog_6_method_1_code, 1, none, (2, 26, 9783))
abbrev pm_M_isRide : pw_M := (⟨"ParkRowsModel", "isRide", "(I)Z"⟩, prog_6_method_5_code, 2, (some .boolean), (2, 0, 0))
abbrev pm_M_isGroup : pw_M := (⟨"ParkRowsModel", "isGroup", "(I)Z"⟩, prog_6_method_6_code, 2, (some .boolean), (2, 0, 0))
abbrev pm_M_ride : pw_M := (⟨"ParkRowsModel", "ride", "(IIIII)I"⟩, prog_6_method_7_code, 6, (some .int), (2, 0, 0))
abbrev pm_M_group : pw_M := (⟨"ParkRowsModel", "group", "(I)I"⟩, prog_6_method_8_code, 2, (some .int), (2, 0, 0))
abbrev pm_M_width : pw_M := (⟨"ParkRowsModel", "width", "(I)I"⟩, prog_6_method_12_code, 2, (some .int), (2, 0, 0))
abbrev pm_M_fits : pw_M := (⟨"ParkRowsModel", "fits", "(III)Z"⟩, prog_6_method_15_code, 4, (some .boolean), (2, 0, 0))
abbrev pm_M_fill : pw_M := (⟨"ParkRowsModel", "fill", "(III)I"⟩, prog_6_method_33_code, 6, (some .int), (2, 0, 0))
abbrev pm_M_count : pw_M := (⟨"ParkRowsModel", "count", "(I)I"⟩, prog_6_method_46_code, 4, (some .int), (2, 0, 0))
abbrev pm_G_placeOfTime : pw_M := (⟨"ParkRows$Group", "placeOfTime", "(II)I"⟩, prog_2_method_6_code, 4, (some .int), (3, 0, 0))
abbrev pm_D_init : pw_M := (⟨"ParkRows$Ride", "<init>", "(IIII)V"⟩, prog_3_method_1_code, 5, none, (3, 5, 1165))
abbrev pm_D_hasRoom : pw_M := (⟨"ParkRows$Ride", "hasRoom", "(II)Z"⟩, prog_3_method_10_code, 3, (some .boolean), (3, 0, 0))
abbrev pm_P_group : pw_M := (⟨"ParkRows", "group", "(I)I"⟩, prog_1_method_3_code, 3, (some .int), (3, 3, 16))
abbrev pm_P_leave : pw_M := (⟨"ParkRows", "leave", "(I)I"⟩, prog_1_method_10_code, 5, (some .int), (3, 0, 0))
abbrev pm_P_wait : pw_M := (⟨"ParkRows", "wait", "(I)I"⟩, prog_1_method_15_code, 5, (some .int), (3, 0, 0))
abbrev pm_P_time : pw_M := (⟨"ParkRows", "time", "(III)I"⟩, prog_1_method_18_code, 5, (some .int), (3, 0, 0))
abbrev pm_P_window : pw_M := (⟨"ParkRows", "window", "(III)I"⟩, prog_1_method_20_code, 5, (some .int), (3, 0, 0))
abbrev pm_P_count : pw_M := (⟨"ParkRows", "count", "(I)I"⟩, prog_1_method_22_code, 2, (some .int), (3, 0, 0))
abbrev pm_P_placeInRow : pw_M := (⟨"ParkRows", "placeInRow", "(LParkRows$Group;)I"⟩, prog_1_method_30_code, 3, (some .int), (3, 0, 0))
abbrev pm_P_overlaps : pw_M := (⟨"ParkRows", "overlaps", "(LParkRows$Ride;ILParkRows$Ride;I)Z"⟩, prog_1_method_34_code, 6, (some .boolean), (3, 0, 0))
abbrev pm_P_giveBack : pw_M := (⟨"ParkRows", "giveBack", "(LParkRows$Group;I)I"⟩, prog_1_method_35_code, 5, (some .int), (3, 0, 0))
abbrev pm_P_boardInOrder : pw_M := (⟨"ParkRows", "boardInOrder", "(LParkRows$Ride;LParkRows$Row;I)I"⟩, prog_1_method_40_code, 7, (some .int), (3, 0, 0))
abbrev pm_P_boardSingles : pw_M := (⟨"ParkRows", "boardSingles", "(LParkRows$Ride;I)I"⟩, prog_1_method_41_code, 7, (some .int), (3, 0, 0))
abbrev pm_M_walk : pw_M := (⟨"ParkRowsModel", "walk", "(III)I"⟩, prog_6_method_9_code, 5, (some .int), (3, 0, 0))
abbrev pm_M_part : pw_M := (⟨"ParkRowsModel", "part", "(III)I"⟩, prog_6_method_10_code, 4, (some .int), (3, 0, 0))
abbrev pm_M_overlaps : pw_M := (⟨"ParkRowsModel", "overlaps", "(III)Z"⟩, prog_6_method_14_code, 12, (some .boolean), (3, 0, 0))
abbrev pm_M_lackOfTaking : pw_M := (⟨"ParkRowsModel", "lackOfTaking", "(II)I"⟩, prog_6_method_16_code, 3, (some .int), (3, 0, 0))
abbrev pm_M_give : pw_M := (⟨"ParkRowsModel", "give", "(II)I"⟩, prog_6_method_21_code, 4, (some .int), (3, 0, 0))
abbrev pm_M_come : pw_M := (⟨"ParkRowsModel", "come", "(II)I"⟩, prog_6_method_25_code, 5, (some .int), (3, 0, 0))
abbrev pm_M_stand : pw_M := (⟨"ParkRowsModel", "stand", "(II)I"⟩, prog_6_method_26_code, 3, (some .int), (3, 0, 0))
abbrev pm_M_leave : pw_M := (⟨"ParkRowsModel", "leave", "(I)I"⟩, prog_6_method_27_code, 3, (some .int), (3, 0, 0))
abbrev pm_M_go : pw_M := (⟨"ParkRowsModel", "go", "(I)I"⟩, prog_6_method_28_code, 4, (some .int), (3, 0, 0))
abbrev pm_M_stop : pw_M := (⟨"ParkRowsModel", "stop", "(IZ)Z"⟩, prog_6_method_29_code, 3, (some .boolean), (3, 0, 0))
abbrev pm_M_begin : pw_M := (⟨"ParkRowsModel", "begin", "(I)V"⟩, prog_6_method_34_code, 5, none, (3, 0, 0))
abbrev pm_M_move : pw_M := (⟨"ParkRowsModel", "move", "(III)Z"⟩, prog_6_method_36_code, 6, (some .boolean), (3, 0, 0))
abbrev pm_M_wait : pw_M := (⟨"ParkRowsModel", "wait", "(I)I"⟩, prog_6_method_39_code, 7, (some .int), (3, 0, 0))
abbrev pm_M_groupOf : pw_M := (⟨"ParkRowsModel", "groupOf", "(II)I"⟩, prog_6_method_40_code, 3, (some .int), (3, 0, 0))
abbrev pm_M_time : pw_M := (⟨"ParkRowsModel", "time", "(III)I"⟩, prog_6_method_41_code, 4, (some .int), (3, 0, 0))
abbrev pm_M_rideOf : pw_M := (⟨"ParkRowsModel", "rideOf", "(II)I"⟩, prog_6_method_43_code, 3, (some .int), (3, 0, 0))
abbrev pm_M_window : pw_M := (⟨"ParkRowsModel", "window", "(III)I"⟩, prog_6_method_44_code, 4, (some .int), (3, 0, 0))
abbrev pm_M_row : pw_M := (⟨"ParkRowsModel", "row", "(IZI)I"⟩, prog_6_method_45_code, 6, (some .int), (3, 0, 0))
abbrev pm_P_ride : pw_M := (⟨"ParkRows", "ride", "(IIIII)I"⟩, prog_1_method_2_code, 8, (some .int), (4, 6, 1181))
abbrev pm_P_give : pw_M := (⟨"ParkRows", "give", "(II)I"⟩, prog_1_method_7_code, 4, (some .int), (4, 0, 0))
abbrev pm_P_come : pw_M := (⟨"ParkRows", "come", "(II)I"⟩, prog_1_method_8_code, 6, (some .int), (4, 0, 0))
abbrev pm_P_go : pw_M := (⟨"ParkRows", "go", "(I)I"⟩, prog_1_method_11_code, 5, (some .int), (4, 0, 0))
abbrev pm_P_groupOf : pw_M := (⟨"ParkRows", "groupOf", "(II)I"⟩, prog_1_method_17_code, 4, (some .int), (4, 0, 0))
abbrev pm_P_overlapsAny : pw_M := (⟨"ParkRows", "overlapsAny", "(LParkRows$Group;LParkRows$Ride;I)Z"⟩, prog_1_method_33_code, 6, (some .boolean), (4, 0, 0))
abbrev pm_P_beginRound : pw_M := (⟨"ParkRows", "beginRound", "(LParkRows$Ride;)I"⟩, prog_1_method_39_code, 3, (some .int), (4, 0, 0))
abbrev pm_P_moveTime : pw_M := (⟨"ParkRows", "moveTime", "(LParkRows$Group;ILParkRows$Ride;I)Z"⟩, prog_1_method_45_code, 6, (some .boolean), (4, 0, 0))
abbrev pm_M_firstFree : pw_M := (⟨"ParkRowsModel", "firstFree", "(II)I"⟩, prog_6_method_17_code, 5, (some .int), (4, 0, 0))
abbrev pm_M_windowEnded : pw_M := (⟨"ParkRowsModel", "windowEnded", "(II)V"⟩, prog_6_method_35_code, 5, none, (4, 0, 0))
abbrev pm_P_windowToTake : pw_M := (⟨"ParkRows", "windowToTake", "(LParkRows$Group;LParkRows$Ride;)I"⟩, prog_1_method_32_code, 5, (some .int), (5, 0, 0))
abbrev pm_P_endTimes : pw_M := (⟨"ParkRows", "endTimes", "(LParkRows$Group;LParkRows$Ride;IZ)V"⟩, prog_1_method_44_code, 7, none, (5, 0, 0))
abbrev pm_M_free : pw_M := (⟨"ParkRowsModel", "free", "(II)I"⟩, prog_6_method_18_code, 4, (some .int), (5, 0, 0))
abbrev pm_M_take : pw_M := (⟨"ParkRowsModel", "take", "(II)I"⟩, prog_6_method_19_code, 5, (some .int), (5, 0, 0))
abbrev pm_M_tickOne : pw_M := (⟨"ParkRowsModel", "tickOne", "()I"⟩, prog_6_method_37_code, 4, (some .int), (5, 0, 0))
abbrev pm_P_take : pw_M := (⟨"ParkRows", "take", "(II)I"⟩, prog_1_method_6_code, 6, (some .int), (6, 0, 0))
abbrev pm_P_free : pw_M := (⟨"ParkRows", "free", "(II)I"⟩, prog_1_method_16_code, 4, (some .int), (6, 0, 0))
abbrev pm_P_endWindow : pw_M := (⟨"ParkRows", "endWindow", "(LParkRows$Ride;I)V"⟩, prog_1_method_43_code, 6, none, (6, 0, 0))
abbrev pm_M_ticks : pw_M := (⟨"ParkRowsModel", "ticks", "(I)I"⟩, prog_6_method_38_code, 4, (some .int), (6, 0, 0))
abbrev pm_P_passTick : pw_M := (⟨"ParkRows", "passTick", "()I"⟩, prog_1_method_37_code, 4, (some .int), (7, 0, 0))
abbrev pm_P_ticks : pw_M := (⟨"ParkRows", "ticks", "(I)I"⟩, prog_1_method_14_code, 4, (some .int), (8, 0, 0))
abbrev pm_L_law : pw_M := (⟨"ParkRowsLaw", "law", "([I)Z"⟩, code, 4, (some .boolean), (9, 600000, 7302250))
def pw_ms : List pw_M := [pm_G_turnTo, pm_G_hasTime, pm_G_addTime, pm_D_runs, pm_D_beginsWindow, pm_D_windowAt, pm_D_firstTickOf, pm_D_givenOf, pm_D_addGiven, pm_W_at, pm_W_append, pm_W_removeAt, pm_P_rain, pm_P_refused, pm_P_refusalsAt, pm_P_rideAt, pm_P_groupAt, pm_P_walkBetween, pm_P_setWalk, pm_M_in, pm_M_refuse, pm_M_turn, pm_M_roomOf, pm_M_dropTime, pm_M_join, pm_M_placeOf, pm_M_next, pm_M_rain, pm_M_runs, pm_M_board, pm_M_manyAt, pm_G_init, pm_G_rideOfTime, pm_G_windowOfTime, pm_G_moveTimeTo, pm_G_dropTime, pm_D_beginsRound, pm_D_lastTickOf, pm_D_roomOfWindow, pm_W_init, pm_W_placeOf, pm_P_init, pm_P_walk, pm_P_part, pm_P_stand, pm_P_stop, pm_P_rideOf, pm_P_row, pm_P_rowOf, pm_P_peopleDoing, pm_P_roundsTillOn, pm_P_endRound, pm_P_board, pm_M_init, pm_M_isRide, pm_M_isGroup, pm_M_ride, pm_M_group, pm_M_width, pm_M_fits, pm_M_fill, pm_M_count, pm_G_placeOfTime, pm_D_init, pm_D_hasRoom, pm_P_group, pm_P_leave, pm_P_wait, pm_P_time, pm_P_window, pm_P_count, pm_P_placeInRow, pm_P_overlaps, pm_P_giveBack, pm_P_boardInOrder, pm_P_boardSingles, pm_M_walk, pm_M_part, pm_M_overlaps, pm_M_lackOfTaking, pm_M_give, pm_M_come, pm_M_stand, pm_M_leave, pm_M_go, pm_M_stop, pm_M_begin, pm_M_move, pm_M_wait, pm_M_groupOf, pm_M_time, pm_M_rideOf, pm_M_window, pm_M_row, pm_P_ride, pm_P_give, pm_P_come, pm_P_go, pm_P_groupOf, pm_P_overlapsAny, pm_P_beginRound, pm_P_moveTime, pm_M_firstFree, pm_M_windowEnded, pm_P_windowToTake, pm_P_endTimes, pm_M_free, pm_M_take, pm_M_tickOne, pm_P_take, pm_P_free, pm_P_endWindow, pm_M_ticks, pm_P_passTick, pm_P_ticks, pm_L_law]
def pw_md (j : Nat) : pw_M := pw_ms.getD j pm_G_turnTo
end
section
/-! The machine of this proof: ints and references as numbers, a heap as four functions; what a stretch of code asks ('pw_wp'), and that the real machine does it ('pw_sound'). -/
abbrev pw_A : Type := Int32 ⊕ Nat
/-- how many cells were made; kind and length of a cell; its ints; its references. Cell n lies at base + (n - 2); 0 is null, 1 the script. Kinds: 1 int array, 2 boolean array, 3 array of Ride, 4 array of Group, 5 the script, 10 + class -/
abbrev pw_Hp : Type := Nat × (Nat → Nat × Nat) × (Nat → Nat → Int32) × (Nat → Nat → Nat)
abbrev pw_O : Type := va_G × (Nat → ClassId) × (Nat × Nat)
abbrev pw_Ls : Type := List (Option pw_A)
abbrev pw_Kt : Type := Bool × Nat → pw_Ls → List pw_A → pw_Hp → Nat → Nat → Prop
/-- an instruction, where it goes on, where it jumps, numbers, (cells, slots, place of its link), constants and cases -/
abbrev pw_E : Type := Instr × (Bool × Nat) × (Bool × Nat) × (Nat × Nat × Nat) × (Nat × Nat × Nat) × List (Int32 × (Bool × Nat))
def pw_V (Ω : pw_O) (v : pw_A) : Value := match v with
  | .inl x => .int x
  | .inr n => if n = 0 then .null else if n = 1 then .ref Ω.2.2.2 else .ref (Ω.2.2.1 + (n - 2))
def pw_k (h : pw_Hp) (n : Nat) : Nat := (h.2.1 n).1
def pw_n (h : pw_Hp) (n : Nat) : Nat := (h.2.1 n).2
def pw_i (h : pw_Hp) (n k : Nat) : Int32 := h.2.2.1 n k
def pw_r (h : pw_Hp) (n k : Nat) : Nat := h.2.2.2 n k
def pw_wi (h : pw_Hp) (n k : Nat) (x : Int32) : pw_Hp := (h.1, h.2.1, (fun a j => if a = n ∧ j = k then x else h.2.2.1 a j), h.2.2.2)
def pw_wr (h : pw_Hp) (n k : Nat) (x : Nat) : pw_Hp := (h.1, h.2.1, h.2.2.1, (fun a j => if a = n ∧ j = k then x else h.2.2.2 a j))
def pw_nw (h : pw_Hp) (kd len : Nat) : pw_Hp := (h.1 + 1, (fun a => if a = h.1 + 2 then (kd, len) else h.2.1 a), (fun a j => if a = h.1 + 2 then 0 else h.2.2.1 a j), (fun a j => if a = h.1 + 2 then 0 else h.2.2.2 a j))
-- the words that every method may rest on, and the links between nest mates
def pw_tb : List Cond := lw_tbl.filter goodWord
def pw_isN : Cond → Bool
  | .fieldLinkNest .. => true
  | .methodLinkNest .. => true
  | _ => false
def pw_nl : List Cond := lw_tbl.filter pw_isN
def pw_aty : Nat → FieldType
  | 1 => .int
  | 2 => .boolean
  | 3 => .object "ParkRows$Ride"
  | _ => .object "ParkRows$Group"
def pw_tys (Ω : pw_O) : List (ClassId × FieldType) := [(Ω.2.1 0, .int), (Ω.2.1 1, pw_aty 1), (Ω.2.1 2, pw_aty 2), (Ω.2.1 3, pw_aty 3), (Ω.2.1 4, pw_aty 4)]
def pw_rf (ci k : Nat) : Bool := match pw_fty ci k with
  | .int => false
  | .boolean => false
  | _ => true
def pw_fv (Ω : pw_O) (h : pw_Hp) (ci n k : Nat) : Value := if pw_rf ci k = true then pw_V Ω (.inr (pw_r h n k)) else .int (pw_i h n k)
def pw_cell (Ω : pw_O) (h : pw_Hp) (n : Nat) (H : Heap) : Prop :=
  (pw_k h n = 1 ∨ pw_k h n = 2 → H[Ω.2.2.1 + (n - 2)]? = some (arrV (Ω.2.1 (pw_k h n)) (pw_n h n) (fun j => .int (pw_i h n j)))) ∧
  (pw_k h n = 3 ∨ pw_k h n = 4 → H[Ω.2.2.1 + (n - 2)]? = some (arrV (Ω.2.1 (pw_k h n)) (pw_n h n) (fun j => pw_V Ω (.inr (pw_r h n j))))) ∧
  (∀ ci, pw_k h n = 10 + ci → ∃ r : vw_C, pw_cl[ci]? = some r ∧ t_OB (Ω.2.2.1 + (n - 2)) (Ω.1.1 ci) r.2.2 (Ω.1.2 ci) H (pw_fv Ω h ci n))
def pw_H (Ω : pw_O) (s : State) (h : pw_Hp) (H : Heap) : Prop :=
  H.size = Ω.2.2.1 + h.1 ∧ (∀ n, pw_k h n ≠ 0 → (n = 1 ∧ pw_k h n = 5) ∨ (2 ≤ n ∧ n < h.1 + 2 ∧ pw_k h n ≠ 5)) ∧ (∀ n, 2 ≤ n → pw_cell Ω h n H) ∧
  (pw_k h 1 = 5 → va_X Ω.2.2.2 (pw_n h 1) (pw_i h 1) s H ∧ Ω.2.2.2 < Ω.2.2.1)
def pw_Af (Ω : pw_O) : Nat → Prop := fun q => Ω.2.2.1 ≤ q
def pw_Kn (Ω : pw_O) (s : State) : Prop := va_K Ω.1 pw_cl (pw_tys Ω) s ∧ ∀ w ∈ pw_nl, va_Nw w s
def pw_nth (k : Nat) (ls : pw_Ls) : Option pw_A := (ls[k]?).join
def pw_L (Ω : pw_O) (Sl : Array Slot) (n : Nat) (ls : pw_Ls) : Prop := Sl.size = n ∧ lv_wf Sl ∧ (∀ k v, pw_nth k ls = some v → Sl[k]? = some (.val (pw_V Ω v))) ∧ ls.length = n
def pw_rv (M : pw_M) (v : Int32) : Prop := M.2.2.2.1 = some .int ∨ (M.2.2.2.1 = some .boolean ∧ (v = 0 ∨ v = 1))
/-- where a method runs: the machine, its code, its words, its room, and how it ends -/
def pw_Act (M : pw_M) (Q : Option pw_A → pw_Hp → Prop) (p : Program) (l : Launch) (e : Env) (R : Room) (s : State) (m : MethodId) (args : Array Value) (below : List Frame) (meth : Method) (c : Code) (Z : State → Prop) (Ω : pw_O) : Prop :=
  p.tables.exec = Jvm.exec ∧ c.code = M.2.1 ∧ c.maxLocals = M.2.2.1 ∧ s.vm.findClass M.1.cls = some m.cls ∧ (∀ w ∈ pw_tb, w.before args s = true) ∧ pw_Kn Ω s ∧ meth.name = M.1.name ∧
  (M.2.2.2.2.1 ≤ R.frames ∧ 37 * M.2.2.2.2.1 ≤ R.locals ∧ M.2.2.2.2.2.1 ≤ R.cells ∧ M.2.2.2.2.2.2 ≤ R.slots) ∧ Ω.2.2.1 ≤ s.heap.size ∧
  (∀ (H : Heap) (locs : List Loc) (Sl : Array Slot) (pc : Nat) (h' : pw_Hp), va_S (pw_Af Ω) s.heap H locs → pw_H Ω s h' H →
    (∀ v : Int32, decode M.2.1 pc = .ok (.ireturn, 1) → pw_rv M v → Q (some (.inl v)) h' → W p l e R s m args below meth c H locs M.2.2.2.2.2.1 M.2.2.2.2.2.2 Z (F0 m pc Sl [.int v])) ∧
    (∀ v : Nat, decode M.2.1 pc = .ok (.areturn, 1) → (∃ C, M.2.2.2.1 = some (.object C)) → Q (some (.inr v)) h' → W p l e R s m args below meth c H locs M.2.2.2.2.2.1 M.2.2.2.2.2.2 Z (F0 m pc Sl [pw_V Ω (.inr v)])) ∧
    (decode M.2.1 pc = .ok (.return_, 1) → M.2.2.2.1 = none → Q none h' → W p l e R s m args below meth c H locs M.2.2.2.2.2.1 M.2.2.2.2.2.2 Z (F0 m pc Sl [])))
def pw_J (M : pw_M) (Q : Option pw_A → pw_Hp → Prop) (pc : Nat) (ls : pw_Ls) (st : List pw_A) (h : pw_Hp) (bc bs : Nat) : Prop :=
  ∀ (p : Program) (l : Launch) (e : Env) (R : Room) (s : State) (m : MethodId) (args : Array Value) (below : List Frame) (meth : Method) (c : Code) (Z : State → Prop) (Ω : pw_O), pw_Act M Q p l e R s m args below meth c Z Ω →
  ∀ (H : Heap) (locs : List Loc) (cells slots : Nat) (Sl : Array Slot), pw_H Ω s h H → va_S (pw_Af Ω) s.heap H locs → cells + bc ≤ M.2.2.2.2.2.1 → slots + bs ≤ M.2.2.2.2.2.2 → pw_L Ω Sl M.2.2.1 ls →
  W p l e R s m args below meth c H locs cells slots Z (F0 m pc Sl (st.map (pw_V Ω)))
def pw_rm (M : pw_M) : Room := { frames := M.2.2.2.2.1, cells := M.2.2.2.2.2.1, slots := M.2.2.2.2.2.2, locals := 37 * M.2.2.2.2.1 }
def pw_ws (M : pw_M) : List Cond := .code M.1 M.2.1 M.2.2.1 M.2.2.2.1 :: pw_tb
def pw_Qc (Ω : pw_O) (Q : Option pw_A → pw_Hp → Prop) : Array Value → State → Outcome → State → Prop := fun _ st oc t => (∃ (v : Option pw_A) (h' : pw_Hp), oc = .returned (v.map (pw_V Ω)) ∧ Q v h' ∧ pw_H Ω t h' t.heap) ∧ va_F (pw_Af Ω) st t
def pw_Pc (Ω : pw_O) (as : List pw_A) (h : pw_Hp) : Array Value → State → Prop := va_Pc (as.map (pw_V Ω)) (fun U => pw_Kn Ω U ∧ Ω.2.2.1 ≤ U.heap.size ∧ pw_H Ω U h U.heap)
/-- method j, called with these arguments in this heap, comes back, and Q holds of its answer and its heap -/
def pw_C (j : Nat) (as : List pw_A) (h : pw_Hp) (Q : Option pw_A → pw_Hp → Prop) : Prop :=
  ∀ (l : Launch) (Ω : pw_O), Met l (pw_md j).1 (pw_ws (pw_md j)) (pw_rm (pw_md j)) (pw_Pc Ω as h) (pw_Qc Ω Q) (pw_md j).2.2.2.2.2.1 (pw_md j).2.2.2.2.2.2 (pw_Af Ω)
def pw_qi (k : Int32 → pw_Hp → Prop) : Option pw_A → pw_Hp → Prop := fun v h' => ∃ x, v = some (.inl x) ∧ k x h'
def pw_qr (k : Nat → pw_Hp → Prop) : Option pw_A → pw_Hp → Prop := fun v h' => ∃ x, v = some (.inr x) ∧ k x h'
def pw_qv (k : pw_Hp → Prop) : Option pw_A → pw_Hp → Prop := fun v h' => v = none ∧ k h'
def pw_Ci (j : Nat) (as : List pw_A) (h : pw_Hp) (k : Int32 → pw_Hp → Prop) : Prop := pw_C j as h (pw_qi k)
def pw_Cr (j : Nat) (as : List pw_A) (h : pw_Hp) (k : Nat → pw_Hp → Prop) : Prop := pw_C j as h (pw_qr k)
def pw_Cv (j : Nat) (as : List pw_A) (h : pw_Hp) (k : pw_Hp → Prop) : Prop := pw_C j as h (pw_qv k)
-- ===== what an instruction asks =====
def pw_li (o : Option pw_A) (f : Int32 → Prop) : Prop := match o with
  | some (.inl x) => f x
  | _ => False
def pw_lr (o : Option pw_A) (f : Nat → Prop) : Prop := match o with
  | some (.inr n) => f n
  | _ => False
def pw_s1 (st : List pw_A) (f : Int32 → List pw_A → Prop) : Prop := match st with
  | .inl x :: r => f x r
  | _ => False
def pw_s2 (st : List pw_A) (f : Int32 → Int32 → List pw_A → Prop) : Prop := match st with
  | .inl y :: .inl x :: r => f x y r
  | _ => False
def pw_sr (st : List pw_A) (f : Nat → List pw_A → Prop) : Prop := match st with
  | .inr n :: r => f n r
  | _ => False
def pw_sir (st : List pw_A) (f : Nat → Int32 → List pw_A → Prop) : Prop := match st with
  | .inl i :: .inr n :: r => f n i r
  | _ => False
def pw_siir (st : List pw_A) (f : Nat → Int32 → Int32 → List pw_A → Prop) : Prop := match st with
  | .inl x :: .inl i :: .inr n :: r => f n i x r
  | _ => False
def pw_srir (st : List pw_A) (f : Nat → Int32 → Nat → List pw_A → Prop) : Prop := match st with
  | .inr q :: .inl i :: .inr n :: r => f n i q r
  | _ => False
def pw_srr (st : List pw_A) (f : Nat → Nat → List pw_A → Prop) : Prop := match st with
  | .inr q :: .inr n :: r => f n q r
  | _ => False
def pw_sa (st : List pw_A) (f : pw_A → List pw_A → Prop) : Prop := match st with
  | v :: r => f v r
  | _ => False
def pw_cv (sw : List (Int32 × (Bool × Nat))) : Int32 := match sw with
  | a :: _ => a.1
  | [] => 0
def pw_cc (c : Jvm.ClassFile.Cond) (x y : Int32) (A B : Prop) : Prop := match c with
  | .eq => (x = y → A) ∧ (¬ x = y → B)
  | .ne => (¬ x = y → A) ∧ (x = y → B)
  | .lt => (x < y → A) ∧ (¬ x < y → B)
  | .ge => (y ≤ x → A) ∧ (¬ y ≤ x → B)
  | .gt => (y < x → A) ∧ (¬ y < x → B)
  | .le => (x ≤ y → A) ∧ (¬ x ≤ y → B)
def pw_sw (x : Int32) (k : Bool × Nat → Prop) (d : Bool × Nat) : List (Int32 × (Bool × Nat)) → Prop
  | [] => k d
  | a :: r => (x = a.1 → k a.2) ∧ (¬ x = a.1 → pw_sw x k d r)
/-- the arguments, and what lies below them -/
def pw_pop (n : Nat) (st : List pw_A) : List pw_A × List pw_A := ((st.take n).reverse, st.drop n)
def pw_rcv (ci : Nat) (h : pw_Hp) (as : List pw_A) : Prop := match as with
  | .inr n :: _ => pw_k h n = 10 + ci
  | _ => False
def pw_ret (rk j : Nat) (as r : List pw_A) (h : pw_Hp) (k : List pw_A → pw_Hp → Prop) : Prop := match rk with
  | 0 => pw_Cv j as h (fun h' => k r h')
  | 1 => pw_Ci j as h (fun x h' => k (.inl x :: r) h')
  | _ => pw_Cr j as h (fun x h' => k (.inr x :: r) h')
def pw_short : Nat → List pw_A → Prop
  | 0, r => r.length ≤ 8
  | n + 1, _ :: r => pw_short n r
  | _ + 1, [] => False
def pw_get (ref : Nat) (h : pw_Hp) (n k : Nat) : pw_A := match ref with
  | 1 => .inr (pw_r h n k)
  | _ => .inl (pw_i h n k)
def pw_put (ref : Nat) (st : List pw_A) (ci k : Nat) (h : pw_Hp) (f : List pw_A → pw_Hp → Prop) : Prop := match ref with
  | 0 => pw_sir st fun n x r => pw_k h n = 10 + ci ∧ f r (pw_wi h n k x)
  | 1 => pw_srr st fun n q r => pw_k h n = 10 + ci ∧ f r (pw_wr h n k q)
  | _ => pw_sir st fun n x r => pw_k h n = 10 + ci ∧ (x = 0 ∨ x = 1) ∧ f r (pw_wi h n k x)
def pw_irt (z : Nat) (st : List pw_A) (f : Int32 → Prop) : Prop := match st with
  | [.inl v] => match z with
    | 2 => (v = 0 ∨ v = 1) ∧ f v
    | _ => f v
  | _ => False
def pw_art (st : List pw_A) (f : Nat → Prop) : Prop := match st with
  | [.inr v] => f v
  | _ => False
def pw_vrt (st : List pw_A) (f : Prop) : Prop := match st with
  | [] => f
  | _ => False
/-- an index within -/
def pw_at (i : Int32) (n : Nat) : Prop := ¬ i < 0 ∧ i.toNatClampNeg < n
def pw_stp (Q : Option pw_A → pw_Hp → Prop) (e : pw_E) (K : pw_Kt) (ls : pw_Ls) (st : List pw_A) (h : pw_Hp) (bc bs : Nat) : Prop :=
  match e.1 with
  | .iload_n k => pw_li (pw_nth k.val ls) fun x => K e.2.1 ls (.inl x :: st) h bc bs
  | .iload k => pw_li (pw_nth k ls) fun x => K e.2.1 ls (.inl x :: st) h bc bs
  | .aload_n k => pw_lr (pw_nth k.val ls) fun x => K e.2.1 ls (.inr x :: st) h bc bs
  | .aload k => pw_lr (pw_nth k ls) fun x => K e.2.1 ls (.inr x :: st) h bc bs
  | .istore_n k => pw_s1 st fun x r => K e.2.1 (ls.set k.val (some (.inl x))) r h bc bs
  | .istore k => pw_s1 st fun x r => K e.2.1 (ls.set k (some (.inl x))) r h bc bs
  | .astore_n k => pw_sr st fun x r => K e.2.1 (ls.set k.val (some (.inr x))) r h bc bs
  | .astore k => pw_sr st fun x r => K e.2.1 (ls.set k (some (.inr x))) r h bc bs
  | .iinc k _ => pw_li (pw_nth k ls) fun x => K e.2.1 (ls.set k (some (.inl (x + pw_cv e.2.2.2.2.2)))) st h bc bs
  | .iconst _ => K e.2.1 ls (.inl (pw_cv e.2.2.2.2.2) :: st) h bc bs
  | .bipush _ => K e.2.1 ls (.inl (pw_cv e.2.2.2.2.2) :: st) h bc bs
  | .sipush _ => K e.2.1 ls (.inl (pw_cv e.2.2.2.2.2) :: st) h bc bs
  | .aconst_null => K e.2.1 ls (.inr 0 :: st) h bc bs
  | .iadd => pw_s2 st fun x y r => K e.2.1 ls (.inl (x + y) :: r) h bc bs
  | .isub => pw_s2 st fun x y r => K e.2.1 ls (.inl (x - y) :: r) h bc bs
  | .imul => pw_s2 st fun x y r => K e.2.1 ls (.inl (x * y) :: r) h bc bs
  | .iand => pw_s2 st fun x y r => K e.2.1 ls (.inl (x &&& y) :: r) h bc bs
  | .idiv => pw_s2 st fun x y r => ¬ y = 0 ∧ K e.2.1 ls (.inl (x / y) :: r) h bc bs
  | .irem => pw_s2 st fun x y r => ¬ y = 0 ∧ K e.2.1 ls (.inl (x - x / y * y) :: r) h bc bs
  | .ineg => pw_s1 st fun x r => K e.2.1 ls (.inl (-x) :: r) h bc bs
  | .dup => pw_sa st fun v r => K e.2.1 ls (v :: v :: r) h bc bs
  | .pop => pw_sa st fun _ r => K e.2.1 ls r h bc bs
  | .dup2 => pw_sa st fun v r => pw_sa r fun w r => K e.2.1 ls (v :: w :: v :: w :: r) h bc bs
  | .if_icmp c _ => pw_s2 st fun x y r => pw_cc c x y (K e.2.2.1 ls r h bc bs) (K e.2.1 ls r h bc bs)
  | .ifCond c _ => pw_s1 st fun x r => pw_cc c x 0 (K e.2.2.1 ls r h bc bs) (K e.2.1 ls r h bc bs)
  | .ifnull _ => pw_sr st fun n r => (n = 0 → K e.2.2.1 ls r h bc bs) ∧ (¬ n = 0 → K e.2.1 ls r h bc bs)
  | .ifnonnull _ => pw_sr st fun n r => (¬ n = 0 → K e.2.2.1 ls r h bc bs) ∧ (n = 0 → K e.2.1 ls r h bc bs)
  | .goto _ => K e.2.2.1 ls st h bc bs
  | .tableswitch .. => pw_s1 st fun x r => pw_sw x (fun t => K t ls r h bc bs) e.2.2.1 e.2.2.2.2.2
  | .lookupswitch .. => pw_s1 st fun x r => pw_sw x (fun t => K t ls r h bc bs) e.2.2.1 e.2.2.2.2.2
  | .getfield _ => pw_sr st fun n r => pw_k h n = 10 + e.2.2.2.1.1 ∧ K e.2.1 ls (pw_get e.2.2.2.1.2.2 h n e.2.2.2.1.2.1 :: r) h bc bs
  | .putfield _ => pw_put e.2.2.2.1.2.2 st e.2.2.2.1.1 e.2.2.2.1.2.1 h (fun r h' => K e.2.1 ls r h' bc bs)
  | .iaload => pw_sir st fun n i r => (pw_k h n = 1 ∨ pw_k h n = 5) ∧ pw_at i (pw_n h n) ∧ K e.2.1 ls (.inl (pw_i h n i.toNatClampNeg) :: r) h bc bs
  | .baload => pw_sir st fun n i r => pw_k h n = 2 ∧ pw_at i (pw_n h n) ∧ K e.2.1 ls (.inl (pw_i h n i.toNatClampNeg) :: r) h bc bs
  | .aaload => pw_sir st fun n i r => (pw_k h n = 3 ∨ pw_k h n = 4) ∧ pw_at i (pw_n h n) ∧ K e.2.1 ls (.inr (pw_r h n i.toNatClampNeg) :: r) h bc bs
  | .iastore => pw_siir st fun n i x r => pw_k h n = 1 ∧ pw_at i (pw_n h n) ∧ K e.2.1 ls r (pw_wi h n i.toNatClampNeg x) bc bs
  | .bastore => pw_siir st fun n i x r => pw_k h n = 2 ∧ pw_at i (pw_n h n) ∧ (x = 0 ∨ x = 1) ∧ K e.2.1 ls r (pw_wi h n i.toNatClampNeg x) bc bs
  | .aastore => pw_srir st fun n i q r => ((pw_k h n = 3 ∧ pw_k h q = 11) ∨ (pw_k h n = 4 ∧ pw_k h q = 10)) ∧ pw_at i (pw_n h n) ∧ K e.2.1 ls r (pw_wr h n i.toNatClampNeg q) bc bs
  | .arraylength => pw_sr st fun n r => (pw_k h n = 1 ∨ pw_k h n = 2 ∨ pw_k h n = 3 ∨ pw_k h n = 4 ∨ pw_k h n = 5) ∧ K e.2.1 ls (.inl (nI (pw_n h n)) :: r) h bc bs
  | .newarray _ => pw_s1 st fun x r => (¬ x < 0 ∧ x.toNatClampNeg ≤ 10000) ∧ 1 ≤ bc ∧ x.toNatClampNeg ≤ bs ∧ K e.2.1 ls (.inr (h.1 + 2) :: r) (pw_nw h e.2.2.2.1.1 x.toNatClampNeg) (bc - 1) (bs - x.toNatClampNeg)
  | .anewarray _ => pw_s1 st fun x r => (¬ x < 0 ∧ x.toNatClampNeg ≤ 10000) ∧ 1 ≤ bc ∧ x.toNatClampNeg ≤ bs ∧ K e.2.1 ls (.inr (h.1 + 2) :: r) (pw_nw h e.2.2.2.1.1 x.toNatClampNeg) (bc - 1) (bs - x.toNatClampNeg)
  | .new _ => 1 ≤ bc ∧ e.2.2.2.1.2.1 ≤ bs ∧ K e.2.1 ls (.inr (h.1 + 2) :: st) (pw_nw h (10 + e.2.2.2.1.1) e.2.2.2.1.2.1) (bc - 1) (bs - e.2.2.2.1.2.1)
  | .invokevirtual _ => pw_short e.2.2.2.1.2.1 st ∧ e.2.2.2.2.1.1 ≤ bc ∧ e.2.2.2.2.1.2.1 ≤ bs ∧ pw_rcv e.2.2.1.2 h (pw_pop e.2.2.2.1.2.1 st).1 ∧ pw_ret e.2.2.2.1.2.2 e.2.2.2.1.1 (pw_pop e.2.2.2.1.2.1 st).1 (pw_pop e.2.2.2.1.2.1 st).2 h (fun r h' => K e.2.1 ls r h' (bc - e.2.2.2.2.1.1) (bs - e.2.2.2.2.1.2.1))
  | .invokespecial _ => match e.2.2.2.1.1 with
    | 1001 => pw_sr st fun n r => pw_short 0 r ∧ ¬ n = 0 ∧ K e.2.1 ls r h bc bs
    | _ => pw_short e.2.2.2.1.2.1 st ∧ e.2.2.2.2.1.1 ≤ bc ∧ e.2.2.2.2.1.2.1 ≤ bs ∧ pw_rcv e.2.2.1.2 h (pw_pop e.2.2.2.1.2.1 st).1 ∧ pw_ret e.2.2.2.1.2.2 e.2.2.2.1.1 (pw_pop e.2.2.2.1.2.1 st).1 (pw_pop e.2.2.2.1.2.1 st).2 h (fun r h' => K e.2.1 ls r h' (bc - e.2.2.2.2.1.1) (bs - e.2.2.2.2.1.2.1))
  | .invokestatic _ => match e.2.2.2.1.1 with
    | 1000 => pw_s2 st fun x y r => pw_short 0 r ∧ K e.2.1 ls (.inl (if x < y then y else x) :: r) h bc bs
    | _ => pw_short e.2.2.2.1.2.1 st ∧ e.2.2.2.2.1.1 ≤ bc ∧ e.2.2.2.2.1.2.1 ≤ bs ∧ pw_ret e.2.2.2.1.2.2 e.2.2.2.1.1 (pw_pop e.2.2.2.1.2.1 st).1 (pw_pop e.2.2.2.1.2.1 st).2 h (fun r h' => K e.2.1 ls r h' (bc - e.2.2.2.2.1.1) (bs - e.2.2.2.2.1.2.1))
  | .ireturn => pw_irt e.2.2.2.1.2.2 st fun v => Q (some (.inl v)) h
  | .areturn => pw_art st fun v => Q (some (.inr v)) h
  | .return_ => pw_vrt st (Q none h)
  | _ => False
def pw_go (J : Nat → pw_Ls → List pw_A → pw_Hp → Nat → Nat → Prop) (w : Nat → pw_Ls → List pw_A → pw_Hp → Nat → Nat → Prop) : pw_Kt := fun t => match t.1 with
  | true => J t.2
  | false => w t.2
def pw_wp (g : Nat → pw_E) (Q : Option pw_A → pw_Hp → Prop) (J : Nat → pw_Ls → List pw_A → pw_Hp → Nat → Nat → Prop) : Nat → Nat → pw_Ls → List pw_A → pw_Hp → Nat → Nat → Prop
  | 0 => J
  | n + 1 => fun pc ls st h bc bs => pw_stp Q (g pc) (pw_go J (pw_wp g Q J n)) ls st h bc bs
end
section
/-! The real machine does what 'pw_stp' asks. -/
theorem pw_V0 (Ω : pw_O) : pw_V Ω (.inr 0) = .null := rfl
theorem pw_V1 (Ω : pw_O) : pw_V Ω (.inr 1) = .ref Ω.2.2.2 := rfl
theorem pw_V2 (Ω : pw_O) {n : Nat} (h : 2 ≤ n) : pw_V Ω (.inr n) = .ref (Ω.2.2.1 + (n - 2)) := by
  unfold pw_V
  simp only
  rw [if_neg (by omega), if_neg (by omega)]
theorem pw_Vr (Ω : pw_O) (n : Nat) : (n = 0 ∧ pw_V Ω (.inr n) = .null) ∨ (n ≠ 0 ∧ ∃ a, pw_V Ω (.inr n) = .ref a) := by
  by_cases h : n = 0
  · subst h; exact Or.inl ⟨rfl, rfl⟩
  · by_cases h1 : n = 1
    · subst h1; exact Or.inr ⟨h, _, rfl⟩
    · exact Or.inr ⟨h, _, pw_V2 Ω (by omega)⟩
theorem pw_Vc (Ω : pw_O) (v : pw_A) : (pw_V Ω v).category = 1 := by
  cases v with
  | inl x => rfl
  | inr n => rcases pw_Vr Ω n with ⟨-, h⟩ | ⟨-, a, h⟩ <;> rw [h] <;> rfl
theorem pw_sumc (Ω : pw_O) (st : List pw_A) : ((st.map (pw_V Ω)).map fun v => v.category).sum = st.length := by
  induction st with
  | nil => rfl
  | cons a r ih => simp only [List.map_cons, List.sum_cons, List.length_cons, pw_Vc, ih]; omega
theorem pw_kin {Ω : pw_O} {s : State} {h : pw_Hp} {H : Heap} (hH : pw_H Ω s h H) {n : Nat} (h0 : pw_k h n ≠ 0) (h5 : pw_k h n ≠ 5) : 2 ≤ n ∧ n < h.1 + 2 ∧ pw_V Ω (.inr n) = .ref (Ω.2.2.1 + (n - 2)) := by
  rcases hH.2.1 n h0 with ⟨-, h⟩ | ⟨h1, h2, -⟩
  · exact absurd h h5
  · exact ⟨h1, h2, pw_V2 Ω h1⟩
/-- the locals as the kit lists them -/
def pw_lv (Ω : pw_O) (ls : pw_Ls) : List (Nat × Value) := (List.range ls.length).filterMap (fun k => (pw_nth k ls).map (fun v => (k, pw_V Ω v)))
theorem pw_lv_in {Ω : pw_O} {ls : pw_Ls} {k : Nat} {v : pw_A} (h : pw_nth k ls = some v) : (k, pw_V Ω v) ∈ pw_lv Ω ls := by
  have hk : k < ls.length := by
    unfold pw_nth at h
    rcases Nat.lt_or_ge k ls.length with q | q
    · exact q
    · rw [List.getElem?_eq_none q] at h
      cases h
  exact List.mem_filterMap.mpr ⟨k, List.mem_range.mpr hk, by rw [h]; rfl⟩
theorem pw_lv_of {Ω : pw_O} {ls : pw_Ls} {q : Nat × Value} (h : q ∈ pw_lv Ω ls) : ∃ v, pw_nth q.1 ls = some v ∧ q.2 = pw_V Ω v := by
  obtain ⟨k, -, h2⟩ := List.mem_filterMap.mp h
  cases hn : pw_nth k ls with
  | none => rw [hn] at h2; cases h2
  | some v =>
    rw [hn] at h2
    cases h2
    exact ⟨v, hn, rfl⟩
theorem pw_L_has {Ω : pw_O} {Sl : Array Slot} {n : Nat} {ls : pw_Ls} (h : pw_L Ω Sl n ls) : lv_has Sl n (pw_lv Ω ls) := by
  refine ⟨h.1, h.2.1, fun q hq => ?_⟩
  obtain ⟨v, h1, h2⟩ := pw_lv_of hq
  rw [h2]
  exact h.2.2.1 _ _ h1
theorem pw_nth_set {ls : pw_Ls} {i k : Nat} {v : pw_A} (hi : i < ls.length) : pw_nth k (ls.set i (some v)) = if k = i then some v else pw_nth k ls := by
  unfold pw_nth
  by_cases h : k = i
  · subst h
    rw [if_pos rfl, List.getElem?_set_self hi]
    rfl
  · rw [if_neg h, List.getElem?_set_ne (Ne.symm h)]
theorem pw_L_set {Ω : pw_O} {Sl Sl' : Array Slot} {n i : Nat} {ls : pw_Ls} {v : pw_A} (h : pw_L Ω Sl n ls) (hi : i < n) (h' : lv_has Sl' n ((i, pw_V Ω v) :: (pw_lv Ω ls).filter (fun q => !(q.1 == i) && !(q.1 + 1 == i && q.2.category == 2)))) : pw_L Ω Sl' n (ls.set i (some v)) := by
  have hl : i < ls.length := by rw [h.2.2.2]; exact hi
  refine ⟨h'.1, h'.2.1, fun k w hk => ?_, by rw [List.length_set]; exact h.2.2.2⟩
  rw [pw_nth_set hl] at hk
  by_cases hki : k = i
  · rw [if_pos hki] at hk
    cases hk
    subst hki
    exact h'.2.2 (k, pw_V Ω v) List.mem_cons_self
  · rw [if_neg hki] at hk
    refine h'.2.2 (k, pw_V Ω w) (List.mem_cons_of_mem _ (List.mem_filter.mpr ⟨pw_lv_in hk, ?_⟩))
    simp [hki, pw_Vc]
section PWX
variable {M : pw_M} {Q : Option pw_A → pw_Hp → Prop} {pc : Nat} {ls : pw_Ls} {st : List pw_A} {h : pw_Hp} {bc bs : Nat}
theorem pw_x_iload_n {k : Fin 4} {x : Int32} (hd : decode M.2.1 pc = .ok (.iload_n k, 1)) (hl : pw_nth k.val ls = some (.inl x)) (hk : pw_J M Q (pc + 1) ls (.inl x :: st) h bc bs) : pw_J M Q pc ls st h bc bs := by
  intro p l e R s m args below meth c Z Ω C H locs cells slots Sl hH hS hc hs hL
  exact lv_iload_n C.1 C.2.1 hd rfl (hL.2.2.1 _ _ hl) (hk p l e R s m args below meth c Z Ω C H locs cells slots Sl hH hS hc hs hL)
theorem pw_x_iload {k : Nat} {x : Int32} (hd : decode M.2.1 pc = .ok (.iload k, 2)) (hl : pw_nth k ls = some (.inl x)) (hk : pw_J M Q (pc + 2) ls (.inl x :: st) h bc bs) : pw_J M Q pc ls st h bc bs := by
  intro p l e R s m args below meth c Z Ω C H locs cells slots Sl hH hS hc hs hL
  exact lv_iload C.1 C.2.1 hd (hL.2.2.1 _ _ hl) (hk p l e R s m args below meth c Z Ω C H locs cells slots Sl hH hS hc hs hL)
theorem pw_x_aload_n {k : Fin 4} {x : Nat} (hd : decode M.2.1 pc = .ok (.aload_n k, 1)) (hl : pw_nth k.val ls = some (.inr x)) (hk : pw_J M Q (pc + 1) ls (.inr x :: st) h bc bs) : pw_J M Q pc ls st h bc bs := by
  intro p l e R s m args below meth c Z Ω C H locs cells slots Sl hH hS hc hs hL
  have h1 := hL.2.2.1 _ _ hl
  have h2 := hk p l e R s m args below meth c Z Ω C H locs cells slots Sl hH hS hc hs hL
  rw [List.map_cons] at h2
  rcases pw_Vr Ω x with ⟨-, hv⟩ | ⟨-, a, hv⟩
  · rw [hv] at h1 h2
    exact lv_aload_nN C.1 C.2.1 hd rfl h1 h2
  · rw [hv] at h1 h2
    exact lv_aload_n C.1 C.2.1 hd rfl h1 h2
theorem pw_x_aload {k : Nat} {x : Nat} (hd : decode M.2.1 pc = .ok (.aload k, 2)) (hl : pw_nth k ls = some (.inr x)) (hk : pw_J M Q (pc + 2) ls (.inr x :: st) h bc bs) : pw_J M Q pc ls st h bc bs := by
  intro p l e R s m args below meth c Z Ω C H locs cells slots Sl hH hS hc hs hL
  have h1 := hL.2.2.1 _ _ hl
  have h2 := hk p l e R s m args below meth c Z Ω C H locs cells slots Sl hH hS hc hs hL
  rw [List.map_cons] at h2
  rcases pw_Vr Ω x with ⟨-, hv⟩ | ⟨-, a, hv⟩
  · rw [hv] at h1 h2
    exact lv_aloadN C.1 C.2.1 hd h1 h2
  · rw [hv] at h1 h2
    exact lv_aload C.1 C.2.1 hd h1 h2
theorem pw_x_istore_n {k : Fin 4} {x : Int32} (hd : decode M.2.1 pc = .ok (.istore_n k, 1)) (hn : k.val < M.2.2.1) (hk : pw_J M Q (pc + 1) (ls.set k.val (some (.inl x))) st h bc bs) : pw_J M Q pc ls (.inl x :: st) h bc bs := by
  intro p l e R s m args below meth c Z Ω C H locs cells slots Sl hH hS hc hs hL
  exact lv_istore_n C.1 C.2.1 hd rfl (pw_L_has hL) hn rfl (fun Sl' hl' => hk p l e R s m args below meth c Z Ω C H locs cells slots Sl' hH hS hc hs (pw_L_set hL hn hl'))
theorem pw_x_istore {k : Nat} {x : Int32} (hd : decode M.2.1 pc = .ok (.istore k, 2)) (hn : k < M.2.2.1) (hk : pw_J M Q (pc + 2) (ls.set k (some (.inl x))) st h bc bs) : pw_J M Q pc ls (.inl x :: st) h bc bs := by
  intro p l e R s m args below meth c Z Ω C H locs cells slots Sl hH hS hc hs hL
  exact lv_istore C.1 C.2.1 hd (pw_L_has hL) hn rfl (fun Sl' hl' => hk p l e R s m args below meth c Z Ω C H locs cells slots Sl' hH hS hc hs (pw_L_set hL hn hl'))
theorem pw_x_astore_n {k : Fin 4} {x : Nat} (hd : decode M.2.1 pc = .ok (.astore_n k, 1)) (hn : k.val < M.2.2.1) (hk : pw_J M Q (pc + 1) (ls.set k.val (some (.inr x))) st h bc bs) : pw_J M Q pc ls (.inr x :: st) h bc bs := by
  intro p l e R s m args below meth c Z Ω C H locs cells slots Sl hH hS hc hs hL
  have key := fun Sl' hl' => hk p l e R s m args below meth c Z Ω C H locs cells slots Sl' hH hS hc hs (pw_L_set (v := .inr x) hL hn hl')
  rw [List.map_cons]
  rcases pw_Vr Ω x with ⟨-, hv⟩ | ⟨-, a, hv⟩
  · rw [hv] at key ⊢
    exact lv_astore_nN C.1 C.2.1 hd rfl (pw_L_has hL) hn rfl key
  · rw [hv] at key ⊢
    exact lv_astore_n C.1 C.2.1 hd rfl (pw_L_has hL) hn rfl key
theorem pw_x_astore {k : Nat} {x : Nat} (hd : decode M.2.1 pc = .ok (.astore k, 2)) (hn : k < M.2.2.1) (hk : pw_J M Q (pc + 2) (ls.set k (some (.inr x))) st h bc bs) : pw_J M Q pc ls (.inr x :: st) h bc bs := by
  intro p l e R s m args below meth c Z Ω C H locs cells slots Sl hH hS hc hs hL
  have key := fun Sl' hl' => hk p l e R s m args below meth c Z Ω C H locs cells slots Sl' hH hS hc hs (pw_L_set (v := .inr x) hL hn hl')
  rw [List.map_cons]
  rcases pw_Vr Ω x with ⟨-, hv⟩ | ⟨-, a, hv⟩
  · rw [hv] at key ⊢
    exact lv_astoreN C.1 C.2.1 hd (pw_L_has hL) hn rfl key
  · rw [hv] at key ⊢
    exact lv_astore C.1 C.2.1 hd (pw_L_has hL) hn rfl key
theorem pw_x_iinc {k : Nat} {n : Int} {x v : Int32} (hd : decode M.2.1 pc = .ok (.iinc k n, 3)) (hl : pw_nth k ls = some (.inl x)) (hn : k < M.2.2.1) (hv : Int32.ofInt n = v) (hk : pw_J M Q (pc + 3) (ls.set k (some (.inl (x + v)))) st h bc bs) : pw_J M Q pc ls st h bc bs := by
  intro p l e R s m args below meth c Z Ω C H locs cells slots Sl hH hS hc hs hL
  subst hv
  obtain ⟨i, hi⟩ := List.getElem?_of_mem (pw_lv_in (Ω := Ω) hl)
  exact lv_iinc C.1 C.2.1 hd (pw_L_has hL) hi rfl hn rfl (fun Sl' hl' => hk p l e R s m args below meth c Z Ω C H locs cells slots Sl' hH hS hc hs (pw_L_set (v := .inl (x + Int32.ofInt n)) hL hn hl'))
theorem pw_x_iconst {n : Int} {v : Int32} (hd : decode M.2.1 pc = .ok (.iconst n, 1)) (hv : Int32.ofInt n = v) (hk : pw_J M Q (pc + 1) ls (.inl v :: st) h bc bs) : pw_J M Q pc ls st h bc bs := by
  intro p l e R s m args below meth c Z Ω C H locs cells slots Sl hH hS hc hs hL
  exact lv_iconst C.1 C.2.1 hd hv (hk p l e R s m args below meth c Z Ω C H locs cells slots Sl hH hS hc hs hL)
theorem pw_x_bipush {n : Int} {v : Int32} (hd : decode M.2.1 pc = .ok (.bipush n, 2)) (hv : (Int8.ofInt n).toInt32 = v) (hk : pw_J M Q (pc + 2) ls (.inl v :: st) h bc bs) : pw_J M Q pc ls st h bc bs := by
  intro p l e R s m args below meth c Z Ω C H locs cells slots Sl hH hS hc hs hL
  exact lv_bipush C.1 C.2.1 hd hv (hk p l e R s m args below meth c Z Ω C H locs cells slots Sl hH hS hc hs hL)
theorem pw_x_sipush {n : Int} {v : Int32} (hd : decode M.2.1 pc = .ok (.sipush n, 3)) (hv : (Int16.ofInt n).toInt32 = v) (hk : pw_J M Q (pc + 3) ls (.inl v :: st) h bc bs) : pw_J M Q pc ls st h bc bs := by
  intro p l e R s m args below meth c Z Ω C H locs cells slots Sl hH hS hc hs hL
  exact lv_sipush C.1 C.2.1 hd hv (hk p l e R s m args below meth c Z Ω C H locs cells slots Sl hH hS hc hs hL)
theorem pw_x_null (hd : decode M.2.1 pc = .ok (.aconst_null, 1)) (hk : pw_J M Q (pc + 1) ls (.inr 0 :: st) h bc bs) : pw_J M Q pc ls st h bc bs := by
  intro p l e R s m args below meth c Z Ω C H locs cells slots Sl hH hS hc hs hL
  exact lv_null C.1 C.2.1 hd (hk p l e R s m args below meth c Z Ω C H locs cells slots Sl hH hS hc hs hL)
theorem pw_x_iadd {x y : Int32} (hd : decode M.2.1 pc = .ok (.iadd, 1)) (hk : pw_J M Q (pc + 1) ls (.inl (x + y) :: st) h bc bs) : pw_J M Q pc ls (.inl y :: .inl x :: st) h bc bs := by
  intro p l e R s m args below meth c Z Ω C H locs cells slots Sl hH hS hc hs hL
  exact lv_iadd C.1 C.2.1 hd (hk p l e R s m args below meth c Z Ω C H locs cells slots Sl hH hS hc hs hL)
theorem pw_x_isub {x y : Int32} (hd : decode M.2.1 pc = .ok (.isub, 1)) (hk : pw_J M Q (pc + 1) ls (.inl (x - y) :: st) h bc bs) : pw_J M Q pc ls (.inl y :: .inl x :: st) h bc bs := by
  intro p l e R s m args below meth c Z Ω C H locs cells slots Sl hH hS hc hs hL
  exact lv_isub C.1 C.2.1 hd (hk p l e R s m args below meth c Z Ω C H locs cells slots Sl hH hS hc hs hL)
theorem pw_x_imul {x y : Int32} (hd : decode M.2.1 pc = .ok (.imul, 1)) (hk : pw_J M Q (pc + 1) ls (.inl (x * y) :: st) h bc bs) : pw_J M Q pc ls (.inl y :: .inl x :: st) h bc bs := by
  intro p l e R s m args below meth c Z Ω C H locs cells slots Sl hH hS hc hs hL
  exact lv_imul C.1 C.2.1 hd (hk p l e R s m args below meth c Z Ω C H locs cells slots Sl hH hS hc hs hL)
theorem pw_x_iand {x y : Int32} (hd : decode M.2.1 pc = .ok (.iand, 1)) (hk : pw_J M Q (pc + 1) ls (.inl (x &&& y) :: st) h bc bs) : pw_J M Q pc ls (.inl y :: .inl x :: st) h bc bs := by
  intro p l e R s m args below meth c Z Ω C H locs cells slots Sl hH hS hc hs hL
  exact lv_iand C.1 C.2.1 hd (hk p l e R s m args below meth c Z Ω C H locs cells slots Sl hH hS hc hs hL)
theorem pw_x_idiv {x y : Int32} (hd : decode M.2.1 pc = .ok (.idiv, 1)) (h0 : ¬ y = 0) (hk : pw_J M Q (pc + 1) ls (.inl (x / y) :: st) h bc bs) : pw_J M Q pc ls (.inl y :: .inl x :: st) h bc bs := by
  intro p l e R s m args below meth c Z Ω C H locs cells slots Sl hH hS hc hs hL
  exact lv_idiv C.1 C.2.1 hd h0 (hk p l e R s m args below meth c Z Ω C H locs cells slots Sl hH hS hc hs hL)
theorem pw_x_irem {x y : Int32} (hd : decode M.2.1 pc = .ok (.irem, 1)) (h0 : ¬ y = 0) (hk : pw_J M Q (pc + 1) ls (.inl (x - x / y * y) :: st) h bc bs) : pw_J M Q pc ls (.inl y :: .inl x :: st) h bc bs := by
  intro p l e R s m args below meth c Z Ω C H locs cells slots Sl hH hS hc hs hL
  exact lv_irem C.1 C.2.1 hd h0 (hk p l e R s m args below meth c Z Ω C H locs cells slots Sl hH hS hc hs hL)
theorem pw_x_ineg {x : Int32} (hd : decode M.2.1 pc = .ok (.ineg, 1)) (hk : pw_J M Q (pc + 1) ls (.inl (-x) :: st) h bc bs) : pw_J M Q pc ls (.inl x :: st) h bc bs := by
  intro p l e R s m args below meth c Z Ω C H locs cells slots Sl hH hS hc hs hL
  exact lv_ineg C.1 C.2.1 hd (hk p l e R s m args below meth c Z Ω C H locs cells slots Sl hH hS hc hs hL)
theorem pw_x_dup {v : pw_A} (hd : decode M.2.1 pc = .ok (.dup, 1)) (hk : pw_J M Q (pc + 1) ls (v :: v :: st) h bc bs) : pw_J M Q pc ls (v :: st) h bc bs := by
  intro p l e R s m args below meth c Z Ω C H locs cells slots Sl hH hS hc hs hL
  exact lv_dup C.1 C.2.1 hd (pw_Vc Ω v) (hk p l e R s m args below meth c Z Ω C H locs cells slots Sl hH hS hc hs hL)
theorem pw_x_pop {v : pw_A} (hd : decode M.2.1 pc = .ok (.pop, 1)) (hk : pw_J M Q (pc + 1) ls st h bc bs) : pw_J M Q pc ls (v :: st) h bc bs := by
  intro p l e R s m args below meth c Z Ω C H locs cells slots Sl hH hS hc hs hL
  exact lv_pop C.1 C.2.1 hd (pw_Vc Ω v) (hk p l e R s m args below meth c Z Ω C H locs cells slots Sl hH hS hc hs hL)
theorem pw_x_dup2 {v w : pw_A} (hd : decode M.2.1 pc = .ok (.dup2, 1)) (hk : pw_J M Q (pc + 1) ls (v :: w :: v :: w :: st) h bc bs) : pw_J M Q pc ls (v :: w :: st) h bc bs := by
  intro p l e R s m args below meth c Z Ω C H locs cells slots Sl hH hS hc hs hL
  exact lv_dup2_11 C.1 C.2.1 hd (pw_Vc Ω v) (pw_Vc Ω w) (hk p l e R s m args below meth c Z Ω C H locs cells slots Sl hH hS hc hs hL)
theorem pw_x_icmp {cd : Jvm.ClassFile.Cond} {x y : Int32} {off : Int} {tgt : Nat} (hd : decode M.2.1 pc = .ok (.if_icmp cd off, 3)) (ht : (pc : Int) + off = (tgt : Int)) (hk : pw_cc cd x y (pw_J M Q tgt ls st h bc bs) (pw_J M Q (pc + 3) ls st h bc bs)) : pw_J M Q pc ls (.inl y :: .inl x :: st) h bc bs := by
  intro p l e R s m args below meth c Z Ω C H locs cells slots Sl hH hS hc hs hL
  cases cd with
  | eq => exact lv_icmp_eq C.1 C.2.1 hd ht (fun q => hk.1 q p l e R s m args below meth c Z Ω C H locs cells slots Sl hH hS hc hs hL) (fun q => hk.2 q p l e R s m args below meth c Z Ω C H locs cells slots Sl hH hS hc hs hL)
  | ne => exact lv_icmp_ne C.1 C.2.1 hd ht (fun q => hk.1 q p l e R s m args below meth c Z Ω C H locs cells slots Sl hH hS hc hs hL) (fun q => hk.2 q p l e R s m args below meth c Z Ω C H locs cells slots Sl hH hS hc hs hL)
  | lt => exact lv_icmp_lt C.1 C.2.1 hd ht (fun q => hk.1 q p l e R s m args below meth c Z Ω C H locs cells slots Sl hH hS hc hs hL) (fun q => hk.2 q p l e R s m args below meth c Z Ω C H locs cells slots Sl hH hS hc hs hL)
  | ge => exact lv_icmp_ge C.1 C.2.1 hd ht (fun q => hk.1 q p l e R s m args below meth c Z Ω C H locs cells slots Sl hH hS hc hs hL) (fun q => hk.2 q p l e R s m args below meth c Z Ω C H locs cells slots Sl hH hS hc hs hL)
  | gt => exact lv_icmp_gt C.1 C.2.1 hd ht (fun q => hk.1 q p l e R s m args below meth c Z Ω C H locs cells slots Sl hH hS hc hs hL) (fun q => hk.2 q p l e R s m args below meth c Z Ω C H locs cells slots Sl hH hS hc hs hL)
  | le => exact lv_icmp_le C.1 C.2.1 hd ht (fun q => hk.1 q p l e R s m args below meth c Z Ω C H locs cells slots Sl hH hS hc hs hL) (fun q => hk.2 q p l e R s m args below meth c Z Ω C H locs cells slots Sl hH hS hc hs hL)
theorem pw_x_if {cd : Jvm.ClassFile.Cond} {x : Int32} {off : Int} {tgt : Nat} (hd : decode M.2.1 pc = .ok (.ifCond cd off, 3)) (ht : (pc : Int) + off = (tgt : Int)) (hk : pw_cc cd x 0 (pw_J M Q tgt ls st h bc bs) (pw_J M Q (pc + 3) ls st h bc bs)) : pw_J M Q pc ls (.inl x :: st) h bc bs := by
  intro p l e R s m args below meth c Z Ω C H locs cells slots Sl hH hS hc hs hL
  cases cd with
  | eq => exact lv_if_eq C.1 C.2.1 hd ht (fun q => hk.1 q p l e R s m args below meth c Z Ω C H locs cells slots Sl hH hS hc hs hL) (fun q => hk.2 q p l e R s m args below meth c Z Ω C H locs cells slots Sl hH hS hc hs hL)
  | ne => exact lv_if_ne C.1 C.2.1 hd ht (fun q => hk.1 q p l e R s m args below meth c Z Ω C H locs cells slots Sl hH hS hc hs hL) (fun q => hk.2 q p l e R s m args below meth c Z Ω C H locs cells slots Sl hH hS hc hs hL)
  | lt => exact lv_if_lt C.1 C.2.1 hd ht (fun q => hk.1 q p l e R s m args below meth c Z Ω C H locs cells slots Sl hH hS hc hs hL) (fun q => hk.2 q p l e R s m args below meth c Z Ω C H locs cells slots Sl hH hS hc hs hL)
  | ge => exact lv_if_ge C.1 C.2.1 hd ht (fun q => hk.1 q p l e R s m args below meth c Z Ω C H locs cells slots Sl hH hS hc hs hL) (fun q => hk.2 q p l e R s m args below meth c Z Ω C H locs cells slots Sl hH hS hc hs hL)
  | gt => exact lv_if_gt C.1 C.2.1 hd ht (fun q => hk.1 q p l e R s m args below meth c Z Ω C H locs cells slots Sl hH hS hc hs hL) (fun q => hk.2 q p l e R s m args below meth c Z Ω C H locs cells slots Sl hH hS hc hs hL)
  | le => exact lv_if_le C.1 C.2.1 hd ht (fun q => hk.1 q p l e R s m args below meth c Z Ω C H locs cells slots Sl hH hS hc hs hL) (fun q => hk.2 q p l e R s m args below meth c Z Ω C H locs cells slots Sl hH hS hc hs hL)
theorem pw_x_ifnull {n : Nat} {off : Int} {tgt : Nat} (hd : decode M.2.1 pc = .ok (.ifnull off, 3)) (ht : (pc : Int) + off = (tgt : Int)) (hk : (n = 0 → pw_J M Q tgt ls st h bc bs) ∧ (¬ n = 0 → pw_J M Q (pc + 3) ls st h bc bs)) : pw_J M Q pc ls (.inr n :: st) h bc bs := by
  intro p l e R s m args below meth c Z Ω C H locs cells slots Sl hH hS hc hs hL
  rw [List.map_cons]
  rcases pw_Vr Ω n with ⟨h0, hv⟩ | ⟨h0, a, hv⟩
  · rw [hv]
    exact lv_ifnullN C.1 C.2.1 hd ht (hk.1 h0 p l e R s m args below meth c Z Ω C H locs cells slots Sl hH hS hc hs hL)
  · rw [hv]
    exact lv_ifnull C.1 C.2.1 hd (hk.2 h0 p l e R s m args below meth c Z Ω C H locs cells slots Sl hH hS hc hs hL)
theorem pw_x_ifnonnull {n : Nat} {off : Int} {tgt : Nat} (hd : decode M.2.1 pc = .ok (.ifnonnull off, 3)) (ht : (pc : Int) + off = (tgt : Int)) (hk : (¬ n = 0 → pw_J M Q tgt ls st h bc bs) ∧ (n = 0 → pw_J M Q (pc + 3) ls st h bc bs)) : pw_J M Q pc ls (.inr n :: st) h bc bs := by
  intro p l e R s m args below meth c Z Ω C H locs cells slots Sl hH hS hc hs hL
  rw [List.map_cons]
  rcases pw_Vr Ω n with ⟨h0, hv⟩ | ⟨h0, a, hv⟩
  · rw [hv]
    exact lv_ifnonnullN C.1 C.2.1 hd (hk.2 h0 p l e R s m args below meth c Z Ω C H locs cells slots Sl hH hS hc hs hL)
  · rw [hv]
    exact lv_ifnonnull C.1 C.2.1 hd ht (hk.1 h0 p l e R s m args below meth c Z Ω C H locs cells slots Sl hH hS hc hs hL)
theorem pw_x_goto {off : Int} {tgt : Nat} (hd : decode M.2.1 pc = .ok (.goto off, 3)) (ht : (pc : Int) + off = (tgt : Int)) (hk : pw_J M Q tgt ls st h bc bs) : pw_J M Q pc ls st h bc bs := by
  intro p l e R s m args below meth c Z Ω C H locs cells slots Sl hH hS hc hs hL
  exact lv_goto C.1 C.2.1 hd ht (hk p l e R s m args below meth c Z Ω C H locs cells slots Sl hH hS hc hs hL)
theorem pw_x_iret {v : Int32} (hd : decode M.2.1 pc = .ok (.ireturn, 1)) (hr : pw_rv M v) (hk : Q (some (.inl v)) h) : pw_J M Q pc ls [.inl v] h bc bs := by
  intro p l e R s m args below meth c Z Ω C H locs cells slots Sl hH hS hc hs hL
  exact W.widen (by omega) (by omega) ((C.2.2.2.2.2.2.2.2.2 H locs Sl pc h hS hH).1 v hd hr hk)
theorem pw_x_aret {v : Nat} (hd : decode M.2.1 pc = .ok (.areturn, 1)) (hr : ∃ C, M.2.2.2.1 = some (.object C)) (hk : Q (some (.inr v)) h) : pw_J M Q pc ls [.inr v] h bc bs := by
  intro p l e R s m args below meth c Z Ω C H locs cells slots Sl hH hS hc hs hL
  exact W.widen (by omega) (by omega) ((C.2.2.2.2.2.2.2.2.2 H locs Sl pc h hS hH).2.1 v hd hr hk)
theorem pw_x_vret (hd : decode M.2.1 pc = .ok (.return_, 1)) (hr : M.2.2.2.1 = none) (hk : Q none h) : pw_J M Q pc ls [] h bc bs := by
  intro p l e R s m args below meth c Z Ω C H locs cells slots Sl hH hS hc hs hL
  exact W.widen (by omega) (by omega) ((C.2.2.2.2.2.2.2.2.2 H locs Sl pc h hS hH).2.2 hd hr hk)
end PWX
end
section
/-! The rows for cells. -/
set_option maxRecDepth 100000 in
theorem pw_clok0 : (∀ w ∈ u_ws pw_R0 pw_T0 12, w ∈ pw_tb) ∧ (∀ k, k < 12 → parseFieldDescriptor (pw_T0 k).2.2.1 = some (pw_fty 0 k)) ∧ (∀ a, a < 12 → ∀ b, b < 12 → a ≠ b → (pw_T0 a).2.1 ≠ (pw_T0 b).2.1) ∧ (∀ k, k < 12 → (pw_T0 k).1 = pw_R0) := ⟨by decide +kernel, by decide +kernel, by decide +kernel, by decide +kernel⟩
set_option maxRecDepth 100000 in
theorem pw_clok1 : (∀ w ∈ u_ws pw_R1 pw_T1 16, w ∈ pw_tb) ∧ (∀ k, k < 16 → parseFieldDescriptor (pw_T1 k).2.2.1 = some (pw_fty 1 k)) ∧ (∀ a, a < 16 → ∀ b, b < 16 → a ≠ b → (pw_T1 a).2.1 ≠ (pw_T1 b).2.1) ∧ (∀ k, k < 16 → (pw_T1 k).1 = pw_R1) := ⟨by decide +kernel, by decide +kernel, by decide +kernel, by decide +kernel⟩
set_option maxRecDepth 100000 in
theorem pw_clok2 : (∀ w ∈ u_ws pw_R2 pw_T2 2, w ∈ pw_tb) ∧ (∀ k, k < 2 → parseFieldDescriptor (pw_T2 k).2.2.1 = some (pw_fty 2 k)) ∧ (∀ a, a < 2 → ∀ b, b < 2 → a ≠ b → (pw_T2 a).2.1 ≠ (pw_T2 b).2.1) ∧ (∀ k, k < 2 → (pw_T2 k).1 = pw_R2) := ⟨by decide +kernel, by decide +kernel, by decide +kernel, by decide +kernel⟩
set_option maxRecDepth 100000 in
theorem pw_clok3 : (∀ w ∈ u_ws pw_R3 pw_T3 8, w ∈ pw_tb) ∧ (∀ k, k < 8 → parseFieldDescriptor (pw_T3 k).2.2.1 = some (pw_fty 3 k)) ∧ (∀ a, a < 8 → ∀ b, b < 8 → a ≠ b → (pw_T3 a).2.1 ≠ (pw_T3 b).2.1) ∧ (∀ k, k < 8 → (pw_T3 k).1 = pw_R3) := ⟨by decide +kernel, by decide +kernel, by decide +kernel, by decide +kernel⟩
set_option maxRecDepth 100000 in
theorem pw_clok4 : (∀ w ∈ u_ws pw_R4 pw_T4 30, w ∈ pw_tb) ∧ (∀ k, k < 30 → parseFieldDescriptor (pw_T4 k).2.2.1 = some (pw_fty 4 k)) ∧ (∀ a, a < 30 → ∀ b, b < 30 → a ≠ b → (pw_T4 a).2.1 ≠ (pw_T4 b).2.1) ∧ (∀ k, k < 30 → (pw_T4 k).1 = pw_R4) := ⟨by decide +kernel, by decide +kernel, by decide +kernel, by decide +kernel⟩
theorem pw_clok (ci : Nat) (r : vw_C) (hc : pw_cl[ci]? = some r) : (∀ w ∈ u_ws r.1 r.2.1 r.2.2, w ∈ pw_tb) ∧ (∀ k, k < r.2.2 → parseFieldDescriptor (r.2.1 k).2.2.1 = some (pw_fty ci k)) ∧ (∀ a, a < r.2.2 → ∀ b, b < r.2.2 → a ≠ b → (r.2.1 a).2.1 ≠ (r.2.1 b).2.1) ∧ (∀ k, k < r.2.2 → (r.2.1 k).1 = r.1) := by
  match ci, hc with
  | 0, hc => cases hc; exact pw_clok0
  | 1, hc => cases hc; exact pw_clok1
  | 2, hc => cases hc; exact pw_clok2
  | 3, hc => cases hc; exact pw_clok3
  | 4, hc => cases hc; exact pw_clok4
  | n + 5, hc => simp [pw_cl] at hc
theorem pw_good : ∀ w ∈ pw_tb, w ∈ lw_tbl ∧ ((w.onTables && w.keeps) = true ∨ ∃ ty, w = .arrayClass ty) := fun w hw => ⟨(List.mem_filter.mp hw).1, good_of_word (List.mem_filter.mp hw).2⟩
/-- heaps that differ in one cell -/
theorem pw_H_upd {Ω : pw_O} {s : State} {h h' : pw_Hp} {H H' : Heap} {n : Nat} (hH : pw_H Ω s h H) (h2 : 2 ≤ n) (e1 : h'.1 = h.1) (e2 : h'.2.1 = h.2.1) (e3 : ∀ a, a ≠ n → ∀ j, pw_i h' a j = pw_i h a j) (e4 : ∀ a, a ≠ n → ∀ j, pw_r h' a j = pw_r h a j)
    (z : H'.size = H.size) (oq : ∀ q : Nat, q ≠ Ω.2.2.1 + (n - 2) → H'[q]? = H[q]?) (hc : pw_cell Ω h' n H') : pw_H Ω s h' H' := by
  obtain ⟨a1, a2, a3, a4⟩ := hH
  have hk : ∀ a, pw_k h' a = pw_k h a := fun a => by unfold pw_k; rw [e2]
  have hn : ∀ a, pw_n h' a = pw_n h a := fun a => by unfold pw_n; rw [e2]
  refine ⟨by rw [z, e1]; exact a1, fun a ha => ?_, fun a ha => ?_, fun h5 => ?_⟩
  · rw [hk] at ha ⊢
    rw [e1]
    exact a2 a ha
  · by_cases han : a = n
    · rw [han]; exact hc
    · have hq : H'[Ω.2.2.1 + (a - 2)]? = H[Ω.2.2.1 + (a - 2)]? := oq _ (by omega)
      have hi : pw_i h' a = pw_i h a := funext (e3 a han)
      have hr : pw_r h' a = pw_r h a := funext (e4 a han)
      have hfv : ∀ ci, pw_fv Ω h' ci a = pw_fv Ω h ci a := fun ci => funext fun k => by unfold pw_fv; rw [hi, hr]
      obtain ⟨c1, c2, c3⟩ := a3 a ha
      refine ⟨fun hq1 => ?_, fun hq1 => ?_, fun ci hq1 => ?_⟩
      · rw [hq, hk, hn, hi]
        exact c1 (by rw [← hk]; exact hq1)
      · rw [hq, hk, hn, hr]
        exact c2 (by rw [← hk]; exact hq1)
      · obtain ⟨r, g1, g2⟩ := c3 ci (by rw [← hk]; exact hq1)
        rw [hfv]
        exact ⟨r, g1, g2.kept hq⟩
  · rw [hk] at h5
    obtain ⟨x1, x2⟩ := a4 h5
    rw [hn, show pw_i h' 1 = pw_i h 1 from funext (e3 1 (by omega))]
    exact ⟨x1.kept (oq _ (by omega)), x2⟩
theorem pw_wi_i (h : pw_Hp) (n k : Nat) (x : Int32) (a j : Nat) : pw_i (pw_wi h n k x) a j = if a = n ∧ j = k then x else pw_i h a j := rfl
theorem pw_wi_r (h : pw_Hp) (n k : Nat) (x : Int32) (a j : Nat) : pw_r (pw_wi h n k x) a j = pw_r h a j := rfl
theorem pw_wi_k (h : pw_Hp) (n k : Nat) (x : Int32) (a : Nat) : pw_k (pw_wi h n k x) a = pw_k h a := rfl
theorem pw_wi_n (h : pw_Hp) (n k : Nat) (x : Int32) (a : Nat) : pw_n (pw_wi h n k x) a = pw_n h a := rfl
theorem pw_wr_i (h : pw_Hp) (n k : Nat) (x : Nat) (a j : Nat) : pw_i (pw_wr h n k x) a j = pw_i h a j := rfl
theorem pw_wr_r (h : pw_Hp) (n k : Nat) (x : Nat) (a j : Nat) : pw_r (pw_wr h n k x) a j = if a = n ∧ j = k then x else pw_r h a j := rfl
theorem pw_wr_k (h : pw_Hp) (n k : Nat) (x : Nat) (a : Nat) : pw_k (pw_wr h n k x) a = pw_k h a := rfl
theorem pw_wr_n (h : pw_Hp) (n k : Nat) (x : Nat) (a : Nat) : pw_n (pw_wr h n k x) a = pw_n h a := rfl
theorem pw_nw_k (h : pw_Hp) (kd len a : Nat) : pw_k (pw_nw h kd len) a = if a = h.1 + 2 then kd else pw_k h a := by
  unfold pw_k pw_nw
  by_cases q : a = h.1 + 2 <;> simp [q]
theorem pw_nw_n (h : pw_Hp) (kd len a : Nat) : pw_n (pw_nw h kd len) a = if a = h.1 + 2 then len else pw_n h a := by
  unfold pw_n pw_nw
  by_cases q : a = h.1 + 2 <;> simp [q]
theorem pw_nw_i (h : pw_Hp) (kd len a j : Nat) : pw_i (pw_nw h kd len) a j = if a = h.1 + 2 then 0 else pw_i h a j := rfl
theorem pw_nw_r (h : pw_Hp) (kd len a j : Nat) : pw_r (pw_nw h kd len) a j = if a = h.1 + 2 then 0 else pw_r h a j := rfl
theorem pw_nw_1 (h : pw_Hp) (kd len : Nat) : (pw_nw h kd len).1 = h.1 + 1 := rfl
/-- a new cell -/
theorem pw_H_new {Ω : pw_O} {s : State} {h : pw_Hp} {H H' : Heap} {kd len : Nat} (hH : pw_H Ω s h H) (h0 : kd ≠ 0) (h5 : kd ≠ 5) (z : H'.size = H.size + 1) (oq : ∀ q : Nat, q < H.size → H'[q]? = H[q]?) (hc : pw_cell Ω (pw_nw h kd len) (h.1 + 2) H') : pw_H Ω s (pw_nw h kd len) H' := by
  obtain ⟨a1, a2, a3, a4⟩ := hH
  refine ⟨by rw [z, a1, pw_nw_1]; omega, fun a ha => ?_, fun a ha => ?_, fun q5 => ?_⟩
  · rw [pw_nw_k] at ha ⊢
    rw [pw_nw_1]
    by_cases q : a = h.1 + 2
    · rw [if_pos q]
      exact Or.inr ⟨by omega, by omega, h5⟩
    · rw [if_neg q] at ha ⊢
      rcases a2 a ha with g | ⟨g1, g2, g3⟩
      · exact Or.inl g
      · exact Or.inr ⟨g1, by omega, g3⟩
  · by_cases q : a = h.1 + 2
    · rw [q]; exact hc
    · have hk : pw_k (pw_nw h kd len) a = pw_k h a := by rw [pw_nw_k, if_neg q]
      have hn : pw_n (pw_nw h kd len) a = pw_n h a := by rw [pw_nw_n, if_neg q]
      have hi : pw_i (pw_nw h kd len) a = pw_i h a := funext fun j => by rw [pw_nw_i, if_neg q]
      have hr : pw_r (pw_nw h kd len) a = pw_r h a := funext fun j => by rw [pw_nw_r, if_neg q]
      have hfv : ∀ ci, pw_fv Ω (pw_nw h kd len) ci a = pw_fv Ω h ci a := fun ci => funext fun k => by unfold pw_fv; rw [hi, hr]
      have hlt : pw_k h a ≠ 0 → H'[Ω.2.2.1 + (a - 2)]? = H[Ω.2.2.1 + (a - 2)]? := fun hz => by
        rcases a2 a hz with ⟨g, -⟩ | ⟨g1, g2, g3⟩
        · omega
        · exact oq _ (by omega)
      obtain ⟨c1, c2, c3⟩ := a3 a ha
      refine ⟨fun hq1 => ?_, fun hq1 => ?_, fun ci hq1 => ?_⟩
      · rw [hk] at hq1
        rw [hlt (by omega), hk, hn, hi]
        exact c1 hq1
      · rw [hk] at hq1
        rw [hlt (by omega), hk, hn, hr]
        exact c2 hq1
      · rw [hk] at hq1
        obtain ⟨r, g1, g2⟩ := c3 ci hq1
        rw [hfv]
        exact ⟨r, g1, g2.kept (hlt (by omega))⟩
  · rw [pw_nw_k, if_neg (by omega)] at q5
    obtain ⟨x1, x2⟩ := a4 q5
    rw [pw_nw_n, if_neg (by omega), show pw_i (pw_nw h kd len) 1 = pw_i h 1 from funext fun j => by rw [pw_nw_i, if_neg (by omega)]]
    exact ⟨x1.kept (oq _ (by omega)), x2⟩
def pw_flk (own : String) (idx : Nat) (r : vw_C) (k : Nat) : Prop := Cond.fieldLink own idx r.1 (r.2.1 k).2.1 (r.2.1 k).2.2.1 ∈ pw_tb ∨ ∃ host, Cond.fieldLinkNest own idx r.1 (r.2.1 k).2.1 (r.2.1 k).2.2.1 host ∈ pw_nl
section PWY
variable {M : pw_M} {Q : Option pw_A → pw_Hp → Prop} {pc : Nat} {ls : pw_Ls} {st : List pw_A} {h : pw_Hp} {bc bs : Nat}
theorem pw_x_get {idx n ci k : Nat} {r : vw_C} {v : pw_A} (hd : decode M.2.1 pc = .ok (.getfield idx, 3)) (hc : pw_cl[ci]? = some r) (hk : k < r.2.2) (hl : pw_flk M.1.cls idx r k) (hkd : pw_k h n = 10 + ci) (hv : ∀ Ω, pw_fv Ω h ci n k = pw_V Ω v) (kk : pw_J M Q (pc + 3) ls (v :: st) h bc bs) : pw_J M Q pc ls (.inr n :: st) h bc bs := by
  intro p l e R s m args below meth c Z Ω C H locs cells slots Sl hH hS hc' hs hL
  have k2 := kk p l e R s m args below meth c Z Ω C H locs cells slots Sl hH hS hc' hs hL
  obtain ⟨hx, hb, hml, hown, hts, ⟨hK, hN⟩, -⟩ := C
  obtain ⟨n2, nl, hV⟩ := pw_kin hH (n := n) (by omega) (by omega)
  rw [List.map_cons, hV]
  rw [List.map_cons, ← hv] at k2
  obtain ⟨c1, c2, c3, c4⟩ := pw_clok ci r hc
  obtain ⟨r', hr', cell, q1, q2, q3, q4⟩ := (hH.2.2.1 n n2).2.2 ci hkd
  cases hr'.symm.trans hc
  obtain ⟨hSl, hfc, kC, hkC, hkind⟩ := hK.1 ci r hc
  obtain ⟨cf, kf, fi, f, hi, hsl⟩ := hSl k hk
  have hst := (u_facts hfc hkC (u_lays hts c1 hk) hi).1
  have hslot : cell.slots[f.slot]? = some (pw_fv Ω h ci n k) := by rw [hsl]; exact q4 k hk
  rw [c4 k hk] at hi
  rcases hl with hl | ⟨host, hl⟩
  · exact W.getf hx hb hown (hts _ hl) hi hst q1 (by rw [q3]; exact fun h => by cases h) hslot rfl rfl hd k2
  · exact va_Wgetf hx hb hown (va_Nw.use rfl (hN _ hl)) hi hst q1 (by rw [q3]; exact fun h => by cases h) hslot rfl rfl hd k2
theorem pw_x_put {idx n ci k : Nat} {r : vw_C} {v : pw_A} {h' : pw_Hp} (hd : decode M.2.1 pc = .ok (.putfield idx, 3)) (hc : pw_cl[ci]? = some r) (hk : k < r.2.2) (hl : pw_flk M.1.cls idx r k) (hfin : (r.2.1 k).2.2.2 = false ∨ (M.1.name = "<init>" ∧ M.1.cls = r.1 ∧ Cond.fieldLink M.1.cls idx r.1 (r.2.1 k).2.1 (r.2.1 k).2.2.1 ∈ pw_tb)) (hkd : pw_k h n = 10 + ci)
    (hn : ∀ Ω, narrow (pw_fty ci k) (pw_V Ω v) = pw_V Ω v ∧ fits (pw_fty ci k) (pw_V Ω v) = true) (e1 : h'.1 = h.1) (e2 : h'.2.1 = h.2.1) (e3 : ∀ a, a ≠ n → ∀ j, pw_i h' a j = pw_i h a j) (e4 : ∀ a, a ≠ n → ∀ j, pw_r h' a j = pw_r h a j) (e5 : ∀ Ω j, updV (pw_fv Ω h ci n) k (pw_V Ω v) j = pw_fv Ω h' ci n j)
    (kk : pw_J M Q (pc + 3) ls st h' bc bs) : pw_J M Q pc ls (v :: .inr n :: st) h bc bs := by
  intro p l e R s m args below meth c Z Ω C H locs cells slots Sl hH hS hc' hs hL
  have k2 := fun H1 locs1 a b => kk p l e R s m args below meth c Z Ω C H1 locs1 cells slots Sl a b hc' hs hL
  obtain ⟨hx, hb, hml, hown, hts, ⟨hK, hN⟩, hnm, -⟩ := C
  obtain ⟨n2, nl, hV⟩ := pw_kin hH (n := n) (by omega) (by omega)
  rw [List.map_cons, List.map_cons, hV]
  obtain ⟨c1, c2, c3, c4⟩ := pw_clok ci r hc
  obtain ⟨r', hr', cell, q1, q2, q3, q4⟩ := (hH.2.2.1 n n2).2.2 ci hkd
  cases hr'.symm.trans hc
  have hap := va_apart (own := M.1.cls) hts c1 (pw_fty ci) c2 c3 hK hc
  obtain ⟨hSl, hfc, kC, hkC, hkind⟩ := hK.1 ci r hc
  obtain ⟨cf, kf, fi, f, hi, hsl⟩ := hSl k hk
  have hst := (u_facts hfc hkC (u_lays hts c1 hk) hi).1
  have hlay := hts _ (c1 _ (u_in_lay hk))
  unfold u_lay at hlay
  have done : ∀ H' : Heap, H'[Ω.2.2.1 + (n - 2)]? = some (cell.setSlot f.slot (pw_V Ω v)) → H'.size = H.size → (∀ q, q ≠ Ω.2.2.1 + (n - 2) → H'[q]? = H[q]?) → W p l e R s m args below meth c H' (locs ++ [⟨Ω.2.2.1 + (n - 2), f.slot⟩]) cells slots Z (F0 m (pc + 3) Sl (st.map (pw_V Ω))) := by
    intro H' g1 g2 g3
    refine k2 H' _ (pw_H_upd hH n2 e1 e2 e3 e4 g2 g3 ?_) (hS.put g2 g3 (Nat.le_add_right _ _))
    have hk' : pw_k h' n = 10 + ci := by unfold pw_k at hkd ⊢; rw [e2]; exact hkd
    refine ⟨fun z => by omega, fun z => by omega, fun cj z => ?_⟩
    have : cj = ci := by omega
    subst this
    rw [hsl] at g1
    exact ⟨r, hc, t_OB.to ⟨_, g1, q2, q3, t_set q4 hap hk _⟩ (fun j _ => e5 Ω j)⟩
  by_cases hf : (r.2.1 k).2.2.2 = false
  · rw [if_neg (by rw [hf]; decide)] at hlay
    have h6 := u_store hfc hkC hkind hlay hi (c2 k hk) (hn Ω).1 (hn Ω).2
    rw [c4 k hk] at hi
    rcases hl with hl | ⟨host, hl⟩
    · exact W.putK hx hb (f := f) ⟨hown, hts _ hl, ⟨_, _, _, hi⟩, hst⟩ (by rw [q2]; exact h6) q1 q3 (by rw [hsl]; exact k2_hasslot (q4 k hk)) rfl rfl hd done
    · exact va_WputK hx hb (f := f) hown (va_Nw.use rfl (hN _ hl)) hi hst (by rw [q2]; exact h6) q1 q3 (by rw [hsl]; exact k2_hasslot (q4 k hk)) rfl rfl hd done
  · rcases hfin with hfin | ⟨g1, g2, g3⟩
    · exact absurd hfin hf
    · rw [if_pos (by simpa using hf)] at hlay
      have hcf : m.cls = cf := by
        obtain ⟨_, _, c', _, _, _, -, -, hf', -, -, -, hown2, -⟩ := Cond.laysFinal_spec hlay
        have w1 : c' = cf := by have := hi.symm.trans hf'; simp at this; exact this.1.symm
        rw [c4 k hk, ← g2] at hown2
        rw [← w1]; exact Option.some.inj (hown.symm.trans hown2)
      have h6 := u_fits hfc hkC hkind (Or.inr hlay) hi (c2 k hk) (hn Ω).1 (hn Ω).2
      rw [c4 k hk] at hi
      exact W.putFinK hx hb hown (hts _ g3) hi hst hcf (hnm.trans g1) (by rw [q2]; exact h6) q1 q3 (by rw [hsl]; exact k2_hasslot (q4 k hk)) rfl rfl hd done
end PWY
end
section
/-! The rows for arrays, new cells, switches, calls. -/
theorem pw_at_in {i : Int32} {n N : Nat} (h : pw_at i n) (e : N = n) : ¬ (i < 0 ∨ N ≤ i.toNatClampNeg) := fun q => q.elim h.1 (fun z => by have := h.2; omega)
theorem pw_nar01 {x : Int32} (h : x = 0 ∨ x = 1) : narrow .boolean (.int x) = .int x ∧ fits .boolean (.int x) = true := by
  rcases h with rfl | rfl <;> exact ⟨by decide, by decide⟩
theorem pw_arr {Ω : pw_O} {s : State} (hK : pw_Kn Ω s) (kd : Nat) (h : kd = 1 ∨ kd = 2 ∨ kd = 3 ∨ kd = 4) : ArrOfT s (Ω.2.1 kd) (pw_aty kd) ∧ va_RA s (Ω.2.1 kd) (pw_aty kd) := by
  rcases h with rfl | rfl | rfl | rfl
  · exact hK.1.2 1 _ rfl
  · exact hK.1.2 2 _ rfl
  · exact hK.1.2 3 _ rfl
  · exact hK.1.2 4 _ rfl
theorem pw_dfl (ci : Nat) (r : vw_C) (hc : pw_cl[ci]? = some r) : ∀ k, k < r.2.2 → defaultValue (pw_fty ci k) = if pw_rf ci k = true then .null else .int 0 := by
  match ci, hc with
  | 0, hc => cases hc; decide +kernel
  | 1, hc => cases hc; decide +kernel
  | 2, hc => cases hc; decide +kernel
  | 3, hc => cases hc; decide +kernel
  | 4, hc => cases hc; decide +kernel
  | n + 5, hc => simp [pw_cl] at hc
theorem pw_Kn_moved {Ω : pw_O} {s U : State} (hW : s.WarmedH U.vm) (h : pw_Kn Ω s) : pw_Kn Ω U := by
  refine ⟨va_K.moved hW.alike h.1, fun w hw => ?_⟩
  have h1 := (List.mem_filter.mp hw).2
  have h2 := h.2 w hw
  cases w with
  | fieldLinkNest a i b n d k => exact va_Nw.warmF hW h2
  | methodLinkNest a i x k => exact va_Nw.warmM hW h2
  | _ => exact absurd h1 (by simp [pw_isN])
theorem pw_Kn_same {Ω : pw_O} {s U : State} (hv : s.vm = U.vm) (h : pw_Kn Ω s) : pw_Kn Ω U := by
  refine ⟨va_K.moved (by rw [← hv]; exact Vm.Alike.refl _) h.1, fun w hw => ?_⟩
  have h1 := (List.mem_filter.mp hw).2
  have h2 := h.2 w hw
  cases w with
  | fieldLinkNest a i b n d k => exact va_Nw.same rfl hv h2
  | methodLinkNest a i x k => exact va_Nw.same rfl hv h2
  | _ => exact absurd h1 (by simp [pw_isN])
theorem pw_H_moved {Ω : pw_O} {s U : State} {h : pw_Hp} {H : Heap} (hvm : s.vm.Alike U.vm) (hH : pw_H Ω s h H) : pw_H Ω U h H := ⟨hH.1, hH.2.1, hH.2.2.1, fun h5 => ⟨va_X.moved hvm (hH.2.2.2 h5).1, (hH.2.2.2 h5).2⟩⟩
theorem pw_blind (Ω : pw_O) (as : List pw_A) (h : pw_Hp) : FrameBlind (pw_Pc Ω as h) := by
  intro a U g mk q
  obtain ⟨q1, q2, q3, q4⟩ := q
  exact ⟨q1, pw_Kn_same (s := U) (U := U.calling g mk a) rfl q2, q3, pw_H_moved (U := U.calling g mk a) (Vm.Alike.refl U.vm) q4⟩
/-- what a callee must be -/
def pw_jok (j n : Nat) : Prop := Cond.code (pw_md j).1 (pw_md j).2.1 (pw_md j).2.2.1 (pw_md j).2.2.2.1 ∈ pw_tb ∧ Cond.initialized (pw_md j).1.cls ∈ pw_tb ∧ ((pw_md j).1.cls ≠ "java/lang/invoke/MethodHandle" ∧ (pw_md j).1.cls ≠ "java/lang/invoke/VarHandle" ∧ (parseMethodDescriptor (pw_md j).1.desc).map (fun d => d.parameters.length) = some n) ∧ (pw_md j).2.2.1 ≤ 18
def pw_mlk (own : String) (idx : Nat) (y : MethodName) : Prop := Cond.methodLink own idx y ∈ pw_tb ∨ ∃ host, Cond.methodLinkNest own idx y host ∈ pw_nl
section PWZ
variable {M : pw_M} {Q : Option pw_A → pw_Hp → Prop} {pc : Nat} {ls : pw_Ls} {st : List pw_A} {h : pw_Hp} {bc bs : Nat}
theorem pw_x_iald {n : Nat} {i : Int32} (hd : decode M.2.1 pc = .ok (.iaload, 1)) (hkd : pw_k h n = 1 ∨ pw_k h n = 5) (ha : pw_at i (pw_n h n)) (kk : pw_J M Q (pc + 1) ls (.inl (pw_i h n i.toNatClampNeg) :: st) h bc bs) : pw_J M Q pc ls (.inl i :: .inr n :: st) h bc bs := by
  intro p l e R s m args below meth c Z Ω C H locs cells slots Sl hH hS hc hs hL
  have k2 := kk p l e R s m args below meth c Z Ω C H locs cells slots Sl hH hS hc hs hL
  rcases hkd with hkd | hkd
  · obtain ⟨n2, nl, hV⟩ := pw_kin hH (n := n) (by omega) (by omega)
    have hcell := (hH.2.2.1 n n2).1 (Or.inl hkd)
    rw [hkd] at hcell
    rw [List.map_cons, List.map_cons, hV]
    exact W.iald C.1 C.2.1 hcell ((pw_arr C.2.2.2.2.2.1 1 (by omega)).1 _ _) (fun q => by cases q) (pw_at_in ha (arrV_size _ _ _)) (arrV_read _ _ ha.2) rfl rfl hd k2
  · have hn : n = 1 := by
      rcases hH.2.1 n (by omega) with ⟨q, -⟩ | ⟨-, -, q⟩
      · exact q
      · exact absurd hkd q
    subst hn
    obtain ⟨⟨scr, x1, x2, x3, x4, x5⟩, -⟩ := hH.2.2.2 hkd
    exact W.iald C.1 C.2.1 x1 x2 x3 (pw_at_in ha x4) (x5 _ ha.2) rfl rfl hd k2
theorem pw_x_bald {n : Nat} {i : Int32} (hd : decode M.2.1 pc = .ok (.baload, 1)) (hkd : pw_k h n = 2) (ha : pw_at i (pw_n h n)) (kk : pw_J M Q (pc + 1) ls (.inl (pw_i h n i.toNatClampNeg) :: st) h bc bs) : pw_J M Q pc ls (.inl i :: .inr n :: st) h bc bs := by
  intro p l e R s m args below meth c Z Ω C H locs cells slots Sl hH hS hc hs hL
  have k2 := kk p l e R s m args below meth c Z Ω C H locs cells slots Sl hH hS hc hs hL
  obtain ⟨n2, nl, hV⟩ := pw_kin hH (n := n) (by omega) (by omega)
  have hcell := (hH.2.2.1 n n2).1 (Or.inr hkd)
  rw [hkd] at hcell
  rw [List.map_cons, List.map_cons, hV]
  exact W.zald C.1 C.2.1 hcell ((pw_arr C.2.2.2.2.2.1 2 (by omega)).1 _ _) (fun q => by cases q) (pw_at_in ha (arrV_size _ _ _)) (arrV_read _ _ ha.2) rfl rfl hd k2
theorem pw_x_aald {n : Nat} {i : Int32} (hd : decode M.2.1 pc = .ok (.aaload, 1)) (hkd : pw_k h n = 3 ∨ pw_k h n = 4) (ha : pw_at i (pw_n h n)) (kk : pw_J M Q (pc + 1) ls (.inr (pw_r h n i.toNatClampNeg) :: st) h bc bs) : pw_J M Q pc ls (.inl i :: .inr n :: st) h bc bs := by
  intro p l e R s m args below meth c Z Ω C H locs cells slots Sl hH hS hc hs hL
  have k2 := kk p l e R s m args below meth c Z Ω C H locs cells slots Sl hH hS hc hs hL
  obtain ⟨n2, nl, hV⟩ := pw_kin hH (n := n) (by omega) (by omega)
  have hcell := (hH.2.2.1 n n2).2.1 hkd
  rw [List.map_cons, List.map_cons, hV]
  refine W.aald C.1 C.2.1 hcell ((pw_arr C.2.2.2.2.2.1 (pw_k h n) (by omega)).1 _ _) ?_ (fun q => by cases q) (pw_at_in ha (arrV_size _ _ _)) (arrV_read _ _ ha.2) rfl rfl hd k2
  rcases hkd with q | q <;> rw [q] <;> rfl
theorem pw_x_iast {n : Nat} {i x : Int32} (hd : decode M.2.1 pc = .ok (.iastore, 1)) (hkd : pw_k h n = 1) (ha : pw_at i (pw_n h n)) (kk : pw_J M Q (pc + 1) ls st (pw_wi h n i.toNatClampNeg x) bc bs) : pw_J M Q pc ls (.inl x :: .inl i :: .inr n :: st) h bc bs := by
  intro p l e R s m args below meth c Z Ω C H locs cells slots Sl hH hS hc hs hL
  have k2 := fun H1 locs1 a b => kk p l e R s m args below meth c Z Ω C H1 locs1 cells slots Sl a b hc hs hL
  obtain ⟨n2, nl, hV⟩ := pw_kin hH (n := n) (by omega) (by omega)
  have hcell := (hH.2.2.1 n n2).1 (Or.inl hkd)
  rw [hkd] at hcell
  rw [List.map_cons, List.map_cons, List.map_cons, hV]
  refine W.iast C.1 C.2.1 hcell ((pw_arr C.2.2.2.2.2.1 1 (by omega)).1 _ _) (fun q => by cases q) (pw_at_in ha (arrV_size _ _ _)) rfl rfl hd fun H1 g1 g2 g3 => ?_
  refine k2 H1 _ (pw_H_upd hH n2 rfl rfl (fun a ha j => by rw [pw_wi_i, if_neg (fun q => ha q.1)]) (fun a _ j => rfl) g2 g3 ?_) (hS.put g2 g3 (Nat.le_add_right _ _))
  refine ⟨fun _ => ?_, fun z => ?_, fun ci z => ?_⟩
  · rw [g1, arrV_store, pw_wi_k, pw_wi_n, hkd]
    congr 2
    funext j
    rw [pw_wi_i]
    by_cases q : j = i.toNatClampNeg <;> simp [updV, q]
  · rw [pw_wi_k] at z; omega
  · rw [pw_wi_k] at z; omega
theorem pw_x_bast {n : Nat} {i x : Int32} (hd : decode M.2.1 pc = .ok (.bastore, 1)) (hkd : pw_k h n = 2) (ha : pw_at i (pw_n h n)) (h01 : x = 0 ∨ x = 1) (kk : pw_J M Q (pc + 1) ls st (pw_wi h n i.toNatClampNeg x) bc bs) : pw_J M Q pc ls (.inl x :: .inl i :: .inr n :: st) h bc bs := by
  intro p l e R s m args below meth c Z Ω C H locs cells slots Sl hH hS hc hs hL
  have k2 := fun H1 locs1 a b => kk p l e R s m args below meth c Z Ω C H1 locs1 cells slots Sl a b hc hs hL
  obtain ⟨n2, nl, hV⟩ := pw_kin hH (n := n) (by omega) (by omega)
  have hcell := (hH.2.2.1 n n2).1 (Or.inr hkd)
  rw [hkd] at hcell
  rw [List.map_cons, List.map_cons, List.map_cons, hV]
  refine W.zast C.1 C.2.1 hcell ((pw_arr C.2.2.2.2.2.1 2 (by omega)).1 _ _) (fun q => by cases q) (pw_at_in ha (arrV_size _ _ _)) rfl rfl hd fun H1 g1 g2 g3 => ?_
  rw [(pw_nar01 h01).1] at g1
  refine k2 H1 _ (pw_H_upd hH n2 rfl rfl (fun a ha j => by rw [pw_wi_i, if_neg (fun q => ha q.1)]) (fun a _ j => rfl) g2 g3 ?_) (hS.put g2 g3 (Nat.le_add_right _ _))
  refine ⟨fun _ => ?_, fun z => ?_, fun ci z => ?_⟩
  · rw [g1, arrV_store, pw_wi_k, pw_wi_n, hkd]
    congr 2
    funext j
    rw [pw_wi_i]
    by_cases q : j = i.toNatClampNeg <;> simp [updV, q]
  · rw [pw_wi_k] at z; omega
  · rw [pw_wi_k] at z; omega
theorem pw_x_aast {n q : Nat} {i : Int32} (hd : decode M.2.1 pc = .ok (.aastore, 1)) (hkd : (pw_k h n = 3 ∧ pw_k h q = 11) ∨ (pw_k h n = 4 ∧ pw_k h q = 10)) (ha : pw_at i (pw_n h n)) (kk : pw_J M Q (pc + 1) ls st (pw_wr h n i.toNatClampNeg q) bc bs) : pw_J M Q pc ls (.inr q :: .inl i :: .inr n :: st) h bc bs := by
  intro p l e R s m args below meth c Z Ω C H locs cells slots Sl hH hS hc hs hL
  have k2 := fun H1 locs1 a b => kk p l e R s m args below meth c Z Ω C H1 locs1 cells slots Sl a b hc hs hL
  obtain ⟨n2, nl, hV⟩ := pw_kin hH (n := n) (by omega) (by omega)
  obtain ⟨m2, ml, hVq⟩ := pw_kin hH (n := q) (by omega) (by omega)
  have hcell := (hH.2.2.1 n n2).2.1 (by omega)
  have hb2 := C.2.2.2.2.2.1
  have key : ∃ (kA kC : Class) (comp : ClassId) (cellV : Cell) (C0 : String), s.vm.classes[Ω.2.1 (pw_k h n)]? = some kA ∧ kA.kind = .array comp (.object C0) ∧ s.vm.classes[comp]? = some kC ∧ H[Ω.2.2.1 + (q - 2)]? = some cellV ∧ cellV.vm = .none ∧ s.vm.classes[cellV.cls]? = some kC ∧ s.vm.assignable cellV.cls comp = true := by
    rcases hkd with ⟨w1, w2⟩ | ⟨w1, w2⟩
    · obtain ⟨r', hr', cellV, g1, g2, g3, -⟩ := (hH.2.2.1 q m2).2.2 1 w2
      have hcls := (hb2.1.1 1 _ rfl).2
      obtain ⟨kA, comp, k1, k2', k3, -⟩ := (pw_arr hb2 3 (by omega)).2
      have hcomp : comp = Ω.1.1 1 := Option.some.inj (k3.symm.trans hcls.1)
      subst hcomp
      obtain ⟨kC, hkC, -⟩ := hcls.2
      rw [w1]
      exact ⟨kA, kC, _, cellV, _, k1, k2', hkC, g1, g3, by rw [g2]; exact hkC, by rw [g2]; exact va_assign hcls⟩
    · obtain ⟨r', hr', cellV, g1, g2, g3, -⟩ := (hH.2.2.1 q m2).2.2 0 w2
      have hcls := (hb2.1.1 0 _ rfl).2
      obtain ⟨kA, comp, k1, k2', k3, -⟩ := (pw_arr hb2 4 (by omega)).2
      have hcomp : comp = Ω.1.1 0 := Option.some.inj (k3.symm.trans hcls.1)
      subst hcomp
      obtain ⟨kC, hkC, -⟩ := hcls.2
      rw [w1]
      exact ⟨kA, kC, _, cellV, _, k1, k2', hkC, g1, g3, by rw [g2]; exact hkC, by rw [g2]; exact va_assign hcls⟩
  obtain ⟨kA, kC, comp, cellV, C0, y1, y2, y3, y4, y5, y6, y7⟩ := key
  rw [List.map_cons, List.map_cons, List.map_cons, hV, hVq]
  refine W.aast C.1 C.2.1 hcell (fun q h => by cases h) (fun h => by cases h) y1 y2 rfl y3 ⟨ha.1, by rw [arrV_size]; exact ha.2⟩ y4 (fun q h => by rw [y5] at h; cases h) y6 y7 rfl rfl hd fun H1 g1 g2 g3 => ?_
  refine k2 H1 _ (pw_H_upd hH n2 rfl rfl (fun a _ j => rfl) (fun a ha j => by rw [pw_wr_r, if_neg (fun q => ha q.1)]) g2 g3 ?_) (hS.put g2 g3 (Nat.le_add_right _ _))
  refine ⟨fun z => ?_, fun _ => ?_, fun ci z => ?_⟩
  · rw [pw_wr_k] at z; omega
  · rw [g1, arrV_store, pw_wr_k, pw_wr_n]
    congr 2
    funext j
    rw [pw_wr_r]
    by_cases w : j = i.toNatClampNeg
    · simp [updV, w, hVq]
    · simp [updV, w]
  · rw [pw_wr_k] at z; omega
theorem pw_x_alen {n : Nat} (hd : decode M.2.1 pc = .ok (.arraylength, 1)) (hkd : pw_k h n = 1 ∨ pw_k h n = 2 ∨ pw_k h n = 3 ∨ pw_k h n = 4 ∨ pw_k h n = 5) (kk : pw_J M Q (pc + 1) ls (.inl (nI (pw_n h n)) :: st) h bc bs) : pw_J M Q pc ls (.inr n :: st) h bc bs := by
  intro p l e R s m args below meth c Z Ω C H locs cells slots Sl hH hS hc hs hL
  have k2 := kk p l e R s m args below meth c Z Ω C H locs cells slots Sl hH hS hc hs hL
  by_cases h5 : pw_k h n = 5
  · have hn : n = 1 := by
      rcases hH.2.1 n (by omega) with ⟨q, -⟩ | ⟨-, -, q⟩
      · exact q
      · exact absurd h5 q
    subst hn
    obtain ⟨⟨scr, x1, x2, x3, x4, x5⟩, -⟩ := hH.2.2.2 h5
    exact W.alen C.1 C.2.1 x1 x2 (by rw [x4]; rfl) rfl rfl hd k2
  · obtain ⟨n2, nl, hV⟩ := pw_kin hH (n := n) (by omega) h5
    rw [List.map_cons, hV]
    have har := (pw_arr C.2.2.2.2.2.1 (pw_k h n) (by omega)).1
    by_cases h12 : pw_k h n = 1 ∨ pw_k h n = 2
    · exact W.alen C.1 C.2.1 ((hH.2.2.1 n n2).1 h12) (har _ _) (by rw [arrV_size]; rfl) rfl rfl hd k2
    · exact W.alen C.1 C.2.1 ((hH.2.2.1 n n2).2.1 (by omega)) (har _ _) (by rw [arrV_size]; rfl) rfl rfl hd k2
theorem pw_S_new {Ω : pw_O} {H0 H H' : Heap} {locs : List Loc} (hS : va_S (pw_Af Ω) H0 H locs) (z : H'.size = H.size + 1) (oq : ∀ q : Nat, q < H.size → H'[q]? = H[q]?) : va_S (pw_Af Ω) H0 H' locs :=
  ⟨Nat.le_trans hS.1 (by omega), fun x h1 h2 => (oq x (Nat.lt_of_lt_of_le h1 hS.1)).trans (hS.2.1 x h1 h2), hS.2.2⟩
theorem pw_x_newa {at' : ArrayType} {kd : Nat} {x : Int32} (hd : decode M.2.1 pc = .ok (.newarray at', 2)) (hkd : (at' = .int ∧ kd = 1) ∨ (at' = .boolean ∧ kd = 2)) (hw : Cond.arrayClass (newarray.typeOf at') ∈ pw_tb) (hx0 : ¬ x < 0 ∧ x.toNatClampNeg ≤ 10000) (hb1 : 1 ≤ bc) (hb2 : x.toNatClampNeg ≤ bs) (kk : pw_J M Q (pc + 2) ls (.inr (h.1 + 2) :: st) (pw_nw h kd x.toNatClampNeg) (bc - 1) (bs - x.toNatClampNeg)) : pw_J M Q pc ls (.inl x :: st) h bc bs := by
  intro p l e R s m args below meth c Z Ω C H locs cells slots Sl hH hS hc hs hL
  have k2 := fun H1 a b => kk p l e R s m args below meth c Z Ω C H1 locs (cells + 1) (slots + x.toNatClampNeg) Sl a b (by omega) (by omega) hL
  have hR := C.2.2.2.2.2.2.2.1
  have hty : newarray.typeOf at' = pw_aty kd ∧ (kd = 1 ∨ kd = 2) := by
    rcases hkd with ⟨rfl, rfl⟩ | ⟨rfl, rfl⟩
    · exact ⟨rfl, Or.inl rfl⟩
    · exact ⟨rfl, Or.inr rfl⟩
  refine va_newaK C.1 C.2.1 (C.2.2.2.2.1 _ hw) rfl hd rfl hx0.1 rfl ?_ (by omega) (by omega) rfl fun H1 cA e1 z1 o1 hAr hNm => ?_
  · have : componentBytes (newarray.typeOf at') ≤ 4 := by rcases hkd with ⟨rfl, -⟩ | ⟨rfl, -⟩ <;> decide
    have h1 := hx0.2
    have h2 : x.toNatClampNeg * componentBytes (newarray.typeOf at') ≤ 10000 * 4 := Nat.mul_le_mul h1 this
    omega
  · have hcA : cA = Ω.2.1 kd := by
      have w := (pw_arr C.2.2.2.2.2.1 kd (by omega)).2
      rcases hkd with ⟨rfl, rfl⟩ | ⟨rfl, rfl⟩
      · exact Option.some.inj (hNm.symm.trans w)
      · exact Option.some.inj (hNm.symm.trans w)
    subst hcA
    have k3 := k2 H1 (pw_H_new hH (by omega) (by omega) z1 o1 ?_) (pw_S_new hS z1 o1)
    · rw [List.map_cons, pw_V2 Ω (by omega), show Ω.2.2.1 + (h.1 + 2 - 2) = H.size from by rw [hH.1]; omega] at k3
      exact k3
    · have hk' : pw_k (pw_nw h kd x.toNatClampNeg) (h.1 + 2) = kd := by rw [pw_nw_k, if_pos rfl]
      refine ⟨fun _ => ?_, fun z => by omega, fun ci z => by omega⟩
      rw [hk', pw_nw_n, if_pos rfl, show Ω.2.2.1 + (h.1 + 2 - 2) = H.size from by rw [hH.1]; omega, e1]
      congr 2
      funext j
      rw [pw_nw_i, if_pos rfl, hty.1]
      rcases hty.2 with q | q <;> rw [q] <;> rfl
theorem pw_x_anew {idx kd : Nat} {x : Int32} (hd : decode M.2.1 pc = .ok (.anewarray idx, 3)) (C0 : String) (hkd : kd = 3 ∨ kd = 4) (hty : pw_aty kd = .object C0) (hw : Cond.classLink M.1.cls idx C0 ∈ pw_tb) (hov : Cond.arrayOver (.object C0) ∈ pw_tb) (hx0 : ¬ x < 0 ∧ x.toNatClampNeg ≤ 10000) (hb1 : 1 ≤ bc) (hb2 : x.toNatClampNeg ≤ bs) (kk : pw_J M Q (pc + 3) ls (.inr (h.1 + 2) :: st) (pw_nw h kd x.toNatClampNeg) (bc - 1) (bs - x.toNatClampNeg)) : pw_J M Q pc ls (.inl x :: st) h bc bs := by
  intro p l e R s m args below meth c Z Ω C H locs cells slots Sl hH hS hc hs hL
  have k2 := fun H1 a b => kk p l e R s m args below meth c Z Ω C H1 locs (cells + 1) (slots + x.toNatClampNeg) Sl a b (by omega) (by omega) hL
  have hR := C.2.2.2.2.2.2.2.1
  refine W.anew C.1 C.2.1 C.2.2.2.1 (C.2.2.2.2.1 _ hw) (C.2.2.2.2.1 _ hov) rfl hd rfl hx0.1 (by have := hx0.2; omega) (by omega) (by omega) fun cA kA comp f1 f2 f3 f4 => ?_
  have w := (pw_arr C.2.2.2.2.2.1 kd (by omega)).2
  rw [hty] at w
  obtain ⟨_, _, -, -, -, w4⟩ := w
  have hcA : cA = Ω.2.1 kd := Option.some.inj (f1.symm.trans w4)
  subst hcA
  generalize hH1 : H.push ({ cls := Ω.2.1 kd, slots := Array.replicate x.toNatClampNeg .null, vm := .none } : Cell) = H1
  have z1 : H1.size = H.size + 1 := by rw [← hH1, Array.size_push]
  have e1 : H1[H.size]? = some (arrV (Ω.2.1 kd) x.toNatClampNeg (fun _ => .null)) := by rw [← hH1, Array.getElem?_push_size, ← arrV_new]
  have o1 : ∀ q : Nat, q < H.size → H1[q]? = H[q]? := fun q hq => by rw [← hH1, Array.getElem?_push, if_neg (Nat.ne_of_lt hq)]
  have k3 := k2 H1 (pw_H_new hH (by omega) (by omega) z1 o1 ?_) (pw_S_new hS z1 o1)
  · rw [List.map_cons, pw_V2 Ω (by omega), show Ω.2.2.1 + (h.1 + 2 - 2) = H.size from by rw [hH.1]; omega] at k3
    exact k3
  · have hk' : pw_k (pw_nw h kd x.toNatClampNeg) (h.1 + 2) = kd := by rw [pw_nw_k, if_pos rfl]
    refine ⟨fun z => by omega, fun _ => ?_, fun ci z => by omega⟩
    rw [hk', pw_nw_n, if_pos rfl, show Ω.2.2.1 + (h.1 + 2 - 2) = H.size from by rw [hH.1]; omega, e1]
    congr 2
    funext j
    rw [pw_nw_r, if_pos rfl]
    rfl
theorem pw_x_new {idx ci : Nat} {r : vw_C} (hd : decode M.2.1 pc = .ok (.new idx, 3)) (hc0 : pw_cl[ci]? = some r) (hw : Cond.classLink M.1.cls idx r.1 ∈ pw_tb ∧ Cond.instantiable r.1 r.2.2 ∈ pw_tb ∧ Cond.initialized r.1 ∈ pw_tb) (hb1 : 1 ≤ bc) (hb2 : r.2.2 ≤ bs) (kk : pw_J M Q (pc + 3) ls (.inr (h.1 + 2) :: st) (pw_nw h (10 + ci) r.2.2) (bc - 1) (bs - r.2.2)) : pw_J M Q pc ls st h bc bs := by
  intro p l e R s m args below meth c Z Ω C H locs cells slots Sl hH hS hc hs hL
  have k2 := fun H1 a b => kk p l e R s m args below meth c Z Ω C H1 locs (cells + 1) (slots + r.2.2) Sl a b (by omega) (by omega) hL
  have hR := C.2.2.2.2.2.2.2.1
  have hts := C.2.2.2.2.1
  have hKn := C.2.2.2.2.2.1.1.1 ci r hc0
  obtain ⟨c1, c2, c3, c4⟩ := pw_clok ci r hc0
  refine W.newcK C.1 C.2.1 C.2.2.2.1 (hts _ hw.1) (hts _ hw.2.1) (hts _ hw.2.2) rfl hd (by omega) (by omega) hKn.2.1 rfl fun H1 kC hkC e1 z1 o1 => ?_
  have k3 := k2 H1 (pw_H_new hH (by omega) (by omega) z1 o1 ?_) (pw_S_new hS z1 o1)
  · rw [List.map_cons, pw_V2 Ω (by omega), show Ω.2.2.1 + (h.1 + 2 - 2) = H.size from by rw [hH.1]; omega] at k3
    exact k3
  · have hk' : pw_k (pw_nw h (10 + ci) r.2.2) (h.1 + 2) = 10 + ci := by rw [pw_nw_k, if_pos rfl]
    refine ⟨fun z => by omega, fun z => by omega, fun cj z => ?_⟩
    have : cj = ci := by omega
    subst this
    refine ⟨r, hc0, ?_⟩
    rw [show Ω.2.2.1 + (h.1 + 2 - 2) = H.size from by rw [hH.1]; omega]
    refine (u_born (pw_fty cj) hts c1 hKn hkC e1 c2).to (fun k hk => ?_)
    rw [pw_dfl cj r hc0 k hk]
    unfold pw_fv
    rw [pw_nw_i, pw_nw_r, if_pos rfl, if_pos rfl]
    rfl
/-- behind a call -/
theorem pw_aft {p : Program} {l : Launch} {e : Env} {R : Room} {s : State} {m : MethodId} {args : Array Value} {below : List Frame} {meth : Method} {c : Code} {Z : State → Prop} {Ω : pw_O} {H : Heap} {locs : List Loc} {cells slots mc ms : Nat} {Sl : Array Slot} {st0 : List Value} {rest : List pw_A} {Q' : Option pw_A → pw_Hp → Prop} {a : Array Value}
    (hr : va_Run p l e R s m args below meth c H locs cells slots mc ms (F0 m pc Sl st0) (rest.map (pw_V Ω)) (pw_Qc Ω Q' a) (pw_Af Ω)) (hS : va_S (pw_Af Ω) s.heap H locs)
    (kk : ∀ (v : Option pw_A) (h' : pw_Hp) (H1 : Heap) (locs1 : List Loc), Q' v h' → pw_H Ω s h' H1 → va_S (pw_Af Ω) s.heap H1 locs1 → W p l e R s m args below meth c H1 locs1 (cells + mc) (slots + ms) Z (F0 m (pc + 3) Sl ((v.toList ++ rest).map (pw_V Ω)))) : W p l e R s m args below meth c H locs cells slots Z (F0 m pc Sl st0) := by
  intro T hT X
  obtain ⟨v, st₀, t, T', L, h0, X', hL, e1, e2, ⟨⟨v', h', hv, hQ, hH'⟩, hz, hk⟩, st⟩ := hr T hT X
  have hvv : v = v'.map (pw_V Ω) := by injection hv
  subst hvv
  rw [h0] at hz hk
  have hal : s.vm.Alike t.vm := by rw [← e2]; exact X'.warmed.alike
  obtain ⟨t2, a1, b1⟩ := kk v' h' T'.heap (locs ++ L) hQ (by rw [e1]; exact pw_H_moved hal.symm hH')
    ⟨Nat.le_trans hS.1 (by rw [e1]; exact hz), fun q h1 h2 => by rw [e1, hk q (Nat.lt_of_lt_of_le h1 hS.1) h2]; exact hS.2.1 q h1 h2, fun q hq => by
      rcases List.mem_append.mp hq with h | h
      · exact hS.2.2 q h
      · exact hL q h⟩ T' rfl X'
  refine ⟨t2, st t2 ?_, b1⟩
  have : (v'.toList ++ rest).map (pw_V Ω) = (v'.map (pw_V Ω)).toList ++ rest.map (pw_V Ω) := by cases v' <;> simp
  rw [← this]
  exact a1
theorem pw_pay {s : State} {args : Array Value} (hts : ∀ w ∈ pw_tb, w.before args s = true) {M2 : pw_M} (hc : Cond.code M2.1 M2.2.1 M2.2.2.1 M2.2.2.2.1 ∈ pw_tb) : GoodIn pw_tb (pw_ws M2) := by
  intro w hw
  rcases List.mem_cons.mp hw with rfl | hw
  · exact ⟨hc, (pw_good _ hc).2⟩
  · exact ⟨hw, (pw_good _ hw).2⟩
theorem pw_x_virt {idx j ci n : Nat} {r : vw_C} {as rest : List pw_A} (hd : decode M.2.1 pc = .ok (.invokevirtual idx, 3)) (hj : pw_jok j as.length) (hl : pw_mlk M.1.cls idx (pw_md j).1) (hi : Cond.instanceMethod (pw_md j).1 ∈ pw_tb) (hsel : Cond.selects r.1 (pw_md j).1 (pw_md j).1 ∈ pw_tb) (hc0 : pw_cl[ci]? = some r) (hkd : pw_k h n = 10 + ci) (hlev : (pw_md j).2.2.2.2.1 + 1 ≤ M.2.2.2.2.1) (hrl : rest.length ≤ 8)
    (hb1 : (pw_md j).2.2.2.2.2.1 ≤ bc) (hb2 : (pw_md j).2.2.2.2.2.2 ≤ bs) (kk : pw_C j (.inr n :: as) h (fun v h' => pw_J M Q (pc + 3) ls (v.toList ++ rest) h' (bc - (pw_md j).2.2.2.2.2.1) (bs - (pw_md j).2.2.2.2.2.2))) : pw_J M Q pc ls (as.reverse ++ .inr n :: rest) h bc bs := by
  intro p l e R s m args below meth c Z Ω C H locs cells slots Sl hH hS hc hs hL
  have hts := C.2.2.2.2.1
  have hR := C.2.2.2.2.2.2.2.1
  obtain ⟨n2, nl, hV⟩ := pw_kin hH (n := n) (by omega) (by omega)
  obtain ⟨j1, j2, j3, j4⟩ := hj
  obtain ⟨r', hr', cell, q1, q2, q3, q4⟩ := (hH.2.2.1 n n2).2.2 ci hkd
  cases hr'.symm.trans hc0
  have hfc := (C.2.2.2.2.2.1.1.1 ci r hc0).2.1
  have hG := pw_pay hts j1
  have hp : PreV s H r.1 (Ω.2.2.1 + (n - 2)) (pw_Pc Ω (.inr n :: as) h) (as.map (pw_V Ω)) := by
    refine ⟨pw_blind Ω _ h, ⟨cell, q1, by rw [q3]; rfl, by rw [q2]; exact hfc⟩, fun U hU hW => ⟨?_, pw_Kn_moved hW C.2.2.2.2.2.1, ?_, ?_⟩⟩
    · rw [List.map_cons, hV]
    · rw [hU]; exact Nat.le_trans C.2.2.2.2.2.2.2.2.1 hS.1
    · rw [hU]; exact pw_H_moved hW.alike hH
  have hstk : (as.reverse ++ .inr n :: rest).map (pw_V Ω) = (as.map (pw_V Ω)).reverse ++ .ref (Ω.2.2.1 + (n - 2)) :: rest.map (pw_V Ω) := by
    rw [List.map_append, List.map_cons, hV, List.map_reverse]
  have hroom : 2 * (F0 m pc Sl ((as.reverse ++ .inr n :: rest).map (pw_V Ω))).monitorRoom + ((rest.map (pw_V Ω)).map fun v => v.category).sum ≤ 8 := lv_room (by rw [pw_sumc]; exact hrl)
  have hfin : ∀ (v : Option pw_A) (h' : pw_Hp) (H1 : Heap) (locs1 : List Loc), pw_J M Q (pc + 3) ls (v.toList ++ rest) h' (bc - (pw_md j).2.2.2.2.2.1) (bs - (pw_md j).2.2.2.2.2.2) → pw_H Ω s h' H1 → va_S (pw_Af Ω) s.heap H1 locs1 → W p l e R s m args below meth c H1 locs1 (cells + (pw_md j).2.2.2.2.2.1) (slots + (pw_md j).2.2.2.2.2.2) Z (F0 m (pc + 3) Sl ((v.toList ++ rest).map (pw_V Ω))) := fun v h' H1 locs1 hJ a b => hJ p l e R s m args below meth c Z Ω C H1 locs1 _ _ Sl a b (by omega) (by omega) hL
  have hrm : (pw_rm (pw_md j)).frames + 1 ≤ R.frames ∧ 8 + ((pw_md j).2.2.1 + 11) + (pw_rm (pw_md j)).locals ≤ R.locals := by
    refine ⟨Nat.le_trans hlev hR.1, ?_⟩
    show 8 + ((pw_md j).2.2.1 + 11) + 37 * (pw_md j).2.2.2.2.1 ≤ R.locals
    omega
  have hbud : cells + (pw_md j).2.2.2.2.2.1 ≤ R.cells ∧ slots + (pw_md j).2.2.2.2.2.2 ≤ R.slots := ⟨by omega, by omega⟩
  rcases hl with hl | ⟨host, hl⟩
  · exact pw_aft (va_runV (As := as.map (pw_V Ω)) (rest := rest.map (pw_V Ω)) (g := F0 m pc Sl ((as.reverse ++ .inr n :: rest).map (pw_V Ω))) ⟨C.1, C.2.1, C.2.2.1, C.2.2.2.1, hts⟩ (kk l Ω) ⟨callB_of as.length hts hG rfl rfl rfl (hts _ j2) (hts _ hl) j3 hrm, hts _ hi, hts _ hsel⟩ hp rfl (by rw [List.length_map]) hL.1 hstk hroom hd hbud) hS hfin
  · exact pw_aft (va_runVN (As := as.map (pw_V Ω)) (rest := rest.map (pw_V Ω)) (g := F0 m pc Sl ((as.reverse ++ .inr n :: rest).map (pw_V Ω))) ⟨C.1, C.2.1, C.2.2.1, C.2.2.2.1, hts⟩ (kk l Ω) ⟨va_cnB as.length hts hG rfl rfl rfl (C.2.2.2.2.2.1.2 _ hl) (hts _ j2) j3 hrm, hts _ hi, hts _ hsel⟩ hp rfl (by rw [List.length_map]) hL.1 hstk hroom hd hbud) hS hfin
theorem pw_x_stat {idx j : Nat} {as rest : List pw_A} (hd : decode M.2.1 pc = .ok (.invokestatic idx, 3)) (hj : pw_jok j as.length) (hl : Cond.methodLink M.1.cls idx (pw_md j).1 ∈ pw_tb) (hi : Cond.static (pw_md j).1 ∈ pw_tb) (hlev : (pw_md j).2.2.2.2.1 + 1 ≤ M.2.2.2.2.1) (hrl : rest.length ≤ 8)
    (hb1 : (pw_md j).2.2.2.2.2.1 ≤ bc) (hb2 : (pw_md j).2.2.2.2.2.2 ≤ bs) (kk : pw_C j as h (fun v h' => pw_J M Q (pc + 3) ls (v.toList ++ rest) h' (bc - (pw_md j).2.2.2.2.2.1) (bs - (pw_md j).2.2.2.2.2.2))) : pw_J M Q pc ls (as.reverse ++ rest) h bc bs := by
  intro p l e R s m args below meth c Z Ω C H locs cells slots Sl hH hS hc hs hL
  have hts := C.2.2.2.2.1
  have hR := C.2.2.2.2.2.2.2.1
  obtain ⟨j1, j2, j3, j4⟩ := hj
  have hG := pw_pay hts j1
  have hp : PreS s H (pw_Pc Ω as h) (as.map (pw_V Ω)) := by
    refine ⟨pw_blind Ω _ h, fun U hU hW => ⟨rfl, pw_Kn_moved hW C.2.2.2.2.2.1, ?_, ?_⟩⟩
    · rw [hU]; exact Nat.le_trans C.2.2.2.2.2.2.2.2.1 hS.1
    · rw [hU]; exact pw_H_moved hW.alike hH
  have hstk : (as.reverse ++ rest).map (pw_V Ω) = (as.map (pw_V Ω)).reverse ++ rest.map (pw_V Ω) := by
    rw [List.map_append, List.map_reverse]
  have hroom : 2 * (F0 m pc Sl ((as.reverse ++ rest).map (pw_V Ω))).monitorRoom + ((rest.map (pw_V Ω)).map fun v => v.category).sum ≤ 8 := lv_room (by rw [pw_sumc]; exact hrl)
  have hrm : (pw_rm (pw_md j)).frames + 1 ≤ R.frames ∧ 8 + ((pw_md j).2.2.1 + 11) + (pw_rm (pw_md j)).locals ≤ R.locals := by
    refine ⟨Nat.le_trans hlev hR.1, ?_⟩
    show 8 + ((pw_md j).2.2.1 + 11) + 37 * (pw_md j).2.2.2.2.1 ≤ R.locals
    omega
  have hbud : cells + (pw_md j).2.2.2.2.2.1 ≤ R.cells ∧ slots + (pw_md j).2.2.2.2.2.2 ≤ R.slots := ⟨by omega, by omega⟩
  exact pw_aft (va_runS (As := as.map (pw_V Ω)) (rest := rest.map (pw_V Ω)) (g := F0 m pc Sl ((as.reverse ++ rest).map (pw_V Ω))) ⟨C.1, C.2.1, C.2.2.1, C.2.2.2.1, hts⟩ (kk l Ω) ⟨callB_of as.length hts hG rfl rfl rfl (hts _ j2) (hts _ hl) j3 hrm, hts _ hi⟩ hp rfl (by rw [List.length_map]) hL.1 hstk hroom hd hbud) hS (fun v h' H1 locs1 hJ a b => hJ p l e R s m args below meth c Z Ω C H1 locs1 _ _ Sl a b (by omega) (by omega) hL)
theorem pw_x_spec {idx j n : Nat} {as rest : List pw_A} (hd : decode M.2.1 pc = .ok (.invokespecial idx, 3)) (hj : pw_jok j as.length) (hl : pw_mlk M.1.cls idx (pw_md j).1) (hi : Cond.instanceMethod (pw_md j).1 ∈ pw_tb) (hin : (pw_md j).1.name = "<init>") (hret : (pw_md j).2.2.2.1 = none) (hkd : pw_k h n ≠ 0 ∧ pw_k h n ≠ 5) (hlev : (pw_md j).2.2.2.2.1 + 1 ≤ M.2.2.2.2.1) (hrl : rest.length ≤ 8)
    (hb1 : (pw_md j).2.2.2.2.2.1 ≤ bc) (hb2 : (pw_md j).2.2.2.2.2.2 ≤ bs) (kk : pw_C j (.inr n :: as) h (fun v h' => pw_J M Q (pc + 3) ls (v.toList ++ rest) h' (bc - (pw_md j).2.2.2.2.2.1) (bs - (pw_md j).2.2.2.2.2.2))) : pw_J M Q pc ls (as.reverse ++ .inr n :: rest) h bc bs := by
  intro p l e R s m args below meth c Z Ω C H locs cells slots Sl hH hS hc hs hL
  have hts := C.2.2.2.2.1
  have hR := C.2.2.2.2.2.2.2.1
  obtain ⟨n2, nl, hV⟩ := pw_kin hH (n := n) hkd.1 hkd.2
  obtain ⟨j1, j2, j3, j4⟩ := hj
  have hG := pw_pay hts j1
  have hp : PreS s H (pw_Pc Ω (.inr n :: as) h) (.ref (Ω.2.2.1 + (n - 2)) :: as.map (pw_V Ω)) := by
    refine ⟨pw_blind Ω _ h, fun U hU hW => ⟨?_, pw_Kn_moved hW C.2.2.2.2.2.1, ?_, ?_⟩⟩
    · rw [List.map_cons, hV]
    · rw [hU]; exact Nat.le_trans C.2.2.2.2.2.2.2.2.1 hS.1
    · rw [hU]; exact pw_H_moved hW.alike hH
  have hstk : (as.reverse ++ .inr n :: rest).map (pw_V Ω) = (as.map (pw_V Ω)).reverse ++ .ref (Ω.2.2.1 + (n - 2)) :: rest.map (pw_V Ω) := by
    rw [List.map_append, List.map_cons, hV, List.map_reverse]
  have hroom : 2 * (F0 m pc Sl ((as.reverse ++ .inr n :: rest).map (pw_V Ω))).monitorRoom + ((rest.map (pw_V Ω)).map fun v => v.category).sum ≤ 8 := lv_room (by rw [pw_sumc]; exact hrl)
  have hfin : ∀ (v : Option pw_A) (h' : pw_Hp) (H1 : Heap) (locs1 : List Loc), pw_J M Q (pc + 3) ls (v.toList ++ rest) h' (bc - (pw_md j).2.2.2.2.2.1) (bs - (pw_md j).2.2.2.2.2.2) → pw_H Ω s h' H1 → va_S (pw_Af Ω) s.heap H1 locs1 → W p l e R s m args below meth c H1 locs1 (cells + (pw_md j).2.2.2.2.2.1) (slots + (pw_md j).2.2.2.2.2.2) Z (F0 m (pc + 3) Sl ((v.toList ++ rest).map (pw_V Ω))) := fun v h' H1 locs1 hJ a b => hJ p l e R s m args below meth c Z Ω C H1 locs1 _ _ Sl a b (by omega) (by omega) hL
  have hrm : (pw_rm (pw_md j)).frames + 1 ≤ R.frames ∧ 8 + ((pw_md j).2.2.1 + 11) + (pw_rm (pw_md j)).locals ≤ R.locals := by
    refine ⟨Nat.le_trans hlev hR.1, ?_⟩
    show 8 + ((pw_md j).2.2.1 + 11) + 37 * (pw_md j).2.2.2.2.1 ≤ R.locals
    omega
  have hbud : cells + (pw_md j).2.2.2.2.2.1 ≤ R.cells ∧ slots + (pw_md j).2.2.2.2.2.2 ≤ R.slots := ⟨by omega, by omega⟩
  have hMet := kk l Ω
  rw [show pw_ws (pw_md j) = .code (pw_md j).1 (pw_md j).2.1 (pw_md j).2.2.1 none :: pw_tb from by unfold pw_ws; rw [hret]] at hMet
  rw [show pw_ws (pw_md j) = .code (pw_md j).1 (pw_md j).2.1 (pw_md j).2.2.1 none :: pw_tb from by unfold pw_ws; rw [hret]] at hG
  rcases hl with hl | ⟨host, hl⟩
  · exact pw_aft (va_runI (As := as.map (pw_V Ω)) (rest := rest.map (pw_V Ω)) (g := F0 m pc Sl ((as.reverse ++ .inr n :: rest).map (pw_V Ω))) ⟨C.1, C.2.1, C.2.2.1, C.2.2.2.1, hts⟩ hMet ⟨callB_of as.length hts hG rfl rfl rfl (hts _ j2) (hts _ hl) j3 hrm, hin, hts _ hi⟩ hp rfl (by rw [List.length_map]) hL.1 hstk hroom hd hbud) hS hfin
  · exact pw_aft (va_runIN (As := as.map (pw_V Ω)) (rest := rest.map (pw_V Ω)) (g := F0 m pc Sl ((as.reverse ++ .inr n :: rest).map (pw_V Ω))) ⟨C.1, C.2.1, C.2.2.1, C.2.2.2.1, hts⟩ hMet ⟨va_cnB as.length hts hG rfl rfl rfl (C.2.2.2.2.2.1.2 _ hl) (hts _ j2) j3 hrm, hin, hts _ hi⟩ hp rfl (by rw [List.length_map]) hL.1 hstk hroom hd hbud) hS hfin
theorem pw_x_obj {idx n : Nat} (hd : decode M.2.1 pc = .ok (.invokespecial idx, 3)) (hw : Cond.methodLink M.1.cls idx Lib.objectInit ∈ pw_tb ∧ Cond.instanceMethod Lib.objectInit ∈ pw_tb ∧ Cond.code Lib.objectInit ⟨#[0xb1]⟩ 1 none ∈ pw_tb) (hlev : 1 ≤ M.2.2.2.2.1) (hrl : st.length ≤ 8) (h0 : ¬ n = 0) (kk : pw_J M Q (pc + 3) ls st h bc bs) : pw_J M Q pc ls (.inr n :: st) h bc bs := by
  intro p l e R s m args below meth c Z Ω C H locs cells slots Sl hH hS hc hs hL
  have hts := C.2.2.2.2.1
  have hR := C.2.2.2.2.2.2.2.1
  have k2 := kk p l e R s m args below meth c Z Ω C H locs cells slots Sl hH hS hc hs hL
  rw [List.map_cons]
  rcases pw_Vr Ω n with ⟨z, -⟩ | ⟨-, a, hv⟩
  · exact absurd z h0
  · rw [hv]
    refine W.objInit C.1 C.2.1 C.2.2.2.1 (hts _ hw.1) (hts _ hw.2.1) (hts _ hw.2.2) rfl (hL.1.trans C.2.2.1.symm) rfl hd (by omega) ?_ k2
    rw [pw_sumc]
    show 2 * 0 + st.length + 12 ≤ R.locals
    omega
theorem pw_x_max {idx : Nat} {x y : Int32} (hd : decode M.2.1 pc = .ok (.invokestatic idx, 3)) (hw : Cond.methodLink M.1.cls idx Lib.Math.max.name ∈ pw_tb ∧ Cond.static Lib.Math.max.name ∈ pw_tb ∧ Cond.initialized "java/lang/Math" ∈ pw_tb ∧ Cond.code Lib.Math.max.name Lib.Math.max.code 2 (some .int) ∈ pw_tb) (hlev : 1 ≤ M.2.2.2.2.1) (hrl : st.length ≤ 8) (kk : pw_J M Q (pc + 3) ls (.inl (if x < y then y else x) :: st) h bc bs) : pw_J M Q pc ls (.inl y :: .inl x :: st) h bc bs := by
  intro p l e R s m args below meth c Z Ω C H locs cells slots Sl hH hS hc hs hL
  have hts := C.2.2.2.2.1
  have hR := C.2.2.2.2.2.2.2.1
  have k2 := kk p l e R s m args below meth c Z Ω C H locs cells slots Sl hH hS hc hs hL
  exact va_mmax C.1 C.2.1 (C.2.2.1.trans hL.1.symm) C.2.2.2.1 (hts _ hw.1) (hts _ hw.2.1) (hts _ hw.2.2.1) (hts _ hw.2.2.2) (by omega) (by rw [pw_sumc]; omega) (by omega) (by omega) hd k2
end PWZ
end
section
/-! The check of a printed program, and that what 'pw_wp' asks is enough. -/
def pw_dc (M : pw_M) (pc : Nat) (e : pw_E) (L : Nat) : Bool := decide (decode M.2.1 pc = .ok (e.1, L)) && decide (e.2.1.2 = pc + L)
def pw_lkw (i : Nat) (w : Cond) : Bool := decide (lw_tbl[i]? = some w) && goodWord w
def pw_lkn (i : Nat) (w : Cond) : Bool := decide (lw_tbl[i]? = some w) && pw_isN w
def pw_rc (ci k : Nat) : Nat := match pw_fty ci k with
  | .int => 0
  | .boolean => 2
  | .array _ => 1
  | .object _ => 1
  | _ => 3
def pw_fck (M : pw_M) (idx : Nat) (e : pw_E) : Bool := match pw_cl[e.2.2.2.1.1]? with
  | some r => decide (e.2.2.2.1.2.1 < r.2.2) && (pw_lkw e.2.2.2.2.1.2.2 (.fieldLink M.1.cls idx r.1 (r.2.1 e.2.2.2.1.2.1).2.1 (r.2.1 e.2.2.2.1.2.1).2.2.1) || pw_lkn e.2.2.2.2.1.2.2 (.fieldLinkNest M.1.cls idx r.1 (r.2.1 e.2.2.2.1.2.1).2.1 (r.2.1 e.2.2.2.1.2.1).2.2.1 "ParkRows")) && decide (e.2.2.2.1.2.2 = pw_rc e.2.2.2.1.1 e.2.2.2.1.2.1) && decide (pw_rc e.2.2.2.1.1 e.2.2.2.1.2.1 < 3)
  | none => false
def pw_pck (M : pw_M) (idx : Nat) (e : pw_E) : Bool := match pw_cl[e.2.2.2.1.1]? with
  | some r => decide ((r.2.1 e.2.2.2.1.2.1).2.2.2 = false) || (decide (M.1.name = "<init>") && decide (M.1.cls = r.1) && pw_lkw e.2.2.2.2.1.2.2 (.fieldLink M.1.cls idx r.1 (r.2.1 e.2.2.2.1.2.1).2.1 (r.2.1 e.2.2.2.1.2.1).2.2.1))
  | none => false
def pw_tsk (pc : Nat) : Int → List Int → List (Int32 × (Bool × Nat)) → Bool
  | lo, o :: os, a :: sw => decide (a.1.toInt = lo) && decide ((pc : Int) + o = (a.2.2 : Int)) && pw_tsk pc (lo + 1) os sw
  | _, [], [] => true
  | _, _, _ => false
def pw_lsk (pc : Nat) : List (Int × Int) → List (Int32 × (Bool × Nat)) → Bool
  | o :: os, a :: sw => decide (a.1.toInt = o.1) && decide ((pc : Int) + o.2 = (a.2.2 : Int)) && pw_lsk pc os sw
  | [], [] => true
  | _, _ => false
/-- places of the words of callee j: its code, its class ready, what kind it is, that it is chosen -/
def pw_jck (j n : Nat) (q : Nat × Nat × Nat) : Bool := pw_lkw q.1 (.code (pw_md j).1 (pw_md j).2.1 (pw_md j).2.2.1 (pw_md j).2.2.2.1) && pw_lkw q.2.1 (.initialized (pw_md j).1.cls) && decide ((pw_md j).1.cls ≠ "java/lang/invoke/MethodHandle") && decide ((pw_md j).1.cls ≠ "java/lang/invoke/VarHandle") && decide ((parseMethodDescriptor (pw_md j).1.desc).map (fun d => d.parameters.length) = some n) && decide ((pw_md j).2.2.1 ≤ 18) && plainName (pw_md j).1.cls
/-- (number of parameters, (code, ready), kind (0 static, 1 instance, 2 constructor), (place of kind, place of chosen)) by method; filled in by the printed table -/
abbrev pw_Jt : Type := Nat × (Nat × Nat × Nat) × Nat × (Nat × Nat)
def pw_jall (t : List pw_Jt) (j : Nat) : Bool := match t[j]? with
  | some q => pw_jck j q.1 q.2.1 && (match q.2.2.1 with
    | 0 => pw_lkw q.2.2.2.1 (.static (pw_md j).1)
    | 1 => pw_lkw q.2.2.2.1 (.instanceMethod (pw_md j).1) && pw_lkw q.2.2.2.2 (.selects (pw_md j).1.cls (pw_md j).1 (pw_md j).1)
    | _ => pw_lkw q.2.2.2.1 (.instanceMethod (pw_md j).1) && decide ((pw_md j).1.name = "<init>") && decide ((pw_md j).2.2.2.1 = none))
  | none => false
/-- a call's entry beside the callee's row: parameters, kind, budget, level, class -/
def pw_cck (M : pw_M) (t : List pw_Jt) (idx : Nat) (e : pw_E) (kind extra : Nat) : Bool := match t[e.2.2.2.1.1]? with
  | some q => decide (q.2.2.1 = kind) && decide (e.2.2.2.1.2.1 = q.1 + extra) && decide (e.2.2.2.2.1.1 = (pw_md e.2.2.2.1.1).2.2.2.2.2.1) && decide (e.2.2.2.2.1.2.1 = (pw_md e.2.2.2.1.1).2.2.2.2.2.2) && decide ((pw_md e.2.2.2.1.1).2.2.2.2.1 + 1 ≤ M.2.2.2.2.1) && (pw_lkw e.2.2.2.2.1.2.2 (.methodLink M.1.cls idx (pw_md e.2.2.2.1.1).1) || (decide (kind ≠ 0) && pw_lkn e.2.2.2.2.1.2.2 (.methodLinkNest M.1.cls idx (pw_md e.2.2.2.1.1).1 "ParkRows")))
  | none => false
def pw_clk (ci : Nat) (C : String) : Bool := match pw_cl[ci]? with
  | some r => decide (r.1 = C)
  | none => false
def pw_chk (t : List pw_Jt) (M : pw_M) (pc : Nat) (e : pw_E) : Bool := match e.1 with
  | .iload_n _ => pw_dc M pc e 1
  | .aload_n _ => pw_dc M pc e 1
  | .iload _ => pw_dc M pc e 2
  | .aload _ => pw_dc M pc e 2
  | .istore_n k => pw_dc M pc e 1 && decide (k.val < M.2.2.1)
  | .astore_n k => pw_dc M pc e 1 && decide (k.val < M.2.2.1)
  | .istore k => pw_dc M pc e 2 && decide (k < M.2.2.1)
  | .astore k => pw_dc M pc e 2 && decide (k < M.2.2.1)
  | .iinc k n => pw_dc M pc e 3 && decide (k < M.2.2.1) && decide (Int32.ofInt n = pw_cv e.2.2.2.2.2)
  | .iconst n => pw_dc M pc e 1 && decide (Int32.ofInt n = pw_cv e.2.2.2.2.2)
  | .bipush n => pw_dc M pc e 2 && decide ((Int8.ofInt n).toInt32 = pw_cv e.2.2.2.2.2)
  | .sipush n => pw_dc M pc e 3 && decide ((Int16.ofInt n).toInt32 = pw_cv e.2.2.2.2.2)
  | .aconst_null => pw_dc M pc e 1
  | .iadd => pw_dc M pc e 1
  | .isub => pw_dc M pc e 1
  | .imul => pw_dc M pc e 1
  | .iand => pw_dc M pc e 1
  | .idiv => pw_dc M pc e 1
  | .irem => pw_dc M pc e 1
  | .ineg => pw_dc M pc e 1
  | .dup => pw_dc M pc e 1
  | .pop => pw_dc M pc e 1
  | .dup2 => pw_dc M pc e 1
  | .if_icmp _ o => pw_dc M pc e 3 && decide ((pc : Int) + o = (e.2.2.1.2 : Int))
  | .ifCond _ o => pw_dc M pc e 3 && decide ((pc : Int) + o = (e.2.2.1.2 : Int))
  | .ifnull o => pw_dc M pc e 3 && decide ((pc : Int) + o = (e.2.2.1.2 : Int))
  | .ifnonnull o => pw_dc M pc e 3 && decide ((pc : Int) + o = (e.2.2.1.2 : Int))
  | .goto o => pw_dc M pc e 3 && decide ((pc : Int) + o = (e.2.2.1.2 : Int))
  | .tableswitch d lo hi os => pw_dc M pc e (e.2.1.2 - pc) && decide ((pc : Int) + d = (e.2.2.1.2 : Int)) && pw_tsk pc lo os.toList e.2.2.2.2.2 && decide (hi + 1 = lo + (os.toList.length : Int))
  | .lookupswitch d ps => pw_dc M pc e (e.2.1.2 - pc) && decide ((pc : Int) + d = (e.2.2.1.2 : Int)) && pw_lsk pc ps.toList e.2.2.2.2.2 && (ps.toList.zip (ps.toList.drop 1)).all (fun (a, next) => decide (a.1 < next.1))
  | .getfield idx => pw_dc M pc e 3 && pw_fck M idx e
  | .putfield idx => pw_dc M pc e 3 && pw_fck M idx e && pw_pck M idx e
  | .iaload => pw_dc M pc e 1
  | .baload => pw_dc M pc e 1
  | .aaload => pw_dc M pc e 1
  | .iastore => pw_dc M pc e 1
  | .bastore => pw_dc M pc e 1
  | .aastore => pw_dc M pc e 1
  | .arraylength => pw_dc M pc e 1
  | .newarray a => pw_dc M pc e 2 && ((decide (a = .int) && decide (e.2.2.2.1.1 = 1)) || (decide (a = .boolean) && decide (e.2.2.2.1.1 = 2))) && pw_lkw e.2.2.2.2.1.2.2 (.arrayClass (newarray.typeOf a))
  | .anewarray idx => pw_dc M pc e 3 && ((decide (e.2.2.2.1.1 = 3) && pw_lkw e.2.2.2.2.1.2.2 (.classLink M.1.cls idx "ParkRows$Ride") && pw_lkw e.2.2.2.1.2.1 (.arrayOver (.object "ParkRows$Ride"))) || (decide (e.2.2.2.1.1 = 4) && pw_lkw e.2.2.2.2.1.2.2 (.classLink M.1.cls idx "ParkRows$Group") && pw_lkw e.2.2.2.1.2.1 (.arrayOver (.object "ParkRows$Group"))))
  | .new idx => pw_dc M pc e 3 && (match pw_cl[e.2.2.2.1.1]? with
    | some r => decide (e.2.2.2.1.2.1 = r.2.2) && pw_lkw e.2.2.2.2.1.2.2 (.classLink M.1.cls idx r.1) && pw_lkw e.2.2.2.2.1.1 (.instantiable r.1 r.2.2) && pw_lkw e.2.2.2.2.1.2.1 (.initialized r.1)
    | none => false)
  | .invokevirtual idx => pw_dc M pc e 3 && pw_cck M t idx e 1 1 && pw_clk e.2.2.1.2 (pw_md e.2.2.2.1.1).1.cls
  | .invokespecial idx => pw_dc M pc e 3 && (match e.2.2.2.1.1 with
    | 1001 => pw_lkw e.2.2.2.2.1.2.2 (.methodLink M.1.cls idx Lib.objectInit) && pw_lkw e.2.2.2.2.1.1 (.instanceMethod Lib.objectInit) && pw_lkw e.2.2.2.2.1.2.1 (.code Lib.objectInit ⟨#[0xb1]⟩ 1 none) && decide (1 ≤ M.2.2.2.2.1)
    | _ => pw_cck M t idx e 2 1)
  | .invokestatic idx => pw_dc M pc e 3 && (match e.2.2.2.1.1 with
    | 1000 => pw_lkw e.2.2.2.2.1.2.2 (.methodLink M.1.cls idx Lib.Math.max.name) && pw_lkw e.2.2.2.2.1.1 (.static Lib.Math.max.name) && pw_lkw e.2.2.2.2.1.2.1 (.initialized "java/lang/Math") && pw_lkw e.2.2.2.1.2.1 (.code Lib.Math.max.name Lib.Math.max.code 2 (some .int)) && decide (1 ≤ M.2.2.2.2.1)
    | _ => pw_cck M t idx e 0 0)
  | .ireturn => pw_dc M pc e 1 && ((decide (M.2.2.2.1 = some .int) && decide (e.2.2.2.1.2.2 = 0)) || (decide (M.2.2.2.1 = some .boolean) && decide (e.2.2.2.1.2.2 = 2)))
  | .areturn => pw_dc M pc e 1 && (match M.2.2.2.1 with
    | some (.object _) => true
    | _ => false)
  | .return_ => pw_dc M pc e 1 && decide (M.2.2.2.1 = none)
  | _ => false
theorem pw_dc_inv {M : pw_M} {pc : Nat} {e : pw_E} {L : Nat} (h : pw_dc M pc e L = true) : decode M.2.1 pc = .ok (e.1, L) ∧ e.2.1.2 = pc + L := by
  unfold pw_dc at h
  simp only [Bool.and_eq_true, decide_eq_true_eq] at h
  exact h
theorem pw_lkw_in {i : Nat} {w : Cond} (h : pw_lkw i w = true) : w ∈ pw_tb := by
  unfold pw_lkw at h
  simp only [Bool.and_eq_true, decide_eq_true_eq] at h
  exact List.mem_filter.mpr ⟨List.mem_of_getElem? h.1, h.2⟩
theorem pw_lkn_in {i : Nat} {w : Cond} (h : pw_lkn i w = true) : w ∈ pw_nl := by
  unfold pw_lkn at h
  simp only [Bool.and_eq_true, decide_eq_true_eq] at h
  exact List.mem_filter.mpr ⟨List.mem_of_getElem? h.1, h.2⟩
theorem pw_li_inv {o : Option pw_A} {f : Int32 → Prop} (h : pw_li o f) : ∃ x, o = some (.inl x) ∧ f x := by
  match o, h with
  | some (.inl x), h => exact ⟨x, rfl, h⟩
theorem pw_lr_inv {o : Option pw_A} {f : Nat → Prop} (h : pw_lr o f) : ∃ x, o = some (.inr x) ∧ f x := by
  match o, h with
  | some (.inr x), h => exact ⟨x, rfl, h⟩
theorem pw_s1_inv {st : List pw_A} {f : Int32 → List pw_A → Prop} (h : pw_s1 st f) : ∃ x r, st = .inl x :: r ∧ f x r := by
  match st, h with
  | .inl x :: r, h => exact ⟨x, r, rfl, h⟩
theorem pw_s2_inv {st : List pw_A} {f : Int32 → Int32 → List pw_A → Prop} (h : pw_s2 st f) : ∃ x y r, st = .inl y :: .inl x :: r ∧ f x y r := by
  match st, h with
  | .inl y :: .inl x :: r, h => exact ⟨x, y, r, rfl, h⟩
theorem pw_sr_inv {st : List pw_A} {f : Nat → List pw_A → Prop} (h : pw_sr st f) : ∃ x r, st = .inr x :: r ∧ f x r := by
  match st, h with
  | .inr x :: r, h => exact ⟨x, r, rfl, h⟩
theorem pw_sir_inv {st : List pw_A} {f : Nat → Int32 → List pw_A → Prop} (h : pw_sir st f) : ∃ n i r, st = .inl i :: .inr n :: r ∧ f n i r := by
  match st, h with
  | .inl i :: .inr n :: r, h => exact ⟨n, i, r, rfl, h⟩
theorem pw_siir_inv {st : List pw_A} {f : Nat → Int32 → Int32 → List pw_A → Prop} (h : pw_siir st f) : ∃ n i x r, st = .inl x :: .inl i :: .inr n :: r ∧ f n i x r := by
  match st, h with
  | .inl x :: .inl i :: .inr n :: r, h => exact ⟨n, i, x, r, rfl, h⟩
theorem pw_srir_inv {st : List pw_A} {f : Nat → Int32 → Nat → List pw_A → Prop} (h : pw_srir st f) : ∃ n i q r, st = .inr q :: .inl i :: .inr n :: r ∧ f n i q r := by
  match st, h with
  | .inr q :: .inl i :: .inr n :: r, h => exact ⟨n, i, q, r, rfl, h⟩
theorem pw_srr_inv {st : List pw_A} {f : Nat → Nat → List pw_A → Prop} (h : pw_srr st f) : ∃ n q r, st = .inr q :: .inr n :: r ∧ f n q r := by
  match st, h with
  | .inr q :: .inr n :: r, h => exact ⟨n, q, r, rfl, h⟩
theorem pw_sa_inv {st : List pw_A} {f : pw_A → List pw_A → Prop} (h : pw_sa st f) : ∃ v r, st = v :: r ∧ f v r := by
  match st, h with
  | v :: r, h => exact ⟨v, r, rfl, h⟩
theorem pw_cc_mono {c : Jvm.ClassFile.Cond} {x y : Int32} {A B A' B' : Prop} (h : pw_cc c x y A B) (ha : A → A') (hb : B → B') : pw_cc c x y A' B' := by
  cases c <;> exact ⟨fun q => ha (h.1 q), fun q => hb (h.2 q)⟩
theorem pw_C_mono {j : Nat} {as : List pw_A} {h : pw_Hp} {Q Q' : Option pw_A → pw_Hp → Prop} (hc : pw_C j as h Q) (hq : ∀ v h', Q v h' → Q' v h') : pw_C j as h Q' := by
  intro l Ω p e a1 a2 a3 s m args below a4 a5 a6 a7
  obtain ⟨n, o, b1, b2, b3, ⟨⟨v, h', c1, c2, c3⟩, c4⟩, b5⟩ := hc l Ω p e a1 a2 a3 s m args below a4 a5 a6 a7
  exact ⟨n, o, b1, b2, b3, ⟨⟨v, h', c1, hq v h' c2, c3⟩, c4⟩, b5⟩
theorem pw_ret_C {rk j : Nat} {as r : List pw_A} {h : pw_Hp} {k : List pw_A → pw_Hp → Prop} (hr : pw_ret rk j as r h k) : pw_C j as h (fun v h' => k (v.toList ++ r) h') := by
  match rk, hr with
  | 0, hr => exact pw_C_mono hr (fun v h' q => by obtain ⟨rfl, q⟩ := q; exact q)
  | 1, hr => exact pw_C_mono hr (fun v h' q => by obtain ⟨x, rfl, q⟩ := q; exact q)
  | n + 2, hr => exact pw_C_mono hr (fun v h' q => by obtain ⟨x, rfl, q⟩ := q; exact q)
theorem pw_tab_inv {pc : Nat} {x : Int32} {k : Bool × Nat → Prop} {d : Bool × Nat} : ∀ (sw : List (Int32 × (Bool × Nat))) (lo : Int) (os : List Int), pw_tsk pc lo os sw = true → pw_sw x k d sw →
    (∃ (i : Nat) (o : Int) (t : Bool × Nat), os[i]? = some o ∧ x.toInt = lo + (i : Int) ∧ (pc : Int) + o = (t.2 : Int) ∧ k t) ∨ ((x.toInt < lo ∨ lo + (os.length : Int) ≤ x.toInt) ∧ k d) := by
  intro sw
  induction sw with
  | nil =>
    intro lo os h1 h2
    cases os with
    | nil => exact Or.inr ⟨by simp; omega, h2⟩
    | cons o os => simp [pw_tsk] at h1
  | cons a sw ih =>
    intro lo os h1 h2
    cases os with
    | nil => simp [pw_tsk] at h1
    | cons o os =>
      simp only [pw_tsk, Bool.and_eq_true, decide_eq_true_eq] at h1
      obtain ⟨⟨g1, g2⟩, g3⟩ := h1
      by_cases hx : x = a.1
      · exact Or.inl ⟨0, o, a.2, rfl, by rw [hx, g1]; simp, g2, h2.1 hx⟩
      · have hne : x.toInt ≠ lo := fun q => hx (Int32.toInt_inj.mp (by rw [q, g1]))
        rcases ih (lo + 1) os g3 (h2.2 hx) with ⟨i, o', t, w1, w2, w3, w4⟩ | ⟨w1, w2⟩
        · exact Or.inl ⟨i + 1, o', t, by simpa using w1, by rw [w2]; omega, w3, w4⟩
        · refine Or.inr ⟨?_, w2⟩
          simp only [List.length_cons]
          omega
theorem pw_look_inv {pc : Nat} {x : Int32} {k : Bool × Nat → Prop} {d : Bool × Nat} {dflt : Int} (hd : (pc : Int) + dflt = (d.2 : Int)) : ∀ (sw : List (Int32 × (Bool × Nat))) (os : List (Int × Int)), pw_lsk pc os sw = true → pw_sw x k d sw →
    ∃ t : Bool × Nat, (pc : Int) + Op.lookupswitch.offset os dflt x.toInt = (t.2 : Int) ∧ k t := by
  intro sw
  induction sw with
  | nil =>
    intro os h1 h2
    cases os with
    | nil => exact ⟨d, by rw [Op.lookupswitch.offset_nil]; exact hd, h2⟩
    | cons o os => simp [pw_lsk] at h1
  | cons a sw ih =>
    intro os h1 h2
    cases os with
    | nil => simp [pw_lsk] at h1
    | cons o os =>
      obtain ⟨o1, o2⟩ := o
      simp only [pw_lsk, Bool.and_eq_true, decide_eq_true_eq] at h1
      obtain ⟨⟨g1, g2⟩, g3⟩ := h1
      by_cases hx : x = a.1
      · refine ⟨a.2, ?_, h2.1 hx⟩
        rw [Op.lookupswitch.offset_cons, if_pos (by rw [hx, g1])]
        exact g2
      · obtain ⟨t, w1, w2⟩ := ih os g3 (h2.2 hx)
        exact ⟨t, by rw [lv_osw hx g1]; exact w1, w2⟩
end
section
theorem pw_fck_inv {M : pw_M} {idx : Nat} {e : pw_E} (h : pw_fck M idx e = true) : ∃ r, pw_cl[e.2.2.2.1.1]? = some r ∧ e.2.2.2.1.2.1 < r.2.2 ∧ pw_flk M.1.cls idx r e.2.2.2.1.2.1 ∧ e.2.2.2.1.2.2 = pw_rc e.2.2.2.1.1 e.2.2.2.1.2.1 ∧ pw_rc e.2.2.2.1.1 e.2.2.2.1.2.1 < 3 := by
  unfold pw_fck at h
  split at h
  · rename_i r hr
    simp only [Bool.and_eq_true, Bool.or_eq_true, decide_eq_true_eq] at h
    obtain ⟨⟨⟨h1, h2⟩, h3⟩, h4⟩ := h
    refine ⟨r, hr, h1, ?_, h3, h4⟩
    rcases h2 with h2 | h2
    · exact Or.inl (pw_lkw_in h2)
    · exact Or.inr ⟨_, pw_lkn_in h2⟩
  · cases h
theorem pw_pck_inv {M : pw_M} {idx : Nat} {e : pw_E} {r : vw_C} (h : pw_pck M idx e = true) (hr : pw_cl[e.2.2.2.1.1]? = some r) : (r.2.1 e.2.2.2.1.2.1).2.2.2 = false ∨ (M.1.name = "<init>" ∧ M.1.cls = r.1 ∧ Cond.fieldLink M.1.cls idx r.1 (r.2.1 e.2.2.2.1.2.1).2.1 (r.2.1 e.2.2.2.1.2.1).2.2.1 ∈ pw_tb) := by
  unfold pw_pck at h
  rw [hr] at h
  simp only [Bool.and_eq_true, Bool.or_eq_true, decide_eq_true_eq] at h
  rcases h with h | ⟨⟨h1, h2⟩, h3⟩
  · exact Or.inl h
  · exact Or.inr ⟨h1, h2, pw_lkw_in h3⟩
theorem pw_rc_rf {ci k : Nat} (h : pw_rc ci k < 3) : (pw_rf ci k = true ↔ pw_rc ci k = 1) ∧ (pw_rc ci k = 0 → pw_fty ci k = .int) ∧ (pw_rc ci k = 2 → pw_fty ci k = .boolean) ∧ (pw_rc ci k = 1 → (∃ t, pw_fty ci k = .array t) ∨ ∃ C, pw_fty ci k = .object C) := by
  unfold pw_rc at h ⊢
  unfold pw_rf
  cases hf : pw_fty ci k <;> rw [hf] at h <;> simp at h ⊢
theorem pw_get_fv {ci k rk : Nat} {h : pw_Hp} {n : Nat} (hr : rk = pw_rc ci k) (h3 : pw_rc ci k < 3) (Ω : pw_O) : pw_fv Ω h ci n k = pw_V Ω (pw_get rk h n k) := by
  have h1 := (pw_rc_rf h3).1
  unfold pw_fv
  by_cases hq : pw_rf ci k = true
  · rw [if_pos hq, hr, h1.mp hq]
    rfl
  · rw [if_neg hq]
    have hne : rk ≠ 1 := by rw [hr]; exact fun z => hq (h1.mpr z)
    match rk, hne with
    | 0, _ => rfl
    | 1, z => exact absurd rfl z
    | n + 2, _ => rfl
theorem pw_jall_inv {t : List pw_Jt} {j : Nat} (h : pw_jall t j = true) : ∃ q, t[j]? = some q ∧ pw_jok j q.1 ∧ plainName (pw_md j).1.cls = true ∧ (q.2.2.1 = 0 → Cond.static (pw_md j).1 ∈ pw_tb) ∧ (q.2.2.1 = 1 → Cond.instanceMethod (pw_md j).1 ∈ pw_tb ∧ Cond.selects (pw_md j).1.cls (pw_md j).1 (pw_md j).1 ∈ pw_tb) ∧ (q.2.2.1 = 2 → Cond.instanceMethod (pw_md j).1 ∈ pw_tb ∧ (pw_md j).1.name = "<init>" ∧ (pw_md j).2.2.2.1 = none) := by
  unfold pw_jall at h
  split at h
  · rename_i q hq
    rw [Bool.and_eq_true] at h
    obtain ⟨h1, h2⟩ := h
    unfold pw_jck at h1
    simp only [Bool.and_eq_true, decide_eq_true_eq] at h1
    obtain ⟨⟨⟨⟨⟨⟨a1, a2⟩, a3⟩, a4⟩, a5⟩, a6⟩, a7⟩ := h1
    refine ⟨q, hq, ⟨pw_lkw_in a1, pw_lkw_in a2, ⟨a3, a4, a5⟩, a6⟩, a7, fun z => ?_, fun z => ?_, fun z => ?_⟩
    · rw [z] at h2
      exact pw_lkw_in h2
    · rw [z] at h2
      simp only [Bool.and_eq_true] at h2
      exact ⟨pw_lkw_in h2.1, pw_lkw_in h2.2⟩
    · rw [z] at h2
      simp only [Bool.and_eq_true, decide_eq_true_eq] at h2
      exact ⟨pw_lkw_in h2.1.1, h2.1.2, h2.2⟩
  · cases h
theorem pw_cck_inv {M : pw_M} {t : List pw_Jt} {idx kind extra : Nat} {e : pw_E} (h : pw_cck M t idx e kind extra = true) : ∃ q, t[e.2.2.2.1.1]? = some q ∧ q.2.2.1 = kind ∧ e.2.2.2.1.2.1 = q.1 + extra ∧ e.2.2.2.2.1.1 = (pw_md e.2.2.2.1.1).2.2.2.2.2.1 ∧ e.2.2.2.2.1.2.1 = (pw_md e.2.2.2.1.1).2.2.2.2.2.2 ∧ (pw_md e.2.2.2.1.1).2.2.2.2.1 + 1 ≤ M.2.2.2.2.1 ∧ (Cond.methodLink M.1.cls idx (pw_md e.2.2.2.1.1).1 ∈ pw_tb ∨ (kind ≠ 0 ∧ Cond.methodLinkNest M.1.cls idx (pw_md e.2.2.2.1.1).1 "ParkRows" ∈ pw_nl)) := by
  unfold pw_cck at h
  split at h
  · rename_i q hq
    simp only [Bool.and_eq_true, Bool.or_eq_true, decide_eq_true_eq] at h
    obtain ⟨⟨⟨⟨⟨a1, a2⟩, a3⟩, a4⟩, a5⟩, a6⟩ := h
    refine ⟨q, hq, a1, a2, a3, a4, a5, ?_⟩
    rcases a6 with a6 | ⟨a6, a7⟩
    · exact Or.inl (pw_lkw_in a6)
    · exact Or.inr ⟨a6, pw_lkn_in a7⟩
  · cases h
theorem pw_pop_eq {n : Nat} {st : List pw_A} (hn : n ≤ st.length) : st = (pw_pop n st).1.reverse ++ (pw_pop n st).2 := by
  unfold pw_pop
  simp
theorem pw_pop_len {n : Nat} {st : List pw_A} (hn : n ≤ st.length) : (pw_pop n st).1.length = n := by
  unfold pw_pop
  simp
  omega
theorem pw_short_inv : ∀ {n : Nat} {st : List pw_A}, pw_short n st → n ≤ st.length ∧ (pw_pop n st).2.length ≤ 8
  | 0, st, h => ⟨Nat.zero_le _, h⟩
  | n + 1, a :: r, h => by
    have g := pw_short_inv (n := n) (st := r) h
    exact ⟨Nat.succ_le_succ g.1, g.2⟩
theorem pw_rcv_inv {ci : Nat} {h : pw_Hp} {as : List pw_A} (hr : pw_rcv ci h as) : ∃ n r, as = .inr n :: r ∧ pw_k h n = 10 + ci := by
  match as, hr with
  | .inr n :: r, hr => exact ⟨n, r, rfl, hr⟩
/-- what callees' rows must hold: every method that is called -/
def pw_Tok (t : List pw_Jt) : Prop := ∀ j q, t[j]? = some q → pw_jall t j = true
theorem pw_step {t : List pw_Jt} (ht : pw_Tok t) {M : pw_M} {Q : Option pw_A → pw_Hp → Prop} {pc : Nat} {e : pw_E} {K : pw_Kt} {ls : pw_Ls} {st : List pw_A} {h : pw_Hp} {bc bs : Nat} (hc : pw_chk t M pc e = true)
    (hK : ∀ b q ls st h bc bs, K (b, q) ls st h bc bs → pw_J M Q q ls st h bc bs) (hs : pw_stp Q e K ls st h bc bs) : pw_J M Q pc ls st h bc bs := by
  have hKn : ∀ (q : Bool × Nat) {x : Nat} {ls st h bc bs}, q.2 = x → K q ls st h bc bs → pw_J M Q x ls st h bc bs := fun q x ls st h bc bs e1 k => by subst e1; exact hK q.1 q.2 _ _ _ _ _ k
  obtain ⟨i, nx, tg, ax, bx, sw⟩ := e
  have hkt : ∀ {ls st h bc bs}, K tg ls st h bc bs → pw_J M Q tg.2 ls st h bc bs := fun k => hKn tg rfl k
  cases i with
  | iload_n k =>
    obtain ⟨d1, d2⟩ := pw_dc_inv (show pw_dc M pc _ 1 = true from hc)
    obtain ⟨x, h1, h2⟩ := pw_li_inv (show pw_li (pw_nth k.val ls) _ from hs)
    exact pw_x_iload_n d1 h1 (hKn nx d2 h2)
  | iload k =>
    obtain ⟨d1, d2⟩ := pw_dc_inv (show pw_dc M pc _ 2 = true from hc)
    obtain ⟨x, h1, h2⟩ := pw_li_inv (show pw_li (pw_nth k ls) _ from hs)
    exact pw_x_iload d1 h1 (hKn nx d2 h2)
  | aload_n k =>
    obtain ⟨d1, d2⟩ := pw_dc_inv (show pw_dc M pc _ 1 = true from hc)
    obtain ⟨x, h1, h2⟩ := pw_lr_inv (show pw_lr (pw_nth k.val ls) _ from hs)
    exact pw_x_aload_n d1 h1 (hKn nx d2 h2)
  | aload k =>
    obtain ⟨d1, d2⟩ := pw_dc_inv (show pw_dc M pc _ 2 = true from hc)
    obtain ⟨x, h1, h2⟩ := pw_lr_inv (show pw_lr (pw_nth k ls) _ from hs)
    exact pw_x_aload d1 h1 (hKn nx d2 h2)
  | istore_n k =>
    obtain ⟨hc1, hc2⟩ := Bool.and_eq_true_iff.mp (show (pw_dc M pc _ 1 && decide (k.val < M.2.2.1)) = true from hc)
    obtain ⟨d1, d2⟩ := pw_dc_inv hc1
    obtain ⟨x, r, rfl, h2⟩ := pw_s1_inv (show pw_s1 st _ from hs)
    exact pw_x_istore_n d1 (of_decide_eq_true hc2) (hKn nx d2 h2)
  | istore k =>
    obtain ⟨hc1, hc2⟩ := Bool.and_eq_true_iff.mp (show (pw_dc M pc _ 2 && decide (k < M.2.2.1)) = true from hc)
    obtain ⟨d1, d2⟩ := pw_dc_inv hc1
    obtain ⟨x, r, rfl, h2⟩ := pw_s1_inv (show pw_s1 st _ from hs)
    exact pw_x_istore d1 (of_decide_eq_true hc2) (hKn nx d2 h2)
  | astore_n k =>
    obtain ⟨hc1, hc2⟩ := Bool.and_eq_true_iff.mp (show (pw_dc M pc _ 1 && decide (k.val < M.2.2.1)) = true from hc)
    obtain ⟨d1, d2⟩ := pw_dc_inv hc1
    obtain ⟨x, r, rfl, h2⟩ := pw_sr_inv (show pw_sr st _ from hs)
    exact pw_x_astore_n d1 (of_decide_eq_true hc2) (hKn nx d2 h2)
  | astore k =>
    obtain ⟨hc1, hc2⟩ := Bool.and_eq_true_iff.mp (show (pw_dc M pc _ 2 && decide (k < M.2.2.1)) = true from hc)
    obtain ⟨d1, d2⟩ := pw_dc_inv hc1
    obtain ⟨x, r, rfl, h2⟩ := pw_sr_inv (show pw_sr st _ from hs)
    exact pw_x_astore d1 (of_decide_eq_true hc2) (hKn nx d2 h2)
  | iinc k n =>
    have hc' : ((pw_dc M pc _ 3 && decide (k < M.2.2.1)) && decide (Int32.ofInt n = pw_cv sw)) = true := hc
    simp only [Bool.and_eq_true, decide_eq_true_eq] at hc'
    obtain ⟨⟨c1, c2⟩, c3⟩ := hc'
    obtain ⟨d1, d2⟩ := pw_dc_inv c1
    obtain ⟨x, h1, h2⟩ := pw_li_inv (show pw_li (pw_nth k ls) _ from hs)
    exact pw_x_iinc d1 h1 c2 c3 (hKn nx d2 h2)
  | iconst n =>
    obtain ⟨hc1, hc2⟩ := Bool.and_eq_true_iff.mp (show (pw_dc M pc _ 1 && decide (Int32.ofInt n = pw_cv sw)) = true from hc)
    obtain ⟨d1, d2⟩ := pw_dc_inv hc1
    exact pw_x_iconst d1 (of_decide_eq_true hc2) (hKn nx d2 hs)
  | bipush n =>
    obtain ⟨hc1, hc2⟩ := Bool.and_eq_true_iff.mp (show (pw_dc M pc _ 2 && decide ((Int8.ofInt n).toInt32 = pw_cv sw)) = true from hc)
    obtain ⟨d1, d2⟩ := pw_dc_inv hc1
    exact pw_x_bipush d1 (of_decide_eq_true hc2) (hKn nx d2 hs)
  | sipush n =>
    obtain ⟨hc1, hc2⟩ := Bool.and_eq_true_iff.mp (show (pw_dc M pc _ 3 && decide ((Int16.ofInt n).toInt32 = pw_cv sw)) = true from hc)
    obtain ⟨d1, d2⟩ := pw_dc_inv hc1
    exact pw_x_sipush d1 (of_decide_eq_true hc2) (hKn nx d2 hs)
  | aconst_null =>
    obtain ⟨d1, d2⟩ := pw_dc_inv (show pw_dc M pc _ 1 = true from hc)
    exact pw_x_null d1 (hKn nx d2 hs)
  | iadd =>
    obtain ⟨d1, d2⟩ := pw_dc_inv (show pw_dc M pc _ 1 = true from hc)
    obtain ⟨x, y, r, rfl, h2⟩ := pw_s2_inv (show pw_s2 st _ from hs)
    exact pw_x_iadd d1 (hKn nx d2 h2)
  | isub =>
    obtain ⟨d1, d2⟩ := pw_dc_inv (show pw_dc M pc _ 1 = true from hc)
    obtain ⟨x, y, r, rfl, h2⟩ := pw_s2_inv (show pw_s2 st _ from hs)
    exact pw_x_isub d1 (hKn nx d2 h2)
  | imul =>
    obtain ⟨d1, d2⟩ := pw_dc_inv (show pw_dc M pc _ 1 = true from hc)
    obtain ⟨x, y, r, rfl, h2⟩ := pw_s2_inv (show pw_s2 st _ from hs)
    exact pw_x_imul d1 (hKn nx d2 h2)
  | iand =>
    obtain ⟨d1, d2⟩ := pw_dc_inv (show pw_dc M pc _ 1 = true from hc)
    obtain ⟨x, y, r, rfl, h2⟩ := pw_s2_inv (show pw_s2 st _ from hs)
    exact pw_x_iand d1 (hKn nx d2 h2)
  | idiv =>
    obtain ⟨d1, d2⟩ := pw_dc_inv (show pw_dc M pc _ 1 = true from hc)
    obtain ⟨x, y, r, rfl, h1, h2⟩ := pw_s2_inv (show pw_s2 st _ from hs)
    exact pw_x_idiv d1 h1 (hKn nx d2 h2)
  | irem =>
    obtain ⟨d1, d2⟩ := pw_dc_inv (show pw_dc M pc _ 1 = true from hc)
    obtain ⟨x, y, r, rfl, h1, h2⟩ := pw_s2_inv (show pw_s2 st _ from hs)
    exact pw_x_irem d1 h1 (hKn nx d2 h2)
  | ineg =>
    obtain ⟨d1, d2⟩ := pw_dc_inv (show pw_dc M pc _ 1 = true from hc)
    obtain ⟨x, r, rfl, h2⟩ := pw_s1_inv (show pw_s1 st _ from hs)
    exact pw_x_ineg d1 (hKn nx d2 h2)
  | dup =>
    obtain ⟨d1, d2⟩ := pw_dc_inv (show pw_dc M pc _ 1 = true from hc)
    obtain ⟨v, r, rfl, h2⟩ := pw_sa_inv (show pw_sa st _ from hs)
    exact pw_x_dup d1 (hKn nx d2 h2)
  | pop =>
    obtain ⟨d1, d2⟩ := pw_dc_inv (show pw_dc M pc _ 1 = true from hc)
    obtain ⟨v, r, rfl, h2⟩ := pw_sa_inv (show pw_sa st _ from hs)
    exact pw_x_pop d1 (hKn nx d2 h2)
  | dup2 =>
    obtain ⟨d1, d2⟩ := pw_dc_inv (show pw_dc M pc _ 1 = true from hc)
    obtain ⟨v, r, rfl, h2⟩ := pw_sa_inv (show pw_sa st _ from hs)
    obtain ⟨w, r2, rfl, h3⟩ := pw_sa_inv h2
    exact pw_x_dup2 d1 (hKn nx d2 h3)
  | if_icmp cd o =>
    obtain ⟨hc1, hc2⟩ := Bool.and_eq_true_iff.mp (show (pw_dc M pc _ 3 && decide ((pc : Int) + o = (tg.2 : Int))) = true from hc)
    obtain ⟨d1, d2⟩ := pw_dc_inv hc1
    obtain ⟨x, y, r, rfl, h2⟩ := pw_s2_inv (show pw_s2 st _ from hs)
    exact pw_x_icmp d1 (of_decide_eq_true hc2) (pw_cc_mono h2 hkt (fun q => hKn nx d2 q))
  | ifCond cd o =>
    obtain ⟨hc1, hc2⟩ := Bool.and_eq_true_iff.mp (show (pw_dc M pc _ 3 && decide ((pc : Int) + o = (tg.2 : Int))) = true from hc)
    obtain ⟨d1, d2⟩ := pw_dc_inv hc1
    obtain ⟨x, r, rfl, h2⟩ := pw_s1_inv (show pw_s1 st _ from hs)
    exact pw_x_if d1 (of_decide_eq_true hc2) (pw_cc_mono h2 hkt (fun q => hKn nx d2 q))
  | ifnull o =>
    obtain ⟨hc1, hc2⟩ := Bool.and_eq_true_iff.mp (show (pw_dc M pc _ 3 && decide ((pc : Int) + o = (tg.2 : Int))) = true from hc)
    obtain ⟨d1, d2⟩ := pw_dc_inv hc1
    obtain ⟨x, r, rfl, h1, h2⟩ := pw_sr_inv (show pw_sr st _ from hs)
    exact pw_x_ifnull d1 (of_decide_eq_true hc2) ⟨fun q => hkt (h1 q), fun q => hKn nx d2 (h2 q)⟩
  | ifnonnull o =>
    obtain ⟨hc1, hc2⟩ := Bool.and_eq_true_iff.mp (show (pw_dc M pc _ 3 && decide ((pc : Int) + o = (tg.2 : Int))) = true from hc)
    obtain ⟨d1, d2⟩ := pw_dc_inv hc1
    obtain ⟨x, r, rfl, h1, h2⟩ := pw_sr_inv (show pw_sr st _ from hs)
    exact pw_x_ifnonnull d1 (of_decide_eq_true hc2) ⟨fun q => hkt (h1 q), fun q => hKn nx d2 (h2 q)⟩
  | goto o =>
    obtain ⟨hc1, hc2⟩ := Bool.and_eq_true_iff.mp (show (pw_dc M pc _ 3 && decide ((pc : Int) + o = (tg.2 : Int))) = true from hc)
    obtain ⟨d1, d2⟩ := pw_dc_inv hc1
    exact pw_x_goto d1 (of_decide_eq_true hc2) (hkt hs)
  | tableswitch d lo hi os =>
    have hc' : (((pw_dc M pc _ (nx.2 - pc) && decide ((pc : Int) + d = (tg.2 : Int))) && pw_tsk pc lo os.toList sw) && decide (hi + 1 = lo + (os.toList.length : Int))) = true := hc
    simp only [Bool.and_eq_true, decide_eq_true_eq] at hc'
    obtain ⟨⟨⟨c1, c2⟩, c3⟩, c4⟩ := hc'
    obtain ⟨d1, d2⟩ := pw_dc_inv c1
    obtain ⟨x, r, rfl, h2⟩ := pw_s1_inv (show pw_s1 st _ from hs)
    rcases pw_tab_inv sw lo os.toList c3 h2 with ⟨i, o, tt, w1, w2, w3, w4⟩ | ⟨w1, w2⟩
    · have hk := hKn tt rfl w4
      have hil : i < os.toList.length := (List.getElem?_eq_some_iff.mp w1).1
      intro p l e R s m args below meth c Z Ω C H locs cells slots Sl hH hS hc hs hL
      refine lv_tableIn C.1 C.2.1 d1 (by omega) (by omega) (off := o) ?_ w3 (hk p l e R s m args below meth c Z Ω C H locs cells slots Sl hH hS hc hs hL)
      rw [show (x.toInt - lo).toNat = i by omega, ← Array.getElem?_toList]
      exact w1
    · have hk := hkt w2
      intro p l e R s m args below meth c Z Ω C H locs cells slots Sl hH hS hc hs hL
      exact lv_tableOut C.1 C.2.1 d1 (by omega) c2 (hk p l e R s m args below meth c Z Ω C H locs cells slots Sl hH hS hc hs hL)
  | lookupswitch d ps =>
    have hc' : (((pw_dc M pc _ (nx.2 - pc) && decide ((pc : Int) + d = (tg.2 : Int))) && pw_lsk pc ps.toList sw) && (ps.toList.zip (ps.toList.drop 1)).all (fun (a, next) => decide (a.1 < next.1))) = true := hc
    simp only [Bool.and_eq_true, decide_eq_true_eq] at hc'
    obtain ⟨⟨⟨c1, c2⟩, c3⟩, c4⟩ := hc'
    obtain ⟨d1, d2⟩ := pw_dc_inv c1
    obtain ⟨x, r, rfl, h2⟩ := pw_s1_inv (show pw_s1 st _ from hs)
    obtain ⟨tt, w1, w2⟩ := pw_look_inv c2 sw ps.toList c3 h2
    have hk := hKn tt rfl w2
    intro p l e R s m args below meth c Z Ω C H locs cells slots Sl hH hS hc hs hL
    exact lv_lookup C.1 C.2.1 d1 c4 rfl w1 (hk p l e R s m args below meth c Z Ω C H locs cells slots Sl hH hS hc hs hL)
  | getfield idx =>
    obtain ⟨hc1, hc2⟩ := Bool.and_eq_true_iff.mp (show (pw_dc M pc _ 3 && pw_fck M idx _) = true from hc)
    obtain ⟨d1, d2⟩ := pw_dc_inv hc1
    obtain ⟨r, f1, f2, f3, f4, f5⟩ := pw_fck_inv hc2
    obtain ⟨n, rr, rfl, h1, h2⟩ := pw_sr_inv (show pw_sr st _ from hs)
    exact pw_x_get d1 f1 f2 f3 h1 (fun Ω => pw_get_fv f4 f5 Ω) (hKn nx d2 h2)
  | putfield idx =>
    have hc' : ((pw_dc M pc _ 3 && pw_fck M idx _) && pw_pck M idx _) = true := hc
    simp only [Bool.and_eq_true] at hc'
    obtain ⟨⟨c1, c2⟩, c3⟩ := hc'
    obtain ⟨d1, d2⟩ := pw_dc_inv c1
    obtain ⟨r, f1, f2, f3, f4, f5⟩ := pw_fck_inv c2
    have f6 := pw_pck_inv c3 f1
    obtain ⟨ci, k, rk⟩ := ax
    dsimp only at f1 f2 f3 f4 f5 f6
    have hs : pw_put rk st ci k h (fun r h' => K nx ls r h' bc bs) := hs
    have g := pw_rc_rf f5
    have e5i : ∀ (n : Nat) (x : Int32) (Ω : pw_O) (j : Nat), pw_rc ci k ≠ 1 → updV (pw_fv Ω h ci n) k (.int x) j = pw_fv Ω (pw_wi h n k x) ci n j := by
      intro n x Ω j hne
      unfold updV pw_fv
      rw [pw_wi_i, pw_wi_r]
      by_cases hj : j = k
      · subst hj
        rw [if_pos rfl, if_neg (fun z => hne (g.1.mp z)), if_pos ⟨rfl, rfl⟩]
      · simp [hj]
    match rk, f4, hs with
    | 0, f4, hs =>
      obtain ⟨n, x, rr, rfl, h1, h2⟩ := pw_sir_inv (show pw_sir st _ from hs)
      exact pw_x_put (v := .inl x) (h' := pw_wi h n k x) d1 f1 f2 f3 f6 h1 (fun Ω => by rw [g.2.1 f4.symm]; exact ⟨rfl, rfl⟩) rfl rfl (fun a ha j => by rw [pw_wi_i, if_neg (fun q => ha q.1)]) (fun a _ j => rfl) (fun Ω j => e5i n x Ω j (by omega)) (hKn nx d2 h2)
    | 1, f4, hs =>
      obtain ⟨n, x, rr, rfl, h1, h2⟩ := pw_srr_inv (show pw_srr st _ from hs)
      refine pw_x_put (v := .inr x) (h' := pw_wr h n k x) d1 f1 f2 f3 f6 h1 (fun Ω => ?_) rfl rfl (fun a ha j => rfl) (fun a ha j => by rw [pw_wr_r, if_neg (fun q => ha q.1)]) (fun Ω j => ?_) (hKn nx d2 h2)
      · rcases g.2.2.2 f4.symm with ⟨t, q⟩ | ⟨C, q⟩ <;> rcases pw_Vr Ω x with ⟨-, z⟩ | ⟨-, a, z⟩ <;> rw [q, z] <;> exact ⟨rfl, rfl⟩
      · unfold updV pw_fv
        rw [pw_wr_i, pw_wr_r]
        by_cases hj : j = k
        · subst hj
          rw [if_pos rfl, if_pos (g.1.mpr f4.symm), if_pos ⟨rfl, rfl⟩]
        · simp [hj]
    | m + 2, f4, hs =>
      obtain ⟨n, x, rr, rfl, h1, h01, h2⟩ := pw_sir_inv (show pw_sir st _ from hs)
      exact pw_x_put (v := .inl x) (h' := pw_wi h n k x) d1 f1 f2 f3 f6 h1 (fun Ω => by rw [g.2.2.1 (by omega)]; exact pw_nar01 h01) rfl rfl (fun a ha j => by rw [pw_wi_i, if_neg (fun q => ha q.1)]) (fun a _ j => rfl) (fun Ω j => e5i n x Ω j (by omega)) (hKn nx d2 h2)
  | iaload =>
    obtain ⟨d1, d2⟩ := pw_dc_inv (show pw_dc M pc _ 1 = true from hc)
    obtain ⟨n, i, r, rfl, h1, h2, h3⟩ := pw_sir_inv (show pw_sir st _ from hs)
    exact pw_x_iald d1 h1 h2 (hKn nx d2 h3)
  | baload =>
    obtain ⟨d1, d2⟩ := pw_dc_inv (show pw_dc M pc _ 1 = true from hc)
    obtain ⟨n, i, r, rfl, h1, h2, h3⟩ := pw_sir_inv (show pw_sir st _ from hs)
    exact pw_x_bald d1 h1 h2 (hKn nx d2 h3)
  | aaload =>
    obtain ⟨d1, d2⟩ := pw_dc_inv (show pw_dc M pc _ 1 = true from hc)
    obtain ⟨n, i, r, rfl, h1, h2, h3⟩ := pw_sir_inv (show pw_sir st _ from hs)
    exact pw_x_aald d1 h1 h2 (hKn nx d2 h3)
  | iastore =>
    obtain ⟨d1, d2⟩ := pw_dc_inv (show pw_dc M pc _ 1 = true from hc)
    obtain ⟨n, i, x, r, rfl, h1, h2, h3⟩ := pw_siir_inv (show pw_siir st _ from hs)
    exact pw_x_iast d1 h1 h2 (hKn nx d2 h3)
  | bastore =>
    obtain ⟨d1, d2⟩ := pw_dc_inv (show pw_dc M pc _ 1 = true from hc)
    obtain ⟨n, i, x, r, rfl, h1, h2, h3, h4⟩ := pw_siir_inv (show pw_siir st _ from hs)
    exact pw_x_bast d1 h1 h2 h3 (hKn nx d2 h4)
  | aastore =>
    obtain ⟨d1, d2⟩ := pw_dc_inv (show pw_dc M pc _ 1 = true from hc)
    obtain ⟨n, i, x, r, rfl, h1, h2, h3⟩ := pw_srir_inv (show pw_srir st _ from hs)
    exact pw_x_aast d1 h1 h2 (hKn nx d2 h3)
  | arraylength =>
    obtain ⟨d1, d2⟩ := pw_dc_inv (show pw_dc M pc _ 1 = true from hc)
    obtain ⟨n, r, rfl, h1, h2⟩ := pw_sr_inv (show pw_sr st _ from hs)
    exact pw_x_alen d1 h1 (hKn nx d2 h2)
  | newarray a =>
    have hc' : ((pw_dc M pc _ 2 && ((decide (a = .int) && decide (ax.1 = 1)) || (decide (a = .boolean) && decide (ax.1 = 2)))) && pw_lkw bx.2.2 (.arrayClass (newarray.typeOf a))) = true := hc
    simp only [Bool.and_eq_true, Bool.or_eq_true, decide_eq_true_eq] at hc'
    obtain ⟨⟨c1, c2⟩, c3⟩ := hc'
    obtain ⟨d1, d2⟩ := pw_dc_inv c1
    obtain ⟨x, r, rfl, h1, h2, h3, h4⟩ := pw_s1_inv (show pw_s1 st _ from hs)
    exact pw_x_newa d1 c2 (pw_lkw_in c3) h1 h2 h3 (hKn nx d2 h4)
  | anewarray idx =>
    have hc' : (pw_dc M pc _ 3 && ((decide (ax.1 = 3) && pw_lkw bx.2.2 (.classLink M.1.cls idx "ParkRows$Ride") && pw_lkw ax.2.1 (.arrayOver (.object "ParkRows$Ride"))) || (decide (ax.1 = 4) && pw_lkw bx.2.2 (.classLink M.1.cls idx "ParkRows$Group") && pw_lkw ax.2.1 (.arrayOver (.object "ParkRows$Group"))))) = true := hc
    simp only [Bool.and_eq_true, Bool.or_eq_true, decide_eq_true_eq] at hc'
    obtain ⟨c1, c2⟩ := hc'
    obtain ⟨d1, d2⟩ := pw_dc_inv c1
    obtain ⟨x, r, rfl, h1, h2, h3, h4⟩ := pw_s1_inv (show pw_s1 st _ from hs)
    rcases c2 with ⟨⟨e1, e2⟩, e3⟩ | ⟨⟨e1, e2⟩, e3⟩
    · exact pw_x_anew d1 "ParkRows$Ride" (Or.inl e1) (by rw [e1]; rfl) (pw_lkw_in e2) (pw_lkw_in e3) h1 h2 h3 (hKn nx d2 h4)
    · exact pw_x_anew d1 "ParkRows$Group" (Or.inr e1) (by rw [e1]; rfl) (pw_lkw_in e2) (pw_lkw_in e3) h1 h2 h3 (hKn nx d2 h4)
  | new idx =>
    obtain ⟨hc1, hc2⟩ := Bool.and_eq_true_iff.mp (show (pw_dc M pc _ 3 && (match pw_cl[ax.1]? with
      | some r => decide (ax.2.1 = r.2.2) && pw_lkw bx.2.2 (.classLink M.1.cls idx r.1) && pw_lkw bx.1 (.instantiable r.1 r.2.2) && pw_lkw bx.2.1 (.initialized r.1)
      | none => false)) = true from hc)
    obtain ⟨d1, d2⟩ := pw_dc_inv hc1
    split at hc2
    · rename_i r hr
      simp only [Bool.and_eq_true, decide_eq_true_eq] at hc2
      obtain ⟨⟨⟨e1, e2⟩, e3⟩, e4⟩ := hc2
      obtain ⟨h1, h2, h3⟩ := (show 1 ≤ bc ∧ ax.2.1 ≤ bs ∧ K nx ls (.inr (h.1 + 2) :: st) (pw_nw h (10 + ax.1) ax.2.1) (bc - 1) (bs - ax.2.1) from hs)
      rw [e1] at h2 h3
      exact pw_x_new d1 hr ⟨pw_lkw_in e2, pw_lkw_in e3, pw_lkw_in e4⟩ h1 h2 (hKn nx d2 h3)
    · cases hc2
  | invokevirtual idx =>
    have hc' : ((pw_dc M pc _ 3 && pw_cck M t idx _ 1 1) && pw_clk tg.2 (pw_md ax.1).1.cls) = true := hc
    simp only [Bool.and_eq_true] at hc'
    obtain ⟨⟨c1, c2⟩, c3⟩ := hc'
    obtain ⟨d1, d2⟩ := pw_dc_inv c1
    obtain ⟨q, g1, g2, g3, g4, g5, g6, g7⟩ := pw_cck_inv c2
    obtain ⟨q', j1, j2, j3, j4, j5, j6⟩ := pw_jall_inv (ht _ _ g1)
    cases j1.symm.trans g1
    obtain ⟨i1, i2⟩ := j5 g2
    obtain ⟨w1, w2, w3, w4, w5⟩ := (show pw_short ax.2.1 st ∧ bx.1 ≤ bc ∧ bx.2.1 ≤ bs ∧ pw_rcv tg.2 h (pw_pop ax.2.1 st).1 ∧ pw_ret ax.2.2 ax.1 (pw_pop ax.2.1 st).1 (pw_pop ax.2.1 st).2 h (fun r h' => K nx ls r h' (bc - bx.1) (bs - bx.2.1)) from hs)
    obtain ⟨n, as, ha, hkd⟩ := pw_rcv_inv w4
    obtain ⟨hlen, w1⟩ := pw_short_inv w1
    dsimp only at g3 g4 g5
    rw [g4] at w2 w5
    rw [g5] at w3 w5
    unfold pw_clk at c3
    split at c3
    · rename_i r hr
      have hr1 : r.1 = (pw_md ax.1).1.cls := of_decide_eq_true c3
      have hst := pw_pop_eq hlen
      have hln := pw_pop_len hlen
      rw [ha] at hst hln w5
      have hC := pw_C_mono (pw_ret_C w5) (Q' := fun v h' => pw_J M Q (pc + 3) ls (v.toList ++ (pw_pop ax.2.1 st).2) h' (bc - (pw_md ax.1).2.2.2.2.2.1) (bs - (pw_md ax.1).2.2.2.2.2.2)) (fun v h' z => hKn nx d2 z)
      have key := pw_x_virt d1 (as := as) (by rw [show as.length = q.1 by rw [List.length_cons] at hln; omega]; exact j2) (g7.elim Or.inl (fun z => Or.inr ⟨_, z.2⟩)) i1 (by rw [hr1]; exact i2) hr hkd g6 w1 w2 w3 hC
      rw [hst]
      simpa using key
    · cases c3
  | invokespecial idx =>
    obtain ⟨c1, c2⟩ := Bool.and_eq_true_iff.mp (show (pw_dc M pc _ 3 && (match ax.1 with
      | 1001 => pw_lkw bx.2.2 (.methodLink M.1.cls idx Lib.objectInit) && pw_lkw bx.1 (.instanceMethod Lib.objectInit) && pw_lkw bx.2.1 (.code Lib.objectInit ⟨#[0xb1]⟩ 1 none) && decide (1 ≤ M.2.2.2.2.1)
      | _ => pw_cck M t idx (.invokespecial idx, nx, tg, ax, bx, sw) 2 1)) = true from hc)
    obtain ⟨d1, d2⟩ := pw_dc_inv c1
    by_cases hax : ax.1 = 1001
    · obtain ⟨ax1, ax2⟩ := ax
      dsimp only at hax
      subst hax
      simp only [Bool.and_eq_true, decide_eq_true_eq] at c2
      obtain ⟨⟨⟨e1, e2⟩, e3⟩, e4⟩ := c2
      obtain ⟨n, r, rfl, h1, h2, h3⟩ := pw_sr_inv (show pw_sr st (fun n r => pw_short 0 r ∧ ¬ n = 0 ∧ K nx ls r h bc bs) from hs)
      exact pw_x_obj d1 ⟨pw_lkw_in e1, pw_lkw_in e2, pw_lkw_in e3⟩ e4 h1 h2 (hKn nx d2 h3)
    · have c2' : pw_cck M t idx (.invokespecial idx, nx, tg, ax, bx, sw) 2 1 = true := by
        split at c2
        · rename_i z; exact absurd z hax
        · exact c2
      obtain ⟨q, g1, g2, g3, g4, g5, g6, g7⟩ := pw_cck_inv c2'
      obtain ⟨q', j1, j2, j3, j4, j5, j6⟩ := pw_jall_inv (ht _ _ g1)
      cases j1.symm.trans g1
      obtain ⟨i1, i2, i3⟩ := j6 g2
      have hs' : pw_short ax.2.1 st ∧ bx.1 ≤ bc ∧ bx.2.1 ≤ bs ∧ pw_rcv tg.2 h (pw_pop ax.2.1 st).1 ∧ pw_ret ax.2.2 ax.1 (pw_pop ax.2.1 st).1 (pw_pop ax.2.1 st).2 h (fun r h' => K nx ls r h' (bc - bx.1) (bs - bx.2.1)) := by
        unfold pw_stp at hs
        dsimp only at hs
        split at hs
        · rename_i z; exact absurd z hax
        · exact hs
      obtain ⟨w1, w2, w3, w4, w5⟩ := hs'
      obtain ⟨n, as, ha, hkd⟩ := pw_rcv_inv w4
      obtain ⟨hlen, w1⟩ := pw_short_inv w1
      dsimp only at g3 g4 g5
      rw [g4] at w2 w5
      rw [g5] at w3 w5
      have hst := pw_pop_eq hlen
      have hln := pw_pop_len hlen
      rw [ha] at hst hln w5
      have hC := pw_C_mono (pw_ret_C w5) (Q' := fun v h' => pw_J M Q (pc + 3) ls (v.toList ++ (pw_pop ax.2.1 st).2) h' (bc - (pw_md ax.1).2.2.2.2.2.1) (bs - (pw_md ax.1).2.2.2.2.2.2)) (fun v h' z => hKn nx d2 z)
      have key := pw_x_spec d1 (as := as) (by rw [show as.length = q.1 by rw [List.length_cons] at hln; omega]; exact j2) (g7.elim Or.inl (fun z => Or.inr ⟨_, z.2⟩)) i1 i2 i3 (by omega) g6 w1 w2 w3 hC
      rw [hst]
      simpa using key
  | invokestatic idx =>
    obtain ⟨c1, c2⟩ := Bool.and_eq_true_iff.mp (show (pw_dc M pc _ 3 && (match ax.1 with
      | 1000 => pw_lkw bx.2.2 (.methodLink M.1.cls idx Lib.Math.max.name) && pw_lkw bx.1 (.static Lib.Math.max.name) && pw_lkw bx.2.1 (.initialized "java/lang/Math") && pw_lkw ax.2.1 (.code Lib.Math.max.name Lib.Math.max.code 2 (some .int)) && decide (1 ≤ M.2.2.2.2.1)
      | _ => pw_cck M t idx (.invokestatic idx, nx, tg, ax, bx, sw) 0 0)) = true from hc)
    obtain ⟨d1, d2⟩ := pw_dc_inv c1
    by_cases hax : ax.1 = 1000
    · obtain ⟨ax1, ax2⟩ := ax
      dsimp only at hax
      subst hax
      simp only [Bool.and_eq_true, decide_eq_true_eq] at c2
      obtain ⟨⟨⟨⟨e1, e2⟩, e3⟩, e4⟩, e5⟩ := c2
      obtain ⟨x, y, r, rfl, h1, h2⟩ := pw_s2_inv (show pw_s2 st (fun x y r => pw_short 0 r ∧ K nx ls (.inl (if x < y then y else x) :: r) h bc bs) from hs)
      exact pw_x_max d1 ⟨pw_lkw_in e1, pw_lkw_in e2, pw_lkw_in e3, pw_lkw_in e4⟩ e5 h1 (hKn nx d2 h2)
    · have c2' : pw_cck M t idx (.invokestatic idx, nx, tg, ax, bx, sw) 0 0 = true := by
        split at c2
        · rename_i z; exact absurd z hax
        · exact c2
      obtain ⟨q, g1, g2, g3, g4, g5, g6, g7⟩ := pw_cck_inv c2'
      obtain ⟨q', j1, j2, j3, j4, j5, j6⟩ := pw_jall_inv (ht _ _ g1)
      cases j1.symm.trans g1
      have i1 := j4 g2
      have hs' : pw_short ax.2.1 st ∧ bx.1 ≤ bc ∧ bx.2.1 ≤ bs ∧ pw_ret ax.2.2 ax.1 (pw_pop ax.2.1 st).1 (pw_pop ax.2.1 st).2 h (fun r h' => K nx ls r h' (bc - bx.1) (bs - bx.2.1)) := by
        unfold pw_stp at hs
        dsimp only at hs
        split at hs
        · rename_i z; exact absurd z hax
        · exact hs
      obtain ⟨w1, w2, w3, w5⟩ := hs'
      obtain ⟨hlen, w1⟩ := pw_short_inv w1
      dsimp only at g3 g4 g5
      rw [g4] at w2 w5
      rw [g5] at w3 w5
      have hst := pw_pop_eq hlen
      have hln := pw_pop_len hlen
      have hC := pw_C_mono (pw_ret_C w5) (Q' := fun v h' => pw_J M Q (pc + 3) ls (v.toList ++ (pw_pop ax.2.1 st).2) h' (bc - (pw_md ax.1).2.2.2.2.2.1) (bs - (pw_md ax.1).2.2.2.2.2.2)) (fun v h' z => hKn nx d2 z)
      have key := pw_x_stat d1 (by rw [hln, show ax.2.1 = q.1 by omega]; exact j2) (g7.elim id (fun z => absurd rfl z.1)) i1 g6 w1 w2 w3 hC
      rw [hst]
      exact key
  | ireturn =>
    obtain ⟨c1, c2⟩ := Bool.and_eq_true_iff.mp (show (pw_dc M pc _ 1 && ((decide (M.2.2.2.1 = some .int) && decide (ax.2.2 = 0)) || (decide (M.2.2.2.1 = some .boolean) && decide (ax.2.2 = 2)))) = true from hc)
    obtain ⟨d1, d2⟩ := pw_dc_inv c1
    simp only [Bool.and_eq_true, Bool.or_eq_true, decide_eq_true_eq] at c2
    have hs : pw_irt ax.2.2 st (fun v => Q (some (.inl v)) h) := hs
    match st, hs with
    | [.inl v], hs =>
      rcases c2 with ⟨e1, e2⟩ | ⟨e1, e2⟩
      · rw [e2] at hs
        exact pw_x_iret d1 (Or.inl e1) hs
      · rw [e2] at hs
        exact pw_x_iret d1 (Or.inr ⟨e1, hs.1⟩) hs.2
  | areturn =>
    obtain ⟨c1, c2⟩ := Bool.and_eq_true_iff.mp (show (pw_dc M pc _ 1 && (match M.2.2.2.1 with
      | some (.object _) => true
      | _ => false)) = true from hc)
    obtain ⟨d1, d2⟩ := pw_dc_inv c1
    have hs : pw_art st (fun v => Q (some (.inr v)) h) := hs
    match st, hs with
    | [.inr v], hs =>
      split at c2
      · rename_i C hC
        exact pw_x_aret d1 ⟨_, hC⟩ hs
      · cases c2
  | return_ =>
    obtain ⟨c1, c2⟩ := Bool.and_eq_true_iff.mp (show (pw_dc M pc _ 1 && decide (M.2.2.2.1 = none)) = true from hc)
    obtain ⟨d1, d2⟩ := pw_dc_inv c1
    have hs : pw_vrt st (Q none h) := hs
    match st, hs with
    | [], hs => exact pw_x_vret d1 (of_decide_eq_true c2) hs
  | _ => exact False.elim hs
def pw_fnd : List (Nat × pw_E) → Nat → pw_E
  | [], _ => (.nop, (false, 0), (false, 0), (0, 0, 0), (0, 0, 0), [])
  | q :: r, pc => match Nat.beq pc q.1 with
    | true => q.2
    | false => pw_fnd r pc
theorem pw_fnd_in : ∀ (P : List (Nat × pw_E)) (pc : Nat), (pc, pw_fnd P pc) ∈ P ∨ (pw_fnd P pc).1 = .nop
  | [], _ => Or.inr rfl
  | q :: r, pc => by
    unfold pw_fnd
    cases h : Nat.beq pc q.1 with
    | true => exact Or.inl (by rw [Nat.eq_of_beq_eq_true h]; exact List.mem_cons_self)
    | false => exact (pw_fnd_in r pc).imp (List.mem_cons_of_mem _) id
theorem pw_sound {t : List pw_Jt} (ht : pw_Tok t) {M : pw_M} {P : List (Nat × pw_E)} (hP : P.all (fun q => pw_chk t M q.1 q.2) = true) {Q : Option pw_A → pw_Hp → Prop} : ∀ (n pc : Nat) (ls : pw_Ls) (st : List pw_A) (h : pw_Hp) (bc bs : Nat), pw_wp (pw_fnd P) Q (pw_J M Q) n pc ls st h bc bs → pw_J M Q pc ls st h bc bs := by
  intro n
  induction n with
  | zero => intro pc ls st h bc bs hw; exact hw
  | succ n ih =>
    intro pc ls st h bc bs hw
    rcases pw_fnd_in P pc with hin | hnop
    · refine pw_step ht (e := pw_fnd P pc) (K := pw_go (pw_J M Q) (pw_wp (pw_fnd P) Q (pw_J M Q) n)) (List.all_eq_true.mp hP _ hin) (fun b q ls st h bc bs hk => ?_) hw
      cases b with
      | true => exact hk
      | false => exact ih q ls st h bc bs hk
    · have hw : pw_stp Q (pw_fnd P pc) (pw_go (pw_J M Q) (pw_wp (pw_fnd P) Q (pw_J M Q) n)) ls st h bc bs := hw
      unfold pw_stp at hw
      rw [hnop] at hw
      exact hw.elim
theorem pw_lgsl (Ω : pw_O) (as : List pw_A) : lg_sl (as.map (pw_V Ω)) = as.map (fun v => Slot.val (pw_V Ω v)) := by
  unfold lg_sl
  induction as with
  | nil => rfl
  | cons a r ih => rw [List.map_cons, List.flatMap_cons, ih, if_neg (by rw [pw_Vc]; decide)]; rfl
theorem pw_args_in (Ω : pw_O) : ∀ (as : List pw_A) (i k : Nat) (v : pw_A), as[k]? = some v → (i + k, pw_V Ω v) ∈ lv_args i (as.map (pw_V Ω))
  | [], i, k, v, h => by simp at h
  | a :: r, i, 0, v, h => by
    have : a = v := by simpa using h
    subst this
    rw [List.map_cons]
    unfold lv_args
    exact List.mem_cons_self
  | a :: r, i, k + 1, v, h => by
    have h' : r[k]? = some v := by simpa using h
    have g := pw_args_in Ω r (i + 1) k v h'
    rw [List.map_cons]
    unfold lv_args
    rw [if_neg (by rw [pw_Vc]; decide)]
    refine List.mem_cons_of_mem _ ?_
    rw [show i + (k + 1) = i + 1 + k by omega]
    exact g
/-- a method's contract out of its body -/
theorem pw_intro {j : Nat} {M : pw_M} {as : List pw_A} {ls : pw_Ls} {h : pw_Hp} {Q : Option pw_A → pw_Hp → Prop} (hM : pw_md j = M) (hpl : plainName M.1.cls = true) (hlen : as.length ≤ M.2.2.1) (hls : ls = as.map some ++ List.replicate (M.2.2.1 - as.length) none) (hJ : pw_J M Q 0 ls [] h M.2.2.2.2.2.1 M.2.2.2.2.2.2) : pw_C j as h Q := by
  intro l Ω
  rw [hM]
  refine Met.ofW (cc := M.2.1) (maxL := M.2.2.1) (ret := M.2.2.2.1) hpl rfl ?_
  intro p e s m args below meth c s₁ B hml hv
  obtain ⟨rfl, hK, hB, hH⟩ := hv
  have hx := B.exec
  have hb := B.bytes
  have hr := B.returns
  have hts := atoms_spec (ws := pw_ws M) B.pre
  have hown : s.vm.findClass M.1.cls = some m.cls := findClass_of_methodNamed B.named
  have hlocks := B.notSynchronized
  have hnm : meth.name = M.1.name := (name_of_methodNamed B.named B.method).1
  rw [lg_entry_eq]
  have hl := lv_entry (as.map (pw_V Ω)) (n := M.2.2.1) (by rw [pw_lgsl, List.length_map]; exact hlen)
  refine hJ p l e _ s m _ below meth c _ Ω ⟨hx, hb, hml, hown, fun w hw => hts w (List.mem_cons_of_mem _ hw), hK, hnm, ⟨Nat.le_refl _, Nat.le_refl _, Nat.le_refl _, Nat.le_refl _⟩, hB, ?_⟩ s.heap [] 0 0 _ hH va_S.rf (by omega) (by omega) ⟨hl.1, hl.2.1, fun k v hk => ?_, ?_⟩
  · intro H locs Sl pc h' hS hH'
    refine ⟨fun v hd hrv hq => ?_, fun v hd hrv hq => ?_, fun hd hrv hq => ?_⟩
    · rcases hrv with g | ⟨g, g2⟩
      · exact W.iret hx hb (hr.trans g) (fun t ht hW => ⟨⟨some (.inl v), h', rfl, hq, by rw [ht]; exact pw_H_moved hW.alike hH'⟩, hS.F ht⟩) hS.2.2 hd
      · exact W.zret hx hb (hr.trans g) (pw_nar01 g2).1 (fun t ht hW => ⟨⟨some (.inl v), h', rfl, hq, by rw [ht]; exact pw_H_moved hW.alike hH'⟩, hS.F ht⟩) hS.2.2 hd
    · obtain ⟨C, g⟩ := hrv
      refine W.aret hx hb (hr.trans g) (Or.inl ⟨_, rfl⟩) ?_ (fun t ht hW => ⟨⟨some (.inr v), h', rfl, hq, by rw [ht]; exact pw_H_moved hW.alike hH'⟩, hS.F ht⟩) hS.2.2 hd
      rcases pw_Vr Ω v with ⟨-, z⟩ | ⟨-, a, z⟩
      · exact Or.inl z
      · exact Or.inr ⟨a, z⟩
    · exact W.vret hx hb (hr.trans hrv) (fun t ht hW => ⟨⟨none, h', rfl, hq, by rw [ht]; exact pw_H_moved hW.alike hH'⟩, hS.F ht⟩) hS.2.2 hd
  · have hk2 : as[k]? = some v := by
      rw [hls] at hk
      unfold pw_nth at hk
      by_cases hkl : k < as.length
      · rw [List.getElem?_append_left (by rw [List.length_map]; exact hkl), List.getElem?_map] at hk
        cases hq : as[k]? with
        | none => rw [hq] at hk; simp at hk
        | some w => rw [hq] at hk; simp at hk; rw [hk]
      · rw [List.getElem?_append_right (by rw [List.length_map]; omega)] at hk
        rw [List.getElem?_replicate] at hk
        split at hk <;> simp at hk
    have g := pw_args_in Ω as 0 k v hk2
    rw [Nat.zero_add] at g
    exact hl.2.2 _ g
  · rw [hls]
    simp
    omega
end
section
/-! rewriting rules: what a stretch of code asks -/
def pw_sh (r : List pw_A) : Prop := r.length ≤ 8
theorem pv_stp :
  (∀ (Q : Option pw_A → pw_Hp → Prop) (K : pw_Kt) (ls : pw_Ls) (st : List pw_A) (h : pw_Hp) (bc bs : Nat) (nx tg : Bool × Nat) (ax bx : Nat × Nat × Nat) (sw : List (Int32 × (Bool × Nat))), pw_stp Q (.iload_n 0, nx, tg, ax, bx, sw) K ls st h bc bs = (pw_li (pw_nth 0 ls) fun x => K nx ls (.inl x :: st) h bc bs)) ∧
  (∀ (Q : Option pw_A → pw_Hp → Prop) (K : pw_Kt) (ls : pw_Ls) (st : List pw_A) (h : pw_Hp) (bc bs : Nat) (nx tg : Bool × Nat) (ax bx : Nat × Nat × Nat) (sw : List (Int32 × (Bool × Nat))), pw_stp Q (.aload_n 0, nx, tg, ax, bx, sw) K ls st h bc bs = (pw_lr (pw_nth 0 ls) fun x => K nx ls (.inr x :: st) h bc bs)) ∧
  (∀ (Q : Option pw_A → pw_Hp → Prop) (K : pw_Kt) (ls : pw_Ls) (st : List pw_A) (h : pw_Hp) (bc bs : Nat) (nx tg : Bool × Nat) (ax bx : Nat × Nat × Nat) (sw : List (Int32 × (Bool × Nat))), pw_stp Q (.istore_n 0, nx, tg, ax, bx, sw) K ls st h bc bs = (pw_s1 st fun x r => K nx (ls.set 0 (some (.inl x))) r h bc bs)) ∧
  (∀ (Q : Option pw_A → pw_Hp → Prop) (K : pw_Kt) (ls : pw_Ls) (st : List pw_A) (h : pw_Hp) (bc bs : Nat) (nx tg : Bool × Nat) (ax bx : Nat × Nat × Nat) (sw : List (Int32 × (Bool × Nat))), pw_stp Q (.astore_n 0, nx, tg, ax, bx, sw) K ls st h bc bs = (pw_sr st fun x r => K nx (ls.set 0 (some (.inr x))) r h bc bs)) ∧
  (∀ (Q : Option pw_A → pw_Hp → Prop) (K : pw_Kt) (ls : pw_Ls) (st : List pw_A) (h : pw_Hp) (bc bs : Nat) (nx tg : Bool × Nat) (ax bx : Nat × Nat × Nat) (sw : List (Int32 × (Bool × Nat))), pw_stp Q (.iload_n 1, nx, tg, ax, bx, sw) K ls st h bc bs = (pw_li (pw_nth 1 ls) fun x => K nx ls (.inl x :: st) h bc bs)) ∧
  (∀ (Q : Option pw_A → pw_Hp → Prop) (K : pw_Kt) (ls : pw_Ls) (st : List pw_A) (h : pw_Hp) (bc bs : Nat) (nx tg : Bool × Nat) (ax bx : Nat × Nat × Nat) (sw : List (Int32 × (Bool × Nat))), pw_stp Q (.aload_n 1, nx, tg, ax, bx, sw) K ls st h bc bs = (pw_lr (pw_nth 1 ls) fun x => K nx ls (.inr x :: st) h bc bs)) ∧
  (∀ (Q : Option pw_A → pw_Hp → Prop) (K : pw_Kt) (ls : pw_Ls) (st : List pw_A) (h : pw_Hp) (bc bs : Nat) (nx tg : Bool × Nat) (ax bx : Nat × Nat × Nat) (sw : List (Int32 × (Bool × Nat))), pw_stp Q (.istore_n 1, nx, tg, ax, bx, sw) K ls st h bc bs = (pw_s1 st fun x r => K nx (ls.set 1 (some (.inl x))) r h bc bs)) ∧
  (∀ (Q : Option pw_A → pw_Hp → Prop) (K : pw_Kt) (ls : pw_Ls) (st : List pw_A) (h : pw_Hp) (bc bs : Nat) (nx tg : Bool × Nat) (ax bx : Nat × Nat × Nat) (sw : List (Int32 × (Bool × Nat))), pw_stp Q (.astore_n 1, nx, tg, ax, bx, sw) K ls st h bc bs = (pw_sr st fun x r => K nx (ls.set 1 (some (.inr x))) r h bc bs)) ∧
  (∀ (Q : Option pw_A → pw_Hp → Prop) (K : pw_Kt) (ls : pw_Ls) (st : List pw_A) (h : pw_Hp) (bc bs : Nat) (nx tg : Bool × Nat) (ax bx : Nat × Nat × Nat) (sw : List (Int32 × (Bool × Nat))), pw_stp Q (.iload_n 2, nx, tg, ax, bx, sw) K ls st h bc bs = (pw_li (pw_nth 2 ls) fun x => K nx ls (.inl x :: st) h bc bs)) ∧
  (∀ (Q : Option pw_A → pw_Hp → Prop) (K : pw_Kt) (ls : pw_Ls) (st : List pw_A) (h : pw_Hp) (bc bs : Nat) (nx tg : Bool × Nat) (ax bx : Nat × Nat × Nat) (sw : List (Int32 × (Bool × Nat))), pw_stp Q (.aload_n 2, nx, tg, ax, bx, sw) K ls st h bc bs = (pw_lr (pw_nth 2 ls) fun x => K nx ls (.inr x :: st) h bc bs)) ∧
  (∀ (Q : Option pw_A → pw_Hp → Prop) (K : pw_Kt) (ls : pw_Ls) (st : List pw_A) (h : pw_Hp) (bc bs : Nat) (nx tg : Bool × Nat) (ax bx : Nat × Nat × Nat) (sw : List (Int32 × (Bool × Nat))), pw_stp Q (.istore_n 2, nx, tg, ax, bx, sw) K ls st h bc bs = (pw_s1 st fun x r => K nx (ls.set 2 (some (.inl x))) r h bc bs)) ∧
  (∀ (Q : Option pw_A → pw_Hp → Prop) (K : pw_Kt) (ls : pw_Ls) (st : List pw_A) (h : pw_Hp) (bc bs : Nat) (nx tg : Bool × Nat) (ax bx : Nat × Nat × Nat) (sw : List (Int32 × (Bool × Nat))), pw_stp Q (.astore_n 2, nx, tg, ax, bx, sw) K ls st h bc bs = (pw_sr st fun x r => K nx (ls.set 2 (some (.inr x))) r h bc bs)) ∧
  (∀ (Q : Option pw_A → pw_Hp → Prop) (K : pw_Kt) (ls : pw_Ls) (st : List pw_A) (h : pw_Hp) (bc bs : Nat) (nx tg : Bool × Nat) (ax bx : Nat × Nat × Nat) (sw : List (Int32 × (Bool × Nat))), pw_stp Q (.iload_n 3, nx, tg, ax, bx, sw) K ls st h bc bs = (pw_li (pw_nth 3 ls) fun x => K nx ls (.inl x :: st) h bc bs)) ∧
  (∀ (Q : Option pw_A → pw_Hp → Prop) (K : pw_Kt) (ls : pw_Ls) (st : List pw_A) (h : pw_Hp) (bc bs : Nat) (nx tg : Bool × Nat) (ax bx : Nat × Nat × Nat) (sw : List (Int32 × (Bool × Nat))), pw_stp Q (.aload_n 3, nx, tg, ax, bx, sw) K ls st h bc bs = (pw_lr (pw_nth 3 ls) fun x => K nx ls (.inr x :: st) h bc bs)) ∧
  (∀ (Q : Option pw_A → pw_Hp → Prop) (K : pw_Kt) (ls : pw_Ls) (st : List pw_A) (h : pw_Hp) (bc bs : Nat) (nx tg : Bool × Nat) (ax bx : Nat × Nat × Nat) (sw : List (Int32 × (Bool × Nat))), pw_stp Q (.istore_n 3, nx, tg, ax, bx, sw) K ls st h bc bs = (pw_s1 st fun x r => K nx (ls.set 3 (some (.inl x))) r h bc bs)) ∧
  (∀ (Q : Option pw_A → pw_Hp → Prop) (K : pw_Kt) (ls : pw_Ls) (st : List pw_A) (h : pw_Hp) (bc bs : Nat) (nx tg : Bool × Nat) (ax bx : Nat × Nat × Nat) (sw : List (Int32 × (Bool × Nat))), pw_stp Q (.astore_n 3, nx, tg, ax, bx, sw) K ls st h bc bs = (pw_sr st fun x r => K nx (ls.set 3 (some (.inr x))) r h bc bs)) ∧
  (∀ (Q : Option pw_A → pw_Hp → Prop) (K : pw_Kt) (ls : pw_Ls) (st : List pw_A) (h : pw_Hp) (bc bs : Nat) (nx tg : Bool × Nat) (ax bx : Nat × Nat × Nat) (sw : List (Int32 × (Bool × Nat))) (k : Nat), pw_stp Q (.iload k, nx, tg, ax, bx, sw) K ls st h bc bs = (pw_li (pw_nth k ls) fun x => K nx ls (.inl x :: st) h bc bs)) ∧
  (∀ (Q : Option pw_A → pw_Hp → Prop) (K : pw_Kt) (ls : pw_Ls) (st : List pw_A) (h : pw_Hp) (bc bs : Nat) (nx tg : Bool × Nat) (ax bx : Nat × Nat × Nat) (sw : List (Int32 × (Bool × Nat))) (k : Nat), pw_stp Q (.aload k, nx, tg, ax, bx, sw) K ls st h bc bs = (pw_lr (pw_nth k ls) fun x => K nx ls (.inr x :: st) h bc bs)) ∧
  (∀ (Q : Option pw_A → pw_Hp → Prop) (K : pw_Kt) (ls : pw_Ls) (st : List pw_A) (h : pw_Hp) (bc bs : Nat) (nx tg : Bool × Nat) (ax bx : Nat × Nat × Nat) (sw : List (Int32 × (Bool × Nat))) (k : Nat), pw_stp Q (.istore k, nx, tg, ax, bx, sw) K ls st h bc bs = (pw_s1 st fun x r => K nx (ls.set k (some (.inl x))) r h bc bs)) ∧
  (∀ (Q : Option pw_A → pw_Hp → Prop) (K : pw_Kt) (ls : pw_Ls) (st : List pw_A) (h : pw_Hp) (bc bs : Nat) (nx tg : Bool × Nat) (ax bx : Nat × Nat × Nat) (sw : List (Int32 × (Bool × Nat))) (k : Nat), pw_stp Q (.astore k, nx, tg, ax, bx, sw) K ls st h bc bs = (pw_sr st fun x r => K nx (ls.set k (some (.inr x))) r h bc bs)) ∧
  (∀ (Q : Option pw_A → pw_Hp → Prop) (K : pw_Kt) (ls : pw_Ls) (st : List pw_A) (h : pw_Hp) (bc bs : Nat) (nx tg : Bool × Nat) (ax bx : Nat × Nat × Nat) (sw : List (Int32 × (Bool × Nat))) (k : Nat) (n : Int), pw_stp Q (.iinc k n, nx, tg, ax, bx, sw) K ls st h bc bs = (pw_li (pw_nth k ls) fun x => K nx (ls.set k (some (.inl (x + pw_cv sw)))) st h bc bs)) ∧
  (∀ (Q : Option pw_A → pw_Hp → Prop) (K : pw_Kt) (ls : pw_Ls) (st : List pw_A) (h : pw_Hp) (bc bs : Nat) (nx tg : Bool × Nat) (ax bx : Nat × Nat × Nat) (sw : List (Int32 × (Bool × Nat))) (n : Int), pw_stp Q (.iconst n, nx, tg, ax, bx, sw) K ls st h bc bs = (K nx ls (.inl (pw_cv sw) :: st) h bc bs)) ∧
  (∀ (Q : Option pw_A → pw_Hp → Prop) (K : pw_Kt) (ls : pw_Ls) (st : List pw_A) (h : pw_Hp) (bc bs : Nat) (nx tg : Bool × Nat) (ax bx : Nat × Nat × Nat) (sw : List (Int32 × (Bool × Nat))) (n : Int), pw_stp Q (.bipush n, nx, tg, ax, bx, sw) K ls st h bc bs = (K nx ls (.inl (pw_cv sw) :: st) h bc bs)) ∧
  (∀ (Q : Option pw_A → pw_Hp → Prop) (K : pw_Kt) (ls : pw_Ls) (st : List pw_A) (h : pw_Hp) (bc bs : Nat) (nx tg : Bool × Nat) (ax bx : Nat × Nat × Nat) (sw : List (Int32 × (Bool × Nat))) (n : Int), pw_stp Q (.sipush n, nx, tg, ax, bx, sw) K ls st h bc bs = (K nx ls (.inl (pw_cv sw) :: st) h bc bs)) ∧
  (∀ (Q : Option pw_A → pw_Hp → Prop) (K : pw_Kt) (ls : pw_Ls) (st : List pw_A) (h : pw_Hp) (bc bs : Nat) (nx tg : Bool × Nat) (ax bx : Nat × Nat × Nat) (sw : List (Int32 × (Bool × Nat))), pw_stp Q (.aconst_null, nx, tg, ax, bx, sw) K ls st h bc bs = (K nx ls (.inr 0 :: st) h bc bs)) ∧
  (∀ (Q : Option pw_A → pw_Hp → Prop) (K : pw_Kt) (ls : pw_Ls) (st : List pw_A) (h : pw_Hp) (bc bs : Nat) (nx tg : Bool × Nat) (ax bx : Nat × Nat × Nat) (sw : List (Int32 × (Bool × Nat))), pw_stp Q (.iadd, nx, tg, ax, bx, sw) K ls st h bc bs = (pw_s2 st fun x y r => K nx ls (.inl (x + y) :: r) h bc bs)) ∧
  (∀ (Q : Option pw_A → pw_Hp → Prop) (K : pw_Kt) (ls : pw_Ls) (st : List pw_A) (h : pw_Hp) (bc bs : Nat) (nx tg : Bool × Nat) (ax bx : Nat × Nat × Nat) (sw : List (Int32 × (Bool × Nat))), pw_stp Q (.isub, nx, tg, ax, bx, sw) K ls st h bc bs = (pw_s2 st fun x y r => K nx ls (.inl (x - y) :: r) h bc bs)) ∧
  (∀ (Q : Option pw_A → pw_Hp → Prop) (K : pw_Kt) (ls : pw_Ls) (st : List pw_A) (h : pw_Hp) (bc bs : Nat) (nx tg : Bool × Nat) (ax bx : Nat × Nat × Nat) (sw : List (Int32 × (Bool × Nat))), pw_stp Q (.imul, nx, tg, ax, bx, sw) K ls st h bc bs = (pw_s2 st fun x y r => K nx ls (.inl (x * y) :: r) h bc bs)) ∧
  (∀ (Q : Option pw_A → pw_Hp → Prop) (K : pw_Kt) (ls : pw_Ls) (st : List pw_A) (h : pw_Hp) (bc bs : Nat) (nx tg : Bool × Nat) (ax bx : Nat × Nat × Nat) (sw : List (Int32 × (Bool × Nat))), pw_stp Q (.iand, nx, tg, ax, bx, sw) K ls st h bc bs = (pw_s2 st fun x y r => K nx ls (.inl (x &&& y) :: r) h bc bs)) ∧
  (∀ (Q : Option pw_A → pw_Hp → Prop) (K : pw_Kt) (ls : pw_Ls) (st : List pw_A) (h : pw_Hp) (bc bs : Nat) (nx tg : Bool × Nat) (ax bx : Nat × Nat × Nat) (sw : List (Int32 × (Bool × Nat))), pw_stp Q (.idiv, nx, tg, ax, bx, sw) K ls st h bc bs = (pw_s2 st fun x y r => ¬ y = 0 ∧ K nx ls (.inl (x / y) :: r) h bc bs)) ∧
  (∀ (Q : Option pw_A → pw_Hp → Prop) (K : pw_Kt) (ls : pw_Ls) (st : List pw_A) (h : pw_Hp) (bc bs : Nat) (nx tg : Bool × Nat) (ax bx : Nat × Nat × Nat) (sw : List (Int32 × (Bool × Nat))), pw_stp Q (.irem, nx, tg, ax, bx, sw) K ls st h bc bs = (pw_s2 st fun x y r => ¬ y = 0 ∧ K nx ls (.inl (x - x / y * y) :: r) h bc bs)) ∧
  (∀ (Q : Option pw_A → pw_Hp → Prop) (K : pw_Kt) (ls : pw_Ls) (st : List pw_A) (h : pw_Hp) (bc bs : Nat) (nx tg : Bool × Nat) (ax bx : Nat × Nat × Nat) (sw : List (Int32 × (Bool × Nat))), pw_stp Q (.ineg, nx, tg, ax, bx, sw) K ls st h bc bs = (pw_s1 st fun x r => K nx ls (.inl (-x) :: r) h bc bs)) ∧
  (∀ (Q : Option pw_A → pw_Hp → Prop) (K : pw_Kt) (ls : pw_Ls) (st : List pw_A) (h : pw_Hp) (bc bs : Nat) (nx tg : Bool × Nat) (ax bx : Nat × Nat × Nat) (sw : List (Int32 × (Bool × Nat))), pw_stp Q (.dup, nx, tg, ax, bx, sw) K ls st h bc bs = (pw_sa st fun v r => K nx ls (v :: v :: r) h bc bs)) ∧
  (∀ (Q : Option pw_A → pw_Hp → Prop) (K : pw_Kt) (ls : pw_Ls) (st : List pw_A) (h : pw_Hp) (bc bs : Nat) (nx tg : Bool × Nat) (ax bx : Nat × Nat × Nat) (sw : List (Int32 × (Bool × Nat))), pw_stp Q (.pop, nx, tg, ax, bx, sw) K ls st h bc bs = (pw_sa st fun _ r => K nx ls r h bc bs)) ∧
  (∀ (Q : Option pw_A → pw_Hp → Prop) (K : pw_Kt) (ls : pw_Ls) (st : List pw_A) (h : pw_Hp) (bc bs : Nat) (nx tg : Bool × Nat) (ax bx : Nat × Nat × Nat) (sw : List (Int32 × (Bool × Nat))), pw_stp Q (.dup2, nx, tg, ax, bx, sw) K ls st h bc bs = (pw_sa st fun v r => pw_sa r fun w r => K nx ls (v :: w :: v :: w :: r) h bc bs)) ∧
  (∀ (Q : Option pw_A → pw_Hp → Prop) (K : pw_Kt) (ls : pw_Ls) (st : List pw_A) (h : pw_Hp) (bc bs : Nat) (nx tg : Bool × Nat) (ax bx : Nat × Nat × Nat) (sw : List (Int32 × (Bool × Nat))) (c : Jvm.ClassFile.Cond) (o : Int), pw_stp Q (.if_icmp c o, nx, tg, ax, bx, sw) K ls st h bc bs = (pw_s2 st fun x y r => pw_cc c x y (K tg ls r h bc bs) (K nx ls r h bc bs))) ∧
  (∀ (Q : Option pw_A → pw_Hp → Prop) (K : pw_Kt) (ls : pw_Ls) (st : List pw_A) (h : pw_Hp) (bc bs : Nat) (nx tg : Bool × Nat) (ax bx : Nat × Nat × Nat) (sw : List (Int32 × (Bool × Nat))) (c : Jvm.ClassFile.Cond) (o : Int), pw_stp Q (.ifCond c o, nx, tg, ax, bx, sw) K ls st h bc bs = (pw_s1 st fun x r => pw_cc c x 0 (K tg ls r h bc bs) (K nx ls r h bc bs))) ∧
  (∀ (Q : Option pw_A → pw_Hp → Prop) (K : pw_Kt) (ls : pw_Ls) (st : List pw_A) (h : pw_Hp) (bc bs : Nat) (nx tg : Bool × Nat) (ax bx : Nat × Nat × Nat) (sw : List (Int32 × (Bool × Nat))) (o : Int), pw_stp Q (.ifnull o, nx, tg, ax, bx, sw) K ls st h bc bs = (pw_sr st fun n r => (n = 0 → K tg ls r h bc bs) ∧ (¬ n = 0 → K nx ls r h bc bs))) ∧
  (∀ (Q : Option pw_A → pw_Hp → Prop) (K : pw_Kt) (ls : pw_Ls) (st : List pw_A) (h : pw_Hp) (bc bs : Nat) (nx tg : Bool × Nat) (ax bx : Nat × Nat × Nat) (sw : List (Int32 × (Bool × Nat))) (o : Int), pw_stp Q (.ifnonnull o, nx, tg, ax, bx, sw) K ls st h bc bs = (pw_sr st fun n r => (¬ n = 0 → K tg ls r h bc bs) ∧ (n = 0 → K nx ls r h bc bs))) ∧
  (∀ (Q : Option pw_A → pw_Hp → Prop) (K : pw_Kt) (ls : pw_Ls) (st : List pw_A) (h : pw_Hp) (bc bs : Nat) (nx tg : Bool × Nat) (ax bx : Nat × Nat × Nat) (sw : List (Int32 × (Bool × Nat))) (o : Int), pw_stp Q (.goto o, nx, tg, ax, bx, sw) K ls st h bc bs = (K tg ls st h bc bs)) ∧
  (∀ (Q : Option pw_A → pw_Hp → Prop) (K : pw_Kt) (ls : pw_Ls) (st : List pw_A) (h : pw_Hp) (bc bs : Nat) (nx tg : Bool × Nat) (ax bx : Nat × Nat × Nat) (sw : List (Int32 × (Bool × Nat))) (d lo hi : Int) (os : Array Int), pw_stp Q (.tableswitch d lo hi os, nx, tg, ax, bx, sw) K ls st h bc bs = (pw_s1 st fun x r => pw_sw x (fun t => K t ls r h bc bs) tg sw)) ∧
  (∀ (Q : Option pw_A → pw_Hp → Prop) (K : pw_Kt) (ls : pw_Ls) (st : List pw_A) (h : pw_Hp) (bc bs : Nat) (nx tg : Bool × Nat) (ax bx : Nat × Nat × Nat) (sw : List (Int32 × (Bool × Nat))) (d : Int) (ps : Array (Int × Int)), pw_stp Q (.lookupswitch d ps, nx, tg, ax, bx, sw) K ls st h bc bs = (pw_s1 st fun x r => pw_sw x (fun t => K t ls r h bc bs) tg sw)) ∧
  (∀ (Q : Option pw_A → pw_Hp → Prop) (K : pw_Kt) (ls : pw_Ls) (st : List pw_A) (h : pw_Hp) (bc bs : Nat) (nx tg : Bool × Nat) (bx : Nat × Nat × Nat) (sw : List (Int32 × (Bool × Nat))) (i ci k rk : Nat), pw_stp Q (.getfield i, nx, tg, (ci, k, rk), bx, sw) K ls st h bc bs = (pw_sr st fun n r => pw_k h n = 10 + ci ∧ K nx ls (pw_get rk h n k :: r) h bc bs)) ∧
  (∀ (Q : Option pw_A → pw_Hp → Prop) (K : pw_Kt) (ls : pw_Ls) (st : List pw_A) (h : pw_Hp) (bc bs : Nat) (nx tg : Bool × Nat) (bx : Nat × Nat × Nat) (sw : List (Int32 × (Bool × Nat))) (i ci k rk : Nat), pw_stp Q (.putfield i, nx, tg, (ci, k, rk), bx, sw) K ls st h bc bs = (pw_put rk st ci k h (fun r h' => K nx ls r h' bc bs))) ∧
  (∀ (Q : Option pw_A → pw_Hp → Prop) (K : pw_Kt) (ls : pw_Ls) (st : List pw_A) (h : pw_Hp) (bc bs : Nat) (nx tg : Bool × Nat) (ax bx : Nat × Nat × Nat) (sw : List (Int32 × (Bool × Nat))), pw_stp Q (.iaload, nx, tg, ax, bx, sw) K ls st h bc bs = (pw_sir st fun n i r => (pw_k h n = 1 ∨ pw_k h n = 5) ∧ pw_at i (pw_n h n) ∧ K nx ls (.inl (pw_i h n i.toNatClampNeg) :: r) h bc bs)) ∧
  (∀ (Q : Option pw_A → pw_Hp → Prop) (K : pw_Kt) (ls : pw_Ls) (st : List pw_A) (h : pw_Hp) (bc bs : Nat) (nx tg : Bool × Nat) (ax bx : Nat × Nat × Nat) (sw : List (Int32 × (Bool × Nat))), pw_stp Q (.baload, nx, tg, ax, bx, sw) K ls st h bc bs = (pw_sir st fun n i r => pw_k h n = 2 ∧ pw_at i (pw_n h n) ∧ K nx ls (.inl (pw_i h n i.toNatClampNeg) :: r) h bc bs)) ∧
  (∀ (Q : Option pw_A → pw_Hp → Prop) (K : pw_Kt) (ls : pw_Ls) (st : List pw_A) (h : pw_Hp) (bc bs : Nat) (nx tg : Bool × Nat) (ax bx : Nat × Nat × Nat) (sw : List (Int32 × (Bool × Nat))), pw_stp Q (.aaload, nx, tg, ax, bx, sw) K ls st h bc bs = (pw_sir st fun n i r => (pw_k h n = 3 ∨ pw_k h n = 4) ∧ pw_at i (pw_n h n) ∧ K nx ls (.inr (pw_r h n i.toNatClampNeg) :: r) h bc bs)) ∧
  (∀ (Q : Option pw_A → pw_Hp → Prop) (K : pw_Kt) (ls : pw_Ls) (st : List pw_A) (h : pw_Hp) (bc bs : Nat) (nx tg : Bool × Nat) (ax bx : Nat × Nat × Nat) (sw : List (Int32 × (Bool × Nat))), pw_stp Q (.iastore, nx, tg, ax, bx, sw) K ls st h bc bs = (pw_siir st fun n i x r => pw_k h n = 1 ∧ pw_at i (pw_n h n) ∧ K nx ls r (pw_wi h n i.toNatClampNeg x) bc bs)) ∧
  (∀ (Q : Option pw_A → pw_Hp → Prop) (K : pw_Kt) (ls : pw_Ls) (st : List pw_A) (h : pw_Hp) (bc bs : Nat) (nx tg : Bool × Nat) (ax bx : Nat × Nat × Nat) (sw : List (Int32 × (Bool × Nat))), pw_stp Q (.bastore, nx, tg, ax, bx, sw) K ls st h bc bs = (pw_siir st fun n i x r => pw_k h n = 2 ∧ pw_at i (pw_n h n) ∧ (x = 0 ∨ x = 1) ∧ K nx ls r (pw_wi h n i.toNatClampNeg x) bc bs)) ∧
  (∀ (Q : Option pw_A → pw_Hp → Prop) (K : pw_Kt) (ls : pw_Ls) (st : List pw_A) (h : pw_Hp) (bc bs : Nat) (nx tg : Bool × Nat) (ax bx : Nat × Nat × Nat) (sw : List (Int32 × (Bool × Nat))), pw_stp Q (.aastore, nx, tg, ax, bx, sw) K ls st h bc bs = (pw_srir st fun n i q r => ((pw_k h n = 3 ∧ pw_k h q = 11) ∨ (pw_k h n = 4 ∧ pw_k h q = 10)) ∧ pw_at i (pw_n h n) ∧ K nx ls r (pw_wr h n i.toNatClampNeg q) bc bs)) ∧
  (∀ (Q : Option pw_A → pw_Hp → Prop) (K : pw_Kt) (ls : pw_Ls) (st : List pw_A) (h : pw_Hp) (bc bs : Nat) (nx tg : Bool × Nat) (ax bx : Nat × Nat × Nat) (sw : List (Int32 × (Bool × Nat))), pw_stp Q (.arraylength, nx, tg, ax, bx, sw) K ls st h bc bs = (pw_sr st fun n r => (pw_k h n = 1 ∨ pw_k h n = 2 ∨ pw_k h n = 3 ∨ pw_k h n = 4 ∨ pw_k h n = 5) ∧ K nx ls (.inl (nI (pw_n h n)) :: r) h bc bs)) ∧
  (∀ (Q : Option pw_A → pw_Hp → Prop) (K : pw_Kt) (ls : pw_Ls) (st : List pw_A) (h : pw_Hp) (bc bs : Nat) (nx tg : Bool × Nat) (bx : Nat × Nat × Nat) (sw : List (Int32 × (Bool × Nat))) (a : ArrayType) (kd q w : Nat), pw_stp Q (.newarray a, nx, tg, (kd, q, w), bx, sw) K ls st h bc bs = (pw_s1 st fun x r => (¬ x < 0 ∧ x.toNatClampNeg ≤ 10000) ∧ 1 ≤ bc ∧ x.toNatClampNeg ≤ bs ∧ K nx ls (.inr (h.1 + 2) :: r) (pw_nw h kd x.toNatClampNeg) (bc - 1) (bs - x.toNatClampNeg))) ∧
  (∀ (Q : Option pw_A → pw_Hp → Prop) (K : pw_Kt) (ls : pw_Ls) (st : List pw_A) (h : pw_Hp) (bc bs : Nat) (nx tg : Bool × Nat) (bx : Nat × Nat × Nat) (sw : List (Int32 × (Bool × Nat))) (a : Nat) (kd q w : Nat), pw_stp Q (.anewarray a, nx, tg, (kd, q, w), bx, sw) K ls st h bc bs = (pw_s1 st fun x r => (¬ x < 0 ∧ x.toNatClampNeg ≤ 10000) ∧ 1 ≤ bc ∧ x.toNatClampNeg ≤ bs ∧ K nx ls (.inr (h.1 + 2) :: r) (pw_nw h kd x.toNatClampNeg) (bc - 1) (bs - x.toNatClampNeg))) ∧
  (∀ (Q : Option pw_A → pw_Hp → Prop) (K : pw_Kt) (ls : pw_Ls) (st : List pw_A) (h : pw_Hp) (bc bs : Nat) (nx tg : Bool × Nat) (bx : Nat × Nat × Nat) (sw : List (Int32 × (Bool × Nat))) (i ci N w : Nat), pw_stp Q (.new i, nx, tg, (ci, N, w), bx, sw) K ls st h bc bs = (1 ≤ bc ∧ N ≤ bs ∧ K nx ls (.inr (h.1 + 2) :: st) (pw_nw h (10 + ci) N) (bc - 1) (bs - N))) ∧
  (∀ (Q : Option pw_A → pw_Hp → Prop) (K : pw_Kt) (ls : pw_Ls) (st : List pw_A) (h : pw_Hp) (bc bs : Nat) (nx tg : Bool × Nat) (bx : Nat × Nat × Nat) (sw : List (Int32 × (Bool × Nat))) (i q w : Nat), pw_stp Q (.invokespecial i, nx, tg, (1001, q, w), bx, sw) K ls st h bc bs = (pw_sr st fun n r => pw_sh r ∧ ¬ n = 0 ∧ K nx ls r h bc bs)) ∧
  (∀ (Q : Option pw_A → pw_Hp → Prop) (K : pw_Kt) (ls : pw_Ls) (st : List pw_A) (h : pw_Hp) (bc bs : Nat) (nx tg : Bool × Nat) (bx : Nat × Nat × Nat) (sw : List (Int32 × (Bool × Nat))) (i q w : Nat), pw_stp Q (.invokestatic i, nx, tg, (1000, q, w), bx, sw) K ls st h bc bs = (pw_s2 st fun x y r => pw_sh r ∧ K nx ls (.inl (if x < y then y else x) :: r) h bc bs)) ∧
  (∀ (Q : Option pw_A → pw_Hp → Prop) (K : pw_Kt) (ls : pw_Ls) (h : pw_Hp) (bc bs : Nat) (nx : Bool × Nat) (sw : List (Int32 × (Bool × Nat))) (i j rk li ci : Nat) (cb : Bool) (r : List pw_A) (a0 : pw_A), pw_stp Q (.invokevirtual i, nx, (cb, ci), (j, 1, rk), (0, 0, li), sw) K ls (a0 :: r) h bc bs = ((pw_sh r ∧ pw_rcv ci h [a0] ∧ pw_ret rk j [a0] r h (fun r h' => K nx ls r h' bc bs)))) ∧
  (∀ (Q : Option pw_A → pw_Hp → Prop) (K : pw_Kt) (ls : pw_Ls) (h : pw_Hp) (bc bs : Nat) (nx : Bool × Nat) (sw : List (Int32 × (Bool × Nat))) (i j rk li ci mc ms : Nat) (cb : Bool) (r : List pw_A) (a0 : pw_A), pw_stp Q (.invokevirtual i, nx, (cb, ci), (j, 1, rk), (mc + 1, ms, li), sw) K ls (a0 :: r) h bc bs = ((pw_sh r ∧ mc + 1 ≤ bc ∧ ms ≤ bs ∧ pw_rcv ci h [a0] ∧ pw_ret rk j [a0] r h (fun r h' => K nx ls r h' (bc - (mc + 1)) (bs - ms))))) ∧
  (∀ (Q : Option pw_A → pw_Hp → Prop) (K : pw_Kt) (ls : pw_Ls) (h : pw_Hp) (bc bs : Nat) (nx : Bool × Nat) (sw : List (Int32 × (Bool × Nat))) (i j rk li ci : Nat) (cb : Bool) (r : List pw_A) (a0 a1 : pw_A), pw_stp Q (.invokevirtual i, nx, (cb, ci), (j, 2, rk), (0, 0, li), sw) K ls (a1 :: a0 :: r) h bc bs = ((pw_sh r ∧ pw_rcv ci h [a0, a1] ∧ pw_ret rk j [a0, a1] r h (fun r h' => K nx ls r h' bc bs)))) ∧
  (∀ (Q : Option pw_A → pw_Hp → Prop) (K : pw_Kt) (ls : pw_Ls) (h : pw_Hp) (bc bs : Nat) (nx : Bool × Nat) (sw : List (Int32 × (Bool × Nat))) (i j rk li ci mc ms : Nat) (cb : Bool) (r : List pw_A) (a0 a1 : pw_A), pw_stp Q (.invokevirtual i, nx, (cb, ci), (j, 2, rk), (mc + 1, ms, li), sw) K ls (a1 :: a0 :: r) h bc bs = ((pw_sh r ∧ mc + 1 ≤ bc ∧ ms ≤ bs ∧ pw_rcv ci h [a0, a1] ∧ pw_ret rk j [a0, a1] r h (fun r h' => K nx ls r h' (bc - (mc + 1)) (bs - ms))))) ∧
  (∀ (Q : Option pw_A → pw_Hp → Prop) (K : pw_Kt) (ls : pw_Ls) (h : pw_Hp) (bc bs : Nat) (nx : Bool × Nat) (sw : List (Int32 × (Bool × Nat))) (i j rk li ci : Nat) (cb : Bool) (r : List pw_A) (a0 a1 a2 : pw_A), pw_stp Q (.invokevirtual i, nx, (cb, ci), (j, 3, rk), (0, 0, li), sw) K ls (a2 :: a1 :: a0 :: r) h bc bs = ((pw_sh r ∧ pw_rcv ci h [a0, a1, a2] ∧ pw_ret rk j [a0, a1, a2] r h (fun r h' => K nx ls r h' bc bs)))) ∧
  (∀ (Q : Option pw_A → pw_Hp → Prop) (K : pw_Kt) (ls : pw_Ls) (h : pw_Hp) (bc bs : Nat) (nx : Bool × Nat) (sw : List (Int32 × (Bool × Nat))) (i j rk li ci mc ms : Nat) (cb : Bool) (r : List pw_A) (a0 a1 a2 : pw_A), pw_stp Q (.invokevirtual i, nx, (cb, ci), (j, 3, rk), (mc + 1, ms, li), sw) K ls (a2 :: a1 :: a0 :: r) h bc bs = ((pw_sh r ∧ mc + 1 ≤ bc ∧ ms ≤ bs ∧ pw_rcv ci h [a0, a1, a2] ∧ pw_ret rk j [a0, a1, a2] r h (fun r h' => K nx ls r h' (bc - (mc + 1)) (bs - ms))))) ∧
  (∀ (Q : Option pw_A → pw_Hp → Prop) (K : pw_Kt) (ls : pw_Ls) (h : pw_Hp) (bc bs : Nat) (nx : Bool × Nat) (sw : List (Int32 × (Bool × Nat))) (i j rk li ci : Nat) (cb : Bool) (r : List pw_A) (a0 a1 a2 a3 : pw_A), pw_stp Q (.invokevirtual i, nx, (cb, ci), (j, 4, rk), (0, 0, li), sw) K ls (a3 :: a2 :: a1 :: a0 :: r) h bc bs = ((pw_sh r ∧ pw_rcv ci h [a0, a1, a2, a3] ∧ pw_ret rk j [a0, a1, a2, a3] r h (fun r h' => K nx ls r h' bc bs)))) ∧
  (∀ (Q : Option pw_A → pw_Hp → Prop) (K : pw_Kt) (ls : pw_Ls) (h : pw_Hp) (bc bs : Nat) (nx : Bool × Nat) (sw : List (Int32 × (Bool × Nat))) (i j rk li ci mc ms : Nat) (cb : Bool) (r : List pw_A) (a0 a1 a2 a3 : pw_A), pw_stp Q (.invokevirtual i, nx, (cb, ci), (j, 4, rk), (mc + 1, ms, li), sw) K ls (a3 :: a2 :: a1 :: a0 :: r) h bc bs = ((pw_sh r ∧ mc + 1 ≤ bc ∧ ms ≤ bs ∧ pw_rcv ci h [a0, a1, a2, a3] ∧ pw_ret rk j [a0, a1, a2, a3] r h (fun r h' => K nx ls r h' (bc - (mc + 1)) (bs - ms))))) ∧
  (∀ (Q : Option pw_A → pw_Hp → Prop) (K : pw_Kt) (ls : pw_Ls) (h : pw_Hp) (bc bs : Nat) (nx : Bool × Nat) (sw : List (Int32 × (Bool × Nat))) (i j rk li ci : Nat) (cb : Bool) (r : List pw_A) (a0 a1 a2 a3 a4 : pw_A), pw_stp Q (.invokevirtual i, nx, (cb, ci), (j, 5, rk), (0, 0, li), sw) K ls (a4 :: a3 :: a2 :: a1 :: a0 :: r) h bc bs = ((pw_sh r ∧ pw_rcv ci h [a0, a1, a2, a3, a4] ∧ pw_ret rk j [a0, a1, a2, a3, a4] r h (fun r h' => K nx ls r h' bc bs)))) ∧
  (∀ (Q : Option pw_A → pw_Hp → Prop) (K : pw_Kt) (ls : pw_Ls) (h : pw_Hp) (bc bs : Nat) (nx : Bool × Nat) (sw : List (Int32 × (Bool × Nat))) (i j rk li ci mc ms : Nat) (cb : Bool) (r : List pw_A) (a0 a1 a2 a3 a4 : pw_A), pw_stp Q (.invokevirtual i, nx, (cb, ci), (j, 5, rk), (mc + 1, ms, li), sw) K ls (a4 :: a3 :: a2 :: a1 :: a0 :: r) h bc bs = ((pw_sh r ∧ mc + 1 ≤ bc ∧ ms ≤ bs ∧ pw_rcv ci h [a0, a1, a2, a3, a4] ∧ pw_ret rk j [a0, a1, a2, a3, a4] r h (fun r h' => K nx ls r h' (bc - (mc + 1)) (bs - ms))))) ∧
  (∀ (Q : Option pw_A → pw_Hp → Prop) (K : pw_Kt) (ls : pw_Ls) (h : pw_Hp) (bc bs : Nat) (nx : Bool × Nat) (sw : List (Int32 × (Bool × Nat))) (i j rk li ci : Nat) (cb : Bool) (r : List pw_A) (a0 a1 a2 a3 a4 a5 : pw_A), pw_stp Q (.invokevirtual i, nx, (cb, ci), (j, 6, rk), (0, 0, li), sw) K ls (a5 :: a4 :: a3 :: a2 :: a1 :: a0 :: r) h bc bs = ((pw_sh r ∧ pw_rcv ci h [a0, a1, a2, a3, a4, a5] ∧ pw_ret rk j [a0, a1, a2, a3, a4, a5] r h (fun r h' => K nx ls r h' bc bs)))) ∧
  (∀ (Q : Option pw_A → pw_Hp → Prop) (K : pw_Kt) (ls : pw_Ls) (h : pw_Hp) (bc bs : Nat) (nx : Bool × Nat) (sw : List (Int32 × (Bool × Nat))) (i j rk li ci mc ms : Nat) (cb : Bool) (r : List pw_A) (a0 a1 a2 a3 a4 a5 : pw_A), pw_stp Q (.invokevirtual i, nx, (cb, ci), (j, 6, rk), (mc + 1, ms, li), sw) K ls (a5 :: a4 :: a3 :: a2 :: a1 :: a0 :: r) h bc bs = ((pw_sh r ∧ mc + 1 ≤ bc ∧ ms ≤ bs ∧ pw_rcv ci h [a0, a1, a2, a3, a4, a5] ∧ pw_ret rk j [a0, a1, a2, a3, a4, a5] r h (fun r h' => K nx ls r h' (bc - (mc + 1)) (bs - ms))))) ∧
  (∀ (Q : Option pw_A → pw_Hp → Prop) (K : pw_Kt) (ls : pw_Ls) (h : pw_Hp) (bc bs : Nat) (nx : Bool × Nat) (sw : List (Int32 × (Bool × Nat))) (i rk li ci mc ms : Nat) (cb : Bool) (r : List pw_A) (a0 : pw_A), pw_stp Q (.invokespecial i, nx, (cb, ci), (31, 1, rk), (mc, ms, li), sw) K ls (a0 :: r) h bc bs = ((pw_sh r ∧ mc ≤ bc ∧ ms ≤ bs ∧ pw_rcv ci h [a0] ∧ pw_ret rk 31 [a0] r h (fun r h' => K nx ls r h' (bc - mc) (bs - ms))))) ∧
  (∀ (Q : Option pw_A → pw_Hp → Prop) (K : pw_Kt) (ls : pw_Ls) (h : pw_Hp) (bc bs : Nat) (nx : Bool × Nat) (sw : List (Int32 × (Bool × Nat))) (i rk li ci mc ms : Nat) (cb : Bool) (r : List pw_A) (a0 : pw_A), pw_stp Q (.invokespecial i, nx, (cb, ci), (39, 1, rk), (mc, ms, li), sw) K ls (a0 :: r) h bc bs = ((pw_sh r ∧ mc ≤ bc ∧ ms ≤ bs ∧ pw_rcv ci h [a0] ∧ pw_ret rk 39 [a0] r h (fun r h' => K nx ls r h' (bc - mc) (bs - ms))))) ∧
  (∀ (Q : Option pw_A → pw_Hp → Prop) (K : pw_Kt) (ls : pw_Ls) (h : pw_Hp) (bc bs : Nat) (nx : Bool × Nat) (sw : List (Int32 × (Bool × Nat))) (i rk li ci mc ms : Nat) (cb : Bool) (r : List pw_A) (a0 : pw_A), pw_stp Q (.invokespecial i, nx, (cb, ci), (41, 1, rk), (mc, ms, li), sw) K ls (a0 :: r) h bc bs = ((pw_sh r ∧ mc ≤ bc ∧ ms ≤ bs ∧ pw_rcv ci h [a0] ∧ pw_ret rk 41 [a0] r h (fun r h' => K nx ls r h' (bc - mc) (bs - ms))))) ∧
  (∀ (Q : Option pw_A → pw_Hp → Prop) (K : pw_Kt) (ls : pw_Ls) (h : pw_Hp) (bc bs : Nat) (nx : Bool × Nat) (sw : List (Int32 × (Bool × Nat))) (i rk li ci mc ms : Nat) (cb : Bool) (r : List pw_A) (a0 : pw_A), pw_stp Q (.invokespecial i, nx, (cb, ci), (53, 1, rk), (mc, ms, li), sw) K ls (a0 :: r) h bc bs = ((pw_sh r ∧ mc ≤ bc ∧ ms ≤ bs ∧ pw_rcv ci h [a0] ∧ pw_ret rk 53 [a0] r h (fun r h' => K nx ls r h' (bc - mc) (bs - ms))))) ∧
  (∀ (Q : Option pw_A → pw_Hp → Prop) (K : pw_Kt) (ls : pw_Ls) (h : pw_Hp) (bc bs : Nat) (nx : Bool × Nat) (sw : List (Int32 × (Bool × Nat))) (i rk li ci mc ms : Nat) (cb : Bool) (r : List pw_A) (a0 : pw_A), pw_stp Q (.invokespecial i, nx, (cb, ci), (63, 1, rk), (mc, ms, li), sw) K ls (a0 :: r) h bc bs = ((pw_sh r ∧ mc ≤ bc ∧ ms ≤ bs ∧ pw_rcv ci h [a0] ∧ pw_ret rk 63 [a0] r h (fun r h' => K nx ls r h' (bc - mc) (bs - ms))))) ∧
  (∀ (Q : Option pw_A → pw_Hp → Prop) (K : pw_Kt) (ls : pw_Ls) (h : pw_Hp) (bc bs : Nat) (nx : Bool × Nat) (sw : List (Int32 × (Bool × Nat))) (i rk li ci mc ms : Nat) (cb : Bool) (r : List pw_A) (a0 a1 : pw_A), pw_stp Q (.invokespecial i, nx, (cb, ci), (31, 2, rk), (mc, ms, li), sw) K ls (a1 :: a0 :: r) h bc bs = ((pw_sh r ∧ mc ≤ bc ∧ ms ≤ bs ∧ pw_rcv ci h [a0, a1] ∧ pw_ret rk 31 [a0, a1] r h (fun r h' => K nx ls r h' (bc - mc) (bs - ms))))) ∧
  (∀ (Q : Option pw_A → pw_Hp → Prop) (K : pw_Kt) (ls : pw_Ls) (h : pw_Hp) (bc bs : Nat) (nx : Bool × Nat) (sw : List (Int32 × (Bool × Nat))) (i rk li ci mc ms : Nat) (cb : Bool) (r : List pw_A) (a0 a1 : pw_A), pw_stp Q (.invokespecial i, nx, (cb, ci), (39, 2, rk), (mc, ms, li), sw) K ls (a1 :: a0 :: r) h bc bs = ((pw_sh r ∧ mc ≤ bc ∧ ms ≤ bs ∧ pw_rcv ci h [a0, a1] ∧ pw_ret rk 39 [a0, a1] r h (fun r h' => K nx ls r h' (bc - mc) (bs - ms))))) ∧
  (∀ (Q : Option pw_A → pw_Hp → Prop) (K : pw_Kt) (ls : pw_Ls) (h : pw_Hp) (bc bs : Nat) (nx : Bool × Nat) (sw : List (Int32 × (Bool × Nat))) (i rk li ci mc ms : Nat) (cb : Bool) (r : List pw_A) (a0 a1 : pw_A), pw_stp Q (.invokespecial i, nx, (cb, ci), (41, 2, rk), (mc, ms, li), sw) K ls (a1 :: a0 :: r) h bc bs = ((pw_sh r ∧ mc ≤ bc ∧ ms ≤ bs ∧ pw_rcv ci h [a0, a1] ∧ pw_ret rk 41 [a0, a1] r h (fun r h' => K nx ls r h' (bc - mc) (bs - ms))))) ∧
  (∀ (Q : Option pw_A → pw_Hp → Prop) (K : pw_Kt) (ls : pw_Ls) (h : pw_Hp) (bc bs : Nat) (nx : Bool × Nat) (sw : List (Int32 × (Bool × Nat))) (i rk li ci mc ms : Nat) (cb : Bool) (r : List pw_A) (a0 a1 : pw_A), pw_stp Q (.invokespecial i, nx, (cb, ci), (53, 2, rk), (mc, ms, li), sw) K ls (a1 :: a0 :: r) h bc bs = ((pw_sh r ∧ mc ≤ bc ∧ ms ≤ bs ∧ pw_rcv ci h [a0, a1] ∧ pw_ret rk 53 [a0, a1] r h (fun r h' => K nx ls r h' (bc - mc) (bs - ms))))) ∧
  (∀ (Q : Option pw_A → pw_Hp → Prop) (K : pw_Kt) (ls : pw_Ls) (h : pw_Hp) (bc bs : Nat) (nx : Bool × Nat) (sw : List (Int32 × (Bool × Nat))) (i rk li ci mc ms : Nat) (cb : Bool) (r : List pw_A) (a0 a1 : pw_A), pw_stp Q (.invokespecial i, nx, (cb, ci), (63, 2, rk), (mc, ms, li), sw) K ls (a1 :: a0 :: r) h bc bs = ((pw_sh r ∧ mc ≤ bc ∧ ms ≤ bs ∧ pw_rcv ci h [a0, a1] ∧ pw_ret rk 63 [a0, a1] r h (fun r h' => K nx ls r h' (bc - mc) (bs - ms))))) ∧
  (∀ (Q : Option pw_A → pw_Hp → Prop) (K : pw_Kt) (ls : pw_Ls) (h : pw_Hp) (bc bs : Nat) (nx : Bool × Nat) (sw : List (Int32 × (Bool × Nat))) (i rk li ci mc ms : Nat) (cb : Bool) (r : List pw_A) (a0 a1 a2 : pw_A), pw_stp Q (.invokespecial i, nx, (cb, ci), (31, 3, rk), (mc, ms, li), sw) K ls (a2 :: a1 :: a0 :: r) h bc bs = ((pw_sh r ∧ mc ≤ bc ∧ ms ≤ bs ∧ pw_rcv ci h [a0, a1, a2] ∧ pw_ret rk 31 [a0, a1, a2] r h (fun r h' => K nx ls r h' (bc - mc) (bs - ms))))) ∧
  (∀ (Q : Option pw_A → pw_Hp → Prop) (K : pw_Kt) (ls : pw_Ls) (h : pw_Hp) (bc bs : Nat) (nx : Bool × Nat) (sw : List (Int32 × (Bool × Nat))) (i rk li ci mc ms : Nat) (cb : Bool) (r : List pw_A) (a0 a1 a2 : pw_A), pw_stp Q (.invokespecial i, nx, (cb, ci), (39, 3, rk), (mc, ms, li), sw) K ls (a2 :: a1 :: a0 :: r) h bc bs = ((pw_sh r ∧ mc ≤ bc ∧ ms ≤ bs ∧ pw_rcv ci h [a0, a1, a2] ∧ pw_ret rk 39 [a0, a1, a2] r h (fun r h' => K nx ls r h' (bc - mc) (bs - ms))))) ∧
  (∀ (Q : Option pw_A → pw_Hp → Prop) (K : pw_Kt) (ls : pw_Ls) (h : pw_Hp) (bc bs : Nat) (nx : Bool × Nat) (sw : List (Int32 × (Bool × Nat))) (i rk li ci mc ms : Nat) (cb : Bool) (r : List pw_A) (a0 a1 a2 : pw_A), pw_stp Q (.invokespecial i, nx, (cb, ci), (41, 3, rk), (mc, ms, li), sw) K ls (a2 :: a1 :: a0 :: r) h bc bs = ((pw_sh r ∧ mc ≤ bc ∧ ms ≤ bs ∧ pw_rcv ci h [a0, a1, a2] ∧ pw_ret rk 41 [a0, a1, a2] r h (fun r h' => K nx ls r h' (bc - mc) (bs - ms))))) ∧
  (∀ (Q : Option pw_A → pw_Hp → Prop) (K : pw_Kt) (ls : pw_Ls) (h : pw_Hp) (bc bs : Nat) (nx : Bool × Nat) (sw : List (Int32 × (Bool × Nat))) (i rk li ci mc ms : Nat) (cb : Bool) (r : List pw_A) (a0 a1 a2 : pw_A), pw_stp Q (.invokespecial i, nx, (cb, ci), (53, 3, rk), (mc, ms, li), sw) K ls (a2 :: a1 :: a0 :: r) h bc bs = ((pw_sh r ∧ mc ≤ bc ∧ ms ≤ bs ∧ pw_rcv ci h [a0, a1, a2] ∧ pw_ret rk 53 [a0, a1, a2] r h (fun r h' => K nx ls r h' (bc - mc) (bs - ms))))) ∧
  (∀ (Q : Option pw_A → pw_Hp → Prop) (K : pw_Kt) (ls : pw_Ls) (h : pw_Hp) (bc bs : Nat) (nx : Bool × Nat) (sw : List (Int32 × (Bool × Nat))) (i rk li ci mc ms : Nat) (cb : Bool) (r : List pw_A) (a0 a1 a2 : pw_A), pw_stp Q (.invokespecial i, nx, (cb, ci), (63, 3, rk), (mc, ms, li), sw) K ls (a2 :: a1 :: a0 :: r) h bc bs = ((pw_sh r ∧ mc ≤ bc ∧ ms ≤ bs ∧ pw_rcv ci h [a0, a1, a2] ∧ pw_ret rk 63 [a0, a1, a2] r h (fun r h' => K nx ls r h' (bc - mc) (bs - ms))))) ∧
  (∀ (Q : Option pw_A → pw_Hp → Prop) (K : pw_Kt) (ls : pw_Ls) (h : pw_Hp) (bc bs : Nat) (nx : Bool × Nat) (sw : List (Int32 × (Bool × Nat))) (i rk li ci mc ms : Nat) (cb : Bool) (r : List pw_A) (a0 a1 a2 a3 : pw_A), pw_stp Q (.invokespecial i, nx, (cb, ci), (31, 4, rk), (mc, ms, li), sw) K ls (a3 :: a2 :: a1 :: a0 :: r) h bc bs = ((pw_sh r ∧ mc ≤ bc ∧ ms ≤ bs ∧ pw_rcv ci h [a0, a1, a2, a3] ∧ pw_ret rk 31 [a0, a1, a2, a3] r h (fun r h' => K nx ls r h' (bc - mc) (bs - ms))))) ∧
  (∀ (Q : Option pw_A → pw_Hp → Prop) (K : pw_Kt) (ls : pw_Ls) (h : pw_Hp) (bc bs : Nat) (nx : Bool × Nat) (sw : List (Int32 × (Bool × Nat))) (i rk li ci mc ms : Nat) (cb : Bool) (r : List pw_A) (a0 a1 a2 a3 : pw_A), pw_stp Q (.invokespecial i, nx, (cb, ci), (39, 4, rk), (mc, ms, li), sw) K ls (a3 :: a2 :: a1 :: a0 :: r) h bc bs = ((pw_sh r ∧ mc ≤ bc ∧ ms ≤ bs ∧ pw_rcv ci h [a0, a1, a2, a3] ∧ pw_ret rk 39 [a0, a1, a2, a3] r h (fun r h' => K nx ls r h' (bc - mc) (bs - ms))))) ∧
  (∀ (Q : Option pw_A → pw_Hp → Prop) (K : pw_Kt) (ls : pw_Ls) (h : pw_Hp) (bc bs : Nat) (nx : Bool × Nat) (sw : List (Int32 × (Bool × Nat))) (i rk li ci mc ms : Nat) (cb : Bool) (r : List pw_A) (a0 a1 a2 a3 : pw_A), pw_stp Q (.invokespecial i, nx, (cb, ci), (41, 4, rk), (mc, ms, li), sw) K ls (a3 :: a2 :: a1 :: a0 :: r) h bc bs = ((pw_sh r ∧ mc ≤ bc ∧ ms ≤ bs ∧ pw_rcv ci h [a0, a1, a2, a3] ∧ pw_ret rk 41 [a0, a1, a2, a3] r h (fun r h' => K nx ls r h' (bc - mc) (bs - ms))))) ∧
  (∀ (Q : Option pw_A → pw_Hp → Prop) (K : pw_Kt) (ls : pw_Ls) (h : pw_Hp) (bc bs : Nat) (nx : Bool × Nat) (sw : List (Int32 × (Bool × Nat))) (i rk li ci mc ms : Nat) (cb : Bool) (r : List pw_A) (a0 a1 a2 a3 : pw_A), pw_stp Q (.invokespecial i, nx, (cb, ci), (53, 4, rk), (mc, ms, li), sw) K ls (a3 :: a2 :: a1 :: a0 :: r) h bc bs = ((pw_sh r ∧ mc ≤ bc ∧ ms ≤ bs ∧ pw_rcv ci h [a0, a1, a2, a3] ∧ pw_ret rk 53 [a0, a1, a2, a3] r h (fun r h' => K nx ls r h' (bc - mc) (bs - ms))))) ∧
  (∀ (Q : Option pw_A → pw_Hp → Prop) (K : pw_Kt) (ls : pw_Ls) (h : pw_Hp) (bc bs : Nat) (nx : Bool × Nat) (sw : List (Int32 × (Bool × Nat))) (i rk li ci mc ms : Nat) (cb : Bool) (r : List pw_A) (a0 a1 a2 a3 : pw_A), pw_stp Q (.invokespecial i, nx, (cb, ci), (63, 4, rk), (mc, ms, li), sw) K ls (a3 :: a2 :: a1 :: a0 :: r) h bc bs = ((pw_sh r ∧ mc ≤ bc ∧ ms ≤ bs ∧ pw_rcv ci h [a0, a1, a2, a3] ∧ pw_ret rk 63 [a0, a1, a2, a3] r h (fun r h' => K nx ls r h' (bc - mc) (bs - ms))))) ∧
  (∀ (Q : Option pw_A → pw_Hp → Prop) (K : pw_Kt) (ls : pw_Ls) (h : pw_Hp) (bc bs : Nat) (nx : Bool × Nat) (sw : List (Int32 × (Bool × Nat))) (i rk li ci mc ms : Nat) (cb : Bool) (r : List pw_A) (a0 a1 a2 a3 a4 : pw_A), pw_stp Q (.invokespecial i, nx, (cb, ci), (31, 5, rk), (mc, ms, li), sw) K ls (a4 :: a3 :: a2 :: a1 :: a0 :: r) h bc bs = ((pw_sh r ∧ mc ≤ bc ∧ ms ≤ bs ∧ pw_rcv ci h [a0, a1, a2, a3, a4] ∧ pw_ret rk 31 [a0, a1, a2, a3, a4] r h (fun r h' => K nx ls r h' (bc - mc) (bs - ms))))) ∧
  (∀ (Q : Option pw_A → pw_Hp → Prop) (K : pw_Kt) (ls : pw_Ls) (h : pw_Hp) (bc bs : Nat) (nx : Bool × Nat) (sw : List (Int32 × (Bool × Nat))) (i rk li ci mc ms : Nat) (cb : Bool) (r : List pw_A) (a0 a1 a2 a3 a4 : pw_A), pw_stp Q (.invokespecial i, nx, (cb, ci), (39, 5, rk), (mc, ms, li), sw) K ls (a4 :: a3 :: a2 :: a1 :: a0 :: r) h bc bs = ((pw_sh r ∧ mc ≤ bc ∧ ms ≤ bs ∧ pw_rcv ci h [a0, a1, a2, a3, a4] ∧ pw_ret rk 39 [a0, a1, a2, a3, a4] r h (fun r h' => K nx ls r h' (bc - mc) (bs - ms))))) ∧
  (∀ (Q : Option pw_A → pw_Hp → Prop) (K : pw_Kt) (ls : pw_Ls) (h : pw_Hp) (bc bs : Nat) (nx : Bool × Nat) (sw : List (Int32 × (Bool × Nat))) (i rk li ci mc ms : Nat) (cb : Bool) (r : List pw_A) (a0 a1 a2 a3 a4 : pw_A), pw_stp Q (.invokespecial i, nx, (cb, ci), (41, 5, rk), (mc, ms, li), sw) K ls (a4 :: a3 :: a2 :: a1 :: a0 :: r) h bc bs = ((pw_sh r ∧ mc ≤ bc ∧ ms ≤ bs ∧ pw_rcv ci h [a0, a1, a2, a3, a4] ∧ pw_ret rk 41 [a0, a1, a2, a3, a4] r h (fun r h' => K nx ls r h' (bc - mc) (bs - ms))))) ∧
  (∀ (Q : Option pw_A → pw_Hp → Prop) (K : pw_Kt) (ls : pw_Ls) (h : pw_Hp) (bc bs : Nat) (nx : Bool × Nat) (sw : List (Int32 × (Bool × Nat))) (i rk li ci mc ms : Nat) (cb : Bool) (r : List pw_A) (a0 a1 a2 a3 a4 : pw_A), pw_stp Q (.invokespecial i, nx, (cb, ci), (53, 5, rk), (mc, ms, li), sw) K ls (a4 :: a3 :: a2 :: a1 :: a0 :: r) h bc bs = ((pw_sh r ∧ mc ≤ bc ∧ ms ≤ bs ∧ pw_rcv ci h [a0, a1, a2, a3, a4] ∧ pw_ret rk 53 [a0, a1, a2, a3, a4] r h (fun r h' => K nx ls r h' (bc - mc) (bs - ms))))) ∧
  (∀ (Q : Option pw_A → pw_Hp → Prop) (K : pw_Kt) (ls : pw_Ls) (h : pw_Hp) (bc bs : Nat) (nx : Bool × Nat) (sw : List (Int32 × (Bool × Nat))) (i rk li ci mc ms : Nat) (cb : Bool) (r : List pw_A) (a0 a1 a2 a3 a4 : pw_A), pw_stp Q (.invokespecial i, nx, (cb, ci), (63, 5, rk), (mc, ms, li), sw) K ls (a4 :: a3 :: a2 :: a1 :: a0 :: r) h bc bs = ((pw_sh r ∧ mc ≤ bc ∧ ms ≤ bs ∧ pw_rcv ci h [a0, a1, a2, a3, a4] ∧ pw_ret rk 63 [a0, a1, a2, a3, a4] r h (fun r h' => K nx ls r h' (bc - mc) (bs - ms))))) ∧
  (∀ (Q : Option pw_A → pw_Hp → Prop) (K : pw_Kt) (ls : pw_Ls) (h : pw_Hp) (bc bs : Nat) (nx : Bool × Nat) (sw : List (Int32 × (Bool × Nat))) (i rk li ci mc ms : Nat) (cb : Bool) (r : List pw_A) (a0 a1 a2 a3 a4 a5 : pw_A), pw_stp Q (.invokespecial i, nx, (cb, ci), (31, 6, rk), (mc, ms, li), sw) K ls (a5 :: a4 :: a3 :: a2 :: a1 :: a0 :: r) h bc bs = ((pw_sh r ∧ mc ≤ bc ∧ ms ≤ bs ∧ pw_rcv ci h [a0, a1, a2, a3, a4, a5] ∧ pw_ret rk 31 [a0, a1, a2, a3, a4, a5] r h (fun r h' => K nx ls r h' (bc - mc) (bs - ms))))) ∧
  (∀ (Q : Option pw_A → pw_Hp → Prop) (K : pw_Kt) (ls : pw_Ls) (h : pw_Hp) (bc bs : Nat) (nx : Bool × Nat) (sw : List (Int32 × (Bool × Nat))) (i rk li ci mc ms : Nat) (cb : Bool) (r : List pw_A) (a0 a1 a2 a3 a4 a5 : pw_A), pw_stp Q (.invokespecial i, nx, (cb, ci), (39, 6, rk), (mc, ms, li), sw) K ls (a5 :: a4 :: a3 :: a2 :: a1 :: a0 :: r) h bc bs = ((pw_sh r ∧ mc ≤ bc ∧ ms ≤ bs ∧ pw_rcv ci h [a0, a1, a2, a3, a4, a5] ∧ pw_ret rk 39 [a0, a1, a2, a3, a4, a5] r h (fun r h' => K nx ls r h' (bc - mc) (bs - ms))))) ∧
  (∀ (Q : Option pw_A → pw_Hp → Prop) (K : pw_Kt) (ls : pw_Ls) (h : pw_Hp) (bc bs : Nat) (nx : Bool × Nat) (sw : List (Int32 × (Bool × Nat))) (i rk li ci mc ms : Nat) (cb : Bool) (r : List pw_A) (a0 a1 a2 a3 a4 a5 : pw_A), pw_stp Q (.invokespecial i, nx, (cb, ci), (41, 6, rk), (mc, ms, li), sw) K ls (a5 :: a4 :: a3 :: a2 :: a1 :: a0 :: r) h bc bs = ((pw_sh r ∧ mc ≤ bc ∧ ms ≤ bs ∧ pw_rcv ci h [a0, a1, a2, a3, a4, a5] ∧ pw_ret rk 41 [a0, a1, a2, a3, a4, a5] r h (fun r h' => K nx ls r h' (bc - mc) (bs - ms))))) ∧
  (∀ (Q : Option pw_A → pw_Hp → Prop) (K : pw_Kt) (ls : pw_Ls) (h : pw_Hp) (bc bs : Nat) (nx : Bool × Nat) (sw : List (Int32 × (Bool × Nat))) (i rk li ci mc ms : Nat) (cb : Bool) (r : List pw_A) (a0 a1 a2 a3 a4 a5 : pw_A), pw_stp Q (.invokespecial i, nx, (cb, ci), (53, 6, rk), (mc, ms, li), sw) K ls (a5 :: a4 :: a3 :: a2 :: a1 :: a0 :: r) h bc bs = ((pw_sh r ∧ mc ≤ bc ∧ ms ≤ bs ∧ pw_rcv ci h [a0, a1, a2, a3, a4, a5] ∧ pw_ret rk 53 [a0, a1, a2, a3, a4, a5] r h (fun r h' => K nx ls r h' (bc - mc) (bs - ms))))) ∧
  (∀ (Q : Option pw_A → pw_Hp → Prop) (K : pw_Kt) (ls : pw_Ls) (h : pw_Hp) (bc bs : Nat) (nx : Bool × Nat) (sw : List (Int32 × (Bool × Nat))) (i rk li ci mc ms : Nat) (cb : Bool) (r : List pw_A) (a0 a1 a2 a3 a4 a5 : pw_A), pw_stp Q (.invokespecial i, nx, (cb, ci), (63, 6, rk), (mc, ms, li), sw) K ls (a5 :: a4 :: a3 :: a2 :: a1 :: a0 :: r) h bc bs = ((pw_sh r ∧ mc ≤ bc ∧ ms ≤ bs ∧ pw_rcv ci h [a0, a1, a2, a3, a4, a5] ∧ pw_ret rk 63 [a0, a1, a2, a3, a4, a5] r h (fun r h' => K nx ls r h' (bc - mc) (bs - ms))))) ∧
  (∀ (Q : Option pw_A → pw_Hp → Prop) (K : pw_Kt) (ls : pw_Ls) (h : pw_Hp) (bc bs : Nat) (nx : Bool × Nat) (sw : List (Int32 × (Bool × Nat))) (i rk li ci : Nat) (cb : Bool) (r : List pw_A) (a0 a1 a2 : pw_A), pw_stp Q (.invokestatic i, nx, (cb, ci), (19, 3, rk), (0, 0, li), sw) K ls (a2 :: a1 :: a0 :: r) h bc bs = ((pw_sh r ∧ pw_ret rk 19 [a0, a1, a2] r h (fun r h' => K nx ls r h' bc bs)))) ∧
  (∀ (Q : Option pw_A → pw_Hp → Prop) (K : pw_Kt) (ls : pw_Ls) (st : List pw_A) (h : pw_Hp) (bc bs : Nat) (nx tg : Bool × Nat) (bx : Nat × Nat × Nat) (sw : List (Int32 × (Bool × Nat))) (x y z : Nat), pw_stp Q (.ireturn, nx, tg, (x, y, z), bx, sw) K ls st h bc bs = (pw_irt z st fun v => Q (some (.inl v)) h)) ∧
  (∀ (Q : Option pw_A → pw_Hp → Prop) (K : pw_Kt) (ls : pw_Ls) (st : List pw_A) (h : pw_Hp) (bc bs : Nat) (nx tg : Bool × Nat) (ax bx : Nat × Nat × Nat) (sw : List (Int32 × (Bool × Nat))), pw_stp Q (.areturn, nx, tg, ax, bx, sw) K ls st h bc bs = (pw_art st fun v => Q (some (.inr v)) h)) ∧
  (∀ (Q : Option pw_A → pw_Hp → Prop) (K : pw_Kt) (ls : pw_Ls) (st : List pw_A) (h : pw_Hp) (bc bs : Nat) (nx tg : Bool × Nat) (ax bx : Nat × Nat × Nat) (sw : List (Int32 × (Bool × Nat))), pw_stp Q (.return_, nx, tg, ax, bx, sw) K ls st h bc bs = (pw_vrt st (Q none h))) :=
  ⟨by intros; exact rfl, by intros; exact rfl, by intros; exact rfl, by intros; exact rfl, by intros; exact rfl, by intros; exact rfl, by intros; exact rfl, by intros; exact rfl, by intros; exact rfl, by intros; exact rfl, by intros; exact rfl, by intros; exact rfl, by intros; exact rfl, by intros; exact rfl, by intros; exact rfl, by intros; exact rfl, by intros; exact rfl, by intros; exact rfl, by intros; exact rfl, by intros; exact rfl, by intros; exact rfl, by intros; exact rfl, by intros; exact rfl, by intros; exact rfl, by intros; exact rfl, by intros; exact rfl, by intros; exact rfl, by intros; exact rfl, by intros; exact rfl, by intros; exact rfl, by intros; exact rfl, by intros; exact rfl, by intros; exact rfl, by intros; exact rfl, by intros; exact rfl, by intros; exact rfl, by intros; exact rfl, by intros; exact rfl, by intros; exact rfl, by intros; exact rfl, by intros; exact rfl, by intros; exact rfl, by intros; exact rfl, by intros; exact rfl, by intros; exact rfl, by intros; exact rfl, by intros; exact rfl, by intros; exact rfl, by intros; exact rfl, by intros; exact rfl, by intros; exact rfl, by intros; exact rfl, by intros; exact rfl, by intros; exact rfl, by intros; exact rfl, by intros; exact rfl, by intros; exact propext ⟨fun q => ⟨q.1, q.2.2.2⟩, fun q => ⟨q.1, Nat.zero_le _, Nat.zero_le _, q.2⟩⟩, by intros; exact rfl, by intros; exact propext ⟨fun q => ⟨q.1, q.2.2.2⟩, fun q => ⟨q.1, Nat.zero_le _, Nat.zero_le _, q.2⟩⟩, by intros; exact rfl, by intros; exact propext ⟨fun q => ⟨q.1, q.2.2.2⟩, fun q => ⟨q.1, Nat.zero_le _, Nat.zero_le _, q.2⟩⟩, by intros; exact rfl, by intros; exact propext ⟨fun q => ⟨q.1, q.2.2.2⟩, fun q => ⟨q.1, Nat.zero_le _, Nat.zero_le _, q.2⟩⟩, by intros; exact rfl, by intros; exact propext ⟨fun q => ⟨q.1, q.2.2.2⟩, fun q => ⟨q.1, Nat.zero_le _, Nat.zero_le _, q.2⟩⟩, by intros; exact rfl, by intros; exact propext ⟨fun q => ⟨q.1, q.2.2.2⟩, fun q => ⟨q.1, Nat.zero_le _, Nat.zero_le _, q.2⟩⟩, by intros; exact rfl, by intros; exact rfl, by intros; exact rfl, by intros; exact rfl, by intros; exact rfl, by intros; exact rfl, by intros; exact rfl, by intros; exact rfl, by intros; exact rfl, by intros; exact rfl, by intros; exact rfl, by intros; exact rfl, by intros; exact rfl, by intros; exact rfl, by intros; exact rfl, by intros; exact rfl, by intros; exact rfl, by intros; exact rfl, by intros; exact rfl, by intros; exact rfl, by intros; exact rfl, by intros; exact rfl, by intros; exact rfl, by intros; exact rfl, by intros; exact rfl, by intros; exact rfl, by intros; exact rfl, by intros; exact rfl, by intros; exact rfl, by intros; exact rfl, by intros; exact rfl, by intros; exact propext ⟨fun q => ⟨q.1, q.2.2.2⟩, fun q => ⟨q.1, Nat.zero_le _, Nat.zero_le _, q.2⟩⟩, by intros; exact rfl, by intros; exact rfl, by intros; exact rfl⟩
theorem pv_all :
  (∀ (g : Nat → pw_E) (Q : Option pw_A → pw_Hp → Prop) (J : Nat → pw_Ls → List pw_A → pw_Hp → Nat → Nat → Prop) (n pc : Nat) (ls : pw_Ls) (st : List pw_A) (h : pw_Hp) (bc bs : Nat), pw_wp g Q J (n + 1) pc ls st h bc bs = (pw_stp Q (g pc) (pw_go J (pw_wp g Q J n)) ls st h bc bs)) ∧
  (∀ (J w : Nat → pw_Ls → List pw_A → pw_Hp → Nat → Nat → Prop) (pc : Nat), pw_go J w (true, pc) = (J pc)) ∧
  (∀ (J w : Nat → pw_Ls → List pw_A → pw_Hp → Nat → Nat → Prop) (pc : Nat), pw_go J w (false, pc) = (w pc)) ∧
  (∀ (x : Int32) (f : Int32 → Prop), pw_li (some (.inl x)) f = (f x)) ∧
  (∀ (x : Nat) (f : Nat → Prop), pw_lr (some (.inr x)) f = (f x)) ∧
  (∀ (x : Int32) (r : List pw_A) (f : Int32 → List pw_A → Prop), pw_s1 (.inl x :: r) f = (f x r)) ∧
  (∀ (x y : Int32) (r : List pw_A) (f : Int32 → Int32 → List pw_A → Prop), pw_s2 (.inl y :: .inl x :: r) f = (f x y r)) ∧
  (∀ (n : Nat) (r : List pw_A) (f : Nat → List pw_A → Prop), pw_sr (.inr n :: r) f = (f n r)) ∧
  (∀ (n : Nat) (i : Int32) (r : List pw_A) (f : Nat → Int32 → List pw_A → Prop), pw_sir (.inl i :: .inr n :: r) f = (f n i r)) ∧
  (∀ (n : Nat) (i x : Int32) (r : List pw_A) (f : Nat → Int32 → Int32 → List pw_A → Prop), pw_siir (.inl x :: .inl i :: .inr n :: r) f = (f n i x r)) ∧
  (∀ (n q : Nat) (i : Int32) (r : List pw_A) (f : Nat → Int32 → Nat → List pw_A → Prop), pw_srir (.inr q :: .inl i :: .inr n :: r) f = (f n i q r)) ∧
  (∀ (n q : Nat) (r : List pw_A) (f : Nat → Nat → List pw_A → Prop), pw_srr (.inr q :: .inr n :: r) f = (f n q r)) ∧
  (∀ (v : pw_A) (r : List pw_A) (f : pw_A → List pw_A → Prop), pw_sa (v :: r) f = (f v r)) ∧
  (∀ (v : Int32) (t : Bool × Nat) (r : List (Int32 × (Bool × Nat))), pw_cv ((v, t) :: r) = (v)) ∧
  (∀ (x y : Int32) (A B : Prop), pw_cc .eq x y A B = ((x = y → A) ∧ (¬ x = y → B))) ∧
  (∀ (x y : Int32) (A B : Prop), pw_cc .ne x y A B = ((¬ x = y → A) ∧ (x = y → B))) ∧
  (∀ (x y : Int32) (A B : Prop), pw_cc .lt x y A B = ((x < y → A) ∧ (¬ x < y → B))) ∧
  (∀ (x y : Int32) (A B : Prop), pw_cc .ge x y A B = ((y ≤ x → A) ∧ (¬ y ≤ x → B))) ∧
  (∀ (x y : Int32) (A B : Prop), pw_cc .gt x y A B = ((y < x → A) ∧ (¬ y < x → B))) ∧
  (∀ (x y : Int32) (A B : Prop), pw_cc .le x y A B = ((x ≤ y → A) ∧ (¬ x ≤ y → B))) ∧
  (∀ (x : Int32) (k : Bool × Nat → Prop) (d : Bool × Nat), pw_sw x k d [] = (k d)) ∧
  (∀ (x : Int32) (k : Bool × Nat → Prop) (d : Bool × Nat) (v : Int32) (t : Bool × Nat) (r : List (Int32 × (Bool × Nat))), pw_sw x k d ((v, t) :: r) = ((x = v → k t) ∧ (¬ x = v → pw_sw x k d r))) ∧
  (∀ (ci : Nat) (h : pw_Hp) (n : Nat) (r : List pw_A), pw_rcv ci h (.inr n :: r) = (pw_k h n = 10 + ci)) ∧
  (∀ (j : Nat) (as r : List pw_A) (h : pw_Hp) (k : List pw_A → pw_Hp → Prop), pw_ret 0 j as r h k = (pw_Cv j as h (fun h' => k r h'))) ∧
  (∀ (j : Nat) (as r : List pw_A) (h : pw_Hp) (k : List pw_A → pw_Hp → Prop), pw_ret 1 j as r h k = (pw_Ci j as h (fun x h' => k (.inl x :: r) h'))) ∧
  (∀ (j : Nat) (as r : List pw_A) (h : pw_Hp) (k : List pw_A → pw_Hp → Prop), pw_ret 2 j as r h k = (pw_Cr j as h (fun x h' => k (.inr x :: r) h'))) ∧
  (∀ (h : pw_Hp) (n k : Nat), pw_get 1 h n k = (.inr (pw_r h n k))) ∧
  (∀ (h : pw_Hp) (n k : Nat), pw_get 0 h n k = (.inl (pw_i h n k))) ∧
  (∀ (h : pw_Hp) (n k : Nat), pw_get 2 h n k = (.inl (pw_i h n k))) ∧
  (∀ (st : List pw_A) (ci k : Nat) (h : pw_Hp) (f : List pw_A → pw_Hp → Prop), pw_put 0 st ci k h f = (pw_sir st fun n x r => pw_k h n = 10 + ci ∧ f r (pw_wi h n k x))) ∧
  (∀ (st : List pw_A) (ci k : Nat) (h : pw_Hp) (f : List pw_A → pw_Hp → Prop), pw_put 1 st ci k h f = (pw_srr st fun n q r => pw_k h n = 10 + ci ∧ f r (pw_wr h n k q))) ∧
  (∀ (st : List pw_A) (ci k : Nat) (h : pw_Hp) (f : List pw_A → pw_Hp → Prop), pw_put 2 st ci k h f = (pw_sir st fun n x r => pw_k h n = 10 + ci ∧ (x = 0 ∨ x = 1) ∧ f r (pw_wi h n k x))) ∧
  (∀ (v : Int32) (f : Int32 → Prop), pw_irt 0 [.inl v] f = (f v)) ∧
  (∀ (v : Int32) (f : Int32 → Prop), pw_irt 2 [.inl v] f = ((v = 0 ∨ v = 1) ∧ f v)) ∧
  (∀ (v : Nat) (f : Nat → Prop), pw_art [.inr v] f = (f v)) ∧
  (∀ (k : Int32 → pw_Hp → Prop) (v : Int32) (h : pw_Hp), pw_qi k (some (.inl v)) h = (k v h)) ∧
  (∀ (k : Nat → pw_Hp → Prop) (v : Nat) (h : pw_Hp), pw_qr k (some (.inr v)) h = (k v h)) ∧
  (∀ (k : pw_Hp → Prop) (h : pw_Hp), pw_qv k none h = (k h)) ∧
  (∀ (f : Prop), pw_vrt [] f = (f)) ∧
  (∀ (p : Prop), (True ∧ p) = (p)) ∧
  (pw_sh [] = (True)) ∧
  (∀ (a0 : pw_A), pw_sh [a0] = (True)) ∧
  (∀ (a0 a1 : pw_A), pw_sh [a0, a1] = (True)) ∧
  (∀ (a0 a1 a2 : pw_A), pw_sh [a0, a1, a2] = (True)) ∧
  (∀ (a0 a1 a2 a3 : pw_A), pw_sh [a0, a1, a2, a3] = (True)) ∧
  (∀ (a0 a1 a2 a3 a4 : pw_A), pw_sh [a0, a1, a2, a3, a4] = (True)) ∧
  (∀ (a0 : Option pw_A) (r : pw_Ls), pw_nth 0 (a0 :: r) = (a0)) ∧
  (∀ (a0 v : Option pw_A) (r : pw_Ls), List.set (a0 :: r) 0 v = (v :: r)) ∧
  (∀ (a0 a1 : Option pw_A) (r : pw_Ls), pw_nth 1 (a0 :: a1 :: r) = (a1)) ∧
  (∀ (a0 a1 v : Option pw_A) (r : pw_Ls), List.set (a0 :: a1 :: r) 1 v = (a0 :: v :: r)) ∧
  (∀ (a0 a1 a2 : Option pw_A) (r : pw_Ls), pw_nth 2 (a0 :: a1 :: a2 :: r) = (a2)) ∧
  (∀ (a0 a1 a2 v : Option pw_A) (r : pw_Ls), List.set (a0 :: a1 :: a2 :: r) 2 v = (a0 :: a1 :: v :: r)) ∧
  (∀ (a0 a1 a2 a3 : Option pw_A) (r : pw_Ls), pw_nth 3 (a0 :: a1 :: a2 :: a3 :: r) = (a3)) ∧
  (∀ (a0 a1 a2 a3 v : Option pw_A) (r : pw_Ls), List.set (a0 :: a1 :: a2 :: a3 :: r) 3 v = (a0 :: a1 :: a2 :: v :: r)) ∧
  (∀ (a0 a1 a2 a3 a4 : Option pw_A) (r : pw_Ls), pw_nth 4 (a0 :: a1 :: a2 :: a3 :: a4 :: r) = (a4)) ∧
  (∀ (a0 a1 a2 a3 a4 v : Option pw_A) (r : pw_Ls), List.set (a0 :: a1 :: a2 :: a3 :: a4 :: r) 4 v = (a0 :: a1 :: a2 :: a3 :: v :: r)) ∧
  (∀ (a0 a1 a2 a3 a4 a5 : Option pw_A) (r : pw_Ls), pw_nth 5 (a0 :: a1 :: a2 :: a3 :: a4 :: a5 :: r) = (a5)) ∧
  (∀ (a0 a1 a2 a3 a4 a5 v : Option pw_A) (r : pw_Ls), List.set (a0 :: a1 :: a2 :: a3 :: a4 :: a5 :: r) 5 v = (a0 :: a1 :: a2 :: a3 :: a4 :: v :: r)) ∧
  (∀ (a0 a1 a2 a3 a4 a5 a6 : Option pw_A) (r : pw_Ls), pw_nth 6 (a0 :: a1 :: a2 :: a3 :: a4 :: a5 :: a6 :: r) = (a6)) ∧
  (∀ (a0 a1 a2 a3 a4 a5 a6 v : Option pw_A) (r : pw_Ls), List.set (a0 :: a1 :: a2 :: a3 :: a4 :: a5 :: a6 :: r) 6 v = (a0 :: a1 :: a2 :: a3 :: a4 :: a5 :: v :: r)) ∧
  (∀ (a0 a1 a2 a3 a4 a5 a6 a7 : Option pw_A) (r : pw_Ls), pw_nth 7 (a0 :: a1 :: a2 :: a3 :: a4 :: a5 :: a6 :: a7 :: r) = (a7)) ∧
  (∀ (a0 a1 a2 a3 a4 a5 a6 a7 v : Option pw_A) (r : pw_Ls), List.set (a0 :: a1 :: a2 :: a3 :: a4 :: a5 :: a6 :: a7 :: r) 7 v = (a0 :: a1 :: a2 :: a3 :: a4 :: a5 :: a6 :: v :: r)) ∧
  (∀ (a0 a1 a2 a3 a4 a5 a6 a7 a8 : Option pw_A) (r : pw_Ls), pw_nth 8 (a0 :: a1 :: a2 :: a3 :: a4 :: a5 :: a6 :: a7 :: a8 :: r) = (a8)) ∧
  (∀ (a0 a1 a2 a3 a4 a5 a6 a7 a8 v : Option pw_A) (r : pw_Ls), List.set (a0 :: a1 :: a2 :: a3 :: a4 :: a5 :: a6 :: a7 :: a8 :: r) 8 v = (a0 :: a1 :: a2 :: a3 :: a4 :: a5 :: a6 :: a7 :: v :: r)) ∧
  (∀ (a0 a1 a2 a3 a4 a5 a6 a7 a8 a9 : Option pw_A) (r : pw_Ls), pw_nth 9 (a0 :: a1 :: a2 :: a3 :: a4 :: a5 :: a6 :: a7 :: a8 :: a9 :: r) = (a9)) ∧
  (∀ (a0 a1 a2 a3 a4 a5 a6 a7 a8 a9 v : Option pw_A) (r : pw_Ls), List.set (a0 :: a1 :: a2 :: a3 :: a4 :: a5 :: a6 :: a7 :: a8 :: a9 :: r) 9 v = (a0 :: a1 :: a2 :: a3 :: a4 :: a5 :: a6 :: a7 :: a8 :: v :: r)) ∧
  (∀ (a0 a1 a2 a3 a4 a5 a6 a7 a8 a9 a10 : Option pw_A) (r : pw_Ls), pw_nth 10 (a0 :: a1 :: a2 :: a3 :: a4 :: a5 :: a6 :: a7 :: a8 :: a9 :: a10 :: r) = (a10)) ∧
  (∀ (a0 a1 a2 a3 a4 a5 a6 a7 a8 a9 a10 v : Option pw_A) (r : pw_Ls), List.set (a0 :: a1 :: a2 :: a3 :: a4 :: a5 :: a6 :: a7 :: a8 :: a9 :: a10 :: r) 10 v = (a0 :: a1 :: a2 :: a3 :: a4 :: a5 :: a6 :: a7 :: a8 :: a9 :: v :: r)) ∧
  (∀ (a0 a1 a2 a3 a4 a5 a6 a7 a8 a9 a10 a11 : Option pw_A) (r : pw_Ls), pw_nth 11 (a0 :: a1 :: a2 :: a3 :: a4 :: a5 :: a6 :: a7 :: a8 :: a9 :: a10 :: a11 :: r) = (a11)) ∧
  (∀ (a0 a1 a2 a3 a4 a5 a6 a7 a8 a9 a10 a11 v : Option pw_A) (r : pw_Ls), List.set (a0 :: a1 :: a2 :: a3 :: a4 :: a5 :: a6 :: a7 :: a8 :: a9 :: a10 :: a11 :: r) 11 v = (a0 :: a1 :: a2 :: a3 :: a4 :: a5 :: a6 :: a7 :: a8 :: a9 :: a10 :: v :: r)) :=
  ⟨by intros; exact rfl, by intros; exact rfl, by intros; exact rfl, by intros; exact rfl, by intros; exact rfl, by intros; exact rfl, by intros; exact rfl, by intros; exact rfl, by intros; exact rfl, by intros; exact rfl, by intros; exact rfl, by intros; exact rfl, by intros; exact rfl, by intros; exact rfl, by intros; exact rfl, by intros; exact rfl, by intros; exact rfl, by intros; exact rfl, by intros; exact rfl, by intros; exact rfl, by intros; exact rfl, by intros; exact rfl, by intros; exact rfl, by intros; exact rfl, by intros; exact rfl, by intros; exact rfl, by intros; exact rfl, by intros; exact rfl, by intros; exact rfl, by intros; exact rfl, by intros; exact rfl, by intros; exact rfl, by intros; exact rfl, by intros; exact rfl, by intros; exact rfl, by intros; exact propext ⟨fun ⟨x, e, q⟩ => by cases e; exact q, fun q => ⟨_, rfl, q⟩⟩, by intros; exact propext ⟨fun ⟨x, e, q⟩ => by cases e; exact q, fun q => ⟨_, rfl, q⟩⟩, by intros; exact propext ⟨fun q => q.2, fun q => ⟨rfl, q⟩⟩, by intros; exact rfl, by intros; exact true_and _, by intros; exact eq_true (by unfold pw_sh; decide), by intros; exact eq_true (by unfold pw_sh; simp), by intros; exact eq_true (by unfold pw_sh; simp), by intros; exact eq_true (by unfold pw_sh; simp), by intros; exact eq_true (by unfold pw_sh; simp), by intros; exact eq_true (by unfold pw_sh; simp), by intros; exact rfl, by intros; exact rfl, by intros; exact rfl, by intros; exact rfl, by intros; exact rfl, by intros; exact rfl, by intros; exact rfl, by intros; exact rfl, by intros; exact rfl, by intros; exact rfl, by intros; exact rfl, by intros; exact rfl, by intros; exact rfl, by intros; exact rfl, by intros; exact rfl, by intros; exact rfl, by intros; exact rfl, by intros; exact rfl, by intros; exact rfl, by intros; exact rfl, by intros; exact rfl, by intros; exact rfl, by intros; exact rfl, by intros; exact rfl⟩
end
section
def pw_jt : List pw_Jt := [(2, (362, 73, 0), 1, (361, 22)),
  (1, (310, 73, 0), 1, (309, 12)),
  (2, (335, 73, 0), 1, (334, 18)),
  (1, (422, 70, 0), 1, (421, 31)),
  (1, (443, 70, 0), 1, (442, 36)),
  (1, (286, 70, 0), 1, (285, 6)),
  (1, (326, 70, 0), 1, (325, 16)),
  (1, (294, 70, 0), 1, (293, 8)),
  (2, (331, 70, 0), 1, (330, 17)),
  (1, (386, 72, 0), 1, (385, 26)),
  (1, (366, 72, 0), 1, (365, 23)),
  (1, (390, 72, 0), 1, (389, 27)),
  (1, (402, 68, 0), 1, (400, 401)),
  (1, (119, 68, 0), 1, (118, 0)),
  (1, (506, 68, 0), 1, (505, 43)),
  (1, (258, 68, 0), 1, (257, 1)),
  (1, (278, 68, 0), 1, (277, 4)),
  (2, (262, 68, 0), 1, (261, 2)),
  (3, (266, 68, 0), 1, (265, 3)),
  (3, (631, 69, 0), 0, (630, 0)),
  (1, (616, 69, 0), 1, (615, 45)),
  (1, (659, 69, 0), 1, (658, 51)),
  (1, (667, 69, 0), 1, (666, 53)),
  (2, (683, 69, 0), 1, (682, 55)),
  (3, (691, 69, 0), 1, (690, 56)),
  (1, (695, 69, 0), 1, (694, 57)),
  (3, (739, 69, 0), 1, (738, 62)),
  (1, (715, 69, 0), 1, (713, 714)),
  (1, (727, 69, 0), 1, (726, 59)),
  (1, (743, 69, 0), 1, (742, 63)),
  (3, (771, 69, 0), 1, (770, 66)),
  (2, (207, 73, 0), 2, (206, 0)),
  (1, (306, 73, 0), 1, (305, 11)),
  (1, (314, 73, 0), 1, (313, 13)),
  (2, (460, 73, 0), 1, (459, 40)),
  (1, (348, 73, 0), 1, (347, 20)),
  (2, (418, 70, 0), 1, (417, 30)),
  (1, (322, 70, 0), 1, (321, 15)),
  (0, (298, 70, 0), 1, (297, 9)),
  (0, (132, 72, 0), 2, (131, 0)),
  (1, (382, 72, 0), 1, (381, 25)),
  (0, (78, 68, 0), 2, (77, 0)),
  (3, (254, 68, 0), 1, (252, 253)),
  (3, (270, 68, 0), 1, (268, 269)),
  (2, (370, 68, 0), 1, (368, 369)),
  (2, (398, 68, 0), 1, (396, 397)),
  (2, (488, 68, 0), 1, (486, 487)),
  (3, (498, 68, 0), 1, (496, 497)),
  (1, (378, 68, 0), 1, (377, 24)),
  (2, (510, 68, 0), 1, (509, 44)),
  (2, (468, 68, 0), 1, (467, 41)),
  (1, (414, 68, 0), 1, (413, 29)),
  (4, (435, 68, 0), 1, (434, 34)),
  (0, (515, 69, 0), 2, (514, 0)),
  (1, (628, 69, 0), 1, (627, 46)),
  (1, (647, 69, 0), 1, (646, 48)),
  (5, (612, 69, 0), 1, (610, 611)),
  (1, (620, 69, 0), 1, (618, 619)),
  (1, (655, 69, 0), 1, (654, 50)),
  (3, (663, 69, 0), 1, (662, 52)),
  (3, (735, 69, 0), 1, (734, 61)),
  (1, (783, 69, 0), 1, (781, 782)),
  (2, (356, 73, 0), 1, (355, 21)),
  (4, (123, 70, 0), 2, (122, 0)),
  (2, (290, 70, 0), 1, (289, 7)),
  (1, (203, 68, 0), 1, (201, 202)),
  (1, (374, 68, 0), 1, (372, 373)),
  (1, (464, 68, 0), 1, (462, 463)),
  (3, (484, 68, 0), 1, (482, 483)),
  (3, (492, 68, 0), 1, (490, 491)),
  (1, (502, 68, 0), 1, (500, 501)),
  (1, (480, 68, 0), 1, (479, 42)),
  (4, (318, 68, 0), 1, (317, 14)),
  (2, (344, 68, 0), 1, (343, 19)),
  (3, (430, 68, 0), 1, (429, 33)),
  (2, (439, 68, 0), 1, (438, 35)),
  (3, (624, 69, 0), 1, (622, 623)),
  (3, (635, 69, 0), 1, (633, 634)),
  (3, (671, 69, 0), 1, (670, 54)),
  (2, (643, 69, 0), 1, (642, 47)),
  (2, (679, 69, 0), 1, (677, 678)),
  (2, (687, 69, 0), 1, (685, 686)),
  (2, (699, 69, 0), 1, (697, 698)),
  (1, (703, 69, 0), 1, (701, 702)),
  (1, (707, 69, 0), 1, (705, 706)),
  (2, (711, 69, 0), 1, (709, 710)),
  (1, (731, 69, 0), 1, (730, 60)),
  (3, (751, 69, 0), 1, (750, 65)),
  (1, (755, 69, 0), 1, (753, 754)),
  (2, (759, 69, 0), 1, (757, 758)),
  (3, (763, 69, 0), 1, (761, 762)),
  (2, (767, 69, 0), 1, (765, 766)),
  (3, (775, 69, 0), 1, (773, 774)),
  (3, (779, 69, 0), 1, (777, 778)),
  (5, (115, 68, 0), 1, (113, 114)),
  (2, (339, 68, 0), 1, (337, 338)),
  (2, (352, 68, 0), 1, (350, 351)),
  (1, (394, 68, 0), 1, (392, 393)),
  (2, (476, 68, 0), 1, (474, 475)),
  (3, (302, 68, 0), 1, (301, 10)),
  (1, (426, 68, 0), 1, (425, 32)),
  (4, (456, 68, 0), 1, (455, 39)),
  (2, (651, 69, 0), 1, (650, 49)),
  (2, (747, 69, 0), 1, (746, 64)),
  (2, (282, 68, 0), 1, (281, 5)),
  (4, (452, 68, 0), 1, (451, 38)),
  (2, (639, 69, 0), 1, (637, 638)),
  (2, (675, 69, 0), 1, (673, 674)),
  (0, (723, 69, 0), 1, (722, 58)),
  (2, (274, 68, 0), 1, (272, 273)),
  (2, (472, 68, 0), 1, (470, 471)),
  (2, (447, 68, 0), 1, (446, 37)),
  (1, (719, 69, 0), 1, (717, 718)),
  (0, (410, 68, 0), 1, (409, 28)),
  (1, (406, 68, 0), 1, (404, 405))]
set_option maxRecDepth 100000 in
theorem pw_jt_0 : (List.range' 0 5).all (pw_jall pw_jt) = true := by decide +kernel
set_option maxRecDepth 100000 in
theorem pw_jt_5 : (List.range' 5 5).all (pw_jall pw_jt) = true := by decide +kernel
set_option maxRecDepth 100000 in
theorem pw_jt_10 : (List.range' 10 5).all (pw_jall pw_jt) = true := by decide +kernel
set_option maxRecDepth 100000 in
theorem pw_jt_15 : (List.range' 15 5).all (pw_jall pw_jt) = true := by decide +kernel
set_option maxRecDepth 100000 in
theorem pw_jt_20 : (List.range' 20 5).all (pw_jall pw_jt) = true := by decide +kernel
set_option maxRecDepth 100000 in
theorem pw_jt_25 : (List.range' 25 5).all (pw_jall pw_jt) = true := by decide +kernel
set_option maxRecDepth 100000 in
theorem pw_jt_30 : (List.range' 30 5).all (pw_jall pw_jt) = true := by decide +kernel
set_option maxRecDepth 100000 in
theorem pw_jt_35 : (List.range' 35 5).all (pw_jall pw_jt) = true := by decide +kernel
set_option maxRecDepth 100000 in
theorem pw_jt_40 : (List.range' 40 5).all (pw_jall pw_jt) = true := by decide +kernel
set_option maxRecDepth 100000 in
theorem pw_jt_45 : (List.range' 45 5).all (pw_jall pw_jt) = true := by decide +kernel
set_option maxRecDepth 100000 in
theorem pw_jt_50 : (List.range' 50 5).all (pw_jall pw_jt) = true := by decide +kernel
set_option maxRecDepth 100000 in
theorem pw_jt_55 : (List.range' 55 5).all (pw_jall pw_jt) = true := by decide +kernel
set_option maxRecDepth 100000 in
theorem pw_jt_60 : (List.range' 60 5).all (pw_jall pw_jt) = true := by decide +kernel
set_option maxRecDepth 100000 in
theorem pw_jt_65 : (List.range' 65 5).all (pw_jall pw_jt) = true := by decide +kernel
set_option maxRecDepth 100000 in
theorem pw_jt_70 : (List.range' 70 5).all (pw_jall pw_jt) = true := by decide +kernel
set_option maxRecDepth 100000 in
theorem pw_jt_75 : (List.range' 75 5).all (pw_jall pw_jt) = true := by decide +kernel
set_option maxRecDepth 100000 in
theorem pw_jt_80 : (List.range' 80 5).all (pw_jall pw_jt) = true := by decide +kernel
set_option maxRecDepth 100000 in
theorem pw_jt_85 : (List.range' 85 5).all (pw_jall pw_jt) = true := by decide +kernel
set_option maxRecDepth 100000 in
theorem pw_jt_90 : (List.range' 90 5).all (pw_jall pw_jt) = true := by decide +kernel
set_option maxRecDepth 100000 in
theorem pw_jt_95 : (List.range' 95 5).all (pw_jall pw_jt) = true := by decide +kernel
set_option maxRecDepth 100000 in
theorem pw_jt_100 : (List.range' 100 5).all (pw_jall pw_jt) = true := by decide +kernel
set_option maxRecDepth 100000 in
theorem pw_jt_105 : (List.range' 105 5).all (pw_jall pw_jt) = true := by decide +kernel
set_option maxRecDepth 100000 in
theorem pw_jt_110 : (List.range' 110 5).all (pw_jall pw_jt) = true := by decide +kernel
theorem pw_tok : pw_Tok pw_jt := by
  intro j q hq
  have hl : j < 115 := (List.getElem?_eq_some_iff.mp hq).1
  have key : ∀ k m, (List.range' k m).all (pw_jall pw_jt) = true → k ≤ j → j < k + m → pw_jall pw_jt j = true := fun k m h h1 h2 => List.all_eq_true.mp h j (List.mem_range'_1.mpr ⟨h1, h2⟩)
  rcases Nat.lt_or_ge j 5 with z | z
  · exact key 0 5 pw_jt_0 (by omega) (by omega)
  rcases Nat.lt_or_ge j 10 with z | z
  · exact key 5 5 pw_jt_5 (by omega) (by omega)
  rcases Nat.lt_or_ge j 15 with z | z
  · exact key 10 5 pw_jt_10 (by omega) (by omega)
  rcases Nat.lt_or_ge j 20 with z | z
  · exact key 15 5 pw_jt_15 (by omega) (by omega)
  rcases Nat.lt_or_ge j 25 with z | z
  · exact key 20 5 pw_jt_20 (by omega) (by omega)
  rcases Nat.lt_or_ge j 30 with z | z
  · exact key 25 5 pw_jt_25 (by omega) (by omega)
  rcases Nat.lt_or_ge j 35 with z | z
  · exact key 30 5 pw_jt_30 (by omega) (by omega)
  rcases Nat.lt_or_ge j 40 with z | z
  · exact key 35 5 pw_jt_35 (by omega) (by omega)
  rcases Nat.lt_or_ge j 45 with z | z
  · exact key 40 5 pw_jt_40 (by omega) (by omega)
  rcases Nat.lt_or_ge j 50 with z | z
  · exact key 45 5 pw_jt_45 (by omega) (by omega)
  rcases Nat.lt_or_ge j 55 with z | z
  · exact key 50 5 pw_jt_50 (by omega) (by omega)
  rcases Nat.lt_or_ge j 60 with z | z
  · exact key 55 5 pw_jt_55 (by omega) (by omega)
  rcases Nat.lt_or_ge j 65 with z | z
  · exact key 60 5 pw_jt_60 (by omega) (by omega)
  rcases Nat.lt_or_ge j 70 with z | z
  · exact key 65 5 pw_jt_65 (by omega) (by omega)
  rcases Nat.lt_or_ge j 75 with z | z
  · exact key 70 5 pw_jt_70 (by omega) (by omega)
  rcases Nat.lt_or_ge j 80 with z | z
  · exact key 75 5 pw_jt_75 (by omega) (by omega)
  rcases Nat.lt_or_ge j 85 with z | z
  · exact key 80 5 pw_jt_80 (by omega) (by omega)
  rcases Nat.lt_or_ge j 90 with z | z
  · exact key 85 5 pw_jt_85 (by omega) (by omega)
  rcases Nat.lt_or_ge j 95 with z | z
  · exact key 90 5 pw_jt_90 (by omega) (by omega)
  rcases Nat.lt_or_ge j 100 with z | z
  · exact key 95 5 pw_jt_95 (by omega) (by omega)
  rcases Nat.lt_or_ge j 105 with z | z
  · exact key 100 5 pw_jt_100 (by omega) (by omega)
  rcases Nat.lt_or_ge j 110 with z | z
  · exact key 105 5 pw_jt_105 (by omega) (by omega)
  exact key 110 5 pw_jt_110 (by omega) (by omega)
end
section
def pp_G_turnTo : List (Nat × pw_E) := [(0, (.aload_n 0, (false, 1), (false, 0), (0, 0, 0), (0, 0, 0), [])),
  (1, (.iload_n 1, (false, 2), (false, 0), (0, 0, 0), (0, 0, 0), [])),
  (2, (.putfield 25, (false, 5), (false, 0), (0, 5, 0), (0, 0, 217), [])),
  (5, (.aload_n 0, (false, 6), (false, 0), (0, 0, 0), (0, 0, 0), [])),
  (6, (.iload_n 2, (false, 7), (false, 0), (0, 0, 0), (0, 0, 0), [])),
  (7, (.putfield 28, (false, 10), (false, 0), (0, 6, 0), (0, 0, 219), [])),
  (10, (.return_, (false, 11), (false, 0), (0, 0, 0), (0, 0, 0), []))]
set_option maxRecDepth 100000 in
theorem pe_G_turnTo : pw_fnd pp_G_turnTo 0 = (.aload_n 0, (false, 1), (false, 0), (0, 0, 0), (0, 0, 0), []) ∧
  pw_fnd pp_G_turnTo 1 = (.iload_n 1, (false, 2), (false, 0), (0, 0, 0), (0, 0, 0), []) ∧
  pw_fnd pp_G_turnTo 2 = (.putfield 25, (false, 5), (false, 0), (0, 5, 0), (0, 0, 217), []) ∧
  pw_fnd pp_G_turnTo 5 = (.aload_n 0, (false, 6), (false, 0), (0, 0, 0), (0, 0, 0), []) ∧
  pw_fnd pp_G_turnTo 6 = (.iload_n 2, (false, 7), (false, 0), (0, 0, 0), (0, 0, 0), []) ∧
  pw_fnd pp_G_turnTo 7 = (.putfield 28, (false, 10), (false, 0), (0, 6, 0), (0, 0, 219), []) ∧
  pw_fnd pp_G_turnTo 10 = (.return_, (false, 11), (false, 0), (0, 0, 0), (0, 0, 0), []) :=
  ⟨rfl, rfl, rfl, rfl, rfl, rfl, rfl⟩
set_option maxRecDepth 100000 in
theorem pk_G_turnTo : pp_G_turnTo.all (fun q => pw_chk pw_jt pm_G_turnTo q.1 q.2) = true := by decide +kernel
def pp_G_hasTime : List (Nat × pw_E) := [(0, (.iload_n 1, (false, 1), (false, 0), (0, 0, 0), (0, 0, 0), [])),
  (1, (.ifCond .lt 20, (false, 4), (false, 21), (0, 0, 0), (0, 0, 0), [])),
  (4, (.iload_n 1, (false, 5), (false, 0), (0, 0, 0), (0, 0, 0), [])),
  (5, (.aload_n 0, (false, 6), (false, 0), (0, 0, 0), (0, 0, 0), [])),
  (6, (.getfield 31, (false, 9), (false, 0), (0, 4, 0), (0, 0, 215), [])),
  (9, (.if_icmp .ge 12, (false, 12), (false, 21), (0, 0, 0), (0, 0, 0), [])),
  (12, (.iload_n 1, (false, 13), (false, 0), (0, 0, 0), (0, 0, 0), [])),
  (13, (.iconst 2, (false, 14), (false, 0), (0, 0, 0), (0, 0, 0), [(2, (false, 0))])),
  (14, (.if_icmp .ge 7, (false, 17), (false, 21), (0, 0, 0), (0, 0, 0), [])),
  (17, (.iconst 1, (false, 18), (false, 0), (0, 0, 0), (0, 0, 0), [(1, (false, 0))])),
  (18, (.goto 4, (false, 21), (false, 22), (0, 0, 0), (0, 0, 0), [])),
  (21, (.iconst 0, (false, 22), (false, 0), (0, 0, 0), (0, 0, 0), [(0, (false, 0))])),
  (22, (.ireturn, (false, 23), (false, 0), (0, 0, 2), (0, 0, 0), []))]
set_option maxRecDepth 100000 in
theorem pe_G_hasTime : pw_fnd pp_G_hasTime 0 = (.iload_n 1, (false, 1), (false, 0), (0, 0, 0), (0, 0, 0), []) ∧
  pw_fnd pp_G_hasTime 1 = (.ifCond .lt 20, (false, 4), (false, 21), (0, 0, 0), (0, 0, 0), []) ∧
  pw_fnd pp_G_hasTime 4 = (.iload_n 1, (false, 5), (false, 0), (0, 0, 0), (0, 0, 0), []) ∧
  pw_fnd pp_G_hasTime 5 = (.aload_n 0, (false, 6), (false, 0), (0, 0, 0), (0, 0, 0), []) ∧
  pw_fnd pp_G_hasTime 6 = (.getfield 31, (false, 9), (false, 0), (0, 4, 0), (0, 0, 215), []) ∧
  pw_fnd pp_G_hasTime 9 = (.if_icmp .ge 12, (false, 12), (false, 21), (0, 0, 0), (0, 0, 0), []) ∧
  pw_fnd pp_G_hasTime 12 = (.iload_n 1, (false, 13), (false, 0), (0, 0, 0), (0, 0, 0), []) ∧
  pw_fnd pp_G_hasTime 13 = (.iconst 2, (false, 14), (false, 0), (0, 0, 0), (0, 0, 0), [(2, (false, 0))]) ∧
  pw_fnd pp_G_hasTime 14 = (.if_icmp .ge 7, (false, 17), (false, 21), (0, 0, 0), (0, 0, 0), []) ∧
  pw_fnd pp_G_hasTime 17 = (.iconst 1, (false, 18), (false, 0), (0, 0, 0), (0, 0, 0), [(1, (false, 0))]) ∧
  pw_fnd pp_G_hasTime 18 = (.goto 4, (false, 21), (false, 22), (0, 0, 0), (0, 0, 0), []) ∧
  pw_fnd pp_G_hasTime 21 = (.iconst 0, (false, 22), (false, 0), (0, 0, 0), (0, 0, 0), [(0, (false, 0))]) ∧
  pw_fnd pp_G_hasTime 22 = (.ireturn, (false, 23), (false, 0), (0, 0, 2), (0, 0, 0), []) :=
  ⟨rfl, rfl, rfl, rfl, rfl, rfl, rfl, rfl, rfl, rfl, rfl, rfl, rfl⟩
set_option maxRecDepth 100000 in
theorem pk_G_hasTime : pp_G_hasTime.all (fun q => pw_chk pw_jt pm_G_hasTime q.1 q.2) = true := by decide +kernel
def pp_G_addTime : List (Nat × pw_E) := [(0, (.aload_n 0, (false, 1), (false, 0), (0, 0, 0), (0, 0, 0), [])),
  (1, (.getfield 31, (false, 4), (false, 0), (0, 4, 0), (0, 0, 215), [])),
  (4, (.ifCond .lt 57, (false, 7), (false, 61), (0, 0, 0), (0, 0, 0), [])),
  (7, (.aload_n 0, (false, 8), (false, 0), (0, 0, 0), (0, 0, 0), [])),
  (8, (.getfield 31, (false, 11), (false, 0), (0, 4, 0), (0, 0, 215), [])),
  (11, (.aload_n 0, (false, 12), (false, 0), (0, 0, 0), (0, 0, 0), [])),
  (12, (.getfield 18, (false, 15), (false, 0), (0, 2, 1), (0, 0, 213), [])),
  (15, (.arraylength, (false, 16), (false, 0), (0, 0, 0), (0, 0, 0), [])),
  (16, (.if_icmp .ge 45, (false, 19), (false, 61), (0, 0, 0), (0, 0, 0), [])),
  (19, (.aload_n 0, (false, 20), (false, 0), (0, 0, 0), (0, 0, 0), [])),
  (20, (.getfield 31, (false, 23), (false, 0), (0, 4, 0), (0, 0, 215), [])),
  (23, (.aload_n 0, (false, 24), (false, 0), (0, 0, 0), (0, 0, 0), [])),
  (24, (.getfield 22, (false, 27), (false, 0), (0, 3, 1), (0, 0, 214), [])),
  (27, (.arraylength, (false, 28), (false, 0), (0, 0, 0), (0, 0, 0), [])),
  (28, (.if_icmp .ge 33, (false, 31), (false, 61), (0, 0, 0), (0, 0, 0), [])),
  (31, (.aload_n 0, (false, 32), (false, 0), (0, 0, 0), (0, 0, 0), [])),
  (32, (.getfield 18, (false, 35), (false, 0), (0, 2, 1), (0, 0, 213), [])),
  (35, (.aload_n 0, (false, 36), (false, 0), (0, 0, 0), (0, 0, 0), [])),
  (36, (.getfield 31, (false, 39), (false, 0), (0, 4, 0), (0, 0, 215), [])),
  (39, (.iload_n 1, (false, 40), (false, 0), (0, 0, 0), (0, 0, 0), [])),
  (40, (.iastore, (false, 41), (false, 0), (0, 0, 0), (0, 0, 0), [])),
  (41, (.aload_n 0, (false, 42), (false, 0), (0, 0, 0), (0, 0, 0), [])),
  (42, (.getfield 22, (false, 45), (false, 0), (0, 3, 1), (0, 0, 214), [])),
  (45, (.aload_n 0, (false, 46), (false, 0), (0, 0, 0), (0, 0, 0), [])),
  (46, (.getfield 31, (false, 49), (false, 0), (0, 4, 0), (0, 0, 215), [])),
  (49, (.iload_n 2, (false, 50), (false, 0), (0, 0, 0), (0, 0, 0), [])),
  (50, (.iastore, (false, 51), (false, 0), (0, 0, 0), (0, 0, 0), [])),
  (51, (.aload_n 0, (false, 52), (false, 0), (0, 0, 0), (0, 0, 0), [])),
  (52, (.dup, (false, 53), (false, 0), (0, 0, 0), (0, 0, 0), [])),
  (53, (.getfield 31, (false, 56), (false, 0), (0, 4, 0), (0, 0, 215), [])),
  (56, (.iconst 1, (false, 57), (false, 0), (0, 0, 0), (0, 0, 0), [(1, (false, 0))])),
  (57, (.iadd, (false, 58), (false, 0), (0, 0, 0), (0, 0, 0), [])),
  (58, (.putfield 31, (false, 61), (false, 0), (0, 4, 0), (0, 0, 215), [])),
  (61, (.return_, (false, 62), (false, 0), (0, 0, 0), (0, 0, 0), []))]
set_option maxRecDepth 100000 in
theorem pe_G_addTime : pw_fnd pp_G_addTime 0 = (.aload_n 0, (false, 1), (false, 0), (0, 0, 0), (0, 0, 0), []) ∧
  pw_fnd pp_G_addTime 1 = (.getfield 31, (false, 4), (false, 0), (0, 4, 0), (0, 0, 215), []) ∧
  pw_fnd pp_G_addTime 4 = (.ifCond .lt 57, (false, 7), (false, 61), (0, 0, 0), (0, 0, 0), []) ∧
  pw_fnd pp_G_addTime 7 = (.aload_n 0, (false, 8), (false, 0), (0, 0, 0), (0, 0, 0), []) ∧
  pw_fnd pp_G_addTime 8 = (.getfield 31, (false, 11), (false, 0), (0, 4, 0), (0, 0, 215), []) ∧
  pw_fnd pp_G_addTime 11 = (.aload_n 0, (false, 12), (false, 0), (0, 0, 0), (0, 0, 0), []) ∧
  pw_fnd pp_G_addTime 12 = (.getfield 18, (false, 15), (false, 0), (0, 2, 1), (0, 0, 213), []) ∧
  pw_fnd pp_G_addTime 15 = (.arraylength, (false, 16), (false, 0), (0, 0, 0), (0, 0, 0), []) ∧
  pw_fnd pp_G_addTime 16 = (.if_icmp .ge 45, (false, 19), (false, 61), (0, 0, 0), (0, 0, 0), []) ∧
  pw_fnd pp_G_addTime 19 = (.aload_n 0, (false, 20), (false, 0), (0, 0, 0), (0, 0, 0), []) ∧
  pw_fnd pp_G_addTime 20 = (.getfield 31, (false, 23), (false, 0), (0, 4, 0), (0, 0, 215), []) ∧
  pw_fnd pp_G_addTime 23 = (.aload_n 0, (false, 24), (false, 0), (0, 0, 0), (0, 0, 0), []) ∧
  pw_fnd pp_G_addTime 24 = (.getfield 22, (false, 27), (false, 0), (0, 3, 1), (0, 0, 214), []) ∧
  pw_fnd pp_G_addTime 27 = (.arraylength, (false, 28), (false, 0), (0, 0, 0), (0, 0, 0), []) ∧
  pw_fnd pp_G_addTime 28 = (.if_icmp .ge 33, (false, 31), (false, 61), (0, 0, 0), (0, 0, 0), []) ∧
  pw_fnd pp_G_addTime 31 = (.aload_n 0, (false, 32), (false, 0), (0, 0, 0), (0, 0, 0), []) ∧
  pw_fnd pp_G_addTime 32 = (.getfield 18, (false, 35), (false, 0), (0, 2, 1), (0, 0, 213), []) ∧
  pw_fnd pp_G_addTime 35 = (.aload_n 0, (false, 36), (false, 0), (0, 0, 0), (0, 0, 0), []) ∧
  pw_fnd pp_G_addTime 36 = (.getfield 31, (false, 39), (false, 0), (0, 4, 0), (0, 0, 215), []) ∧
  pw_fnd pp_G_addTime 39 = (.iload_n 1, (false, 40), (false, 0), (0, 0, 0), (0, 0, 0), []) ∧
  pw_fnd pp_G_addTime 40 = (.iastore, (false, 41), (false, 0), (0, 0, 0), (0, 0, 0), []) ∧
  pw_fnd pp_G_addTime 41 = (.aload_n 0, (false, 42), (false, 0), (0, 0, 0), (0, 0, 0), []) ∧
  pw_fnd pp_G_addTime 42 = (.getfield 22, (false, 45), (false, 0), (0, 3, 1), (0, 0, 214), []) ∧
  pw_fnd pp_G_addTime 45 = (.aload_n 0, (false, 46), (false, 0), (0, 0, 0), (0, 0, 0), []) ∧
  pw_fnd pp_G_addTime 46 = (.getfield 31, (false, 49), (false, 0), (0, 4, 0), (0, 0, 215), []) ∧
  pw_fnd pp_G_addTime 49 = (.iload_n 2, (false, 50), (false, 0), (0, 0, 0), (0, 0, 0), []) ∧
  pw_fnd pp_G_addTime 50 = (.iastore, (false, 51), (false, 0), (0, 0, 0), (0, 0, 0), []) ∧
  pw_fnd pp_G_addTime 51 = (.aload_n 0, (false, 52), (false, 0), (0, 0, 0), (0, 0, 0), []) ∧
  pw_fnd pp_G_addTime 52 = (.dup, (false, 53), (false, 0), (0, 0, 0), (0, 0, 0), []) ∧
  pw_fnd pp_G_addTime 53 = (.getfield 31, (false, 56), (false, 0), (0, 4, 0), (0, 0, 215), []) ∧
  pw_fnd pp_G_addTime 56 = (.iconst 1, (false, 57), (false, 0), (0, 0, 0), (0, 0, 0), [(1, (false, 0))]) ∧
  pw_fnd pp_G_addTime 57 = (.iadd, (false, 58), (false, 0), (0, 0, 0), (0, 0, 0), []) ∧
  pw_fnd pp_G_addTime 58 = (.putfield 31, (false, 61), (false, 0), (0, 4, 0), (0, 0, 215), []) ∧
  pw_fnd pp_G_addTime 61 = (.return_, (false, 62), (false, 0), (0, 0, 0), (0, 0, 0), []) :=
  ⟨rfl, rfl, rfl, rfl, rfl, rfl, rfl, rfl, rfl, rfl, rfl, rfl, rfl, rfl, rfl, rfl, rfl, rfl, rfl, rfl, rfl, rfl, rfl, rfl, rfl, rfl, rfl, rfl, rfl, rfl, rfl, rfl, rfl, rfl⟩
set_option maxRecDepth 100000 in
theorem pk_G_addTime : pp_G_addTime.all (fun q => pw_chk pw_jt pm_G_addTime q.1 q.2) = true := by decide +kernel
def pp_D_runs : List (Nat × pw_E) := [(0, (.aload_n 0, (false, 1), (false, 0), (0, 0, 0), (0, 0, 0), [])),
  (1, (.getfield 50, (false, 4), (false, 0), (1, 11, 2), (0, 0, 161), [])),
  (4, (.ifCond .ne 19, (false, 7), (false, 23), (0, 0, 0), (0, 0, 0), [])),
  (7, (.aload_n 0, (false, 8), (false, 0), (0, 0, 0), (0, 0, 0), [])),
  (8, (.getfield 21, (false, 11), (false, 0), (1, 3, 0), (0, 0, 148), [])),
  (11, (.iconst 3, (false, 12), (false, 0), (0, 0, 0), (0, 0, 0), [(3, (false, 0))])),
  (12, (.if_icmp .ne 7, (false, 15), (false, 19), (0, 0, 0), (0, 0, 0), [])),
  (15, (.iload_n 1, (false, 16), (false, 0), (0, 0, 0), (0, 0, 0), [])),
  (16, (.ifCond .ne 7, (false, 19), (false, 23), (0, 0, 0), (0, 0, 0), [])),
  (19, (.iconst 1, (false, 20), (false, 0), (0, 0, 0), (0, 0, 0), [(1, (false, 0))])),
  (20, (.goto 4, (false, 23), (false, 24), (0, 0, 0), (0, 0, 0), [])),
  (23, (.iconst 0, (false, 24), (false, 0), (0, 0, 0), (0, 0, 0), [(0, (false, 0))])),
  (24, (.ireturn, (false, 25), (false, 0), (0, 0, 2), (0, 0, 0), []))]
set_option maxRecDepth 100000 in
theorem pe_D_runs : pw_fnd pp_D_runs 0 = (.aload_n 0, (false, 1), (false, 0), (0, 0, 0), (0, 0, 0), []) ∧
  pw_fnd pp_D_runs 1 = (.getfield 50, (false, 4), (false, 0), (1, 11, 2), (0, 0, 161), []) ∧
  pw_fnd pp_D_runs 4 = (.ifCond .ne 19, (false, 7), (false, 23), (0, 0, 0), (0, 0, 0), []) ∧
  pw_fnd pp_D_runs 7 = (.aload_n 0, (false, 8), (false, 0), (0, 0, 0), (0, 0, 0), []) ∧
  pw_fnd pp_D_runs 8 = (.getfield 21, (false, 11), (false, 0), (1, 3, 0), (0, 0, 148), []) ∧
  pw_fnd pp_D_runs 11 = (.iconst 3, (false, 12), (false, 0), (0, 0, 0), (0, 0, 0), [(3, (false, 0))]) ∧
  pw_fnd pp_D_runs 12 = (.if_icmp .ne 7, (false, 15), (false, 19), (0, 0, 0), (0, 0, 0), []) ∧
  pw_fnd pp_D_runs 15 = (.iload_n 1, (false, 16), (false, 0), (0, 0, 0), (0, 0, 0), []) ∧
  pw_fnd pp_D_runs 16 = (.ifCond .ne 7, (false, 19), (false, 23), (0, 0, 0), (0, 0, 0), []) ∧
  pw_fnd pp_D_runs 19 = (.iconst 1, (false, 20), (false, 0), (0, 0, 0), (0, 0, 0), [(1, (false, 0))]) ∧
  pw_fnd pp_D_runs 20 = (.goto 4, (false, 23), (false, 24), (0, 0, 0), (0, 0, 0), []) ∧
  pw_fnd pp_D_runs 23 = (.iconst 0, (false, 24), (false, 0), (0, 0, 0), (0, 0, 0), [(0, (false, 0))]) ∧
  pw_fnd pp_D_runs 24 = (.ireturn, (false, 25), (false, 0), (0, 0, 2), (0, 0, 0), []) :=
  ⟨rfl, rfl, rfl, rfl, rfl, rfl, rfl, rfl, rfl, rfl, rfl, rfl, rfl⟩
set_option maxRecDepth 100000 in
theorem pk_D_runs : pp_D_runs.all (fun q => pw_chk pw_jt pm_D_runs q.1 q.2) = true := by decide +kernel
def pp_D_beginsWindow : List (Nat × pw_E) := [(0, (.aload_n 0, (false, 1), (false, 0), (0, 0, 0), (0, 0, 0), [])),
  (1, (.getfield 33, (false, 4), (false, 0), (1, 5, 0), (0, 0, 151), [])),
  (4, (.ifCond .le 16, (false, 7), (false, 20), (0, 0, 0), (0, 0, 0), [])),
  (7, (.iload_n 1, (false, 8), (false, 0), (0, 0, 0), (0, 0, 0), [])),
  (8, (.aload_n 0, (false, 9), (false, 0), (0, 0, 0), (0, 0, 0), [])),
  (9, (.getfield 33, (false, 12), (false, 0), (1, 5, 0), (0, 0, 151), [])),
  (12, (.irem, (false, 13), (false, 0), (0, 0, 0), (0, 0, 0), [])),
  (13, (.ifCond .ne 7, (false, 16), (false, 20), (0, 0, 0), (0, 0, 0), [])),
  (16, (.iconst 1, (false, 17), (false, 0), (0, 0, 0), (0, 0, 0), [(1, (false, 0))])),
  (17, (.goto 4, (false, 20), (false, 21), (0, 0, 0), (0, 0, 0), [])),
  (20, (.iconst 0, (false, 21), (false, 0), (0, 0, 0), (0, 0, 0), [(0, (false, 0))])),
  (21, (.ireturn, (false, 22), (false, 0), (0, 0, 2), (0, 0, 0), []))]
set_option maxRecDepth 100000 in
theorem pe_D_beginsWindow : pw_fnd pp_D_beginsWindow 0 = (.aload_n 0, (false, 1), (false, 0), (0, 0, 0), (0, 0, 0), []) ∧
  pw_fnd pp_D_beginsWindow 1 = (.getfield 33, (false, 4), (false, 0), (1, 5, 0), (0, 0, 151), []) ∧
  pw_fnd pp_D_beginsWindow 4 = (.ifCond .le 16, (false, 7), (false, 20), (0, 0, 0), (0, 0, 0), []) ∧
  pw_fnd pp_D_beginsWindow 7 = (.iload_n 1, (false, 8), (false, 0), (0, 0, 0), (0, 0, 0), []) ∧
  pw_fnd pp_D_beginsWindow 8 = (.aload_n 0, (false, 9), (false, 0), (0, 0, 0), (0, 0, 0), []) ∧
  pw_fnd pp_D_beginsWindow 9 = (.getfield 33, (false, 12), (false, 0), (1, 5, 0), (0, 0, 151), []) ∧
  pw_fnd pp_D_beginsWindow 12 = (.irem, (false, 13), (false, 0), (0, 0, 0), (0, 0, 0), []) ∧
  pw_fnd pp_D_beginsWindow 13 = (.ifCond .ne 7, (false, 16), (false, 20), (0, 0, 0), (0, 0, 0), []) ∧
  pw_fnd pp_D_beginsWindow 16 = (.iconst 1, (false, 17), (false, 0), (0, 0, 0), (0, 0, 0), [(1, (false, 0))]) ∧
  pw_fnd pp_D_beginsWindow 17 = (.goto 4, (false, 20), (false, 21), (0, 0, 0), (0, 0, 0), []) ∧
  pw_fnd pp_D_beginsWindow 20 = (.iconst 0, (false, 21), (false, 0), (0, 0, 0), (0, 0, 0), [(0, (false, 0))]) ∧
  pw_fnd pp_D_beginsWindow 21 = (.ireturn, (false, 22), (false, 0), (0, 0, 2), (0, 0, 0), []) :=
  ⟨rfl, rfl, rfl, rfl, rfl, rfl, rfl, rfl, rfl, rfl, rfl, rfl⟩
set_option maxRecDepth 100000 in
theorem pk_D_beginsWindow : pp_D_beginsWindow.all (fun q => pw_chk pw_jt pm_D_beginsWindow q.1 q.2) = true := by decide +kernel
def pp_D_windowAt : List (Nat × pw_E) := [(0, (.aload_n 0, (false, 1), (false, 0), (0, 0, 0), (0, 0, 0), [])),
  (1, (.getfield 33, (false, 4), (false, 0), (1, 5, 0), (0, 0, 151), [])),
  (4, (.ifCond .le 12, (false, 7), (false, 16), (0, 0, 0), (0, 0, 0), [])),
  (7, (.iload_n 1, (false, 8), (false, 0), (0, 0, 0), (0, 0, 0), [])),
  (8, (.aload_n 0, (false, 9), (false, 0), (0, 0, 0), (0, 0, 0), [])),
  (9, (.getfield 33, (false, 12), (false, 0), (1, 5, 0), (0, 0, 151), [])),
  (12, (.idiv, (false, 13), (false, 0), (0, 0, 0), (0, 0, 0), [])),
  (13, (.goto 4, (false, 16), (false, 17), (0, 0, 0), (0, 0, 0), [])),
  (16, (.iconst 0, (false, 17), (false, 0), (0, 0, 0), (0, 0, 0), [(0, (false, 0))])),
  (17, (.ireturn, (false, 18), (false, 0), (0, 0, 0), (0, 0, 0), []))]
set_option maxRecDepth 100000 in
theorem pe_D_windowAt : pw_fnd pp_D_windowAt 0 = (.aload_n 0, (false, 1), (false, 0), (0, 0, 0), (0, 0, 0), []) ∧
  pw_fnd pp_D_windowAt 1 = (.getfield 33, (false, 4), (false, 0), (1, 5, 0), (0, 0, 151), []) ∧
  pw_fnd pp_D_windowAt 4 = (.ifCond .le 12, (false, 7), (false, 16), (0, 0, 0), (0, 0, 0), []) ∧
  pw_fnd pp_D_windowAt 7 = (.iload_n 1, (false, 8), (false, 0), (0, 0, 0), (0, 0, 0), []) ∧
  pw_fnd pp_D_windowAt 8 = (.aload_n 0, (false, 9), (false, 0), (0, 0, 0), (0, 0, 0), []) ∧
  pw_fnd pp_D_windowAt 9 = (.getfield 33, (false, 12), (false, 0), (1, 5, 0), (0, 0, 151), []) ∧
  pw_fnd pp_D_windowAt 12 = (.idiv, (false, 13), (false, 0), (0, 0, 0), (0, 0, 0), []) ∧
  pw_fnd pp_D_windowAt 13 = (.goto 4, (false, 16), (false, 17), (0, 0, 0), (0, 0, 0), []) ∧
  pw_fnd pp_D_windowAt 16 = (.iconst 0, (false, 17), (false, 0), (0, 0, 0), (0, 0, 0), [(0, (false, 0))]) ∧
  pw_fnd pp_D_windowAt 17 = (.ireturn, (false, 18), (false, 0), (0, 0, 0), (0, 0, 0), []) :=
  ⟨rfl, rfl, rfl, rfl, rfl, rfl, rfl, rfl, rfl, rfl⟩
set_option maxRecDepth 100000 in
theorem pk_D_windowAt : pp_D_windowAt.all (fun q => pw_chk pw_jt pm_D_windowAt q.1 q.2) = true := by decide +kernel
def pp_D_firstTickOf : List (Nat × pw_E) := [(0, (.iload_n 1, (false, 1), (false, 0), (0, 0, 0), (0, 0, 0), [])),
  (1, (.aload_n 0, (false, 2), (false, 0), (0, 0, 0), (0, 0, 0), [])),
  (2, (.getfield 33, (false, 5), (false, 0), (1, 5, 0), (0, 0, 151), [])),
  (5, (.imul, (false, 6), (false, 0), (0, 0, 0), (0, 0, 0), [])),
  (6, (.ireturn, (false, 7), (false, 0), (0, 0, 0), (0, 0, 0), []))]
set_option maxRecDepth 100000 in
theorem pe_D_firstTickOf : pw_fnd pp_D_firstTickOf 0 = (.iload_n 1, (false, 1), (false, 0), (0, 0, 0), (0, 0, 0), []) ∧
  pw_fnd pp_D_firstTickOf 1 = (.aload_n 0, (false, 2), (false, 0), (0, 0, 0), (0, 0, 0), []) ∧
  pw_fnd pp_D_firstTickOf 2 = (.getfield 33, (false, 5), (false, 0), (1, 5, 0), (0, 0, 151), []) ∧
  pw_fnd pp_D_firstTickOf 5 = (.imul, (false, 6), (false, 0), (0, 0, 0), (0, 0, 0), []) ∧
  pw_fnd pp_D_firstTickOf 6 = (.ireturn, (false, 7), (false, 0), (0, 0, 0), (0, 0, 0), []) :=
  ⟨rfl, rfl, rfl, rfl, rfl⟩
set_option maxRecDepth 100000 in
theorem pk_D_firstTickOf : pp_D_firstTickOf.all (fun q => pw_chk pw_jt pm_D_firstTickOf q.1 q.2) = true := by decide +kernel
def pp_D_givenOf : List (Nat × pw_E) := [(0, (.iload_n 1, (false, 1), (false, 0), (0, 0, 0), (0, 0, 0), [])),
  (1, (.ifCond .lt 21, (false, 4), (false, 22), (0, 0, 0), (0, 0, 0), [])),
  (4, (.iload_n 1, (false, 5), (false, 0), (0, 0, 0), (0, 0, 0), [])),
  (5, (.aload_n 0, (false, 6), (false, 0), (0, 0, 0), (0, 0, 0), [])),
  (6, (.getfield 46, (false, 9), (false, 0), (1, 8, 1), (0, 0, 156), [])),
  (9, (.arraylength, (false, 10), (false, 0), (0, 0, 0), (0, 0, 0), [])),
  (10, (.if_icmp .ge 12, (false, 13), (false, 22), (0, 0, 0), (0, 0, 0), [])),
  (13, (.aload_n 0, (false, 14), (false, 0), (0, 0, 0), (0, 0, 0), [])),
  (14, (.getfield 46, (false, 17), (false, 0), (1, 8, 1), (0, 0, 156), [])),
  (17, (.iload_n 1, (false, 18), (false, 0), (0, 0, 0), (0, 0, 0), [])),
  (18, (.iaload, (false, 19), (false, 0), (0, 0, 0), (0, 0, 0), [])),
  (19, (.goto 4, (false, 22), (false, 23), (0, 0, 0), (0, 0, 0), [])),
  (22, (.iconst 0, (false, 23), (false, 0), (0, 0, 0), (0, 0, 0), [(0, (false, 0))])),
  (23, (.ireturn, (false, 24), (false, 0), (0, 0, 0), (0, 0, 0), []))]
set_option maxRecDepth 100000 in
theorem pe_D_givenOf : pw_fnd pp_D_givenOf 0 = (.iload_n 1, (false, 1), (false, 0), (0, 0, 0), (0, 0, 0), []) ∧
  pw_fnd pp_D_givenOf 1 = (.ifCond .lt 21, (false, 4), (false, 22), (0, 0, 0), (0, 0, 0), []) ∧
  pw_fnd pp_D_givenOf 4 = (.iload_n 1, (false, 5), (false, 0), (0, 0, 0), (0, 0, 0), []) ∧
  pw_fnd pp_D_givenOf 5 = (.aload_n 0, (false, 6), (false, 0), (0, 0, 0), (0, 0, 0), []) ∧
  pw_fnd pp_D_givenOf 6 = (.getfield 46, (false, 9), (false, 0), (1, 8, 1), (0, 0, 156), []) ∧
  pw_fnd pp_D_givenOf 9 = (.arraylength, (false, 10), (false, 0), (0, 0, 0), (0, 0, 0), []) ∧
  pw_fnd pp_D_givenOf 10 = (.if_icmp .ge 12, (false, 13), (false, 22), (0, 0, 0), (0, 0, 0), []) ∧
  pw_fnd pp_D_givenOf 13 = (.aload_n 0, (false, 14), (false, 0), (0, 0, 0), (0, 0, 0), []) ∧
  pw_fnd pp_D_givenOf 14 = (.getfield 46, (false, 17), (false, 0), (1, 8, 1), (0, 0, 156), []) ∧
  pw_fnd pp_D_givenOf 17 = (.iload_n 1, (false, 18), (false, 0), (0, 0, 0), (0, 0, 0), []) ∧
  pw_fnd pp_D_givenOf 18 = (.iaload, (false, 19), (false, 0), (0, 0, 0), (0, 0, 0), []) ∧
  pw_fnd pp_D_givenOf 19 = (.goto 4, (false, 22), (false, 23), (0, 0, 0), (0, 0, 0), []) ∧
  pw_fnd pp_D_givenOf 22 = (.iconst 0, (false, 23), (false, 0), (0, 0, 0), (0, 0, 0), [(0, (false, 0))]) ∧
  pw_fnd pp_D_givenOf 23 = (.ireturn, (false, 24), (false, 0), (0, 0, 0), (0, 0, 0), []) :=
  ⟨rfl, rfl, rfl, rfl, rfl, rfl, rfl, rfl, rfl, rfl, rfl, rfl, rfl, rfl⟩
set_option maxRecDepth 100000 in
theorem pk_D_givenOf : pp_D_givenOf.all (fun q => pw_chk pw_jt pm_D_givenOf q.1 q.2) = true := by decide +kernel
def pp_D_addGiven : List (Nat × pw_E) := [(0, (.iload_n 1, (false, 1), (false, 0), (0, 0, 0), (0, 0, 0), [])),
  (1, (.ifCond .lt 22, (false, 4), (false, 23), (0, 0, 0), (0, 0, 0), [])),
  (4, (.iload_n 1, (false, 5), (false, 0), (0, 0, 0), (0, 0, 0), [])),
  (5, (.aload_n 0, (false, 6), (false, 0), (0, 0, 0), (0, 0, 0), [])),
  (6, (.getfield 46, (false, 9), (false, 0), (1, 8, 1), (0, 0, 156), [])),
  (9, (.arraylength, (false, 10), (false, 0), (0, 0, 0), (0, 0, 0), [])),
  (10, (.if_icmp .ge 13, (false, 13), (false, 23), (0, 0, 0), (0, 0, 0), [])),
  (13, (.aload_n 0, (false, 14), (false, 0), (0, 0, 0), (0, 0, 0), [])),
  (14, (.getfield 46, (false, 17), (false, 0), (1, 8, 1), (0, 0, 156), [])),
  (17, (.iload_n 1, (false, 18), (false, 0), (0, 0, 0), (0, 0, 0), [])),
  (18, (.dup2, (false, 19), (false, 0), (0, 0, 0), (0, 0, 0), [])),
  (19, (.iaload, (false, 20), (false, 0), (0, 0, 0), (0, 0, 0), [])),
  (20, (.iload_n 2, (false, 21), (false, 0), (0, 0, 0), (0, 0, 0), [])),
  (21, (.iadd, (false, 22), (false, 0), (0, 0, 0), (0, 0, 0), [])),
  (22, (.iastore, (false, 23), (false, 0), (0, 0, 0), (0, 0, 0), [])),
  (23, (.return_, (false, 24), (false, 0), (0, 0, 0), (0, 0, 0), []))]
set_option maxRecDepth 100000 in
theorem pe_D_addGiven : pw_fnd pp_D_addGiven 0 = (.iload_n 1, (false, 1), (false, 0), (0, 0, 0), (0, 0, 0), []) ∧
  pw_fnd pp_D_addGiven 1 = (.ifCond .lt 22, (false, 4), (false, 23), (0, 0, 0), (0, 0, 0), []) ∧
  pw_fnd pp_D_addGiven 4 = (.iload_n 1, (false, 5), (false, 0), (0, 0, 0), (0, 0, 0), []) ∧
  pw_fnd pp_D_addGiven 5 = (.aload_n 0, (false, 6), (false, 0), (0, 0, 0), (0, 0, 0), []) ∧
  pw_fnd pp_D_addGiven 6 = (.getfield 46, (false, 9), (false, 0), (1, 8, 1), (0, 0, 156), []) ∧
  pw_fnd pp_D_addGiven 9 = (.arraylength, (false, 10), (false, 0), (0, 0, 0), (0, 0, 0), []) ∧
  pw_fnd pp_D_addGiven 10 = (.if_icmp .ge 13, (false, 13), (false, 23), (0, 0, 0), (0, 0, 0), []) ∧
  pw_fnd pp_D_addGiven 13 = (.aload_n 0, (false, 14), (false, 0), (0, 0, 0), (0, 0, 0), []) ∧
  pw_fnd pp_D_addGiven 14 = (.getfield 46, (false, 17), (false, 0), (1, 8, 1), (0, 0, 156), []) ∧
  pw_fnd pp_D_addGiven 17 = (.iload_n 1, (false, 18), (false, 0), (0, 0, 0), (0, 0, 0), []) ∧
  pw_fnd pp_D_addGiven 18 = (.dup2, (false, 19), (false, 0), (0, 0, 0), (0, 0, 0), []) ∧
  pw_fnd pp_D_addGiven 19 = (.iaload, (false, 20), (false, 0), (0, 0, 0), (0, 0, 0), []) ∧
  pw_fnd pp_D_addGiven 20 = (.iload_n 2, (false, 21), (false, 0), (0, 0, 0), (0, 0, 0), []) ∧
  pw_fnd pp_D_addGiven 21 = (.iadd, (false, 22), (false, 0), (0, 0, 0), (0, 0, 0), []) ∧
  pw_fnd pp_D_addGiven 22 = (.iastore, (false, 23), (false, 0), (0, 0, 0), (0, 0, 0), []) ∧
  pw_fnd pp_D_addGiven 23 = (.return_, (false, 24), (false, 0), (0, 0, 0), (0, 0, 0), []) :=
  ⟨rfl, rfl, rfl, rfl, rfl, rfl, rfl, rfl, rfl, rfl, rfl, rfl, rfl, rfl, rfl, rfl⟩
set_option maxRecDepth 100000 in
theorem pk_D_addGiven : pp_D_addGiven.all (fun q => pw_chk pw_jt pm_D_addGiven q.1 q.2) = true := by decide +kernel
def pp_W_at : List (Nat × pw_E) := [(0, (.iload_n 1, (false, 1), (false, 0), (0, 0, 0), (0, 0, 0), [])),
  (1, (.ifCond .lt 29, (false, 4), (false, 30), (0, 0, 0), (0, 0, 0), [])),
  (4, (.iload_n 1, (false, 5), (false, 0), (0, 0, 0), (0, 0, 0), [])),
  (5, (.aload_n 0, (false, 6), (false, 0), (0, 0, 0), (0, 0, 0), [])),
  (6, (.getfield 15, (false, 9), (false, 0), (2, 1, 0), (0, 0, 135), [])),
  (9, (.if_icmp .ge 21, (false, 12), (false, 30), (0, 0, 0), (0, 0, 0), [])),
  (12, (.iload_n 1, (false, 13), (false, 0), (0, 0, 0), (0, 0, 0), [])),
  (13, (.aload_n 0, (false, 14), (false, 0), (0, 0, 0), (0, 0, 0), [])),
  (14, (.getfield 9, (false, 17), (false, 0), (2, 0, 1), (0, 0, 134), [])),
  (17, (.arraylength, (false, 18), (false, 0), (0, 0, 0), (0, 0, 0), [])),
  (18, (.if_icmp .ge 12, (false, 21), (false, 30), (0, 0, 0), (0, 0, 0), [])),
  (21, (.aload_n 0, (false, 22), (false, 0), (0, 0, 0), (0, 0, 0), [])),
  (22, (.getfield 9, (false, 25), (false, 0), (2, 0, 1), (0, 0, 134), [])),
  (25, (.iload_n 1, (false, 26), (false, 0), (0, 0, 0), (0, 0, 0), [])),
  (26, (.iaload, (false, 27), (false, 0), (0, 0, 0), (0, 0, 0), [])),
  (27, (.goto 5, (false, 30), (false, 32), (0, 0, 0), (0, 0, 0), [])),
  (30, (.bipush (-9), (false, 32), (false, 0), (0, 0, 0), (0, 0, 0), [((-9), (false, 0))])),
  (32, (.ireturn, (false, 33), (false, 0), (0, 0, 0), (0, 0, 0), []))]
set_option maxRecDepth 100000 in
theorem pe_W_at : pw_fnd pp_W_at 0 = (.iload_n 1, (false, 1), (false, 0), (0, 0, 0), (0, 0, 0), []) ∧
  pw_fnd pp_W_at 1 = (.ifCond .lt 29, (false, 4), (false, 30), (0, 0, 0), (0, 0, 0), []) ∧
  pw_fnd pp_W_at 4 = (.iload_n 1, (false, 5), (false, 0), (0, 0, 0), (0, 0, 0), []) ∧
  pw_fnd pp_W_at 5 = (.aload_n 0, (false, 6), (false, 0), (0, 0, 0), (0, 0, 0), []) ∧
  pw_fnd pp_W_at 6 = (.getfield 15, (false, 9), (false, 0), (2, 1, 0), (0, 0, 135), []) ∧
  pw_fnd pp_W_at 9 = (.if_icmp .ge 21, (false, 12), (false, 30), (0, 0, 0), (0, 0, 0), []) ∧
  pw_fnd pp_W_at 12 = (.iload_n 1, (false, 13), (false, 0), (0, 0, 0), (0, 0, 0), []) ∧
  pw_fnd pp_W_at 13 = (.aload_n 0, (false, 14), (false, 0), (0, 0, 0), (0, 0, 0), []) ∧
  pw_fnd pp_W_at 14 = (.getfield 9, (false, 17), (false, 0), (2, 0, 1), (0, 0, 134), []) ∧
  pw_fnd pp_W_at 17 = (.arraylength, (false, 18), (false, 0), (0, 0, 0), (0, 0, 0), []) ∧
  pw_fnd pp_W_at 18 = (.if_icmp .ge 12, (false, 21), (false, 30), (0, 0, 0), (0, 0, 0), []) ∧
  pw_fnd pp_W_at 21 = (.aload_n 0, (false, 22), (false, 0), (0, 0, 0), (0, 0, 0), []) ∧
  pw_fnd pp_W_at 22 = (.getfield 9, (false, 25), (false, 0), (2, 0, 1), (0, 0, 134), []) ∧
  pw_fnd pp_W_at 25 = (.iload_n 1, (false, 26), (false, 0), (0, 0, 0), (0, 0, 0), []) ∧
  pw_fnd pp_W_at 26 = (.iaload, (false, 27), (false, 0), (0, 0, 0), (0, 0, 0), []) ∧
  pw_fnd pp_W_at 27 = (.goto 5, (false, 30), (false, 32), (0, 0, 0), (0, 0, 0), []) ∧
  pw_fnd pp_W_at 30 = (.bipush (-9), (false, 32), (false, 0), (0, 0, 0), (0, 0, 0), [((-9), (false, 0))]) ∧
  pw_fnd pp_W_at 32 = (.ireturn, (false, 33), (false, 0), (0, 0, 0), (0, 0, 0), []) :=
  ⟨rfl, rfl, rfl, rfl, rfl, rfl, rfl, rfl, rfl, rfl, rfl, rfl, rfl, rfl, rfl, rfl, rfl, rfl⟩
set_option maxRecDepth 100000 in
theorem pk_W_at : pp_W_at.all (fun q => pw_chk pw_jt pm_W_at q.1 q.2) = true := by decide +kernel
def pp_W_append : List (Nat × pw_E) := [(0, (.aload_n 0, (false, 1), (false, 0), (0, 0, 0), (0, 0, 0), [])),
  (1, (.getfield 15, (false, 4), (false, 0), (2, 1, 0), (0, 0, 135), [])),
  (4, (.ifCond .lt 15, (false, 7), (false, 19), (0, 0, 0), (0, 0, 0), [])),
  (7, (.aload_n 0, (false, 8), (false, 0), (0, 0, 0), (0, 0, 0), [])),
  (8, (.getfield 15, (false, 11), (false, 0), (2, 1, 0), (0, 0, 135), [])),
  (11, (.aload_n 0, (false, 12), (false, 0), (0, 0, 0), (0, 0, 0), [])),
  (12, (.getfield 9, (false, 15), (false, 0), (2, 0, 1), (0, 0, 134), [])),
  (15, (.arraylength, (false, 16), (false, 0), (0, 0, 0), (0, 0, 0), [])),
  (16, (.if_icmp .lt 6, (false, 19), (false, 22), (0, 0, 0), (0, 0, 0), [])),
  (19, (.bipush (-9), (false, 21), (false, 0), (0, 0, 0), (0, 0, 0), [((-9), (false, 0))])),
  (21, (.ireturn, (false, 22), (false, 0), (0, 0, 0), (0, 0, 0), [])),
  (22, (.aload_n 0, (false, 23), (false, 0), (0, 0, 0), (0, 0, 0), [])),
  (23, (.getfield 9, (false, 26), (false, 0), (2, 0, 1), (0, 0, 134), [])),
  (26, (.aload_n 0, (false, 27), (false, 0), (0, 0, 0), (0, 0, 0), [])),
  (27, (.getfield 15, (false, 30), (false, 0), (2, 1, 0), (0, 0, 135), [])),
  (30, (.iload_n 1, (false, 31), (false, 0), (0, 0, 0), (0, 0, 0), [])),
  (31, (.iastore, (false, 32), (false, 0), (0, 0, 0), (0, 0, 0), [])),
  (32, (.aload_n 0, (false, 33), (false, 0), (0, 0, 0), (0, 0, 0), [])),
  (33, (.dup, (false, 34), (false, 0), (0, 0, 0), (0, 0, 0), [])),
  (34, (.getfield 15, (false, 37), (false, 0), (2, 1, 0), (0, 0, 135), [])),
  (37, (.iconst 1, (false, 38), (false, 0), (0, 0, 0), (0, 0, 0), [(1, (false, 0))])),
  (38, (.iadd, (false, 39), (false, 0), (0, 0, 0), (0, 0, 0), [])),
  (39, (.putfield 15, (false, 42), (false, 0), (2, 1, 0), (0, 0, 135), [])),
  (42, (.aload_n 0, (false, 43), (false, 0), (0, 0, 0), (0, 0, 0), [])),
  (43, (.getfield 15, (false, 46), (false, 0), (2, 1, 0), (0, 0, 135), [])),
  (46, (.iconst 1, (false, 47), (false, 0), (0, 0, 0), (0, 0, 0), [(1, (false, 0))])),
  (47, (.isub, (false, 48), (false, 0), (0, 0, 0), (0, 0, 0), [])),
  (48, (.ireturn, (false, 49), (false, 0), (0, 0, 0), (0, 0, 0), []))]
set_option maxRecDepth 100000 in
theorem pe_W_append : pw_fnd pp_W_append 0 = (.aload_n 0, (false, 1), (false, 0), (0, 0, 0), (0, 0, 0), []) ∧
  pw_fnd pp_W_append 1 = (.getfield 15, (false, 4), (false, 0), (2, 1, 0), (0, 0, 135), []) ∧
  pw_fnd pp_W_append 4 = (.ifCond .lt 15, (false, 7), (false, 19), (0, 0, 0), (0, 0, 0), []) ∧
  pw_fnd pp_W_append 7 = (.aload_n 0, (false, 8), (false, 0), (0, 0, 0), (0, 0, 0), []) ∧
  pw_fnd pp_W_append 8 = (.getfield 15, (false, 11), (false, 0), (2, 1, 0), (0, 0, 135), []) ∧
  pw_fnd pp_W_append 11 = (.aload_n 0, (false, 12), (false, 0), (0, 0, 0), (0, 0, 0), []) ∧
  pw_fnd pp_W_append 12 = (.getfield 9, (false, 15), (false, 0), (2, 0, 1), (0, 0, 134), []) ∧
  pw_fnd pp_W_append 15 = (.arraylength, (false, 16), (false, 0), (0, 0, 0), (0, 0, 0), []) ∧
  pw_fnd pp_W_append 16 = (.if_icmp .lt 6, (false, 19), (false, 22), (0, 0, 0), (0, 0, 0), []) ∧
  pw_fnd pp_W_append 19 = (.bipush (-9), (false, 21), (false, 0), (0, 0, 0), (0, 0, 0), [((-9), (false, 0))]) ∧
  pw_fnd pp_W_append 21 = (.ireturn, (false, 22), (false, 0), (0, 0, 0), (0, 0, 0), []) ∧
  pw_fnd pp_W_append 22 = (.aload_n 0, (false, 23), (false, 0), (0, 0, 0), (0, 0, 0), []) ∧
  pw_fnd pp_W_append 23 = (.getfield 9, (false, 26), (false, 0), (2, 0, 1), (0, 0, 134), []) ∧
  pw_fnd pp_W_append 26 = (.aload_n 0, (false, 27), (false, 0), (0, 0, 0), (0, 0, 0), []) ∧
  pw_fnd pp_W_append 27 = (.getfield 15, (false, 30), (false, 0), (2, 1, 0), (0, 0, 135), []) ∧
  pw_fnd pp_W_append 30 = (.iload_n 1, (false, 31), (false, 0), (0, 0, 0), (0, 0, 0), []) ∧
  pw_fnd pp_W_append 31 = (.iastore, (false, 32), (false, 0), (0, 0, 0), (0, 0, 0), []) ∧
  pw_fnd pp_W_append 32 = (.aload_n 0, (false, 33), (false, 0), (0, 0, 0), (0, 0, 0), []) ∧
  pw_fnd pp_W_append 33 = (.dup, (false, 34), (false, 0), (0, 0, 0), (0, 0, 0), []) ∧
  pw_fnd pp_W_append 34 = (.getfield 15, (false, 37), (false, 0), (2, 1, 0), (0, 0, 135), []) ∧
  pw_fnd pp_W_append 37 = (.iconst 1, (false, 38), (false, 0), (0, 0, 0), (0, 0, 0), [(1, (false, 0))]) ∧
  pw_fnd pp_W_append 38 = (.iadd, (false, 39), (false, 0), (0, 0, 0), (0, 0, 0), []) ∧
  pw_fnd pp_W_append 39 = (.putfield 15, (false, 42), (false, 0), (2, 1, 0), (0, 0, 135), []) ∧
  pw_fnd pp_W_append 42 = (.aload_n 0, (false, 43), (false, 0), (0, 0, 0), (0, 0, 0), []) ∧
  pw_fnd pp_W_append 43 = (.getfield 15, (false, 46), (false, 0), (2, 1, 0), (0, 0, 135), []) ∧
  pw_fnd pp_W_append 46 = (.iconst 1, (false, 47), (false, 0), (0, 0, 0), (0, 0, 0), [(1, (false, 0))]) ∧
  pw_fnd pp_W_append 47 = (.isub, (false, 48), (false, 0), (0, 0, 0), (0, 0, 0), []) ∧
  pw_fnd pp_W_append 48 = (.ireturn, (false, 49), (false, 0), (0, 0, 0), (0, 0, 0), []) :=
  ⟨rfl, rfl, rfl, rfl, rfl, rfl, rfl, rfl, rfl, rfl, rfl, rfl, rfl, rfl, rfl, rfl, rfl, rfl, rfl, rfl, rfl, rfl, rfl, rfl, rfl, rfl, rfl, rfl⟩
set_option maxRecDepth 100000 in
theorem pk_W_append : pp_W_append.all (fun q => pw_chk pw_jt pm_W_append q.1 q.2) = true := by decide +kernel
def pp_W_removeAt : List (Nat × pw_E) := [(0, (.iload_n 1, (false, 1), (false, 0), (0, 0, 0), (0, 0, 0), [])),
  (1, (.ifCond .lt 11, (false, 4), (false, 12), (0, 0, 0), (0, 0, 0), [])),
  (4, (.iload_n 1, (false, 5), (false, 0), (0, 0, 0), (0, 0, 0), [])),
  (5, (.aload_n 0, (false, 6), (false, 0), (0, 0, 0), (0, 0, 0), [])),
  (6, (.getfield 15, (false, 9), (false, 0), (2, 1, 0), (0, 0, 135), [])),
  (9, (.if_icmp .lt 4, (false, 12), (false, 13), (0, 0, 0), (0, 0, 0), [])),
  (12, (.return_, (false, 13), (false, 0), (0, 0, 0), (0, 0, 0), [])),
  (13, (.iload_n 1, (false, 14), (false, 0), (0, 0, 0), (0, 0, 0), [])),
  (14, (.iconst 1, (false, 15), (false, 0), (0, 0, 0), (0, 0, 0), [(1, (false, 0))])),
  (15, (.iadd, (false, 16), (false, 0), (0, 0, 0), (0, 0, 0), [])),
  (16, (.istore_n 2, (true, 17), (false, 0), (0, 0, 0), (0, 0, 0), [])),
  (17, (.iload_n 2, (false, 18), (false, 0), (0, 0, 0), (0, 0, 0), [])),
  (18, (.aload_n 0, (false, 19), (false, 0), (0, 0, 0), (0, 0, 0), [])),
  (19, (.getfield 15, (false, 22), (false, 0), (2, 1, 0), (0, 0, 135), [])),
  (22, (.if_icmp .ge 32, (false, 25), (false, 54), (0, 0, 0), (0, 0, 0), [])),
  (25, (.iload_n 2, (false, 26), (false, 0), (0, 0, 0), (0, 0, 0), [])),
  (26, (.aload_n 0, (false, 27), (false, 0), (0, 0, 0), (0, 0, 0), [])),
  (27, (.getfield 9, (false, 30), (false, 0), (2, 0, 1), (0, 0, 134), [])),
  (30, (.arraylength, (false, 31), (false, 0), (0, 0, 0), (0, 0, 0), [])),
  (31, (.if_icmp .ge 23, (false, 34), (false, 54), (0, 0, 0), (0, 0, 0), [])),
  (34, (.aload_n 0, (false, 35), (false, 0), (0, 0, 0), (0, 0, 0), [])),
  (35, (.getfield 9, (false, 38), (false, 0), (2, 0, 1), (0, 0, 134), [])),
  (38, (.iload_n 2, (false, 39), (false, 0), (0, 0, 0), (0, 0, 0), [])),
  (39, (.iconst 1, (false, 40), (false, 0), (0, 0, 0), (0, 0, 0), [(1, (false, 0))])),
  (40, (.isub, (false, 41), (false, 0), (0, 0, 0), (0, 0, 0), [])),
  (41, (.aload_n 0, (false, 42), (false, 0), (0, 0, 0), (0, 0, 0), [])),
  (42, (.getfield 9, (false, 45), (false, 0), (2, 0, 1), (0, 0, 134), [])),
  (45, (.iload_n 2, (false, 46), (false, 0), (0, 0, 0), (0, 0, 0), [])),
  (46, (.iaload, (false, 47), (false, 0), (0, 0, 0), (0, 0, 0), [])),
  (47, (.iastore, (false, 48), (false, 0), (0, 0, 0), (0, 0, 0), [])),
  (48, (.iinc 2 1, (false, 51), (false, 0), (0, 0, 0), (0, 0, 0), [(1, (false, 0))])),
  (51, (.goto (-34), (false, 54), (true, 17), (0, 0, 0), (0, 0, 0), [])),
  (54, (.aload_n 0, (false, 55), (false, 0), (0, 0, 0), (0, 0, 0), [])),
  (55, (.dup, (false, 56), (false, 0), (0, 0, 0), (0, 0, 0), [])),
  (56, (.getfield 15, (false, 59), (false, 0), (2, 1, 0), (0, 0, 135), [])),
  (59, (.iconst 1, (false, 60), (false, 0), (0, 0, 0), (0, 0, 0), [(1, (false, 0))])),
  (60, (.isub, (false, 61), (false, 0), (0, 0, 0), (0, 0, 0), [])),
  (61, (.putfield 15, (false, 64), (false, 0), (2, 1, 0), (0, 0, 135), [])),
  (64, (.return_, (false, 65), (false, 0), (0, 0, 0), (0, 0, 0), []))]
set_option maxRecDepth 100000 in
theorem pe_W_removeAt : pw_fnd pp_W_removeAt 0 = (.iload_n 1, (false, 1), (false, 0), (0, 0, 0), (0, 0, 0), []) ∧
  pw_fnd pp_W_removeAt 1 = (.ifCond .lt 11, (false, 4), (false, 12), (0, 0, 0), (0, 0, 0), []) ∧
  pw_fnd pp_W_removeAt 4 = (.iload_n 1, (false, 5), (false, 0), (0, 0, 0), (0, 0, 0), []) ∧
  pw_fnd pp_W_removeAt 5 = (.aload_n 0, (false, 6), (false, 0), (0, 0, 0), (0, 0, 0), []) ∧
  pw_fnd pp_W_removeAt 6 = (.getfield 15, (false, 9), (false, 0), (2, 1, 0), (0, 0, 135), []) ∧
  pw_fnd pp_W_removeAt 9 = (.if_icmp .lt 4, (false, 12), (false, 13), (0, 0, 0), (0, 0, 0), []) ∧
  pw_fnd pp_W_removeAt 12 = (.return_, (false, 13), (false, 0), (0, 0, 0), (0, 0, 0), []) ∧
  pw_fnd pp_W_removeAt 13 = (.iload_n 1, (false, 14), (false, 0), (0, 0, 0), (0, 0, 0), []) ∧
  pw_fnd pp_W_removeAt 14 = (.iconst 1, (false, 15), (false, 0), (0, 0, 0), (0, 0, 0), [(1, (false, 0))]) ∧
  pw_fnd pp_W_removeAt 15 = (.iadd, (false, 16), (false, 0), (0, 0, 0), (0, 0, 0), []) ∧
  pw_fnd pp_W_removeAt 16 = (.istore_n 2, (true, 17), (false, 0), (0, 0, 0), (0, 0, 0), []) ∧
  pw_fnd pp_W_removeAt 17 = (.iload_n 2, (false, 18), (false, 0), (0, 0, 0), (0, 0, 0), []) ∧
  pw_fnd pp_W_removeAt 18 = (.aload_n 0, (false, 19), (false, 0), (0, 0, 0), (0, 0, 0), []) ∧
  pw_fnd pp_W_removeAt 19 = (.getfield 15, (false, 22), (false, 0), (2, 1, 0), (0, 0, 135), []) ∧
  pw_fnd pp_W_removeAt 22 = (.if_icmp .ge 32, (false, 25), (false, 54), (0, 0, 0), (0, 0, 0), []) ∧
  pw_fnd pp_W_removeAt 25 = (.iload_n 2, (false, 26), (false, 0), (0, 0, 0), (0, 0, 0), []) ∧
  pw_fnd pp_W_removeAt 26 = (.aload_n 0, (false, 27), (false, 0), (0, 0, 0), (0, 0, 0), []) ∧
  pw_fnd pp_W_removeAt 27 = (.getfield 9, (false, 30), (false, 0), (2, 0, 1), (0, 0, 134), []) ∧
  pw_fnd pp_W_removeAt 30 = (.arraylength, (false, 31), (false, 0), (0, 0, 0), (0, 0, 0), []) ∧
  pw_fnd pp_W_removeAt 31 = (.if_icmp .ge 23, (false, 34), (false, 54), (0, 0, 0), (0, 0, 0), []) ∧
  pw_fnd pp_W_removeAt 34 = (.aload_n 0, (false, 35), (false, 0), (0, 0, 0), (0, 0, 0), []) ∧
  pw_fnd pp_W_removeAt 35 = (.getfield 9, (false, 38), (false, 0), (2, 0, 1), (0, 0, 134), []) ∧
  pw_fnd pp_W_removeAt 38 = (.iload_n 2, (false, 39), (false, 0), (0, 0, 0), (0, 0, 0), []) ∧
  pw_fnd pp_W_removeAt 39 = (.iconst 1, (false, 40), (false, 0), (0, 0, 0), (0, 0, 0), [(1, (false, 0))]) ∧
  pw_fnd pp_W_removeAt 40 = (.isub, (false, 41), (false, 0), (0, 0, 0), (0, 0, 0), []) ∧
  pw_fnd pp_W_removeAt 41 = (.aload_n 0, (false, 42), (false, 0), (0, 0, 0), (0, 0, 0), []) ∧
  pw_fnd pp_W_removeAt 42 = (.getfield 9, (false, 45), (false, 0), (2, 0, 1), (0, 0, 134), []) ∧
  pw_fnd pp_W_removeAt 45 = (.iload_n 2, (false, 46), (false, 0), (0, 0, 0), (0, 0, 0), []) ∧
  pw_fnd pp_W_removeAt 46 = (.iaload, (false, 47), (false, 0), (0, 0, 0), (0, 0, 0), []) ∧
  pw_fnd pp_W_removeAt 47 = (.iastore, (false, 48), (false, 0), (0, 0, 0), (0, 0, 0), []) ∧
  pw_fnd pp_W_removeAt 48 = (.iinc 2 1, (false, 51), (false, 0), (0, 0, 0), (0, 0, 0), [(1, (false, 0))]) ∧
  pw_fnd pp_W_removeAt 51 = (.goto (-34), (false, 54), (true, 17), (0, 0, 0), (0, 0, 0), []) ∧
  pw_fnd pp_W_removeAt 54 = (.aload_n 0, (false, 55), (false, 0), (0, 0, 0), (0, 0, 0), []) ∧
  pw_fnd pp_W_removeAt 55 = (.dup, (false, 56), (false, 0), (0, 0, 0), (0, 0, 0), []) ∧
  pw_fnd pp_W_removeAt 56 = (.getfield 15, (false, 59), (false, 0), (2, 1, 0), (0, 0, 135), []) ∧
  pw_fnd pp_W_removeAt 59 = (.iconst 1, (false, 60), (false, 0), (0, 0, 0), (0, 0, 0), [(1, (false, 0))]) ∧
  pw_fnd pp_W_removeAt 60 = (.isub, (false, 61), (false, 0), (0, 0, 0), (0, 0, 0), []) ∧
  pw_fnd pp_W_removeAt 61 = (.putfield 15, (false, 64), (false, 0), (2, 1, 0), (0, 0, 135), []) ∧
  pw_fnd pp_W_removeAt 64 = (.return_, (false, 65), (false, 0), (0, 0, 0), (0, 0, 0), []) :=
  ⟨rfl, rfl, rfl, rfl, rfl, rfl, rfl, rfl, rfl, rfl, rfl, rfl, rfl, rfl, rfl, rfl, rfl, rfl, rfl, rfl, rfl, rfl, rfl, rfl, rfl, rfl, rfl, rfl, rfl, rfl, rfl, rfl, rfl, rfl, rfl, rfl, rfl, rfl, rfl⟩
set_option maxRecDepth 100000 in
theorem pk_W_removeAt : pp_W_removeAt.all (fun q => pw_chk pw_jt pm_W_removeAt q.1 q.2) = true := by decide +kernel
def pp_G_init : List (Nat × pw_E) := [(0, (.aload_n 0, (false, 1), (false, 0), (0, 0, 0), (0, 0, 0), [])),
  (1, (.invokespecial 3, (false, 4), (false, 0), (1001, 0, 0), (80, 81, 208), [])),
  (4, (.aload_n 0, (false, 5), (false, 0), (0, 0, 0), (0, 0, 0), [])),
  (5, (.iload_n 1, (false, 6), (false, 0), (0, 0, 0), (0, 0, 0), [])),
  (6, (.putfield 9, (false, 9), (false, 0), (0, 0, 0), (0, 0, 209), [])),
  (9, (.aload_n 0, (false, 10), (false, 0), (0, 0, 0), (0, 0, 0), [])),
  (10, (.iload_n 2, (false, 11), (false, 0), (0, 0, 0), (0, 0, 0), [])),
  (11, (.putfield 15, (false, 14), (false, 0), (0, 1, 0), (0, 0, 211), [])),
  (14, (.aload_n 0, (false, 15), (false, 0), (0, 0, 0), (0, 0, 0), [])),
  (15, (.iconst 2, (false, 16), (false, 0), (0, 0, 0), (0, 0, 0), [(2, (false, 0))])),
  (16, (.newarray .int, (false, 18), (false, 0), (1, 0, 0), (0, 0, 111), [])),
  (18, (.putfield 18, (false, 21), (false, 0), (0, 2, 1), (0, 0, 213), [])),
  (21, (.aload_n 0, (false, 22), (false, 0), (0, 0, 0), (0, 0, 0), [])),
  (22, (.iconst 2, (false, 23), (false, 0), (0, 0, 0), (0, 0, 0), [(2, (false, 0))])),
  (23, (.newarray .int, (false, 25), (false, 0), (1, 0, 0), (0, 0, 111), [])),
  (25, (.putfield 22, (false, 28), (false, 0), (0, 3, 1), (0, 0, 214), [])),
  (28, (.aload_n 0, (false, 29), (false, 0), (0, 0, 0), (0, 0, 0), [])),
  (29, (.iconst 0, (false, 30), (false, 0), (0, 0, 0), (0, 0, 0), [(0, (false, 0))])),
  (30, (.putfield 25, (false, 33), (false, 0), (0, 5, 0), (0, 0, 217), [])),
  (33, (.aload_n 0, (false, 34), (false, 0), (0, 0, 0), (0, 0, 0), [])),
  (34, (.bipush (-9), (false, 36), (false, 0), (0, 0, 0), (0, 0, 0), [((-9), (false, 0))])),
  (36, (.putfield 28, (false, 39), (false, 0), (0, 6, 0), (0, 0, 219), [])),
  (39, (.return_, (false, 40), (false, 0), (0, 0, 0), (0, 0, 0), []))]
set_option maxRecDepth 100000 in
theorem pe_G_init : pw_fnd pp_G_init 0 = (.aload_n 0, (false, 1), (false, 0), (0, 0, 0), (0, 0, 0), []) ∧
  pw_fnd pp_G_init 1 = (.invokespecial 3, (false, 4), (false, 0), (1001, 0, 0), (80, 81, 208), []) ∧
  pw_fnd pp_G_init 4 = (.aload_n 0, (false, 5), (false, 0), (0, 0, 0), (0, 0, 0), []) ∧
  pw_fnd pp_G_init 5 = (.iload_n 1, (false, 6), (false, 0), (0, 0, 0), (0, 0, 0), []) ∧
  pw_fnd pp_G_init 6 = (.putfield 9, (false, 9), (false, 0), (0, 0, 0), (0, 0, 209), []) ∧
  pw_fnd pp_G_init 9 = (.aload_n 0, (false, 10), (false, 0), (0, 0, 0), (0, 0, 0), []) ∧
  pw_fnd pp_G_init 10 = (.iload_n 2, (false, 11), (false, 0), (0, 0, 0), (0, 0, 0), []) ∧
  pw_fnd pp_G_init 11 = (.putfield 15, (false, 14), (false, 0), (0, 1, 0), (0, 0, 211), []) ∧
  pw_fnd pp_G_init 14 = (.aload_n 0, (false, 15), (false, 0), (0, 0, 0), (0, 0, 0), []) ∧
  pw_fnd pp_G_init 15 = (.iconst 2, (false, 16), (false, 0), (0, 0, 0), (0, 0, 0), [(2, (false, 0))]) ∧
  pw_fnd pp_G_init 16 = (.newarray .int, (false, 18), (false, 0), (1, 0, 0), (0, 0, 111), []) ∧
  pw_fnd pp_G_init 18 = (.putfield 18, (false, 21), (false, 0), (0, 2, 1), (0, 0, 213), []) ∧
  pw_fnd pp_G_init 21 = (.aload_n 0, (false, 22), (false, 0), (0, 0, 0), (0, 0, 0), []) ∧
  pw_fnd pp_G_init 22 = (.iconst 2, (false, 23), (false, 0), (0, 0, 0), (0, 0, 0), [(2, (false, 0))]) ∧
  pw_fnd pp_G_init 23 = (.newarray .int, (false, 25), (false, 0), (1, 0, 0), (0, 0, 111), []) ∧
  pw_fnd pp_G_init 25 = (.putfield 22, (false, 28), (false, 0), (0, 3, 1), (0, 0, 214), []) ∧
  pw_fnd pp_G_init 28 = (.aload_n 0, (false, 29), (false, 0), (0, 0, 0), (0, 0, 0), []) ∧
  pw_fnd pp_G_init 29 = (.iconst 0, (false, 30), (false, 0), (0, 0, 0), (0, 0, 0), [(0, (false, 0))]) ∧
  pw_fnd pp_G_init 30 = (.putfield 25, (false, 33), (false, 0), (0, 5, 0), (0, 0, 217), []) ∧
  pw_fnd pp_G_init 33 = (.aload_n 0, (false, 34), (false, 0), (0, 0, 0), (0, 0, 0), []) ∧
  pw_fnd pp_G_init 34 = (.bipush (-9), (false, 36), (false, 0), (0, 0, 0), (0, 0, 0), [((-9), (false, 0))]) ∧
  pw_fnd pp_G_init 36 = (.putfield 28, (false, 39), (false, 0), (0, 6, 0), (0, 0, 219), []) ∧
  pw_fnd pp_G_init 39 = (.return_, (false, 40), (false, 0), (0, 0, 0), (0, 0, 0), []) :=
  ⟨rfl, rfl, rfl, rfl, rfl, rfl, rfl, rfl, rfl, rfl, rfl, rfl, rfl, rfl, rfl, rfl, rfl, rfl, rfl, rfl, rfl, rfl, rfl⟩
set_option maxRecDepth 100000 in
theorem pk_G_init : pp_G_init.all (fun q => pw_chk pw_jt pm_G_init q.1 q.2) = true := by decide +kernel
def pp_G_rideOfTime : List (Nat × pw_E) := [(0, (.aload_n 0, (false, 1), (false, 0), (0, 0, 0), (0, 0, 0), [])),
  (1, (.iload_n 1, (false, 2), (false, 0), (0, 0, 0), (0, 0, 0), [])),
  (2, (.invokevirtual 34, (false, 5), (false, 0), (1, 2, 1), (0, 0, 307), [])),
  (5, (.ifCond .eq 21, (false, 8), (false, 26), (0, 0, 0), (0, 0, 0), [])),
  (8, (.iload_n 1, (false, 9), (false, 0), (0, 0, 0), (0, 0, 0), [])),
  (9, (.aload_n 0, (false, 10), (false, 0), (0, 0, 0), (0, 0, 0), [])),
  (10, (.getfield 18, (false, 13), (false, 0), (0, 2, 1), (0, 0, 213), [])),
  (13, (.arraylength, (false, 14), (false, 0), (0, 0, 0), (0, 0, 0), [])),
  (14, (.if_icmp .ge 12, (false, 17), (false, 26), (0, 0, 0), (0, 0, 0), [])),
  (17, (.aload_n 0, (false, 18), (false, 0), (0, 0, 0), (0, 0, 0), [])),
  (18, (.getfield 18, (false, 21), (false, 0), (0, 2, 1), (0, 0, 213), [])),
  (21, (.iload_n 1, (false, 22), (false, 0), (0, 0, 0), (0, 0, 0), [])),
  (22, (.iaload, (false, 23), (false, 0), (0, 0, 0), (0, 0, 0), [])),
  (23, (.goto 5, (false, 26), (false, 28), (0, 0, 0), (0, 0, 0), [])),
  (26, (.bipush (-9), (false, 28), (false, 0), (0, 0, 0), (0, 0, 0), [((-9), (false, 0))])),
  (28, (.ireturn, (false, 29), (false, 0), (0, 0, 0), (0, 0, 0), []))]
set_option maxRecDepth 100000 in
theorem pe_G_rideOfTime : pw_fnd pp_G_rideOfTime 0 = (.aload_n 0, (false, 1), (false, 0), (0, 0, 0), (0, 0, 0), []) ∧
  pw_fnd pp_G_rideOfTime 1 = (.iload_n 1, (false, 2), (false, 0), (0, 0, 0), (0, 0, 0), []) ∧
  pw_fnd pp_G_rideOfTime 2 = (.invokevirtual 34, (false, 5), (false, 0), (1, 2, 1), (0, 0, 307), []) ∧
  pw_fnd pp_G_rideOfTime 5 = (.ifCond .eq 21, (false, 8), (false, 26), (0, 0, 0), (0, 0, 0), []) ∧
  pw_fnd pp_G_rideOfTime 8 = (.iload_n 1, (false, 9), (false, 0), (0, 0, 0), (0, 0, 0), []) ∧
  pw_fnd pp_G_rideOfTime 9 = (.aload_n 0, (false, 10), (false, 0), (0, 0, 0), (0, 0, 0), []) ∧
  pw_fnd pp_G_rideOfTime 10 = (.getfield 18, (false, 13), (false, 0), (0, 2, 1), (0, 0, 213), []) ∧
  pw_fnd pp_G_rideOfTime 13 = (.arraylength, (false, 14), (false, 0), (0, 0, 0), (0, 0, 0), []) ∧
  pw_fnd pp_G_rideOfTime 14 = (.if_icmp .ge 12, (false, 17), (false, 26), (0, 0, 0), (0, 0, 0), []) ∧
  pw_fnd pp_G_rideOfTime 17 = (.aload_n 0, (false, 18), (false, 0), (0, 0, 0), (0, 0, 0), []) ∧
  pw_fnd pp_G_rideOfTime 18 = (.getfield 18, (false, 21), (false, 0), (0, 2, 1), (0, 0, 213), []) ∧
  pw_fnd pp_G_rideOfTime 21 = (.iload_n 1, (false, 22), (false, 0), (0, 0, 0), (0, 0, 0), []) ∧
  pw_fnd pp_G_rideOfTime 22 = (.iaload, (false, 23), (false, 0), (0, 0, 0), (0, 0, 0), []) ∧
  pw_fnd pp_G_rideOfTime 23 = (.goto 5, (false, 26), (false, 28), (0, 0, 0), (0, 0, 0), []) ∧
  pw_fnd pp_G_rideOfTime 26 = (.bipush (-9), (false, 28), (false, 0), (0, 0, 0), (0, 0, 0), [((-9), (false, 0))]) ∧
  pw_fnd pp_G_rideOfTime 28 = (.ireturn, (false, 29), (false, 0), (0, 0, 0), (0, 0, 0), []) :=
  ⟨rfl, rfl, rfl, rfl, rfl, rfl, rfl, rfl, rfl, rfl, rfl, rfl, rfl, rfl, rfl, rfl⟩
set_option maxRecDepth 100000 in
theorem pk_G_rideOfTime : pp_G_rideOfTime.all (fun q => pw_chk pw_jt pm_G_rideOfTime q.1 q.2) = true := by decide +kernel
def pp_G_windowOfTime : List (Nat × pw_E) := [(0, (.aload_n 0, (false, 1), (false, 0), (0, 0, 0), (0, 0, 0), [])),
  (1, (.iload_n 1, (false, 2), (false, 0), (0, 0, 0), (0, 0, 0), [])),
  (2, (.invokevirtual 34, (false, 5), (false, 0), (1, 2, 1), (0, 0, 307), [])),
  (5, (.ifCond .eq 21, (false, 8), (false, 26), (0, 0, 0), (0, 0, 0), [])),
  (8, (.iload_n 1, (false, 9), (false, 0), (0, 0, 0), (0, 0, 0), [])),
  (9, (.aload_n 0, (false, 10), (false, 0), (0, 0, 0), (0, 0, 0), [])),
  (10, (.getfield 22, (false, 13), (false, 0), (0, 3, 1), (0, 0, 214), [])),
  (13, (.arraylength, (false, 14), (false, 0), (0, 0, 0), (0, 0, 0), [])),
  (14, (.if_icmp .ge 12, (false, 17), (false, 26), (0, 0, 0), (0, 0, 0), [])),
  (17, (.aload_n 0, (false, 18), (false, 0), (0, 0, 0), (0, 0, 0), [])),
  (18, (.getfield 22, (false, 21), (false, 0), (0, 3, 1), (0, 0, 214), [])),
  (21, (.iload_n 1, (false, 22), (false, 0), (0, 0, 0), (0, 0, 0), [])),
  (22, (.iaload, (false, 23), (false, 0), (0, 0, 0), (0, 0, 0), [])),
  (23, (.goto 5, (false, 26), (false, 28), (0, 0, 0), (0, 0, 0), [])),
  (26, (.bipush (-9), (false, 28), (false, 0), (0, 0, 0), (0, 0, 0), [((-9), (false, 0))])),
  (28, (.ireturn, (false, 29), (false, 0), (0, 0, 0), (0, 0, 0), []))]
set_option maxRecDepth 100000 in
theorem pe_G_windowOfTime : pw_fnd pp_G_windowOfTime 0 = (.aload_n 0, (false, 1), (false, 0), (0, 0, 0), (0, 0, 0), []) ∧
  pw_fnd pp_G_windowOfTime 1 = (.iload_n 1, (false, 2), (false, 0), (0, 0, 0), (0, 0, 0), []) ∧
  pw_fnd pp_G_windowOfTime 2 = (.invokevirtual 34, (false, 5), (false, 0), (1, 2, 1), (0, 0, 307), []) ∧
  pw_fnd pp_G_windowOfTime 5 = (.ifCond .eq 21, (false, 8), (false, 26), (0, 0, 0), (0, 0, 0), []) ∧
  pw_fnd pp_G_windowOfTime 8 = (.iload_n 1, (false, 9), (false, 0), (0, 0, 0), (0, 0, 0), []) ∧
  pw_fnd pp_G_windowOfTime 9 = (.aload_n 0, (false, 10), (false, 0), (0, 0, 0), (0, 0, 0), []) ∧
  pw_fnd pp_G_windowOfTime 10 = (.getfield 22, (false, 13), (false, 0), (0, 3, 1), (0, 0, 214), []) ∧
  pw_fnd pp_G_windowOfTime 13 = (.arraylength, (false, 14), (false, 0), (0, 0, 0), (0, 0, 0), []) ∧
  pw_fnd pp_G_windowOfTime 14 = (.if_icmp .ge 12, (false, 17), (false, 26), (0, 0, 0), (0, 0, 0), []) ∧
  pw_fnd pp_G_windowOfTime 17 = (.aload_n 0, (false, 18), (false, 0), (0, 0, 0), (0, 0, 0), []) ∧
  pw_fnd pp_G_windowOfTime 18 = (.getfield 22, (false, 21), (false, 0), (0, 3, 1), (0, 0, 214), []) ∧
  pw_fnd pp_G_windowOfTime 21 = (.iload_n 1, (false, 22), (false, 0), (0, 0, 0), (0, 0, 0), []) ∧
  pw_fnd pp_G_windowOfTime 22 = (.iaload, (false, 23), (false, 0), (0, 0, 0), (0, 0, 0), []) ∧
  pw_fnd pp_G_windowOfTime 23 = (.goto 5, (false, 26), (false, 28), (0, 0, 0), (0, 0, 0), []) ∧
  pw_fnd pp_G_windowOfTime 26 = (.bipush (-9), (false, 28), (false, 0), (0, 0, 0), (0, 0, 0), [((-9), (false, 0))]) ∧
  pw_fnd pp_G_windowOfTime 28 = (.ireturn, (false, 29), (false, 0), (0, 0, 0), (0, 0, 0), []) :=
  ⟨rfl, rfl, rfl, rfl, rfl, rfl, rfl, rfl, rfl, rfl, rfl, rfl, rfl, rfl, rfl, rfl⟩
set_option maxRecDepth 100000 in
theorem pk_G_windowOfTime : pp_G_windowOfTime.all (fun q => pw_chk pw_jt pm_G_windowOfTime q.1 q.2) = true := by decide +kernel
def pp_G_moveTimeTo : List (Nat × pw_E) := [(0, (.aload_n 0, (false, 1), (false, 0), (0, 0, 0), (0, 0, 0), [])),
  (1, (.iload_n 1, (false, 2), (false, 0), (0, 0, 0), (0, 0, 0), [])),
  (2, (.invokevirtual 34, (false, 5), (false, 0), (1, 2, 1), (0, 0, 307), [])),
  (5, (.ifCond .eq 19, (false, 8), (false, 24), (0, 0, 0), (0, 0, 0), [])),
  (8, (.iload_n 1, (false, 9), (false, 0), (0, 0, 0), (0, 0, 0), [])),
  (9, (.aload_n 0, (false, 10), (false, 0), (0, 0, 0), (0, 0, 0), [])),
  (10, (.getfield 22, (false, 13), (false, 0), (0, 3, 1), (0, 0, 214), [])),
  (13, (.arraylength, (false, 14), (false, 0), (0, 0, 0), (0, 0, 0), [])),
  (14, (.if_icmp .ge 10, (false, 17), (false, 24), (0, 0, 0), (0, 0, 0), [])),
  (17, (.aload_n 0, (false, 18), (false, 0), (0, 0, 0), (0, 0, 0), [])),
  (18, (.getfield 22, (false, 21), (false, 0), (0, 3, 1), (0, 0, 214), [])),
  (21, (.iload_n 1, (false, 22), (false, 0), (0, 0, 0), (0, 0, 0), [])),
  (22, (.iload_n 2, (false, 23), (false, 0), (0, 0, 0), (0, 0, 0), [])),
  (23, (.iastore, (false, 24), (false, 0), (0, 0, 0), (0, 0, 0), [])),
  (24, (.return_, (false, 25), (false, 0), (0, 0, 0), (0, 0, 0), []))]
set_option maxRecDepth 100000 in
theorem pe_G_moveTimeTo : pw_fnd pp_G_moveTimeTo 0 = (.aload_n 0, (false, 1), (false, 0), (0, 0, 0), (0, 0, 0), []) ∧
  pw_fnd pp_G_moveTimeTo 1 = (.iload_n 1, (false, 2), (false, 0), (0, 0, 0), (0, 0, 0), []) ∧
  pw_fnd pp_G_moveTimeTo 2 = (.invokevirtual 34, (false, 5), (false, 0), (1, 2, 1), (0, 0, 307), []) ∧
  pw_fnd pp_G_moveTimeTo 5 = (.ifCond .eq 19, (false, 8), (false, 24), (0, 0, 0), (0, 0, 0), []) ∧
  pw_fnd pp_G_moveTimeTo 8 = (.iload_n 1, (false, 9), (false, 0), (0, 0, 0), (0, 0, 0), []) ∧
  pw_fnd pp_G_moveTimeTo 9 = (.aload_n 0, (false, 10), (false, 0), (0, 0, 0), (0, 0, 0), []) ∧
  pw_fnd pp_G_moveTimeTo 10 = (.getfield 22, (false, 13), (false, 0), (0, 3, 1), (0, 0, 214), []) ∧
  pw_fnd pp_G_moveTimeTo 13 = (.arraylength, (false, 14), (false, 0), (0, 0, 0), (0, 0, 0), []) ∧
  pw_fnd pp_G_moveTimeTo 14 = (.if_icmp .ge 10, (false, 17), (false, 24), (0, 0, 0), (0, 0, 0), []) ∧
  pw_fnd pp_G_moveTimeTo 17 = (.aload_n 0, (false, 18), (false, 0), (0, 0, 0), (0, 0, 0), []) ∧
  pw_fnd pp_G_moveTimeTo 18 = (.getfield 22, (false, 21), (false, 0), (0, 3, 1), (0, 0, 214), []) ∧
  pw_fnd pp_G_moveTimeTo 21 = (.iload_n 1, (false, 22), (false, 0), (0, 0, 0), (0, 0, 0), []) ∧
  pw_fnd pp_G_moveTimeTo 22 = (.iload_n 2, (false, 23), (false, 0), (0, 0, 0), (0, 0, 0), []) ∧
  pw_fnd pp_G_moveTimeTo 23 = (.iastore, (false, 24), (false, 0), (0, 0, 0), (0, 0, 0), []) ∧
  pw_fnd pp_G_moveTimeTo 24 = (.return_, (false, 25), (false, 0), (0, 0, 0), (0, 0, 0), []) :=
  ⟨rfl, rfl, rfl, rfl, rfl, rfl, rfl, rfl, rfl, rfl, rfl, rfl, rfl, rfl, rfl⟩
set_option maxRecDepth 100000 in
theorem pk_G_moveTimeTo : pp_G_moveTimeTo.all (fun q => pw_chk pw_jt pm_G_moveTimeTo q.1 q.2) = true := by decide +kernel
def pp_G_dropTime : List (Nat × pw_E) := [(0, (.aload_n 0, (false, 1), (false, 0), (0, 0, 0), (0, 0, 0), [])),
  (1, (.iload_n 1, (false, 2), (false, 0), (0, 0, 0), (0, 0, 0), [])),
  (2, (.invokevirtual 34, (false, 5), (false, 0), (1, 2, 1), (0, 0, 307), [])),
  (5, (.ifCond .ne 4, (false, 8), (false, 9), (0, 0, 0), (0, 0, 0), [])),
  (8, (.return_, (false, 9), (false, 0), (0, 0, 0), (0, 0, 0), [])),
  (9, (.iload_n 1, (false, 10), (false, 0), (0, 0, 0), (0, 0, 0), [])),
  (10, (.iconst 1, (false, 11), (false, 0), (0, 0, 0), (0, 0, 0), [(1, (false, 0))])),
  (11, (.iadd, (false, 12), (false, 0), (0, 0, 0), (0, 0, 0), [])),
  (12, (.istore_n 2, (true, 13), (false, 0), (0, 0, 0), (0, 0, 0), [])),
  (13, (.iload_n 2, (false, 14), (false, 0), (0, 0, 0), (0, 0, 0), [])),
  (14, (.aload_n 0, (false, 15), (false, 0), (0, 0, 0), (0, 0, 0), [])),
  (15, (.getfield 31, (false, 18), (false, 0), (0, 4, 0), (0, 0, 215), [])),
  (18, (.if_icmp .ge 55, (false, 21), (false, 73), (0, 0, 0), (0, 0, 0), [])),
  (21, (.iload_n 2, (false, 22), (false, 0), (0, 0, 0), (0, 0, 0), [])),
  (22, (.aload_n 0, (false, 23), (false, 0), (0, 0, 0), (0, 0, 0), [])),
  (23, (.getfield 18, (false, 26), (false, 0), (0, 2, 1), (0, 0, 213), [])),
  (26, (.arraylength, (false, 27), (false, 0), (0, 0, 0), (0, 0, 0), [])),
  (27, (.if_icmp .ge 46, (false, 30), (false, 73), (0, 0, 0), (0, 0, 0), [])),
  (30, (.iload_n 2, (false, 31), (false, 0), (0, 0, 0), (0, 0, 0), [])),
  (31, (.aload_n 0, (false, 32), (false, 0), (0, 0, 0), (0, 0, 0), [])),
  (32, (.getfield 22, (false, 35), (false, 0), (0, 3, 1), (0, 0, 214), [])),
  (35, (.arraylength, (false, 36), (false, 0), (0, 0, 0), (0, 0, 0), [])),
  (36, (.if_icmp .ge 37, (false, 39), (false, 73), (0, 0, 0), (0, 0, 0), [])),
  (39, (.aload_n 0, (false, 40), (false, 0), (0, 0, 0), (0, 0, 0), [])),
  (40, (.getfield 18, (false, 43), (false, 0), (0, 2, 1), (0, 0, 213), [])),
  (43, (.iload_n 2, (false, 44), (false, 0), (0, 0, 0), (0, 0, 0), [])),
  (44, (.iconst 1, (false, 45), (false, 0), (0, 0, 0), (0, 0, 0), [(1, (false, 0))])),
  (45, (.isub, (false, 46), (false, 0), (0, 0, 0), (0, 0, 0), [])),
  (46, (.aload_n 0, (false, 47), (false, 0), (0, 0, 0), (0, 0, 0), [])),
  (47, (.getfield 18, (false, 50), (false, 0), (0, 2, 1), (0, 0, 213), [])),
  (50, (.iload_n 2, (false, 51), (false, 0), (0, 0, 0), (0, 0, 0), [])),
  (51, (.iaload, (false, 52), (false, 0), (0, 0, 0), (0, 0, 0), [])),
  (52, (.iastore, (false, 53), (false, 0), (0, 0, 0), (0, 0, 0), [])),
  (53, (.aload_n 0, (false, 54), (false, 0), (0, 0, 0), (0, 0, 0), [])),
  (54, (.getfield 22, (false, 57), (false, 0), (0, 3, 1), (0, 0, 214), [])),
  (57, (.iload_n 2, (false, 58), (false, 0), (0, 0, 0), (0, 0, 0), [])),
  (58, (.iconst 1, (false, 59), (false, 0), (0, 0, 0), (0, 0, 0), [(1, (false, 0))])),
  (59, (.isub, (false, 60), (false, 0), (0, 0, 0), (0, 0, 0), [])),
  (60, (.aload_n 0, (false, 61), (false, 0), (0, 0, 0), (0, 0, 0), [])),
  (61, (.getfield 22, (false, 64), (false, 0), (0, 3, 1), (0, 0, 214), [])),
  (64, (.iload_n 2, (false, 65), (false, 0), (0, 0, 0), (0, 0, 0), [])),
  (65, (.iaload, (false, 66), (false, 0), (0, 0, 0), (0, 0, 0), [])),
  (66, (.iastore, (false, 67), (false, 0), (0, 0, 0), (0, 0, 0), [])),
  (67, (.iinc 2 1, (false, 70), (false, 0), (0, 0, 0), (0, 0, 0), [(1, (false, 0))])),
  (70, (.goto (-57), (false, 73), (true, 13), (0, 0, 0), (0, 0, 0), [])),
  (73, (.aload_n 0, (false, 74), (false, 0), (0, 0, 0), (0, 0, 0), [])),
  (74, (.dup, (false, 75), (false, 0), (0, 0, 0), (0, 0, 0), [])),
  (75, (.getfield 31, (false, 78), (false, 0), (0, 4, 0), (0, 0, 215), [])),
  (78, (.iconst 1, (false, 79), (false, 0), (0, 0, 0), (0, 0, 0), [(1, (false, 0))])),
  (79, (.isub, (false, 80), (false, 0), (0, 0, 0), (0, 0, 0), [])),
  (80, (.putfield 31, (false, 83), (false, 0), (0, 4, 0), (0, 0, 215), [])),
  (83, (.return_, (false, 84), (false, 0), (0, 0, 0), (0, 0, 0), []))]
set_option maxRecDepth 100000 in
theorem pe_G_dropTime : pw_fnd pp_G_dropTime 0 = (.aload_n 0, (false, 1), (false, 0), (0, 0, 0), (0, 0, 0), []) ∧
  pw_fnd pp_G_dropTime 1 = (.iload_n 1, (false, 2), (false, 0), (0, 0, 0), (0, 0, 0), []) ∧
  pw_fnd pp_G_dropTime 2 = (.invokevirtual 34, (false, 5), (false, 0), (1, 2, 1), (0, 0, 307), []) ∧
  pw_fnd pp_G_dropTime 5 = (.ifCond .ne 4, (false, 8), (false, 9), (0, 0, 0), (0, 0, 0), []) ∧
  pw_fnd pp_G_dropTime 8 = (.return_, (false, 9), (false, 0), (0, 0, 0), (0, 0, 0), []) ∧
  pw_fnd pp_G_dropTime 9 = (.iload_n 1, (false, 10), (false, 0), (0, 0, 0), (0, 0, 0), []) ∧
  pw_fnd pp_G_dropTime 10 = (.iconst 1, (false, 11), (false, 0), (0, 0, 0), (0, 0, 0), [(1, (false, 0))]) ∧
  pw_fnd pp_G_dropTime 11 = (.iadd, (false, 12), (false, 0), (0, 0, 0), (0, 0, 0), []) ∧
  pw_fnd pp_G_dropTime 12 = (.istore_n 2, (true, 13), (false, 0), (0, 0, 0), (0, 0, 0), []) ∧
  pw_fnd pp_G_dropTime 13 = (.iload_n 2, (false, 14), (false, 0), (0, 0, 0), (0, 0, 0), []) ∧
  pw_fnd pp_G_dropTime 14 = (.aload_n 0, (false, 15), (false, 0), (0, 0, 0), (0, 0, 0), []) ∧
  pw_fnd pp_G_dropTime 15 = (.getfield 31, (false, 18), (false, 0), (0, 4, 0), (0, 0, 215), []) ∧
  pw_fnd pp_G_dropTime 18 = (.if_icmp .ge 55, (false, 21), (false, 73), (0, 0, 0), (0, 0, 0), []) ∧
  pw_fnd pp_G_dropTime 21 = (.iload_n 2, (false, 22), (false, 0), (0, 0, 0), (0, 0, 0), []) ∧
  pw_fnd pp_G_dropTime 22 = (.aload_n 0, (false, 23), (false, 0), (0, 0, 0), (0, 0, 0), []) ∧
  pw_fnd pp_G_dropTime 23 = (.getfield 18, (false, 26), (false, 0), (0, 2, 1), (0, 0, 213), []) ∧
  pw_fnd pp_G_dropTime 26 = (.arraylength, (false, 27), (false, 0), (0, 0, 0), (0, 0, 0), []) ∧
  pw_fnd pp_G_dropTime 27 = (.if_icmp .ge 46, (false, 30), (false, 73), (0, 0, 0), (0, 0, 0), []) ∧
  pw_fnd pp_G_dropTime 30 = (.iload_n 2, (false, 31), (false, 0), (0, 0, 0), (0, 0, 0), []) ∧
  pw_fnd pp_G_dropTime 31 = (.aload_n 0, (false, 32), (false, 0), (0, 0, 0), (0, 0, 0), []) ∧
  pw_fnd pp_G_dropTime 32 = (.getfield 22, (false, 35), (false, 0), (0, 3, 1), (0, 0, 214), []) ∧
  pw_fnd pp_G_dropTime 35 = (.arraylength, (false, 36), (false, 0), (0, 0, 0), (0, 0, 0), []) ∧
  pw_fnd pp_G_dropTime 36 = (.if_icmp .ge 37, (false, 39), (false, 73), (0, 0, 0), (0, 0, 0), []) ∧
  pw_fnd pp_G_dropTime 39 = (.aload_n 0, (false, 40), (false, 0), (0, 0, 0), (0, 0, 0), []) ∧
  pw_fnd pp_G_dropTime 40 = (.getfield 18, (false, 43), (false, 0), (0, 2, 1), (0, 0, 213), []) ∧
  pw_fnd pp_G_dropTime 43 = (.iload_n 2, (false, 44), (false, 0), (0, 0, 0), (0, 0, 0), []) ∧
  pw_fnd pp_G_dropTime 44 = (.iconst 1, (false, 45), (false, 0), (0, 0, 0), (0, 0, 0), [(1, (false, 0))]) ∧
  pw_fnd pp_G_dropTime 45 = (.isub, (false, 46), (false, 0), (0, 0, 0), (0, 0, 0), []) ∧
  pw_fnd pp_G_dropTime 46 = (.aload_n 0, (false, 47), (false, 0), (0, 0, 0), (0, 0, 0), []) ∧
  pw_fnd pp_G_dropTime 47 = (.getfield 18, (false, 50), (false, 0), (0, 2, 1), (0, 0, 213), []) ∧
  pw_fnd pp_G_dropTime 50 = (.iload_n 2, (false, 51), (false, 0), (0, 0, 0), (0, 0, 0), []) ∧
  pw_fnd pp_G_dropTime 51 = (.iaload, (false, 52), (false, 0), (0, 0, 0), (0, 0, 0), []) ∧
  pw_fnd pp_G_dropTime 52 = (.iastore, (false, 53), (false, 0), (0, 0, 0), (0, 0, 0), []) ∧
  pw_fnd pp_G_dropTime 53 = (.aload_n 0, (false, 54), (false, 0), (0, 0, 0), (0, 0, 0), []) ∧
  pw_fnd pp_G_dropTime 54 = (.getfield 22, (false, 57), (false, 0), (0, 3, 1), (0, 0, 214), []) ∧
  pw_fnd pp_G_dropTime 57 = (.iload_n 2, (false, 58), (false, 0), (0, 0, 0), (0, 0, 0), []) ∧
  pw_fnd pp_G_dropTime 58 = (.iconst 1, (false, 59), (false, 0), (0, 0, 0), (0, 0, 0), [(1, (false, 0))]) ∧
  pw_fnd pp_G_dropTime 59 = (.isub, (false, 60), (false, 0), (0, 0, 0), (0, 0, 0), []) ∧
  pw_fnd pp_G_dropTime 60 = (.aload_n 0, (false, 61), (false, 0), (0, 0, 0), (0, 0, 0), []) ∧
  pw_fnd pp_G_dropTime 61 = (.getfield 22, (false, 64), (false, 0), (0, 3, 1), (0, 0, 214), []) ∧
  pw_fnd pp_G_dropTime 64 = (.iload_n 2, (false, 65), (false, 0), (0, 0, 0), (0, 0, 0), []) ∧
  pw_fnd pp_G_dropTime 65 = (.iaload, (false, 66), (false, 0), (0, 0, 0), (0, 0, 0), []) ∧
  pw_fnd pp_G_dropTime 66 = (.iastore, (false, 67), (false, 0), (0, 0, 0), (0, 0, 0), []) ∧
  pw_fnd pp_G_dropTime 67 = (.iinc 2 1, (false, 70), (false, 0), (0, 0, 0), (0, 0, 0), [(1, (false, 0))]) ∧
  pw_fnd pp_G_dropTime 70 = (.goto (-57), (false, 73), (true, 13), (0, 0, 0), (0, 0, 0), []) ∧
  pw_fnd pp_G_dropTime 73 = (.aload_n 0, (false, 74), (false, 0), (0, 0, 0), (0, 0, 0), []) ∧
  pw_fnd pp_G_dropTime 74 = (.dup, (false, 75), (false, 0), (0, 0, 0), (0, 0, 0), []) ∧
  pw_fnd pp_G_dropTime 75 = (.getfield 31, (false, 78), (false, 0), (0, 4, 0), (0, 0, 215), []) ∧
  pw_fnd pp_G_dropTime 78 = (.iconst 1, (false, 79), (false, 0), (0, 0, 0), (0, 0, 0), [(1, (false, 0))]) ∧
  pw_fnd pp_G_dropTime 79 = (.isub, (false, 80), (false, 0), (0, 0, 0), (0, 0, 0), []) ∧
  pw_fnd pp_G_dropTime 80 = (.putfield 31, (false, 83), (false, 0), (0, 4, 0), (0, 0, 215), []) ∧
  pw_fnd pp_G_dropTime 83 = (.return_, (false, 84), (false, 0), (0, 0, 0), (0, 0, 0), []) :=
  ⟨rfl, rfl, rfl, rfl, rfl, rfl, rfl, rfl, rfl, rfl, rfl, rfl, rfl, rfl, rfl, rfl, rfl, rfl, rfl, rfl, rfl, rfl, rfl, rfl, rfl, rfl, rfl, rfl, rfl, rfl, rfl, rfl, rfl, rfl, rfl, rfl, rfl, rfl, rfl, rfl, rfl, rfl, rfl, rfl, rfl, rfl, rfl, rfl, rfl, rfl, rfl, rfl⟩
set_option maxRecDepth 100000 in
theorem pk_G_dropTime : pp_G_dropTime.all (fun q => pw_chk pw_jt pm_G_dropTime q.1 q.2) = true := by decide +kernel
def pp_D_beginsRound : List (Nat × pw_E) := [(0, (.aload_n 0, (false, 1), (false, 0), (0, 0, 0), (0, 0, 0), [])),
  (1, (.getfield 30, (false, 4), (false, 0), (1, 4, 0), (0, 0, 150), [])),
  (4, (.ifCond .le 24, (false, 7), (false, 28), (0, 0, 0), (0, 0, 0), [])),
  (7, (.iload_n 1, (false, 8), (false, 0), (0, 0, 0), (0, 0, 0), [])),
  (8, (.aload_n 0, (false, 9), (false, 0), (0, 0, 0), (0, 0, 0), [])),
  (9, (.getfield 30, (false, 12), (false, 0), (1, 4, 0), (0, 0, 150), [])),
  (12, (.irem, (false, 13), (false, 0), (0, 0, 0), (0, 0, 0), [])),
  (13, (.ifCond .ne 15, (false, 16), (false, 28), (0, 0, 0), (0, 0, 0), [])),
  (16, (.aload_n 0, (false, 17), (false, 0), (0, 0, 0), (0, 0, 0), [])),
  (17, (.iload_n 2, (false, 18), (false, 0), (0, 0, 0), (0, 0, 0), [])),
  (18, (.invokevirtual 54, (false, 21), (false, 1), (3, 2, 1), (0, 0, 419), [])),
  (21, (.ifCond .eq 7, (false, 24), (false, 28), (0, 0, 0), (0, 0, 0), [])),
  (24, (.iconst 1, (false, 25), (false, 0), (0, 0, 0), (0, 0, 0), [(1, (false, 0))])),
  (25, (.goto 4, (false, 28), (false, 29), (0, 0, 0), (0, 0, 0), [])),
  (28, (.iconst 0, (false, 29), (false, 0), (0, 0, 0), (0, 0, 0), [(0, (false, 0))])),
  (29, (.ireturn, (false, 30), (false, 0), (0, 0, 2), (0, 0, 0), []))]
set_option maxRecDepth 100000 in
theorem pe_D_beginsRound : pw_fnd pp_D_beginsRound 0 = (.aload_n 0, (false, 1), (false, 0), (0, 0, 0), (0, 0, 0), []) ∧
  pw_fnd pp_D_beginsRound 1 = (.getfield 30, (false, 4), (false, 0), (1, 4, 0), (0, 0, 150), []) ∧
  pw_fnd pp_D_beginsRound 4 = (.ifCond .le 24, (false, 7), (false, 28), (0, 0, 0), (0, 0, 0), []) ∧
  pw_fnd pp_D_beginsRound 7 = (.iload_n 1, (false, 8), (false, 0), (0, 0, 0), (0, 0, 0), []) ∧
  pw_fnd pp_D_beginsRound 8 = (.aload_n 0, (false, 9), (false, 0), (0, 0, 0), (0, 0, 0), []) ∧
  pw_fnd pp_D_beginsRound 9 = (.getfield 30, (false, 12), (false, 0), (1, 4, 0), (0, 0, 150), []) ∧
  pw_fnd pp_D_beginsRound 12 = (.irem, (false, 13), (false, 0), (0, 0, 0), (0, 0, 0), []) ∧
  pw_fnd pp_D_beginsRound 13 = (.ifCond .ne 15, (false, 16), (false, 28), (0, 0, 0), (0, 0, 0), []) ∧
  pw_fnd pp_D_beginsRound 16 = (.aload_n 0, (false, 17), (false, 0), (0, 0, 0), (0, 0, 0), []) ∧
  pw_fnd pp_D_beginsRound 17 = (.iload_n 2, (false, 18), (false, 0), (0, 0, 0), (0, 0, 0), []) ∧
  pw_fnd pp_D_beginsRound 18 = (.invokevirtual 54, (false, 21), (false, 1), (3, 2, 1), (0, 0, 419), []) ∧
  pw_fnd pp_D_beginsRound 21 = (.ifCond .eq 7, (false, 24), (false, 28), (0, 0, 0), (0, 0, 0), []) ∧
  pw_fnd pp_D_beginsRound 24 = (.iconst 1, (false, 25), (false, 0), (0, 0, 0), (0, 0, 0), [(1, (false, 0))]) ∧
  pw_fnd pp_D_beginsRound 25 = (.goto 4, (false, 28), (false, 29), (0, 0, 0), (0, 0, 0), []) ∧
  pw_fnd pp_D_beginsRound 28 = (.iconst 0, (false, 29), (false, 0), (0, 0, 0), (0, 0, 0), [(0, (false, 0))]) ∧
  pw_fnd pp_D_beginsRound 29 = (.ireturn, (false, 30), (false, 0), (0, 0, 2), (0, 0, 0), []) :=
  ⟨rfl, rfl, rfl, rfl, rfl, rfl, rfl, rfl, rfl, rfl, rfl, rfl, rfl, rfl, rfl, rfl⟩
set_option maxRecDepth 100000 in
theorem pk_D_beginsRound : pp_D_beginsRound.all (fun q => pw_chk pw_jt pm_D_beginsRound q.1 q.2) = true := by decide +kernel
def pp_D_lastTickOf : List (Nat × pw_E) := [(0, (.aload_n 0, (false, 1), (false, 0), (0, 0, 0), (0, 0, 0), [])),
  (1, (.iload_n 1, (false, 2), (false, 0), (0, 0, 0), (0, 0, 0), [])),
  (2, (.invokevirtual 58, (false, 5), (false, 1), (6, 2, 1), (0, 0, 323), [])),
  (5, (.aload_n 0, (false, 6), (false, 0), (0, 0, 0), (0, 0, 0), [])),
  (6, (.getfield 33, (false, 9), (false, 0), (1, 5, 0), (0, 0, 151), [])),
  (9, (.iadd, (false, 10), (false, 0), (0, 0, 0), (0, 0, 0), [])),
  (10, (.iconst 1, (false, 11), (false, 0), (0, 0, 0), (0, 0, 0), [(1, (false, 0))])),
  (11, (.isub, (false, 12), (false, 0), (0, 0, 0), (0, 0, 0), [])),
  (12, (.ireturn, (false, 13), (false, 0), (0, 0, 0), (0, 0, 0), []))]
set_option maxRecDepth 100000 in
theorem pe_D_lastTickOf : pw_fnd pp_D_lastTickOf 0 = (.aload_n 0, (false, 1), (false, 0), (0, 0, 0), (0, 0, 0), []) ∧
  pw_fnd pp_D_lastTickOf 1 = (.iload_n 1, (false, 2), (false, 0), (0, 0, 0), (0, 0, 0), []) ∧
  pw_fnd pp_D_lastTickOf 2 = (.invokevirtual 58, (false, 5), (false, 1), (6, 2, 1), (0, 0, 323), []) ∧
  pw_fnd pp_D_lastTickOf 5 = (.aload_n 0, (false, 6), (false, 0), (0, 0, 0), (0, 0, 0), []) ∧
  pw_fnd pp_D_lastTickOf 6 = (.getfield 33, (false, 9), (false, 0), (1, 5, 0), (0, 0, 151), []) ∧
  pw_fnd pp_D_lastTickOf 9 = (.iadd, (false, 10), (false, 0), (0, 0, 0), (0, 0, 0), []) ∧
  pw_fnd pp_D_lastTickOf 10 = (.iconst 1, (false, 11), (false, 0), (0, 0, 0), (0, 0, 0), [(1, (false, 0))]) ∧
  pw_fnd pp_D_lastTickOf 11 = (.isub, (false, 12), (false, 0), (0, 0, 0), (0, 0, 0), []) ∧
  pw_fnd pp_D_lastTickOf 12 = (.ireturn, (false, 13), (false, 0), (0, 0, 0), (0, 0, 0), []) :=
  ⟨rfl, rfl, rfl, rfl, rfl, rfl, rfl, rfl, rfl⟩
set_option maxRecDepth 100000 in
theorem pk_D_lastTickOf : pp_D_lastTickOf.all (fun q => pw_chk pw_jt pm_D_lastTickOf q.1 q.2) = true := by decide +kernel
def pp_D_roomOfWindow : List (Nat × pw_E) := [(0, (.iconst 0, (false, 1), (false, 0), (0, 0, 0), (0, 0, 0), [(0, (false, 0))])),
  (1, (.iconst 5, (false, 2), (false, 0), (0, 0, 0), (0, 0, 0), [(5, (false, 0))])),
  (2, (.aload_n 0, (false, 3), (false, 0), (0, 0, 0), (0, 0, 0), [])),
  (3, (.getfield 62, (false, 6), (false, 0), (1, 9, 0), (0, 0, 158), [])),
  (6, (.imul, (false, 7), (false, 0), (0, 0, 0), (0, 0, 0), [])),
  (7, (.aload_n 0, (false, 8), (false, 0), (0, 0, 0), (0, 0, 0), [])),
  (8, (.getfield 65, (false, 11), (false, 0), (1, 10, 0), (0, 0, 160), [])),
  (11, (.isub, (false, 12), (false, 0), (0, 0, 0), (0, 0, 0), [])),
  (12, (.invokestatic 24, (false, 15), (false, 0), (1000, 127, 0), (126, 71, 125), [])),
  (15, (.ireturn, (false, 16), (false, 0), (0, 0, 0), (0, 0, 0), []))]
set_option maxRecDepth 100000 in
theorem pe_D_roomOfWindow : pw_fnd pp_D_roomOfWindow 0 = (.iconst 0, (false, 1), (false, 0), (0, 0, 0), (0, 0, 0), [(0, (false, 0))]) ∧
  pw_fnd pp_D_roomOfWindow 1 = (.iconst 5, (false, 2), (false, 0), (0, 0, 0), (0, 0, 0), [(5, (false, 0))]) ∧
  pw_fnd pp_D_roomOfWindow 2 = (.aload_n 0, (false, 3), (false, 0), (0, 0, 0), (0, 0, 0), []) ∧
  pw_fnd pp_D_roomOfWindow 3 = (.getfield 62, (false, 6), (false, 0), (1, 9, 0), (0, 0, 158), []) ∧
  pw_fnd pp_D_roomOfWindow 6 = (.imul, (false, 7), (false, 0), (0, 0, 0), (0, 0, 0), []) ∧
  pw_fnd pp_D_roomOfWindow 7 = (.aload_n 0, (false, 8), (false, 0), (0, 0, 0), (0, 0, 0), []) ∧
  pw_fnd pp_D_roomOfWindow 8 = (.getfield 65, (false, 11), (false, 0), (1, 10, 0), (0, 0, 160), []) ∧
  pw_fnd pp_D_roomOfWindow 11 = (.isub, (false, 12), (false, 0), (0, 0, 0), (0, 0, 0), []) ∧
  pw_fnd pp_D_roomOfWindow 12 = (.invokestatic 24, (false, 15), (false, 0), (1000, 127, 0), (126, 71, 125), []) ∧
  pw_fnd pp_D_roomOfWindow 15 = (.ireturn, (false, 16), (false, 0), (0, 0, 0), (0, 0, 0), []) :=
  ⟨rfl, rfl, rfl, rfl, rfl, rfl, rfl, rfl, rfl, rfl⟩
set_option maxRecDepth 100000 in
theorem pk_D_roomOfWindow : pp_D_roomOfWindow.all (fun q => pw_chk pw_jt pm_D_roomOfWindow q.1 q.2) = true := by decide +kernel
def pp_W_init : List (Nat × pw_E) := [(0, (.aload_n 0, (false, 1), (false, 0), (0, 0, 0), (0, 0, 0), [])),
  (1, (.invokespecial 3, (false, 4), (false, 0), (1001, 0, 0), (80, 81, 133), [])),
  (4, (.aload_n 0, (false, 5), (false, 0), (0, 0, 0), (0, 0, 0), [])),
  (5, (.bipush 60, (false, 7), (false, 0), (0, 0, 0), (0, 0, 0), [(60, (false, 0))])),
  (7, (.newarray .int, (false, 9), (false, 0), (1, 0, 0), (0, 0, 111), [])),
  (9, (.putfield 9, (false, 12), (false, 0), (2, 0, 1), (0, 0, 134), [])),
  (12, (.return_, (false, 13), (false, 0), (0, 0, 0), (0, 0, 0), []))]
set_option maxRecDepth 100000 in
theorem pe_W_init : pw_fnd pp_W_init 0 = (.aload_n 0, (false, 1), (false, 0), (0, 0, 0), (0, 0, 0), []) ∧
  pw_fnd pp_W_init 1 = (.invokespecial 3, (false, 4), (false, 0), (1001, 0, 0), (80, 81, 133), []) ∧
  pw_fnd pp_W_init 4 = (.aload_n 0, (false, 5), (false, 0), (0, 0, 0), (0, 0, 0), []) ∧
  pw_fnd pp_W_init 5 = (.bipush 60, (false, 7), (false, 0), (0, 0, 0), (0, 0, 0), [(60, (false, 0))]) ∧
  pw_fnd pp_W_init 7 = (.newarray .int, (false, 9), (false, 0), (1, 0, 0), (0, 0, 111), []) ∧
  pw_fnd pp_W_init 9 = (.putfield 9, (false, 12), (false, 0), (2, 0, 1), (0, 0, 134), []) ∧
  pw_fnd pp_W_init 12 = (.return_, (false, 13), (false, 0), (0, 0, 0), (0, 0, 0), []) :=
  ⟨rfl, rfl, rfl, rfl, rfl, rfl, rfl⟩
set_option maxRecDepth 100000 in
theorem pk_W_init : pp_W_init.all (fun q => pw_chk pw_jt pm_W_init q.1 q.2) = true := by decide +kernel
def pp_W_placeOf : List (Nat × pw_E) := [(0, (.iconst 0, (false, 1), (false, 0), (0, 0, 0), (0, 0, 0), [(0, (false, 0))])),
  (1, (.istore_n 2, (true, 2), (false, 0), (0, 0, 0), (0, 0, 0), [])),
  (2, (.iload_n 2, (false, 3), (false, 0), (0, 0, 0), (0, 0, 0), [])),
  (3, (.aload_n 0, (false, 4), (false, 0), (0, 0, 0), (0, 0, 0), [])),
  (4, (.getfield 15, (false, 7), (false, 0), (2, 1, 0), (0, 0, 135), [])),
  (7, (.if_icmp .ge 20, (false, 10), (false, 27), (0, 0, 0), (0, 0, 0), [])),
  (10, (.aload_n 0, (false, 11), (false, 0), (0, 0, 0), (0, 0, 0), [])),
  (11, (.iload_n 2, (false, 12), (false, 0), (0, 0, 0), (0, 0, 0), [])),
  (12, (.invokevirtual 19, (false, 15), (false, 2), (9, 2, 1), (0, 0, 383), [])),
  (15, (.iload_n 1, (false, 16), (false, 0), (0, 0, 0), (0, 0, 0), [])),
  (16, (.if_icmp .ne 5, (false, 19), (false, 21), (0, 0, 0), (0, 0, 0), [])),
  (19, (.iload_n 2, (false, 20), (false, 0), (0, 0, 0), (0, 0, 0), [])),
  (20, (.ireturn, (false, 21), (false, 0), (0, 0, 0), (0, 0, 0), [])),
  (21, (.iinc 2 1, (false, 24), (false, 0), (0, 0, 0), (0, 0, 0), [(1, (false, 0))])),
  (24, (.goto (-22), (false, 27), (true, 2), (0, 0, 0), (0, 0, 0), [])),
  (27, (.bipush (-9), (false, 29), (false, 0), (0, 0, 0), (0, 0, 0), [((-9), (false, 0))])),
  (29, (.ireturn, (false, 30), (false, 0), (0, 0, 0), (0, 0, 0), []))]
set_option maxRecDepth 100000 in
theorem pe_W_placeOf : pw_fnd pp_W_placeOf 0 = (.iconst 0, (false, 1), (false, 0), (0, 0, 0), (0, 0, 0), [(0, (false, 0))]) ∧
  pw_fnd pp_W_placeOf 1 = (.istore_n 2, (true, 2), (false, 0), (0, 0, 0), (0, 0, 0), []) ∧
  pw_fnd pp_W_placeOf 2 = (.iload_n 2, (false, 3), (false, 0), (0, 0, 0), (0, 0, 0), []) ∧
  pw_fnd pp_W_placeOf 3 = (.aload_n 0, (false, 4), (false, 0), (0, 0, 0), (0, 0, 0), []) ∧
  pw_fnd pp_W_placeOf 4 = (.getfield 15, (false, 7), (false, 0), (2, 1, 0), (0, 0, 135), []) ∧
  pw_fnd pp_W_placeOf 7 = (.if_icmp .ge 20, (false, 10), (false, 27), (0, 0, 0), (0, 0, 0), []) ∧
  pw_fnd pp_W_placeOf 10 = (.aload_n 0, (false, 11), (false, 0), (0, 0, 0), (0, 0, 0), []) ∧
  pw_fnd pp_W_placeOf 11 = (.iload_n 2, (false, 12), (false, 0), (0, 0, 0), (0, 0, 0), []) ∧
  pw_fnd pp_W_placeOf 12 = (.invokevirtual 19, (false, 15), (false, 2), (9, 2, 1), (0, 0, 383), []) ∧
  pw_fnd pp_W_placeOf 15 = (.iload_n 1, (false, 16), (false, 0), (0, 0, 0), (0, 0, 0), []) ∧
  pw_fnd pp_W_placeOf 16 = (.if_icmp .ne 5, (false, 19), (false, 21), (0, 0, 0), (0, 0, 0), []) ∧
  pw_fnd pp_W_placeOf 19 = (.iload_n 2, (false, 20), (false, 0), (0, 0, 0), (0, 0, 0), []) ∧
  pw_fnd pp_W_placeOf 20 = (.ireturn, (false, 21), (false, 0), (0, 0, 0), (0, 0, 0), []) ∧
  pw_fnd pp_W_placeOf 21 = (.iinc 2 1, (false, 24), (false, 0), (0, 0, 0), (0, 0, 0), [(1, (false, 0))]) ∧
  pw_fnd pp_W_placeOf 24 = (.goto (-22), (false, 27), (true, 2), (0, 0, 0), (0, 0, 0), []) ∧
  pw_fnd pp_W_placeOf 27 = (.bipush (-9), (false, 29), (false, 0), (0, 0, 0), (0, 0, 0), [((-9), (false, 0))]) ∧
  pw_fnd pp_W_placeOf 29 = (.ireturn, (false, 30), (false, 0), (0, 0, 0), (0, 0, 0), []) :=
  ⟨rfl, rfl, rfl, rfl, rfl, rfl, rfl, rfl, rfl, rfl, rfl, rfl, rfl, rfl, rfl, rfl, rfl⟩
set_option maxRecDepth 100000 in
theorem pk_W_placeOf : pp_W_placeOf.all (fun q => pw_chk pw_jt pm_W_placeOf q.1 q.2) = true := by decide +kernel
def pp_G_placeOfTime : List (Nat × pw_E) := [(0, (.iconst 0, (false, 1), (false, 0), (0, 0, 0), (0, 0, 0), [(0, (false, 0))])),
  (1, (.istore_n 3, (true, 2), (false, 0), (0, 0, 0), (0, 0, 0), [])),
  (2, (.iload_n 3, (false, 3), (false, 0), (0, 0, 0), (0, 0, 0), [])),
  (3, (.aload_n 0, (false, 4), (false, 0), (0, 0, 0), (0, 0, 0), [])),
  (4, (.getfield 31, (false, 7), (false, 0), (0, 4, 0), (0, 0, 215), [])),
  (7, (.if_icmp .ge 29, (false, 10), (false, 36), (0, 0, 0), (0, 0, 0), [])),
  (10, (.aload_n 0, (false, 11), (false, 0), (0, 0, 0), (0, 0, 0), [])),
  (11, (.iload_n 3, (false, 12), (false, 0), (0, 0, 0), (0, 0, 0), [])),
  (12, (.invokevirtual 38, (false, 15), (false, 0), (32, 2, 1), (0, 0, 357), [])),
  (15, (.iload_n 1, (false, 16), (false, 0), (0, 0, 0), (0, 0, 0), [])),
  (16, (.if_icmp .ne 14, (false, 19), (false, 30), (0, 0, 0), (0, 0, 0), [])),
  (19, (.aload_n 0, (false, 20), (false, 0), (0, 0, 0), (0, 0, 0), [])),
  (20, (.iload_n 3, (false, 21), (false, 0), (0, 0, 0), (0, 0, 0), [])),
  (21, (.invokevirtual 42, (false, 24), (false, 0), (33, 2, 1), (0, 0, 358), [])),
  (24, (.iload_n 2, (false, 25), (false, 0), (0, 0, 0), (0, 0, 0), [])),
  (25, (.if_icmp .ne 5, (false, 28), (false, 30), (0, 0, 0), (0, 0, 0), [])),
  (28, (.iload_n 3, (false, 29), (false, 0), (0, 0, 0), (0, 0, 0), [])),
  (29, (.ireturn, (false, 30), (false, 0), (0, 0, 0), (0, 0, 0), [])),
  (30, (.iinc 3 1, (false, 33), (false, 0), (0, 0, 0), (0, 0, 0), [(1, (false, 0))])),
  (33, (.goto (-31), (false, 36), (true, 2), (0, 0, 0), (0, 0, 0), [])),
  (36, (.bipush (-9), (false, 38), (false, 0), (0, 0, 0), (0, 0, 0), [((-9), (false, 0))])),
  (38, (.ireturn, (false, 39), (false, 0), (0, 0, 0), (0, 0, 0), []))]
set_option maxRecDepth 100000 in
theorem pe_G_placeOfTime : pw_fnd pp_G_placeOfTime 0 = (.iconst 0, (false, 1), (false, 0), (0, 0, 0), (0, 0, 0), [(0, (false, 0))]) ∧
  pw_fnd pp_G_placeOfTime 1 = (.istore_n 3, (true, 2), (false, 0), (0, 0, 0), (0, 0, 0), []) ∧
  pw_fnd pp_G_placeOfTime 2 = (.iload_n 3, (false, 3), (false, 0), (0, 0, 0), (0, 0, 0), []) ∧
  pw_fnd pp_G_placeOfTime 3 = (.aload_n 0, (false, 4), (false, 0), (0, 0, 0), (0, 0, 0), []) ∧
  pw_fnd pp_G_placeOfTime 4 = (.getfield 31, (false, 7), (false, 0), (0, 4, 0), (0, 0, 215), []) ∧
  pw_fnd pp_G_placeOfTime 7 = (.if_icmp .ge 29, (false, 10), (false, 36), (0, 0, 0), (0, 0, 0), []) ∧
  pw_fnd pp_G_placeOfTime 10 = (.aload_n 0, (false, 11), (false, 0), (0, 0, 0), (0, 0, 0), []) ∧
  pw_fnd pp_G_placeOfTime 11 = (.iload_n 3, (false, 12), (false, 0), (0, 0, 0), (0, 0, 0), []) ∧
  pw_fnd pp_G_placeOfTime 12 = (.invokevirtual 38, (false, 15), (false, 0), (32, 2, 1), (0, 0, 357), []) ∧
  pw_fnd pp_G_placeOfTime 15 = (.iload_n 1, (false, 16), (false, 0), (0, 0, 0), (0, 0, 0), []) ∧
  pw_fnd pp_G_placeOfTime 16 = (.if_icmp .ne 14, (false, 19), (false, 30), (0, 0, 0), (0, 0, 0), []) ∧
  pw_fnd pp_G_placeOfTime 19 = (.aload_n 0, (false, 20), (false, 0), (0, 0, 0), (0, 0, 0), []) ∧
  pw_fnd pp_G_placeOfTime 20 = (.iload_n 3, (false, 21), (false, 0), (0, 0, 0), (0, 0, 0), []) ∧
  pw_fnd pp_G_placeOfTime 21 = (.invokevirtual 42, (false, 24), (false, 0), (33, 2, 1), (0, 0, 358), []) ∧
  pw_fnd pp_G_placeOfTime 24 = (.iload_n 2, (false, 25), (false, 0), (0, 0, 0), (0, 0, 0), []) ∧
  pw_fnd pp_G_placeOfTime 25 = (.if_icmp .ne 5, (false, 28), (false, 30), (0, 0, 0), (0, 0, 0), []) ∧
  pw_fnd pp_G_placeOfTime 28 = (.iload_n 3, (false, 29), (false, 0), (0, 0, 0), (0, 0, 0), []) ∧
  pw_fnd pp_G_placeOfTime 29 = (.ireturn, (false, 30), (false, 0), (0, 0, 0), (0, 0, 0), []) ∧
  pw_fnd pp_G_placeOfTime 30 = (.iinc 3 1, (false, 33), (false, 0), (0, 0, 0), (0, 0, 0), [(1, (false, 0))]) ∧
  pw_fnd pp_G_placeOfTime 33 = (.goto (-31), (false, 36), (true, 2), (0, 0, 0), (0, 0, 0), []) ∧
  pw_fnd pp_G_placeOfTime 36 = (.bipush (-9), (false, 38), (false, 0), (0, 0, 0), (0, 0, 0), [((-9), (false, 0))]) ∧
  pw_fnd pp_G_placeOfTime 38 = (.ireturn, (false, 39), (false, 0), (0, 0, 0), (0, 0, 0), []) :=
  ⟨rfl, rfl, rfl, rfl, rfl, rfl, rfl, rfl, rfl, rfl, rfl, rfl, rfl, rfl, rfl, rfl, rfl, rfl, rfl, rfl, rfl, rfl⟩
set_option maxRecDepth 100000 in
theorem pk_G_placeOfTime : pp_G_placeOfTime.all (fun q => pw_chk pw_jt pm_G_placeOfTime q.1 q.2) = true := by decide +kernel
def pp_D_init : List (Nat × pw_E) := [(0, (.aload_n 0, (false, 1), (false, 0), (0, 0, 0), (0, 0, 0), [])),
  (1, (.invokespecial 3, (false, 4), (false, 0), (1001, 0, 0), (80, 81, 124), [])),
  (4, (.aload_n 0, (false, 5), (false, 0), (0, 0, 0), (0, 0, 0), [])),
  (5, (.iload_n 1, (false, 6), (false, 0), (0, 0, 0), (0, 0, 0), [])),
  (6, (.putfield 9, (false, 9), (false, 0), (1, 0, 0), (0, 0, 142), [])),
  (9, (.aload_n 0, (false, 10), (false, 0), (0, 0, 0), (0, 0, 0), [])),
  (10, (.iload_n 2, (false, 11), (false, 0), (0, 0, 0), (0, 0, 0), [])),
  (11, (.putfield 15, (false, 14), (false, 0), (1, 1, 0), (0, 0, 144), [])),
  (14, (.aload_n 0, (false, 15), (false, 0), (0, 0, 0), (0, 0, 0), [])),
  (15, (.iload_n 3, (false, 16), (false, 0), (0, 0, 0), (0, 0, 0), [])),
  (16, (.putfield 18, (false, 19), (false, 0), (1, 2, 0), (0, 0, 146), [])),
  (19, (.aload_n 0, (false, 20), (false, 0), (0, 0, 0), (0, 0, 0), [])),
  (20, (.iload 4, (false, 22), (false, 0), (0, 0, 0), (0, 0, 0), [])),
  (22, (.putfield 21, (false, 25), (false, 0), (1, 3, 0), (0, 0, 148), [])),
  (25, (.aload_n 0, (false, 26), (false, 0), (0, 0, 0), (0, 0, 0), [])),
  (26, (.iconst 1, (false, 27), (false, 0), (0, 0, 0), (0, 0, 0), [(1, (false, 0))])),
  (27, (.iload 4, (false, 29), (false, 0), (0, 0, 0), (0, 0, 0), [])),
  (29, (.iconst 2, (false, 30), (false, 0), (0, 0, 0), (0, 0, 0), [(2, (false, 0))])),
  (30, (.if_icmp .ne 9, (false, 33), (false, 39), (0, 0, 0), (0, 0, 0), [])),
  (33, (.iconst 3, (false, 34), (false, 0), (0, 0, 0), (0, 0, 0), [(3, (false, 0))])),
  (34, (.iload_n 3, (false, 35), (false, 0), (0, 0, 0), (0, 0, 0), [])),
  (35, (.imul, (false, 36), (false, 0), (0, 0, 0), (0, 0, 0), [])),
  (36, (.goto 4, (false, 39), (false, 40), (0, 0, 0), (0, 0, 0), [])),
  (39, (.iload_n 3, (false, 40), (false, 0), (0, 0, 0), (0, 0, 0), [])),
  (40, (.invokestatic 24, (false, 43), (false, 0), (1000, 127, 0), (126, 71, 125), [])),
  (43, (.putfield 30, (false, 46), (false, 0), (1, 4, 0), (0, 0, 150), [])),
  (46, (.aload_n 0, (false, 47), (false, 0), (0, 0, 0), (0, 0, 0), [])),
  (47, (.iconst 5, (false, 48), (false, 0), (0, 0, 0), (0, 0, 0), [(5, (false, 0))])),
  (48, (.aload_n 0, (false, 49), (false, 0), (0, 0, 0), (0, 0, 0), [])),
  (49, (.getfield 30, (false, 52), (false, 0), (1, 4, 0), (0, 0, 150), [])),
  (52, (.imul, (false, 53), (false, 0), (0, 0, 0), (0, 0, 0), [])),
  (53, (.putfield 33, (false, 56), (false, 0), (1, 5, 0), (0, 0, 151), [])),
  (56, (.aload_n 0, (false, 57), (false, 0), (0, 0, 0), (0, 0, 0), [])),
  (57, (.new 36, (false, 60), (false, 0), (2, 2, 0), (129, 72, 128), [])),
  (60, (.dup, (false, 61), (false, 0), (0, 0, 0), (0, 0, 0), [])),
  (61, (.invokespecial 38, (false, 64), (false, 2), (39, 1, 0), (1, 60, 130), [])),
  (64, (.putfield 39, (false, 67), (false, 0), (1, 6, 1), (0, 0, 152), [])),
  (67, (.aload_n 0, (false, 68), (false, 0), (0, 0, 0), (0, 0, 0), [])),
  (68, (.new 36, (false, 71), (false, 0), (2, 2, 0), (129, 72, 128), [])),
  (71, (.dup, (false, 72), (false, 0), (0, 0, 0), (0, 0, 0), [])),
  (72, (.invokespecial 38, (false, 75), (false, 2), (39, 1, 0), (1, 60, 130), [])),
  (75, (.putfield 43, (false, 78), (false, 0), (1, 7, 1), (0, 0, 154), [])),
  (78, (.aload_n 0, (false, 79), (false, 0), (0, 0, 0), (0, 0, 0), [])),
  (79, (.aload_n 0, (false, 80), (false, 0), (0, 0, 0), (0, 0, 0), [])),
  (80, (.getfield 33, (false, 83), (false, 0), (1, 5, 0), (0, 0, 151), [])),
  (83, (.ifCond .le 19, (false, 86), (false, 102), (0, 0, 0), (0, 0, 0), [])),
  (86, (.sipush 5000, (false, 89), (false, 0), (0, 0, 0), (0, 0, 0), [(5000, (false, 0))])),
  (89, (.aload_n 0, (false, 90), (false, 0), (0, 0, 0), (0, 0, 0), [])),
  (90, (.getfield 33, (false, 93), (false, 0), (1, 5, 0), (0, 0, 151), [])),
  (93, (.idiv, (false, 94), (false, 0), (0, 0, 0), (0, 0, 0), [])),
  (94, (.bipush 40, (false, 96), (false, 0), (0, 0, 0), (0, 0, 0), [(40, (false, 0))])),
  (96, (.iadd, (false, 97), (false, 0), (0, 0, 0), (0, 0, 0), [])),
  (97, (.iconst 1, (false, 98), (false, 0), (0, 0, 0), (0, 0, 0), [(1, (false, 0))])),
  (98, (.iadd, (false, 99), (false, 0), (0, 0, 0), (0, 0, 0), [])),
  (99, (.goto 4, (false, 102), (false, 103), (0, 0, 0), (0, 0, 0), [])),
  (102, (.iconst 0, (false, 103), (false, 0), (0, 0, 0), (0, 0, 0), [(0, (false, 0))])),
  (103, (.newarray .int, (false, 105), (false, 0), (1, 0, 0), (0, 0, 111), [])),
  (105, (.putfield 46, (false, 108), (false, 0), (1, 8, 1), (0, 0, 156), [])),
  (108, (.return_, (false, 109), (false, 0), (0, 0, 0), (0, 0, 0), []))]
set_option maxRecDepth 100000 in
theorem pe_D_init : pw_fnd pp_D_init 0 = (.aload_n 0, (false, 1), (false, 0), (0, 0, 0), (0, 0, 0), []) ∧
  pw_fnd pp_D_init 1 = (.invokespecial 3, (false, 4), (false, 0), (1001, 0, 0), (80, 81, 124), []) ∧
  pw_fnd pp_D_init 4 = (.aload_n 0, (false, 5), (false, 0), (0, 0, 0), (0, 0, 0), []) ∧
  pw_fnd pp_D_init 5 = (.iload_n 1, (false, 6), (false, 0), (0, 0, 0), (0, 0, 0), []) ∧
  pw_fnd pp_D_init 6 = (.putfield 9, (false, 9), (false, 0), (1, 0, 0), (0, 0, 142), []) ∧
  pw_fnd pp_D_init 9 = (.aload_n 0, (false, 10), (false, 0), (0, 0, 0), (0, 0, 0), []) ∧
  pw_fnd pp_D_init 10 = (.iload_n 2, (false, 11), (false, 0), (0, 0, 0), (0, 0, 0), []) ∧
  pw_fnd pp_D_init 11 = (.putfield 15, (false, 14), (false, 0), (1, 1, 0), (0, 0, 144), []) ∧
  pw_fnd pp_D_init 14 = (.aload_n 0, (false, 15), (false, 0), (0, 0, 0), (0, 0, 0), []) ∧
  pw_fnd pp_D_init 15 = (.iload_n 3, (false, 16), (false, 0), (0, 0, 0), (0, 0, 0), []) ∧
  pw_fnd pp_D_init 16 = (.putfield 18, (false, 19), (false, 0), (1, 2, 0), (0, 0, 146), []) ∧
  pw_fnd pp_D_init 19 = (.aload_n 0, (false, 20), (false, 0), (0, 0, 0), (0, 0, 0), []) ∧
  pw_fnd pp_D_init 20 = (.iload 4, (false, 22), (false, 0), (0, 0, 0), (0, 0, 0), []) ∧
  pw_fnd pp_D_init 22 = (.putfield 21, (false, 25), (false, 0), (1, 3, 0), (0, 0, 148), []) ∧
  pw_fnd pp_D_init 25 = (.aload_n 0, (false, 26), (false, 0), (0, 0, 0), (0, 0, 0), []) ∧
  pw_fnd pp_D_init 26 = (.iconst 1, (false, 27), (false, 0), (0, 0, 0), (0, 0, 0), [(1, (false, 0))]) ∧
  pw_fnd pp_D_init 27 = (.iload 4, (false, 29), (false, 0), (0, 0, 0), (0, 0, 0), []) ∧
  pw_fnd pp_D_init 29 = (.iconst 2, (false, 30), (false, 0), (0, 0, 0), (0, 0, 0), [(2, (false, 0))]) ∧
  pw_fnd pp_D_init 30 = (.if_icmp .ne 9, (false, 33), (false, 39), (0, 0, 0), (0, 0, 0), []) ∧
  pw_fnd pp_D_init 33 = (.iconst 3, (false, 34), (false, 0), (0, 0, 0), (0, 0, 0), [(3, (false, 0))]) ∧
  pw_fnd pp_D_init 34 = (.iload_n 3, (false, 35), (false, 0), (0, 0, 0), (0, 0, 0), []) ∧
  pw_fnd pp_D_init 35 = (.imul, (false, 36), (false, 0), (0, 0, 0), (0, 0, 0), []) ∧
  pw_fnd pp_D_init 36 = (.goto 4, (false, 39), (false, 40), (0, 0, 0), (0, 0, 0), []) ∧
  pw_fnd pp_D_init 39 = (.iload_n 3, (false, 40), (false, 0), (0, 0, 0), (0, 0, 0), []) ∧
  pw_fnd pp_D_init 40 = (.invokestatic 24, (false, 43), (false, 0), (1000, 127, 0), (126, 71, 125), []) ∧
  pw_fnd pp_D_init 43 = (.putfield 30, (false, 46), (false, 0), (1, 4, 0), (0, 0, 150), []) ∧
  pw_fnd pp_D_init 46 = (.aload_n 0, (false, 47), (false, 0), (0, 0, 0), (0, 0, 0), []) ∧
  pw_fnd pp_D_init 47 = (.iconst 5, (false, 48), (false, 0), (0, 0, 0), (0, 0, 0), [(5, (false, 0))]) ∧
  pw_fnd pp_D_init 48 = (.aload_n 0, (false, 49), (false, 0), (0, 0, 0), (0, 0, 0), []) ∧
  pw_fnd pp_D_init 49 = (.getfield 30, (false, 52), (false, 0), (1, 4, 0), (0, 0, 150), []) ∧
  pw_fnd pp_D_init 52 = (.imul, (false, 53), (false, 0), (0, 0, 0), (0, 0, 0), []) ∧
  pw_fnd pp_D_init 53 = (.putfield 33, (false, 56), (false, 0), (1, 5, 0), (0, 0, 151), []) ∧
  pw_fnd pp_D_init 56 = (.aload_n 0, (false, 57), (false, 0), (0, 0, 0), (0, 0, 0), []) ∧
  pw_fnd pp_D_init 57 = (.new 36, (false, 60), (false, 0), (2, 2, 0), (129, 72, 128), []) ∧
  pw_fnd pp_D_init 60 = (.dup, (false, 61), (false, 0), (0, 0, 0), (0, 0, 0), []) ∧
  pw_fnd pp_D_init 61 = (.invokespecial 38, (false, 64), (false, 2), (39, 1, 0), (1, 60, 130), []) ∧
  pw_fnd pp_D_init 64 = (.putfield 39, (false, 67), (false, 0), (1, 6, 1), (0, 0, 152), []) ∧
  pw_fnd pp_D_init 67 = (.aload_n 0, (false, 68), (false, 0), (0, 0, 0), (0, 0, 0), []) ∧
  pw_fnd pp_D_init 68 = (.new 36, (false, 71), (false, 0), (2, 2, 0), (129, 72, 128), []) ∧
  pw_fnd pp_D_init 71 = (.dup, (false, 72), (false, 0), (0, 0, 0), (0, 0, 0), []) ∧
  pw_fnd pp_D_init 72 = (.invokespecial 38, (false, 75), (false, 2), (39, 1, 0), (1, 60, 130), []) ∧
  pw_fnd pp_D_init 75 = (.putfield 43, (false, 78), (false, 0), (1, 7, 1), (0, 0, 154), []) ∧
  pw_fnd pp_D_init 78 = (.aload_n 0, (false, 79), (false, 0), (0, 0, 0), (0, 0, 0), []) ∧
  pw_fnd pp_D_init 79 = (.aload_n 0, (false, 80), (false, 0), (0, 0, 0), (0, 0, 0), []) ∧
  pw_fnd pp_D_init 80 = (.getfield 33, (false, 83), (false, 0), (1, 5, 0), (0, 0, 151), []) ∧
  pw_fnd pp_D_init 83 = (.ifCond .le 19, (false, 86), (false, 102), (0, 0, 0), (0, 0, 0), []) ∧
  pw_fnd pp_D_init 86 = (.sipush 5000, (false, 89), (false, 0), (0, 0, 0), (0, 0, 0), [(5000, (false, 0))]) ∧
  pw_fnd pp_D_init 89 = (.aload_n 0, (false, 90), (false, 0), (0, 0, 0), (0, 0, 0), []) ∧
  pw_fnd pp_D_init 90 = (.getfield 33, (false, 93), (false, 0), (1, 5, 0), (0, 0, 151), []) ∧
  pw_fnd pp_D_init 93 = (.idiv, (false, 94), (false, 0), (0, 0, 0), (0, 0, 0), []) ∧
  pw_fnd pp_D_init 94 = (.bipush 40, (false, 96), (false, 0), (0, 0, 0), (0, 0, 0), [(40, (false, 0))]) ∧
  pw_fnd pp_D_init 96 = (.iadd, (false, 97), (false, 0), (0, 0, 0), (0, 0, 0), []) ∧
  pw_fnd pp_D_init 97 = (.iconst 1, (false, 98), (false, 0), (0, 0, 0), (0, 0, 0), [(1, (false, 0))]) ∧
  pw_fnd pp_D_init 98 = (.iadd, (false, 99), (false, 0), (0, 0, 0), (0, 0, 0), []) ∧
  pw_fnd pp_D_init 99 = (.goto 4, (false, 102), (false, 103), (0, 0, 0), (0, 0, 0), []) ∧
  pw_fnd pp_D_init 102 = (.iconst 0, (false, 103), (false, 0), (0, 0, 0), (0, 0, 0), [(0, (false, 0))]) ∧
  pw_fnd pp_D_init 103 = (.newarray .int, (false, 105), (false, 0), (1, 0, 0), (0, 0, 111), []) ∧
  pw_fnd pp_D_init 105 = (.putfield 46, (false, 108), (false, 0), (1, 8, 1), (0, 0, 156), []) ∧
  pw_fnd pp_D_init 108 = (.return_, (false, 109), (false, 0), (0, 0, 0), (0, 0, 0), []) :=
  ⟨rfl, rfl, rfl, rfl, rfl, rfl, rfl, rfl, rfl, rfl, rfl, rfl, rfl, rfl, rfl, rfl, rfl, rfl, rfl, rfl, rfl, rfl, rfl, rfl, rfl, rfl, rfl, rfl, rfl, rfl, rfl, rfl, rfl, rfl, rfl, rfl, rfl, rfl, rfl, rfl, rfl, rfl, rfl, rfl, rfl, rfl, rfl, rfl, rfl, rfl, rfl, rfl, rfl, rfl, rfl, rfl, rfl, rfl, rfl⟩
set_option maxRecDepth 100000 in
theorem pk_D_init : pp_D_init.all (fun q => pw_chk pw_jt pm_D_init q.1 q.2) = true := by decide +kernel
def pp_D_hasRoom : List (Nat × pw_E) := [(0, (.aload_n 0, (false, 1), (false, 0), (0, 0, 0), (0, 0, 0), [])),
  (1, (.iload_n 1, (false, 2), (false, 0), (0, 0, 0), (0, 0, 0), [])),
  (2, (.invokevirtual 68, (false, 5), (false, 1), (7, 2, 1), (0, 0, 291), [])),
  (5, (.iload_n 2, (false, 6), (false, 0), (0, 0, 0), (0, 0, 0), [])),
  (6, (.iadd, (false, 7), (false, 0), (0, 0, 0), (0, 0, 0), [])),
  (7, (.aload_n 0, (false, 8), (false, 0), (0, 0, 0), (0, 0, 0), [])),
  (8, (.invokevirtual 71, (false, 11), (false, 1), (38, 1, 1), (0, 0, 295), [])),
  (11, (.if_icmp .gt 7, (false, 14), (false, 18), (0, 0, 0), (0, 0, 0), [])),
  (14, (.iconst 1, (false, 15), (false, 0), (0, 0, 0), (0, 0, 0), [(1, (false, 0))])),
  (15, (.goto 4, (false, 18), (false, 19), (0, 0, 0), (0, 0, 0), [])),
  (18, (.iconst 0, (false, 19), (false, 0), (0, 0, 0), (0, 0, 0), [(0, (false, 0))])),
  (19, (.ireturn, (false, 20), (false, 0), (0, 0, 2), (0, 0, 0), []))]
set_option maxRecDepth 100000 in
theorem pe_D_hasRoom : pw_fnd pp_D_hasRoom 0 = (.aload_n 0, (false, 1), (false, 0), (0, 0, 0), (0, 0, 0), []) ∧
  pw_fnd pp_D_hasRoom 1 = (.iload_n 1, (false, 2), (false, 0), (0, 0, 0), (0, 0, 0), []) ∧
  pw_fnd pp_D_hasRoom 2 = (.invokevirtual 68, (false, 5), (false, 1), (7, 2, 1), (0, 0, 291), []) ∧
  pw_fnd pp_D_hasRoom 5 = (.iload_n 2, (false, 6), (false, 0), (0, 0, 0), (0, 0, 0), []) ∧
  pw_fnd pp_D_hasRoom 6 = (.iadd, (false, 7), (false, 0), (0, 0, 0), (0, 0, 0), []) ∧
  pw_fnd pp_D_hasRoom 7 = (.aload_n 0, (false, 8), (false, 0), (0, 0, 0), (0, 0, 0), []) ∧
  pw_fnd pp_D_hasRoom 8 = (.invokevirtual 71, (false, 11), (false, 1), (38, 1, 1), (0, 0, 295), []) ∧
  pw_fnd pp_D_hasRoom 11 = (.if_icmp .gt 7, (false, 14), (false, 18), (0, 0, 0), (0, 0, 0), []) ∧
  pw_fnd pp_D_hasRoom 14 = (.iconst 1, (false, 15), (false, 0), (0, 0, 0), (0, 0, 0), [(1, (false, 0))]) ∧
  pw_fnd pp_D_hasRoom 15 = (.goto 4, (false, 18), (false, 19), (0, 0, 0), (0, 0, 0), []) ∧
  pw_fnd pp_D_hasRoom 18 = (.iconst 0, (false, 19), (false, 0), (0, 0, 0), (0, 0, 0), [(0, (false, 0))]) ∧
  pw_fnd pp_D_hasRoom 19 = (.ireturn, (false, 20), (false, 0), (0, 0, 2), (0, 0, 0), []) :=
  ⟨rfl, rfl, rfl, rfl, rfl, rfl, rfl, rfl, rfl, rfl, rfl, rfl⟩
set_option maxRecDepth 100000 in
theorem pk_D_hasRoom : pp_D_hasRoom.all (fun q => pw_chk pw_jt pm_D_hasRoom q.1 q.2) = true := by decide +kernel
end
section
theorem tr_W_at {h : pw_Hp} {a : Nat} {x : Int32} {k : Int32 → pw_Hp → Prop} : pw_Ci 9 [.inr a, .inl x] h k := by
  refine pw_intro (M := pm_W_at) rfl (by decide) (Nat.le_of_ble_eq_true rfl) (ls := [some (.inr a), some (.inl x)]) rfl ?_
  refine pw_sound pw_tok pk_W_at 40 _ _ _ _ _ _ ?_
  simp only [pv_all, pv_stp, pe_W_at, Nat.reduceAdd]
  trace_state
  sorry
theorem tr_G_dropTime {h : pw_Hp} {a : Nat} {x : Int32} {k : pw_Hp → Prop} : pw_Cv 35 [.inr a, .inl x] h k := by
  refine pw_intro (M := pm_G_dropTime) rfl (by decide) (Nat.le_of_ble_eq_true rfl) (ls := [some (.inr a), some (.inl x), none]) rfl ?_
  refine pw_sound pw_tok pk_G_dropTime 60 _ _ _ _ _ _ ?_
  simp only [pv_all, pv_stp, pe_G_dropTime, Nat.reduceAdd]
  trace_state
  sorry
end
