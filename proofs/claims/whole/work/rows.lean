section
-- ===== PART A: goes FIRST, ahead of the names: the tables' words, and 'selects' of the private methods out of them =====
/-- a private method of a class that the tables say can be made, by its rows of tables_1 -/
def lw_okq (q : MethodName × Nat) : Prop := (q.1.cls ≠ "java/lang/invoke/MethodHandle" ∧ q.1.cls ≠ "java/lang/invoke/VarHandle") ∧ Cond.instantiable q.1.cls q.2 ∈ tables_1 ∧ Cond.privateMethod q.1 ∈ tables_1 ∧ Cond.instanceMethod q.1 ∈ tables_1
theorem lw_p0 : lw_okq (⟨"ForestKeeper", "isKnot", "(I)Z"⟩, 13) := ⟨⟨by decide +kernel, by decide +kernel⟩, List.mem_of_getElem? (i := 12) (by decide +kernel), List.mem_of_getElem? (i := 272) (by decide +kernel), List.mem_of_getElem? (i := 273) (by decide +kernel)⟩
theorem lw_p1 : lw_okq (⟨"ForestKeeper", "layTrack", "(II)I"⟩, 13) := ⟨⟨by decide +kernel, by decide +kernel⟩, List.mem_of_getElem? (i := 12) (by decide +kernel), List.mem_of_getElem? (i := 276) (by decide +kernel), List.mem_of_getElem? (i := 277) (by decide +kernel)⟩
theorem lw_p2 : lw_okq (⟨"ForestKeeper", "floodPart", "(I)V"⟩, 13) := ⟨⟨by decide +kernel, by decide +kernel⟩, List.mem_of_getElem? (i := 12) (by decide +kernel), List.mem_of_getElem? (i := 280) (by decide +kernel), List.mem_of_getElem? (i := 281) (by decide +kernel)⟩
theorem lw_p3 : lw_okq (⟨"ForestKeeper$Flood", "clear", "()V"⟩, 5) := ⟨⟨by decide +kernel, by decide +kernel⟩, List.mem_of_getElem? (i := 79) (by decide +kernel), List.mem_of_getElem? (i := 288) (by decide +kernel), List.mem_of_getElem? (i := 289) (by decide +kernel)⟩
theorem lw_p4 : lw_okq (⟨"ForestKeeper$Flood", "reach", "(III)V"⟩, 5) := ⟨⟨by decide +kernel, by decide +kernel⟩, List.mem_of_getElem? (i := 79) (by decide +kernel), List.mem_of_getElem? (i := 292) (by decide +kernel), List.mem_of_getElem? (i := 293) (by decide +kernel)⟩
theorem lw_p5 : lw_okq (⟨"ForestKeeper$Flood", "spreadFrom", "(LForestKeeper$Edges;III)V"⟩, 5) := ⟨⟨by decide +kernel, by decide +kernel⟩, List.mem_of_getElem? (i := 79) (by decide +kernel), List.mem_of_getElem? (i := 296) (by decide +kernel), List.mem_of_getElem? (i := 297) (by decide +kernel)⟩
theorem lw_p6 : lw_okq (⟨"ForestKeeper$Edges", "chain", "(II)V"⟩, 10) := ⟨⟨by decide +kernel, by decide +kernel⟩, List.mem_of_getElem? (i := 20) (by decide +kernel), List.mem_of_getElem? (i := 316) (by decide +kernel), List.mem_of_getElem? (i := 317) (by decide +kernel)⟩
theorem lw_p7 : lw_okq (⟨"ForestKeeper", "displaceHeavier", "(I)I"⟩, 13) := ⟨⟨by decide +kernel, by decide +kernel⟩, List.mem_of_getElem? (i := 12) (by decide +kernel), List.mem_of_getElem? (i := 320) (by decide +kernel), List.mem_of_getElem? (i := 321) (by decide +kernel)⟩
theorem lw_p8 : lw_okq (⟨"ForestKeeper", "findHeir", "(IZ)I"⟩, 13) := ⟨⟨by decide +kernel, by decide +kernel⟩, List.mem_of_getElem? (i := 12) (by decide +kernel), List.mem_of_getElem? (i := 349) (by decide +kernel), List.mem_of_getElem? (i := 350) (by decide +kernel)⟩
theorem lw_p9 : lw_okq (⟨"ForestKeeper", "findHeirByLevels", "(IZ)I"⟩, 13) := ⟨⟨by decide +kernel, by decide +kernel⟩, List.mem_of_getElem? (i := 12) (by decide +kernel), List.mem_of_getElem? (i := 353) (by decide +kernel), List.mem_of_getElem? (i := 354) (by decide +kernel)⟩
theorem lw_p10 : lw_okq (⟨"ForestKeeper", "floodSmaller", "(II)LForestKeeper$Flood;"⟩, 13) := ⟨⟨by decide +kernel, by decide +kernel⟩, List.mem_of_getElem? (i := 12) (by decide +kernel), List.mem_of_getElem? (i := 357) (by decide +kernel), List.mem_of_getElem? (i := 358) (by decide +kernel)⟩
theorem lw_p11 : lw_okq (⟨"ForestKeeper", "raiseTrees", "(LForestKeeper$Flood;I)V"⟩, 13) := ⟨⟨by decide +kernel, by decide +kernel⟩, List.mem_of_getElem? (i := 12) (by decide +kernel), List.mem_of_getElem? (i := 361) (by decide +kernel), List.mem_of_getElem? (i := 362) (by decide +kernel)⟩
theorem lw_p12 : lw_okq (⟨"ForestKeeper", "findHeirAt", "(LForestKeeper$Flood;IZ)I"⟩, 13) := ⟨⟨by decide +kernel, by decide +kernel⟩, List.mem_of_getElem? (i := 12) (by decide +kernel), List.mem_of_getElem? (i := 377) (by decide +kernel), List.mem_of_getElem? (i := 378) (by decide +kernel)⟩
theorem lw_p13 : lw_okq (⟨"ForestKeeper", "findLightestAcross", "(I)I"⟩, 13) := ⟨⟨by decide +kernel, by decide +kernel⟩, List.mem_of_getElem? (i := 12) (by decide +kernel), List.mem_of_getElem? (i := 381) (by decide +kernel), List.mem_of_getElem? (i := 382) (by decide +kernel)⟩
theorem lw_p14 : lw_okq (⟨"ForestKeeper$Hinges", "walkFrom", "(LForestKeeper$Edges;I)V"⟩, 9) := ⟨⟨by decide +kernel, by decide +kernel⟩, List.mem_of_getElem? (i := 129) (by decide +kernel), List.mem_of_getElem? (i := 399) (by decide +kernel), List.mem_of_getElem? (i := 400) (by decide +kernel)⟩
theorem lw_p15 : lw_okq (⟨"ForestKeeper$Hinges", "enter", "(LForestKeeper$Edges;II)V"⟩, 9) := ⟨⟨by decide +kernel, by decide +kernel⟩, List.mem_of_getElem? (i := 129) (by decide +kernel), List.mem_of_getElem? (i := 403) (by decide +kernel), List.mem_of_getElem? (i := 404) (by decide +kernel)⟩
def lw_privs_1 : List (MethodName × Nat) := [(⟨"ForestKeeper", "isKnot", "(I)Z"⟩, 13), (⟨"ForestKeeper", "layTrack", "(II)I"⟩, 13), (⟨"ForestKeeper", "floodPart", "(I)V"⟩, 13), (⟨"ForestKeeper$Flood", "clear", "()V"⟩, 5), (⟨"ForestKeeper$Flood", "reach", "(III)V"⟩, 5), (⟨"ForestKeeper$Flood", "spreadFrom", "(LForestKeeper$Edges;III)V"⟩, 5), (⟨"ForestKeeper$Edges", "chain", "(II)V"⟩, 10), (⟨"ForestKeeper", "displaceHeavier", "(I)I"⟩, 13), (⟨"ForestKeeper", "findHeir", "(IZ)I"⟩, 13), (⟨"ForestKeeper", "findHeirByLevels", "(IZ)I"⟩, 13), (⟨"ForestKeeper", "floodSmaller", "(II)LForestKeeper$Flood;"⟩, 13), (⟨"ForestKeeper", "raiseTrees", "(LForestKeeper$Flood;I)V"⟩, 13), (⟨"ForestKeeper", "findHeirAt", "(LForestKeeper$Flood;IZ)I"⟩, 13), (⟨"ForestKeeper", "findLightestAcross", "(I)I"⟩, 13), (⟨"ForestKeeper$Hinges", "walkFrom", "(LForestKeeper$Edges;I)V"⟩, 9), (⟨"ForestKeeper$Hinges", "enter", "(LForestKeeper$Edges;II)V"⟩, 9)]
theorem lw_r1 : ∀ q ∈ lw_privs_1, lw_okq q := List.forall_mem_cons.mpr ⟨lw_p0, List.forall_mem_cons.mpr ⟨lw_p1, List.forall_mem_cons.mpr ⟨lw_p2, List.forall_mem_cons.mpr ⟨lw_p3, List.forall_mem_cons.mpr ⟨lw_p4, List.forall_mem_cons.mpr ⟨lw_p5, List.forall_mem_cons.mpr ⟨lw_p6, List.forall_mem_cons.mpr ⟨lw_p7, List.forall_mem_cons.mpr ⟨lw_p8, List.forall_mem_cons.mpr ⟨lw_p9, List.forall_mem_cons.mpr ⟨lw_p10, List.forall_mem_cons.mpr ⟨lw_p11, List.forall_mem_cons.mpr ⟨lw_p12, List.forall_mem_cons.mpr ⟨lw_p13, List.forall_mem_cons.mpr ⟨lw_p14, List.forall_mem_cons.mpr ⟨lw_p15, fun _ h => absurd h List.not_mem_nil⟩⟩⟩⟩⟩⟩⟩⟩⟩⟩⟩⟩⟩⟩⟩⟩
theorem lw_p16 : lw_okq (⟨"ForestKeeper$Hinges", "leave", "(LForestKeeper$Edges;I)I"⟩, 9) := ⟨⟨by decide +kernel, by decide +kernel⟩, List.mem_of_getElem? (i := 129) (by decide +kernel), List.mem_of_getElem? (i := 407) (by decide +kernel), List.mem_of_getElem? (i := 408) (by decide +kernel)⟩
theorem lw_p17 : lw_okq (⟨"ForestKeeper$Hinges", "markCutKnot", "(I)V"⟩, 9) := ⟨⟨by decide +kernel, by decide +kernel⟩, List.mem_of_getElem? (i := 129) (by decide +kernel), List.mem_of_getElem? (i := 415) (by decide +kernel), List.mem_of_getElem? (i := 416) (by decide +kernel)⟩
theorem lw_p18 : lw_okq (⟨"ForestKeeper$Hinges", "follow", "(LForestKeeper$Edges;II)I"⟩, 9) := ⟨⟨by decide +kernel, by decide +kernel⟩, List.mem_of_getElem? (i := 129) (by decide +kernel), List.mem_of_getElem? (i := 419) (by decide +kernel), List.mem_of_getElem? (i := 420) (by decide +kernel)⟩
theorem lw_p19 : lw_okq (⟨"ForestKeeper$Hinges", "isBridgeTo", "(II)Z"⟩, 9) := ⟨⟨by decide +kernel, by decide +kernel⟩, List.mem_of_getElem? (i := 129) (by decide +kernel), List.mem_of_getElem? (i := 428) (by decide +kernel), List.mem_of_getElem? (i := 429) (by decide +kernel)⟩
theorem lw_p20 : lw_okq (⟨"ForestKeeper", "addOnTrack", "(J)I"⟩, 13) := ⟨⟨by decide +kernel, by decide +kernel⟩, List.mem_of_getElem? (i := 12) (by decide +kernel), List.mem_of_getElem? (i := 488) (by decide +kernel), List.mem_of_getElem? (i := 489) (by decide +kernel)⟩
theorem lw_p21 : lw_okq (⟨"ForestKeeper", "findRoot", "(I)I"⟩, 13) := ⟨⟨by decide +kernel, by decide +kernel⟩, List.mem_of_getElem? (i := 12) (by decide +kernel), List.mem_of_getElem? (i := 504) (by decide +kernel), List.mem_of_getElem? (i := 505) (by decide +kernel)⟩
theorem lw_p22 : lw_okq (⟨"ForestKeeper", "floodFromRoot", "(I)V"⟩, 13) := ⟨⟨by decide +kernel, by decide +kernel⟩, List.mem_of_getElem? (i := 12) (by decide +kernel), List.mem_of_getElem? (i := 512) (by decide +kernel), List.mem_of_getElem? (i := 513) (by decide +kernel)⟩
theorem lw_p23 : lw_okq (⟨"ForestKeeper", "floodBelow", "(I)V"⟩, 13) := ⟨⟨by decide +kernel, by decide +kernel⟩, List.mem_of_getElem? (i := 12) (by decide +kernel), List.mem_of_getElem? (i := 517) (by decide +kernel), List.mem_of_getElem? (i := 518) (by decide +kernel)⟩
theorem lw_p24 : lw_okq (⟨"ForestKeeper", "addOnFlood", "(J)I"⟩, 13) := ⟨⟨by decide +kernel, by decide +kernel⟩, List.mem_of_getElem? (i := 12) (by decide +kernel), List.mem_of_getElem? (i := 533) (by decide +kernel), List.mem_of_getElem? (i := 534) (by decide +kernel)⟩
theorem lw_p25 : lw_okq (⟨"ForestKeeper", "takeBack", "(IIIJ)V"⟩, 13) := ⟨⟨by decide +kernel, by decide +kernel⟩, List.mem_of_getElem? (i := 12) (by decide +kernel), List.mem_of_getElem? (i := 545) (by decide +kernel), List.mem_of_getElem? (i := 546) (by decide +kernel)⟩
theorem lw_p26 : lw_okq (⟨"ForestKeeper", "takeBackCut", "(IIII)V"⟩, 13) := ⟨⟨by decide +kernel, by decide +kernel⟩, List.mem_of_getElem? (i := 12) (by decide +kernel), List.mem_of_getElem? (i := 553) (by decide +kernel), List.mem_of_getElem? (i := 554) (by decide +kernel)⟩
theorem lw_p27 : lw_okq (⟨"ForestKeeper", "isTray", "(I)Z"⟩, 13) := ⟨⟨by decide +kernel, by decide +kernel⟩, List.mem_of_getElem? (i := 12) (by decide +kernel), List.mem_of_getElem? (i := 565) (by decide +kernel), List.mem_of_getElem? (i := 566) (by decide +kernel)⟩
theorem lw_p28 : lw_okq (⟨"ForestKeeper", "canPut", "(III)Z"⟩, 13) := ⟨⟨by decide +kernel, by decide +kernel⟩, List.mem_of_getElem? (i := 12) (by decide +kernel), List.mem_of_getElem? (i := 569) (by decide +kernel), List.mem_of_getElem? (i := 570) (by decide +kernel)⟩
theorem lw_p29 : lw_okq (⟨"ForestKeeper", "refuse", "(I)I"⟩, 13) := ⟨⟨by decide +kernel, by decide +kernel⟩, List.mem_of_getElem? (i := 12) (by decide +kernel), List.mem_of_getElem? (i := 573) (by decide +kernel), List.mem_of_getElem? (i := 574) (by decide +kernel)⟩
theorem lw_p30 : lw_okq (⟨"ForestKeeper", "putKnots", "(LForestKeeper$Tray;I)V"⟩, 13) := ⟨⟨by decide +kernel, by decide +kernel⟩, List.mem_of_getElem? (i := 12) (by decide +kernel), List.mem_of_getElem? (i := 585) (by decide +kernel), List.mem_of_getElem? (i := 586) (by decide +kernel)⟩
theorem lw_p31 : lw_okq (⟨"ForestKeeper", "putWeights", "(LForestKeeper$Tray;II)V"⟩, 13) := ⟨⟨by decide +kernel, by decide +kernel⟩, List.mem_of_getElem? (i := 12) (by decide +kernel), List.mem_of_getElem? (i := 589) (by decide +kernel), List.mem_of_getElem? (i := 590) (by decide +kernel)⟩
def lw_privs_2 : List (MethodName × Nat) := [(⟨"ForestKeeper$Hinges", "leave", "(LForestKeeper$Edges;I)I"⟩, 9), (⟨"ForestKeeper$Hinges", "markCutKnot", "(I)V"⟩, 9), (⟨"ForestKeeper$Hinges", "follow", "(LForestKeeper$Edges;II)I"⟩, 9), (⟨"ForestKeeper$Hinges", "isBridgeTo", "(II)Z"⟩, 9), (⟨"ForestKeeper", "addOnTrack", "(J)I"⟩, 13), (⟨"ForestKeeper", "findRoot", "(I)I"⟩, 13), (⟨"ForestKeeper", "floodFromRoot", "(I)V"⟩, 13), (⟨"ForestKeeper", "floodBelow", "(I)V"⟩, 13), (⟨"ForestKeeper", "addOnFlood", "(J)I"⟩, 13), (⟨"ForestKeeper", "takeBack", "(IIIJ)V"⟩, 13), (⟨"ForestKeeper", "takeBackCut", "(IIII)V"⟩, 13), (⟨"ForestKeeper", "isTray", "(I)Z"⟩, 13), (⟨"ForestKeeper", "canPut", "(III)Z"⟩, 13), (⟨"ForestKeeper", "refuse", "(I)I"⟩, 13), (⟨"ForestKeeper", "putKnots", "(LForestKeeper$Tray;I)V"⟩, 13), (⟨"ForestKeeper", "putWeights", "(LForestKeeper$Tray;II)V"⟩, 13)]
theorem lw_r2 : ∀ q ∈ lw_privs_2, lw_okq q := List.forall_mem_cons.mpr ⟨lw_p16, List.forall_mem_cons.mpr ⟨lw_p17, List.forall_mem_cons.mpr ⟨lw_p18, List.forall_mem_cons.mpr ⟨lw_p19, List.forall_mem_cons.mpr ⟨lw_p20, List.forall_mem_cons.mpr ⟨lw_p21, List.forall_mem_cons.mpr ⟨lw_p22, List.forall_mem_cons.mpr ⟨lw_p23, List.forall_mem_cons.mpr ⟨lw_p24, List.forall_mem_cons.mpr ⟨lw_p25, List.forall_mem_cons.mpr ⟨lw_p26, List.forall_mem_cons.mpr ⟨lw_p27, List.forall_mem_cons.mpr ⟨lw_p28, List.forall_mem_cons.mpr ⟨lw_p29, List.forall_mem_cons.mpr ⟨lw_p30, List.forall_mem_cons.mpr ⟨lw_p31, fun _ h => absurd h List.not_mem_nil⟩⟩⟩⟩⟩⟩⟩⟩⟩⟩⟩⟩⟩⟩⟩⟩
theorem lw_p32 : lw_okq (⟨"ForestKeeper", "putTruths", "(LForestKeeper$Tray;I)V"⟩, 13) := ⟨⟨by decide +kernel, by decide +kernel⟩, List.mem_of_getElem? (i := 12) (by decide +kernel), List.mem_of_getElem? (i := 593) (by decide +kernel), List.mem_of_getElem? (i := 594) (by decide +kernel)⟩
theorem lw_p33 : lw_okq (⟨"ForestKeeper", "pick", "(LForestKeeper$Tray;II)I"⟩, 13) := ⟨⟨by decide +kernel, by decide +kernel⟩, List.mem_of_getElem? (i := 12) (by decide +kernel), List.mem_of_getElem? (i := 601) (by decide +kernel), List.mem_of_getElem? (i := 602) (by decide +kernel)⟩
theorem lw_p34 : lw_okq (⟨"ForestKeeper", "whyNot", "(LForestKeeper$Tray;I)I"⟩, 13) := ⟨⟨by decide +kernel, by decide +kernel⟩, List.mem_of_getElem? (i := 12) (by decide +kernel), List.mem_of_getElem? (i := 605) (by decide +kernel), List.mem_of_getElem? (i := 606) (by decide +kernel)⟩
theorem lw_p35 : lw_okq (⟨"ForestKeeper", "grant", "(I)I"⟩, 13) := ⟨⟨by decide +kernel, by decide +kernel⟩, List.mem_of_getElem? (i := 12) (by decide +kernel), List.mem_of_getElem? (i := 609) (by decide +kernel), List.mem_of_getElem? (i := 610) (by decide +kernel)⟩
theorem lw_p36 : lw_okq (⟨"ForestKeeper", "countLike", "(LForestKeeper$Tray;I)I"⟩, 13) := ⟨⟨by decide +kernel, by decide +kernel⟩, List.mem_of_getElem? (i := 12) (by decide +kernel), List.mem_of_getElem? (i := 613) (by decide +kernel), List.mem_of_getElem? (i := 614) (by decide +kernel)⟩
theorem lw_p37 : lw_okq (⟨"ForestKeeper", "sumOfCopy", "(LForestKeeper$Tray;I)I"⟩, 13) := ⟨⟨by decide +kernel, by decide +kernel⟩, List.mem_of_getElem? (i := 12) (by decide +kernel), List.mem_of_getElem? (i := 617) (by decide +kernel), List.mem_of_getElem? (i := 618) (by decide +kernel)⟩
theorem lw_p38 : lw_okq (⟨"ForestKeeper", "layIntoRows", "(LForestKeeper$Tray;)I"⟩, 13) := ⟨⟨by decide +kernel, by decide +kernel⟩, List.mem_of_getElem? (i := 12) (by decide +kernel), List.mem_of_getElem? (i := 621) (by decide +kernel), List.mem_of_getElem? (i := 622) (by decide +kernel)⟩
theorem lw_p39 : lw_okq (⟨"ForestKeeperModel", "back", "(I)V"⟩, 32) := ⟨⟨by decide +kernel, by decide +kernel⟩, List.mem_of_getElem? (i := 629) (by decide +kernel), List.mem_of_getElem? (i := 736) (by decide +kernel), List.mem_of_getElem? (i := 737) (by decide +kernel)⟩
theorem lw_p40 : lw_okq (⟨"ForestKeeperModel", "isKnot", "(I)Z"⟩, 32) := ⟨⟨by decide +kernel, by decide +kernel⟩, List.mem_of_getElem? (i := 629) (by decide +kernel), List.mem_of_getElem? (i := 752) (by decide +kernel), List.mem_of_getElem? (i := 753) (by decide +kernel)⟩
theorem lw_p41 : lw_okq (⟨"ForestKeeperModel", "isTogether", "(II)Z"⟩, 32) := ⟨⟨by decide +kernel, by decide +kernel⟩, List.mem_of_getElem? (i := 629) (by decide +kernel), List.mem_of_getElem? (i := 756) (by decide +kernel), List.mem_of_getElem? (i := 757) (by decide +kernel)⟩
theorem lw_p42 : lw_okq (⟨"ForestKeeperModel", "part", "(I)I"⟩, 32) := ⟨⟨by decide +kernel, by decide +kernel⟩, List.mem_of_getElem? (i := 629) (by decide +kernel), List.mem_of_getElem? (i := 760) (by decide +kernel), List.mem_of_getElem? (i := 761) (by decide +kernel)⟩
theorem lw_p43 : lw_okq (⟨"ForestKeeperModel", "reach", "(II[ZZII)I"⟩, 32) := ⟨⟨by decide +kernel, by decide +kernel⟩, List.mem_of_getElem? (i := 629) (by decide +kernel), List.mem_of_getElem? (i := 764) (by decide +kernel), List.mem_of_getElem? (i := 765) (by decide +kernel)⟩
theorem lw_p44 : lw_okq (⟨"ForestKeeperModel", "changes", "()V"⟩, 32) := ⟨⟨by decide +kernel, by decide +kernel⟩, List.mem_of_getElem? (i := 629) (by decide +kernel), List.mem_of_getElem? (i := 768) (by decide +kernel), List.mem_of_getElem? (i := 769) (by decide +kernel)⟩
theorem lw_p45 : lw_okq (⟨"ForestKeeperModel", "move", "(II)V"⟩, 32) := ⟨⟨by decide +kernel, by decide +kernel⟩, List.mem_of_getElem? (i := 629) (by decide +kernel), List.mem_of_getElem? (i := 772) (by decide +kernel), List.mem_of_getElem? (i := 773) (by decide +kernel)⟩
theorem lw_p46 : lw_okq (⟨"ForestKeeperModel", "keep", "(I)V"⟩, 32) := ⟨⟨by decide +kernel, by decide +kernel⟩, List.mem_of_getElem? (i := 629) (by decide +kernel), List.mem_of_getElem? (i := 776) (by decide +kernel), List.mem_of_getElem? (i := 777) (by decide +kernel)⟩
theorem lw_p47 : lw_okq (⟨"ForestKeeperModel", "finds", "(II)Z"⟩, 32) := ⟨⟨by decide +kernel, by decide +kernel⟩, List.mem_of_getElem? (i := 629) (by decide +kernel), List.mem_of_getElem? (i := 780) (by decide +kernel), List.mem_of_getElem? (i := 781) (by decide +kernel)⟩
def lw_privs_3 : List (MethodName × Nat) := [(⟨"ForestKeeper", "putTruths", "(LForestKeeper$Tray;I)V"⟩, 13), (⟨"ForestKeeper", "pick", "(LForestKeeper$Tray;II)I"⟩, 13), (⟨"ForestKeeper", "whyNot", "(LForestKeeper$Tray;I)I"⟩, 13), (⟨"ForestKeeper", "grant", "(I)I"⟩, 13), (⟨"ForestKeeper", "countLike", "(LForestKeeper$Tray;I)I"⟩, 13), (⟨"ForestKeeper", "sumOfCopy", "(LForestKeeper$Tray;I)I"⟩, 13), (⟨"ForestKeeper", "layIntoRows", "(LForestKeeper$Tray;)I"⟩, 13), (⟨"ForestKeeperModel", "back", "(I)V"⟩, 32), (⟨"ForestKeeperModel", "isKnot", "(I)Z"⟩, 32), (⟨"ForestKeeperModel", "isTogether", "(II)Z"⟩, 32), (⟨"ForestKeeperModel", "part", "(I)I"⟩, 32), (⟨"ForestKeeperModel", "reach", "(II[ZZII)I"⟩, 32), (⟨"ForestKeeperModel", "changes", "()V"⟩, 32), (⟨"ForestKeeperModel", "move", "(II)V"⟩, 32), (⟨"ForestKeeperModel", "keep", "(I)V"⟩, 32), (⟨"ForestKeeperModel", "finds", "(II)Z"⟩, 32)]
theorem lw_r3 : ∀ q ∈ lw_privs_3, lw_okq q := List.forall_mem_cons.mpr ⟨lw_p32, List.forall_mem_cons.mpr ⟨lw_p33, List.forall_mem_cons.mpr ⟨lw_p34, List.forall_mem_cons.mpr ⟨lw_p35, List.forall_mem_cons.mpr ⟨lw_p36, List.forall_mem_cons.mpr ⟨lw_p37, List.forall_mem_cons.mpr ⟨lw_p38, List.forall_mem_cons.mpr ⟨lw_p39, List.forall_mem_cons.mpr ⟨lw_p40, List.forall_mem_cons.mpr ⟨lw_p41, List.forall_mem_cons.mpr ⟨lw_p42, List.forall_mem_cons.mpr ⟨lw_p43, List.forall_mem_cons.mpr ⟨lw_p44, List.forall_mem_cons.mpr ⟨lw_p45, List.forall_mem_cons.mpr ⟨lw_p46, List.forall_mem_cons.mpr ⟨lw_p47, fun _ h => absurd h List.not_mem_nil⟩⟩⟩⟩⟩⟩⟩⟩⟩⟩⟩⟩⟩⟩⟩⟩
theorem lw_p48 : lw_okq (⟨"ForestKeeperModel", "heaviestOfWay", "()I"⟩, 32) := ⟨⟨by decide +kernel, by decide +kernel⟩, List.mem_of_getElem? (i := 629) (by decide +kernel), List.mem_of_getElem? (i := 784) (by decide +kernel), List.mem_of_getElem? (i := 785) (by decide +kernel)⟩
theorem lw_p49 : lw_okq (⟨"ForestKeeperModel", "isHeavier", "(II)Z"⟩, 32) := ⟨⟨by decide +kernel, by decide +kernel⟩, List.mem_of_getElem? (i := 629) (by decide +kernel), List.mem_of_getElem? (i := 788) (by decide +kernel), List.mem_of_getElem? (i := 789) (by decide +kernel)⟩
theorem lw_p50 : lw_okq (⟨"ForestKeeperModel", "isThere", "(I)Z"⟩, 32) := ⟨⟨by decide +kernel, by decide +kernel⟩, List.mem_of_getElem? (i := 629) (by decide +kernel), List.mem_of_getElem? (i := 796) (by decide +kernel), List.mem_of_getElem? (i := 797) (by decide +kernel)⟩
theorem lw_p51 : lw_okq (⟨"ForestKeeperModel", "goes", "(I)I"⟩, 32) := ⟨⟨by decide +kernel, by decide +kernel⟩, List.mem_of_getElem? (i := 629) (by decide +kernel), List.mem_of_getElem? (i := 800) (by decide +kernel), List.mem_of_getElem? (i := 801) (by decide +kernel)⟩
theorem lw_p52 : lw_okq (⟨"ForestKeeperModel", "lightest", "(I)I"⟩, 32) := ⟨⟨by decide +kernel, by decide +kernel⟩, List.mem_of_getElem? (i := 629) (by decide +kernel), List.mem_of_getElem? (i := 804) (by decide +kernel), List.mem_of_getElem? (i := 805) (by decide +kernel)⟩
theorem lw_p53 : lw_okq (⟨"ForestKeeperModel", "byLevels", "(I)I"⟩, 32) := ⟨⟨by decide +kernel, by decide +kernel⟩, List.mem_of_getElem? (i := 629) (by decide +kernel), List.mem_of_getElem? (i := 808) (by decide +kernel), List.mem_of_getElem? (i := 809) (by decide +kernel)⟩
theorem lw_p54 : lw_okq (⟨"ForestKeeperModel", "isBridge", "(I)Z"⟩, 32) := ⟨⟨by decide +kernel, by decide +kernel⟩, List.mem_of_getElem? (i := 629) (by decide +kernel), List.mem_of_getElem? (i := 820) (by decide +kernel), List.mem_of_getElem? (i := 821) (by decide +kernel)⟩
theorem lw_p55 : lw_okq (⟨"ForestKeeperModel", "parts", "()I"⟩, 32) := ⟨⟨by decide +kernel, by decide +kernel⟩, List.mem_of_getElem? (i := 629) (by decide +kernel), List.mem_of_getElem? (i := 833) (by decide +kernel), List.mem_of_getElem? (i := 834) (by decide +kernel)⟩
theorem lw_p56 : lw_okq (⟨"ForestKeeperModel", "isCut", "(I)Z"⟩, 32) := ⟨⟨by decide +kernel, by decide +kernel⟩, List.mem_of_getElem? (i := 629) (by decide +kernel), List.mem_of_getElem? (i := 837) (by decide +kernel), List.mem_of_getElem? (i := 838) (by decide +kernel)⟩
theorem lw_p57 : lw_okq (⟨"ForestKeeperModel", "rootOf", "(I)I"⟩, 32) := ⟨⟨by decide +kernel, by decide +kernel⟩, List.mem_of_getElem? (i := 629) (by decide +kernel), List.mem_of_getElem? (i := 893) (by decide +kernel), List.mem_of_getElem? (i := 894) (by decide +kernel)⟩
theorem lw_p58 : lw_okq (⟨"ForestKeeperModel", "marksBelow", "(I)I"⟩, 32) := ⟨⟨by decide +kernel, by decide +kernel⟩, List.mem_of_getElem? (i := 629) (by decide +kernel), List.mem_of_getElem? (i := 901) (by decide +kernel), List.mem_of_getElem? (i := 902) (by decide +kernel)⟩
theorem lw_p59 : lw_okq (⟨"ForestKeeperModel", "refused", "(I)I"⟩, 32) := ⟨⟨by decide +kernel, by decide +kernel⟩, List.mem_of_getElem? (i := 629) (by decide +kernel), List.mem_of_getElem? (i := 921) (by decide +kernel), List.mem_of_getElem? (i := 922) (by decide +kernel)⟩
theorem lw_p60 : lw_okq (⟨"ForestKeeperModel", "done", "(I)I"⟩, 32) := ⟨⟨by decide +kernel, by decide +kernel⟩, List.mem_of_getElem? (i := 629) (by decide +kernel), List.mem_of_getElem? (i := 925) (by decide +kernel), List.mem_of_getElem? (i := 926) (by decide +kernel)⟩
def lw_privs_4 : List (MethodName × Nat) := [(⟨"ForestKeeperModel", "heaviestOfWay", "()I"⟩, 32), (⟨"ForestKeeperModel", "isHeavier", "(II)Z"⟩, 32), (⟨"ForestKeeperModel", "isThere", "(I)Z"⟩, 32), (⟨"ForestKeeperModel", "goes", "(I)I"⟩, 32), (⟨"ForestKeeperModel", "lightest", "(I)I"⟩, 32), (⟨"ForestKeeperModel", "byLevels", "(I)I"⟩, 32), (⟨"ForestKeeperModel", "isBridge", "(I)Z"⟩, 32), (⟨"ForestKeeperModel", "parts", "()I"⟩, 32), (⟨"ForestKeeperModel", "isCut", "(I)Z"⟩, 32), (⟨"ForestKeeperModel", "rootOf", "(I)I"⟩, 32), (⟨"ForestKeeperModel", "marksBelow", "(I)I"⟩, 32), (⟨"ForestKeeperModel", "refused", "(I)I"⟩, 32), (⟨"ForestKeeperModel", "done", "(I)I"⟩, 32)]
theorem lw_r4 : ∀ q ∈ lw_privs_4, lw_okq q := List.forall_mem_cons.mpr ⟨lw_p48, List.forall_mem_cons.mpr ⟨lw_p49, List.forall_mem_cons.mpr ⟨lw_p50, List.forall_mem_cons.mpr ⟨lw_p51, List.forall_mem_cons.mpr ⟨lw_p52, List.forall_mem_cons.mpr ⟨lw_p53, List.forall_mem_cons.mpr ⟨lw_p54, List.forall_mem_cons.mpr ⟨lw_p55, List.forall_mem_cons.mpr ⟨lw_p56, List.forall_mem_cons.mpr ⟨lw_p57, List.forall_mem_cons.mpr ⟨lw_p58, List.forall_mem_cons.mpr ⟨lw_p59, List.forall_mem_cons.mpr ⟨lw_p60, fun _ h => absurd h List.not_mem_nil⟩⟩⟩⟩⟩⟩⟩⟩⟩⟩⟩⟩⟩
def lw_privs : List (MethodName × Nat) := lw_privs_1 ++ (lw_privs_2 ++ (lw_privs_3 ++ (lw_privs_4)))
def lw_tbl : List Cond := k2_sels lw_privs ++ tables_1
theorem lw_privs_ok : ∀ q ∈ lw_privs, lw_okq q := by
  show ∀ q ∈ lw_privs_1 ++ (lw_privs_2 ++ (lw_privs_3 ++ (lw_privs_4))), lw_okq q
  exact List.forall_mem_append.mpr ⟨lw_r1, List.forall_mem_append.mpr ⟨lw_r2, List.forall_mem_append.mpr ⟨lw_r3, lw_r4⟩⟩⟩
end
section
def RX0 : String := "ForestKeeper$Edges"
def TX0 : u_T := fun k => match k with
  | 0 => ("ForestKeeper$Edges", "first", "[I", true)
  | 1 => ("ForestKeeper$Edges", "second", "[I", true)
  | 2 => ("ForestKeeper$Edges", "weights", "[J", true)
  | 3 => ("ForestKeeper$Edges", "how", "[I", true)
  | 4 => ("ForestKeeper$Edges", "level", "[I", true)
  | 5 => ("ForestKeeper$Edges", "latestLink", "[I", true)
  | 6 => ("ForestKeeper$Edges", "nextLink", "[I", true)
  | 7 => ("ForestKeeper$Edges", "rises", "[I", true)
  | 8 => ("ForestKeeper$Edges", "came", "I", false)
  | _ => ("ForestKeeper$Edges", "risen", "I", false)
def tyX0 : Nat → FieldType := fun k => match k with
  | 0 => .array .int
  | 1 => .array .int
  | 2 => .array .long
  | 3 => .array .int
  | 4 => .array .int
  | 5 => .array .int
  | 6 => .array .int
  | 7 => .array .int
  | 8 => .int
  | _ => .int
theorem nmX0 : ∀ a, a < 10 → ∀ b, b < 10 → a ≠ b → (TX0 a).2.1 ≠ (TX0 b).2.1 := by decide +kernel
theorem tyX0_ok : ∀ k, k < 10 → parseFieldDescriptor (TX0 k).2.2.1 = some (tyX0 k) := by decide +kernel
abbrev cX0_init : ByteArray := prog_2_method_1_code
def yX0_init : MethodName := ⟨RX0, "<init>", "()V"⟩
abbrev cX0_hasCome : ByteArray := prog_2_method_2_code
def yX0_hasCome : MethodName := ⟨RX0, "hasCome", "(I)Z"⟩
abbrev cX0_isThere : ByteArray := prog_2_method_3_code
def yX0_isThere : MethodName := ⟨RX0, "isThere", "(I)Z"⟩
abbrev cX0_isAt : ByteArray := prog_2_method_4_code
def yX0_isAt : MethodName := ⟨RX0, "isAt", "(III)Z"⟩
abbrev cX0_isHeavier : ByteArray := prog_2_method_5_code
def yX0_isHeavier : MethodName := ⟨RX0, "isHeavier", "(II)Z"⟩
abbrev cX0_across : ByteArray := prog_2_method_6_code
def yX0_across : MethodName := ⟨RX0, "across", "(II)I"⟩
abbrev cX0_howMany : ByteArray := prog_2_method_7_code
def yX0_howMany : MethodName := ⟨RX0, "howMany", "(I)I"⟩
abbrev cX0_append : ByteArray := prog_2_method_8_code
def yX0_append : MethodName := ⟨RX0, "append", "(IIJI)I"⟩
abbrev cX0_chain : ByteArray := prog_2_method_9_code
def yX0_chain : MethodName := ⟨RX0, "chain", "(II)V"⟩
abbrev cX0_dropLatest : ByteArray := prog_2_method_10_code
def yX0_dropLatest : MethodName := ⟨RX0, "dropLatest", "()V"⟩
abbrev cX0_raise : ByteArray := prog_2_method_11_code
def yX0_raise : MethodName := ⟨RX0, "raise", "(I)V"⟩
abbrev cX0_lowerTo : ByteArray := prog_2_method_12_code
def yX0_lowerTo : MethodName := ⟨RX0, "lowerTo", "(I)V"⟩
def RX1 : String := "ForestKeeper$Flood"
def TX1 : u_T := fun k => match k with
  | 0 => ("ForestKeeper$Flood", "line", "[I", true)
  | 1 => ("ForestKeeper$Flood", "far", "[I", true)
  | 2 => ("ForestKeeper$Flood", "by", "[I", true)
  | 3 => ("ForestKeeper$Flood", "reached", "[Z", true)
  | _ => ("ForestKeeper$Flood", "length", "I", false)
def tyX1 : Nat → FieldType := fun k => match k with
  | 0 => .array .int
  | 1 => .array .int
  | 2 => .array .int
  | 3 => .array .boolean
  | _ => .int
theorem nmX1 : ∀ a, a < 5 → ∀ b, b < 5 → a ≠ b → (TX1 a).2.1 ≠ (TX1 b).2.1 := by decide +kernel
theorem tyX1_ok : ∀ k, k < 5 → parseFieldDescriptor (TX1 k).2.2.1 = some (tyX1 k) := by decide +kernel
abbrev cX1_init : ByteArray := prog_3_method_1_code
def yX1_init : MethodName := ⟨RX1, "<init>", "()V"⟩
abbrev cX1_spread : ByteArray := prog_3_method_2_code
def yX1_spread : MethodName := ⟨RX1, "spread", "(LForestKeeper$Edges;III)V"⟩
abbrev cX1_clear : ByteArray := prog_3_method_3_code
def yX1_clear : MethodName := ⟨RX1, "clear", "()V"⟩
abbrev cX1_reach : ByteArray := prog_3_method_4_code
def yX1_reach : MethodName := ⟨RX1, "reach", "(III)V"⟩
abbrev cX1_spreadFrom : ByteArray := prog_3_method_5_code
def yX1_spreadFrom : MethodName := ⟨RX1, "spreadFrom", "(LForestKeeper$Edges;III)V"⟩
abbrev cX1_before : ByteArray := prog_3_method_6_code
def yX1_before : MethodName := ⟨RX1, "before", "(LForestKeeper$Edges;I)I"⟩
abbrev cX1_endsOf : ByteArray := prog_3_method_7_code
def yX1_endsOf : MethodName := ⟨RX1, "endsOf", "(LForestKeeper$Edges;I)I"⟩
def RX2 : String := "ForestKeeper$Hinges"
def TX2 : u_T := fun k => match k with
  | 0 => ("ForestKeeper$Hinges", "turn", "[I", true)
  | 1 => ("ForestKeeper$Hinges", "low", "[I", true)
  | 2 => ("ForestKeeper$Hinges", "by", "[I", true)
  | 3 => ("ForestKeeper$Hinges", "nextLink", "[I", true)
  | 4 => ("ForestKeeper$Hinges", "isCutKnot", "[Z", true)
  | 5 => ("ForestKeeper$Hinges", "turns", "I", false)
  | 6 => ("ForestKeeper$Hinges", "sprouts", "I", false)
  | 7 => ("ForestKeeper$Hinges", "bridges", "I", false)
  | _ => ("ForestKeeper$Hinges", "cutKnots", "I", false)
def tyX2 : Nat → FieldType := fun k => match k with
  | 0 => .array .int
  | 1 => .array .int
  | 2 => .array .int
  | 3 => .array .int
  | 4 => .array .boolean
  | 5 => .int
  | 6 => .int
  | 7 => .int
  | _ => .int
theorem nmX2 : ∀ a, a < 9 → ∀ b, b < 9 → a ≠ b → (TX2 a).2.1 ≠ (TX2 b).2.1 := by decide +kernel
theorem tyX2_ok : ∀ k, k < 9 → parseFieldDescriptor (TX2 k).2.2.1 = some (tyX2 k) := by decide +kernel
abbrev cX2_init : ByteArray := prog_4_method_1_code
def yX2_init : MethodName := ⟨RX2, "<init>", "()V"⟩
abbrev cX2_find : ByteArray := prog_4_method_2_code
def yX2_find : MethodName := ⟨RX2, "find", "(LForestKeeper$Edges;I)V"⟩
abbrev cX2_isBridge : ByteArray := prog_4_method_3_code
def yX2_isBridge : MethodName := ⟨RX2, "isBridge", "(LForestKeeper$Edges;I)Z"⟩
abbrev cX2_isBridgeTo : ByteArray := prog_4_method_4_code
def yX2_isBridgeTo : MethodName := ⟨RX2, "isBridgeTo", "(II)Z"⟩
abbrev cX2_walkFrom : ByteArray := prog_4_method_5_code
def yX2_walkFrom : MethodName := ⟨RX2, "walkFrom", "(LForestKeeper$Edges;I)V"⟩
abbrev cX2_enter : ByteArray := prog_4_method_6_code
def yX2_enter : MethodName := ⟨RX2, "enter", "(LForestKeeper$Edges;II)V"⟩
abbrev cX2_follow : ByteArray := prog_4_method_7_code
def yX2_follow : MethodName := ⟨RX2, "follow", "(LForestKeeper$Edges;II)I"⟩
abbrev cX2_leave : ByteArray := prog_4_method_8_code
def yX2_leave : MethodName := ⟨RX2, "leave", "(LForestKeeper$Edges;I)I"⟩
abbrev cX2_markCutKnot : ByteArray := prog_4_method_9_code
def yX2_markCutKnot : MethodName := ⟨RX2, "markCutKnot", "(I)V"⟩
def RX3 : String := "ForestKeeper$Past"
def TX3 : u_T := fun k => match k with
  | 0 => ("ForestKeeper$Past", "sorts", "[I", true)
  | 1 => ("ForestKeeper$Past", "ones", "[I", true)
  | 2 => ("ForestKeeper$Past", "twos", "[I", true)
  | 3 => ("ForestKeeper$Past", "amounts", "[J", true)
  | 4 => ("ForestKeeper$Past", "oldest", "I", false)
  | _ => ("ForestKeeper$Past", "length", "I", false)
def tyX3 : Nat → FieldType := fun k => match k with
  | 0 => .array .int
  | 1 => .array .int
  | 2 => .array .int
  | 3 => .array .long
  | 4 => .int
  | _ => .int
theorem nmX3 : ∀ a, a < 6 → ∀ b, b < 6 → a ≠ b → (TX3 a).2.1 ≠ (TX3 b).2.1 := by decide +kernel
theorem tyX3_ok : ∀ k, k < 6 → parseFieldDescriptor (TX3 k).2.2.1 = some (tyX3 k) := by decide +kernel
abbrev cX3_init : ByteArray := prog_5_method_1_code
def yX3_init : MethodName := ⟨RX3, "<init>", "()V"⟩
abbrev cX3_note : ByteArray := prog_5_method_2_code
def yX3_note : MethodName := ⟨RX3, "note", "(IIIJ)V"⟩
abbrev cX3_takeLatest : ByteArray := prog_5_method_3_code
def yX3_takeLatest : MethodName := ⟨RX3, "takeLatest", "()I"⟩
abbrev cX3_forget : ByteArray := prog_5_method_4_code
def yX3_forget : MethodName := ⟨RX3, "forget", "()V"⟩
def RX4 : String := "ForestKeeper$Tray"
def TX4 : u_T := fun k => match k with
  | 0 => ("ForestKeeper$Tray", "row", "[J", true)
  | 1 => ("ForestKeeper$Tray", "thing", "I", false)
  | _ => ("ForestKeeper$Tray", "length", "I", false)
def tyX4 : Nat → FieldType := fun k => match k with
  | 0 => .array .long
  | 1 => .int
  | _ => .int
theorem nmX4 : ∀ a, a < 3 → ∀ b, b < 3 → a ≠ b → (TX4 a).2.1 ≠ (TX4 b).2.1 := by decide +kernel
theorem tyX4_ok : ∀ k, k < 3 → parseFieldDescriptor (TX4 k).2.2.1 = some (tyX4 k) := by decide +kernel
abbrev cX4_init : ByteArray := prog_6_method_1_code
def yX4_init : MethodName := ⟨RX4, "<init>", "()V"⟩
abbrev cX4_begin : ByteArray := prog_6_method_2_code
def yX4_begin : MethodName := ⟨RX4, "begin", "(I)V"⟩
abbrev cX4_lay : ByteArray := prog_6_method_3_code
def yX4_lay : MethodName := ⟨RX4, "lay", "(J)V"⟩
def RX5 : String := "ForestKeeper$Way"
def TX5 : u_T := fun k => match k with
  | 0 => ("ForestKeeper$Way", "knots", "[I", true)
  | 1 => ("ForestKeeper$Way", "steps", "[I", true)
  | _ => ("ForestKeeper$Way", "length", "I", false)
def tyX5 : Nat → FieldType := fun k => match k with
  | 0 => .array .int
  | 1 => .array .int
  | _ => .int
theorem nmX5 : ∀ a, a < 3 → ∀ b, b < 3 → a ≠ b → (TX5 a).2.1 ≠ (TX5 b).2.1 := by decide +kernel
theorem tyX5_ok : ∀ k, k < 3 → parseFieldDescriptor (TX5 k).2.2.1 = some (tyX5 k) := by decide +kernel
abbrev cX5_init : ByteArray := prog_7_method_1_code
def yX5_init : MethodName := ⟨RX5, "<init>", "()V"⟩
abbrev cX5_lay : ByteArray := prog_7_method_2_code
def yX5_lay : MethodName := ⟨RX5, "lay", "(LForestKeeper$Edges;LForestKeeper$Flood;I)V"⟩
abbrev cX5_heaviestOf : ByteArray := prog_7_method_3_code
def yX5_heaviestOf : MethodName := ⟨RX5, "heaviestOf", "(LForestKeeper$Edges;)I"⟩
def RX6 : String := "ForestKeeper"
def TX6 : u_T := fun k => match k with
  | 0 => ("ForestKeeper", "values", "[J", true)
  | 1 => ("ForestKeeper", "named", "[I", true)
  | 2 => ("ForestKeeper", "edges", "LForestKeeper$Edges;", true)
  | 3 => ("ForestKeeper", "flood", "LForestKeeper$Flood;", true)
  | 4 => ("ForestKeeper", "otherFlood", "LForestKeeper$Flood;", true)
  | 5 => ("ForestKeeper", "track", "LForestKeeper$Way;", true)
  | 6 => ("ForestKeeper", "hinges", "LForestKeeper$Hinges;", true)
  | 7 => ("ForestKeeper", "past", "LForestKeeper$Past;", true)
  | 8 => ("ForestKeeper", "trays", "[LForestKeeper$Tray;", true)
  | 9 => ("ForestKeeper", "knots", "I", false)
  | 10 => ("ForestKeeper", "namings", "I", false)
  | 11 => ("ForestKeeper", "theKind", "I", false)
  | _ => ("ForestKeeper", "lastStatus", "I", false)
def tyX6 : Nat → FieldType := fun k => match k with
  | 0 => .array .long
  | 1 => .array .int
  | 2 => .object "ForestKeeper$Edges"
  | 3 => .object "ForestKeeper$Flood"
  | 4 => .object "ForestKeeper$Flood"
  | 5 => .object "ForestKeeper$Way"
  | 6 => .object "ForestKeeper$Hinges"
  | 7 => .object "ForestKeeper$Past"
  | 8 => .array (.object "ForestKeeper$Tray")
  | 9 => .int
  | 10 => .int
  | 11 => .int
  | _ => .int
theorem nmX6 : ∀ a, a < 13 → ∀ b, b < 13 → a ≠ b → (TX6 a).2.1 ≠ (TX6 b).2.1 := by decide +kernel
theorem tyX6_ok : ∀ k, k < 13 → parseFieldDescriptor (TX6 k).2.2.1 = some (tyX6 k) := by decide +kernel
abbrev cX6_init : ByteArray := prog_1_method_1_code
def yX6_init : MethodName := ⟨RX6, "<init>", "()V"⟩
abbrev cX6_knot : ByteArray := prog_1_method_2_code
def yX6_knot : MethodName := ⟨RX6, "knot", "(J)I"⟩
abbrev cX6_kind : ByteArray := prog_1_method_3_code
def yX6_kind : MethodName := ⟨RX6, "kind", "(I)I"⟩
abbrev cX6_edge : ByteArray := prog_1_method_4_code
def yX6_edge : MethodName := ⟨RX6, "edge", "(IIJ)I"⟩
abbrev cX6_cut : ByteArray := prog_1_method_5_code
def yX6_cut : MethodName := ⟨RX6, "cut", "(I)I"⟩
abbrev cX6_instead : ByteArray := prog_1_method_6_code
def yX6_instead : MethodName := ⟨RX6, "instead", "(I)I"⟩
abbrev cX6_told : ByteArray := prog_1_method_7_code
def yX6_told : MethodName := ⟨RX6, "told", "(II)I"⟩
abbrev cX6_weight : ByteArray := prog_1_method_8_code
def yX6_weight : MethodName := ⟨RX6, "weight", "(I)J"⟩
abbrev cX6_count : ByteArray := prog_1_method_9_code
def yX6_count : MethodName := ⟨RX6, "count", "(I)I"⟩
abbrev cX6_total : ByteArray := prog_1_method_10_code
def yX6_total : MethodName := ⟨RX6, "total", "()J"⟩
abbrev cX6_together : ByteArray := prog_1_method_11_code
def yX6_together : MethodName := ⟨RX6, "together", "(II)I"⟩
abbrev cX6_size : ByteArray := prog_1_method_12_code
def yX6_size : MethodName := ⟨RX6, "size", "(I)I"⟩
abbrev cX6_member : ByteArray := prog_1_method_13_code
def yX6_member : MethodName := ⟨RX6, "member", "(II)I"⟩
abbrev cX6_way : ByteArray := prog_1_method_14_code
def yX6_way : MethodName := ⟨RX6, "way", "(II)I"⟩
abbrev cX6_between : ByteArray := prog_1_method_15_code
def yX6_between : MethodName := ⟨RX6, "between", "(III)I"⟩
abbrev cX6_heaviest : ByteArray := prog_1_method_16_code
def yX6_heaviest : MethodName := ⟨RX6, "heaviest", "(II)I"⟩
abbrev cX6_sum : ByteArray := prog_1_method_17_code
def yX6_sum : MethodName := ⟨RX6, "sum", "(II)J"⟩
abbrev cX6_least : ByteArray := prog_1_method_18_code
def yX6_least : MethodName := ⟨RX6, "least", "(II)J"⟩
abbrev cX6_add : ByteArray := prog_1_method_19_code
def yX6_add : MethodName := ⟨RX6, "add", "(IIJ)I"⟩
abbrev cX6_value : ByteArray := prog_1_method_20_code
def yX6_value : MethodName := ⟨RX6, "value", "(I)J"⟩
abbrev cX6_set : ByteArray := prog_1_method_21_code
def yX6_set : MethodName := ⟨RX6, "set", "(IJ)I"⟩
abbrev cX6_root : ByteArray := prog_1_method_22_code
def yX6_root : MethodName := ⟨RX6, "root", "(I)I"⟩
abbrev cX6_below : ByteArray := prog_1_method_23_code
def yX6_below : MethodName := ⟨RX6, "below", "(II)I"⟩
abbrev cX6_meet : ByteArray := prog_1_method_24_code
def yX6_meet : MethodName := ⟨RX6, "meet", "(II)I"⟩
abbrev cX6_sumBelow : ByteArray := prog_1_method_25_code
def yX6_sumBelow : MethodName := ⟨RX6, "sumBelow", "(I)J"⟩
abbrev cX6_addBelow : ByteArray := prog_1_method_26_code
def yX6_addBelow : MethodName := ⟨RX6, "addBelow", "(IJ)I"⟩
abbrev cX6_undo : ByteArray := prog_1_method_27_code
def yX6_undo : MethodName := ⟨RX6, "undo", "()I"⟩
abbrev cX6_put : ByteArray := prog_1_method_28_code
def yX6_put : MethodName := ⟨RX6, "put", "(IIII)I"⟩
abbrev cX6_forge : ByteArray := prog_1_method_29_code
def yX6_forge : MethodName := ⟨RX6, "forge", "(III)I"⟩
abbrev cX6_status : ByteArray := prog_1_method_30_code
def yX6_status : MethodName := ⟨RX6, "status", "()I"⟩
abbrev cX6_isKnot : ByteArray := prog_1_method_31_code
def yX6_isKnot : MethodName := ⟨RX6, "isKnot", "(I)Z"⟩
abbrev cX6_isTray : ByteArray := prog_1_method_32_code
def yX6_isTray : MethodName := ⟨RX6, "isTray", "(I)Z"⟩
abbrev cX6_layTrack : ByteArray := prog_1_method_33_code
def yX6_layTrack : MethodName := ⟨RX6, "layTrack", "(II)I"⟩
abbrev cX6_floodPart : ByteArray := prog_1_method_34_code
def yX6_floodPart : MethodName := ⟨RX6, "floodPart", "(I)V"⟩
abbrev cX6_findRoot : ByteArray := prog_1_method_35_code
def yX6_findRoot : MethodName := ⟨RX6, "findRoot", "(I)I"⟩
abbrev cX6_floodFromRoot : ByteArray := prog_1_method_36_code
def yX6_floodFromRoot : MethodName := ⟨RX6, "floodFromRoot", "(I)V"⟩
abbrev cX6_floodBelow : ByteArray := prog_1_method_37_code
def yX6_floodBelow : MethodName := ⟨RX6, "floodBelow", "(I)V"⟩
abbrev cX6_addOnTrack : ByteArray := prog_1_method_38_code
def yX6_addOnTrack : MethodName := ⟨RX6, "addOnTrack", "(J)I"⟩
abbrev cX6_addOnFlood : ByteArray := prog_1_method_39_code
def yX6_addOnFlood : MethodName := ⟨RX6, "addOnFlood", "(J)I"⟩
abbrev cX6_displaceHeavier : ByteArray := prog_1_method_40_code
def yX6_displaceHeavier : MethodName := ⟨RX6, "displaceHeavier", "(I)I"⟩
abbrev cX6_findHeir : ByteArray := prog_1_method_41_code
def yX6_findHeir : MethodName := ⟨RX6, "findHeir", "(IZ)I"⟩
abbrev cX6_findHeirByLevels : ByteArray := prog_1_method_42_code
def yX6_findHeirByLevels : MethodName := ⟨RX6, "findHeirByLevels", "(IZ)I"⟩
abbrev cX6_floodSmaller : ByteArray := prog_1_method_43_code
def yX6_floodSmaller : MethodName := ⟨RX6, "floodSmaller", "(II)LForestKeeper$Flood;"⟩
abbrev cX6_raiseTrees : ByteArray := prog_1_method_44_code
def yX6_raiseTrees : MethodName := ⟨RX6, "raiseTrees", "(LForestKeeper$Flood;I)V"⟩
abbrev cX6_findHeirAt : ByteArray := prog_1_method_45_code
def yX6_findHeirAt : MethodName := ⟨RX6, "findHeirAt", "(LForestKeeper$Flood;IZ)I"⟩
abbrev cX6_findLightestAcross : ByteArray := prog_1_method_46_code
def yX6_findLightestAcross : MethodName := ⟨RX6, "findLightestAcross", "(I)I"⟩
abbrev cX6_takeBack : ByteArray := prog_1_method_47_code
def yX6_takeBack : MethodName := ⟨RX6, "takeBack", "(IIIJ)V"⟩
abbrev cX6_takeBackCut : ByteArray := prog_1_method_48_code
def yX6_takeBackCut : MethodName := ⟨RX6, "takeBackCut", "(IIII)V"⟩
abbrev cX6_refuse : ByteArray := prog_1_method_49_code
def yX6_refuse : MethodName := ⟨RX6, "refuse", "(I)I"⟩
abbrev cX6_grant : ByteArray := prog_1_method_50_code
def yX6_grant : MethodName := ⟨RX6, "grant", "(I)I"⟩
abbrev cX6_canPut : ByteArray := prog_1_method_51_code
def yX6_canPut : MethodName := ⟨RX6, "canPut", "(III)Z"⟩
abbrev cX6_putKnots : ByteArray := prog_1_method_52_code
def yX6_putKnots : MethodName := ⟨RX6, "putKnots", "(LForestKeeper$Tray;I)V"⟩
abbrev cX6_putWeights : ByteArray := prog_1_method_53_code
def yX6_putWeights : MethodName := ⟨RX6, "putWeights", "(LForestKeeper$Tray;II)V"⟩
abbrev cX6_putTruths : ByteArray := prog_1_method_54_code
def yX6_putTruths : MethodName := ⟨RX6, "putTruths", "(LForestKeeper$Tray;I)V"⟩
abbrev cX6_whyNot : ByteArray := prog_1_method_55_code
def yX6_whyNot : MethodName := ⟨RX6, "whyNot", "(LForestKeeper$Tray;I)I"⟩
abbrev cX6_pick : ByteArray := prog_1_method_56_code
def yX6_pick : MethodName := ⟨RX6, "pick", "(LForestKeeper$Tray;II)I"⟩
abbrev cX6_countLike : ByteArray := prog_1_method_57_code
def yX6_countLike : MethodName := ⟨RX6, "countLike", "(LForestKeeper$Tray;I)I"⟩
abbrev cX6_sumOfCopy : ByteArray := prog_1_method_58_code
def yX6_sumOfCopy : MethodName := ⟨RX6, "sumOfCopy", "(LForestKeeper$Tray;I)I"⟩
abbrev cX6_layIntoRows : ByteArray := prog_1_method_59_code
def yX6_layIntoRows : MethodName := ⟨RX6, "layIntoRows", "(LForestKeeper$Tray;)I"⟩
def RX7 : String := "ForestKeeperModel"
def TX7 : u_T := fun k => match k with
  | 0 => ("ForestKeeperModel", "knots", "I", false)
  | 1 => ("ForestKeeperModel", "edges", "I", false)
  | 2 => ("ForestKeeperModel", "kind", "I", false)
  | 3 => ("ForestKeeperModel", "names", "I", false)
  | 4 => ("ForestKeeperModel", "rises", "I", false)
  | 5 => ("ForestKeeperModel", "value", "[J", true)
  | 6 => ("ForestKeeperModel", "named", "[I", true)
  | 7 => ("ForestKeeperModel", "eA", "[I", true)
  | 8 => ("ForestKeeperModel", "eB", "[I", true)
  | 9 => ("ForestKeeperModel", "eState", "[I", true)
  | 10 => ("ForestKeeperModel", "eLevel", "[I", true)
  | 11 => ("ForestKeeperModel", "eWeight", "[J", true)
  | 12 => ("ForestKeeperModel", "undos", "I", false)
  | 13 => ("ForestKeeperModel", "uValue", "[J", true)
  | 14 => ("ForestKeeperModel", "uNamed", "[I", true)
  | 15 => ("ForestKeeperModel", "uState", "[I", true)
  | 16 => ("ForestKeeperModel", "uLevel", "[I", true)
  | 17 => ("ForestKeeperModel", "uEdges", "[I", true)
  | 18 => ("ForestKeeperModel", "uNames", "[I", true)
  | 19 => ("ForestKeeperModel", "uRises", "[I", true)
  | 20 => ("ForestKeeperModel", "in", "[Z", true)
  | 21 => ("ForestKeeperModel", "other", "[Z", true)
  | 22 => ("ForestKeeperModel", "queue", "[I", true)
  | 23 => ("ForestKeeperModel", "by", "[I", true)
  | 24 => ("ForestKeeperModel", "way", "[I", true)
  | 25 => ("ForestKeeperModel", "wayEdge", "[I", true)
  | 26 => ("ForestKeeperModel", "wayN", "I", false)
  | 27 => ("ForestKeeperModel", "tray", "[I", true)
  | 28 => ("ForestKeeperModel", "trayN", "[I", true)
  | 29 => ("ForestKeeperModel", "trayInt", "[I", true)
  | 30 => ("ForestKeeperModel", "trayLong", "[J", true)
  | _ => ("ForestKeeperModel", "status", "I", false)
def tyX7 : Nat → FieldType := fun k => match k with
  | 0 => .int
  | 1 => .int
  | 2 => .int
  | 3 => .int
  | 4 => .int
  | 5 => .array .long
  | 6 => .array .int
  | 7 => .array .int
  | 8 => .array .int
  | 9 => .array .int
  | 10 => .array .int
  | 11 => .array .long
  | 12 => .int
  | 13 => .array .long
  | 14 => .array .int
  | 15 => .array .int
  | 16 => .array .int
  | 17 => .array .int
  | 18 => .array .int
  | 19 => .array .int
  | 20 => .array .boolean
  | 21 => .array .boolean
  | 22 => .array .int
  | 23 => .array .int
  | 24 => .array .int
  | 25 => .array .int
  | 26 => .int
  | 27 => .array .int
  | 28 => .array .int
  | 29 => .array .int
  | 30 => .array .long
  | _ => .int
theorem nmX7 : ∀ a, a < 32 → ∀ b, b < 32 → a ≠ b → (TX7 a).2.1 ≠ (TX7 b).2.1 := by decide +kernel
theorem tyX7_ok : ∀ k, k < 32 → parseFieldDescriptor (TX7 k).2.2.1 = some (tyX7 k) := by decide +kernel
abbrev cX7_init : ByteArray := prog_9_method_1_code
def yX7_init : MethodName := ⟨RX7, "<init>", "()V"⟩
abbrev cX7_isKnot : ByteArray := prog_9_method_2_code
def yX7_isKnot : MethodName := ⟨RX7, "isKnot", "(I)Z"⟩
abbrev cX7_isThere : ByteArray := prog_9_method_3_code
def yX7_isThere : MethodName := ⟨RX7, "isThere", "(I)Z"⟩
abbrev cX7_keep : ByteArray := prog_9_method_4_code
def yX7_keep : MethodName := ⟨RX7, "keep", "(I)V"⟩
abbrev cX7_back : ByteArray := prog_9_method_5_code
def yX7_back : MethodName := ⟨RX7, "back", "(I)V"⟩
abbrev cX7_move : ByteArray := prog_9_method_6_code
def yX7_move : MethodName := ⟨RX7, "move", "(II)V"⟩
abbrev cX7_changes : ByteArray := prog_9_method_7_code
def yX7_changes : MethodName := ⟨RX7, "changes", "()V"⟩
abbrev cX7_undo : ByteArray := prog_9_method_8_code
def yX7_undo : MethodName := ⟨RX7, "undo", "()I"⟩
abbrev cX7_reach : ByteArray := prog_9_method_9_code
def yX7_reach : MethodName := ⟨RX7, "reach", "(II[ZZII)I"⟩
abbrev cX7_part : ByteArray := prog_9_method_10_code
def yX7_part : MethodName := ⟨RX7, "part", "(I)I"⟩
abbrev cX7_isTogether : ByteArray := prog_9_method_11_code
def yX7_isTogether : MethodName := ⟨RX7, "isTogether", "(II)Z"⟩
abbrev cX7_finds : ByteArray := prog_9_method_12_code
def yX7_finds : MethodName := ⟨RX7, "finds", "(II)Z"⟩
abbrev cX7_isHeavier : ByteArray := prog_9_method_13_code
def yX7_isHeavier : MethodName := ⟨RX7, "isHeavier", "(II)Z"⟩
abbrev cX7_heaviestOfWay : ByteArray := prog_9_method_14_code
def yX7_heaviestOfWay : MethodName := ⟨RX7, "heaviestOfWay", "()I"⟩
abbrev cX7_rootOf : ByteArray := prog_9_method_15_code
def yX7_rootOf : MethodName := ⟨RX7, "rootOf", "(I)I"⟩
abbrev cX7_knot : ByteArray := prog_9_method_16_code
def yX7_knot : MethodName := ⟨RX7, "knot", "(J)I"⟩
abbrev cX7_kind : ByteArray := prog_9_method_17_code
def yX7_kind : MethodName := ⟨RX7, "kind", "(I)I"⟩
abbrev cX7_edge : ByteArray := prog_9_method_18_code
def yX7_edge : MethodName := ⟨RX7, "edge", "(IIJ)I"⟩
abbrev cX7_goes : ByteArray := prog_9_method_19_code
def yX7_goes : MethodName := ⟨RX7, "goes", "(I)I"⟩
abbrev cX7_lightest : ByteArray := prog_9_method_20_code
def yX7_lightest : MethodName := ⟨RX7, "lightest", "(I)I"⟩
abbrev cX7_byLevels : ByteArray := prog_9_method_21_code
def yX7_byLevels : MethodName := ⟨RX7, "byLevels", "(I)I"⟩
abbrev cX7_cut : ByteArray := prog_9_method_22_code
def yX7_cut : MethodName := ⟨RX7, "cut", "(I)I"⟩
abbrev cX7_instead : ByteArray := prog_9_method_23_code
def yX7_instead : MethodName := ⟨RX7, "instead", "(I)I"⟩
abbrev cX7_isBridge : ByteArray := prog_9_method_24_code
def yX7_isBridge : MethodName := ⟨RX7, "isBridge", "(I)Z"⟩
abbrev cX7_told : ByteArray := prog_9_method_25_code
def yX7_told : MethodName := ⟨RX7, "told", "(II)I"⟩
abbrev cX7_weight : ByteArray := prog_9_method_26_code
def yX7_weight : MethodName := ⟨RX7, "weight", "(I)J"⟩
abbrev cX7_isCut : ByteArray := prog_9_method_27_code
def yX7_isCut : MethodName := ⟨RX7, "isCut", "(I)Z"⟩
abbrev cX7_parts : ByteArray := prog_9_method_28_code
def yX7_parts : MethodName := ⟨RX7, "parts", "()I"⟩
abbrev cX7_count : ByteArray := prog_9_method_29_code
def yX7_count : MethodName := ⟨RX7, "count", "(I)I"⟩
abbrev cX7_total : ByteArray := prog_9_method_30_code
def yX7_total : MethodName := ⟨RX7, "total", "()J"⟩
abbrev cX7_together : ByteArray := prog_9_method_31_code
def yX7_together : MethodName := ⟨RX7, "together", "(II)I"⟩
abbrev cX7_size : ByteArray := prog_9_method_32_code
def yX7_size : MethodName := ⟨RX7, "size", "(I)I"⟩
abbrev cX7_member : ByteArray := prog_9_method_33_code
def yX7_member : MethodName := ⟨RX7, "member", "(II)I"⟩
abbrev cX7_way : ByteArray := prog_9_method_34_code
def yX7_way : MethodName := ⟨RX7, "way", "(II)I"⟩
abbrev cX7_between : ByteArray := prog_9_method_35_code
def yX7_between : MethodName := ⟨RX7, "between", "(III)I"⟩
abbrev cX7_heaviest : ByteArray := prog_9_method_36_code
def yX7_heaviest : MethodName := ⟨RX7, "heaviest", "(II)I"⟩
abbrev cX7_sum : ByteArray := prog_9_method_37_code
def yX7_sum : MethodName := ⟨RX7, "sum", "(II)J"⟩
abbrev cX7_least : ByteArray := prog_9_method_38_code
def yX7_least : MethodName := ⟨RX7, "least", "(II)J"⟩
abbrev cX7_add : ByteArray := prog_9_method_39_code
def yX7_add : MethodName := ⟨RX7, "add", "(IIJ)I"⟩
abbrev cX7_value : ByteArray := prog_9_method_40_code
def yX7_value : MethodName := ⟨RX7, "value", "(I)J"⟩
abbrev cX7_set : ByteArray := prog_9_method_41_code
def yX7_set : MethodName := ⟨RX7, "set", "(IJ)I"⟩
abbrev cX7_root : ByteArray := prog_9_method_42_code
def yX7_root : MethodName := ⟨RX7, "root", "(I)I"⟩
abbrev cX7_marksBelow : ByteArray := prog_9_method_43_code
def yX7_marksBelow : MethodName := ⟨RX7, "marksBelow", "(I)I"⟩
abbrev cX7_below : ByteArray := prog_9_method_44_code
def yX7_below : MethodName := ⟨RX7, "below", "(II)I"⟩
abbrev cX7_meet : ByteArray := prog_9_method_45_code
def yX7_meet : MethodName := ⟨RX7, "meet", "(II)I"⟩
abbrev cX7_sumBelow : ByteArray := prog_9_method_46_code
def yX7_sumBelow : MethodName := ⟨RX7, "sumBelow", "(I)J"⟩
abbrev cX7_addBelow : ByteArray := prog_9_method_47_code
def yX7_addBelow : MethodName := ⟨RX7, "addBelow", "(IJ)I"⟩
abbrev cX7_refused : ByteArray := prog_9_method_48_code
def yX7_refused : MethodName := ⟨RX7, "refused", "(I)I"⟩
abbrev cX7_done : ByteArray := prog_9_method_49_code
def yX7_done : MethodName := ⟨RX7, "done", "(I)I"⟩
abbrev cX7_put : ByteArray := prog_9_method_50_code
def yX7_put : MethodName := ⟨RX7, "put", "(IIII)I"⟩
abbrev cX7_forge : ByteArray := prog_9_method_51_code
def yX7_forge : MethodName := ⟨RX7, "forge", "(III)I"⟩
abbrev cX7_status : ByteArray := prog_9_method_52_code
def yX7_status : MethodName := ⟨RX7, "status", "()I"⟩
def RJ9 : String := "java/lang/Math"
def TJ9 : u_T := fun k => match k with
  | _ => ("", "", "", false)
def tyJ9 : Nat → FieldType := fun k => match k with
  | _ => .int
abbrev cJ9_min_7cf53 : ByteArray := prog_10_method_69_code
def yJ9_min_7cf53 : MethodName := ⟨RJ9, "min", "(II)I"⟩
abbrev cJ9_min_f86c9 : ByteArray := prog_10_method_70_code
def yJ9_min_f86c9 : MethodName := ⟨RJ9, "min", "(JJ)J"⟩
def RJ7 : String := "java/util/Arrays"
def TJ7 : u_T := fun k => match k with
  | _ => ("", "", "", false)
def tyJ7 : Nat → FieldType := fun k => match k with
  | _ => .int
abbrev cJ7_fill_53178 : ByteArray := prog_11_method_103_code
def yJ7_fill_53178 : MethodName := ⟨RJ7, "fill", "([II)V"⟩
def RL : String := "ForestKeeperLaw"
abbrev cL_law : ByteArray := code
def yL_law : MethodName := ⟨RL, "law", "([I)Z"⟩
end
section
theorem dX0_init_0 : decode cX0_init 0 = .ok (.aload_n 0, 1) := by decide +kernel
theorem dX0_init_1 : decode cX0_init 1 = .ok (.invokespecial 3, 3) := by decide +kernel
theorem dX0_init_4 : decode cX0_init 4 = .ok (.aload_n 0, 1) := by decide +kernel
theorem dX0_init_5 : decode cX0_init 5 = .ok (.sipush 300, 3) := by decide +kernel
theorem dX0_init_8 : decode cX0_init 8 = .ok (.newarray .int, 2) := by decide +kernel
theorem dX0_init_10 : decode cX0_init 10 = .ok (.putfield 9, 3) := by decide +kernel
theorem dX0_init_13 : decode cX0_init 13 = .ok (.aload_n 0, 1) := by decide +kernel
theorem dX0_init_14 : decode cX0_init 14 = .ok (.sipush 300, 3) := by decide +kernel
theorem dX0_init_17 : decode cX0_init 17 = .ok (.newarray .int, 2) := by decide +kernel
theorem dX0_init_19 : decode cX0_init 19 = .ok (.putfield 15, 3) := by decide +kernel
theorem dX0_init_22 : decode cX0_init 22 = .ok (.aload_n 0, 1) := by decide +kernel
theorem dX0_init_23 : decode cX0_init 23 = .ok (.sipush 300, 3) := by decide +kernel
theorem dX0_init_26 : decode cX0_init 26 = .ok (.newarray .long, 2) := by decide +kernel
theorem dX0_init_28 : decode cX0_init 28 = .ok (.putfield 18, 3) := by decide +kernel
theorem dX0_init_31 : decode cX0_init 31 = .ok (.aload_n 0, 1) := by decide +kernel
theorem dX0_init_32 : decode cX0_init 32 = .ok (.sipush 300, 3) := by decide +kernel
theorem dX0_init_35 : decode cX0_init 35 = .ok (.newarray .int, 2) := by decide +kernel
theorem dX0_init_37 : decode cX0_init 37 = .ok (.putfield 22, 3) := by decide +kernel
theorem dX0_init_40 : decode cX0_init 40 = .ok (.aload_n 0, 1) := by decide +kernel
theorem dX0_init_41 : decode cX0_init 41 = .ok (.sipush 300, 3) := by decide +kernel
theorem dX0_init_44 : decode cX0_init 44 = .ok (.newarray .int, 2) := by decide +kernel
theorem dX0_init_46 : decode cX0_init 46 = .ok (.putfield 25, 3) := by decide +kernel
theorem dX0_init_49 : decode cX0_init 49 = .ok (.aload_n 0, 1) := by decide +kernel
theorem dX0_init_50 : decode cX0_init 50 = .ok (.bipush 100, 2) := by decide +kernel
theorem dX0_init_52 : decode cX0_init 52 = .ok (.newarray .int, 2) := by decide +kernel
theorem dX0_init_54 : decode cX0_init 54 = .ok (.putfield 28, 3) := by decide +kernel
theorem dX0_init_57 : decode cX0_init 57 = .ok (.aload_n 0, 1) := by decide +kernel
theorem dX0_init_58 : decode cX0_init 58 = .ok (.sipush 600, 3) := by decide +kernel
theorem dX0_init_61 : decode cX0_init 61 = .ok (.newarray .int, 2) := by decide +kernel
theorem dX0_init_63 : decode cX0_init 63 = .ok (.putfield 31, 3) := by decide +kernel
theorem dX0_init_66 : decode cX0_init 66 = .ok (.aload_n 0, 1) := by decide +kernel
theorem dX0_init_67 : decode cX0_init 67 = .ok (.sipush 1500, 3) := by decide +kernel
theorem dX0_init_70 : decode cX0_init 70 = .ok (.newarray .int, 2) := by decide +kernel
theorem dX0_init_72 : decode cX0_init 72 = .ok (.putfield 34, 3) := by decide +kernel
theorem dX0_init_75 : decode cX0_init 75 = .ok (.aload_n 0, 1) := by decide +kernel
theorem dX0_init_76 : decode cX0_init 76 = .ok (.getfield 28, 3) := by decide +kernel
theorem dX0_init_79 : decode cX0_init 79 = .ok (.iconst (-1), 1) := by decide +kernel
theorem dX0_init_80 : decode cX0_init 80 = .ok (.invokestatic 37, 3) := by decide +kernel
theorem dX0_init_83 : decode cX0_init 83 = .ok (.return_, 1) := by decide +kernel
theorem dX0_hasCome_0 : decode cX0_hasCome 0 = .ok (.iload_n 1, 1) := by decide +kernel
theorem dX0_hasCome_1 : decode cX0_hasCome 1 = .ok (.ifCond .lt 15, 3) := by decide +kernel
theorem dX0_hasCome_4 : decode cX0_hasCome 4 = .ok (.iload_n 1, 1) := by decide +kernel
theorem dX0_hasCome_5 : decode cX0_hasCome 5 = .ok (.aload_n 0, 1) := by decide +kernel
theorem dX0_hasCome_6 : decode cX0_hasCome 6 = .ok (.getfield 43, 3) := by decide +kernel
theorem dX0_hasCome_9 : decode cX0_hasCome 9 = .ok (.if_icmp .ge 7, 3) := by decide +kernel
theorem dX0_hasCome_12 : decode cX0_hasCome 12 = .ok (.iconst 1, 1) := by decide +kernel
theorem dX0_hasCome_13 : decode cX0_hasCome 13 = .ok (.goto 4, 3) := by decide +kernel
theorem dX0_hasCome_16 : decode cX0_hasCome 16 = .ok (.iconst 0, 1) := by decide +kernel
theorem dX0_hasCome_17 : decode cX0_hasCome 17 = .ok (.ireturn, 1) := by decide +kernel
theorem dX0_isThere_0 : decode cX0_isThere 0 = .ok (.aload_n 0, 1) := by decide +kernel
theorem dX0_isThere_1 : decode cX0_isThere 1 = .ok (.iload_n 1, 1) := by decide +kernel
theorem dX0_isThere_2 : decode cX0_isThere 2 = .ok (.invokevirtual 47, 3) := by decide +kernel
theorem dX0_isThere_5 : decode cX0_isThere 5 = .ok (.ifCond .eq 16, 3) := by decide +kernel
theorem dX0_isThere_8 : decode cX0_isThere 8 = .ok (.aload_n 0, 1) := by decide +kernel
theorem dX0_isThere_9 : decode cX0_isThere 9 = .ok (.getfield 22, 3) := by decide +kernel
theorem dX0_isThere_12 : decode cX0_isThere 12 = .ok (.iload_n 1, 1) := by decide +kernel
theorem dX0_isThere_13 : decode cX0_isThere 13 = .ok (.iaload, 1) := by decide +kernel
theorem dX0_isThere_14 : decode cX0_isThere 14 = .ok (.ifCond .eq 7, 3) := by decide +kernel
theorem dX0_isThere_17 : decode cX0_isThere 17 = .ok (.iconst 1, 1) := by decide +kernel
theorem dX0_isThere_18 : decode cX0_isThere 18 = .ok (.goto 4, 3) := by decide +kernel
theorem dX0_isThere_21 : decode cX0_isThere 21 = .ok (.iconst 0, 1) := by decide +kernel
theorem dX0_isThere_22 : decode cX0_isThere 22 = .ok (.ireturn, 1) := by decide +kernel
theorem dX0_isAt_0 : decode cX0_isAt 0 = .ok (.aload_n 0, 1) := by decide +kernel
theorem dX0_isAt_1 : decode cX0_isAt 1 = .ok (.getfield 22, 3) := by decide +kernel
theorem dX0_isAt_4 : decode cX0_isAt 4 = .ok (.iload_n 1, 1) := by decide +kernel
theorem dX0_isAt_5 : decode cX0_isAt 5 = .ok (.iaload, 1) := by decide +kernel
theorem dX0_isAt_6 : decode cX0_isAt 6 = .ok (.iload_n 2, 1) := by decide +kernel
theorem dX0_isAt_7 : decode cX0_isAt 7 = .ok (.if_icmp .ne 17, 3) := by decide +kernel
theorem dX0_isAt_10 : decode cX0_isAt 10 = .ok (.aload_n 0, 1) := by decide +kernel
theorem dX0_isAt_11 : decode cX0_isAt 11 = .ok (.getfield 25, 3) := by decide +kernel
theorem dX0_isAt_14 : decode cX0_isAt 14 = .ok (.iload_n 1, 1) := by decide +kernel
theorem dX0_isAt_15 : decode cX0_isAt 15 = .ok (.iaload, 1) := by decide +kernel
theorem dX0_isAt_16 : decode cX0_isAt 16 = .ok (.iload_n 3, 1) := by decide +kernel
theorem dX0_isAt_17 : decode cX0_isAt 17 = .ok (.if_icmp .ne 7, 3) := by decide +kernel
theorem dX0_isAt_20 : decode cX0_isAt 20 = .ok (.iconst 1, 1) := by decide +kernel
theorem dX0_isAt_21 : decode cX0_isAt 21 = .ok (.goto 4, 3) := by decide +kernel
theorem dX0_isAt_24 : decode cX0_isAt 24 = .ok (.iconst 0, 1) := by decide +kernel
theorem dX0_isAt_25 : decode cX0_isAt 25 = .ok (.ireturn, 1) := by decide +kernel
theorem dX0_isHeavier_0 : decode cX0_isHeavier 0 = .ok (.aload_n 0, 1) := by decide +kernel
theorem dX0_isHeavier_1 : decode cX0_isHeavier 1 = .ok (.getfield 18, 3) := by decide +kernel
theorem dX0_isHeavier_4 : decode cX0_isHeavier 4 = .ok (.iload_n 1, 1) := by decide +kernel
theorem dX0_isHeavier_5 : decode cX0_isHeavier 5 = .ok (.laload, 1) := by decide +kernel
theorem dX0_isHeavier_6 : decode cX0_isHeavier 6 = .ok (.aload_n 0, 1) := by decide +kernel
theorem dX0_isHeavier_7 : decode cX0_isHeavier 7 = .ok (.getfield 18, 3) := by decide +kernel
theorem dX0_isHeavier_10 : decode cX0_isHeavier 10 = .ok (.iload_n 2, 1) := by decide +kernel
theorem dX0_isHeavier_11 : decode cX0_isHeavier 11 = .ok (.laload, 1) := by decide +kernel
theorem dX0_isHeavier_12 : decode cX0_isHeavier 12 = .ok (.lcmp, 1) := by decide +kernel
theorem dX0_isHeavier_13 : decode cX0_isHeavier 13 = .ok (.ifCond .eq 27, 3) := by decide +kernel
theorem dX0_isHeavier_16 : decode cX0_isHeavier 16 = .ok (.aload_n 0, 1) := by decide +kernel
theorem dX0_isHeavier_17 : decode cX0_isHeavier 17 = .ok (.getfield 18, 3) := by decide +kernel
theorem dX0_isHeavier_20 : decode cX0_isHeavier 20 = .ok (.iload_n 1, 1) := by decide +kernel
theorem dX0_isHeavier_21 : decode cX0_isHeavier 21 = .ok (.laload, 1) := by decide +kernel
theorem dX0_isHeavier_22 : decode cX0_isHeavier 22 = .ok (.aload_n 0, 1) := by decide +kernel
theorem dX0_isHeavier_23 : decode cX0_isHeavier 23 = .ok (.getfield 18, 3) := by decide +kernel
theorem dX0_isHeavier_26 : decode cX0_isHeavier 26 = .ok (.iload_n 2, 1) := by decide +kernel
theorem dX0_isHeavier_27 : decode cX0_isHeavier 27 = .ok (.laload, 1) := by decide +kernel
theorem dX0_isHeavier_28 : decode cX0_isHeavier 28 = .ok (.lcmp, 1) := by decide +kernel
theorem dX0_isHeavier_29 : decode cX0_isHeavier 29 = .ok (.ifCond .le 7, 3) := by decide +kernel
theorem dX0_isHeavier_32 : decode cX0_isHeavier 32 = .ok (.iconst 1, 1) := by decide +kernel
theorem dX0_isHeavier_33 : decode cX0_isHeavier 33 = .ok (.goto 17, 3) := by decide +kernel
theorem dX0_isHeavier_36 : decode cX0_isHeavier 36 = .ok (.iconst 0, 1) := by decide +kernel
theorem dX0_isHeavier_37 : decode cX0_isHeavier 37 = .ok (.goto 13, 3) := by decide +kernel
theorem dX0_isHeavier_40 : decode cX0_isHeavier 40 = .ok (.iload_n 1, 1) := by decide +kernel
theorem dX0_isHeavier_41 : decode cX0_isHeavier 41 = .ok (.iload_n 2, 1) := by decide +kernel
theorem dX0_isHeavier_42 : decode cX0_isHeavier 42 = .ok (.if_icmp .le 7, 3) := by decide +kernel
theorem dX0_isHeavier_45 : decode cX0_isHeavier 45 = .ok (.iconst 1, 1) := by decide +kernel
theorem dX0_isHeavier_46 : decode cX0_isHeavier 46 = .ok (.goto 4, 3) := by decide +kernel
theorem dX0_isHeavier_49 : decode cX0_isHeavier 49 = .ok (.iconst 0, 1) := by decide +kernel
theorem dX0_isHeavier_50 : decode cX0_isHeavier 50 = .ok (.ireturn, 1) := by decide +kernel
theorem dX0_across_0 : decode cX0_across 0 = .ok (.aload_n 0, 1) := by decide +kernel
theorem dX0_across_1 : decode cX0_across 1 = .ok (.getfield 9, 3) := by decide +kernel
theorem dX0_across_4 : decode cX0_across 4 = .ok (.iload_n 1, 1) := by decide +kernel
theorem dX0_across_5 : decode cX0_across 5 = .ok (.iaload, 1) := by decide +kernel
theorem dX0_across_6 : decode cX0_across 6 = .ok (.iload_n 2, 1) := by decide +kernel
theorem dX0_across_7 : decode cX0_across 7 = .ok (.if_icmp .ne 12, 3) := by decide +kernel
theorem dX0_across_10 : decode cX0_across 10 = .ok (.aload_n 0, 1) := by decide +kernel
theorem dX0_across_11 : decode cX0_across 11 = .ok (.getfield 15, 3) := by decide +kernel
theorem dX0_across_14 : decode cX0_across 14 = .ok (.iload_n 1, 1) := by decide +kernel
theorem dX0_across_15 : decode cX0_across 15 = .ok (.iaload, 1) := by decide +kernel
theorem dX0_across_16 : decode cX0_across 16 = .ok (.goto 9, 3) := by decide +kernel
theorem dX0_across_19 : decode cX0_across 19 = .ok (.aload_n 0, 1) := by decide +kernel
theorem dX0_across_20 : decode cX0_across 20 = .ok (.getfield 9, 3) := by decide +kernel
theorem dX0_across_23 : decode cX0_across 23 = .ok (.iload_n 1, 1) := by decide +kernel
theorem dX0_across_24 : decode cX0_across 24 = .ok (.iaload, 1) := by decide +kernel
theorem dX0_across_25 : decode cX0_across 25 = .ok (.ireturn, 1) := by decide +kernel
theorem dX0_howMany_0 : decode cX0_howMany 0 = .ok (.iconst 0, 1) := by decide +kernel
theorem dX0_howMany_1 : decode cX0_howMany 1 = .ok (.istore_n 2, 1) := by decide +kernel
theorem dX0_howMany_2 : decode cX0_howMany 2 = .ok (.iconst 0, 1) := by decide +kernel
theorem dX0_howMany_3 : decode cX0_howMany 3 = .ok (.istore_n 3, 1) := by decide +kernel
theorem dX0_howMany_4 : decode cX0_howMany 4 = .ok (.iload_n 3, 1) := by decide +kernel
theorem dX0_howMany_5 : decode cX0_howMany 5 = .ok (.aload_n 0, 1) := by decide +kernel
theorem dX0_howMany_6 : decode cX0_howMany 6 = .ok (.getfield 43, 3) := by decide +kernel
theorem dX0_howMany_9 : decode cX0_howMany 9 = .ok (.if_icmp .ge 22, 3) := by decide +kernel
theorem dX0_howMany_12 : decode cX0_howMany 12 = .ok (.aload_n 0, 1) := by decide +kernel
theorem dX0_howMany_13 : decode cX0_howMany 13 = .ok (.getfield 22, 3) := by decide +kernel
theorem dX0_howMany_16 : decode cX0_howMany 16 = .ok (.iload_n 3, 1) := by decide +kernel
theorem dX0_howMany_17 : decode cX0_howMany 17 = .ok (.iaload, 1) := by decide +kernel
theorem dX0_howMany_18 : decode cX0_howMany 18 = .ok (.iload_n 1, 1) := by decide +kernel
theorem dX0_howMany_19 : decode cX0_howMany 19 = .ok (.if_icmp .ne 6, 3) := by decide +kernel
theorem dX0_howMany_22 : decode cX0_howMany 22 = .ok (.iinc 2 1, 3) := by decide +kernel
theorem dX0_howMany_25 : decode cX0_howMany 25 = .ok (.iinc 3 1, 3) := by decide +kernel
theorem dX0_howMany_28 : decode cX0_howMany 28 = .ok (.goto (-24), 3) := by decide +kernel
theorem dX0_howMany_31 : decode cX0_howMany 31 = .ok (.iload_n 2, 1) := by decide +kernel
theorem dX0_howMany_32 : decode cX0_howMany 32 = .ok (.ireturn, 1) := by decide +kernel
theorem dX0_append_0 : decode cX0_append 0 = .ok (.aload_n 0, 1) := by decide +kernel
theorem dX0_append_1 : decode cX0_append 1 = .ok (.getfield 43, 3) := by decide +kernel
theorem dX0_append_4 : decode cX0_append 4 = .ok (.istore 6, 2) := by decide +kernel
theorem dX0_append_6 : decode cX0_append 6 = .ok (.aload_n 0, 1) := by decide +kernel
theorem dX0_append_7 : decode cX0_append 7 = .ok (.getfield 9, 3) := by decide +kernel
theorem dX0_append_10 : decode cX0_append 10 = .ok (.iload 6, 2) := by decide +kernel
theorem dX0_append_12 : decode cX0_append 12 = .ok (.iload_n 1, 1) := by decide +kernel
theorem dX0_append_13 : decode cX0_append 13 = .ok (.iastore, 1) := by decide +kernel
theorem dX0_append_14 : decode cX0_append 14 = .ok (.aload_n 0, 1) := by decide +kernel
theorem dX0_append_15 : decode cX0_append 15 = .ok (.getfield 15, 3) := by decide +kernel
theorem dX0_append_18 : decode cX0_append 18 = .ok (.iload 6, 2) := by decide +kernel
theorem dX0_append_20 : decode cX0_append 20 = .ok (.iload_n 2, 1) := by decide +kernel
theorem dX0_append_21 : decode cX0_append 21 = .ok (.iastore, 1) := by decide +kernel
theorem dX0_append_22 : decode cX0_append 22 = .ok (.aload_n 0, 1) := by decide +kernel
theorem dX0_append_23 : decode cX0_append 23 = .ok (.getfield 18, 3) := by decide +kernel
theorem dX0_append_26 : decode cX0_append 26 = .ok (.iload 6, 2) := by decide +kernel
theorem dX0_append_28 : decode cX0_append 28 = .ok (.lload_n 3, 1) := by decide +kernel
theorem dX0_append_29 : decode cX0_append 29 = .ok (.lastore, 1) := by decide +kernel
theorem dX0_append_30 : decode cX0_append 30 = .ok (.aload_n 0, 1) := by decide +kernel
theorem dX0_append_31 : decode cX0_append 31 = .ok (.getfield 22, 3) := by decide +kernel
theorem dX0_append_34 : decode cX0_append 34 = .ok (.iload 6, 2) := by decide +kernel
theorem dX0_append_36 : decode cX0_append 36 = .ok (.iload 5, 2) := by decide +kernel
theorem dX0_append_38 : decode cX0_append 38 = .ok (.iastore, 1) := by decide +kernel
theorem dX0_append_39 : decode cX0_append 39 = .ok (.aload_n 0, 1) := by decide +kernel
theorem dX0_append_40 : decode cX0_append 40 = .ok (.getfield 25, 3) := by decide +kernel
theorem dX0_append_43 : decode cX0_append 43 = .ok (.iload 6, 2) := by decide +kernel
theorem dX0_append_45 : decode cX0_append 45 = .ok (.iconst 0, 1) := by decide +kernel
theorem dX0_append_46 : decode cX0_append 46 = .ok (.iastore, 1) := by decide +kernel
theorem dX0_append_47 : decode cX0_append 47 = .ok (.aload_n 0, 1) := by decide +kernel
theorem dX0_append_48 : decode cX0_append 48 = .ok (.iconst 2, 1) := by decide +kernel
theorem dX0_append_49 : decode cX0_append 49 = .ok (.iload 6, 2) := by decide +kernel
theorem dX0_append_51 : decode cX0_append 51 = .ok (.imul, 1) := by decide +kernel
theorem dX0_append_52 : decode cX0_append 52 = .ok (.iload_n 1, 1) := by decide +kernel
theorem dX0_append_53 : decode cX0_append 53 = .ok (.invokevirtual 51, 3) := by decide +kernel
theorem dX0_append_56 : decode cX0_append 56 = .ok (.aload_n 0, 1) := by decide +kernel
theorem dX0_append_57 : decode cX0_append 57 = .ok (.iconst 2, 1) := by decide +kernel
theorem dX0_append_58 : decode cX0_append 58 = .ok (.iload 6, 2) := by decide +kernel
theorem dX0_append_60 : decode cX0_append 60 = .ok (.imul, 1) := by decide +kernel
theorem dX0_append_61 : decode cX0_append 61 = .ok (.iconst 1, 1) := by decide +kernel
theorem dX0_append_62 : decode cX0_append 62 = .ok (.iadd, 1) := by decide +kernel
theorem dX0_append_63 : decode cX0_append 63 = .ok (.iload_n 2, 1) := by decide +kernel
theorem dX0_append_64 : decode cX0_append 64 = .ok (.invokevirtual 51, 3) := by decide +kernel
theorem dX0_append_67 : decode cX0_append 67 = .ok (.aload_n 0, 1) := by decide +kernel
theorem dX0_append_68 : decode cX0_append 68 = .ok (.dup, 1) := by decide +kernel
theorem dX0_append_69 : decode cX0_append 69 = .ok (.getfield 43, 3) := by decide +kernel
theorem dX0_append_72 : decode cX0_append 72 = .ok (.iconst 1, 1) := by decide +kernel
theorem dX0_append_73 : decode cX0_append 73 = .ok (.iadd, 1) := by decide +kernel
theorem dX0_append_74 : decode cX0_append 74 = .ok (.putfield 43, 3) := by decide +kernel
theorem dX0_append_77 : decode cX0_append 77 = .ok (.iload 6, 2) := by decide +kernel
theorem dX0_append_79 : decode cX0_append 79 = .ok (.ireturn, 1) := by decide +kernel
theorem dX0_chain_0 : decode cX0_chain 0 = .ok (.aload_n 0, 1) := by decide +kernel
theorem dX0_chain_1 : decode cX0_chain 1 = .ok (.getfield 31, 3) := by decide +kernel
theorem dX0_chain_4 : decode cX0_chain 4 = .ok (.iload_n 1, 1) := by decide +kernel
theorem dX0_chain_5 : decode cX0_chain 5 = .ok (.aload_n 0, 1) := by decide +kernel
theorem dX0_chain_6 : decode cX0_chain 6 = .ok (.getfield 28, 3) := by decide +kernel
theorem dX0_chain_9 : decode cX0_chain 9 = .ok (.iload_n 2, 1) := by decide +kernel
theorem dX0_chain_10 : decode cX0_chain 10 = .ok (.iaload, 1) := by decide +kernel
theorem dX0_chain_11 : decode cX0_chain 11 = .ok (.iastore, 1) := by decide +kernel
theorem dX0_chain_12 : decode cX0_chain 12 = .ok (.aload_n 0, 1) := by decide +kernel
theorem dX0_chain_13 : decode cX0_chain 13 = .ok (.getfield 28, 3) := by decide +kernel
theorem dX0_chain_16 : decode cX0_chain 16 = .ok (.iload_n 2, 1) := by decide +kernel
theorem dX0_chain_17 : decode cX0_chain 17 = .ok (.iload_n 1, 1) := by decide +kernel
theorem dX0_chain_18 : decode cX0_chain 18 = .ok (.iastore, 1) := by decide +kernel
theorem dX0_chain_19 : decode cX0_chain 19 = .ok (.return_, 1) := by decide +kernel
theorem dX0_dropLatest_0 : decode cX0_dropLatest 0 = .ok (.aload_n 0, 1) := by decide +kernel
theorem dX0_dropLatest_1 : decode cX0_dropLatest 1 = .ok (.getfield 43, 3) := by decide +kernel
theorem dX0_dropLatest_4 : decode cX0_dropLatest 4 = .ok (.ifCond .ne 4, 3) := by decide +kernel
theorem dX0_dropLatest_7 : decode cX0_dropLatest 7 = .ok (.return_, 1) := by decide +kernel
theorem dX0_dropLatest_8 : decode cX0_dropLatest 8 = .ok (.aload_n 0, 1) := by decide +kernel
theorem dX0_dropLatest_9 : decode cX0_dropLatest 9 = .ok (.dup, 1) := by decide +kernel
theorem dX0_dropLatest_10 : decode cX0_dropLatest 10 = .ok (.getfield 43, 3) := by decide +kernel
theorem dX0_dropLatest_13 : decode cX0_dropLatest 13 = .ok (.iconst 1, 1) := by decide +kernel
theorem dX0_dropLatest_14 : decode cX0_dropLatest 14 = .ok (.isub, 1) := by decide +kernel
theorem dX0_dropLatest_15 : decode cX0_dropLatest 15 = .ok (.putfield 43, 3) := by decide +kernel
theorem dX0_dropLatest_18 : decode cX0_dropLatest 18 = .ok (.aload_n 0, 1) := by decide +kernel
theorem dX0_dropLatest_19 : decode cX0_dropLatest 19 = .ok (.getfield 28, 3) := by decide +kernel
theorem dX0_dropLatest_22 : decode cX0_dropLatest 22 = .ok (.aload_n 0, 1) := by decide +kernel
theorem dX0_dropLatest_23 : decode cX0_dropLatest 23 = .ok (.getfield 9, 3) := by decide +kernel
theorem dX0_dropLatest_26 : decode cX0_dropLatest 26 = .ok (.aload_n 0, 1) := by decide +kernel
theorem dX0_dropLatest_27 : decode cX0_dropLatest 27 = .ok (.getfield 43, 3) := by decide +kernel
theorem dX0_dropLatest_30 : decode cX0_dropLatest 30 = .ok (.iaload, 1) := by decide +kernel
theorem dX0_dropLatest_31 : decode cX0_dropLatest 31 = .ok (.aload_n 0, 1) := by decide +kernel
theorem dX0_dropLatest_32 : decode cX0_dropLatest 32 = .ok (.getfield 31, 3) := by decide +kernel
theorem dX0_dropLatest_35 : decode cX0_dropLatest 35 = .ok (.iconst 2, 1) := by decide +kernel
theorem dX0_dropLatest_36 : decode cX0_dropLatest 36 = .ok (.aload_n 0, 1) := by decide +kernel
theorem dX0_dropLatest_37 : decode cX0_dropLatest 37 = .ok (.getfield 43, 3) := by decide +kernel
theorem dX0_dropLatest_40 : decode cX0_dropLatest 40 = .ok (.imul, 1) := by decide +kernel
theorem dX0_dropLatest_41 : decode cX0_dropLatest 41 = .ok (.iaload, 1) := by decide +kernel
theorem dX0_dropLatest_42 : decode cX0_dropLatest 42 = .ok (.iastore, 1) := by decide +kernel
theorem dX0_dropLatest_43 : decode cX0_dropLatest 43 = .ok (.aload_n 0, 1) := by decide +kernel
theorem dX0_dropLatest_44 : decode cX0_dropLatest 44 = .ok (.getfield 28, 3) := by decide +kernel
theorem dX0_dropLatest_47 : decode cX0_dropLatest 47 = .ok (.aload_n 0, 1) := by decide +kernel
theorem dX0_dropLatest_48 : decode cX0_dropLatest 48 = .ok (.getfield 15, 3) := by decide +kernel
theorem dX0_dropLatest_51 : decode cX0_dropLatest 51 = .ok (.aload_n 0, 1) := by decide +kernel
theorem dX0_dropLatest_52 : decode cX0_dropLatest 52 = .ok (.getfield 43, 3) := by decide +kernel
theorem dX0_dropLatest_55 : decode cX0_dropLatest 55 = .ok (.iaload, 1) := by decide +kernel
theorem dX0_dropLatest_56 : decode cX0_dropLatest 56 = .ok (.aload_n 0, 1) := by decide +kernel
theorem dX0_dropLatest_57 : decode cX0_dropLatest 57 = .ok (.getfield 31, 3) := by decide +kernel
theorem dX0_dropLatest_60 : decode cX0_dropLatest 60 = .ok (.iconst 2, 1) := by decide +kernel
theorem dX0_dropLatest_61 : decode cX0_dropLatest 61 = .ok (.aload_n 0, 1) := by decide +kernel
theorem dX0_dropLatest_62 : decode cX0_dropLatest 62 = .ok (.getfield 43, 3) := by decide +kernel
theorem dX0_dropLatest_65 : decode cX0_dropLatest 65 = .ok (.imul, 1) := by decide +kernel
theorem dX0_dropLatest_66 : decode cX0_dropLatest 66 = .ok (.iconst 1, 1) := by decide +kernel
theorem dX0_dropLatest_67 : decode cX0_dropLatest 67 = .ok (.iadd, 1) := by decide +kernel
theorem dX0_dropLatest_68 : decode cX0_dropLatest 68 = .ok (.iaload, 1) := by decide +kernel
theorem dX0_dropLatest_69 : decode cX0_dropLatest 69 = .ok (.iastore, 1) := by decide +kernel
theorem dX0_dropLatest_70 : decode cX0_dropLatest 70 = .ok (.return_, 1) := by decide +kernel
theorem dX0_raise_0 : decode cX0_raise 0 = .ok (.aload_n 0, 1) := by decide +kernel
theorem dX0_raise_1 : decode cX0_raise 1 = .ok (.getfield 55, 3) := by decide +kernel
theorem dX0_raise_4 : decode cX0_raise 4 = .ok (.aload_n 0, 1) := by decide +kernel
theorem dX0_raise_5 : decode cX0_raise 5 = .ok (.getfield 34, 3) := by decide +kernel
theorem dX0_raise_8 : decode cX0_raise 8 = .ok (.arraylength, 1) := by decide +kernel
theorem dX0_raise_9 : decode cX0_raise 9 = .ok (.if_icmp .ge 33, 3) := by decide +kernel
theorem dX0_raise_12 : decode cX0_raise 12 = .ok (.aload_n 0, 1) := by decide +kernel
theorem dX0_raise_13 : decode cX0_raise 13 = .ok (.getfield 34, 3) := by decide +kernel
theorem dX0_raise_16 : decode cX0_raise 16 = .ok (.aload_n 0, 1) := by decide +kernel
theorem dX0_raise_17 : decode cX0_raise 17 = .ok (.getfield 55, 3) := by decide +kernel
theorem dX0_raise_20 : decode cX0_raise 20 = .ok (.iload_n 1, 1) := by decide +kernel
theorem dX0_raise_21 : decode cX0_raise 21 = .ok (.iastore, 1) := by decide +kernel
theorem dX0_raise_22 : decode cX0_raise 22 = .ok (.aload_n 0, 1) := by decide +kernel
theorem dX0_raise_23 : decode cX0_raise 23 = .ok (.dup, 1) := by decide +kernel
theorem dX0_raise_24 : decode cX0_raise 24 = .ok (.getfield 55, 3) := by decide +kernel
theorem dX0_raise_27 : decode cX0_raise 27 = .ok (.iconst 1, 1) := by decide +kernel
theorem dX0_raise_28 : decode cX0_raise 28 = .ok (.iadd, 1) := by decide +kernel
theorem dX0_raise_29 : decode cX0_raise 29 = .ok (.putfield 55, 3) := by decide +kernel
theorem dX0_raise_32 : decode cX0_raise 32 = .ok (.aload_n 0, 1) := by decide +kernel
theorem dX0_raise_33 : decode cX0_raise 33 = .ok (.getfield 25, 3) := by decide +kernel
theorem dX0_raise_36 : decode cX0_raise 36 = .ok (.iload_n 1, 1) := by decide +kernel
theorem dX0_raise_37 : decode cX0_raise 37 = .ok (.dup2, 1) := by decide +kernel
theorem dX0_raise_38 : decode cX0_raise 38 = .ok (.iaload, 1) := by decide +kernel
theorem dX0_raise_39 : decode cX0_raise 39 = .ok (.iconst 1, 1) := by decide +kernel
theorem dX0_raise_40 : decode cX0_raise 40 = .ok (.iadd, 1) := by decide +kernel
theorem dX0_raise_41 : decode cX0_raise 41 = .ok (.iastore, 1) := by decide +kernel
theorem dX0_raise_42 : decode cX0_raise 42 = .ok (.return_, 1) := by decide +kernel
theorem dX0_lowerTo_0 : decode cX0_lowerTo 0 = .ok (.aload_n 0, 1) := by decide +kernel
theorem dX0_lowerTo_1 : decode cX0_lowerTo 1 = .ok (.getfield 55, 3) := by decide +kernel
theorem dX0_lowerTo_4 : decode cX0_lowerTo 4 = .ok (.iconst 1, 1) := by decide +kernel
theorem dX0_lowerTo_5 : decode cX0_lowerTo 5 = .ok (.isub, 1) := by decide +kernel
theorem dX0_lowerTo_6 : decode cX0_lowerTo 6 = .ok (.istore_n 2, 1) := by decide +kernel
theorem dX0_lowerTo_7 : decode cX0_lowerTo 7 = .ok (.iload_n 2, 1) := by decide +kernel
theorem dX0_lowerTo_8 : decode cX0_lowerTo 8 = .ok (.iload_n 1, 1) := by decide +kernel
theorem dX0_lowerTo_9 : decode cX0_lowerTo 9 = .ok (.if_icmp .lt 33, 3) := by decide +kernel
theorem dX0_lowerTo_12 : decode cX0_lowerTo 12 = .ok (.iload_n 2, 1) := by decide +kernel
theorem dX0_lowerTo_13 : decode cX0_lowerTo 13 = .ok (.ifCond .lt 29, 3) := by decide +kernel
theorem dX0_lowerTo_16 : decode cX0_lowerTo 16 = .ok (.aload_n 0, 1) := by decide +kernel
theorem dX0_lowerTo_17 : decode cX0_lowerTo 17 = .ok (.getfield 25, 3) := by decide +kernel
theorem dX0_lowerTo_20 : decode cX0_lowerTo 20 = .ok (.aload_n 0, 1) := by decide +kernel
theorem dX0_lowerTo_21 : decode cX0_lowerTo 21 = .ok (.getfield 34, 3) := by decide +kernel
theorem dX0_lowerTo_24 : decode cX0_lowerTo 24 = .ok (.iload_n 2, 1) := by decide +kernel
theorem dX0_lowerTo_25 : decode cX0_lowerTo 25 = .ok (.iaload, 1) := by decide +kernel
theorem dX0_lowerTo_26 : decode cX0_lowerTo 26 = .ok (.dup2, 1) := by decide +kernel
theorem dX0_lowerTo_27 : decode cX0_lowerTo 27 = .ok (.iaload, 1) := by decide +kernel
theorem dX0_lowerTo_28 : decode cX0_lowerTo 28 = .ok (.iconst 1, 1) := by decide +kernel
theorem dX0_lowerTo_29 : decode cX0_lowerTo 29 = .ok (.isub, 1) := by decide +kernel
theorem dX0_lowerTo_30 : decode cX0_lowerTo 30 = .ok (.iastore, 1) := by decide +kernel
theorem dX0_lowerTo_31 : decode cX0_lowerTo 31 = .ok (.aload_n 0, 1) := by decide +kernel
theorem dX0_lowerTo_32 : decode cX0_lowerTo 32 = .ok (.iload_n 2, 1) := by decide +kernel
theorem dX0_lowerTo_33 : decode cX0_lowerTo 33 = .ok (.putfield 55, 3) := by decide +kernel
theorem dX0_lowerTo_36 : decode cX0_lowerTo 36 = .ok (.iinc 2 (-1), 3) := by decide +kernel
theorem dX0_lowerTo_39 : decode cX0_lowerTo 39 = .ok (.goto (-32), 3) := by decide +kernel
theorem dX0_lowerTo_42 : decode cX0_lowerTo 42 = .ok (.return_, 1) := by decide +kernel
theorem dX1_init_0 : decode cX1_init 0 = .ok (.aload_n 0, 1) := by decide +kernel
theorem dX1_init_1 : decode cX1_init 1 = .ok (.invokespecial 3, 3) := by decide +kernel
theorem dX1_init_4 : decode cX1_init 4 = .ok (.aload_n 0, 1) := by decide +kernel
theorem dX1_init_5 : decode cX1_init 5 = .ok (.bipush 100, 2) := by decide +kernel
theorem dX1_init_7 : decode cX1_init 7 = .ok (.newarray .int, 2) := by decide +kernel
theorem dX1_init_9 : decode cX1_init 9 = .ok (.putfield 9, 3) := by decide +kernel
theorem dX1_init_12 : decode cX1_init 12 = .ok (.aload_n 0, 1) := by decide +kernel
theorem dX1_init_13 : decode cX1_init 13 = .ok (.bipush 100, 2) := by decide +kernel
theorem dX1_init_15 : decode cX1_init 15 = .ok (.newarray .int, 2) := by decide +kernel
theorem dX1_init_17 : decode cX1_init 17 = .ok (.putfield 15, 3) := by decide +kernel
theorem dX1_init_20 : decode cX1_init 20 = .ok (.aload_n 0, 1) := by decide +kernel
theorem dX1_init_21 : decode cX1_init 21 = .ok (.bipush 100, 2) := by decide +kernel
theorem dX1_init_23 : decode cX1_init 23 = .ok (.newarray .int, 2) := by decide +kernel
theorem dX1_init_25 : decode cX1_init 25 = .ok (.putfield 18, 3) := by decide +kernel
theorem dX1_init_28 : decode cX1_init 28 = .ok (.aload_n 0, 1) := by decide +kernel
theorem dX1_init_29 : decode cX1_init 29 = .ok (.bipush 100, 2) := by decide +kernel
theorem dX1_init_31 : decode cX1_init 31 = .ok (.newarray .boolean, 2) := by decide +kernel
theorem dX1_init_33 : decode cX1_init 33 = .ok (.putfield 21, 3) := by decide +kernel
theorem dX1_init_36 : decode cX1_init 36 = .ok (.return_, 1) := by decide +kernel
theorem dX1_spread_0 : decode cX1_spread 0 = .ok (.aload_n 0, 1) := by decide +kernel
theorem dX1_spread_1 : decode cX1_spread 1 = .ok (.invokevirtual 25, 3) := by decide +kernel
theorem dX1_spread_4 : decode cX1_spread 4 = .ok (.aload_n 0, 1) := by decide +kernel
theorem dX1_spread_5 : decode cX1_spread 5 = .ok (.iload_n 2, 1) := by decide +kernel
theorem dX1_spread_6 : decode cX1_spread 6 = .ok (.iconst (-1), 1) := by decide +kernel
theorem dX1_spread_7 : decode cX1_spread 7 = .ok (.iconst 0, 1) := by decide +kernel
theorem dX1_spread_8 : decode cX1_spread 8 = .ok (.invokevirtual 28, 3) := by decide +kernel
theorem dX1_spread_11 : decode cX1_spread 11 = .ok (.iconst 0, 1) := by decide +kernel
theorem dX1_spread_12 : decode cX1_spread 12 = .ok (.istore 5, 2) := by decide +kernel
theorem dX1_spread_14 : decode cX1_spread 14 = .ok (.iload 5, 2) := by decide +kernel
theorem dX1_spread_16 : decode cX1_spread 16 = .ok (.aload_n 0, 1) := by decide +kernel
theorem dX1_spread_17 : decode cX1_spread 17 = .ok (.getfield 32, 3) := by decide +kernel
theorem dX1_spread_20 : decode cX1_spread 20 = .ok (.if_icmp .ge 31, 3) := by decide +kernel
theorem dX1_spread_23 : decode cX1_spread 23 = .ok (.iload 5, 2) := by decide +kernel
theorem dX1_spread_25 : decode cX1_spread 25 = .ok (.bipush 100, 2) := by decide +kernel
theorem dX1_spread_27 : decode cX1_spread 27 = .ok (.if_icmp .ge 24, 3) := by decide +kernel
theorem dX1_spread_30 : decode cX1_spread 30 = .ok (.aload_n 0, 1) := by decide +kernel
theorem dX1_spread_31 : decode cX1_spread 31 = .ok (.aload_n 1, 1) := by decide +kernel
theorem dX1_spread_32 : decode cX1_spread 32 = .ok (.aload_n 0, 1) := by decide +kernel
theorem dX1_spread_33 : decode cX1_spread 33 = .ok (.getfield 9, 3) := by decide +kernel
theorem dX1_spread_36 : decode cX1_spread 36 = .ok (.iload 5, 2) := by decide +kernel
theorem dX1_spread_38 : decode cX1_spread 38 = .ok (.iaload, 1) := by decide +kernel
theorem dX1_spread_39 : decode cX1_spread 39 = .ok (.iload_n 3, 1) := by decide +kernel
theorem dX1_spread_40 : decode cX1_spread 40 = .ok (.iload 4, 2) := by decide +kernel
theorem dX1_spread_42 : decode cX1_spread 42 = .ok (.invokevirtual 36, 3) := by decide +kernel
theorem dX1_spread_45 : decode cX1_spread 45 = .ok (.iinc 5 1, 3) := by decide +kernel
theorem dX1_spread_48 : decode cX1_spread 48 = .ok (.goto (-34), 3) := by decide +kernel
theorem dX1_spread_51 : decode cX1_spread 51 = .ok (.return_, 1) := by decide +kernel
theorem dX1_clear_0 : decode cX1_clear 0 = .ok (.iconst 0, 1) := by decide +kernel
theorem dX1_clear_1 : decode cX1_clear 1 = .ok (.istore_n 1, 1) := by decide +kernel
theorem dX1_clear_2 : decode cX1_clear 2 = .ok (.iload_n 1, 1) := by decide +kernel
theorem dX1_clear_3 : decode cX1_clear 3 = .ok (.aload_n 0, 1) := by decide +kernel
theorem dX1_clear_4 : decode cX1_clear 4 = .ok (.getfield 32, 3) := by decide +kernel
theorem dX1_clear_7 : decode cX1_clear 7 = .ok (.if_icmp .ge 21, 3) := by decide +kernel
theorem dX1_clear_10 : decode cX1_clear 10 = .ok (.aload_n 0, 1) := by decide +kernel
theorem dX1_clear_11 : decode cX1_clear 11 = .ok (.getfield 21, 3) := by decide +kernel
theorem dX1_clear_14 : decode cX1_clear 14 = .ok (.aload_n 0, 1) := by decide +kernel
theorem dX1_clear_15 : decode cX1_clear 15 = .ok (.getfield 9, 3) := by decide +kernel
theorem dX1_clear_18 : decode cX1_clear 18 = .ok (.iload_n 1, 1) := by decide +kernel
theorem dX1_clear_19 : decode cX1_clear 19 = .ok (.iaload, 1) := by decide +kernel
theorem dX1_clear_20 : decode cX1_clear 20 = .ok (.iconst 0, 1) := by decide +kernel
theorem dX1_clear_21 : decode cX1_clear 21 = .ok (.bastore, 1) := by decide +kernel
theorem dX1_clear_22 : decode cX1_clear 22 = .ok (.iinc 1 1, 3) := by decide +kernel
theorem dX1_clear_25 : decode cX1_clear 25 = .ok (.goto (-23), 3) := by decide +kernel
theorem dX1_clear_28 : decode cX1_clear 28 = .ok (.aload_n 0, 1) := by decide +kernel
theorem dX1_clear_29 : decode cX1_clear 29 = .ok (.iconst 0, 1) := by decide +kernel
theorem dX1_clear_30 : decode cX1_clear 30 = .ok (.putfield 32, 3) := by decide +kernel
theorem dX1_clear_33 : decode cX1_clear 33 = .ok (.return_, 1) := by decide +kernel
theorem dX1_reach_0 : decode cX1_reach 0 = .ok (.aload_n 0, 1) := by decide +kernel
theorem dX1_reach_1 : decode cX1_reach 1 = .ok (.getfield 21, 3) := by decide +kernel
theorem dX1_reach_4 : decode cX1_reach 4 = .ok (.iload_n 1, 1) := by decide +kernel
theorem dX1_reach_5 : decode cX1_reach 5 = .ok (.iconst 1, 1) := by decide +kernel
theorem dX1_reach_6 : decode cX1_reach 6 = .ok (.bastore, 1) := by decide +kernel
theorem dX1_reach_7 : decode cX1_reach 7 = .ok (.aload_n 0, 1) := by decide +kernel
theorem dX1_reach_8 : decode cX1_reach 8 = .ok (.getfield 18, 3) := by decide +kernel
theorem dX1_reach_11 : decode cX1_reach 11 = .ok (.iload_n 1, 1) := by decide +kernel
theorem dX1_reach_12 : decode cX1_reach 12 = .ok (.iload_n 2, 1) := by decide +kernel
theorem dX1_reach_13 : decode cX1_reach 13 = .ok (.iastore, 1) := by decide +kernel
theorem dX1_reach_14 : decode cX1_reach 14 = .ok (.aload_n 0, 1) := by decide +kernel
theorem dX1_reach_15 : decode cX1_reach 15 = .ok (.getfield 15, 3) := by decide +kernel
theorem dX1_reach_18 : decode cX1_reach 18 = .ok (.iload_n 1, 1) := by decide +kernel
theorem dX1_reach_19 : decode cX1_reach 19 = .ok (.iload_n 3, 1) := by decide +kernel
theorem dX1_reach_20 : decode cX1_reach 20 = .ok (.iastore, 1) := by decide +kernel
theorem dX1_reach_21 : decode cX1_reach 21 = .ok (.aload_n 0, 1) := by decide +kernel
theorem dX1_reach_22 : decode cX1_reach 22 = .ok (.getfield 9, 3) := by decide +kernel
theorem dX1_reach_25 : decode cX1_reach 25 = .ok (.aload_n 0, 1) := by decide +kernel
theorem dX1_reach_26 : decode cX1_reach 26 = .ok (.getfield 32, 3) := by decide +kernel
theorem dX1_reach_29 : decode cX1_reach 29 = .ok (.iload_n 1, 1) := by decide +kernel
theorem dX1_reach_30 : decode cX1_reach 30 = .ok (.iastore, 1) := by decide +kernel
theorem dX1_reach_31 : decode cX1_reach 31 = .ok (.aload_n 0, 1) := by decide +kernel
theorem dX1_reach_32 : decode cX1_reach 32 = .ok (.dup, 1) := by decide +kernel
theorem dX1_reach_33 : decode cX1_reach 33 = .ok (.getfield 32, 3) := by decide +kernel
theorem dX1_reach_36 : decode cX1_reach 36 = .ok (.iconst 1, 1) := by decide +kernel
theorem dX1_reach_37 : decode cX1_reach 37 = .ok (.iadd, 1) := by decide +kernel
theorem dX1_reach_38 : decode cX1_reach 38 = .ok (.putfield 32, 3) := by decide +kernel
theorem dX1_reach_41 : decode cX1_reach 41 = .ok (.return_, 1) := by decide +kernel
theorem dX1_spreadFrom_0 : decode cX1_spreadFrom 0 = .ok (.aload_n 1, 1) := by decide +kernel
theorem dX1_spreadFrom_1 : decode cX1_spreadFrom 1 = .ok (.getfield 40, 3) := by decide +kernel
theorem dX1_spreadFrom_4 : decode cX1_spreadFrom 4 = .ok (.iload_n 2, 1) := by decide +kernel
theorem dX1_spreadFrom_5 : decode cX1_spreadFrom 5 = .ok (.iaload, 1) := by decide +kernel
theorem dX1_spreadFrom_6 : decode cX1_spreadFrom 6 = .ok (.istore 5, 2) := by decide +kernel
theorem dX1_spreadFrom_8 : decode cX1_spreadFrom 8 = .ok (.iconst 0, 1) := by decide +kernel
theorem dX1_spreadFrom_9 : decode cX1_spreadFrom 9 = .ok (.istore 6, 2) := by decide +kernel
theorem dX1_spreadFrom_11 : decode cX1_spreadFrom 11 = .ok (.iload 5, 2) := by decide +kernel
theorem dX1_spreadFrom_13 : decode cX1_spreadFrom 13 = .ok (.iconst (-1), 1) := by decide +kernel
theorem dX1_spreadFrom_14 : decode cX1_spreadFrom 14 = .ok (.if_icmp .eq 96, 3) := by decide +kernel
theorem dX1_spreadFrom_17 : decode cX1_spreadFrom 17 = .ok (.iload 6, 2) := by decide +kernel
theorem dX1_spreadFrom_19 : decode cX1_spreadFrom 19 = .ok (.sipush 300, 3) := by decide +kernel
theorem dX1_spreadFrom_22 : decode cX1_spreadFrom 22 = .ok (.if_icmp .ge 88, 3) := by decide +kernel
theorem dX1_spreadFrom_25 : decode cX1_spreadFrom 25 = .ok (.iload 5, 2) := by decide +kernel
theorem dX1_spreadFrom_27 : decode cX1_spreadFrom 27 = .ok (.iconst 2, 1) := by decide +kernel
theorem dX1_spreadFrom_28 : decode cX1_spreadFrom 28 = .ok (.idiv, 1) := by decide +kernel
theorem dX1_spreadFrom_29 : decode cX1_spreadFrom 29 = .ok (.istore 7, 2) := by decide +kernel
theorem dX1_spreadFrom_31 : decode cX1_spreadFrom 31 = .ok (.aload_n 1, 1) := by decide +kernel
theorem dX1_spreadFrom_32 : decode cX1_spreadFrom 32 = .ok (.iload 7, 2) := by decide +kernel
theorem dX1_spreadFrom_34 : decode cX1_spreadFrom 34 = .ok (.iload_n 2, 1) := by decide +kernel
theorem dX1_spreadFrom_35 : decode cX1_spreadFrom 35 = .ok (.invokevirtual 45, 3) := by decide +kernel
theorem dX1_spreadFrom_38 : decode cX1_spreadFrom 38 = .ok (.istore 8, 2) := by decide +kernel
theorem dX1_spreadFrom_40 : decode cX1_spreadFrom 40 = .ok (.aload_n 1, 1) := by decide +kernel
theorem dX1_spreadFrom_41 : decode cX1_spreadFrom 41 = .ok (.getfield 49, 3) := by decide +kernel
theorem dX1_spreadFrom_44 : decode cX1_spreadFrom 44 = .ok (.iload 7, 2) := by decide +kernel
theorem dX1_spreadFrom_46 : decode cX1_spreadFrom 46 = .ok (.iaload, 1) := by decide +kernel
theorem dX1_spreadFrom_47 : decode cX1_spreadFrom 47 = .ok (.iconst 1, 1) := by decide +kernel
theorem dX1_spreadFrom_48 : decode cX1_spreadFrom 48 = .ok (.if_icmp .ne 47, 3) := by decide +kernel
theorem dX1_spreadFrom_51 : decode cX1_spreadFrom 51 = .ok (.iload 7, 2) := by decide +kernel
theorem dX1_spreadFrom_53 : decode cX1_spreadFrom 53 = .ok (.iload_n 3, 1) := by decide +kernel
theorem dX1_spreadFrom_54 : decode cX1_spreadFrom 54 = .ok (.if_icmp .eq 41, 3) := by decide +kernel
theorem dX1_spreadFrom_57 : decode cX1_spreadFrom 57 = .ok (.aload_n 1, 1) := by decide +kernel
theorem dX1_spreadFrom_58 : decode cX1_spreadFrom 58 = .ok (.getfield 52, 3) := by decide +kernel
theorem dX1_spreadFrom_61 : decode cX1_spreadFrom 61 = .ok (.iload 7, 2) := by decide +kernel
theorem dX1_spreadFrom_63 : decode cX1_spreadFrom 63 = .ok (.iaload, 1) := by decide +kernel
theorem dX1_spreadFrom_64 : decode cX1_spreadFrom 64 = .ok (.iload 4, 2) := by decide +kernel
theorem dX1_spreadFrom_66 : decode cX1_spreadFrom 66 = .ok (.if_icmp .lt 29, 3) := by decide +kernel
theorem dX1_spreadFrom_69 : decode cX1_spreadFrom 69 = .ok (.aload_n 0, 1) := by decide +kernel
theorem dX1_spreadFrom_70 : decode cX1_spreadFrom 70 = .ok (.getfield 21, 3) := by decide +kernel
theorem dX1_spreadFrom_73 : decode cX1_spreadFrom 73 = .ok (.iload 8, 2) := by decide +kernel
theorem dX1_spreadFrom_75 : decode cX1_spreadFrom 75 = .ok (.baload, 1) := by decide +kernel
theorem dX1_spreadFrom_76 : decode cX1_spreadFrom 76 = .ok (.ifCond .ne 19, 3) := by decide +kernel
theorem dX1_spreadFrom_79 : decode cX1_spreadFrom 79 = .ok (.aload_n 0, 1) := by decide +kernel
theorem dX1_spreadFrom_80 : decode cX1_spreadFrom 80 = .ok (.iload 8, 2) := by decide +kernel
theorem dX1_spreadFrom_82 : decode cX1_spreadFrom 82 = .ok (.iload 7, 2) := by decide +kernel
theorem dX1_spreadFrom_84 : decode cX1_spreadFrom 84 = .ok (.aload_n 0, 1) := by decide +kernel
theorem dX1_spreadFrom_85 : decode cX1_spreadFrom 85 = .ok (.getfield 15, 3) := by decide +kernel
theorem dX1_spreadFrom_88 : decode cX1_spreadFrom 88 = .ok (.iload_n 2, 1) := by decide +kernel
theorem dX1_spreadFrom_89 : decode cX1_spreadFrom 89 = .ok (.iaload, 1) := by decide +kernel
theorem dX1_spreadFrom_90 : decode cX1_spreadFrom 90 = .ok (.iconst 1, 1) := by decide +kernel
theorem dX1_spreadFrom_91 : decode cX1_spreadFrom 91 = .ok (.iadd, 1) := by decide +kernel
theorem dX1_spreadFrom_92 : decode cX1_spreadFrom 92 = .ok (.invokevirtual 28, 3) := by decide +kernel
theorem dX1_spreadFrom_95 : decode cX1_spreadFrom 95 = .ok (.aload_n 1, 1) := by decide +kernel
theorem dX1_spreadFrom_96 : decode cX1_spreadFrom 96 = .ok (.getfield 55, 3) := by decide +kernel
theorem dX1_spreadFrom_99 : decode cX1_spreadFrom 99 = .ok (.iload 5, 2) := by decide +kernel
theorem dX1_spreadFrom_101 : decode cX1_spreadFrom 101 = .ok (.iaload, 1) := by decide +kernel
theorem dX1_spreadFrom_102 : decode cX1_spreadFrom 102 = .ok (.istore 5, 2) := by decide +kernel
theorem dX1_spreadFrom_104 : decode cX1_spreadFrom 104 = .ok (.iinc 6 1, 3) := by decide +kernel
theorem dX1_spreadFrom_107 : decode cX1_spreadFrom 107 = .ok (.goto (-96), 3) := by decide +kernel
theorem dX1_spreadFrom_110 : decode cX1_spreadFrom 110 = .ok (.return_, 1) := by decide +kernel
theorem dX1_before_0 : decode cX1_before 0 = .ok (.aload_n 0, 1) := by decide +kernel
theorem dX1_before_1 : decode cX1_before 1 = .ok (.getfield 18, 3) := by decide +kernel
theorem dX1_before_4 : decode cX1_before 4 = .ok (.iload_n 2, 1) := by decide +kernel
theorem dX1_before_5 : decode cX1_before 5 = .ok (.iaload, 1) := by decide +kernel
theorem dX1_before_6 : decode cX1_before 6 = .ok (.iconst (-1), 1) := by decide +kernel
theorem dX1_before_7 : decode cX1_before 7 = .ok (.if_icmp .ne 7, 3) := by decide +kernel
theorem dX1_before_10 : decode cX1_before 10 = .ok (.iconst (-1), 1) := by decide +kernel
theorem dX1_before_11 : decode cX1_before 11 = .ok (.goto 14, 3) := by decide +kernel
theorem dX1_before_14 : decode cX1_before 14 = .ok (.aload_n 1, 1) := by decide +kernel
theorem dX1_before_15 : decode cX1_before 15 = .ok (.aload_n 0, 1) := by decide +kernel
theorem dX1_before_16 : decode cX1_before 16 = .ok (.getfield 18, 3) := by decide +kernel
theorem dX1_before_19 : decode cX1_before 19 = .ok (.iload_n 2, 1) := by decide +kernel
theorem dX1_before_20 : decode cX1_before 20 = .ok (.iaload, 1) := by decide +kernel
theorem dX1_before_21 : decode cX1_before 21 = .ok (.iload_n 2, 1) := by decide +kernel
theorem dX1_before_22 : decode cX1_before 22 = .ok (.invokevirtual 45, 3) := by decide +kernel
theorem dX1_before_25 : decode cX1_before 25 = .ok (.ireturn, 1) := by decide +kernel
theorem dX1_endsOf_0 : decode cX1_endsOf 0 = .ok (.aload_n 0, 1) := by decide +kernel
theorem dX1_endsOf_1 : decode cX1_endsOf 1 = .ok (.getfield 21, 3) := by decide +kernel
theorem dX1_endsOf_4 : decode cX1_endsOf 4 = .ok (.aload_n 1, 1) := by decide +kernel
theorem dX1_endsOf_5 : decode cX1_endsOf 5 = .ok (.getfield 58, 3) := by decide +kernel
theorem dX1_endsOf_8 : decode cX1_endsOf 8 = .ok (.iload_n 2, 1) := by decide +kernel
theorem dX1_endsOf_9 : decode cX1_endsOf 9 = .ok (.iaload, 1) := by decide +kernel
theorem dX1_endsOf_10 : decode cX1_endsOf 10 = .ok (.baload, 1) := by decide +kernel
theorem dX1_endsOf_11 : decode cX1_endsOf 11 = .ok (.ifCond .eq 7, 3) := by decide +kernel
theorem dX1_endsOf_14 : decode cX1_endsOf 14 = .ok (.iconst 1, 1) := by decide +kernel
theorem dX1_endsOf_15 : decode cX1_endsOf 15 = .ok (.goto 4, 3) := by decide +kernel
theorem dX1_endsOf_18 : decode cX1_endsOf 18 = .ok (.iconst 0, 1) := by decide +kernel
theorem dX1_endsOf_19 : decode cX1_endsOf 19 = .ok (.aload_n 0, 1) := by decide +kernel
theorem dX1_endsOf_20 : decode cX1_endsOf 20 = .ok (.getfield 21, 3) := by decide +kernel
theorem dX1_endsOf_23 : decode cX1_endsOf 23 = .ok (.aload_n 1, 1) := by decide +kernel
theorem dX1_endsOf_24 : decode cX1_endsOf 24 = .ok (.getfield 61, 3) := by decide +kernel
theorem dX1_endsOf_27 : decode cX1_endsOf 27 = .ok (.iload_n 2, 1) := by decide +kernel
theorem dX1_endsOf_28 : decode cX1_endsOf 28 = .ok (.iaload, 1) := by decide +kernel
theorem dX1_endsOf_29 : decode cX1_endsOf 29 = .ok (.baload, 1) := by decide +kernel
theorem dX1_endsOf_30 : decode cX1_endsOf 30 = .ok (.ifCond .eq 7, 3) := by decide +kernel
theorem dX1_endsOf_33 : decode cX1_endsOf 33 = .ok (.iconst 1, 1) := by decide +kernel
theorem dX1_endsOf_34 : decode cX1_endsOf 34 = .ok (.goto 4, 3) := by decide +kernel
theorem dX1_endsOf_37 : decode cX1_endsOf 37 = .ok (.iconst 0, 1) := by decide +kernel
theorem dX1_endsOf_38 : decode cX1_endsOf 38 = .ok (.iadd, 1) := by decide +kernel
theorem dX1_endsOf_39 : decode cX1_endsOf 39 = .ok (.ireturn, 1) := by decide +kernel
theorem dX2_init_0 : decode cX2_init 0 = .ok (.aload_n 0, 1) := by decide +kernel
theorem dX2_init_1 : decode cX2_init 1 = .ok (.invokespecial 3, 3) := by decide +kernel
theorem dX2_init_4 : decode cX2_init 4 = .ok (.aload_n 0, 1) := by decide +kernel
theorem dX2_init_5 : decode cX2_init 5 = .ok (.bipush 100, 2) := by decide +kernel
theorem dX2_init_7 : decode cX2_init 7 = .ok (.newarray .int, 2) := by decide +kernel
theorem dX2_init_9 : decode cX2_init 9 = .ok (.putfield 9, 3) := by decide +kernel
theorem dX2_init_12 : decode cX2_init 12 = .ok (.aload_n 0, 1) := by decide +kernel
theorem dX2_init_13 : decode cX2_init 13 = .ok (.bipush 100, 2) := by decide +kernel
theorem dX2_init_15 : decode cX2_init 15 = .ok (.newarray .int, 2) := by decide +kernel
theorem dX2_init_17 : decode cX2_init 17 = .ok (.putfield 15, 3) := by decide +kernel
theorem dX2_init_20 : decode cX2_init 20 = .ok (.aload_n 0, 1) := by decide +kernel
theorem dX2_init_21 : decode cX2_init 21 = .ok (.bipush 100, 2) := by decide +kernel
theorem dX2_init_23 : decode cX2_init 23 = .ok (.newarray .int, 2) := by decide +kernel
theorem dX2_init_25 : decode cX2_init 25 = .ok (.putfield 18, 3) := by decide +kernel
theorem dX2_init_28 : decode cX2_init 28 = .ok (.aload_n 0, 1) := by decide +kernel
theorem dX2_init_29 : decode cX2_init 29 = .ok (.bipush 100, 2) := by decide +kernel
theorem dX2_init_31 : decode cX2_init 31 = .ok (.newarray .int, 2) := by decide +kernel
theorem dX2_init_33 : decode cX2_init 33 = .ok (.putfield 21, 3) := by decide +kernel
theorem dX2_init_36 : decode cX2_init 36 = .ok (.aload_n 0, 1) := by decide +kernel
theorem dX2_init_37 : decode cX2_init 37 = .ok (.bipush 100, 2) := by decide +kernel
theorem dX2_init_39 : decode cX2_init 39 = .ok (.newarray .boolean, 2) := by decide +kernel
theorem dX2_init_41 : decode cX2_init 41 = .ok (.putfield 24, 3) := by decide +kernel
theorem dX2_init_44 : decode cX2_init 44 = .ok (.return_, 1) := by decide +kernel
theorem dX2_find_0 : decode cX2_find 0 = .ok (.aload_n 0, 1) := by decide +kernel
theorem dX2_find_1 : decode cX2_find 1 = .ok (.getfield 9, 3) := by decide +kernel
theorem dX2_find_4 : decode cX2_find 4 = .ok (.iconst 0, 1) := by decide +kernel
theorem dX2_find_5 : decode cX2_find 5 = .ok (.invokestatic 28, 3) := by decide +kernel
theorem dX2_find_8 : decode cX2_find 8 = .ok (.aload_n 0, 1) := by decide +kernel
theorem dX2_find_9 : decode cX2_find 9 = .ok (.iconst 0, 1) := by decide +kernel
theorem dX2_find_10 : decode cX2_find 10 = .ok (.putfield 34, 3) := by decide +kernel
theorem dX2_find_13 : decode cX2_find 13 = .ok (.aload_n 0, 1) := by decide +kernel
theorem dX2_find_14 : decode cX2_find 14 = .ok (.iconst 0, 1) := by decide +kernel
theorem dX2_find_15 : decode cX2_find 15 = .ok (.putfield 38, 3) := by decide +kernel
theorem dX2_find_18 : decode cX2_find 18 = .ok (.aload_n 0, 1) := by decide +kernel
theorem dX2_find_19 : decode cX2_find 19 = .ok (.iconst 0, 1) := by decide +kernel
theorem dX2_find_20 : decode cX2_find 20 = .ok (.putfield 41, 3) := by decide +kernel
theorem dX2_find_23 : decode cX2_find 23 = .ok (.iconst 0, 1) := by decide +kernel
theorem dX2_find_24 : decode cX2_find 24 = .ok (.istore_n 3, 1) := by decide +kernel
theorem dX2_find_25 : decode cX2_find 25 = .ok (.iload_n 3, 1) := by decide +kernel
theorem dX2_find_26 : decode cX2_find 26 = .ok (.iload_n 2, 1) := by decide +kernel
theorem dX2_find_27 : decode cX2_find 27 = .ok (.if_icmp .ge 24, 3) := by decide +kernel
theorem dX2_find_30 : decode cX2_find 30 = .ok (.aload_n 0, 1) := by decide +kernel
theorem dX2_find_31 : decode cX2_find 31 = .ok (.getfield 9, 3) := by decide +kernel
theorem dX2_find_34 : decode cX2_find 34 = .ok (.iload_n 3, 1) := by decide +kernel
theorem dX2_find_35 : decode cX2_find 35 = .ok (.iaload, 1) := by decide +kernel
theorem dX2_find_36 : decode cX2_find 36 = .ok (.ifCond .ne 9, 3) := by decide +kernel
theorem dX2_find_39 : decode cX2_find 39 = .ok (.aload_n 0, 1) := by decide +kernel
theorem dX2_find_40 : decode cX2_find 40 = .ok (.aload_n 1, 1) := by decide +kernel
theorem dX2_find_41 : decode cX2_find 41 = .ok (.iload_n 3, 1) := by decide +kernel
theorem dX2_find_42 : decode cX2_find 42 = .ok (.invokevirtual 44, 3) := by decide +kernel
theorem dX2_find_45 : decode cX2_find 45 = .ok (.iinc 3 1, 3) := by decide +kernel
theorem dX2_find_48 : decode cX2_find 48 = .ok (.goto (-23), 3) := by decide +kernel
theorem dX2_find_51 : decode cX2_find 51 = .ok (.return_, 1) := by decide +kernel
theorem dX2_isBridge_0 : decode cX2_isBridge 0 = .ok (.aload_n 0, 1) := by decide +kernel
theorem dX2_isBridge_1 : decode cX2_isBridge 1 = .ok (.aload_n 1, 1) := by decide +kernel
theorem dX2_isBridge_2 : decode cX2_isBridge 2 = .ok (.getfield 48, 3) := by decide +kernel
theorem dX2_isBridge_5 : decode cX2_isBridge 5 = .ok (.iload_n 2, 1) := by decide +kernel
theorem dX2_isBridge_6 : decode cX2_isBridge 6 = .ok (.iaload, 1) := by decide +kernel
theorem dX2_isBridge_7 : decode cX2_isBridge 7 = .ok (.iload_n 2, 1) := by decide +kernel
theorem dX2_isBridge_8 : decode cX2_isBridge 8 = .ok (.invokevirtual 53, 3) := by decide +kernel
theorem dX2_isBridge_11 : decode cX2_isBridge 11 = .ok (.ifCond .ne 17, 3) := by decide +kernel
theorem dX2_isBridge_14 : decode cX2_isBridge 14 = .ok (.aload_n 0, 1) := by decide +kernel
theorem dX2_isBridge_15 : decode cX2_isBridge 15 = .ok (.aload_n 1, 1) := by decide +kernel
theorem dX2_isBridge_16 : decode cX2_isBridge 16 = .ok (.getfield 57, 3) := by decide +kernel
theorem dX2_isBridge_19 : decode cX2_isBridge 19 = .ok (.iload_n 2, 1) := by decide +kernel
theorem dX2_isBridge_20 : decode cX2_isBridge 20 = .ok (.iaload, 1) := by decide +kernel
theorem dX2_isBridge_21 : decode cX2_isBridge 21 = .ok (.iload_n 2, 1) := by decide +kernel
theorem dX2_isBridge_22 : decode cX2_isBridge 22 = .ok (.invokevirtual 53, 3) := by decide +kernel
theorem dX2_isBridge_25 : decode cX2_isBridge 25 = .ok (.ifCond .eq 7, 3) := by decide +kernel
theorem dX2_isBridge_28 : decode cX2_isBridge 28 = .ok (.iconst 1, 1) := by decide +kernel
theorem dX2_isBridge_29 : decode cX2_isBridge 29 = .ok (.goto 4, 3) := by decide +kernel
theorem dX2_isBridge_32 : decode cX2_isBridge 32 = .ok (.iconst 0, 1) := by decide +kernel
theorem dX2_isBridge_33 : decode cX2_isBridge 33 = .ok (.ireturn, 1) := by decide +kernel
theorem dX2_isBridgeTo_0 : decode cX2_isBridgeTo 0 = .ok (.aload_n 0, 1) := by decide +kernel
theorem dX2_isBridgeTo_1 : decode cX2_isBridgeTo 1 = .ok (.getfield 18, 3) := by decide +kernel
theorem dX2_isBridgeTo_4 : decode cX2_isBridgeTo 4 = .ok (.iload_n 1, 1) := by decide +kernel
theorem dX2_isBridgeTo_5 : decode cX2_isBridgeTo 5 = .ok (.iaload, 1) := by decide +kernel
theorem dX2_isBridgeTo_6 : decode cX2_isBridgeTo 6 = .ok (.iload_n 2, 1) := by decide +kernel
theorem dX2_isBridgeTo_7 : decode cX2_isBridgeTo 7 = .ok (.if_icmp .ne 22, 3) := by decide +kernel
theorem dX2_isBridgeTo_10 : decode cX2_isBridgeTo 10 = .ok (.aload_n 0, 1) := by decide +kernel
theorem dX2_isBridgeTo_11 : decode cX2_isBridgeTo 11 = .ok (.getfield 15, 3) := by decide +kernel
theorem dX2_isBridgeTo_14 : decode cX2_isBridgeTo 14 = .ok (.iload_n 1, 1) := by decide +kernel
theorem dX2_isBridgeTo_15 : decode cX2_isBridgeTo 15 = .ok (.iaload, 1) := by decide +kernel
theorem dX2_isBridgeTo_16 : decode cX2_isBridgeTo 16 = .ok (.aload_n 0, 1) := by decide +kernel
theorem dX2_isBridgeTo_17 : decode cX2_isBridgeTo 17 = .ok (.getfield 9, 3) := by decide +kernel
theorem dX2_isBridgeTo_20 : decode cX2_isBridgeTo 20 = .ok (.iload_n 1, 1) := by decide +kernel
theorem dX2_isBridgeTo_21 : decode cX2_isBridgeTo 21 = .ok (.iaload, 1) := by decide +kernel
theorem dX2_isBridgeTo_22 : decode cX2_isBridgeTo 22 = .ok (.if_icmp .ne 7, 3) := by decide +kernel
theorem dX2_isBridgeTo_25 : decode cX2_isBridgeTo 25 = .ok (.iconst 1, 1) := by decide +kernel
theorem dX2_isBridgeTo_26 : decode cX2_isBridgeTo 26 = .ok (.goto 4, 3) := by decide +kernel
theorem dX2_isBridgeTo_29 : decode cX2_isBridgeTo 29 = .ok (.iconst 0, 1) := by decide +kernel
theorem dX2_isBridgeTo_30 : decode cX2_isBridgeTo 30 = .ok (.ireturn, 1) := by decide +kernel
theorem dX2_walkFrom_0 : decode cX2_walkFrom 0 = .ok (.aload_n 0, 1) := by decide +kernel
theorem dX2_walkFrom_1 : decode cX2_walkFrom 1 = .ok (.iconst 0, 1) := by decide +kernel
theorem dX2_walkFrom_2 : decode cX2_walkFrom 2 = .ok (.putfield 60, 3) := by decide +kernel
theorem dX2_walkFrom_5 : decode cX2_walkFrom 5 = .ok (.aload_n 0, 1) := by decide +kernel
theorem dX2_walkFrom_6 : decode cX2_walkFrom 6 = .ok (.aload_n 1, 1) := by decide +kernel
theorem dX2_walkFrom_7 : decode cX2_walkFrom 7 = .ok (.iload_n 2, 1) := by decide +kernel
theorem dX2_walkFrom_8 : decode cX2_walkFrom 8 = .ok (.iconst (-1), 1) := by decide +kernel
theorem dX2_walkFrom_9 : decode cX2_walkFrom 9 = .ok (.invokevirtual 63, 3) := by decide +kernel
theorem dX2_walkFrom_12 : decode cX2_walkFrom 12 = .ok (.iload_n 2, 1) := by decide +kernel
theorem dX2_walkFrom_13 : decode cX2_walkFrom 13 = .ok (.istore_n 3, 1) := by decide +kernel
theorem dX2_walkFrom_14 : decode cX2_walkFrom 14 = .ok (.iconst 0, 1) := by decide +kernel
theorem dX2_walkFrom_15 : decode cX2_walkFrom 15 = .ok (.istore 4, 2) := by decide +kernel
theorem dX2_walkFrom_17 : decode cX2_walkFrom 17 = .ok (.iload_n 3, 1) := by decide +kernel
theorem dX2_walkFrom_18 : decode cX2_walkFrom 18 = .ok (.iconst (-1), 1) := by decide +kernel
theorem dX2_walkFrom_19 : decode cX2_walkFrom 19 = .ok (.if_icmp .eq 65, 3) := by decide +kernel
theorem dX2_walkFrom_22 : decode cX2_walkFrom 22 = .ok (.iload 4, 2) := by decide +kernel
theorem dX2_walkFrom_24 : decode cX2_walkFrom 24 = .ok (.sipush 800, 3) := by decide +kernel
theorem dX2_walkFrom_27 : decode cX2_walkFrom 27 = .ok (.if_icmp .ge 57, 3) := by decide +kernel
theorem dX2_walkFrom_30 : decode cX2_walkFrom 30 = .ok (.aload_n 0, 1) := by decide +kernel
theorem dX2_walkFrom_31 : decode cX2_walkFrom 31 = .ok (.getfield 21, 3) := by decide +kernel
theorem dX2_walkFrom_34 : decode cX2_walkFrom 34 = .ok (.iload_n 3, 1) := by decide +kernel
theorem dX2_walkFrom_35 : decode cX2_walkFrom 35 = .ok (.iaload, 1) := by decide +kernel
theorem dX2_walkFrom_36 : decode cX2_walkFrom 36 = .ok (.istore 5, 2) := by decide +kernel
theorem dX2_walkFrom_38 : decode cX2_walkFrom 38 = .ok (.iload 5, 2) := by decide +kernel
theorem dX2_walkFrom_40 : decode cX2_walkFrom 40 = .ok (.iconst (-1), 1) := by decide +kernel
theorem dX2_walkFrom_41 : decode cX2_walkFrom 41 = .ok (.if_icmp .ne 13, 3) := by decide +kernel
theorem dX2_walkFrom_44 : decode cX2_walkFrom 44 = .ok (.aload_n 0, 1) := by decide +kernel
theorem dX2_walkFrom_45 : decode cX2_walkFrom 45 = .ok (.aload_n 1, 1) := by decide +kernel
theorem dX2_walkFrom_46 : decode cX2_walkFrom 46 = .ok (.iload_n 3, 1) := by decide +kernel
theorem dX2_walkFrom_47 : decode cX2_walkFrom 47 = .ok (.invokevirtual 67, 3) := by decide +kernel
theorem dX2_walkFrom_50 : decode cX2_walkFrom 50 = .ok (.istore_n 3, 1) := by decide +kernel
theorem dX2_walkFrom_51 : decode cX2_walkFrom 51 = .ok (.goto 27, 3) := by decide +kernel
theorem dX2_walkFrom_54 : decode cX2_walkFrom 54 = .ok (.aload_n 0, 1) := by decide +kernel
theorem dX2_walkFrom_55 : decode cX2_walkFrom 55 = .ok (.getfield 21, 3) := by decide +kernel
theorem dX2_walkFrom_58 : decode cX2_walkFrom 58 = .ok (.iload_n 3, 1) := by decide +kernel
theorem dX2_walkFrom_59 : decode cX2_walkFrom 59 = .ok (.aload_n 1, 1) := by decide +kernel
theorem dX2_walkFrom_60 : decode cX2_walkFrom 60 = .ok (.getfield 71, 3) := by decide +kernel
theorem dX2_walkFrom_63 : decode cX2_walkFrom 63 = .ok (.iload 5, 2) := by decide +kernel
theorem dX2_walkFrom_65 : decode cX2_walkFrom 65 = .ok (.iaload, 1) := by decide +kernel
theorem dX2_walkFrom_66 : decode cX2_walkFrom 66 = .ok (.iastore, 1) := by decide +kernel
theorem dX2_walkFrom_67 : decode cX2_walkFrom 67 = .ok (.aload_n 0, 1) := by decide +kernel
theorem dX2_walkFrom_68 : decode cX2_walkFrom 68 = .ok (.aload_n 1, 1) := by decide +kernel
theorem dX2_walkFrom_69 : decode cX2_walkFrom 69 = .ok (.iload_n 3, 1) := by decide +kernel
theorem dX2_walkFrom_70 : decode cX2_walkFrom 70 = .ok (.iload 5, 2) := by decide +kernel
theorem dX2_walkFrom_72 : decode cX2_walkFrom 72 = .ok (.iconst 2, 1) := by decide +kernel
theorem dX2_walkFrom_73 : decode cX2_walkFrom 73 = .ok (.idiv, 1) := by decide +kernel
theorem dX2_walkFrom_74 : decode cX2_walkFrom 74 = .ok (.invokevirtual 72, 3) := by decide +kernel
theorem dX2_walkFrom_77 : decode cX2_walkFrom 77 = .ok (.istore_n 3, 1) := by decide +kernel
theorem dX2_walkFrom_78 : decode cX2_walkFrom 78 = .ok (.iinc 4 1, 3) := by decide +kernel
theorem dX2_walkFrom_81 : decode cX2_walkFrom 81 = .ok (.goto (-64), 3) := by decide +kernel
theorem dX2_walkFrom_84 : decode cX2_walkFrom 84 = .ok (.aload_n 0, 1) := by decide +kernel
theorem dX2_walkFrom_85 : decode cX2_walkFrom 85 = .ok (.getfield 60, 3) := by decide +kernel
theorem dX2_walkFrom_88 : decode cX2_walkFrom 88 = .ok (.iconst 1, 1) := by decide +kernel
theorem dX2_walkFrom_89 : decode cX2_walkFrom 89 = .ok (.if_icmp .le 8, 3) := by decide +kernel
theorem dX2_walkFrom_92 : decode cX2_walkFrom 92 = .ok (.aload_n 0, 1) := by decide +kernel
theorem dX2_walkFrom_93 : decode cX2_walkFrom 93 = .ok (.iload_n 2, 1) := by decide +kernel
theorem dX2_walkFrom_94 : decode cX2_walkFrom 94 = .ok (.invokevirtual 76, 3) := by decide +kernel
theorem dX2_walkFrom_97 : decode cX2_walkFrom 97 = .ok (.return_, 1) := by decide +kernel
theorem dX2_enter_0 : decode cX2_enter 0 = .ok (.aload_n 0, 1) := by decide +kernel
theorem dX2_enter_1 : decode cX2_enter 1 = .ok (.dup, 1) := by decide +kernel
theorem dX2_enter_2 : decode cX2_enter 2 = .ok (.getfield 34, 3) := by decide +kernel
theorem dX2_enter_5 : decode cX2_enter 5 = .ok (.iconst 1, 1) := by decide +kernel
theorem dX2_enter_6 : decode cX2_enter 6 = .ok (.iadd, 1) := by decide +kernel
theorem dX2_enter_7 : decode cX2_enter 7 = .ok (.putfield 34, 3) := by decide +kernel
theorem dX2_enter_10 : decode cX2_enter 10 = .ok (.aload_n 0, 1) := by decide +kernel
theorem dX2_enter_11 : decode cX2_enter 11 = .ok (.getfield 9, 3) := by decide +kernel
theorem dX2_enter_14 : decode cX2_enter 14 = .ok (.iload_n 2, 1) := by decide +kernel
theorem dX2_enter_15 : decode cX2_enter 15 = .ok (.aload_n 0, 1) := by decide +kernel
theorem dX2_enter_16 : decode cX2_enter 16 = .ok (.getfield 34, 3) := by decide +kernel
theorem dX2_enter_19 : decode cX2_enter 19 = .ok (.iastore, 1) := by decide +kernel
theorem dX2_enter_20 : decode cX2_enter 20 = .ok (.aload_n 0, 1) := by decide +kernel
theorem dX2_enter_21 : decode cX2_enter 21 = .ok (.getfield 15, 3) := by decide +kernel
theorem dX2_enter_24 : decode cX2_enter 24 = .ok (.iload_n 2, 1) := by decide +kernel
theorem dX2_enter_25 : decode cX2_enter 25 = .ok (.aload_n 0, 1) := by decide +kernel
theorem dX2_enter_26 : decode cX2_enter 26 = .ok (.getfield 34, 3) := by decide +kernel
theorem dX2_enter_29 : decode cX2_enter 29 = .ok (.iastore, 1) := by decide +kernel
theorem dX2_enter_30 : decode cX2_enter 30 = .ok (.aload_n 0, 1) := by decide +kernel
theorem dX2_enter_31 : decode cX2_enter 31 = .ok (.getfield 18, 3) := by decide +kernel
theorem dX2_enter_34 : decode cX2_enter 34 = .ok (.iload_n 2, 1) := by decide +kernel
theorem dX2_enter_35 : decode cX2_enter 35 = .ok (.iload_n 3, 1) := by decide +kernel
theorem dX2_enter_36 : decode cX2_enter 36 = .ok (.iastore, 1) := by decide +kernel
theorem dX2_enter_37 : decode cX2_enter 37 = .ok (.aload_n 0, 1) := by decide +kernel
theorem dX2_enter_38 : decode cX2_enter 38 = .ok (.getfield 24, 3) := by decide +kernel
theorem dX2_enter_41 : decode cX2_enter 41 = .ok (.iload_n 2, 1) := by decide +kernel
theorem dX2_enter_42 : decode cX2_enter 42 = .ok (.iconst 0, 1) := by decide +kernel
theorem dX2_enter_43 : decode cX2_enter 43 = .ok (.bastore, 1) := by decide +kernel
theorem dX2_enter_44 : decode cX2_enter 44 = .ok (.aload_n 0, 1) := by decide +kernel
theorem dX2_enter_45 : decode cX2_enter 45 = .ok (.getfield 21, 3) := by decide +kernel
theorem dX2_enter_48 : decode cX2_enter 48 = .ok (.iload_n 2, 1) := by decide +kernel
theorem dX2_enter_49 : decode cX2_enter 49 = .ok (.aload_n 1, 1) := by decide +kernel
theorem dX2_enter_50 : decode cX2_enter 50 = .ok (.getfield 80, 3) := by decide +kernel
theorem dX2_enter_53 : decode cX2_enter 53 = .ok (.iload_n 2, 1) := by decide +kernel
theorem dX2_enter_54 : decode cX2_enter 54 = .ok (.iaload, 1) := by decide +kernel
theorem dX2_enter_55 : decode cX2_enter 55 = .ok (.iastore, 1) := by decide +kernel
theorem dX2_enter_56 : decode cX2_enter 56 = .ok (.return_, 1) := by decide +kernel
theorem dX2_follow_0 : decode cX2_follow 0 = .ok (.iload_n 3, 1) := by decide +kernel
theorem dX2_follow_1 : decode cX2_follow 1 = .ok (.aload_n 0, 1) := by decide +kernel
theorem dX2_follow_2 : decode cX2_follow 2 = .ok (.getfield 18, 3) := by decide +kernel
theorem dX2_follow_5 : decode cX2_follow 5 = .ok (.iload_n 2, 1) := by decide +kernel
theorem dX2_follow_6 : decode cX2_follow 6 = .ok (.iaload, 1) := by decide +kernel
theorem dX2_follow_7 : decode cX2_follow 7 = .ok (.if_icmp .eq 11, 3) := by decide +kernel
theorem dX2_follow_10 : decode cX2_follow 10 = .ok (.aload_n 1, 1) := by decide +kernel
theorem dX2_follow_11 : decode cX2_follow 11 = .ok (.iload_n 3, 1) := by decide +kernel
theorem dX2_follow_12 : decode cX2_follow 12 = .ok (.invokevirtual 83, 3) := by decide +kernel
theorem dX2_follow_15 : decode cX2_follow 15 = .ok (.ifCond .ne 5, 3) := by decide +kernel
theorem dX2_follow_18 : decode cX2_follow 18 = .ok (.iload_n 2, 1) := by decide +kernel
theorem dX2_follow_19 : decode cX2_follow 19 = .ok (.ireturn, 1) := by decide +kernel
theorem dX2_follow_20 : decode cX2_follow 20 = .ok (.aload_n 1, 1) := by decide +kernel
theorem dX2_follow_21 : decode cX2_follow 21 = .ok (.iload_n 3, 1) := by decide +kernel
theorem dX2_follow_22 : decode cX2_follow 22 = .ok (.iload_n 2, 1) := by decide +kernel
theorem dX2_follow_23 : decode cX2_follow 23 = .ok (.invokevirtual 87, 3) := by decide +kernel
theorem dX2_follow_26 : decode cX2_follow 26 = .ok (.istore 4, 2) := by decide +kernel
theorem dX2_follow_28 : decode cX2_follow 28 = .ok (.aload_n 0, 1) := by decide +kernel
theorem dX2_follow_29 : decode cX2_follow 29 = .ok (.getfield 9, 3) := by decide +kernel
theorem dX2_follow_32 : decode cX2_follow 32 = .ok (.iload 4, 2) := by decide +kernel
theorem dX2_follow_34 : decode cX2_follow 34 = .ok (.iaload, 1) := by decide +kernel
theorem dX2_follow_35 : decode cX2_follow 35 = .ok (.ifCond .ne 14, 3) := by decide +kernel
theorem dX2_follow_38 : decode cX2_follow 38 = .ok (.aload_n 0, 1) := by decide +kernel
theorem dX2_follow_39 : decode cX2_follow 39 = .ok (.aload_n 1, 1) := by decide +kernel
theorem dX2_follow_40 : decode cX2_follow 40 = .ok (.iload 4, 2) := by decide +kernel
theorem dX2_follow_42 : decode cX2_follow 42 = .ok (.iload_n 3, 1) := by decide +kernel
theorem dX2_follow_43 : decode cX2_follow 43 = .ok (.invokevirtual 63, 3) := by decide +kernel
theorem dX2_follow_46 : decode cX2_follow 46 = .ok (.iload 4, 2) := by decide +kernel
theorem dX2_follow_48 : decode cX2_follow 48 = .ok (.ireturn, 1) := by decide +kernel
theorem dX2_follow_49 : decode cX2_follow 49 = .ok (.aload_n 0, 1) := by decide +kernel
theorem dX2_follow_50 : decode cX2_follow 50 = .ok (.getfield 15, 3) := by decide +kernel
theorem dX2_follow_53 : decode cX2_follow 53 = .ok (.iload_n 2, 1) := by decide +kernel
theorem dX2_follow_54 : decode cX2_follow 54 = .ok (.aload_n 0, 1) := by decide +kernel
theorem dX2_follow_55 : decode cX2_follow 55 = .ok (.getfield 15, 3) := by decide +kernel
theorem dX2_follow_58 : decode cX2_follow 58 = .ok (.iload_n 2, 1) := by decide +kernel
theorem dX2_follow_59 : decode cX2_follow 59 = .ok (.iaload, 1) := by decide +kernel
theorem dX2_follow_60 : decode cX2_follow 60 = .ok (.aload_n 0, 1) := by decide +kernel
theorem dX2_follow_61 : decode cX2_follow 61 = .ok (.getfield 9, 3) := by decide +kernel
theorem dX2_follow_64 : decode cX2_follow 64 = .ok (.iload 4, 2) := by decide +kernel
theorem dX2_follow_66 : decode cX2_follow 66 = .ok (.iaload, 1) := by decide +kernel
theorem dX2_follow_67 : decode cX2_follow 67 = .ok (.invokestatic 91, 3) := by decide +kernel
theorem dX2_follow_70 : decode cX2_follow 70 = .ok (.iastore, 1) := by decide +kernel
theorem dX2_follow_71 : decode cX2_follow 71 = .ok (.iload_n 2, 1) := by decide +kernel
theorem dX2_follow_72 : decode cX2_follow 72 = .ok (.ireturn, 1) := by decide +kernel
theorem dX2_leave_0 : decode cX2_leave 0 = .ok (.aload_n 0, 1) := by decide +kernel
theorem dX2_leave_1 : decode cX2_leave 1 = .ok (.getfield 18, 3) := by decide +kernel
theorem dX2_leave_4 : decode cX2_leave 4 = .ok (.iload_n 2, 1) := by decide +kernel
theorem dX2_leave_5 : decode cX2_leave 5 = .ok (.iaload, 1) := by decide +kernel
theorem dX2_leave_6 : decode cX2_leave 6 = .ok (.iconst (-1), 1) := by decide +kernel
theorem dX2_leave_7 : decode cX2_leave 7 = .ok (.if_icmp .ne 5, 3) := by decide +kernel
theorem dX2_leave_10 : decode cX2_leave 10 = .ok (.iconst (-1), 1) := by decide +kernel
theorem dX2_leave_11 : decode cX2_leave 11 = .ok (.ireturn, 1) := by decide +kernel
theorem dX2_leave_12 : decode cX2_leave 12 = .ok (.aload_n 1, 1) := by decide +kernel
theorem dX2_leave_13 : decode cX2_leave 13 = .ok (.aload_n 0, 1) := by decide +kernel
theorem dX2_leave_14 : decode cX2_leave 14 = .ok (.getfield 18, 3) := by decide +kernel
theorem dX2_leave_17 : decode cX2_leave 17 = .ok (.iload_n 2, 1) := by decide +kernel
theorem dX2_leave_18 : decode cX2_leave 18 = .ok (.iaload, 1) := by decide +kernel
theorem dX2_leave_19 : decode cX2_leave 19 = .ok (.iload_n 2, 1) := by decide +kernel
theorem dX2_leave_20 : decode cX2_leave 20 = .ok (.invokevirtual 87, 3) := by decide +kernel
theorem dX2_leave_23 : decode cX2_leave 23 = .ok (.istore_n 3, 1) := by decide +kernel
theorem dX2_leave_24 : decode cX2_leave 24 = .ok (.aload_n 0, 1) := by decide +kernel
theorem dX2_leave_25 : decode cX2_leave 25 = .ok (.getfield 15, 3) := by decide +kernel
theorem dX2_leave_28 : decode cX2_leave 28 = .ok (.iload_n 3, 1) := by decide +kernel
theorem dX2_leave_29 : decode cX2_leave 29 = .ok (.aload_n 0, 1) := by decide +kernel
theorem dX2_leave_30 : decode cX2_leave 30 = .ok (.getfield 15, 3) := by decide +kernel
theorem dX2_leave_33 : decode cX2_leave 33 = .ok (.iload_n 3, 1) := by decide +kernel
theorem dX2_leave_34 : decode cX2_leave 34 = .ok (.iaload, 1) := by decide +kernel
theorem dX2_leave_35 : decode cX2_leave 35 = .ok (.aload_n 0, 1) := by decide +kernel
theorem dX2_leave_36 : decode cX2_leave 36 = .ok (.getfield 15, 3) := by decide +kernel
theorem dX2_leave_39 : decode cX2_leave 39 = .ok (.iload_n 2, 1) := by decide +kernel
theorem dX2_leave_40 : decode cX2_leave 40 = .ok (.iaload, 1) := by decide +kernel
theorem dX2_leave_41 : decode cX2_leave 41 = .ok (.invokestatic 91, 3) := by decide +kernel
theorem dX2_leave_44 : decode cX2_leave 44 = .ok (.iastore, 1) := by decide +kernel
theorem dX2_leave_45 : decode cX2_leave 45 = .ok (.aload_n 0, 1) := by decide +kernel
theorem dX2_leave_46 : decode cX2_leave 46 = .ok (.getfield 15, 3) := by decide +kernel
theorem dX2_leave_49 : decode cX2_leave 49 = .ok (.iload_n 2, 1) := by decide +kernel
theorem dX2_leave_50 : decode cX2_leave 50 = .ok (.iaload, 1) := by decide +kernel
theorem dX2_leave_51 : decode cX2_leave 51 = .ok (.aload_n 0, 1) := by decide +kernel
theorem dX2_leave_52 : decode cX2_leave 52 = .ok (.getfield 9, 3) := by decide +kernel
theorem dX2_leave_55 : decode cX2_leave 55 = .ok (.iload_n 2, 1) := by decide +kernel
theorem dX2_leave_56 : decode cX2_leave 56 = .ok (.iaload, 1) := by decide +kernel
theorem dX2_leave_57 : decode cX2_leave 57 = .ok (.if_icmp .ne 13, 3) := by decide +kernel
theorem dX2_leave_60 : decode cX2_leave 60 = .ok (.aload_n 0, 1) := by decide +kernel
theorem dX2_leave_61 : decode cX2_leave 61 = .ok (.dup, 1) := by decide +kernel
theorem dX2_leave_62 : decode cX2_leave 62 = .ok (.getfield 38, 3) := by decide +kernel
theorem dX2_leave_65 : decode cX2_leave 65 = .ok (.iconst 1, 1) := by decide +kernel
theorem dX2_leave_66 : decode cX2_leave 66 = .ok (.iadd, 1) := by decide +kernel
theorem dX2_leave_67 : decode cX2_leave 67 = .ok (.putfield 38, 3) := by decide +kernel
theorem dX2_leave_70 : decode cX2_leave 70 = .ok (.aload_n 0, 1) := by decide +kernel
theorem dX2_leave_71 : decode cX2_leave 71 = .ok (.getfield 18, 3) := by decide +kernel
theorem dX2_leave_74 : decode cX2_leave 74 = .ok (.iload_n 3, 1) := by decide +kernel
theorem dX2_leave_75 : decode cX2_leave 75 = .ok (.iaload, 1) := by decide +kernel
theorem dX2_leave_76 : decode cX2_leave 76 = .ok (.iconst (-1), 1) := by decide +kernel
theorem dX2_leave_77 : decode cX2_leave 77 = .ok (.if_icmp .ne 16, 3) := by decide +kernel
theorem dX2_leave_80 : decode cX2_leave 80 = .ok (.aload_n 0, 1) := by decide +kernel
theorem dX2_leave_81 : decode cX2_leave 81 = .ok (.dup, 1) := by decide +kernel
theorem dX2_leave_82 : decode cX2_leave 82 = .ok (.getfield 60, 3) := by decide +kernel
theorem dX2_leave_85 : decode cX2_leave 85 = .ok (.iconst 1, 1) := by decide +kernel
theorem dX2_leave_86 : decode cX2_leave 86 = .ok (.iadd, 1) := by decide +kernel
theorem dX2_leave_87 : decode cX2_leave 87 = .ok (.putfield 60, 3) := by decide +kernel
theorem dX2_leave_90 : decode cX2_leave 90 = .ok (.goto 23, 3) := by decide +kernel
theorem dX2_leave_93 : decode cX2_leave 93 = .ok (.aload_n 0, 1) := by decide +kernel
theorem dX2_leave_94 : decode cX2_leave 94 = .ok (.getfield 15, 3) := by decide +kernel
theorem dX2_leave_97 : decode cX2_leave 97 = .ok (.iload_n 2, 1) := by decide +kernel
theorem dX2_leave_98 : decode cX2_leave 98 = .ok (.iaload, 1) := by decide +kernel
theorem dX2_leave_99 : decode cX2_leave 99 = .ok (.aload_n 0, 1) := by decide +kernel
theorem dX2_leave_100 : decode cX2_leave 100 = .ok (.getfield 9, 3) := by decide +kernel
theorem dX2_leave_103 : decode cX2_leave 103 = .ok (.iload_n 3, 1) := by decide +kernel
theorem dX2_leave_104 : decode cX2_leave 104 = .ok (.iaload, 1) := by decide +kernel
theorem dX2_leave_105 : decode cX2_leave 105 = .ok (.if_icmp .lt 8, 3) := by decide +kernel
theorem dX2_leave_108 : decode cX2_leave 108 = .ok (.aload_n 0, 1) := by decide +kernel
theorem dX2_leave_109 : decode cX2_leave 109 = .ok (.iload_n 3, 1) := by decide +kernel
theorem dX2_leave_110 : decode cX2_leave 110 = .ok (.invokevirtual 76, 3) := by decide +kernel
theorem dX2_leave_113 : decode cX2_leave 113 = .ok (.iload_n 3, 1) := by decide +kernel
theorem dX2_leave_114 : decode cX2_leave 114 = .ok (.ireturn, 1) := by decide +kernel
theorem dX2_markCutKnot_0 : decode cX2_markCutKnot 0 = .ok (.aload_n 0, 1) := by decide +kernel
theorem dX2_markCutKnot_1 : decode cX2_markCutKnot 1 = .ok (.getfield 24, 3) := by decide +kernel
theorem dX2_markCutKnot_4 : decode cX2_markCutKnot 4 = .ok (.iload_n 1, 1) := by decide +kernel
theorem dX2_markCutKnot_5 : decode cX2_markCutKnot 5 = .ok (.baload, 1) := by decide +kernel
theorem dX2_markCutKnot_6 : decode cX2_markCutKnot 6 = .ok (.ifCond .ne 20, 3) := by decide +kernel
theorem dX2_markCutKnot_9 : decode cX2_markCutKnot 9 = .ok (.aload_n 0, 1) := by decide +kernel
theorem dX2_markCutKnot_10 : decode cX2_markCutKnot 10 = .ok (.getfield 24, 3) := by decide +kernel
theorem dX2_markCutKnot_13 : decode cX2_markCutKnot 13 = .ok (.iload_n 1, 1) := by decide +kernel
theorem dX2_markCutKnot_14 : decode cX2_markCutKnot 14 = .ok (.iconst 1, 1) := by decide +kernel
theorem dX2_markCutKnot_15 : decode cX2_markCutKnot 15 = .ok (.bastore, 1) := by decide +kernel
theorem dX2_markCutKnot_16 : decode cX2_markCutKnot 16 = .ok (.aload_n 0, 1) := by decide +kernel
theorem dX2_markCutKnot_17 : decode cX2_markCutKnot 17 = .ok (.dup, 1) := by decide +kernel
theorem dX2_markCutKnot_18 : decode cX2_markCutKnot 18 = .ok (.getfield 41, 3) := by decide +kernel
theorem dX2_markCutKnot_21 : decode cX2_markCutKnot 21 = .ok (.iconst 1, 1) := by decide +kernel
theorem dX2_markCutKnot_22 : decode cX2_markCutKnot 22 = .ok (.iadd, 1) := by decide +kernel
theorem dX2_markCutKnot_23 : decode cX2_markCutKnot 23 = .ok (.putfield 41, 3) := by decide +kernel
theorem dX2_markCutKnot_26 : decode cX2_markCutKnot 26 = .ok (.return_, 1) := by decide +kernel
theorem dX3_init_0 : decode cX3_init 0 = .ok (.aload_n 0, 1) := by decide +kernel
theorem dX3_init_1 : decode cX3_init 1 = .ok (.invokespecial 3, 3) := by decide +kernel
theorem dX3_init_4 : decode cX3_init 4 = .ok (.aload_n 0, 1) := by decide +kernel
theorem dX3_init_5 : decode cX3_init 5 = .ok (.bipush 20, 2) := by decide +kernel
theorem dX3_init_7 : decode cX3_init 7 = .ok (.newarray .int, 2) := by decide +kernel
theorem dX3_init_9 : decode cX3_init 9 = .ok (.putfield 9, 3) := by decide +kernel
theorem dX3_init_12 : decode cX3_init 12 = .ok (.aload_n 0, 1) := by decide +kernel
theorem dX3_init_13 : decode cX3_init 13 = .ok (.bipush 20, 2) := by decide +kernel
theorem dX3_init_15 : decode cX3_init 15 = .ok (.newarray .int, 2) := by decide +kernel
theorem dX3_init_17 : decode cX3_init 17 = .ok (.putfield 15, 3) := by decide +kernel
theorem dX3_init_20 : decode cX3_init 20 = .ok (.aload_n 0, 1) := by decide +kernel
theorem dX3_init_21 : decode cX3_init 21 = .ok (.bipush 20, 2) := by decide +kernel
theorem dX3_init_23 : decode cX3_init 23 = .ok (.newarray .int, 2) := by decide +kernel
theorem dX3_init_25 : decode cX3_init 25 = .ok (.putfield 18, 3) := by decide +kernel
theorem dX3_init_28 : decode cX3_init 28 = .ok (.aload_n 0, 1) := by decide +kernel
theorem dX3_init_29 : decode cX3_init 29 = .ok (.bipush 20, 2) := by decide +kernel
theorem dX3_init_31 : decode cX3_init 31 = .ok (.newarray .long, 2) := by decide +kernel
theorem dX3_init_33 : decode cX3_init 33 = .ok (.putfield 21, 3) := by decide +kernel
theorem dX3_init_36 : decode cX3_init 36 = .ok (.return_, 1) := by decide +kernel
theorem dX3_note_0 : decode cX3_note 0 = .ok (.aload_n 0, 1) := by decide +kernel
theorem dX3_note_1 : decode cX3_note 1 = .ok (.getfield 25, 3) := by decide +kernel
theorem dX3_note_4 : decode cX3_note 4 = .ok (.bipush 20, 2) := by decide +kernel
theorem dX3_note_6 : decode cX3_note 6 = .ok (.if_icmp .ne 26, 3) := by decide +kernel
theorem dX3_note_9 : decode cX3_note 9 = .ok (.aload_n 0, 1) := by decide +kernel
theorem dX3_note_10 : decode cX3_note 10 = .ok (.aload_n 0, 1) := by decide +kernel
theorem dX3_note_11 : decode cX3_note 11 = .ok (.getfield 29, 3) := by decide +kernel
theorem dX3_note_14 : decode cX3_note 14 = .ok (.iconst 1, 1) := by decide +kernel
theorem dX3_note_15 : decode cX3_note 15 = .ok (.iadd, 1) := by decide +kernel
theorem dX3_note_16 : decode cX3_note 16 = .ok (.bipush 20, 2) := by decide +kernel
theorem dX3_note_18 : decode cX3_note 18 = .ok (.irem, 1) := by decide +kernel
theorem dX3_note_19 : decode cX3_note 19 = .ok (.putfield 29, 3) := by decide +kernel
theorem dX3_note_22 : decode cX3_note 22 = .ok (.aload_n 0, 1) := by decide +kernel
theorem dX3_note_23 : decode cX3_note 23 = .ok (.dup, 1) := by decide +kernel
theorem dX3_note_24 : decode cX3_note 24 = .ok (.getfield 25, 3) := by decide +kernel
theorem dX3_note_27 : decode cX3_note 27 = .ok (.iconst 1, 1) := by decide +kernel
theorem dX3_note_28 : decode cX3_note 28 = .ok (.isub, 1) := by decide +kernel
theorem dX3_note_29 : decode cX3_note 29 = .ok (.putfield 25, 3) := by decide +kernel
theorem dX3_note_32 : decode cX3_note 32 = .ok (.aload_n 0, 1) := by decide +kernel
theorem dX3_note_33 : decode cX3_note 33 = .ok (.getfield 29, 3) := by decide +kernel
theorem dX3_note_36 : decode cX3_note 36 = .ok (.aload_n 0, 1) := by decide +kernel
theorem dX3_note_37 : decode cX3_note 37 = .ok (.getfield 25, 3) := by decide +kernel
theorem dX3_note_40 : decode cX3_note 40 = .ok (.iadd, 1) := by decide +kernel
theorem dX3_note_41 : decode cX3_note 41 = .ok (.bipush 20, 2) := by decide +kernel
theorem dX3_note_43 : decode cX3_note 43 = .ok (.irem, 1) := by decide +kernel
theorem dX3_note_44 : decode cX3_note 44 = .ok (.istore 6, 2) := by decide +kernel
theorem dX3_note_46 : decode cX3_note 46 = .ok (.aload_n 0, 1) := by decide +kernel
theorem dX3_note_47 : decode cX3_note 47 = .ok (.getfield 9, 3) := by decide +kernel
theorem dX3_note_50 : decode cX3_note 50 = .ok (.iload 6, 2) := by decide +kernel
theorem dX3_note_52 : decode cX3_note 52 = .ok (.iload_n 1, 1) := by decide +kernel
theorem dX3_note_53 : decode cX3_note 53 = .ok (.iastore, 1) := by decide +kernel
theorem dX3_note_54 : decode cX3_note 54 = .ok (.aload_n 0, 1) := by decide +kernel
theorem dX3_note_55 : decode cX3_note 55 = .ok (.getfield 15, 3) := by decide +kernel
theorem dX3_note_58 : decode cX3_note 58 = .ok (.iload 6, 2) := by decide +kernel
theorem dX3_note_60 : decode cX3_note 60 = .ok (.iload_n 2, 1) := by decide +kernel
theorem dX3_note_61 : decode cX3_note 61 = .ok (.iastore, 1) := by decide +kernel
theorem dX3_note_62 : decode cX3_note 62 = .ok (.aload_n 0, 1) := by decide +kernel
theorem dX3_note_63 : decode cX3_note 63 = .ok (.getfield 18, 3) := by decide +kernel
theorem dX3_note_66 : decode cX3_note 66 = .ok (.iload 6, 2) := by decide +kernel
theorem dX3_note_68 : decode cX3_note 68 = .ok (.iload_n 3, 1) := by decide +kernel
theorem dX3_note_69 : decode cX3_note 69 = .ok (.iastore, 1) := by decide +kernel
theorem dX3_note_70 : decode cX3_note 70 = .ok (.aload_n 0, 1) := by decide +kernel
theorem dX3_note_71 : decode cX3_note 71 = .ok (.getfield 21, 3) := by decide +kernel
theorem dX3_note_74 : decode cX3_note 74 = .ok (.iload 6, 2) := by decide +kernel
theorem dX3_note_76 : decode cX3_note 76 = .ok (.lload 4, 2) := by decide +kernel
theorem dX3_note_78 : decode cX3_note 78 = .ok (.lastore, 1) := by decide +kernel
theorem dX3_note_79 : decode cX3_note 79 = .ok (.aload_n 0, 1) := by decide +kernel
theorem dX3_note_80 : decode cX3_note 80 = .ok (.dup, 1) := by decide +kernel
theorem dX3_note_81 : decode cX3_note 81 = .ok (.getfield 25, 3) := by decide +kernel
theorem dX3_note_84 : decode cX3_note 84 = .ok (.iconst 1, 1) := by decide +kernel
theorem dX3_note_85 : decode cX3_note 85 = .ok (.iadd, 1) := by decide +kernel
theorem dX3_note_86 : decode cX3_note 86 = .ok (.putfield 25, 3) := by decide +kernel
theorem dX3_note_89 : decode cX3_note 89 = .ok (.return_, 1) := by decide +kernel
theorem dX3_takeLatest_0 : decode cX3_takeLatest 0 = .ok (.aload_n 0, 1) := by decide +kernel
theorem dX3_takeLatest_1 : decode cX3_takeLatest 1 = .ok (.getfield 25, 3) := by decide +kernel
theorem dX3_takeLatest_4 : decode cX3_takeLatest 4 = .ok (.ifCond .ne 5, 3) := by decide +kernel
theorem dX3_takeLatest_7 : decode cX3_takeLatest 7 = .ok (.iconst (-1), 1) := by decide +kernel
theorem dX3_takeLatest_8 : decode cX3_takeLatest 8 = .ok (.ireturn, 1) := by decide +kernel
theorem dX3_takeLatest_9 : decode cX3_takeLatest 9 = .ok (.aload_n 0, 1) := by decide +kernel
theorem dX3_takeLatest_10 : decode cX3_takeLatest 10 = .ok (.dup, 1) := by decide +kernel
theorem dX3_takeLatest_11 : decode cX3_takeLatest 11 = .ok (.getfield 25, 3) := by decide +kernel
theorem dX3_takeLatest_14 : decode cX3_takeLatest 14 = .ok (.iconst 1, 1) := by decide +kernel
end
section
theorem dX3_takeLatest_15 : decode cX3_takeLatest 15 = .ok (.isub, 1) := by decide +kernel
theorem dX3_takeLatest_16 : decode cX3_takeLatest 16 = .ok (.putfield 25, 3) := by decide +kernel
theorem dX3_takeLatest_19 : decode cX3_takeLatest 19 = .ok (.aload_n 0, 1) := by decide +kernel
theorem dX3_takeLatest_20 : decode cX3_takeLatest 20 = .ok (.getfield 29, 3) := by decide +kernel
theorem dX3_takeLatest_23 : decode cX3_takeLatest 23 = .ok (.aload_n 0, 1) := by decide +kernel
theorem dX3_takeLatest_24 : decode cX3_takeLatest 24 = .ok (.getfield 25, 3) := by decide +kernel
theorem dX3_takeLatest_27 : decode cX3_takeLatest 27 = .ok (.iadd, 1) := by decide +kernel
theorem dX3_takeLatest_28 : decode cX3_takeLatest 28 = .ok (.bipush 20, 2) := by decide +kernel
theorem dX3_takeLatest_30 : decode cX3_takeLatest 30 = .ok (.irem, 1) := by decide +kernel
theorem dX3_takeLatest_31 : decode cX3_takeLatest 31 = .ok (.ireturn, 1) := by decide +kernel
theorem dX3_forget_0 : decode cX3_forget 0 = .ok (.aload_n 0, 1) := by decide +kernel
theorem dX3_forget_1 : decode cX3_forget 1 = .ok (.iconst 0, 1) := by decide +kernel
theorem dX3_forget_2 : decode cX3_forget 2 = .ok (.putfield 25, 3) := by decide +kernel
theorem dX3_forget_5 : decode cX3_forget 5 = .ok (.return_, 1) := by decide +kernel
theorem dX4_init_0 : decode cX4_init 0 = .ok (.aload_n 0, 1) := by decide +kernel
theorem dX4_init_1 : decode cX4_init 1 = .ok (.invokespecial 3, 3) := by decide +kernel
theorem dX4_init_4 : decode cX4_init 4 = .ok (.aload_n 0, 1) := by decide +kernel
theorem dX4_init_5 : decode cX4_init 5 = .ok (.bipush 100, 2) := by decide +kernel
theorem dX4_init_7 : decode cX4_init 7 = .ok (.newarray .long, 2) := by decide +kernel
theorem dX4_init_9 : decode cX4_init 9 = .ok (.putfield 9, 3) := by decide +kernel
theorem dX4_init_12 : decode cX4_init 12 = .ok (.aload_n 0, 1) := by decide +kernel
theorem dX4_init_13 : decode cX4_init 13 = .ok (.iconst 0, 1) := by decide +kernel
theorem dX4_init_14 : decode cX4_init 14 = .ok (.putfield 15, 3) := by decide +kernel
theorem dX4_init_17 : decode cX4_init 17 = .ok (.return_, 1) := by decide +kernel
theorem dX4_begin_0 : decode cX4_begin 0 = .ok (.aload_n 0, 1) := by decide +kernel
theorem dX4_begin_1 : decode cX4_begin 1 = .ok (.iload_n 1, 1) := by decide +kernel
theorem dX4_begin_2 : decode cX4_begin 2 = .ok (.putfield 15, 3) := by decide +kernel
theorem dX4_begin_5 : decode cX4_begin 5 = .ok (.aload_n 0, 1) := by decide +kernel
theorem dX4_begin_6 : decode cX4_begin 6 = .ok (.iconst 0, 1) := by decide +kernel
theorem dX4_begin_7 : decode cX4_begin 7 = .ok (.putfield 19, 3) := by decide +kernel
theorem dX4_begin_10 : decode cX4_begin 10 = .ok (.return_, 1) := by decide +kernel
theorem dX4_lay_0 : decode cX4_lay 0 = .ok (.aload_n 0, 1) := by decide +kernel
theorem dX4_lay_1 : decode cX4_lay 1 = .ok (.getfield 19, 3) := by decide +kernel
theorem dX4_lay_4 : decode cX4_lay 4 = .ok (.aload_n 0, 1) := by decide +kernel
theorem dX4_lay_5 : decode cX4_lay 5 = .ok (.getfield 9, 3) := by decide +kernel
theorem dX4_lay_8 : decode cX4_lay 8 = .ok (.arraylength, 1) := by decide +kernel
theorem dX4_lay_9 : decode cX4_lay 9 = .ok (.if_icmp .ge 23, 3) := by decide +kernel
theorem dX4_lay_12 : decode cX4_lay 12 = .ok (.aload_n 0, 1) := by decide +kernel
theorem dX4_lay_13 : decode cX4_lay 13 = .ok (.getfield 9, 3) := by decide +kernel
theorem dX4_lay_16 : decode cX4_lay 16 = .ok (.aload_n 0, 1) := by decide +kernel
theorem dX4_lay_17 : decode cX4_lay 17 = .ok (.getfield 19, 3) := by decide +kernel
theorem dX4_lay_20 : decode cX4_lay 20 = .ok (.lload_n 1, 1) := by decide +kernel
theorem dX4_lay_21 : decode cX4_lay 21 = .ok (.lastore, 1) := by decide +kernel
theorem dX4_lay_22 : decode cX4_lay 22 = .ok (.aload_n 0, 1) := by decide +kernel
theorem dX4_lay_23 : decode cX4_lay 23 = .ok (.dup, 1) := by decide +kernel
theorem dX4_lay_24 : decode cX4_lay 24 = .ok (.getfield 19, 3) := by decide +kernel
theorem dX4_lay_27 : decode cX4_lay 27 = .ok (.iconst 1, 1) := by decide +kernel
theorem dX4_lay_28 : decode cX4_lay 28 = .ok (.iadd, 1) := by decide +kernel
theorem dX4_lay_29 : decode cX4_lay 29 = .ok (.putfield 19, 3) := by decide +kernel
theorem dX4_lay_32 : decode cX4_lay 32 = .ok (.return_, 1) := by decide +kernel
theorem dX5_init_0 : decode cX5_init 0 = .ok (.aload_n 0, 1) := by decide +kernel
theorem dX5_init_1 : decode cX5_init 1 = .ok (.invokespecial 3, 3) := by decide +kernel
theorem dX5_init_4 : decode cX5_init 4 = .ok (.aload_n 0, 1) := by decide +kernel
theorem dX5_init_5 : decode cX5_init 5 = .ok (.bipush 100, 2) := by decide +kernel
theorem dX5_init_7 : decode cX5_init 7 = .ok (.newarray .int, 2) := by decide +kernel
theorem dX5_init_9 : decode cX5_init 9 = .ok (.putfield 9, 3) := by decide +kernel
theorem dX5_init_12 : decode cX5_init 12 = .ok (.aload_n 0, 1) := by decide +kernel
theorem dX5_init_13 : decode cX5_init 13 = .ok (.bipush 100, 2) := by decide +kernel
theorem dX5_init_15 : decode cX5_init 15 = .ok (.newarray .int, 2) := by decide +kernel
theorem dX5_init_17 : decode cX5_init 17 = .ok (.putfield 15, 3) := by decide +kernel
theorem dX5_init_20 : decode cX5_init 20 = .ok (.aload_n 0, 1) := by decide +kernel
theorem dX5_init_21 : decode cX5_init 21 = .ok (.iconst (-1), 1) := by decide +kernel
theorem dX5_init_22 : decode cX5_init 22 = .ok (.putfield 18, 3) := by decide +kernel
theorem dX5_init_25 : decode cX5_init 25 = .ok (.return_, 1) := by decide +kernel
theorem dX5_lay_0 : decode cX5_lay 0 = .ok (.aload_n 2, 1) := by decide +kernel
theorem dX5_lay_1 : decode cX5_lay 1 = .ok (.getfield 22, 3) := by decide +kernel
theorem dX5_lay_4 : decode cX5_lay 4 = .ok (.iload_n 3, 1) := by decide +kernel
theorem dX5_lay_5 : decode cX5_lay 5 = .ok (.baload, 1) := by decide +kernel
theorem dX5_lay_6 : decode cX5_lay 6 = .ok (.ifCond .ne 9, 3) := by decide +kernel
theorem dX5_lay_9 : decode cX5_lay 9 = .ok (.aload_n 0, 1) := by decide +kernel
theorem dX5_lay_10 : decode cX5_lay 10 = .ok (.iconst (-1), 1) := by decide +kernel
theorem dX5_lay_11 : decode cX5_lay 11 = .ok (.putfield 18, 3) := by decide +kernel
theorem dX5_lay_14 : decode cX5_lay 14 = .ok (.return_, 1) := by decide +kernel
theorem dX5_lay_15 : decode cX5_lay 15 = .ok (.aload_n 0, 1) := by decide +kernel
theorem dX5_lay_16 : decode cX5_lay 16 = .ok (.aload_n 2, 1) := by decide +kernel
theorem dX5_lay_17 : decode cX5_lay 17 = .ok (.getfield 28, 3) := by decide +kernel
theorem dX5_lay_20 : decode cX5_lay 20 = .ok (.iload_n 3, 1) := by decide +kernel
theorem dX5_lay_21 : decode cX5_lay 21 = .ok (.iaload, 1) := by decide +kernel
theorem dX5_lay_22 : decode cX5_lay 22 = .ok (.putfield 18, 3) := by decide +kernel
theorem dX5_lay_25 : decode cX5_lay 25 = .ok (.iload_n 3, 1) := by decide +kernel
theorem dX5_lay_26 : decode cX5_lay 26 = .ok (.istore 4, 2) := by decide +kernel
theorem dX5_lay_28 : decode cX5_lay 28 = .ok (.iconst 0, 1) := by decide +kernel
theorem dX5_lay_29 : decode cX5_lay 29 = .ok (.istore 5, 2) := by decide +kernel
theorem dX5_lay_31 : decode cX5_lay 31 = .ok (.iload 5, 2) := by decide +kernel
theorem dX5_lay_33 : decode cX5_lay 33 = .ok (.aload_n 0, 1) := by decide +kernel
theorem dX5_lay_34 : decode cX5_lay 34 = .ok (.getfield 18, 3) := by decide +kernel
theorem dX5_lay_37 : decode cX5_lay 37 = .ok (.if_icmp .ge 41, 3) := by decide +kernel
theorem dX5_lay_40 : decode cX5_lay 40 = .ok (.aload_n 0, 1) := by decide +kernel
theorem dX5_lay_41 : decode cX5_lay 41 = .ok (.getfield 9, 3) := by decide +kernel
theorem dX5_lay_44 : decode cX5_lay 44 = .ok (.iload 5, 2) := by decide +kernel
theorem dX5_lay_46 : decode cX5_lay 46 = .ok (.iload 4, 2) := by decide +kernel
theorem dX5_lay_48 : decode cX5_lay 48 = .ok (.iastore, 1) := by decide +kernel
theorem dX5_lay_49 : decode cX5_lay 49 = .ok (.aload_n 0, 1) := by decide +kernel
theorem dX5_lay_50 : decode cX5_lay 50 = .ok (.getfield 15, 3) := by decide +kernel
theorem dX5_lay_53 : decode cX5_lay 53 = .ok (.iload 5, 2) := by decide +kernel
theorem dX5_lay_55 : decode cX5_lay 55 = .ok (.aload_n 2, 1) := by decide +kernel
theorem dX5_lay_56 : decode cX5_lay 56 = .ok (.getfield 31, 3) := by decide +kernel
theorem dX5_lay_59 : decode cX5_lay 59 = .ok (.iload 4, 2) := by decide +kernel
theorem dX5_lay_61 : decode cX5_lay 61 = .ok (.iaload, 1) := by decide +kernel
theorem dX5_lay_62 : decode cX5_lay 62 = .ok (.iastore, 1) := by decide +kernel
theorem dX5_lay_63 : decode cX5_lay 63 = .ok (.aload_n 2, 1) := by decide +kernel
theorem dX5_lay_64 : decode cX5_lay 64 = .ok (.aload_n 1, 1) := by decide +kernel
theorem dX5_lay_65 : decode cX5_lay 65 = .ok (.iload 4, 2) := by decide +kernel
theorem dX5_lay_67 : decode cX5_lay 67 = .ok (.invokevirtual 34, 3) := by decide +kernel
theorem dX5_lay_70 : decode cX5_lay 70 = .ok (.istore 4, 2) := by decide +kernel
theorem dX5_lay_72 : decode cX5_lay 72 = .ok (.iinc 5 1, 3) := by decide +kernel
theorem dX5_lay_75 : decode cX5_lay 75 = .ok (.goto (-44), 3) := by decide +kernel
theorem dX5_lay_78 : decode cX5_lay 78 = .ok (.aload_n 0, 1) := by decide +kernel
theorem dX5_lay_79 : decode cX5_lay 79 = .ok (.getfield 9, 3) := by decide +kernel
theorem dX5_lay_82 : decode cX5_lay 82 = .ok (.aload_n 0, 1) := by decide +kernel
theorem dX5_lay_83 : decode cX5_lay 83 = .ok (.getfield 18, 3) := by decide +kernel
theorem dX5_lay_86 : decode cX5_lay 86 = .ok (.iload 4, 2) := by decide +kernel
theorem dX5_lay_88 : decode cX5_lay 88 = .ok (.iastore, 1) := by decide +kernel
theorem dX5_lay_89 : decode cX5_lay 89 = .ok (.return_, 1) := by decide +kernel
theorem dX5_heaviestOf_0 : decode cX5_heaviestOf 0 = .ok (.iconst (-1), 1) := by decide +kernel
theorem dX5_heaviestOf_1 : decode cX5_heaviestOf 1 = .ok (.istore_n 2, 1) := by decide +kernel
theorem dX5_heaviestOf_2 : decode cX5_heaviestOf 2 = .ok (.iconst 0, 1) := by decide +kernel
theorem dX5_heaviestOf_3 : decode cX5_heaviestOf 3 = .ok (.istore_n 3, 1) := by decide +kernel
theorem dX5_heaviestOf_4 : decode cX5_heaviestOf 4 = .ok (.iload_n 3, 1) := by decide +kernel
theorem dX5_heaviestOf_5 : decode cX5_heaviestOf 5 = .ok (.aload_n 0, 1) := by decide +kernel
theorem dX5_heaviestOf_6 : decode cX5_heaviestOf 6 = .ok (.getfield 18, 3) := by decide +kernel
theorem dX5_heaviestOf_9 : decode cX5_heaviestOf 9 = .ok (.if_icmp .ge 35, 3) := by decide +kernel
theorem dX5_heaviestOf_12 : decode cX5_heaviestOf 12 = .ok (.iload_n 2, 1) := by decide +kernel
theorem dX5_heaviestOf_13 : decode cX5_heaviestOf 13 = .ok (.iconst (-1), 1) := by decide +kernel
theorem dX5_heaviestOf_14 : decode cX5_heaviestOf 14 = .ok (.if_icmp .eq 17, 3) := by decide +kernel
theorem dX5_heaviestOf_17 : decode cX5_heaviestOf 17 = .ok (.aload_n 1, 1) := by decide +kernel
theorem dX5_heaviestOf_18 : decode cX5_heaviestOf 18 = .ok (.aload_n 0, 1) := by decide +kernel
theorem dX5_heaviestOf_19 : decode cX5_heaviestOf 19 = .ok (.getfield 15, 3) := by decide +kernel
theorem dX5_heaviestOf_22 : decode cX5_heaviestOf 22 = .ok (.iload_n 3, 1) := by decide +kernel
theorem dX5_heaviestOf_23 : decode cX5_heaviestOf 23 = .ok (.iaload, 1) := by decide +kernel
theorem dX5_heaviestOf_24 : decode cX5_heaviestOf 24 = .ok (.iload_n 2, 1) := by decide +kernel
theorem dX5_heaviestOf_25 : decode cX5_heaviestOf 25 = .ok (.invokevirtual 38, 3) := by decide +kernel
theorem dX5_heaviestOf_28 : decode cX5_heaviestOf 28 = .ok (.ifCond .eq 10, 3) := by decide +kernel
theorem dX5_heaviestOf_31 : decode cX5_heaviestOf 31 = .ok (.aload_n 0, 1) := by decide +kernel
theorem dX5_heaviestOf_32 : decode cX5_heaviestOf 32 = .ok (.getfield 15, 3) := by decide +kernel
theorem dX5_heaviestOf_35 : decode cX5_heaviestOf 35 = .ok (.iload_n 3, 1) := by decide +kernel
theorem dX5_heaviestOf_36 : decode cX5_heaviestOf 36 = .ok (.iaload, 1) := by decide +kernel
theorem dX5_heaviestOf_37 : decode cX5_heaviestOf 37 = .ok (.istore_n 2, 1) := by decide +kernel
theorem dX5_heaviestOf_38 : decode cX5_heaviestOf 38 = .ok (.iinc 3 1, 3) := by decide +kernel
theorem dX5_heaviestOf_41 : decode cX5_heaviestOf 41 = .ok (.goto (-37), 3) := by decide +kernel
theorem dX5_heaviestOf_44 : decode cX5_heaviestOf 44 = .ok (.iload_n 2, 1) := by decide +kernel
theorem dX5_heaviestOf_45 : decode cX5_heaviestOf 45 = .ok (.ireturn, 1) := by decide +kernel
theorem dJ9_min_7cf53_0 : decode cJ9_min_7cf53 0 = .ok (.iload_n 0, 1) := by decide +kernel
theorem dJ9_min_7cf53_1 : decode cJ9_min_7cf53 1 = .ok (.iload_n 1, 1) := by decide +kernel
theorem dJ9_min_7cf53_2 : decode cJ9_min_7cf53 2 = .ok (.if_icmp .gt 7, 3) := by decide +kernel
theorem dJ9_min_7cf53_5 : decode cJ9_min_7cf53 5 = .ok (.iload_n 0, 1) := by decide +kernel
theorem dJ9_min_7cf53_6 : decode cJ9_min_7cf53 6 = .ok (.goto 4, 3) := by decide +kernel
theorem dJ9_min_7cf53_9 : decode cJ9_min_7cf53 9 = .ok (.iload_n 1, 1) := by decide +kernel
theorem dJ9_min_7cf53_10 : decode cJ9_min_7cf53 10 = .ok (.ireturn, 1) := by decide +kernel
theorem dJ9_min_f86c9_0 : decode cJ9_min_f86c9 0 = .ok (.lload_n 0, 1) := by decide +kernel
theorem dJ9_min_f86c9_1 : decode cJ9_min_f86c9 1 = .ok (.lload_n 2, 1) := by decide +kernel
theorem dJ9_min_f86c9_2 : decode cJ9_min_f86c9 2 = .ok (.lcmp, 1) := by decide +kernel
theorem dJ9_min_f86c9_3 : decode cJ9_min_f86c9 3 = .ok (.ifCond .gt 7, 3) := by decide +kernel
theorem dJ9_min_f86c9_6 : decode cJ9_min_f86c9 6 = .ok (.lload_n 0, 1) := by decide +kernel
theorem dJ9_min_f86c9_7 : decode cJ9_min_f86c9 7 = .ok (.goto 4, 3) := by decide +kernel
theorem dJ9_min_f86c9_10 : decode cJ9_min_f86c9 10 = .ok (.lload_n 2, 1) := by decide +kernel
theorem dJ9_min_f86c9_11 : decode cJ9_min_f86c9 11 = .ok (.lreturn, 1) := by decide +kernel
theorem dJ7_fill_53178_0 : decode cJ7_fill_53178 0 = .ok (.iconst 0, 1) := by decide +kernel
theorem dJ7_fill_53178_1 : decode cJ7_fill_53178 1 = .ok (.istore_n 2, 1) := by decide +kernel
theorem dJ7_fill_53178_2 : decode cJ7_fill_53178 2 = .ok (.aload_n 0, 1) := by decide +kernel
theorem dJ7_fill_53178_3 : decode cJ7_fill_53178 3 = .ok (.arraylength, 1) := by decide +kernel
theorem dJ7_fill_53178_4 : decode cJ7_fill_53178 4 = .ok (.istore_n 3, 1) := by decide +kernel
theorem dJ7_fill_53178_5 : decode cJ7_fill_53178 5 = .ok (.iload_n 2, 1) := by decide +kernel
theorem dJ7_fill_53178_6 : decode cJ7_fill_53178 6 = .ok (.iload_n 3, 1) := by decide +kernel
theorem dJ7_fill_53178_7 : decode cJ7_fill_53178 7 = .ok (.if_icmp .ge 13, 3) := by decide +kernel
theorem dJ7_fill_53178_10 : decode cJ7_fill_53178 10 = .ok (.aload_n 0, 1) := by decide +kernel
theorem dJ7_fill_53178_11 : decode cJ7_fill_53178 11 = .ok (.iload_n 2, 1) := by decide +kernel
theorem dJ7_fill_53178_12 : decode cJ7_fill_53178 12 = .ok (.iload_n 1, 1) := by decide +kernel
theorem dJ7_fill_53178_13 : decode cJ7_fill_53178 13 = .ok (.iastore, 1) := by decide +kernel
theorem dJ7_fill_53178_14 : decode cJ7_fill_53178 14 = .ok (.iinc 2 1, 3) := by decide +kernel
theorem dJ7_fill_53178_17 : decode cJ7_fill_53178 17 = .ok (.goto (-12), 3) := by decide +kernel
theorem dJ7_fill_53178_20 : decode cJ7_fill_53178 20 = .ok (.return_, 1) := by decide +kernel
theorem dX6_init_0 : decode cX6_init 0 = .ok (.aload_n 0, 1) := by decide +kernel
theorem dX6_init_1 : decode cX6_init 1 = .ok (.invokespecial 1, 3) := by decide +kernel
theorem dX6_init_4 : decode cX6_init 4 = .ok (.aload_n 0, 1) := by decide +kernel
theorem dX6_init_5 : decode cX6_init 5 = .ok (.bipush 100, 2) := by decide +kernel
theorem dX6_init_7 : decode cX6_init 7 = .ok (.newarray .long, 2) := by decide +kernel
theorem dX6_init_9 : decode cX6_init 9 = .ok (.putfield 9, 3) := by decide +kernel
theorem dX6_init_12 : decode cX6_init 12 = .ok (.aload_n 0, 1) := by decide +kernel
theorem dX6_init_13 : decode cX6_init 13 = .ok (.bipush 100, 2) := by decide +kernel
theorem dX6_init_15 : decode cX6_init 15 = .ok (.newarray .int, 2) := by decide +kernel
theorem dX6_init_17 : decode cX6_init 17 = .ok (.putfield 13, 3) := by decide +kernel
theorem dX6_init_20 : decode cX6_init 20 = .ok (.aload_n 0, 1) := by decide +kernel
theorem dX6_init_21 : decode cX6_init 21 = .ok (.new 17, 3) := by decide +kernel
theorem dX6_init_24 : decode cX6_init 24 = .ok (.dup, 1) := by decide +kernel
theorem dX6_init_25 : decode cX6_init 25 = .ok (.invokespecial 19, 3) := by decide +kernel
theorem dX6_init_28 : decode cX6_init 28 = .ok (.putfield 20, 3) := by decide +kernel
theorem dX6_init_31 : decode cX6_init 31 = .ok (.aload_n 0, 1) := by decide +kernel
theorem dX6_init_32 : decode cX6_init 32 = .ok (.new 24, 3) := by decide +kernel
theorem dX6_init_35 : decode cX6_init 35 = .ok (.dup, 1) := by decide +kernel
theorem dX6_init_36 : decode cX6_init 36 = .ok (.invokespecial 26, 3) := by decide +kernel
theorem dX6_init_39 : decode cX6_init 39 = .ok (.putfield 27, 3) := by decide +kernel
theorem dX6_init_42 : decode cX6_init 42 = .ok (.aload_n 0, 1) := by decide +kernel
theorem dX6_init_43 : decode cX6_init 43 = .ok (.new 24, 3) := by decide +kernel
theorem dX6_init_46 : decode cX6_init 46 = .ok (.dup, 1) := by decide +kernel
theorem dX6_init_47 : decode cX6_init 47 = .ok (.invokespecial 26, 3) := by decide +kernel
theorem dX6_init_50 : decode cX6_init 50 = .ok (.putfield 31, 3) := by decide +kernel
theorem dX6_init_53 : decode cX6_init 53 = .ok (.aload_n 0, 1) := by decide +kernel
theorem dX6_init_54 : decode cX6_init 54 = .ok (.new 34, 3) := by decide +kernel
theorem dX6_init_57 : decode cX6_init 57 = .ok (.dup, 1) := by decide +kernel
theorem dX6_init_58 : decode cX6_init 58 = .ok (.invokespecial 36, 3) := by decide +kernel
theorem dX6_init_61 : decode cX6_init 61 = .ok (.putfield 37, 3) := by decide +kernel
theorem dX6_init_64 : decode cX6_init 64 = .ok (.aload_n 0, 1) := by decide +kernel
theorem dX6_init_65 : decode cX6_init 65 = .ok (.new 41, 3) := by decide +kernel
theorem dX6_init_68 : decode cX6_init 68 = .ok (.dup, 1) := by decide +kernel
theorem dX6_init_69 : decode cX6_init 69 = .ok (.invokespecial 43, 3) := by decide +kernel
theorem dX6_init_72 : decode cX6_init 72 = .ok (.putfield 44, 3) := by decide +kernel
theorem dX6_init_75 : decode cX6_init 75 = .ok (.aload_n 0, 1) := by decide +kernel
theorem dX6_init_76 : decode cX6_init 76 = .ok (.new 48, 3) := by decide +kernel
theorem dX6_init_79 : decode cX6_init 79 = .ok (.dup, 1) := by decide +kernel
theorem dX6_init_80 : decode cX6_init 80 = .ok (.invokespecial 50, 3) := by decide +kernel
theorem dX6_init_83 : decode cX6_init 83 = .ok (.putfield 51, 3) := by decide +kernel
theorem dX6_init_86 : decode cX6_init 86 = .ok (.aload_n 0, 1) := by decide +kernel
theorem dX6_init_87 : decode cX6_init 87 = .ok (.bipush 6, 2) := by decide +kernel
theorem dX6_init_89 : decode cX6_init 89 = .ok (.anewarray 55, 3) := by decide +kernel
theorem dX6_init_92 : decode cX6_init 92 = .ok (.putfield 57, 3) := by decide +kernel
theorem dX6_init_95 : decode cX6_init 95 = .ok (.aload_n 0, 1) := by decide +kernel
theorem dX6_init_96 : decode cX6_init 96 = .ok (.iconst 0, 1) := by decide +kernel
theorem dX6_init_97 : decode cX6_init 97 = .ok (.putfield 61, 3) := by decide +kernel
theorem dX6_init_100 : decode cX6_init 100 = .ok (.aload_n 0, 1) := by decide +kernel
theorem dX6_init_101 : decode cX6_init 101 = .ok (.iconst 0, 1) := by decide +kernel
theorem dX6_init_102 : decode cX6_init 102 = .ok (.putfield 65, 3) := by decide +kernel
theorem dX6_init_105 : decode cX6_init 105 = .ok (.iconst 0, 1) := by decide +kernel
theorem dX6_init_106 : decode cX6_init 106 = .ok (.istore_n 1, 1) := by decide +kernel
theorem dX6_init_107 : decode cX6_init 107 = .ok (.iload_n 1, 1) := by decide +kernel
theorem dX6_init_108 : decode cX6_init 108 = .ok (.bipush 6, 2) := by decide +kernel
theorem dX6_init_110 : decode cX6_init 110 = .ok (.if_icmp .ge 22, 3) := by decide +kernel
theorem dX6_init_113 : decode cX6_init 113 = .ok (.aload_n 0, 1) := by decide +kernel
theorem dX6_init_114 : decode cX6_init 114 = .ok (.getfield 57, 3) := by decide +kernel
theorem dX6_init_117 : decode cX6_init 117 = .ok (.iload_n 1, 1) := by decide +kernel
theorem dX6_init_118 : decode cX6_init 118 = .ok (.new 55, 3) := by decide +kernel
theorem dX6_init_121 : decode cX6_init 121 = .ok (.dup, 1) := by decide +kernel
theorem dX6_init_122 : decode cX6_init 122 = .ok (.invokespecial 68, 3) := by decide +kernel
theorem dX6_init_125 : decode cX6_init 125 = .ok (.aastore, 1) := by decide +kernel
theorem dX6_init_126 : decode cX6_init 126 = .ok (.iinc 1 1, 3) := by decide +kernel
theorem dX6_init_129 : decode cX6_init 129 = .ok (.goto (-22), 3) := by decide +kernel
theorem dX6_init_132 : decode cX6_init 132 = .ok (.return_, 1) := by decide +kernel
theorem dX6_knot_0 : decode cX6_knot 0 = .ok (.aload_n 0, 1) := by decide +kernel
theorem dX6_knot_1 : decode cX6_knot 1 = .ok (.getfield 69, 3) := by decide +kernel
theorem dX6_knot_4 : decode cX6_knot 4 = .ok (.bipush 100, 2) := by decide +kernel
theorem dX6_knot_6 : decode cX6_knot 6 = .ok (.if_icmp .lt 6, 3) := by decide +kernel
theorem dX6_knot_9 : decode cX6_knot 9 = .ok (.bipush (-4), 2) := by decide +kernel
theorem dX6_knot_11 : decode cX6_knot 11 = .ok (.ireturn, 1) := by decide +kernel
theorem dX6_knot_12 : decode cX6_knot 12 = .ok (.aload_n 0, 1) := by decide +kernel
theorem dX6_knot_13 : decode cX6_knot 13 = .ok (.getfield 9, 3) := by decide +kernel
theorem dX6_knot_16 : decode cX6_knot 16 = .ok (.aload_n 0, 1) := by decide +kernel
theorem dX6_knot_17 : decode cX6_knot 17 = .ok (.getfield 69, 3) := by decide +kernel
theorem dX6_knot_20 : decode cX6_knot 20 = .ok (.lload_n 1, 1) := by decide +kernel
theorem dX6_knot_21 : decode cX6_knot 21 = .ok (.lastore, 1) := by decide +kernel
theorem dX6_knot_22 : decode cX6_knot 22 = .ok (.aload_n 0, 1) := by decide +kernel
theorem dX6_knot_23 : decode cX6_knot 23 = .ok (.getfield 51, 3) := by decide +kernel
theorem dX6_knot_26 : decode cX6_knot 26 = .ok (.invokevirtual 72, 3) := by decide +kernel
theorem dX6_knot_29 : decode cX6_knot 29 = .ok (.aload_n 0, 1) := by decide +kernel
theorem dX6_knot_30 : decode cX6_knot 30 = .ok (.dup, 1) := by decide +kernel
theorem dX6_knot_31 : decode cX6_knot 31 = .ok (.getfield 69, 3) := by decide +kernel
theorem dX6_knot_34 : decode cX6_knot 34 = .ok (.dup_x1, 1) := by decide +kernel
theorem dX6_knot_35 : decode cX6_knot 35 = .ok (.iconst 1, 1) := by decide +kernel
theorem dX6_knot_36 : decode cX6_knot 36 = .ok (.iadd, 1) := by decide +kernel
theorem dX6_knot_37 : decode cX6_knot 37 = .ok (.putfield 69, 3) := by decide +kernel
theorem dX6_knot_40 : decode cX6_knot 40 = .ok (.ireturn, 1) := by decide +kernel
theorem dX6_kind_0 : decode cX6_kind 0 = .ok (.iload_n 1, 1) := by decide +kernel
theorem dX6_kind_1 : decode cX6_kind 1 = .ok (.ifCond .lt 8, 3) := by decide +kernel
theorem dX6_kind_4 : decode cX6_kind 4 = .ok (.iload_n 1, 1) := by decide +kernel
theorem dX6_kind_5 : decode cX6_kind 5 = .ok (.iconst 2, 1) := by decide +kernel
theorem dX6_kind_6 : decode cX6_kind 6 = .ok (.if_icmp .le 6, 3) := by decide +kernel
theorem dX6_kind_9 : decode cX6_kind 9 = .ok (.bipush (-2), 2) := by decide +kernel
theorem dX6_kind_11 : decode cX6_kind 11 = .ok (.ireturn, 1) := by decide +kernel
theorem dX6_kind_12 : decode cX6_kind 12 = .ok (.aload_n 0, 1) := by decide +kernel
theorem dX6_kind_13 : decode cX6_kind 13 = .ok (.getfield 20, 3) := by decide +kernel
theorem dX6_kind_16 : decode cX6_kind 16 = .ok (.getfield 75, 3) := by decide +kernel
theorem dX6_kind_19 : decode cX6_kind 19 = .ok (.ifCond .le 6, 3) := by decide +kernel
theorem dX6_kind_22 : decode cX6_kind 22 = .ok (.bipush (-3), 2) := by decide +kernel
theorem dX6_kind_24 : decode cX6_kind 24 = .ok (.ireturn, 1) := by decide +kernel
theorem dX6_kind_25 : decode cX6_kind 25 = .ok (.aload_n 0, 1) := by decide +kernel
theorem dX6_kind_26 : decode cX6_kind 26 = .ok (.getfield 61, 3) := by decide +kernel
theorem dX6_kind_29 : decode cX6_kind 29 = .ok (.istore_n 2, 1) := by decide +kernel
theorem dX6_kind_30 : decode cX6_kind 30 = .ok (.aload_n 0, 1) := by decide +kernel
theorem dX6_kind_31 : decode cX6_kind 31 = .ok (.iload_n 1, 1) := by decide +kernel
theorem dX6_kind_32 : decode cX6_kind 32 = .ok (.putfield 61, 3) := by decide +kernel
theorem dX6_kind_35 : decode cX6_kind 35 = .ok (.iload_n 2, 1) := by decide +kernel
theorem dX6_kind_36 : decode cX6_kind 36 = .ok (.ireturn, 1) := by decide +kernel
theorem dX6_edge_0 : decode cX6_edge 0 = .ok (.aload_n 0, 1) := by decide +kernel
theorem dX6_edge_1 : decode cX6_edge 1 = .ok (.iload_n 1, 1) := by decide +kernel
theorem dX6_edge_2 : decode cX6_edge 2 = .ok (.invokevirtual 78, 3) := by decide +kernel
theorem dX6_edge_5 : decode cX6_edge 5 = .ok (.ifCond .eq 16, 3) := by decide +kernel
theorem dX6_edge_8 : decode cX6_edge 8 = .ok (.aload_n 0, 1) := by decide +kernel
theorem dX6_edge_9 : decode cX6_edge 9 = .ok (.iload_n 2, 1) := by decide +kernel
theorem dX6_edge_10 : decode cX6_edge 10 = .ok (.invokevirtual 78, 3) := by decide +kernel
theorem dX6_edge_13 : decode cX6_edge 13 = .ok (.ifCond .eq 8, 3) := by decide +kernel
theorem dX6_edge_16 : decode cX6_edge 16 = .ok (.iload_n 1, 1) := by decide +kernel
theorem dX6_edge_17 : decode cX6_edge 17 = .ok (.iload_n 2, 1) := by decide +kernel
theorem dX6_edge_18 : decode cX6_edge 18 = .ok (.if_icmp .ne 6, 3) := by decide +kernel
theorem dX6_edge_21 : decode cX6_edge 21 = .ok (.bipush (-2), 2) := by decide +kernel
theorem dX6_edge_23 : decode cX6_edge 23 = .ok (.ireturn, 1) := by decide +kernel
theorem dX6_edge_24 : decode cX6_edge 24 = .ok (.aload_n 0, 1) := by decide +kernel
theorem dX6_edge_25 : decode cX6_edge 25 = .ok (.getfield 20, 3) := by decide +kernel
theorem dX6_edge_28 : decode cX6_edge 28 = .ok (.getfield 75, 3) := by decide +kernel
theorem dX6_edge_31 : decode cX6_edge 31 = .ok (.sipush 300, 3) := by decide +kernel
theorem dX6_edge_34 : decode cX6_edge 34 = .ok (.if_icmp .lt 6, 3) := by decide +kernel
theorem dX6_edge_37 : decode cX6_edge 37 = .ok (.bipush (-4), 2) := by decide +kernel
theorem dX6_edge_39 : decode cX6_edge 39 = .ok (.ireturn, 1) := by decide +kernel
theorem dX6_edge_40 : decode cX6_edge 40 = .ok (.aload_n 0, 1) := by decide +kernel
theorem dX6_edge_41 : decode cX6_edge 41 = .ok (.iload_n 1, 1) := by decide +kernel
theorem dX6_edge_42 : decode cX6_edge 42 = .ok (.iload_n 2, 1) := by decide +kernel
theorem dX6_edge_43 : decode cX6_edge 43 = .ok (.invokevirtual 82, 3) := by decide +kernel
theorem dX6_edge_46 : decode cX6_edge 46 = .ok (.ifCond .lt 7, 3) := by decide +kernel
theorem dX6_edge_49 : decode cX6_edge 49 = .ok (.iconst 1, 1) := by decide +kernel
theorem dX6_edge_50 : decode cX6_edge 50 = .ok (.goto 4, 3) := by decide +kernel
theorem dX6_edge_53 : decode cX6_edge 53 = .ok (.iconst 0, 1) := by decide +kernel
theorem dX6_edge_54 : decode cX6_edge 54 = .ok (.istore 5, 2) := by decide +kernel
theorem dX6_edge_56 : decode cX6_edge 56 = .ok (.iload 5, 2) := by decide +kernel
theorem dX6_edge_58 : decode cX6_edge 58 = .ok (.ifCond .eq 13, 3) := by decide +kernel
theorem dX6_edge_61 : decode cX6_edge 61 = .ok (.aload_n 0, 1) := by decide +kernel
theorem dX6_edge_62 : decode cX6_edge 62 = .ok (.getfield 61, 3) := by decide +kernel
theorem dX6_edge_65 : decode cX6_edge 65 = .ok (.ifCond .ne 6, 3) := by decide +kernel
theorem dX6_edge_68 : decode cX6_edge 68 = .ok (.bipush (-3), 2) := by decide +kernel
theorem dX6_edge_70 : decode cX6_edge 70 = .ok (.ireturn, 1) := by decide +kernel
theorem dX6_edge_71 : decode cX6_edge 71 = .ok (.aload_n 0, 1) := by decide +kernel
theorem dX6_edge_72 : decode cX6_edge 72 = .ok (.getfield 20, 3) := by decide +kernel
theorem dX6_edge_75 : decode cX6_edge 75 = .ok (.iload_n 1, 1) := by decide +kernel
theorem dX6_edge_76 : decode cX6_edge 76 = .ok (.iload_n 2, 1) := by decide +kernel
theorem dX6_edge_77 : decode cX6_edge 77 = .ok (.lload_n 3, 1) := by decide +kernel
theorem dX6_edge_78 : decode cX6_edge 78 = .ok (.iload 5, 2) := by decide +kernel
theorem dX6_edge_80 : decode cX6_edge 80 = .ok (.ifCond .eq 7, 3) := by decide +kernel
theorem dX6_edge_83 : decode cX6_edge 83 = .ok (.iconst 2, 1) := by decide +kernel
theorem dX6_edge_84 : decode cX6_edge 84 = .ok (.goto 4, 3) := by decide +kernel
theorem dX6_edge_87 : decode cX6_edge 87 = .ok (.iconst 1, 1) := by decide +kernel
theorem dX6_edge_88 : decode cX6_edge 88 = .ok (.invokevirtual 86, 3) := by decide +kernel
theorem dX6_edge_91 : decode cX6_edge 91 = .ok (.istore 6, 2) := by decide +kernel
theorem dX6_edge_93 : decode cX6_edge 93 = .ok (.iconst (-1), 1) := by decide +kernel
theorem dX6_edge_94 : decode cX6_edge 94 = .ok (.istore 7, 2) := by decide +kernel
theorem dX6_edge_96 : decode cX6_edge 96 = .ok (.iload 5, 2) := by decide +kernel
theorem dX6_edge_98 : decode cX6_edge 98 = .ok (.ifCond .eq 19, 3) := by decide +kernel
theorem dX6_edge_101 : decode cX6_edge 101 = .ok (.aload_n 0, 1) := by decide +kernel
theorem dX6_edge_102 : decode cX6_edge 102 = .ok (.getfield 61, 3) := by decide +kernel
theorem dX6_edge_105 : decode cX6_edge 105 = .ok (.iconst 2, 1) := by decide +kernel
theorem dX6_edge_106 : decode cX6_edge 106 = .ok (.if_icmp .ne 11, 3) := by decide +kernel
theorem dX6_edge_109 : decode cX6_edge 109 = .ok (.aload_n 0, 1) := by decide +kernel
theorem dX6_edge_110 : decode cX6_edge 110 = .ok (.iload 6, 2) := by decide +kernel
theorem dX6_edge_112 : decode cX6_edge 112 = .ok (.invokevirtual 90, 3) := by decide +kernel
theorem dX6_edge_115 : decode cX6_edge 115 = .ok (.istore 7, 2) := by decide +kernel
theorem dX6_edge_117 : decode cX6_edge 117 = .ok (.aload_n 0, 1) := by decide +kernel
theorem dX6_edge_118 : decode cX6_edge 118 = .ok (.getfield 51, 3) := by decide +kernel
theorem dX6_edge_121 : decode cX6_edge 121 = .ok (.iconst 4, 1) := by decide +kernel
theorem dX6_edge_122 : decode cX6_edge 122 = .ok (.iload 7, 2) := by decide +kernel
theorem dX6_edge_124 : decode cX6_edge 124 = .ok (.iconst (-1), 1) := by decide +kernel
theorem dX6_edge_125 : decode cX6_edge 125 = .ok (.lconst 0, 1) := by decide +kernel
theorem dX6_edge_126 : decode cX6_edge 126 = .ok (.invokevirtual 94, 3) := by decide +kernel
theorem dX6_edge_129 : decode cX6_edge 129 = .ok (.iload 6, 2) := by decide +kernel
theorem dX6_edge_131 : decode cX6_edge 131 = .ok (.ireturn, 1) := by decide +kernel
theorem dX6_cut_0 : decode cX6_cut 0 = .ok (.aload_n 0, 1) := by decide +kernel
theorem dX6_cut_1 : decode cX6_cut 1 = .ok (.getfield 20, 3) := by decide +kernel
theorem dX6_cut_4 : decode cX6_cut 4 = .ok (.iload_n 1, 1) := by decide +kernel
theorem dX6_cut_5 : decode cX6_cut 5 = .ok (.invokevirtual 98, 3) := by decide +kernel
theorem dX6_cut_8 : decode cX6_cut 8 = .ok (.ifCond .ne 6, 3) := by decide +kernel
theorem dX6_cut_11 : decode cX6_cut 11 = .ok (.bipush (-2), 2) := by decide +kernel
theorem dX6_cut_13 : decode cX6_cut 13 = .ok (.ireturn, 1) := by decide +kernel
theorem dX6_cut_14 : decode cX6_cut 14 = .ok (.aload_n 0, 1) := by decide +kernel
theorem dX6_cut_15 : decode cX6_cut 15 = .ok (.getfield 20, 3) := by decide +kernel
theorem dX6_cut_18 : decode cX6_cut 18 = .ok (.getfield 101, 3) := by decide +kernel
theorem dX6_cut_21 : decode cX6_cut 21 = .ok (.iload_n 1, 1) := by decide +kernel
theorem dX6_cut_22 : decode cX6_cut 22 = .ok (.iaload, 1) := by decide +kernel
theorem dX6_cut_23 : decode cX6_cut 23 = .ok (.iconst 1, 1) := by decide +kernel
theorem dX6_cut_24 : decode cX6_cut 24 = .ok (.if_icmp .ne 7, 3) := by decide +kernel
theorem dX6_cut_27 : decode cX6_cut 27 = .ok (.iconst 1, 1) := by decide +kernel
theorem dX6_cut_28 : decode cX6_cut 28 = .ok (.goto 4, 3) := by decide +kernel
theorem dX6_cut_31 : decode cX6_cut 31 = .ok (.iconst 0, 1) := by decide +kernel
theorem dX6_cut_32 : decode cX6_cut 32 = .ok (.istore_n 2, 1) := by decide +kernel
theorem dX6_cut_33 : decode cX6_cut 33 = .ok (.aload_n 0, 1) := by decide +kernel
theorem dX6_cut_34 : decode cX6_cut 34 = .ok (.getfield 20, 3) := by decide +kernel
theorem dX6_cut_37 : decode cX6_cut 37 = .ok (.getfield 104, 3) := by decide +kernel
theorem dX6_cut_40 : decode cX6_cut 40 = .ok (.istore_n 3, 1) := by decide +kernel
theorem dX6_cut_41 : decode cX6_cut 41 = .ok (.iload_n 2, 1) := by decide +kernel
theorem dX6_cut_42 : decode cX6_cut 42 = .ok (.ifCond .eq 12, 3) := by decide +kernel
theorem dX6_cut_45 : decode cX6_cut 45 = .ok (.aload_n 0, 1) := by decide +kernel
theorem dX6_cut_46 : decode cX6_cut 46 = .ok (.iload_n 1, 1) := by decide +kernel
theorem dX6_cut_47 : decode cX6_cut 47 = .ok (.iconst 1, 1) := by decide +kernel
theorem dX6_cut_48 : decode cX6_cut 48 = .ok (.invokevirtual 107, 3) := by decide +kernel
theorem dX6_cut_51 : decode cX6_cut 51 = .ok (.goto 4, 3) := by decide +kernel
theorem dX6_cut_54 : decode cX6_cut 54 = .ok (.iconst (-1), 1) := by decide +kernel
theorem dX6_cut_55 : decode cX6_cut 55 = .ok (.istore 4, 2) := by decide +kernel
theorem dX6_cut_57 : decode cX6_cut 57 = .ok (.aload_n 0, 1) := by decide +kernel
theorem dX6_cut_58 : decode cX6_cut 58 = .ok (.getfield 20, 3) := by decide +kernel
theorem dX6_cut_61 : decode cX6_cut 61 = .ok (.getfield 101, 3) := by decide +kernel
theorem dX6_cut_64 : decode cX6_cut 64 = .ok (.iload_n 1, 1) := by decide +kernel
theorem dX6_cut_65 : decode cX6_cut 65 = .ok (.iconst 0, 1) := by decide +kernel
theorem dX6_cut_66 : decode cX6_cut 66 = .ok (.iastore, 1) := by decide +kernel
theorem dX6_cut_67 : decode cX6_cut 67 = .ok (.iload 4, 2) := by decide +kernel
theorem dX6_cut_69 : decode cX6_cut 69 = .ok (.iconst (-1), 1) := by decide +kernel
theorem dX6_cut_70 : decode cX6_cut 70 = .ok (.if_icmp .eq 14, 3) := by decide +kernel
theorem dX6_cut_73 : decode cX6_cut 73 = .ok (.aload_n 0, 1) := by decide +kernel
theorem dX6_cut_74 : decode cX6_cut 74 = .ok (.getfield 20, 3) := by decide +kernel
theorem dX6_cut_77 : decode cX6_cut 77 = .ok (.getfield 101, 3) := by decide +kernel
theorem dX6_cut_80 : decode cX6_cut 80 = .ok (.iload 4, 2) := by decide +kernel
theorem dX6_cut_82 : decode cX6_cut 82 = .ok (.iconst 1, 1) := by decide +kernel
theorem dX6_cut_83 : decode cX6_cut 83 = .ok (.iastore, 1) := by decide +kernel
theorem dX6_cut_84 : decode cX6_cut 84 = .ok (.aload_n 0, 1) := by decide +kernel
theorem dX6_cut_85 : decode cX6_cut 85 = .ok (.getfield 51, 3) := by decide +kernel
theorem dX6_cut_88 : decode cX6_cut 88 = .ok (.iload_n 2, 1) := by decide +kernel
theorem dX6_cut_89 : decode cX6_cut 89 = .ok (.ifCond .eq 7, 3) := by decide +kernel
theorem dX6_cut_92 : decode cX6_cut 92 = .ok (.iconst 5, 1) := by decide +kernel
theorem dX6_cut_93 : decode cX6_cut 93 = .ok (.goto 5, 3) := by decide +kernel
theorem dX6_cut_96 : decode cX6_cut 96 = .ok (.bipush 6, 2) := by decide +kernel
theorem dX6_cut_98 : decode cX6_cut 98 = .ok (.iload_n 1, 1) := by decide +kernel
theorem dX6_cut_99 : decode cX6_cut 99 = .ok (.iload 4, 2) := by decide +kernel
theorem dX6_cut_101 : decode cX6_cut 101 = .ok (.iload_n 3, 1) := by decide +kernel
theorem dX6_cut_102 : decode cX6_cut 102 = .ok (.i2l, 1) := by decide +kernel
theorem dX6_cut_103 : decode cX6_cut 103 = .ok (.invokevirtual 94, 3) := by decide +kernel
theorem dX6_cut_106 : decode cX6_cut 106 = .ok (.iload 4, 2) := by decide +kernel
theorem dX6_cut_108 : decode cX6_cut 108 = .ok (.ireturn, 1) := by decide +kernel
theorem dX6_instead_0 : decode cX6_instead 0 = .ok (.aload_n 0, 1) := by decide +kernel
theorem dX6_instead_1 : decode cX6_instead 1 = .ok (.getfield 20, 3) := by decide +kernel
theorem dX6_instead_4 : decode cX6_instead 4 = .ok (.iload_n 1, 1) := by decide +kernel
theorem dX6_instead_5 : decode cX6_instead 5 = .ok (.invokevirtual 98, 3) := by decide +kernel
theorem dX6_instead_8 : decode cX6_instead 8 = .ok (.ifCond .ne 6, 3) := by decide +kernel
theorem dX6_instead_11 : decode cX6_instead 11 = .ok (.bipush (-2), 2) := by decide +kernel
theorem dX6_instead_13 : decode cX6_instead 13 = .ok (.ireturn, 1) := by decide +kernel
theorem dX6_instead_14 : decode cX6_instead 14 = .ok (.aload_n 0, 1) := by decide +kernel
theorem dX6_instead_15 : decode cX6_instead 15 = .ok (.getfield 20, 3) := by decide +kernel
theorem dX6_instead_18 : decode cX6_instead 18 = .ok (.getfield 101, 3) := by decide +kernel
theorem dX6_instead_21 : decode cX6_instead 21 = .ok (.iload_n 1, 1) := by decide +kernel
theorem dX6_instead_22 : decode cX6_instead 22 = .ok (.iaload, 1) := by decide +kernel
theorem dX6_instead_23 : decode cX6_instead 23 = .ok (.iconst 1, 1) := by decide +kernel
theorem dX6_instead_24 : decode cX6_instead 24 = .ok (.if_icmp .ne 12, 3) := by decide +kernel
theorem dX6_instead_27 : decode cX6_instead 27 = .ok (.aload_n 0, 1) := by decide +kernel
theorem dX6_instead_28 : decode cX6_instead 28 = .ok (.iload_n 1, 1) := by decide +kernel
theorem dX6_instead_29 : decode cX6_instead 29 = .ok (.iconst 0, 1) := by decide +kernel
theorem dX6_instead_30 : decode cX6_instead 30 = .ok (.invokevirtual 107, 3) := by decide +kernel
theorem dX6_instead_33 : decode cX6_instead 33 = .ok (.goto 4, 3) := by decide +kernel
theorem dX6_instead_36 : decode cX6_instead 36 = .ok (.iconst (-1), 1) := by decide +kernel
theorem dX6_instead_37 : decode cX6_instead 37 = .ok (.ireturn, 1) := by decide +kernel
theorem dX6_told_0 : decode cX6_told 0 = .ok (.aload_n 0, 1) := by decide +kernel
theorem dX6_told_1 : decode cX6_told 1 = .ok (.getfield 20, 3) := by decide +kernel
theorem dX6_told_4 : decode cX6_told 4 = .ok (.iload_n 1, 1) := by decide +kernel
theorem dX6_told_5 : decode cX6_told 5 = .ok (.invokevirtual 111, 3) := by decide +kernel
theorem dX6_told_8 : decode cX6_told 8 = .ok (.ifCond .ne 6, 3) := by decide +kernel
theorem dX6_told_11 : decode cX6_told 11 = .ok (.bipush (-2), 2) := by decide +kernel
theorem dX6_told_13 : decode cX6_told 13 = .ok (.ireturn, 1) := by decide +kernel
theorem dX6_told_14 : decode cX6_told 14 = .ok (.iload_n 2, 1) := by decide +kernel
theorem dX6_told_15 : decode cX6_told 15 = .ok (.tableswitch 120 0 4 #[33, 43, 53, 63, 73], 33) := by decide +kernel
theorem dX6_told_48 : decode cX6_told 48 = .ok (.aload_n 0, 1) := by decide +kernel
theorem dX6_told_49 : decode cX6_told 49 = .ok (.getfield 20, 3) := by decide +kernel
theorem dX6_told_52 : decode cX6_told 52 = .ok (.getfield 101, 3) := by decide +kernel
theorem dX6_told_55 : decode cX6_told 55 = .ok (.iload_n 1, 1) := by decide +kernel
theorem dX6_told_56 : decode cX6_told 56 = .ok (.iaload, 1) := by decide +kernel
theorem dX6_told_57 : decode cX6_told 57 = .ok (.ireturn, 1) := by decide +kernel
theorem dX6_told_58 : decode cX6_told 58 = .ok (.aload_n 0, 1) := by decide +kernel
theorem dX6_told_59 : decode cX6_told 59 = .ok (.getfield 20, 3) := by decide +kernel
theorem dX6_told_62 : decode cX6_told 62 = .ok (.getfield 114, 3) := by decide +kernel
theorem dX6_told_65 : decode cX6_told 65 = .ok (.iload_n 1, 1) := by decide +kernel
theorem dX6_told_66 : decode cX6_told 66 = .ok (.iaload, 1) := by decide +kernel
theorem dX6_told_67 : decode cX6_told 67 = .ok (.ireturn, 1) := by decide +kernel
theorem dX6_told_68 : decode cX6_told 68 = .ok (.aload_n 0, 1) := by decide +kernel
theorem dX6_told_69 : decode cX6_told 69 = .ok (.getfield 20, 3) := by decide +kernel
theorem dX6_told_72 : decode cX6_told 72 = .ok (.getfield 117, 3) := by decide +kernel
theorem dX6_told_75 : decode cX6_told 75 = .ok (.iload_n 1, 1) := by decide +kernel
theorem dX6_told_76 : decode cX6_told 76 = .ok (.iaload, 1) := by decide +kernel
theorem dX6_told_77 : decode cX6_told 77 = .ok (.ireturn, 1) := by decide +kernel
theorem dX6_told_78 : decode cX6_told 78 = .ok (.aload_n 0, 1) := by decide +kernel
theorem dX6_told_79 : decode cX6_told 79 = .ok (.getfield 20, 3) := by decide +kernel
theorem dX6_told_82 : decode cX6_told 82 = .ok (.getfield 120, 3) := by decide +kernel
theorem dX6_told_85 : decode cX6_told 85 = .ok (.iload_n 1, 1) := by decide +kernel
theorem dX6_told_86 : decode cX6_told 86 = .ok (.iaload, 1) := by decide +kernel
theorem dX6_told_87 : decode cX6_told 87 = .ok (.ireturn, 1) := by decide +kernel
theorem dX6_told_88 : decode cX6_told 88 = .ok (.aload_n 0, 1) := by decide +kernel
theorem dX6_told_89 : decode cX6_told 89 = .ok (.getfield 44, 3) := by decide +kernel
theorem dX6_told_92 : decode cX6_told 92 = .ok (.aload_n 0, 1) := by decide +kernel
theorem dX6_told_93 : decode cX6_told 93 = .ok (.getfield 20, 3) := by decide +kernel
theorem dX6_told_96 : decode cX6_told 96 = .ok (.aload_n 0, 1) := by decide +kernel
theorem dX6_told_97 : decode cX6_told 97 = .ok (.getfield 69, 3) := by decide +kernel
theorem dX6_told_100 : decode cX6_told 100 = .ok (.invokevirtual 123, 3) := by decide +kernel
theorem dX6_told_103 : decode cX6_told 103 = .ok (.aload_n 0, 1) := by decide +kernel
theorem dX6_told_104 : decode cX6_told 104 = .ok (.getfield 20, 3) := by decide +kernel
theorem dX6_told_107 : decode cX6_told 107 = .ok (.iload_n 1, 1) := by decide +kernel
theorem dX6_told_108 : decode cX6_told 108 = .ok (.invokevirtual 98, 3) := by decide +kernel
theorem dX6_told_111 : decode cX6_told 111 = .ok (.ifCond .eq 22, 3) := by decide +kernel
theorem dX6_told_114 : decode cX6_told 114 = .ok (.aload_n 0, 1) := by decide +kernel
theorem dX6_told_115 : decode cX6_told 115 = .ok (.getfield 44, 3) := by decide +kernel
theorem dX6_told_118 : decode cX6_told 118 = .ok (.aload_n 0, 1) := by decide +kernel
theorem dX6_told_119 : decode cX6_told 119 = .ok (.getfield 20, 3) := by decide +kernel
theorem dX6_told_122 : decode cX6_told 122 = .ok (.iload_n 1, 1) := by decide +kernel
theorem dX6_told_123 : decode cX6_told 123 = .ok (.invokevirtual 127, 3) := by decide +kernel
theorem dX6_told_126 : decode cX6_told 126 = .ok (.ifCond .eq 7, 3) := by decide +kernel
theorem dX6_told_129 : decode cX6_told 129 = .ok (.iconst 1, 1) := by decide +kernel
theorem dX6_told_130 : decode cX6_told 130 = .ok (.goto 4, 3) := by decide +kernel
theorem dX6_told_133 : decode cX6_told 133 = .ok (.iconst 0, 1) := by decide +kernel
theorem dX6_told_134 : decode cX6_told 134 = .ok (.ireturn, 1) := by decide +kernel
theorem dX6_told_135 : decode cX6_told 135 = .ok (.bipush (-2), 2) := by decide +kernel
theorem dX6_told_137 : decode cX6_told 137 = .ok (.ireturn, 1) := by decide +kernel
theorem dX6_weight_0 : decode cX6_weight 0 = .ok (.aload_n 0, 1) := by decide +kernel
theorem dX6_weight_1 : decode cX6_weight 1 = .ok (.getfield 20, 3) := by decide +kernel
theorem dX6_weight_4 : decode cX6_weight 4 = .ok (.iload_n 1, 1) := by decide +kernel
theorem dX6_weight_5 : decode cX6_weight 5 = .ok (.invokevirtual 111, 3) := by decide +kernel
theorem dX6_weight_8 : decode cX6_weight 8 = .ok (.ifCond .eq 15, 3) := by decide +kernel
theorem dX6_weight_11 : decode cX6_weight 11 = .ok (.aload_n 0, 1) := by decide +kernel
theorem dX6_weight_12 : decode cX6_weight 12 = .ok (.getfield 20, 3) := by decide +kernel
theorem dX6_weight_15 : decode cX6_weight 15 = .ok (.getfield 131, 3) := by decide +kernel
theorem dX6_weight_18 : decode cX6_weight 18 = .ok (.iload_n 1, 1) := by decide +kernel
theorem dX6_weight_19 : decode cX6_weight 19 = .ok (.laload, 1) := by decide +kernel
theorem dX6_weight_20 : decode cX6_weight 20 = .ok (.goto 6, 3) := by decide +kernel
theorem dX6_weight_23 : decode cX6_weight 23 = .ok (.ldc2_w 134, 3) := by decide +kernel
theorem dX6_weight_26 : decode cX6_weight 26 = .ok (.lreturn, 1) := by decide +kernel
theorem dX6_count_0 : decode cX6_count 0 = .ok (.iload_n 1, 1) := by decide +kernel
theorem dX6_count_1 : decode cX6_count 1 = .ok (.tableswitch 158 0 8 #[51, 56, 64, 73, 82, 96, 119, 142, 150], 51) := by decide +kernel
theorem dX6_count_52 : decode cX6_count 52 = .ok (.aload_n 0, 1) := by decide +kernel
theorem dX6_count_53 : decode cX6_count 53 = .ok (.getfield 69, 3) := by decide +kernel
theorem dX6_count_56 : decode cX6_count 56 = .ok (.ireturn, 1) := by decide +kernel
theorem dX6_count_57 : decode cX6_count 57 = .ok (.aload_n 0, 1) := by decide +kernel
theorem dX6_count_58 : decode cX6_count 58 = .ok (.getfield 20, 3) := by decide +kernel
theorem dX6_count_61 : decode cX6_count 61 = .ok (.getfield 75, 3) := by decide +kernel
theorem dX6_count_64 : decode cX6_count 64 = .ok (.ireturn, 1) := by decide +kernel
theorem dX6_count_65 : decode cX6_count 65 = .ok (.aload_n 0, 1) := by decide +kernel
theorem dX6_count_66 : decode cX6_count 66 = .ok (.getfield 20, 3) := by decide +kernel
theorem dX6_count_69 : decode cX6_count 69 = .ok (.iconst 1, 1) := by decide +kernel
theorem dX6_count_70 : decode cX6_count 70 = .ok (.invokevirtual 136, 3) := by decide +kernel
theorem dX6_count_73 : decode cX6_count 73 = .ok (.ireturn, 1) := by decide +kernel
theorem dX6_count_74 : decode cX6_count 74 = .ok (.aload_n 0, 1) := by decide +kernel
theorem dX6_count_75 : decode cX6_count 75 = .ok (.getfield 20, 3) := by decide +kernel
theorem dX6_count_78 : decode cX6_count 78 = .ok (.iconst 2, 1) := by decide +kernel
theorem dX6_count_79 : decode cX6_count 79 = .ok (.invokevirtual 136, 3) := by decide +kernel
theorem dX6_count_82 : decode cX6_count 82 = .ok (.ireturn, 1) := by decide +kernel
theorem dX6_count_83 : decode cX6_count 83 = .ok (.aload_n 0, 1) := by decide +kernel
theorem dX6_count_84 : decode cX6_count 84 = .ok (.getfield 69, 3) := by decide +kernel
theorem dX6_count_87 : decode cX6_count 87 = .ok (.aload_n 0, 1) := by decide +kernel
theorem dX6_count_88 : decode cX6_count 88 = .ok (.getfield 20, 3) := by decide +kernel
theorem dX6_count_91 : decode cX6_count 91 = .ok (.iconst 1, 1) := by decide +kernel
theorem dX6_count_92 : decode cX6_count 92 = .ok (.invokevirtual 136, 3) := by decide +kernel
theorem dX6_count_95 : decode cX6_count 95 = .ok (.isub, 1) := by decide +kernel
theorem dX6_count_96 : decode cX6_count 96 = .ok (.ireturn, 1) := by decide +kernel
theorem dX6_count_97 : decode cX6_count 97 = .ok (.aload_n 0, 1) := by decide +kernel
theorem dX6_count_98 : decode cX6_count 98 = .ok (.getfield 44, 3) := by decide +kernel
theorem dX6_count_101 : decode cX6_count 101 = .ok (.aload_n 0, 1) := by decide +kernel
theorem dX6_count_102 : decode cX6_count 102 = .ok (.getfield 20, 3) := by decide +kernel
theorem dX6_count_105 : decode cX6_count 105 = .ok (.aload_n 0, 1) := by decide +kernel
theorem dX6_count_106 : decode cX6_count 106 = .ok (.getfield 69, 3) := by decide +kernel
theorem dX6_count_109 : decode cX6_count 109 = .ok (.invokevirtual 123, 3) := by decide +kernel
theorem dX6_count_112 : decode cX6_count 112 = .ok (.aload_n 0, 1) := by decide +kernel
theorem dX6_count_113 : decode cX6_count 113 = .ok (.getfield 44, 3) := by decide +kernel
theorem dX6_count_116 : decode cX6_count 116 = .ok (.getfield 139, 3) := by decide +kernel
theorem dX6_count_119 : decode cX6_count 119 = .ok (.ireturn, 1) := by decide +kernel
theorem dX6_count_120 : decode cX6_count 120 = .ok (.aload_n 0, 1) := by decide +kernel
theorem dX6_count_121 : decode cX6_count 121 = .ok (.getfield 44, 3) := by decide +kernel
theorem dX6_count_124 : decode cX6_count 124 = .ok (.aload_n 0, 1) := by decide +kernel
theorem dX6_count_125 : decode cX6_count 125 = .ok (.getfield 20, 3) := by decide +kernel
theorem dX6_count_128 : decode cX6_count 128 = .ok (.aload_n 0, 1) := by decide +kernel
theorem dX6_count_129 : decode cX6_count 129 = .ok (.getfield 69, 3) := by decide +kernel
theorem dX6_count_132 : decode cX6_count 132 = .ok (.invokevirtual 123, 3) := by decide +kernel
theorem dX6_count_135 : decode cX6_count 135 = .ok (.aload_n 0, 1) := by decide +kernel
theorem dX6_count_136 : decode cX6_count 136 = .ok (.getfield 44, 3) := by decide +kernel
theorem dX6_count_139 : decode cX6_count 139 = .ok (.getfield 142, 3) := by decide +kernel
theorem dX6_count_142 : decode cX6_count 142 = .ok (.ireturn, 1) := by decide +kernel
theorem dX6_count_143 : decode cX6_count 143 = .ok (.aload_n 0, 1) := by decide +kernel
theorem dX6_count_144 : decode cX6_count 144 = .ok (.getfield 51, 3) := by decide +kernel
theorem dX6_count_147 : decode cX6_count 147 = .ok (.getfield 145, 3) := by decide +kernel
theorem dX6_count_150 : decode cX6_count 150 = .ok (.ireturn, 1) := by decide +kernel
theorem dX6_count_151 : decode cX6_count 151 = .ok (.aload_n 0, 1) := by decide +kernel
theorem dX6_count_152 : decode cX6_count 152 = .ok (.getfield 20, 3) := by decide +kernel
theorem dX6_count_155 : decode cX6_count 155 = .ok (.getfield 104, 3) := by decide +kernel
theorem dX6_count_158 : decode cX6_count 158 = .ok (.ireturn, 1) := by decide +kernel
theorem dX6_count_159 : decode cX6_count 159 = .ok (.bipush (-2), 2) := by decide +kernel
theorem dX6_count_161 : decode cX6_count 161 = .ok (.ireturn, 1) := by decide +kernel
theorem dX6_total_0 : decode cX6_total 0 = .ok (.lconst 0, 1) := by decide +kernel
theorem dX6_total_1 : decode cX6_total 1 = .ok (.lstore_n 1, 1) := by decide +kernel
theorem dX6_total_2 : decode cX6_total 2 = .ok (.iconst 0, 1) := by decide +kernel
theorem dX6_total_3 : decode cX6_total 3 = .ok (.istore_n 3, 1) := by decide +kernel
theorem dX6_total_4 : decode cX6_total 4 = .ok (.iload_n 3, 1) := by decide +kernel
theorem dX6_total_5 : decode cX6_total 5 = .ok (.aload_n 0, 1) := by decide +kernel
theorem dX6_total_6 : decode cX6_total 6 = .ok (.getfield 20, 3) := by decide +kernel
theorem dX6_total_9 : decode cX6_total 9 = .ok (.getfield 75, 3) := by decide +kernel
theorem dX6_total_12 : decode cX6_total 12 = .ok (.if_icmp .ge 34, 3) := by decide +kernel
theorem dX6_total_15 : decode cX6_total 15 = .ok (.aload_n 0, 1) := by decide +kernel
theorem dX6_total_16 : decode cX6_total 16 = .ok (.getfield 20, 3) := by decide +kernel
theorem dX6_total_19 : decode cX6_total 19 = .ok (.getfield 101, 3) := by decide +kernel
theorem dX6_total_22 : decode cX6_total 22 = .ok (.iload_n 3, 1) := by decide +kernel
theorem dX6_total_23 : decode cX6_total 23 = .ok (.iaload, 1) := by decide +kernel
theorem dX6_total_24 : decode cX6_total 24 = .ok (.iconst 1, 1) := by decide +kernel
theorem dX6_total_25 : decode cX6_total 25 = .ok (.if_icmp .ne 15, 3) := by decide +kernel
theorem dX6_total_28 : decode cX6_total 28 = .ok (.lload_n 1, 1) := by decide +kernel
theorem dX6_total_29 : decode cX6_total 29 = .ok (.aload_n 0, 1) := by decide +kernel
theorem dX6_total_30 : decode cX6_total 30 = .ok (.getfield 20, 3) := by decide +kernel
theorem dX6_total_33 : decode cX6_total 33 = .ok (.getfield 131, 3) := by decide +kernel
theorem dX6_total_36 : decode cX6_total 36 = .ok (.iload_n 3, 1) := by decide +kernel
theorem dX6_total_37 : decode cX6_total 37 = .ok (.laload, 1) := by decide +kernel
theorem dX6_total_38 : decode cX6_total 38 = .ok (.ladd, 1) := by decide +kernel
theorem dX6_total_39 : decode cX6_total 39 = .ok (.lstore_n 1, 1) := by decide +kernel
theorem dX6_total_40 : decode cX6_total 40 = .ok (.iinc 3 1, 3) := by decide +kernel
theorem dX6_total_43 : decode cX6_total 43 = .ok (.goto (-39), 3) := by decide +kernel
theorem dX6_total_46 : decode cX6_total 46 = .ok (.lload_n 1, 1) := by decide +kernel
theorem dX6_total_47 : decode cX6_total 47 = .ok (.lreturn, 1) := by decide +kernel
theorem dX6_together_0 : decode cX6_together 0 = .ok (.aload_n 0, 1) := by decide +kernel
theorem dX6_together_1 : decode cX6_together 1 = .ok (.iload_n 1, 1) := by decide +kernel
theorem dX6_together_2 : decode cX6_together 2 = .ok (.iload_n 2, 1) := by decide +kernel
theorem dX6_together_3 : decode cX6_together 3 = .ok (.invokevirtual 82, 3) := by decide +kernel
theorem dX6_together_6 : decode cX6_together 6 = .ok (.istore_n 3, 1) := by decide +kernel
theorem dX6_together_7 : decode cX6_together 7 = .ok (.iload_n 3, 1) := by decide +kernel
theorem dX6_together_8 : decode cX6_together 8 = .ok (.bipush (-2), 2) := by decide +kernel
theorem dX6_together_10 : decode cX6_together 10 = .ok (.if_icmp .ne 6, 3) := by decide +kernel
theorem dX6_together_13 : decode cX6_together 13 = .ok (.bipush (-2), 2) := by decide +kernel
theorem dX6_together_15 : decode cX6_together 15 = .ok (.ireturn, 1) := by decide +kernel
theorem dX6_together_16 : decode cX6_together 16 = .ok (.iload_n 3, 1) := by decide +kernel
theorem dX6_together_17 : decode cX6_together 17 = .ok (.iconst (-1), 1) := by decide +kernel
theorem dX6_together_18 : decode cX6_together 18 = .ok (.if_icmp .ne 7, 3) := by decide +kernel
theorem dX6_together_21 : decode cX6_together 21 = .ok (.iconst 0, 1) := by decide +kernel
theorem dX6_together_22 : decode cX6_together 22 = .ok (.goto 4, 3) := by decide +kernel
theorem dX6_together_25 : decode cX6_together 25 = .ok (.iconst 1, 1) := by decide +kernel
theorem dX6_together_26 : decode cX6_together 26 = .ok (.ireturn, 1) := by decide +kernel
theorem dX6_size_0 : decode cX6_size 0 = .ok (.aload_n 0, 1) := by decide +kernel
theorem dX6_size_1 : decode cX6_size 1 = .ok (.iload_n 1, 1) := by decide +kernel
theorem dX6_size_2 : decode cX6_size 2 = .ok (.invokevirtual 78, 3) := by decide +kernel
theorem dX6_size_5 : decode cX6_size 5 = .ok (.ifCond .ne 6, 3) := by decide +kernel
theorem dX6_size_8 : decode cX6_size 8 = .ok (.bipush (-2), 2) := by decide +kernel
theorem dX6_size_10 : decode cX6_size 10 = .ok (.ireturn, 1) := by decide +kernel
theorem dX6_size_11 : decode cX6_size 11 = .ok (.aload_n 0, 1) := by decide +kernel
theorem dX6_size_12 : decode cX6_size 12 = .ok (.iload_n 1, 1) := by decide +kernel
theorem dX6_size_13 : decode cX6_size 13 = .ok (.invokevirtual 148, 3) := by decide +kernel
theorem dX6_size_16 : decode cX6_size 16 = .ok (.aload_n 0, 1) := by decide +kernel
theorem dX6_size_17 : decode cX6_size 17 = .ok (.getfield 27, 3) := by decide +kernel
theorem dX6_size_20 : decode cX6_size 20 = .ok (.getfield 152, 3) := by decide +kernel
theorem dX6_size_23 : decode cX6_size 23 = .ok (.ireturn, 1) := by decide +kernel
theorem dX6_member_0 : decode cX6_member 0 = .ok (.aload_n 0, 1) := by decide +kernel
theorem dX6_member_1 : decode cX6_member 1 = .ok (.iload_n 1, 1) := by decide +kernel
theorem dX6_member_2 : decode cX6_member 2 = .ok (.invokevirtual 78, 3) := by decide +kernel
theorem dX6_member_5 : decode cX6_member 5 = .ok (.ifCond .ne 6, 3) := by decide +kernel
theorem dX6_member_8 : decode cX6_member 8 = .ok (.bipush (-2), 2) := by decide +kernel
theorem dX6_member_10 : decode cX6_member 10 = .ok (.ireturn, 1) := by decide +kernel
theorem dX6_member_11 : decode cX6_member 11 = .ok (.aload_n 0, 1) := by decide +kernel
theorem dX6_member_12 : decode cX6_member 12 = .ok (.iload_n 1, 1) := by decide +kernel
theorem dX6_member_13 : decode cX6_member 13 = .ok (.invokevirtual 148, 3) := by decide +kernel
theorem dX6_member_16 : decode cX6_member 16 = .ok (.iconst 0, 1) := by decide +kernel
theorem dX6_member_17 : decode cX6_member 17 = .ok (.istore_n 3, 1) := by decide +kernel
theorem dX6_member_18 : decode cX6_member 18 = .ok (.iconst 0, 1) := by decide +kernel
theorem dX6_member_19 : decode cX6_member 19 = .ok (.istore 4, 2) := by decide +kernel
theorem dX6_member_21 : decode cX6_member 21 = .ok (.iload 4, 2) := by decide +kernel
theorem dX6_member_23 : decode cX6_member 23 = .ok (.aload_n 0, 1) := by decide +kernel
theorem dX6_member_24 : decode cX6_member 24 = .ok (.getfield 69, 3) := by decide +kernel
theorem dX6_member_27 : decode cX6_member 27 = .ok (.if_icmp .ge 33, 3) := by decide +kernel
theorem dX6_member_30 : decode cX6_member 30 = .ok (.aload_n 0, 1) := by decide +kernel
theorem dX6_member_31 : decode cX6_member 31 = .ok (.getfield 27, 3) := by decide +kernel
theorem dX6_member_34 : decode cX6_member 34 = .ok (.getfield 153, 3) := by decide +kernel
theorem dX6_member_37 : decode cX6_member 37 = .ok (.iload 4, 2) := by decide +kernel
theorem dX6_member_39 : decode cX6_member 39 = .ok (.baload, 1) := by decide +kernel
theorem dX6_member_40 : decode cX6_member 40 = .ok (.ifCond .eq 14, 3) := by decide +kernel
theorem dX6_member_43 : decode cX6_member 43 = .ok (.iload_n 3, 1) := by decide +kernel
theorem dX6_member_44 : decode cX6_member 44 = .ok (.iload_n 2, 1) := by decide +kernel
theorem dX6_member_45 : decode cX6_member 45 = .ok (.if_icmp .ne 6, 3) := by decide +kernel
theorem dX6_member_48 : decode cX6_member 48 = .ok (.iload 4, 2) := by decide +kernel
theorem dX6_member_50 : decode cX6_member 50 = .ok (.ireturn, 1) := by decide +kernel
theorem dX6_member_51 : decode cX6_member 51 = .ok (.iinc 3 1, 3) := by decide +kernel
theorem dX6_member_54 : decode cX6_member 54 = .ok (.iinc 4 1, 3) := by decide +kernel
theorem dX6_member_57 : decode cX6_member 57 = .ok (.goto (-36), 3) := by decide +kernel
theorem dX6_member_60 : decode cX6_member 60 = .ok (.iconst (-1), 1) := by decide +kernel
theorem dX6_member_61 : decode cX6_member 61 = .ok (.ireturn, 1) := by decide +kernel
theorem dX6_way_0 : decode cX6_way 0 = .ok (.aload_n 0, 1) := by decide +kernel
theorem dX6_way_1 : decode cX6_way 1 = .ok (.iload_n 1, 1) := by decide +kernel
theorem dX6_way_2 : decode cX6_way 2 = .ok (.iload_n 2, 1) := by decide +kernel
theorem dX6_way_3 : decode cX6_way 3 = .ok (.invokevirtual 82, 3) := by decide +kernel
theorem dX6_way_6 : decode cX6_way 6 = .ok (.ireturn, 1) := by decide +kernel
theorem dX6_between_0 : decode cX6_between 0 = .ok (.aload_n 0, 1) := by decide +kernel
theorem dX6_between_1 : decode cX6_between 1 = .ok (.iload_n 1, 1) := by decide +kernel
theorem dX6_between_2 : decode cX6_between 2 = .ok (.iload_n 2, 1) := by decide +kernel
theorem dX6_between_3 : decode cX6_between 3 = .ok (.invokevirtual 82, 3) := by decide +kernel
theorem dX6_between_6 : decode cX6_between 6 = .ok (.istore 4, 2) := by decide +kernel
theorem dX6_between_8 : decode cX6_between 8 = .ok (.iload 4, 2) := by decide +kernel
theorem dX6_between_10 : decode cX6_between 10 = .ok (.bipush (-2), 2) := by decide +kernel
theorem dX6_between_12 : decode cX6_between 12 = .ok (.if_icmp .ne 6, 3) := by decide +kernel
theorem dX6_between_15 : decode cX6_between 15 = .ok (.bipush (-2), 2) := by decide +kernel
theorem dX6_between_17 : decode cX6_between 17 = .ok (.ireturn, 1) := by decide +kernel
theorem dX6_between_18 : decode cX6_between 18 = .ok (.iload_n 3, 1) := by decide +kernel
theorem dX6_between_19 : decode cX6_between 19 = .ok (.ifCond .lt 9, 3) := by decide +kernel
theorem dX6_between_22 : decode cX6_between 22 = .ok (.iload_n 3, 1) := by decide +kernel
theorem dX6_between_23 : decode cX6_between 23 = .ok (.iload 4, 2) := by decide +kernel
theorem dX6_between_25 : decode cX6_between 25 = .ok (.if_icmp .le 7, 3) := by decide +kernel
theorem dX6_between_28 : decode cX6_between 28 = .ok (.iconst (-1), 1) := by decide +kernel
theorem dX6_between_29 : decode cX6_between 29 = .ok (.goto 12, 3) := by decide +kernel
theorem dX6_between_32 : decode cX6_between 32 = .ok (.aload_n 0, 1) := by decide +kernel
theorem dX6_between_33 : decode cX6_between 33 = .ok (.getfield 37, 3) := by decide +kernel
theorem dX6_between_36 : decode cX6_between 36 = .ok (.getfield 157, 3) := by decide +kernel
theorem dX6_between_39 : decode cX6_between 39 = .ok (.iload_n 3, 1) := by decide +kernel
theorem dX6_between_40 : decode cX6_between 40 = .ok (.iaload, 1) := by decide +kernel
theorem dX6_between_41 : decode cX6_between 41 = .ok (.ireturn, 1) := by decide +kernel
theorem dX6_heaviest_0 : decode cX6_heaviest 0 = .ok (.aload_n 0, 1) := by decide +kernel
theorem dX6_heaviest_1 : decode cX6_heaviest 1 = .ok (.iload_n 1, 1) := by decide +kernel
theorem dX6_heaviest_2 : decode cX6_heaviest 2 = .ok (.iload_n 2, 1) := by decide +kernel
theorem dX6_heaviest_3 : decode cX6_heaviest 3 = .ok (.invokevirtual 82, 3) := by decide +kernel
theorem dX6_heaviest_6 : decode cX6_heaviest 6 = .ok (.bipush (-2), 2) := by decide +kernel
theorem dX6_heaviest_8 : decode cX6_heaviest 8 = .ok (.if_icmp .ne 8, 3) := by decide +kernel
theorem dX6_heaviest_11 : decode cX6_heaviest 11 = .ok (.bipush (-2), 2) := by decide +kernel
theorem dX6_heaviest_13 : decode cX6_heaviest 13 = .ok (.goto 14, 3) := by decide +kernel
theorem dX6_heaviest_16 : decode cX6_heaviest 16 = .ok (.aload_n 0, 1) := by decide +kernel
theorem dX6_heaviest_17 : decode cX6_heaviest 17 = .ok (.getfield 37, 3) := by decide +kernel
theorem dX6_heaviest_20 : decode cX6_heaviest 20 = .ok (.aload_n 0, 1) := by decide +kernel
theorem dX6_heaviest_21 : decode cX6_heaviest 21 = .ok (.getfield 20, 3) := by decide +kernel
theorem dX6_heaviest_24 : decode cX6_heaviest 24 = .ok (.invokevirtual 159, 3) := by decide +kernel
theorem dX6_heaviest_27 : decode cX6_heaviest 27 = .ok (.ireturn, 1) := by decide +kernel
theorem dX6_sum_0 : decode cX6_sum 0 = .ok (.aload_n 0, 1) := by decide +kernel
theorem dX6_sum_1 : decode cX6_sum 1 = .ok (.iload_n 1, 1) := by decide +kernel
theorem dX6_sum_2 : decode cX6_sum 2 = .ok (.iload_n 2, 1) := by decide +kernel
theorem dX6_sum_3 : decode cX6_sum 3 = .ok (.invokevirtual 82, 3) := by decide +kernel
theorem dX6_sum_6 : decode cX6_sum 6 = .ok (.istore_n 3, 1) := by decide +kernel
theorem dX6_sum_7 : decode cX6_sum 7 = .ok (.iload_n 3, 1) := by decide +kernel
theorem dX6_sum_8 : decode cX6_sum 8 = .ok (.ifCond .ge 7, 3) := by decide +kernel
theorem dX6_sum_11 : decode cX6_sum 11 = .ok (.ldc2_w 134, 3) := by decide +kernel
theorem dX6_sum_14 : decode cX6_sum 14 = .ok (.lreturn, 1) := by decide +kernel
theorem dX6_sum_15 : decode cX6_sum 15 = .ok (.lconst 0, 1) := by decide +kernel
theorem dX6_sum_16 : decode cX6_sum 16 = .ok (.lstore 4, 2) := by decide +kernel
theorem dX6_sum_18 : decode cX6_sum 18 = .ok (.iconst 0, 1) := by decide +kernel
theorem dX6_sum_19 : decode cX6_sum 19 = .ok (.istore 6, 2) := by decide +kernel
theorem dX6_sum_21 : decode cX6_sum 21 = .ok (.iload 6, 2) := by decide +kernel
theorem dX6_sum_23 : decode cX6_sum 23 = .ok (.iload_n 3, 1) := by decide +kernel
theorem dX6_sum_24 : decode cX6_sum 24 = .ok (.if_icmp .gt 29, 3) := by decide +kernel
theorem dX6_sum_27 : decode cX6_sum 27 = .ok (.lload 4, 2) := by decide +kernel
theorem dX6_sum_29 : decode cX6_sum 29 = .ok (.aload_n 0, 1) := by decide +kernel
theorem dX6_sum_30 : decode cX6_sum 30 = .ok (.getfield 9, 3) := by decide +kernel
theorem dX6_sum_33 : decode cX6_sum 33 = .ok (.aload_n 0, 1) := by decide +kernel
theorem dX6_sum_34 : decode cX6_sum 34 = .ok (.getfield 37, 3) := by decide +kernel
theorem dX6_sum_37 : decode cX6_sum 37 = .ok (.getfield 157, 3) := by decide +kernel
theorem dX6_sum_40 : decode cX6_sum 40 = .ok (.iload 6, 2) := by decide +kernel
theorem dX6_sum_42 : decode cX6_sum 42 = .ok (.iaload, 1) := by decide +kernel
theorem dX6_sum_43 : decode cX6_sum 43 = .ok (.laload, 1) := by decide +kernel
theorem dX6_sum_44 : decode cX6_sum 44 = .ok (.ladd, 1) := by decide +kernel
theorem dX6_sum_45 : decode cX6_sum 45 = .ok (.lstore 4, 2) := by decide +kernel
theorem dX6_sum_47 : decode cX6_sum 47 = .ok (.iinc 6 1, 3) := by decide +kernel
theorem dX6_sum_50 : decode cX6_sum 50 = .ok (.goto (-29), 3) := by decide +kernel
theorem dX6_sum_53 : decode cX6_sum 53 = .ok (.lload 4, 2) := by decide +kernel
theorem dX6_sum_55 : decode cX6_sum 55 = .ok (.lreturn, 1) := by decide +kernel
theorem dX6_least_0 : decode cX6_least 0 = .ok (.aload_n 0, 1) := by decide +kernel
theorem dX6_least_1 : decode cX6_least 1 = .ok (.iload_n 1, 1) := by decide +kernel
theorem dX6_least_2 : decode cX6_least 2 = .ok (.iload_n 2, 1) := by decide +kernel
theorem dX6_least_3 : decode cX6_least 3 = .ok (.invokevirtual 82, 3) := by decide +kernel
theorem dX6_least_6 : decode cX6_least 6 = .ok (.istore_n 3, 1) := by decide +kernel
theorem dX6_least_7 : decode cX6_least 7 = .ok (.iload_n 3, 1) := by decide +kernel
theorem dX6_least_8 : decode cX6_least 8 = .ok (.ifCond .ge 7, 3) := by decide +kernel
theorem dX6_least_11 : decode cX6_least 11 = .ok (.ldc2_w 134, 3) := by decide +kernel
theorem dX6_least_14 : decode cX6_least 14 = .ok (.lreturn, 1) := by decide +kernel
theorem dX6_least_15 : decode cX6_least 15 = .ok (.aload_n 0, 1) := by decide +kernel
theorem dX6_least_16 : decode cX6_least 16 = .ok (.getfield 9, 3) := by decide +kernel
theorem dX6_least_19 : decode cX6_least 19 = .ok (.aload_n 0, 1) := by decide +kernel
theorem dX6_least_20 : decode cX6_least 20 = .ok (.getfield 37, 3) := by decide +kernel
theorem dX6_least_23 : decode cX6_least 23 = .ok (.getfield 157, 3) := by decide +kernel
theorem dX6_least_26 : decode cX6_least 26 = .ok (.iconst 0, 1) := by decide +kernel
theorem dX6_least_27 : decode cX6_least 27 = .ok (.iaload, 1) := by decide +kernel
theorem dX6_least_28 : decode cX6_least 28 = .ok (.laload, 1) := by decide +kernel
theorem dX6_least_29 : decode cX6_least 29 = .ok (.lstore 4, 2) := by decide +kernel
theorem dX6_least_31 : decode cX6_least 31 = .ok (.iconst 1, 1) := by decide +kernel
theorem dX6_least_32 : decode cX6_least 32 = .ok (.istore 6, 2) := by decide +kernel
theorem dX6_least_34 : decode cX6_least 34 = .ok (.iload 6, 2) := by decide +kernel
theorem dX6_least_36 : decode cX6_least 36 = .ok (.iload_n 3, 1) := by decide +kernel
theorem dX6_least_37 : decode cX6_least 37 = .ok (.if_icmp .gt 31, 3) := by decide +kernel
theorem dX6_least_40 : decode cX6_least 40 = .ok (.lload 4, 2) := by decide +kernel
theorem dX6_least_42 : decode cX6_least 42 = .ok (.aload_n 0, 1) := by decide +kernel
theorem dX6_least_43 : decode cX6_least 43 = .ok (.getfield 9, 3) := by decide +kernel
theorem dX6_least_46 : decode cX6_least 46 = .ok (.aload_n 0, 1) := by decide +kernel
theorem dX6_least_47 : decode cX6_least 47 = .ok (.getfield 37, 3) := by decide +kernel
theorem dX6_least_50 : decode cX6_least 50 = .ok (.getfield 157, 3) := by decide +kernel
theorem dX6_least_53 : decode cX6_least 53 = .ok (.iload 6, 2) := by decide +kernel
theorem dX6_least_55 : decode cX6_least 55 = .ok (.iaload, 1) := by decide +kernel
theorem dX6_least_56 : decode cX6_least 56 = .ok (.laload, 1) := by decide +kernel
theorem dX6_least_57 : decode cX6_least 57 = .ok (.invokestatic 163, 3) := by decide +kernel
theorem dX6_least_60 : decode cX6_least 60 = .ok (.lstore 4, 2) := by decide +kernel
theorem dX6_least_62 : decode cX6_least 62 = .ok (.iinc 6 1, 3) := by decide +kernel
theorem dX6_least_65 : decode cX6_least 65 = .ok (.goto (-31), 3) := by decide +kernel
theorem dX6_least_68 : decode cX6_least 68 = .ok (.lload 4, 2) := by decide +kernel
theorem dX6_least_70 : decode cX6_least 70 = .ok (.lreturn, 1) := by decide +kernel
theorem dX6_add_0 : decode cX6_add 0 = .ok (.aload_n 0, 1) := by decide +kernel
theorem dX6_add_1 : decode cX6_add 1 = .ok (.iload_n 1, 1) := by decide +kernel
theorem dX6_add_2 : decode cX6_add 2 = .ok (.iload_n 2, 1) := by decide +kernel
theorem dX6_add_3 : decode cX6_add 3 = .ok (.invokevirtual 82, 3) := by decide +kernel
theorem dX6_add_6 : decode cX6_add 6 = .ok (.istore 5, 2) := by decide +kernel
theorem dX6_add_8 : decode cX6_add 8 = .ok (.iload 5, 2) := by decide +kernel
theorem dX6_add_10 : decode cX6_add 10 = .ok (.bipush (-2), 2) := by decide +kernel
theorem dX6_add_12 : decode cX6_add 12 = .ok (.if_icmp .ne 6, 3) := by decide +kernel
theorem dX6_add_15 : decode cX6_add 15 = .ok (.bipush (-2), 2) := by decide +kernel
theorem dX6_add_17 : decode cX6_add 17 = .ok (.ireturn, 1) := by decide +kernel
theorem dX6_add_18 : decode cX6_add 18 = .ok (.iload 5, 2) := by decide +kernel
theorem dX6_add_20 : decode cX6_add 20 = .ok (.iconst (-1), 1) := by decide +kernel
theorem dX6_add_21 : decode cX6_add 21 = .ok (.if_icmp .ne 6, 3) := by decide +kernel
theorem dX6_add_24 : decode cX6_add 24 = .ok (.bipush (-3), 2) := by decide +kernel
theorem dX6_add_26 : decode cX6_add 26 = .ok (.ireturn, 1) := by decide +kernel
theorem dX6_add_27 : decode cX6_add 27 = .ok (.aload_n 0, 1) := by decide +kernel
theorem dX6_add_28 : decode cX6_add 28 = .ok (.getfield 51, 3) := by decide +kernel
theorem dX6_add_31 : decode cX6_add 31 = .ok (.iconst 1, 1) := by decide +kernel
theorem dX6_add_32 : decode cX6_add 32 = .ok (.iload_n 1, 1) := by decide +kernel
theorem dX6_add_33 : decode cX6_add 33 = .ok (.iload_n 2, 1) := by decide +kernel
theorem dX6_add_34 : decode cX6_add 34 = .ok (.lload_n 3, 1) := by decide +kernel
theorem dX6_add_35 : decode cX6_add 35 = .ok (.invokevirtual 94, 3) := by decide +kernel
theorem dX6_add_38 : decode cX6_add 38 = .ok (.aload_n 0, 1) := by decide +kernel
theorem dX6_add_39 : decode cX6_add 39 = .ok (.lload_n 3, 1) := by decide +kernel
theorem dX6_add_40 : decode cX6_add 40 = .ok (.invokevirtual 169, 3) := by decide +kernel
theorem dX6_add_43 : decode cX6_add 43 = .ok (.ireturn, 1) := by decide +kernel
theorem dX6_value_0 : decode cX6_value 0 = .ok (.aload_n 0, 1) := by decide +kernel
theorem dX6_value_1 : decode cX6_value 1 = .ok (.iload_n 1, 1) := by decide +kernel
theorem dX6_value_2 : decode cX6_value 2 = .ok (.invokevirtual 78, 3) := by decide +kernel
theorem dX6_value_5 : decode cX6_value 5 = .ok (.ifCond .eq 12, 3) := by decide +kernel
theorem dX6_value_8 : decode cX6_value 8 = .ok (.aload_n 0, 1) := by decide +kernel
theorem dX6_value_9 : decode cX6_value 9 = .ok (.getfield 9, 3) := by decide +kernel
theorem dX6_value_12 : decode cX6_value 12 = .ok (.iload_n 1, 1) := by decide +kernel
theorem dX6_value_13 : decode cX6_value 13 = .ok (.laload, 1) := by decide +kernel
theorem dX6_value_14 : decode cX6_value 14 = .ok (.goto 6, 3) := by decide +kernel
theorem dX6_value_17 : decode cX6_value 17 = .ok (.ldc2_w 134, 3) := by decide +kernel
theorem dX6_value_20 : decode cX6_value 20 = .ok (.lreturn, 1) := by decide +kernel
theorem dX6_set_0 : decode cX6_set 0 = .ok (.aload_n 0, 1) := by decide +kernel
theorem dX6_set_1 : decode cX6_set 1 = .ok (.iload_n 1, 1) := by decide +kernel
theorem dX6_set_2 : decode cX6_set 2 = .ok (.invokevirtual 78, 3) := by decide +kernel
theorem dX6_set_5 : decode cX6_set 5 = .ok (.ifCond .ne 6, 3) := by decide +kernel
theorem dX6_set_8 : decode cX6_set 8 = .ok (.bipush (-2), 2) := by decide +kernel
theorem dX6_set_10 : decode cX6_set 10 = .ok (.ireturn, 1) := by decide +kernel
theorem dX6_set_11 : decode cX6_set 11 = .ok (.aload_n 0, 1) := by decide +kernel
theorem dX6_set_12 : decode cX6_set 12 = .ok (.getfield 51, 3) := by decide +kernel
theorem dX6_set_15 : decode cX6_set 15 = .ok (.iconst 0, 1) := by decide +kernel
theorem dX6_set_16 : decode cX6_set 16 = .ok (.iload_n 1, 1) := by decide +kernel
theorem dX6_set_17 : decode cX6_set 17 = .ok (.iconst (-1), 1) := by decide +kernel
theorem dX6_set_18 : decode cX6_set 18 = .ok (.aload_n 0, 1) := by decide +kernel
theorem dX6_set_19 : decode cX6_set 19 = .ok (.getfield 9, 3) := by decide +kernel
theorem dX6_set_22 : decode cX6_set 22 = .ok (.iload_n 1, 1) := by decide +kernel
theorem dX6_set_23 : decode cX6_set 23 = .ok (.laload, 1) := by decide +kernel
theorem dX6_set_24 : decode cX6_set 24 = .ok (.invokevirtual 94, 3) := by decide +kernel
theorem dX6_set_27 : decode cX6_set 27 = .ok (.aload_n 0, 1) := by decide +kernel
theorem dX6_set_28 : decode cX6_set 28 = .ok (.getfield 9, 3) := by decide +kernel
theorem dX6_set_31 : decode cX6_set 31 = .ok (.iload_n 1, 1) := by decide +kernel
theorem dX6_set_32 : decode cX6_set 32 = .ok (.lload_n 2, 1) := by decide +kernel
theorem dX6_set_33 : decode cX6_set 33 = .ok (.lastore, 1) := by decide +kernel
theorem dX6_set_34 : decode cX6_set 34 = .ok (.iconst 1, 1) := by decide +kernel
theorem dX6_set_35 : decode cX6_set 35 = .ok (.ireturn, 1) := by decide +kernel
theorem dX6_root_0 : decode cX6_root 0 = .ok (.aload_n 0, 1) := by decide +kernel
theorem dX6_root_1 : decode cX6_root 1 = .ok (.iload_n 1, 1) := by decide +kernel
theorem dX6_root_2 : decode cX6_root 2 = .ok (.invokevirtual 78, 3) := by decide +kernel
theorem dX6_root_5 : decode cX6_root 5 = .ok (.ifCond .ne 6, 3) := by decide +kernel
theorem dX6_root_8 : decode cX6_root 8 = .ok (.bipush (-2), 2) := by decide +kernel
theorem dX6_root_10 : decode cX6_root 10 = .ok (.ireturn, 1) := by decide +kernel
theorem dX6_root_11 : decode cX6_root 11 = .ok (.aload_n 0, 1) := by decide +kernel
theorem dX6_root_12 : decode cX6_root 12 = .ok (.iload_n 1, 1) := by decide +kernel
theorem dX6_root_13 : decode cX6_root 13 = .ok (.invokevirtual 173, 3) := by decide +kernel
theorem dX6_root_16 : decode cX6_root 16 = .ok (.istore_n 2, 1) := by decide +kernel
theorem dX6_root_17 : decode cX6_root 17 = .ok (.aload_n 0, 1) := by decide +kernel
theorem dX6_root_18 : decode cX6_root 18 = .ok (.getfield 51, 3) := by decide +kernel
theorem dX6_root_21 : decode cX6_root 21 = .ok (.iconst 3, 1) := by decide +kernel
theorem dX6_root_22 : decode cX6_root 22 = .ok (.iload_n 1, 1) := by decide +kernel
theorem dX6_root_23 : decode cX6_root 23 = .ok (.aload_n 0, 1) := by decide +kernel
theorem dX6_root_24 : decode cX6_root 24 = .ok (.getfield 13, 3) := by decide +kernel
theorem dX6_root_27 : decode cX6_root 27 = .ok (.iload_n 1, 1) := by decide +kernel
theorem dX6_root_28 : decode cX6_root 28 = .ok (.iaload, 1) := by decide +kernel
theorem dX6_root_29 : decode cX6_root 29 = .ok (.lconst 0, 1) := by decide +kernel
theorem dX6_root_30 : decode cX6_root 30 = .ok (.invokevirtual 94, 3) := by decide +kernel
theorem dX6_root_33 : decode cX6_root 33 = .ok (.aload_n 0, 1) := by decide +kernel
theorem dX6_root_34 : decode cX6_root 34 = .ok (.dup, 1) := by decide +kernel
theorem dX6_root_35 : decode cX6_root 35 = .ok (.getfield 176, 3) := by decide +kernel
theorem dX6_root_38 : decode cX6_root 38 = .ok (.iconst 1, 1) := by decide +kernel
theorem dX6_root_39 : decode cX6_root 39 = .ok (.iadd, 1) := by decide +kernel
theorem dX6_root_40 : decode cX6_root 40 = .ok (.putfield 176, 3) := by decide +kernel
theorem dX6_root_43 : decode cX6_root 43 = .ok (.aload_n 0, 1) := by decide +kernel
theorem dX6_root_44 : decode cX6_root 44 = .ok (.getfield 13, 3) := by decide +kernel
theorem dX6_root_47 : decode cX6_root 47 = .ok (.iload_n 1, 1) := by decide +kernel
theorem dX6_root_48 : decode cX6_root 48 = .ok (.aload_n 0, 1) := by decide +kernel
theorem dX6_root_49 : decode cX6_root 49 = .ok (.getfield 176, 3) := by decide +kernel
theorem dX6_root_52 : decode cX6_root 52 = .ok (.iastore, 1) := by decide +kernel
theorem dX6_root_53 : decode cX6_root 53 = .ok (.iload_n 2, 1) := by decide +kernel
theorem dX6_root_54 : decode cX6_root 54 = .ok (.ireturn, 1) := by decide +kernel
theorem dX6_below_0 : decode cX6_below 0 = .ok (.aload_n 0, 1) := by decide +kernel
theorem dX6_below_1 : decode cX6_below 1 = .ok (.iload_n 1, 1) := by decide +kernel
theorem dX6_below_2 : decode cX6_below 2 = .ok (.invokevirtual 78, 3) := by decide +kernel
theorem dX6_below_5 : decode cX6_below 5 = .ok (.ifCond .ne 6, 3) := by decide +kernel
theorem dX6_below_8 : decode cX6_below 8 = .ok (.bipush (-2), 2) := by decide +kernel
theorem dX6_below_10 : decode cX6_below 10 = .ok (.ireturn, 1) := by decide +kernel
theorem dX6_below_11 : decode cX6_below 11 = .ok (.iload_n 2, 1) := by decide +kernel
theorem dX6_below_12 : decode cX6_below 12 = .ok (.tableswitch 121 0 4 #[36, 42, 60, 75, 88], 36) := by decide +kernel
theorem dX6_below_48 : decode cX6_below 48 = .ok (.aload_n 0, 1) := by decide +kernel
theorem dX6_below_49 : decode cX6_below 49 = .ok (.iload_n 1, 1) := by decide +kernel
theorem dX6_below_50 : decode cX6_below 50 = .ok (.invokevirtual 173, 3) := by decide +kernel
theorem dX6_below_53 : decode cX6_below 53 = .ok (.ireturn, 1) := by decide +kernel
theorem dX6_below_54 : decode cX6_below 54 = .ok (.aload_n 0, 1) := by decide +kernel
theorem dX6_below_55 : decode cX6_below 55 = .ok (.iload_n 1, 1) := by decide +kernel
theorem dX6_below_56 : decode cX6_below 56 = .ok (.invokevirtual 179, 3) := by decide +kernel
theorem dX6_below_59 : decode cX6_below 59 = .ok (.aload_n 0, 1) := by decide +kernel
theorem dX6_below_60 : decode cX6_below 60 = .ok (.getfield 27, 3) := by decide +kernel
theorem dX6_below_63 : decode cX6_below 63 = .ok (.aload_n 0, 1) := by decide +kernel
theorem dX6_below_64 : decode cX6_below 64 = .ok (.getfield 20, 3) := by decide +kernel
theorem dX6_below_67 : decode cX6_below 67 = .ok (.iload_n 1, 1) := by decide +kernel
theorem dX6_below_68 : decode cX6_below 68 = .ok (.invokevirtual 182, 3) := by decide +kernel
theorem dX6_below_71 : decode cX6_below 71 = .ok (.ireturn, 1) := by decide +kernel
theorem dX6_below_72 : decode cX6_below 72 = .ok (.aload_n 0, 1) := by decide +kernel
theorem dX6_below_73 : decode cX6_below 73 = .ok (.iload_n 1, 1) := by decide +kernel
theorem dX6_below_74 : decode cX6_below 74 = .ok (.invokevirtual 179, 3) := by decide +kernel
theorem dX6_below_77 : decode cX6_below 77 = .ok (.aload_n 0, 1) := by decide +kernel
theorem dX6_below_78 : decode cX6_below 78 = .ok (.getfield 27, 3) := by decide +kernel
theorem dX6_below_81 : decode cX6_below 81 = .ok (.getfield 186, 3) := by decide +kernel
theorem dX6_below_84 : decode cX6_below 84 = .ok (.iload_n 1, 1) := by decide +kernel
theorem dX6_below_85 : decode cX6_below 85 = .ok (.iaload, 1) := by decide +kernel
theorem dX6_below_86 : decode cX6_below 86 = .ok (.ireturn, 1) := by decide +kernel
theorem dX6_below_87 : decode cX6_below 87 = .ok (.aload_n 0, 1) := by decide +kernel
theorem dX6_below_88 : decode cX6_below 88 = .ok (.iload_n 1, 1) := by decide +kernel
theorem dX6_below_89 : decode cX6_below 89 = .ok (.invokevirtual 189, 3) := by decide +kernel
theorem dX6_below_92 : decode cX6_below 92 = .ok (.aload_n 0, 1) := by decide +kernel
theorem dX6_below_93 : decode cX6_below 93 = .ok (.getfield 27, 3) := by decide +kernel
theorem dX6_below_96 : decode cX6_below 96 = .ok (.getfield 152, 3) := by decide +kernel
theorem dX6_below_99 : decode cX6_below 99 = .ok (.ireturn, 1) := by decide +kernel
theorem dX6_below_100 : decode cX6_below 100 = .ok (.aload_n 0, 1) := by decide +kernel
theorem dX6_below_101 : decode cX6_below 101 = .ok (.getfield 44, 3) := by decide +kernel
theorem dX6_below_104 : decode cX6_below 104 = .ok (.aload_n 0, 1) := by decide +kernel
theorem dX6_below_105 : decode cX6_below 105 = .ok (.getfield 20, 3) := by decide +kernel
theorem dX6_below_108 : decode cX6_below 108 = .ok (.aload_n 0, 1) := by decide +kernel
end
section
theorem dX6_below_109 : decode cX6_below 109 = .ok (.getfield 69, 3) := by decide +kernel
theorem dX6_below_112 : decode cX6_below 112 = .ok (.invokevirtual 123, 3) := by decide +kernel
theorem dX6_below_115 : decode cX6_below 115 = .ok (.aload_n 0, 1) := by decide +kernel
theorem dX6_below_116 : decode cX6_below 116 = .ok (.getfield 44, 3) := by decide +kernel
theorem dX6_below_119 : decode cX6_below 119 = .ok (.getfield 192, 3) := by decide +kernel
theorem dX6_below_122 : decode cX6_below 122 = .ok (.iload_n 1, 1) := by decide +kernel
theorem dX6_below_123 : decode cX6_below 123 = .ok (.baload, 1) := by decide +kernel
theorem dX6_below_124 : decode cX6_below 124 = .ok (.ifCond .eq 7, 3) := by decide +kernel
theorem dX6_below_127 : decode cX6_below 127 = .ok (.iconst 1, 1) := by decide +kernel
theorem dX6_below_128 : decode cX6_below 128 = .ok (.goto 4, 3) := by decide +kernel
theorem dX6_below_131 : decode cX6_below 131 = .ok (.iconst 0, 1) := by decide +kernel
theorem dX6_below_132 : decode cX6_below 132 = .ok (.ireturn, 1) := by decide +kernel
theorem dX6_below_133 : decode cX6_below 133 = .ok (.bipush (-2), 2) := by decide +kernel
theorem dX6_below_135 : decode cX6_below 135 = .ok (.ireturn, 1) := by decide +kernel
theorem dX6_meet_0 : decode cX6_meet 0 = .ok (.aload_n 0, 1) := by decide +kernel
theorem dX6_meet_1 : decode cX6_meet 1 = .ok (.iload_n 1, 1) := by decide +kernel
theorem dX6_meet_2 : decode cX6_meet 2 = .ok (.invokevirtual 78, 3) := by decide +kernel
theorem dX6_meet_5 : decode cX6_meet 5 = .ok (.ifCond .eq 11, 3) := by decide +kernel
theorem dX6_meet_8 : decode cX6_meet 8 = .ok (.aload_n 0, 1) := by decide +kernel
theorem dX6_meet_9 : decode cX6_meet 9 = .ok (.iload_n 2, 1) := by decide +kernel
theorem dX6_meet_10 : decode cX6_meet 10 = .ok (.invokevirtual 78, 3) := by decide +kernel
theorem dX6_meet_13 : decode cX6_meet 13 = .ok (.ifCond .ne 6, 3) := by decide +kernel
theorem dX6_meet_16 : decode cX6_meet 16 = .ok (.bipush (-2), 2) := by decide +kernel
theorem dX6_meet_18 : decode cX6_meet 18 = .ok (.ireturn, 1) := by decide +kernel
theorem dX6_meet_19 : decode cX6_meet 19 = .ok (.aload_n 0, 1) := by decide +kernel
theorem dX6_meet_20 : decode cX6_meet 20 = .ok (.iload_n 1, 1) := by decide +kernel
theorem dX6_meet_21 : decode cX6_meet 21 = .ok (.invokevirtual 179, 3) := by decide +kernel
theorem dX6_meet_24 : decode cX6_meet 24 = .ok (.aload_n 0, 1) := by decide +kernel
theorem dX6_meet_25 : decode cX6_meet 25 = .ok (.getfield 27, 3) := by decide +kernel
theorem dX6_meet_28 : decode cX6_meet 28 = .ok (.getfield 153, 3) := by decide +kernel
theorem dX6_meet_31 : decode cX6_meet 31 = .ok (.iload_n 2, 1) := by decide +kernel
theorem dX6_meet_32 : decode cX6_meet 32 = .ok (.baload, 1) := by decide +kernel
theorem dX6_meet_33 : decode cX6_meet 33 = .ok (.ifCond .ne 5, 3) := by decide +kernel
theorem dX6_meet_36 : decode cX6_meet 36 = .ok (.iconst (-1), 1) := by decide +kernel
theorem dX6_meet_37 : decode cX6_meet 37 = .ok (.ireturn, 1) := by decide +kernel
theorem dX6_meet_38 : decode cX6_meet 38 = .ok (.iload_n 1, 1) := by decide +kernel
theorem dX6_meet_39 : decode cX6_meet 39 = .ok (.istore_n 3, 1) := by decide +kernel
theorem dX6_meet_40 : decode cX6_meet 40 = .ok (.iload_n 2, 1) := by decide +kernel
theorem dX6_meet_41 : decode cX6_meet 41 = .ok (.istore 4, 2) := by decide +kernel
theorem dX6_meet_43 : decode cX6_meet 43 = .ok (.iconst 0, 1) := by decide +kernel
theorem dX6_meet_44 : decode cX6_meet 44 = .ok (.istore 5, 2) := by decide +kernel
theorem dX6_meet_46 : decode cX6_meet 46 = .ok (.iload_n 3, 1) := by decide +kernel
theorem dX6_meet_47 : decode cX6_meet 47 = .ok (.iload 4, 2) := by decide +kernel
theorem dX6_meet_49 : decode cX6_meet 49 = .ok (.if_icmp .eq 70, 3) := by decide +kernel
theorem dX6_meet_52 : decode cX6_meet 52 = .ok (.iload 5, 2) := by decide +kernel
theorem dX6_meet_54 : decode cX6_meet 54 = .ok (.sipush 200, 3) := by decide +kernel
theorem dX6_meet_57 : decode cX6_meet 57 = .ok (.if_icmp .ge 62, 3) := by decide +kernel
theorem dX6_meet_60 : decode cX6_meet 60 = .ok (.aload_n 0, 1) := by decide +kernel
theorem dX6_meet_61 : decode cX6_meet 61 = .ok (.getfield 27, 3) := by decide +kernel
theorem dX6_meet_64 : decode cX6_meet 64 = .ok (.getfield 186, 3) := by decide +kernel
theorem dX6_meet_67 : decode cX6_meet 67 = .ok (.iload_n 3, 1) := by decide +kernel
theorem dX6_meet_68 : decode cX6_meet 68 = .ok (.iaload, 1) := by decide +kernel
theorem dX6_meet_69 : decode cX6_meet 69 = .ok (.aload_n 0, 1) := by decide +kernel
theorem dX6_meet_70 : decode cX6_meet 70 = .ok (.getfield 27, 3) := by decide +kernel
theorem dX6_meet_73 : decode cX6_meet 73 = .ok (.getfield 186, 3) := by decide +kernel
theorem dX6_meet_76 : decode cX6_meet 76 = .ok (.iload 4, 2) := by decide +kernel
theorem dX6_meet_78 : decode cX6_meet 78 = .ok (.iaload, 1) := by decide +kernel
theorem dX6_meet_79 : decode cX6_meet 79 = .ok (.if_icmp .lt 19, 3) := by decide +kernel
theorem dX6_meet_82 : decode cX6_meet 82 = .ok (.aload_n 0, 1) := by decide +kernel
theorem dX6_meet_83 : decode cX6_meet 83 = .ok (.getfield 27, 3) := by decide +kernel
theorem dX6_meet_86 : decode cX6_meet 86 = .ok (.aload_n 0, 1) := by decide +kernel
theorem dX6_meet_87 : decode cX6_meet 87 = .ok (.getfield 20, 3) := by decide +kernel
theorem dX6_meet_90 : decode cX6_meet 90 = .ok (.iload_n 3, 1) := by decide +kernel
theorem dX6_meet_91 : decode cX6_meet 91 = .ok (.invokevirtual 182, 3) := by decide +kernel
theorem dX6_meet_94 : decode cX6_meet 94 = .ok (.istore_n 3, 1) := by decide +kernel
theorem dX6_meet_95 : decode cX6_meet 95 = .ok (.goto 18, 3) := by decide +kernel
theorem dX6_meet_98 : decode cX6_meet 98 = .ok (.aload_n 0, 1) := by decide +kernel
theorem dX6_meet_99 : decode cX6_meet 99 = .ok (.getfield 27, 3) := by decide +kernel
theorem dX6_meet_102 : decode cX6_meet 102 = .ok (.aload_n 0, 1) := by decide +kernel
theorem dX6_meet_103 : decode cX6_meet 103 = .ok (.getfield 20, 3) := by decide +kernel
theorem dX6_meet_106 : decode cX6_meet 106 = .ok (.iload 4, 2) := by decide +kernel
theorem dX6_meet_108 : decode cX6_meet 108 = .ok (.invokevirtual 182, 3) := by decide +kernel
theorem dX6_meet_111 : decode cX6_meet 111 = .ok (.istore 4, 2) := by decide +kernel
theorem dX6_meet_113 : decode cX6_meet 113 = .ok (.iinc 5 1, 3) := by decide +kernel
theorem dX6_meet_116 : decode cX6_meet 116 = .ok (.goto (-70), 3) := by decide +kernel
theorem dX6_meet_119 : decode cX6_meet 119 = .ok (.iload_n 3, 1) := by decide +kernel
theorem dX6_meet_120 : decode cX6_meet 120 = .ok (.ireturn, 1) := by decide +kernel
theorem dX6_sumBelow_0 : decode cX6_sumBelow 0 = .ok (.aload_n 0, 1) := by decide +kernel
theorem dX6_sumBelow_1 : decode cX6_sumBelow 1 = .ok (.iload_n 1, 1) := by decide +kernel
theorem dX6_sumBelow_2 : decode cX6_sumBelow 2 = .ok (.invokevirtual 78, 3) := by decide +kernel
theorem dX6_sumBelow_5 : decode cX6_sumBelow 5 = .ok (.ifCond .ne 7, 3) := by decide +kernel
theorem dX6_sumBelow_8 : decode cX6_sumBelow 8 = .ok (.ldc2_w 134, 3) := by decide +kernel
theorem dX6_sumBelow_11 : decode cX6_sumBelow 11 = .ok (.lreturn, 1) := by decide +kernel
theorem dX6_sumBelow_12 : decode cX6_sumBelow 12 = .ok (.aload_n 0, 1) := by decide +kernel
theorem dX6_sumBelow_13 : decode cX6_sumBelow 13 = .ok (.iload_n 1, 1) := by decide +kernel
theorem dX6_sumBelow_14 : decode cX6_sumBelow 14 = .ok (.invokevirtual 189, 3) := by decide +kernel
theorem dX6_sumBelow_17 : decode cX6_sumBelow 17 = .ok (.lconst 0, 1) := by decide +kernel
theorem dX6_sumBelow_18 : decode cX6_sumBelow 18 = .ok (.lstore_n 2, 1) := by decide +kernel
theorem dX6_sumBelow_19 : decode cX6_sumBelow 19 = .ok (.iconst 0, 1) := by decide +kernel
theorem dX6_sumBelow_20 : decode cX6_sumBelow 20 = .ok (.istore 4, 2) := by decide +kernel
theorem dX6_sumBelow_22 : decode cX6_sumBelow 22 = .ok (.iload 4, 2) := by decide +kernel
theorem dX6_sumBelow_24 : decode cX6_sumBelow 24 = .ok (.aload_n 0, 1) := by decide +kernel
theorem dX6_sumBelow_25 : decode cX6_sumBelow 25 = .ok (.getfield 27, 3) := by decide +kernel
theorem dX6_sumBelow_28 : decode cX6_sumBelow 28 = .ok (.getfield 152, 3) := by decide +kernel
theorem dX6_sumBelow_31 : decode cX6_sumBelow 31 = .ok (.if_icmp .ge 27, 3) := by decide +kernel
theorem dX6_sumBelow_34 : decode cX6_sumBelow 34 = .ok (.lload_n 2, 1) := by decide +kernel
theorem dX6_sumBelow_35 : decode cX6_sumBelow 35 = .ok (.aload_n 0, 1) := by decide +kernel
theorem dX6_sumBelow_36 : decode cX6_sumBelow 36 = .ok (.getfield 9, 3) := by decide +kernel
theorem dX6_sumBelow_39 : decode cX6_sumBelow 39 = .ok (.aload_n 0, 1) := by decide +kernel
theorem dX6_sumBelow_40 : decode cX6_sumBelow 40 = .ok (.getfield 27, 3) := by decide +kernel
theorem dX6_sumBelow_43 : decode cX6_sumBelow 43 = .ok (.getfield 195, 3) := by decide +kernel
theorem dX6_sumBelow_46 : decode cX6_sumBelow 46 = .ok (.iload 4, 2) := by decide +kernel
theorem dX6_sumBelow_48 : decode cX6_sumBelow 48 = .ok (.iaload, 1) := by decide +kernel
theorem dX6_sumBelow_49 : decode cX6_sumBelow 49 = .ok (.laload, 1) := by decide +kernel
theorem dX6_sumBelow_50 : decode cX6_sumBelow 50 = .ok (.ladd, 1) := by decide +kernel
theorem dX6_sumBelow_51 : decode cX6_sumBelow 51 = .ok (.lstore_n 2, 1) := by decide +kernel
theorem dX6_sumBelow_52 : decode cX6_sumBelow 52 = .ok (.iinc 4 1, 3) := by decide +kernel
theorem dX6_sumBelow_55 : decode cX6_sumBelow 55 = .ok (.goto (-33), 3) := by decide +kernel
theorem dX6_sumBelow_58 : decode cX6_sumBelow 58 = .ok (.lload_n 2, 1) := by decide +kernel
theorem dX6_sumBelow_59 : decode cX6_sumBelow 59 = .ok (.lreturn, 1) := by decide +kernel
theorem dX6_addBelow_0 : decode cX6_addBelow 0 = .ok (.aload_n 0, 1) := by decide +kernel
theorem dX6_addBelow_1 : decode cX6_addBelow 1 = .ok (.iload_n 1, 1) := by decide +kernel
theorem dX6_addBelow_2 : decode cX6_addBelow 2 = .ok (.invokevirtual 78, 3) := by decide +kernel
theorem dX6_addBelow_5 : decode cX6_addBelow 5 = .ok (.ifCond .ne 6, 3) := by decide +kernel
theorem dX6_addBelow_8 : decode cX6_addBelow 8 = .ok (.bipush (-2), 2) := by decide +kernel
theorem dX6_addBelow_10 : decode cX6_addBelow 10 = .ok (.ireturn, 1) := by decide +kernel
theorem dX6_addBelow_11 : decode cX6_addBelow 11 = .ok (.aload_n 0, 1) := by decide +kernel
theorem dX6_addBelow_12 : decode cX6_addBelow 12 = .ok (.getfield 51, 3) := by decide +kernel
theorem dX6_addBelow_15 : decode cX6_addBelow 15 = .ok (.iconst 2, 1) := by decide +kernel
theorem dX6_addBelow_16 : decode cX6_addBelow 16 = .ok (.iload_n 1, 1) := by decide +kernel
theorem dX6_addBelow_17 : decode cX6_addBelow 17 = .ok (.iconst (-1), 1) := by decide +kernel
theorem dX6_addBelow_18 : decode cX6_addBelow 18 = .ok (.lload_n 2, 1) := by decide +kernel
theorem dX6_addBelow_19 : decode cX6_addBelow 19 = .ok (.invokevirtual 94, 3) := by decide +kernel
theorem dX6_addBelow_22 : decode cX6_addBelow 22 = .ok (.aload_n 0, 1) := by decide +kernel
theorem dX6_addBelow_23 : decode cX6_addBelow 23 = .ok (.iload_n 1, 1) := by decide +kernel
theorem dX6_addBelow_24 : decode cX6_addBelow 24 = .ok (.invokevirtual 189, 3) := by decide +kernel
theorem dX6_addBelow_27 : decode cX6_addBelow 27 = .ok (.aload_n 0, 1) := by decide +kernel
theorem dX6_addBelow_28 : decode cX6_addBelow 28 = .ok (.lload_n 2, 1) := by decide +kernel
theorem dX6_addBelow_29 : decode cX6_addBelow 29 = .ok (.invokevirtual 198, 3) := by decide +kernel
theorem dX6_addBelow_32 : decode cX6_addBelow 32 = .ok (.ireturn, 1) := by decide +kernel
theorem dX6_undo_0 : decode cX6_undo 0 = .ok (.aload_n 0, 1) := by decide +kernel
theorem dX6_undo_1 : decode cX6_undo 1 = .ok (.getfield 51, 3) := by decide +kernel
theorem dX6_undo_4 : decode cX6_undo 4 = .ok (.invokevirtual 201, 3) := by decide +kernel
theorem dX6_undo_7 : decode cX6_undo 7 = .ok (.istore_n 1, 1) := by decide +kernel
theorem dX6_undo_8 : decode cX6_undo 8 = .ok (.iload_n 1, 1) := by decide +kernel
theorem dX6_undo_9 : decode cX6_undo 9 = .ok (.iconst (-1), 1) := by decide +kernel
theorem dX6_undo_10 : decode cX6_undo 10 = .ok (.if_icmp .ne 5, 3) := by decide +kernel
theorem dX6_undo_13 : decode cX6_undo 13 = .ok (.iconst (-1), 1) := by decide +kernel
theorem dX6_undo_14 : decode cX6_undo 14 = .ok (.ireturn, 1) := by decide +kernel
theorem dX6_undo_15 : decode cX6_undo 15 = .ok (.aload_n 0, 1) := by decide +kernel
theorem dX6_undo_16 : decode cX6_undo 16 = .ok (.aload_n 0, 1) := by decide +kernel
theorem dX6_undo_17 : decode cX6_undo 17 = .ok (.getfield 51, 3) := by decide +kernel
theorem dX6_undo_20 : decode cX6_undo 20 = .ok (.getfield 205, 3) := by decide +kernel
theorem dX6_undo_23 : decode cX6_undo 23 = .ok (.iload_n 1, 1) := by decide +kernel
theorem dX6_undo_24 : decode cX6_undo 24 = .ok (.iaload, 1) := by decide +kernel
theorem dX6_undo_25 : decode cX6_undo 25 = .ok (.aload_n 0, 1) := by decide +kernel
theorem dX6_undo_26 : decode cX6_undo 26 = .ok (.getfield 51, 3) := by decide +kernel
theorem dX6_undo_29 : decode cX6_undo 29 = .ok (.getfield 208, 3) := by decide +kernel
theorem dX6_undo_32 : decode cX6_undo 32 = .ok (.iload_n 1, 1) := by decide +kernel
theorem dX6_undo_33 : decode cX6_undo 33 = .ok (.iaload, 1) := by decide +kernel
theorem dX6_undo_34 : decode cX6_undo 34 = .ok (.aload_n 0, 1) := by decide +kernel
theorem dX6_undo_35 : decode cX6_undo 35 = .ok (.getfield 51, 3) := by decide +kernel
theorem dX6_undo_38 : decode cX6_undo 38 = .ok (.getfield 211, 3) := by decide +kernel
theorem dX6_undo_41 : decode cX6_undo 41 = .ok (.iload_n 1, 1) := by decide +kernel
theorem dX6_undo_42 : decode cX6_undo 42 = .ok (.iaload, 1) := by decide +kernel
theorem dX6_undo_43 : decode cX6_undo 43 = .ok (.aload_n 0, 1) := by decide +kernel
theorem dX6_undo_44 : decode cX6_undo 44 = .ok (.getfield 51, 3) := by decide +kernel
theorem dX6_undo_47 : decode cX6_undo 47 = .ok (.getfield 214, 3) := by decide +kernel
theorem dX6_undo_50 : decode cX6_undo 50 = .ok (.iload_n 1, 1) := by decide +kernel
theorem dX6_undo_51 : decode cX6_undo 51 = .ok (.laload, 1) := by decide +kernel
theorem dX6_undo_52 : decode cX6_undo 52 = .ok (.invokevirtual 217, 3) := by decide +kernel
theorem dX6_undo_55 : decode cX6_undo 55 = .ok (.iconst 1, 1) := by decide +kernel
theorem dX6_undo_56 : decode cX6_undo 56 = .ok (.ireturn, 1) := by decide +kernel
theorem dX6_put_0 : decode cX6_put 0 = .ok (.aload_n 0, 1) := by decide +kernel
theorem dX6_put_1 : decode cX6_put 1 = .ok (.iload_n 1, 1) := by decide +kernel
theorem dX6_put_2 : decode cX6_put 2 = .ok (.invokevirtual 220, 3) := by decide +kernel
theorem dX6_put_5 : decode cX6_put 5 = .ok (.ifCond .eq 14, 3) := by decide +kernel
theorem dX6_put_8 : decode cX6_put 8 = .ok (.aload_n 0, 1) := by decide +kernel
theorem dX6_put_9 : decode cX6_put 9 = .ok (.iload_n 2, 1) := by decide +kernel
theorem dX6_put_10 : decode cX6_put 10 = .ok (.iload_n 3, 1) := by decide +kernel
theorem dX6_put_11 : decode cX6_put 11 = .ok (.iload 4, 2) := by decide +kernel
theorem dX6_put_13 : decode cX6_put 13 = .ok (.invokevirtual 223, 3) := by decide +kernel
theorem dX6_put_16 : decode cX6_put 16 = .ok (.ifCond .ne 9, 3) := by decide +kernel
theorem dX6_put_19 : decode cX6_put 19 = .ok (.aload_n 0, 1) := by decide +kernel
theorem dX6_put_20 : decode cX6_put 20 = .ok (.iconst 1, 1) := by decide +kernel
theorem dX6_put_21 : decode cX6_put 21 = .ok (.invokevirtual 227, 3) := by decide +kernel
theorem dX6_put_24 : decode cX6_put 24 = .ok (.ireturn, 1) := by decide +kernel
theorem dX6_put_25 : decode cX6_put 25 = .ok (.aload_n 0, 1) := by decide +kernel
theorem dX6_put_26 : decode cX6_put 26 = .ok (.getfield 57, 3) := by decide +kernel
theorem dX6_put_29 : decode cX6_put 29 = .ok (.iload_n 1, 1) := by decide +kernel
theorem dX6_put_30 : decode cX6_put 30 = .ok (.aaload, 1) := by decide +kernel
theorem dX6_put_31 : decode cX6_put 31 = .ok (.astore 5, 2) := by decide +kernel
theorem dX6_put_33 : decode cX6_put 33 = .ok (.iload_n 2, 1) := by decide +kernel
theorem dX6_put_34 : decode cX6_put 34 = .ok (.tableswitch 86 1 4 #[30, 54, 64, 76], 30) := by decide +kernel
theorem dX6_put_64 : decode cX6_put 64 = .ok (.aload 5, 2) := by decide +kernel
theorem dX6_put_66 : decode cX6_put 66 = .ok (.iconst 1, 1) := by decide +kernel
theorem dX6_put_67 : decode cX6_put 67 = .ok (.invokevirtual 230, 3) := by decide +kernel
theorem dX6_put_70 : decode cX6_put 70 = .ok (.aload 5, 2) := by decide +kernel
theorem dX6_put_72 : decode cX6_put 72 = .ok (.aload_n 0, 1) := by decide +kernel
theorem dX6_put_73 : decode cX6_put 73 = .ok (.getfield 20, 3) := by decide +kernel
theorem dX6_put_76 : decode cX6_put 76 = .ok (.getfield 114, 3) := by decide +kernel
theorem dX6_put_79 : decode cX6_put 79 = .ok (.iload_n 3, 1) := by decide +kernel
theorem dX6_put_80 : decode cX6_put 80 = .ok (.iaload, 1) := by decide +kernel
theorem dX6_put_81 : decode cX6_put 81 = .ok (.i2l, 1) := by decide +kernel
theorem dX6_put_82 : decode cX6_put 82 = .ok (.invokevirtual 233, 3) := by decide +kernel
theorem dX6_put_85 : decode cX6_put 85 = .ok (.goto 41, 3) := by decide +kernel
theorem dX6_put_88 : decode cX6_put 88 = .ok (.aload_n 0, 1) := by decide +kernel
theorem dX6_put_89 : decode cX6_put 89 = .ok (.aload 5, 2) := by decide +kernel
theorem dX6_put_91 : decode cX6_put 91 = .ok (.iload_n 3, 1) := by decide +kernel
theorem dX6_put_92 : decode cX6_put 92 = .ok (.invokevirtual 237, 3) := by decide +kernel
theorem dX6_put_95 : decode cX6_put 95 = .ok (.goto 31, 3) := by decide +kernel
theorem dX6_put_98 : decode cX6_put 98 = .ok (.aload_n 0, 1) := by decide +kernel
theorem dX6_put_99 : decode cX6_put 99 = .ok (.aload 5, 2) := by decide +kernel
theorem dX6_put_101 : decode cX6_put 101 = .ok (.iload_n 3, 1) := by decide +kernel
theorem dX6_put_102 : decode cX6_put 102 = .ok (.iload 4, 2) := by decide +kernel
theorem dX6_put_104 : decode cX6_put 104 = .ok (.invokevirtual 241, 3) := by decide +kernel
theorem dX6_put_107 : decode cX6_put 107 = .ok (.goto 19, 3) := by decide +kernel
theorem dX6_put_110 : decode cX6_put 110 = .ok (.aload_n 0, 1) := by decide +kernel
theorem dX6_put_111 : decode cX6_put 111 = .ok (.aload 5, 2) := by decide +kernel
theorem dX6_put_113 : decode cX6_put 113 = .ok (.iload_n 3, 1) := by decide +kernel
theorem dX6_put_114 : decode cX6_put 114 = .ok (.invokevirtual 245, 3) := by decide +kernel
theorem dX6_put_117 : decode cX6_put 117 = .ok (.goto 9, 3) := by decide +kernel
theorem dX6_put_120 : decode cX6_put 120 = .ok (.aload 5, 2) := by decide +kernel
theorem dX6_put_122 : decode cX6_put 122 = .ok (.iconst 0, 1) := by decide +kernel
theorem dX6_put_123 : decode cX6_put 123 = .ok (.invokevirtual 230, 3) := by decide +kernel
theorem dX6_put_126 : decode cX6_put 126 = .ok (.aload_n 0, 1) := by decide +kernel
theorem dX6_put_127 : decode cX6_put 127 = .ok (.iconst 0, 1) := by decide +kernel
theorem dX6_put_128 : decode cX6_put 128 = .ok (.putfield 65, 3) := by decide +kernel
theorem dX6_put_131 : decode cX6_put 131 = .ok (.iconst 1, 1) := by decide +kernel
theorem dX6_put_132 : decode cX6_put 132 = .ok (.ireturn, 1) := by decide +kernel
theorem dX6_forge_0 : decode cX6_forge 0 = .ok (.aload_n 0, 1) := by decide +kernel
theorem dX6_forge_1 : decode cX6_forge 1 = .ok (.iload_n 1, 1) := by decide +kernel
theorem dX6_forge_2 : decode cX6_forge 2 = .ok (.invokevirtual 220, 3) := by decide +kernel
theorem dX6_forge_5 : decode cX6_forge 5 = .ok (.ifCond .eq 25, 3) := by decide +kernel
theorem dX6_forge_8 : decode cX6_forge 8 = .ok (.iload_n 2, 1) := by decide +kernel
theorem dX6_forge_9 : decode cX6_forge 9 = .ok (.ifCond .lt 21, 3) := by decide +kernel
theorem dX6_forge_12 : decode cX6_forge 12 = .ok (.iload_n 2, 1) := by decide +kernel
theorem dX6_forge_13 : decode cX6_forge 13 = .ok (.bipush 8, 2) := by decide +kernel
theorem dX6_forge_15 : decode cX6_forge 15 = .ok (.if_icmp .gt 15, 3) := by decide +kernel
theorem dX6_forge_18 : decode cX6_forge 18 = .ok (.iload_n 3, 1) := by decide +kernel
theorem dX6_forge_19 : decode cX6_forge 19 = .ok (.bipush (-100), 2) := by decide +kernel
theorem dX6_forge_21 : decode cX6_forge 21 = .ok (.if_icmp .lt 9, 3) := by decide +kernel
theorem dX6_forge_24 : decode cX6_forge 24 = .ok (.iload_n 3, 1) := by decide +kernel
theorem dX6_forge_25 : decode cX6_forge 25 = .ok (.bipush 100, 2) := by decide +kernel
theorem dX6_forge_27 : decode cX6_forge 27 = .ok (.if_icmp .le 9, 3) := by decide +kernel
theorem dX6_forge_30 : decode cX6_forge 30 = .ok (.aload_n 0, 1) := by decide +kernel
theorem dX6_forge_31 : decode cX6_forge 31 = .ok (.iconst 1, 1) := by decide +kernel
theorem dX6_forge_32 : decode cX6_forge 32 = .ok (.invokevirtual 227, 3) := by decide +kernel
theorem dX6_forge_35 : decode cX6_forge 35 = .ok (.ireturn, 1) := by decide +kernel
theorem dX6_forge_36 : decode cX6_forge 36 = .ok (.aload_n 0, 1) := by decide +kernel
theorem dX6_forge_37 : decode cX6_forge 37 = .ok (.getfield 57, 3) := by decide +kernel
theorem dX6_forge_40 : decode cX6_forge 40 = .ok (.iload_n 1, 1) := by decide +kernel
theorem dX6_forge_41 : decode cX6_forge 41 = .ok (.aaload, 1) := by decide +kernel
theorem dX6_forge_42 : decode cX6_forge 42 = .ok (.astore 4, 2) := by decide +kernel
theorem dX6_forge_44 : decode cX6_forge 44 = .ok (.iload_n 2, 1) := by decide +kernel
theorem dX6_forge_45 : decode cX6_forge 45 = .ok (.tableswitch 139 0 7 #[47, 56, 65, 73, 82, 101, 109, 116], 47) := by decide +kernel
theorem dX6_forge_92 : decode cX6_forge 92 = .ok (.aload_n 0, 1) := by decide +kernel
theorem dX6_forge_93 : decode cX6_forge 93 = .ok (.aload 4, 2) := by decide +kernel
theorem dX6_forge_95 : decode cX6_forge 95 = .ok (.iconst 1, 1) := by decide +kernel
theorem dX6_forge_96 : decode cX6_forge 96 = .ok (.iconst 0, 1) := by decide +kernel
theorem dX6_forge_97 : decode cX6_forge 97 = .ok (.invokevirtual 248, 3) := by decide +kernel
theorem dX6_forge_100 : decode cX6_forge 100 = .ok (.ireturn, 1) := by decide +kernel
theorem dX6_forge_101 : decode cX6_forge 101 = .ok (.aload_n 0, 1) := by decide +kernel
theorem dX6_forge_102 : decode cX6_forge 102 = .ok (.aload 4, 2) := by decide +kernel
theorem dX6_forge_104 : decode cX6_forge 104 = .ok (.iconst 2, 1) := by decide +kernel
theorem dX6_forge_105 : decode cX6_forge 105 = .ok (.iload_n 3, 1) := by decide +kernel
theorem dX6_forge_106 : decode cX6_forge 106 = .ok (.invokevirtual 248, 3) := by decide +kernel
theorem dX6_forge_109 : decode cX6_forge 109 = .ok (.ireturn, 1) := by decide +kernel
theorem dX6_forge_110 : decode cX6_forge 110 = .ok (.aload_n 0, 1) := by decide +kernel
theorem dX6_forge_111 : decode cX6_forge 111 = .ok (.aload 4, 2) := by decide +kernel
theorem dX6_forge_113 : decode cX6_forge 113 = .ok (.iload_n 3, 1) := by decide +kernel
theorem dX6_forge_114 : decode cX6_forge 114 = .ok (.invokevirtual 252, 3) := by decide +kernel
theorem dX6_forge_117 : decode cX6_forge 117 = .ok (.ireturn, 1) := by decide +kernel
theorem dX6_forge_118 : decode cX6_forge 118 = .ok (.aload_n 0, 1) := by decide +kernel
theorem dX6_forge_119 : decode cX6_forge 119 = .ok (.aload 4, 2) := by decide +kernel
theorem dX6_forge_121 : decode cX6_forge 121 = .ok (.iconst 4, 1) := by decide +kernel
theorem dX6_forge_122 : decode cX6_forge 122 = .ok (.iload_n 3, 1) := by decide +kernel
theorem dX6_forge_123 : decode cX6_forge 123 = .ok (.invokevirtual 248, 3) := by decide +kernel
theorem dX6_forge_126 : decode cX6_forge 126 = .ok (.ireturn, 1) := by decide +kernel
theorem dX6_forge_127 : decode cX6_forge 127 = .ok (.iload_n 3, 1) := by decide +kernel
theorem dX6_forge_128 : decode cX6_forge 128 = .ok (.ifCond .ge 12, 3) := by decide +kernel
theorem dX6_forge_131 : decode cX6_forge 131 = .ok (.aload_n 0, 1) := by decide +kernel
theorem dX6_forge_132 : decode cX6_forge 132 = .ok (.bipush 13, 2) := by decide +kernel
theorem dX6_forge_134 : decode cX6_forge 134 = .ok (.invokevirtual 227, 3) := by decide +kernel
theorem dX6_forge_137 : decode cX6_forge 137 = .ok (.goto 8, 3) := by decide +kernel
theorem dX6_forge_140 : decode cX6_forge 140 = .ok (.aload_n 0, 1) := by decide +kernel
theorem dX6_forge_141 : decode cX6_forge 141 = .ok (.iload_n 3, 1) := by decide +kernel
theorem dX6_forge_142 : decode cX6_forge 142 = .ok (.invokevirtual 256, 3) := by decide +kernel
theorem dX6_forge_145 : decode cX6_forge 145 = .ok (.ireturn, 1) := by decide +kernel
theorem dX6_forge_146 : decode cX6_forge 146 = .ok (.aload_n 0, 1) := by decide +kernel
theorem dX6_forge_147 : decode cX6_forge 147 = .ok (.aload 4, 2) := by decide +kernel
theorem dX6_forge_149 : decode cX6_forge 149 = .ok (.iload_n 3, 1) := by decide +kernel
theorem dX6_forge_150 : decode cX6_forge 150 = .ok (.invokevirtual 259, 3) := by decide +kernel
theorem dX6_forge_153 : decode cX6_forge 153 = .ok (.ireturn, 1) := by decide +kernel
theorem dX6_forge_154 : decode cX6_forge 154 = .ok (.aload_n 0, 1) := by decide +kernel
theorem dX6_forge_155 : decode cX6_forge 155 = .ok (.aload 4, 2) := by decide +kernel
theorem dX6_forge_157 : decode cX6_forge 157 = .ok (.invokevirtual 262, 3) := by decide +kernel
theorem dX6_forge_160 : decode cX6_forge 160 = .ok (.ireturn, 1) := by decide +kernel
theorem dX6_forge_161 : decode cX6_forge 161 = .ok (.iload_n 3, 1) := by decide +kernel
theorem dX6_forge_162 : decode cX6_forge 162 = .ok (.ifCond .ne 12, 3) := by decide +kernel
theorem dX6_forge_165 : decode cX6_forge 165 = .ok (.aload_n 0, 1) := by decide +kernel
theorem dX6_forge_166 : decode cX6_forge 166 = .ok (.bipush 15, 2) := by decide +kernel
theorem dX6_forge_168 : decode cX6_forge 168 = .ok (.invokevirtual 227, 3) := by decide +kernel
theorem dX6_forge_171 : decode cX6_forge 171 = .ok (.goto 12, 3) := by decide +kernel
theorem dX6_forge_174 : decode cX6_forge 174 = .ok (.aload_n 0, 1) := by decide +kernel
theorem dX6_forge_175 : decode cX6_forge 175 = .ok (.sipush 1000, 3) := by decide +kernel
theorem dX6_forge_178 : decode cX6_forge 178 = .ok (.iload_n 3, 1) := by decide +kernel
theorem dX6_forge_179 : decode cX6_forge 179 = .ok (.idiv, 1) := by decide +kernel
theorem dX6_forge_180 : decode cX6_forge 180 = .ok (.invokevirtual 256, 3) := by decide +kernel
theorem dX6_forge_183 : decode cX6_forge 183 = .ok (.ireturn, 1) := by decide +kernel
theorem dX6_forge_184 : decode cX6_forge 184 = .ok (.aload_n 0, 1) := by decide +kernel
theorem dX6_forge_185 : decode cX6_forge 185 = .ok (.bipush 10, 2) := by decide +kernel
theorem dX6_forge_187 : decode cX6_forge 187 = .ok (.invokevirtual 227, 3) := by decide +kernel
theorem dX6_forge_190 : decode cX6_forge 190 = .ok (.ireturn, 1) := by decide +kernel
theorem dX6_status_0 : decode cX6_status 0 = .ok (.aload_n 0, 1) := by decide +kernel
theorem dX6_status_1 : decode cX6_status 1 = .ok (.getfield 65, 3) := by decide +kernel
theorem dX6_status_4 : decode cX6_status 4 = .ok (.ireturn, 1) := by decide +kernel
theorem dX6_isKnot_0 : decode cX6_isKnot 0 = .ok (.iload_n 1, 1) := by decide +kernel
theorem dX6_isKnot_1 : decode cX6_isKnot 1 = .ok (.ifCond .lt 15, 3) := by decide +kernel
theorem dX6_isKnot_4 : decode cX6_isKnot 4 = .ok (.iload_n 1, 1) := by decide +kernel
theorem dX6_isKnot_5 : decode cX6_isKnot 5 = .ok (.aload_n 0, 1) := by decide +kernel
theorem dX6_isKnot_6 : decode cX6_isKnot 6 = .ok (.getfield 69, 3) := by decide +kernel
theorem dX6_isKnot_9 : decode cX6_isKnot 9 = .ok (.if_icmp .ge 7, 3) := by decide +kernel
theorem dX6_isKnot_12 : decode cX6_isKnot 12 = .ok (.iconst 1, 1) := by decide +kernel
theorem dX6_isKnot_13 : decode cX6_isKnot 13 = .ok (.goto 4, 3) := by decide +kernel
theorem dX6_isKnot_16 : decode cX6_isKnot 16 = .ok (.iconst 0, 1) := by decide +kernel
theorem dX6_isKnot_17 : decode cX6_isKnot 17 = .ok (.ireturn, 1) := by decide +kernel
theorem dX6_isTray_0 : decode cX6_isTray 0 = .ok (.iload_n 1, 1) := by decide +kernel
theorem dX6_isTray_1 : decode cX6_isTray 1 = .ok (.ifCond .lt 13, 3) := by decide +kernel
theorem dX6_isTray_4 : decode cX6_isTray 4 = .ok (.iload_n 1, 1) := by decide +kernel
theorem dX6_isTray_5 : decode cX6_isTray 5 = .ok (.bipush 6, 2) := by decide +kernel
theorem dX6_isTray_7 : decode cX6_isTray 7 = .ok (.if_icmp .ge 7, 3) := by decide +kernel
theorem dX6_isTray_10 : decode cX6_isTray 10 = .ok (.iconst 1, 1) := by decide +kernel
theorem dX6_isTray_11 : decode cX6_isTray 11 = .ok (.goto 4, 3) := by decide +kernel
theorem dX6_isTray_14 : decode cX6_isTray 14 = .ok (.iconst 0, 1) := by decide +kernel
theorem dX6_isTray_15 : decode cX6_isTray 15 = .ok (.ireturn, 1) := by decide +kernel
theorem dX6_layTrack_0 : decode cX6_layTrack 0 = .ok (.aload_n 0, 1) := by decide +kernel
theorem dX6_layTrack_1 : decode cX6_layTrack 1 = .ok (.iload_n 1, 1) := by decide +kernel
theorem dX6_layTrack_2 : decode cX6_layTrack 2 = .ok (.invokevirtual 78, 3) := by decide +kernel
theorem dX6_layTrack_5 : decode cX6_layTrack 5 = .ok (.ifCond .eq 11, 3) := by decide +kernel
theorem dX6_layTrack_8 : decode cX6_layTrack 8 = .ok (.aload_n 0, 1) := by decide +kernel
theorem dX6_layTrack_9 : decode cX6_layTrack 9 = .ok (.iload_n 2, 1) := by decide +kernel
theorem dX6_layTrack_10 : decode cX6_layTrack 10 = .ok (.invokevirtual 78, 3) := by decide +kernel
theorem dX6_layTrack_13 : decode cX6_layTrack 13 = .ok (.ifCond .ne 6, 3) := by decide +kernel
theorem dX6_layTrack_16 : decode cX6_layTrack 16 = .ok (.bipush (-2), 2) := by decide +kernel
theorem dX6_layTrack_18 : decode cX6_layTrack 18 = .ok (.ireturn, 1) := by decide +kernel
theorem dX6_layTrack_19 : decode cX6_layTrack 19 = .ok (.aload_n 0, 1) := by decide +kernel
theorem dX6_layTrack_20 : decode cX6_layTrack 20 = .ok (.iload_n 2, 1) := by decide +kernel
theorem dX6_layTrack_21 : decode cX6_layTrack 21 = .ok (.invokevirtual 148, 3) := by decide +kernel
theorem dX6_layTrack_24 : decode cX6_layTrack 24 = .ok (.aload_n 0, 1) := by decide +kernel
theorem dX6_layTrack_25 : decode cX6_layTrack 25 = .ok (.getfield 37, 3) := by decide +kernel
theorem dX6_layTrack_28 : decode cX6_layTrack 28 = .ok (.aload_n 0, 1) := by decide +kernel
theorem dX6_layTrack_29 : decode cX6_layTrack 29 = .ok (.getfield 20, 3) := by decide +kernel
theorem dX6_layTrack_32 : decode cX6_layTrack 32 = .ok (.aload_n 0, 1) := by decide +kernel
theorem dX6_layTrack_33 : decode cX6_layTrack 33 = .ok (.getfield 27, 3) := by decide +kernel
theorem dX6_layTrack_36 : decode cX6_layTrack 36 = .ok (.iload_n 1, 1) := by decide +kernel
theorem dX6_layTrack_37 : decode cX6_layTrack 37 = .ok (.invokevirtual 266, 3) := by decide +kernel
theorem dX6_layTrack_40 : decode cX6_layTrack 40 = .ok (.aload_n 0, 1) := by decide +kernel
theorem dX6_layTrack_41 : decode cX6_layTrack 41 = .ok (.getfield 37, 3) := by decide +kernel
theorem dX6_layTrack_44 : decode cX6_layTrack 44 = .ok (.getfield 269, 3) := by decide +kernel
theorem dX6_layTrack_47 : decode cX6_layTrack 47 = .ok (.ireturn, 1) := by decide +kernel
theorem dX6_floodPart_0 : decode cX6_floodPart 0 = .ok (.aload_n 0, 1) := by decide +kernel
theorem dX6_floodPart_1 : decode cX6_floodPart 1 = .ok (.getfield 27, 3) := by decide +kernel
theorem dX6_floodPart_4 : decode cX6_floodPart 4 = .ok (.aload_n 0, 1) := by decide +kernel
theorem dX6_floodPart_5 : decode cX6_floodPart 5 = .ok (.getfield 20, 3) := by decide +kernel
theorem dX6_floodPart_8 : decode cX6_floodPart 8 = .ok (.iload_n 1, 1) := by decide +kernel
theorem dX6_floodPart_9 : decode cX6_floodPart 9 = .ok (.iconst (-1), 1) := by decide +kernel
theorem dX6_floodPart_10 : decode cX6_floodPart 10 = .ok (.iconst 0, 1) := by decide +kernel
theorem dX6_floodPart_11 : decode cX6_floodPart 11 = .ok (.invokevirtual 270, 3) := by decide +kernel
theorem dX6_floodPart_14 : decode cX6_floodPart 14 = .ok (.return_, 1) := by decide +kernel
theorem dX6_findRoot_0 : decode cX6_findRoot 0 = .ok (.aload_n 0, 1) := by decide +kernel
theorem dX6_findRoot_1 : decode cX6_findRoot 1 = .ok (.getfield 27, 3) := by decide +kernel
theorem dX6_findRoot_4 : decode cX6_findRoot 4 = .ok (.aload_n 0, 1) := by decide +kernel
theorem dX6_findRoot_5 : decode cX6_findRoot 5 = .ok (.getfield 20, 3) := by decide +kernel
theorem dX6_findRoot_8 : decode cX6_findRoot 8 = .ok (.iload_n 1, 1) := by decide +kernel
theorem dX6_findRoot_9 : decode cX6_findRoot 9 = .ok (.iconst (-1), 1) := by decide +kernel
theorem dX6_findRoot_10 : decode cX6_findRoot 10 = .ok (.iconst 0, 1) := by decide +kernel
theorem dX6_findRoot_11 : decode cX6_findRoot 11 = .ok (.invokevirtual 270, 3) := by decide +kernel
theorem dX6_findRoot_14 : decode cX6_findRoot 14 = .ok (.iload_n 1, 1) := by decide +kernel
theorem dX6_findRoot_15 : decode cX6_findRoot 15 = .ok (.istore_n 2, 1) := by decide +kernel
theorem dX6_findRoot_16 : decode cX6_findRoot 16 = .ok (.iconst 0, 1) := by decide +kernel
theorem dX6_findRoot_17 : decode cX6_findRoot 17 = .ok (.istore_n 3, 1) := by decide +kernel
theorem dX6_findRoot_18 : decode cX6_findRoot 18 = .ok (.iload_n 3, 1) := by decide +kernel
theorem dX6_findRoot_19 : decode cX6_findRoot 19 = .ok (.aload_n 0, 1) := by decide +kernel
theorem dX6_findRoot_20 : decode cX6_findRoot 20 = .ok (.getfield 27, 3) := by decide +kernel
theorem dX6_findRoot_23 : decode cX6_findRoot 23 = .ok (.getfield 152, 3) := by decide +kernel
theorem dX6_findRoot_26 : decode cX6_findRoot 26 = .ok (.if_icmp .ge 61, 3) := by decide +kernel
theorem dX6_findRoot_29 : decode cX6_findRoot 29 = .ok (.aload_n 0, 1) := by decide +kernel
theorem dX6_findRoot_30 : decode cX6_findRoot 30 = .ok (.getfield 27, 3) := by decide +kernel
theorem dX6_findRoot_33 : decode cX6_findRoot 33 = .ok (.getfield 195, 3) := by decide +kernel
theorem dX6_findRoot_36 : decode cX6_findRoot 36 = .ok (.iload_n 3, 1) := by decide +kernel
theorem dX6_findRoot_37 : decode cX6_findRoot 37 = .ok (.iaload, 1) := by decide +kernel
theorem dX6_findRoot_38 : decode cX6_findRoot 38 = .ok (.istore 4, 2) := by decide +kernel
theorem dX6_findRoot_40 : decode cX6_findRoot 40 = .ok (.aload_n 0, 1) := by decide +kernel
theorem dX6_findRoot_41 : decode cX6_findRoot 41 = .ok (.getfield 13, 3) := by decide +kernel
theorem dX6_findRoot_44 : decode cX6_findRoot 44 = .ok (.iload 4, 2) := by decide +kernel
theorem dX6_findRoot_46 : decode cX6_findRoot 46 = .ok (.iaload, 1) := by decide +kernel
theorem dX6_findRoot_47 : decode cX6_findRoot 47 = .ok (.aload_n 0, 1) := by decide +kernel
theorem dX6_findRoot_48 : decode cX6_findRoot 48 = .ok (.getfield 13, 3) := by decide +kernel
theorem dX6_findRoot_51 : decode cX6_findRoot 51 = .ok (.iload_n 2, 1) := by decide +kernel
theorem dX6_findRoot_52 : decode cX6_findRoot 52 = .ok (.iaload, 1) := by decide +kernel
theorem dX6_findRoot_53 : decode cX6_findRoot 53 = .ok (.if_icmp .gt 25, 3) := by decide +kernel
theorem dX6_findRoot_56 : decode cX6_findRoot 56 = .ok (.aload_n 0, 1) := by decide +kernel
theorem dX6_findRoot_57 : decode cX6_findRoot 57 = .ok (.getfield 13, 3) := by decide +kernel
theorem dX6_findRoot_60 : decode cX6_findRoot 60 = .ok (.iload 4, 2) := by decide +kernel
theorem dX6_findRoot_62 : decode cX6_findRoot 62 = .ok (.iaload, 1) := by decide +kernel
theorem dX6_findRoot_63 : decode cX6_findRoot 63 = .ok (.aload_n 0, 1) := by decide +kernel
theorem dX6_findRoot_64 : decode cX6_findRoot 64 = .ok (.getfield 13, 3) := by decide +kernel
theorem dX6_findRoot_67 : decode cX6_findRoot 67 = .ok (.iload_n 2, 1) := by decide +kernel
theorem dX6_findRoot_68 : decode cX6_findRoot 68 = .ok (.iaload, 1) := by decide +kernel
theorem dX6_findRoot_69 : decode cX6_findRoot 69 = .ok (.if_icmp .ne 12, 3) := by decide +kernel
theorem dX6_findRoot_72 : decode cX6_findRoot 72 = .ok (.iload 4, 2) := by decide +kernel
theorem dX6_findRoot_74 : decode cX6_findRoot 74 = .ok (.iload_n 2, 1) := by decide +kernel
theorem dX6_findRoot_75 : decode cX6_findRoot 75 = .ok (.if_icmp .ge 6, 3) := by decide +kernel
theorem dX6_findRoot_78 : decode cX6_findRoot 78 = .ok (.iload 4, 2) := by decide +kernel
theorem dX6_findRoot_80 : decode cX6_findRoot 80 = .ok (.istore_n 2, 1) := by decide +kernel
theorem dX6_findRoot_81 : decode cX6_findRoot 81 = .ok (.iinc 3 1, 3) := by decide +kernel
theorem dX6_findRoot_84 : decode cX6_findRoot 84 = .ok (.goto (-66), 3) := by decide +kernel
theorem dX6_findRoot_87 : decode cX6_findRoot 87 = .ok (.iload_n 2, 1) := by decide +kernel
theorem dX6_findRoot_88 : decode cX6_findRoot 88 = .ok (.ireturn, 1) := by decide +kernel
theorem dX6_floodFromRoot_0 : decode cX6_floodFromRoot 0 = .ok (.aload_n 0, 1) := by decide +kernel
theorem dX6_floodFromRoot_1 : decode cX6_floodFromRoot 1 = .ok (.getfield 27, 3) := by decide +kernel
theorem dX6_floodFromRoot_4 : decode cX6_floodFromRoot 4 = .ok (.aload_n 0, 1) := by decide +kernel
theorem dX6_floodFromRoot_5 : decode cX6_floodFromRoot 5 = .ok (.getfield 20, 3) := by decide +kernel
theorem dX6_floodFromRoot_8 : decode cX6_floodFromRoot 8 = .ok (.aload_n 0, 1) := by decide +kernel
theorem dX6_floodFromRoot_9 : decode cX6_floodFromRoot 9 = .ok (.iload_n 1, 1) := by decide +kernel
theorem dX6_floodFromRoot_10 : decode cX6_floodFromRoot 10 = .ok (.invokevirtual 173, 3) := by decide +kernel
theorem dX6_floodFromRoot_13 : decode cX6_floodFromRoot 13 = .ok (.iconst (-1), 1) := by decide +kernel
theorem dX6_floodFromRoot_14 : decode cX6_floodFromRoot 14 = .ok (.iconst 0, 1) := by decide +kernel
theorem dX6_floodFromRoot_15 : decode cX6_floodFromRoot 15 = .ok (.invokevirtual 270, 3) := by decide +kernel
theorem dX6_floodFromRoot_18 : decode cX6_floodFromRoot 18 = .ok (.return_, 1) := by decide +kernel
theorem dX6_floodBelow_0 : decode cX6_floodBelow 0 = .ok (.aload_n 0, 1) := by decide +kernel
theorem dX6_floodBelow_1 : decode cX6_floodBelow 1 = .ok (.getfield 27, 3) := by decide +kernel
theorem dX6_floodBelow_4 : decode cX6_floodBelow 4 = .ok (.aload_n 0, 1) := by decide +kernel
theorem dX6_floodBelow_5 : decode cX6_floodBelow 5 = .ok (.getfield 20, 3) := by decide +kernel
theorem dX6_floodBelow_8 : decode cX6_floodBelow 8 = .ok (.aload_n 0, 1) := by decide +kernel
theorem dX6_floodBelow_9 : decode cX6_floodBelow 9 = .ok (.iload_n 1, 1) := by decide +kernel
theorem dX6_floodBelow_10 : decode cX6_floodBelow 10 = .ok (.invokevirtual 173, 3) := by decide +kernel
theorem dX6_floodBelow_13 : decode cX6_floodBelow 13 = .ok (.iconst (-1), 1) := by decide +kernel
theorem dX6_floodBelow_14 : decode cX6_floodBelow 14 = .ok (.iconst 0, 1) := by decide +kernel
theorem dX6_floodBelow_15 : decode cX6_floodBelow 15 = .ok (.invokevirtual 270, 3) := by decide +kernel
theorem dX6_floodBelow_18 : decode cX6_floodBelow 18 = .ok (.aload_n 0, 1) := by decide +kernel
theorem dX6_floodBelow_19 : decode cX6_floodBelow 19 = .ok (.getfield 27, 3) := by decide +kernel
theorem dX6_floodBelow_22 : decode cX6_floodBelow 22 = .ok (.aload_n 0, 1) := by decide +kernel
theorem dX6_floodBelow_23 : decode cX6_floodBelow 23 = .ok (.getfield 20, 3) := by decide +kernel
theorem dX6_floodBelow_26 : decode cX6_floodBelow 26 = .ok (.iload_n 1, 1) := by decide +kernel
theorem dX6_floodBelow_27 : decode cX6_floodBelow 27 = .ok (.aload_n 0, 1) := by decide +kernel
theorem dX6_floodBelow_28 : decode cX6_floodBelow 28 = .ok (.getfield 27, 3) := by decide +kernel
theorem dX6_floodBelow_31 : decode cX6_floodBelow 31 = .ok (.getfield 274, 3) := by decide +kernel
theorem dX6_floodBelow_34 : decode cX6_floodBelow 34 = .ok (.iload_n 1, 1) := by decide +kernel
theorem dX6_floodBelow_35 : decode cX6_floodBelow 35 = .ok (.iaload, 1) := by decide +kernel
theorem dX6_floodBelow_36 : decode cX6_floodBelow 36 = .ok (.iconst 0, 1) := by decide +kernel
theorem dX6_floodBelow_37 : decode cX6_floodBelow 37 = .ok (.invokevirtual 270, 3) := by decide +kernel
theorem dX6_floodBelow_40 : decode cX6_floodBelow 40 = .ok (.return_, 1) := by decide +kernel
theorem dX6_addOnTrack_0 : decode cX6_addOnTrack 0 = .ok (.iconst 0, 1) := by decide +kernel
theorem dX6_addOnTrack_1 : decode cX6_addOnTrack 1 = .ok (.istore_n 3, 1) := by decide +kernel
theorem dX6_addOnTrack_2 : decode cX6_addOnTrack 2 = .ok (.iload_n 3, 1) := by decide +kernel
theorem dX6_addOnTrack_3 : decode cX6_addOnTrack 3 = .ok (.aload_n 0, 1) := by decide +kernel
theorem dX6_addOnTrack_4 : decode cX6_addOnTrack 4 = .ok (.getfield 37, 3) := by decide +kernel
theorem dX6_addOnTrack_7 : decode cX6_addOnTrack 7 = .ok (.getfield 269, 3) := by decide +kernel
theorem dX6_addOnTrack_10 : decode cX6_addOnTrack 10 = .ok (.if_icmp .gt 27, 3) := by decide +kernel
theorem dX6_addOnTrack_13 : decode cX6_addOnTrack 13 = .ok (.aload_n 0, 1) := by decide +kernel
theorem dX6_addOnTrack_14 : decode cX6_addOnTrack 14 = .ok (.getfield 9, 3) := by decide +kernel
theorem dX6_addOnTrack_17 : decode cX6_addOnTrack 17 = .ok (.aload_n 0, 1) := by decide +kernel
theorem dX6_addOnTrack_18 : decode cX6_addOnTrack 18 = .ok (.getfield 37, 3) := by decide +kernel
theorem dX6_addOnTrack_21 : decode cX6_addOnTrack 21 = .ok (.getfield 157, 3) := by decide +kernel
theorem dX6_addOnTrack_24 : decode cX6_addOnTrack 24 = .ok (.iload_n 3, 1) := by decide +kernel
theorem dX6_addOnTrack_25 : decode cX6_addOnTrack 25 = .ok (.iaload, 1) := by decide +kernel
theorem dX6_addOnTrack_26 : decode cX6_addOnTrack 26 = .ok (.dup2, 1) := by decide +kernel
theorem dX6_addOnTrack_27 : decode cX6_addOnTrack 27 = .ok (.laload, 1) := by decide +kernel
theorem dX6_addOnTrack_28 : decode cX6_addOnTrack 28 = .ok (.lload_n 1, 1) := by decide +kernel
theorem dX6_addOnTrack_29 : decode cX6_addOnTrack 29 = .ok (.ladd, 1) := by decide +kernel
theorem dX6_addOnTrack_30 : decode cX6_addOnTrack 30 = .ok (.lastore, 1) := by decide +kernel
theorem dX6_addOnTrack_31 : decode cX6_addOnTrack 31 = .ok (.iinc 3 1, 3) := by decide +kernel
theorem dX6_addOnTrack_34 : decode cX6_addOnTrack 34 = .ok (.goto (-32), 3) := by decide +kernel
theorem dX6_addOnTrack_37 : decode cX6_addOnTrack 37 = .ok (.aload_n 0, 1) := by decide +kernel
theorem dX6_addOnTrack_38 : decode cX6_addOnTrack 38 = .ok (.getfield 37, 3) := by decide +kernel
theorem dX6_addOnTrack_41 : decode cX6_addOnTrack 41 = .ok (.getfield 269, 3) := by decide +kernel
theorem dX6_addOnTrack_44 : decode cX6_addOnTrack 44 = .ok (.iconst 1, 1) := by decide +kernel
theorem dX6_addOnTrack_45 : decode cX6_addOnTrack 45 = .ok (.iadd, 1) := by decide +kernel
theorem dX6_addOnTrack_46 : decode cX6_addOnTrack 46 = .ok (.ireturn, 1) := by decide +kernel
theorem dX6_addOnFlood_0 : decode cX6_addOnFlood 0 = .ok (.iconst 0, 1) := by decide +kernel
theorem dX6_addOnFlood_1 : decode cX6_addOnFlood 1 = .ok (.istore_n 3, 1) := by decide +kernel
theorem dX6_addOnFlood_2 : decode cX6_addOnFlood 2 = .ok (.iload_n 3, 1) := by decide +kernel
theorem dX6_addOnFlood_3 : decode cX6_addOnFlood 3 = .ok (.aload_n 0, 1) := by decide +kernel
theorem dX6_addOnFlood_4 : decode cX6_addOnFlood 4 = .ok (.getfield 27, 3) := by decide +kernel
theorem dX6_addOnFlood_7 : decode cX6_addOnFlood 7 = .ok (.getfield 152, 3) := by decide +kernel
theorem dX6_addOnFlood_10 : decode cX6_addOnFlood 10 = .ok (.if_icmp .ge 27, 3) := by decide +kernel
theorem dX6_addOnFlood_13 : decode cX6_addOnFlood 13 = .ok (.aload_n 0, 1) := by decide +kernel
theorem dX6_addOnFlood_14 : decode cX6_addOnFlood 14 = .ok (.getfield 9, 3) := by decide +kernel
theorem dX6_addOnFlood_17 : decode cX6_addOnFlood 17 = .ok (.aload_n 0, 1) := by decide +kernel
theorem dX6_addOnFlood_18 : decode cX6_addOnFlood 18 = .ok (.getfield 27, 3) := by decide +kernel
theorem dX6_addOnFlood_21 : decode cX6_addOnFlood 21 = .ok (.getfield 195, 3) := by decide +kernel
theorem dX6_addOnFlood_24 : decode cX6_addOnFlood 24 = .ok (.iload_n 3, 1) := by decide +kernel
theorem dX6_addOnFlood_25 : decode cX6_addOnFlood 25 = .ok (.iaload, 1) := by decide +kernel
theorem dX6_addOnFlood_26 : decode cX6_addOnFlood 26 = .ok (.dup2, 1) := by decide +kernel
theorem dX6_addOnFlood_27 : decode cX6_addOnFlood 27 = .ok (.laload, 1) := by decide +kernel
theorem dX6_addOnFlood_28 : decode cX6_addOnFlood 28 = .ok (.lload_n 1, 1) := by decide +kernel
theorem dX6_addOnFlood_29 : decode cX6_addOnFlood 29 = .ok (.ladd, 1) := by decide +kernel
theorem dX6_addOnFlood_30 : decode cX6_addOnFlood 30 = .ok (.lastore, 1) := by decide +kernel
theorem dX6_addOnFlood_31 : decode cX6_addOnFlood 31 = .ok (.iinc 3 1, 3) := by decide +kernel
theorem dX6_addOnFlood_34 : decode cX6_addOnFlood 34 = .ok (.goto (-32), 3) := by decide +kernel
theorem dX6_addOnFlood_37 : decode cX6_addOnFlood 37 = .ok (.aload_n 0, 1) := by decide +kernel
theorem dX6_addOnFlood_38 : decode cX6_addOnFlood 38 = .ok (.getfield 27, 3) := by decide +kernel
theorem dX6_addOnFlood_41 : decode cX6_addOnFlood 41 = .ok (.getfield 152, 3) := by decide +kernel
theorem dX6_addOnFlood_44 : decode cX6_addOnFlood 44 = .ok (.ireturn, 1) := by decide +kernel
theorem dX6_displaceHeavier_0 : decode cX6_displaceHeavier 0 = .ok (.aload_n 0, 1) := by decide +kernel
theorem dX6_displaceHeavier_1 : decode cX6_displaceHeavier 1 = .ok (.getfield 37, 3) := by decide +kernel
theorem dX6_displaceHeavier_4 : decode cX6_displaceHeavier 4 = .ok (.aload_n 0, 1) := by decide +kernel
theorem dX6_displaceHeavier_5 : decode cX6_displaceHeavier 5 = .ok (.getfield 20, 3) := by decide +kernel
theorem dX6_displaceHeavier_8 : decode cX6_displaceHeavier 8 = .ok (.invokevirtual 159, 3) := by decide +kernel
theorem dX6_displaceHeavier_11 : decode cX6_displaceHeavier 11 = .ok (.istore_n 2, 1) := by decide +kernel
theorem dX6_displaceHeavier_12 : decode cX6_displaceHeavier 12 = .ok (.iload_n 2, 1) := by decide +kernel
theorem dX6_displaceHeavier_13 : decode cX6_displaceHeavier 13 = .ok (.iconst (-1), 1) := by decide +kernel
theorem dX6_displaceHeavier_14 : decode cX6_displaceHeavier 14 = .ok (.if_icmp .eq 15, 3) := by decide +kernel
theorem dX6_displaceHeavier_17 : decode cX6_displaceHeavier 17 = .ok (.aload_n 0, 1) := by decide +kernel
theorem dX6_displaceHeavier_18 : decode cX6_displaceHeavier 18 = .ok (.getfield 20, 3) := by decide +kernel
theorem dX6_displaceHeavier_21 : decode cX6_displaceHeavier 21 = .ok (.iload_n 2, 1) := by decide +kernel
theorem dX6_displaceHeavier_22 : decode cX6_displaceHeavier 22 = .ok (.iload_n 1, 1) := by decide +kernel
theorem dX6_displaceHeavier_23 : decode cX6_displaceHeavier 23 = .ok (.invokevirtual 277, 3) := by decide +kernel
theorem dX6_displaceHeavier_26 : decode cX6_displaceHeavier 26 = .ok (.ifCond .ne 5, 3) := by decide +kernel
theorem dX6_displaceHeavier_29 : decode cX6_displaceHeavier 29 = .ok (.iconst (-1), 1) := by decide +kernel
theorem dX6_displaceHeavier_30 : decode cX6_displaceHeavier 30 = .ok (.ireturn, 1) := by decide +kernel
theorem dX6_displaceHeavier_31 : decode cX6_displaceHeavier 31 = .ok (.aload_n 0, 1) := by decide +kernel
theorem dX6_displaceHeavier_32 : decode cX6_displaceHeavier 32 = .ok (.getfield 20, 3) := by decide +kernel
theorem dX6_displaceHeavier_35 : decode cX6_displaceHeavier 35 = .ok (.getfield 101, 3) := by decide +kernel
theorem dX6_displaceHeavier_38 : decode cX6_displaceHeavier 38 = .ok (.iload_n 2, 1) := by decide +kernel
theorem dX6_displaceHeavier_39 : decode cX6_displaceHeavier 39 = .ok (.iconst 2, 1) := by decide +kernel
theorem dX6_displaceHeavier_40 : decode cX6_displaceHeavier 40 = .ok (.iastore, 1) := by decide +kernel
theorem dX6_displaceHeavier_41 : decode cX6_displaceHeavier 41 = .ok (.aload_n 0, 1) := by decide +kernel
theorem dX6_displaceHeavier_42 : decode cX6_displaceHeavier 42 = .ok (.getfield 20, 3) := by decide +kernel
theorem dX6_displaceHeavier_45 : decode cX6_displaceHeavier 45 = .ok (.getfield 101, 3) := by decide +kernel
theorem dX6_displaceHeavier_48 : decode cX6_displaceHeavier 48 = .ok (.iload_n 1, 1) := by decide +kernel
theorem dX6_displaceHeavier_49 : decode cX6_displaceHeavier 49 = .ok (.iconst 1, 1) := by decide +kernel
theorem dX6_displaceHeavier_50 : decode cX6_displaceHeavier 50 = .ok (.iastore, 1) := by decide +kernel
theorem dX6_displaceHeavier_51 : decode cX6_displaceHeavier 51 = .ok (.iload_n 2, 1) := by decide +kernel
theorem dX6_displaceHeavier_52 : decode cX6_displaceHeavier 52 = .ok (.ireturn, 1) := by decide +kernel
theorem dX6_findHeir_0 : decode cX6_findHeir 0 = .ok (.aload_n 0, 1) := by decide +kernel
theorem dX6_findHeir_1 : decode cX6_findHeir 1 = .ok (.getfield 61, 3) := by decide +kernel
theorem dX6_findHeir_4 : decode cX6_findHeir 4 = .ok (.lookupswitch 41 #[(1, 28), (2, 35)], 28) := by decide +kernel
theorem dX6_findHeir_32 : decode cX6_findHeir 32 = .ok (.aload_n 0, 1) := by decide +kernel
theorem dX6_findHeir_33 : decode cX6_findHeir 33 = .ok (.iload_n 1, 1) := by decide +kernel
theorem dX6_findHeir_34 : decode cX6_findHeir 34 = .ok (.iload_n 2, 1) := by decide +kernel
theorem dX6_findHeir_35 : decode cX6_findHeir 35 = .ok (.invokevirtual 281, 3) := by decide +kernel
theorem dX6_findHeir_38 : decode cX6_findHeir 38 = .ok (.ireturn, 1) := by decide +kernel
theorem dX6_findHeir_39 : decode cX6_findHeir 39 = .ok (.aload_n 0, 1) := by decide +kernel
theorem dX6_findHeir_40 : decode cX6_findHeir 40 = .ok (.iload_n 1, 1) := by decide +kernel
theorem dX6_findHeir_41 : decode cX6_findHeir 41 = .ok (.invokevirtual 284, 3) := by decide +kernel
theorem dX6_findHeir_44 : decode cX6_findHeir 44 = .ok (.ireturn, 1) := by decide +kernel
theorem dX6_findHeir_45 : decode cX6_findHeir 45 = .ok (.iconst (-1), 1) := by decide +kernel
theorem dX6_findHeir_46 : decode cX6_findHeir 46 = .ok (.ireturn, 1) := by decide +kernel
theorem dX6_findHeirByLevels_0 : decode cX6_findHeirByLevels 0 = .ok (.aload_n 0, 1) := by decide +kernel
theorem dX6_findHeirByLevels_1 : decode cX6_findHeirByLevels 1 = .ok (.getfield 20, 3) := by decide +kernel
theorem dX6_findHeirByLevels_4 : decode cX6_findHeirByLevels 4 = .ok (.getfield 120, 3) := by decide +kernel
theorem dX6_findHeirByLevels_7 : decode cX6_findHeirByLevels 7 = .ok (.iload_n 1, 1) := by decide +kernel
theorem dX6_findHeirByLevels_8 : decode cX6_findHeirByLevels 8 = .ok (.iaload, 1) := by decide +kernel
theorem dX6_findHeirByLevels_9 : decode cX6_findHeirByLevels 9 = .ok (.istore_n 3, 1) := by decide +kernel
theorem dX6_findHeirByLevels_10 : decode cX6_findHeirByLevels 10 = .ok (.iload_n 3, 1) := by decide +kernel
theorem dX6_findHeirByLevels_11 : decode cX6_findHeirByLevels 11 = .ok (.ifCond .lt 47, 3) := by decide +kernel
theorem dX6_findHeirByLevels_14 : decode cX6_findHeirByLevels 14 = .ok (.aload_n 0, 1) := by decide +kernel
theorem dX6_findHeirByLevels_15 : decode cX6_findHeirByLevels 15 = .ok (.iload_n 1, 1) := by decide +kernel
theorem dX6_findHeirByLevels_16 : decode cX6_findHeirByLevels 16 = .ok (.iload_n 3, 1) := by decide +kernel
theorem dX6_findHeirByLevels_17 : decode cX6_findHeirByLevels 17 = .ok (.invokevirtual 287, 3) := by decide +kernel
theorem dX6_findHeirByLevels_20 : decode cX6_findHeirByLevels 20 = .ok (.astore 4, 2) := by decide +kernel
theorem dX6_findHeirByLevels_22 : decode cX6_findHeirByLevels 22 = .ok (.iload_n 2, 1) := by decide +kernel
theorem dX6_findHeirByLevels_23 : decode cX6_findHeirByLevels 23 = .ok (.ifCond .eq 10, 3) := by decide +kernel
theorem dX6_findHeirByLevels_26 : decode cX6_findHeirByLevels 26 = .ok (.aload_n 0, 1) := by decide +kernel
theorem dX6_findHeirByLevels_27 : decode cX6_findHeirByLevels 27 = .ok (.aload 4, 2) := by decide +kernel
theorem dX6_findHeirByLevels_29 : decode cX6_findHeirByLevels 29 = .ok (.iload_n 3, 1) := by decide +kernel
theorem dX6_findHeirByLevels_30 : decode cX6_findHeirByLevels 30 = .ok (.invokevirtual 291, 3) := by decide +kernel
theorem dX6_findHeirByLevels_33 : decode cX6_findHeirByLevels 33 = .ok (.aload_n 0, 1) := by decide +kernel
theorem dX6_findHeirByLevels_34 : decode cX6_findHeirByLevels 34 = .ok (.aload 4, 2) := by decide +kernel
theorem dX6_findHeirByLevels_36 : decode cX6_findHeirByLevels 36 = .ok (.iload_n 3, 1) := by decide +kernel
theorem dX6_findHeirByLevels_37 : decode cX6_findHeirByLevels 37 = .ok (.iload_n 2, 1) := by decide +kernel
theorem dX6_findHeirByLevels_38 : decode cX6_findHeirByLevels 38 = .ok (.invokevirtual 295, 3) := by decide +kernel
theorem dX6_findHeirByLevels_41 : decode cX6_findHeirByLevels 41 = .ok (.istore 5, 2) := by decide +kernel
theorem dX6_findHeirByLevels_43 : decode cX6_findHeirByLevels 43 = .ok (.iload 5, 2) := by decide +kernel
theorem dX6_findHeirByLevels_45 : decode cX6_findHeirByLevels 45 = .ok (.iconst (-1), 1) := by decide +kernel
theorem dX6_findHeirByLevels_46 : decode cX6_findHeirByLevels 46 = .ok (.if_icmp .eq 6, 3) := by decide +kernel
theorem dX6_findHeirByLevels_49 : decode cX6_findHeirByLevels 49 = .ok (.iload 5, 2) := by decide +kernel
theorem dX6_findHeirByLevels_51 : decode cX6_findHeirByLevels 51 = .ok (.ireturn, 1) := by decide +kernel
theorem dX6_findHeirByLevels_52 : decode cX6_findHeirByLevels 52 = .ok (.iinc 3 (-1), 3) := by decide +kernel
theorem dX6_findHeirByLevels_55 : decode cX6_findHeirByLevels 55 = .ok (.goto (-45), 3) := by decide +kernel
theorem dX6_findHeirByLevels_58 : decode cX6_findHeirByLevels 58 = .ok (.iconst (-1), 1) := by decide +kernel
theorem dX6_findHeirByLevels_59 : decode cX6_findHeirByLevels 59 = .ok (.ireturn, 1) := by decide +kernel
theorem dX6_floodSmaller_0 : decode cX6_floodSmaller 0 = .ok (.aload_n 0, 1) := by decide +kernel
theorem dX6_floodSmaller_1 : decode cX6_floodSmaller 1 = .ok (.getfield 27, 3) := by decide +kernel
theorem dX6_floodSmaller_4 : decode cX6_floodSmaller 4 = .ok (.aload_n 0, 1) := by decide +kernel
theorem dX6_floodSmaller_5 : decode cX6_floodSmaller 5 = .ok (.getfield 20, 3) := by decide +kernel
theorem dX6_floodSmaller_8 : decode cX6_floodSmaller 8 = .ok (.aload_n 0, 1) := by decide +kernel
theorem dX6_floodSmaller_9 : decode cX6_floodSmaller 9 = .ok (.getfield 20, 3) := by decide +kernel
theorem dX6_floodSmaller_12 : decode cX6_floodSmaller 12 = .ok (.getfield 114, 3) := by decide +kernel
theorem dX6_floodSmaller_15 : decode cX6_floodSmaller 15 = .ok (.iload_n 1, 1) := by decide +kernel
theorem dX6_floodSmaller_16 : decode cX6_floodSmaller 16 = .ok (.iaload, 1) := by decide +kernel
theorem dX6_floodSmaller_17 : decode cX6_floodSmaller 17 = .ok (.iload_n 1, 1) := by decide +kernel
theorem dX6_floodSmaller_18 : decode cX6_floodSmaller 18 = .ok (.iload_n 2, 1) := by decide +kernel
theorem dX6_floodSmaller_19 : decode cX6_floodSmaller 19 = .ok (.invokevirtual 270, 3) := by decide +kernel
theorem dX6_floodSmaller_22 : decode cX6_floodSmaller 22 = .ok (.aload_n 0, 1) := by decide +kernel
theorem dX6_floodSmaller_23 : decode cX6_floodSmaller 23 = .ok (.getfield 31, 3) := by decide +kernel
theorem dX6_floodSmaller_26 : decode cX6_floodSmaller 26 = .ok (.aload_n 0, 1) := by decide +kernel
theorem dX6_floodSmaller_27 : decode cX6_floodSmaller 27 = .ok (.getfield 20, 3) := by decide +kernel
theorem dX6_floodSmaller_30 : decode cX6_floodSmaller 30 = .ok (.aload_n 0, 1) := by decide +kernel
theorem dX6_floodSmaller_31 : decode cX6_floodSmaller 31 = .ok (.getfield 20, 3) := by decide +kernel
theorem dX6_floodSmaller_34 : decode cX6_floodSmaller 34 = .ok (.getfield 117, 3) := by decide +kernel
theorem dX6_floodSmaller_37 : decode cX6_floodSmaller 37 = .ok (.iload_n 1, 1) := by decide +kernel
theorem dX6_floodSmaller_38 : decode cX6_floodSmaller 38 = .ok (.iaload, 1) := by decide +kernel
theorem dX6_floodSmaller_39 : decode cX6_floodSmaller 39 = .ok (.iload_n 1, 1) := by decide +kernel
theorem dX6_floodSmaller_40 : decode cX6_floodSmaller 40 = .ok (.iload_n 2, 1) := by decide +kernel
theorem dX6_floodSmaller_41 : decode cX6_floodSmaller 41 = .ok (.invokevirtual 270, 3) := by decide +kernel
theorem dX6_floodSmaller_44 : decode cX6_floodSmaller 44 = .ok (.aload_n 0, 1) := by decide +kernel
theorem dX6_floodSmaller_45 : decode cX6_floodSmaller 45 = .ok (.getfield 27, 3) := by decide +kernel
theorem dX6_floodSmaller_48 : decode cX6_floodSmaller 48 = .ok (.getfield 152, 3) := by decide +kernel
theorem dX6_floodSmaller_51 : decode cX6_floodSmaller 51 = .ok (.aload_n 0, 1) := by decide +kernel
theorem dX6_floodSmaller_52 : decode cX6_floodSmaller 52 = .ok (.getfield 31, 3) := by decide +kernel
theorem dX6_floodSmaller_55 : decode cX6_floodSmaller 55 = .ok (.getfield 152, 3) := by decide +kernel
theorem dX6_floodSmaller_58 : decode cX6_floodSmaller 58 = .ok (.if_icmp .gt 10, 3) := by decide +kernel
theorem dX6_floodSmaller_61 : decode cX6_floodSmaller 61 = .ok (.aload_n 0, 1) := by decide +kernel
theorem dX6_floodSmaller_62 : decode cX6_floodSmaller 62 = .ok (.getfield 27, 3) := by decide +kernel
theorem dX6_floodSmaller_65 : decode cX6_floodSmaller 65 = .ok (.goto 7, 3) := by decide +kernel
theorem dX6_floodSmaller_68 : decode cX6_floodSmaller 68 = .ok (.aload_n 0, 1) := by decide +kernel
theorem dX6_floodSmaller_69 : decode cX6_floodSmaller 69 = .ok (.getfield 31, 3) := by decide +kernel
theorem dX6_floodSmaller_72 : decode cX6_floodSmaller 72 = .ok (.areturn, 1) := by decide +kernel
theorem dX6_raiseTrees_0 : decode cX6_raiseTrees 0 = .ok (.iconst 0, 1) := by decide +kernel
theorem dX6_raiseTrees_1 : decode cX6_raiseTrees 1 = .ok (.istore_n 3, 1) := by decide +kernel
theorem dX6_raiseTrees_2 : decode cX6_raiseTrees 2 = .ok (.iload_n 3, 1) := by decide +kernel
theorem dX6_raiseTrees_3 : decode cX6_raiseTrees 3 = .ok (.aload_n 0, 1) := by decide +kernel
theorem dX6_raiseTrees_4 : decode cX6_raiseTrees 4 = .ok (.getfield 20, 3) := by decide +kernel
theorem dX6_raiseTrees_7 : decode cX6_raiseTrees 7 = .ok (.getfield 75, 3) := by decide +kernel
theorem dX6_raiseTrees_10 : decode cX6_raiseTrees 10 = .ok (.if_icmp .ge 43, 3) := by decide +kernel
theorem dX6_raiseTrees_13 : decode cX6_raiseTrees 13 = .ok (.aload_n 0, 1) := by decide +kernel
theorem dX6_raiseTrees_14 : decode cX6_raiseTrees 14 = .ok (.getfield 20, 3) := by decide +kernel
theorem dX6_raiseTrees_17 : decode cX6_raiseTrees 17 = .ok (.iload_n 3, 1) := by decide +kernel
theorem dX6_raiseTrees_18 : decode cX6_raiseTrees 18 = .ok (.iconst 1, 1) := by decide +kernel
theorem dX6_raiseTrees_19 : decode cX6_raiseTrees 19 = .ok (.iload_n 2, 1) := by decide +kernel
theorem dX6_raiseTrees_20 : decode cX6_raiseTrees 20 = .ok (.invokevirtual 299, 3) := by decide +kernel
theorem dX6_raiseTrees_23 : decode cX6_raiseTrees 23 = .ok (.ifCond .eq 24, 3) := by decide +kernel
theorem dX6_raiseTrees_26 : decode cX6_raiseTrees 26 = .ok (.aload_n 1, 1) := by decide +kernel
theorem dX6_raiseTrees_27 : decode cX6_raiseTrees 27 = .ok (.aload_n 0, 1) := by decide +kernel
theorem dX6_raiseTrees_28 : decode cX6_raiseTrees 28 = .ok (.getfield 20, 3) := by decide +kernel
theorem dX6_raiseTrees_31 : decode cX6_raiseTrees 31 = .ok (.iload_n 3, 1) := by decide +kernel
theorem dX6_raiseTrees_32 : decode cX6_raiseTrees 32 = .ok (.invokevirtual 302, 3) := by decide +kernel
theorem dX6_raiseTrees_35 : decode cX6_raiseTrees 35 = .ok (.iconst 2, 1) := by decide +kernel
theorem dX6_raiseTrees_36 : decode cX6_raiseTrees 36 = .ok (.if_icmp .ne 11, 3) := by decide +kernel
theorem dX6_raiseTrees_39 : decode cX6_raiseTrees 39 = .ok (.aload_n 0, 1) := by decide +kernel
theorem dX6_raiseTrees_40 : decode cX6_raiseTrees 40 = .ok (.getfield 20, 3) := by decide +kernel
theorem dX6_raiseTrees_43 : decode cX6_raiseTrees 43 = .ok (.iload_n 3, 1) := by decide +kernel
theorem dX6_raiseTrees_44 : decode cX6_raiseTrees 44 = .ok (.invokevirtual 305, 3) := by decide +kernel
theorem dX6_raiseTrees_47 : decode cX6_raiseTrees 47 = .ok (.iinc 3 1, 3) := by decide +kernel
theorem dX6_raiseTrees_50 : decode cX6_raiseTrees 50 = .ok (.goto (-48), 3) := by decide +kernel
theorem dX6_raiseTrees_53 : decode cX6_raiseTrees 53 = .ok (.return_, 1) := by decide +kernel
theorem dX6_findHeirAt_0 : decode cX6_findHeirAt 0 = .ok (.iconst 0, 1) := by decide +kernel
theorem dX6_findHeirAt_1 : decode cX6_findHeirAt 1 = .ok (.istore 4, 2) := by decide +kernel
theorem dX6_findHeirAt_3 : decode cX6_findHeirAt 3 = .ok (.iload 4, 2) := by decide +kernel
theorem dX6_findHeirAt_5 : decode cX6_findHeirAt 5 = .ok (.aload_n 0, 1) := by decide +kernel
theorem dX6_findHeirAt_6 : decode cX6_findHeirAt 6 = .ok (.getfield 20, 3) := by decide +kernel
theorem dX6_findHeirAt_9 : decode cX6_findHeirAt 9 = .ok (.getfield 75, 3) := by decide +kernel
theorem dX6_findHeirAt_12 : decode cX6_findHeirAt 12 = .ok (.if_icmp .ge 66, 3) := by decide +kernel
theorem dX6_findHeirAt_15 : decode cX6_findHeirAt 15 = .ok (.aload_n 0, 1) := by decide +kernel
theorem dX6_findHeirAt_16 : decode cX6_findHeirAt 16 = .ok (.getfield 20, 3) := by decide +kernel
theorem dX6_findHeirAt_19 : decode cX6_findHeirAt 19 = .ok (.iload 4, 2) := by decide +kernel
theorem dX6_findHeirAt_21 : decode cX6_findHeirAt 21 = .ok (.iconst 2, 1) := by decide +kernel
theorem dX6_findHeirAt_22 : decode cX6_findHeirAt 22 = .ok (.iload_n 2, 1) := by decide +kernel
theorem dX6_findHeirAt_23 : decode cX6_findHeirAt 23 = .ok (.invokevirtual 299, 3) := by decide +kernel
theorem dX6_findHeirAt_26 : decode cX6_findHeirAt 26 = .ok (.ifCond .ne 6, 3) := by decide +kernel
theorem dX6_findHeirAt_29 : decode cX6_findHeirAt 29 = .ok (.goto 43, 3) := by decide +kernel
theorem dX6_findHeirAt_32 : decode cX6_findHeirAt 32 = .ok (.aload_n 1, 1) := by decide +kernel
theorem dX6_findHeirAt_33 : decode cX6_findHeirAt 33 = .ok (.aload_n 0, 1) := by decide +kernel
theorem dX6_findHeirAt_34 : decode cX6_findHeirAt 34 = .ok (.getfield 20, 3) := by decide +kernel
theorem dX6_findHeirAt_37 : decode cX6_findHeirAt 37 = .ok (.iload 4, 2) := by decide +kernel
theorem dX6_findHeirAt_39 : decode cX6_findHeirAt 39 = .ok (.invokevirtual 302, 3) := by decide +kernel
theorem dX6_findHeirAt_42 : decode cX6_findHeirAt 42 = .ok (.istore 5, 2) := by decide +kernel
theorem dX6_findHeirAt_44 : decode cX6_findHeirAt 44 = .ok (.iload 5, 2) := by decide +kernel
theorem dX6_findHeirAt_46 : decode cX6_findHeirAt 46 = .ok (.iconst 1, 1) := by decide +kernel
theorem dX6_findHeirAt_47 : decode cX6_findHeirAt 47 = .ok (.if_icmp .ne 6, 3) := by decide +kernel
theorem dX6_findHeirAt_50 : decode cX6_findHeirAt 50 = .ok (.iload 4, 2) := by decide +kernel
theorem dX6_findHeirAt_52 : decode cX6_findHeirAt 52 = .ok (.ireturn, 1) := by decide +kernel
theorem dX6_findHeirAt_53 : decode cX6_findHeirAt 53 = .ok (.iload 5, 2) := by decide +kernel
theorem dX6_findHeirAt_55 : decode cX6_findHeirAt 55 = .ok (.iconst 2, 1) := by decide +kernel
theorem dX6_findHeirAt_56 : decode cX6_findHeirAt 56 = .ok (.if_icmp .ne 16, 3) := by decide +kernel
theorem dX6_findHeirAt_59 : decode cX6_findHeirAt 59 = .ok (.iload_n 3, 1) := by decide +kernel
theorem dX6_findHeirAt_60 : decode cX6_findHeirAt 60 = .ok (.ifCond .eq 12, 3) := by decide +kernel
theorem dX6_findHeirAt_63 : decode cX6_findHeirAt 63 = .ok (.aload_n 0, 1) := by decide +kernel
theorem dX6_findHeirAt_64 : decode cX6_findHeirAt 64 = .ok (.getfield 20, 3) := by decide +kernel
theorem dX6_findHeirAt_67 : decode cX6_findHeirAt 67 = .ok (.iload 4, 2) := by decide +kernel
theorem dX6_findHeirAt_69 : decode cX6_findHeirAt 69 = .ok (.invokevirtual 305, 3) := by decide +kernel
theorem dX6_findHeirAt_72 : decode cX6_findHeirAt 72 = .ok (.iinc 4 1, 3) := by decide +kernel
theorem dX6_findHeirAt_75 : decode cX6_findHeirAt 75 = .ok (.goto (-72), 3) := by decide +kernel
theorem dX6_findHeirAt_78 : decode cX6_findHeirAt 78 = .ok (.iconst (-1), 1) := by decide +kernel
theorem dX6_findHeirAt_79 : decode cX6_findHeirAt 79 = .ok (.ireturn, 1) := by decide +kernel
theorem dX6_findLightestAcross_0 : decode cX6_findLightestAcross 0 = .ok (.aload_n 0, 1) := by decide +kernel
theorem dX6_findLightestAcross_1 : decode cX6_findLightestAcross 1 = .ok (.getfield 27, 3) := by decide +kernel
theorem dX6_findLightestAcross_4 : decode cX6_findLightestAcross 4 = .ok (.aload_n 0, 1) := by decide +kernel
theorem dX6_findLightestAcross_5 : decode cX6_findLightestAcross 5 = .ok (.getfield 20, 3) := by decide +kernel
theorem dX6_findLightestAcross_8 : decode cX6_findLightestAcross 8 = .ok (.aload_n 0, 1) := by decide +kernel
theorem dX6_findLightestAcross_9 : decode cX6_findLightestAcross 9 = .ok (.getfield 20, 3) := by decide +kernel
theorem dX6_findLightestAcross_12 : decode cX6_findLightestAcross 12 = .ok (.getfield 114, 3) := by decide +kernel
theorem dX6_findLightestAcross_15 : decode cX6_findLightestAcross 15 = .ok (.iload_n 1, 1) := by decide +kernel
theorem dX6_findLightestAcross_16 : decode cX6_findLightestAcross 16 = .ok (.iaload, 1) := by decide +kernel
theorem dX6_findLightestAcross_17 : decode cX6_findLightestAcross 17 = .ok (.iload_n 1, 1) := by decide +kernel
theorem dX6_findLightestAcross_18 : decode cX6_findLightestAcross 18 = .ok (.iconst 0, 1) := by decide +kernel
theorem dX6_findLightestAcross_19 : decode cX6_findLightestAcross 19 = .ok (.invokevirtual 270, 3) := by decide +kernel
theorem dX6_findLightestAcross_22 : decode cX6_findLightestAcross 22 = .ok (.iconst (-1), 1) := by decide +kernel
theorem dX6_findLightestAcross_23 : decode cX6_findLightestAcross 23 = .ok (.istore_n 2, 1) := by decide +kernel
theorem dX6_findLightestAcross_24 : decode cX6_findLightestAcross 24 = .ok (.iconst 0, 1) := by decide +kernel
theorem dX6_findLightestAcross_25 : decode cX6_findLightestAcross 25 = .ok (.istore_n 3, 1) := by decide +kernel
theorem dX6_findLightestAcross_26 : decode cX6_findLightestAcross 26 = .ok (.iload_n 3, 1) := by decide +kernel
theorem dX6_findLightestAcross_27 : decode cX6_findLightestAcross 27 = .ok (.aload_n 0, 1) := by decide +kernel
theorem dX6_findLightestAcross_28 : decode cX6_findLightestAcross 28 = .ok (.getfield 20, 3) := by decide +kernel
theorem dX6_findLightestAcross_31 : decode cX6_findLightestAcross 31 = .ok (.getfield 75, 3) := by decide +kernel
theorem dX6_findLightestAcross_34 : decode cX6_findLightestAcross 34 = .ok (.if_icmp .ge 57, 3) := by decide +kernel
theorem dX6_findLightestAcross_37 : decode cX6_findLightestAcross 37 = .ok (.aload_n 0, 1) := by decide +kernel
theorem dX6_findLightestAcross_38 : decode cX6_findLightestAcross 38 = .ok (.getfield 20, 3) := by decide +kernel
theorem dX6_findLightestAcross_41 : decode cX6_findLightestAcross 41 = .ok (.getfield 101, 3) := by decide +kernel
theorem dX6_findLightestAcross_44 : decode cX6_findLightestAcross 44 = .ok (.iload_n 3, 1) := by decide +kernel
theorem dX6_findLightestAcross_45 : decode cX6_findLightestAcross 45 = .ok (.iaload, 1) := by decide +kernel
theorem dX6_findLightestAcross_46 : decode cX6_findLightestAcross 46 = .ok (.iconst 2, 1) := by decide +kernel
theorem dX6_findLightestAcross_47 : decode cX6_findLightestAcross 47 = .ok (.if_icmp .ne 38, 3) := by decide +kernel
theorem dX6_findLightestAcross_50 : decode cX6_findLightestAcross 50 = .ok (.aload_n 0, 1) := by decide +kernel
theorem dX6_findLightestAcross_51 : decode cX6_findLightestAcross 51 = .ok (.getfield 27, 3) := by decide +kernel
theorem dX6_findLightestAcross_54 : decode cX6_findLightestAcross 54 = .ok (.aload_n 0, 1) := by decide +kernel
theorem dX6_findLightestAcross_55 : decode cX6_findLightestAcross 55 = .ok (.getfield 20, 3) := by decide +kernel
theorem dX6_findLightestAcross_58 : decode cX6_findLightestAcross 58 = .ok (.iload_n 3, 1) := by decide +kernel
theorem dX6_findLightestAcross_59 : decode cX6_findLightestAcross 59 = .ok (.invokevirtual 302, 3) := by decide +kernel
theorem dX6_findLightestAcross_62 : decode cX6_findLightestAcross 62 = .ok (.iconst 1, 1) := by decide +kernel
theorem dX6_findLightestAcross_63 : decode cX6_findLightestAcross 63 = .ok (.if_icmp .ne 22, 3) := by decide +kernel
theorem dX6_findLightestAcross_66 : decode cX6_findLightestAcross 66 = .ok (.iload_n 2, 1) := by decide +kernel
theorem dX6_findLightestAcross_67 : decode cX6_findLightestAcross 67 = .ok (.iconst (-1), 1) := by decide +kernel
theorem dX6_findLightestAcross_68 : decode cX6_findLightestAcross 68 = .ok (.if_icmp .eq 15, 3) := by decide +kernel
theorem dX6_findLightestAcross_71 : decode cX6_findLightestAcross 71 = .ok (.aload_n 0, 1) := by decide +kernel
theorem dX6_findLightestAcross_72 : decode cX6_findLightestAcross 72 = .ok (.getfield 20, 3) := by decide +kernel
theorem dX6_findLightestAcross_75 : decode cX6_findLightestAcross 75 = .ok (.iload_n 2, 1) := by decide +kernel
theorem dX6_findLightestAcross_76 : decode cX6_findLightestAcross 76 = .ok (.iload_n 3, 1) := by decide +kernel
theorem dX6_findLightestAcross_77 : decode cX6_findLightestAcross 77 = .ok (.invokevirtual 277, 3) := by decide +kernel
theorem dX6_findLightestAcross_80 : decode cX6_findLightestAcross 80 = .ok (.ifCond .eq 5, 3) := by decide +kernel
theorem dX6_findLightestAcross_83 : decode cX6_findLightestAcross 83 = .ok (.iload_n 3, 1) := by decide +kernel
theorem dX6_findLightestAcross_84 : decode cX6_findLightestAcross 84 = .ok (.istore_n 2, 1) := by decide +kernel
theorem dX6_findLightestAcross_85 : decode cX6_findLightestAcross 85 = .ok (.iinc 3 1, 3) := by decide +kernel
theorem dX6_findLightestAcross_88 : decode cX6_findLightestAcross 88 = .ok (.goto (-62), 3) := by decide +kernel
theorem dX6_findLightestAcross_91 : decode cX6_findLightestAcross 91 = .ok (.iload_n 2, 1) := by decide +kernel
theorem dX6_findLightestAcross_92 : decode cX6_findLightestAcross 92 = .ok (.ireturn, 1) := by decide +kernel
theorem dX6_takeBack_0 : decode cX6_takeBack 0 = .ok (.iload_n 1, 1) := by decide +kernel
theorem dX6_takeBack_1 : decode cX6_takeBack 1 = .ok (.tableswitch 115 0 4 #[35, 46, 64, 80, 90], 35) := by decide +kernel
theorem dX6_takeBack_36 : decode cX6_takeBack 36 = .ok (.aload_n 0, 1) := by decide +kernel
theorem dX6_takeBack_37 : decode cX6_takeBack 37 = .ok (.getfield 9, 3) := by decide +kernel
theorem dX6_takeBack_40 : decode cX6_takeBack 40 = .ok (.iload_n 2, 1) := by decide +kernel
theorem dX6_takeBack_41 : decode cX6_takeBack 41 = .ok (.lload 4, 2) := by decide +kernel
theorem dX6_takeBack_43 : decode cX6_takeBack 43 = .ok (.lastore, 1) := by decide +kernel
theorem dX6_takeBack_44 : decode cX6_takeBack 44 = .ok (.goto 91, 3) := by decide +kernel
theorem dX6_takeBack_47 : decode cX6_takeBack 47 = .ok (.aload_n 0, 1) := by decide +kernel
theorem dX6_takeBack_48 : decode cX6_takeBack 48 = .ok (.iload_n 2, 1) := by decide +kernel
theorem dX6_takeBack_49 : decode cX6_takeBack 49 = .ok (.iload_n 3, 1) := by decide +kernel
theorem dX6_takeBack_50 : decode cX6_takeBack 50 = .ok (.invokevirtual 82, 3) := by decide +kernel
theorem dX6_takeBack_53 : decode cX6_takeBack 53 = .ok (.pop, 1) := by decide +kernel
theorem dX6_takeBack_54 : decode cX6_takeBack 54 = .ok (.aload_n 0, 1) := by decide +kernel
theorem dX6_takeBack_55 : decode cX6_takeBack 55 = .ok (.lload 4, 2) := by decide +kernel
theorem dX6_takeBack_57 : decode cX6_takeBack 57 = .ok (.lneg, 1) := by decide +kernel
theorem dX6_takeBack_58 : decode cX6_takeBack 58 = .ok (.invokevirtual 169, 3) := by decide +kernel
theorem dX6_takeBack_61 : decode cX6_takeBack 61 = .ok (.pop, 1) := by decide +kernel
theorem dX6_takeBack_62 : decode cX6_takeBack 62 = .ok (.goto 73, 3) := by decide +kernel
theorem dX6_takeBack_65 : decode cX6_takeBack 65 = .ok (.aload_n 0, 1) := by decide +kernel
theorem dX6_takeBack_66 : decode cX6_takeBack 66 = .ok (.iload_n 2, 1) := by decide +kernel
theorem dX6_takeBack_67 : decode cX6_takeBack 67 = .ok (.invokevirtual 189, 3) := by decide +kernel
theorem dX6_takeBack_70 : decode cX6_takeBack 70 = .ok (.aload_n 0, 1) := by decide +kernel
theorem dX6_takeBack_71 : decode cX6_takeBack 71 = .ok (.lload 4, 2) := by decide +kernel
theorem dX6_takeBack_73 : decode cX6_takeBack 73 = .ok (.lneg, 1) := by decide +kernel
theorem dX6_takeBack_74 : decode cX6_takeBack 74 = .ok (.invokevirtual 198, 3) := by decide +kernel
theorem dX6_takeBack_77 : decode cX6_takeBack 77 = .ok (.pop, 1) := by decide +kernel
theorem dX6_takeBack_78 : decode cX6_takeBack 78 = .ok (.goto 57, 3) := by decide +kernel
theorem dX6_takeBack_81 : decode cX6_takeBack 81 = .ok (.aload_n 0, 1) := by decide +kernel
theorem dX6_takeBack_82 : decode cX6_takeBack 82 = .ok (.getfield 13, 3) := by decide +kernel
theorem dX6_takeBack_85 : decode cX6_takeBack 85 = .ok (.iload_n 2, 1) := by decide +kernel
theorem dX6_takeBack_86 : decode cX6_takeBack 86 = .ok (.iload_n 3, 1) := by decide +kernel
theorem dX6_takeBack_87 : decode cX6_takeBack 87 = .ok (.iastore, 1) := by decide +kernel
theorem dX6_takeBack_88 : decode cX6_takeBack 88 = .ok (.goto 47, 3) := by decide +kernel
theorem dX6_takeBack_91 : decode cX6_takeBack 91 = .ok (.aload_n 0, 1) := by decide +kernel
theorem dX6_takeBack_92 : decode cX6_takeBack 92 = .ok (.getfield 20, 3) := by decide +kernel
theorem dX6_takeBack_95 : decode cX6_takeBack 95 = .ok (.invokevirtual 308, 3) := by decide +kernel
theorem dX6_takeBack_98 : decode cX6_takeBack 98 = .ok (.iload_n 2, 1) := by decide +kernel
theorem dX6_takeBack_99 : decode cX6_takeBack 99 = .ok (.iconst (-1), 1) := by decide +kernel
theorem dX6_takeBack_100 : decode cX6_takeBack 100 = .ok (.if_icmp .eq 35, 3) := by decide +kernel
theorem dX6_takeBack_103 : decode cX6_takeBack 103 = .ok (.aload_n 0, 1) := by decide +kernel
theorem dX6_takeBack_104 : decode cX6_takeBack 104 = .ok (.getfield 20, 3) := by decide +kernel
theorem dX6_takeBack_107 : decode cX6_takeBack 107 = .ok (.getfield 101, 3) := by decide +kernel
theorem dX6_takeBack_110 : decode cX6_takeBack 110 = .ok (.iload_n 2, 1) := by decide +kernel
theorem dX6_takeBack_111 : decode cX6_takeBack 111 = .ok (.iconst 1, 1) := by decide +kernel
theorem dX6_takeBack_112 : decode cX6_takeBack 112 = .ok (.iastore, 1) := by decide +kernel
theorem dX6_takeBack_113 : decode cX6_takeBack 113 = .ok (.goto 22, 3) := by decide +kernel
theorem dX6_takeBack_116 : decode cX6_takeBack 116 = .ok (.aload_n 0, 1) := by decide +kernel
theorem dX6_takeBack_117 : decode cX6_takeBack 117 = .ok (.iload_n 2, 1) := by decide +kernel
theorem dX6_takeBack_118 : decode cX6_takeBack 118 = .ok (.iload_n 3, 1) := by decide +kernel
theorem dX6_takeBack_119 : decode cX6_takeBack 119 = .ok (.iload_n 1, 1) := by decide +kernel
theorem dX6_takeBack_120 : decode cX6_takeBack 120 = .ok (.iconst 5, 1) := by decide +kernel
theorem dX6_takeBack_121 : decode cX6_takeBack 121 = .ok (.if_icmp .ne 7, 3) := by decide +kernel
theorem dX6_takeBack_124 : decode cX6_takeBack 124 = .ok (.iconst 1, 1) := by decide +kernel
theorem dX6_takeBack_125 : decode cX6_takeBack 125 = .ok (.goto 4, 3) := by decide +kernel
theorem dX6_takeBack_128 : decode cX6_takeBack 128 = .ok (.iconst 2, 1) := by decide +kernel
theorem dX6_takeBack_129 : decode cX6_takeBack 129 = .ok (.lload 4, 2) := by decide +kernel
theorem dX6_takeBack_131 : decode cX6_takeBack 131 = .ok (.l2i, 1) := by decide +kernel
theorem dX6_takeBack_132 : decode cX6_takeBack 132 = .ok (.invokevirtual 311, 3) := by decide +kernel
theorem dX6_takeBack_135 : decode cX6_takeBack 135 = .ok (.return_, 1) := by decide +kernel
theorem dX6_takeBackCut_0 : decode cX6_takeBackCut 0 = .ok (.iload_n 2, 1) := by decide +kernel
theorem dX6_takeBackCut_1 : decode cX6_takeBackCut 1 = .ok (.iconst (-1), 1) := by decide +kernel
theorem dX6_takeBackCut_2 : decode cX6_takeBackCut 2 = .ok (.if_icmp .eq 13, 3) := by decide +kernel
theorem dX6_takeBackCut_5 : decode cX6_takeBackCut 5 = .ok (.aload_n 0, 1) := by decide +kernel
theorem dX6_takeBackCut_6 : decode cX6_takeBackCut 6 = .ok (.getfield 20, 3) := by decide +kernel
theorem dX6_takeBackCut_9 : decode cX6_takeBackCut 9 = .ok (.getfield 101, 3) := by decide +kernel
theorem dX6_takeBackCut_12 : decode cX6_takeBackCut 12 = .ok (.iload_n 2, 1) := by decide +kernel
theorem dX6_takeBackCut_13 : decode cX6_takeBackCut 13 = .ok (.iconst 2, 1) := by decide +kernel
theorem dX6_takeBackCut_14 : decode cX6_takeBackCut 14 = .ok (.iastore, 1) := by decide +kernel
theorem dX6_takeBackCut_15 : decode cX6_takeBackCut 15 = .ok (.aload_n 0, 1) := by decide +kernel
theorem dX6_takeBackCut_16 : decode cX6_takeBackCut 16 = .ok (.getfield 20, 3) := by decide +kernel
theorem dX6_takeBackCut_19 : decode cX6_takeBackCut 19 = .ok (.getfield 101, 3) := by decide +kernel
theorem dX6_takeBackCut_22 : decode cX6_takeBackCut 22 = .ok (.iload_n 1, 1) := by decide +kernel
theorem dX6_takeBackCut_23 : decode cX6_takeBackCut 23 = .ok (.iload_n 3, 1) := by decide +kernel
theorem dX6_takeBackCut_24 : decode cX6_takeBackCut 24 = .ok (.iastore, 1) := by decide +kernel
theorem dX6_takeBackCut_25 : decode cX6_takeBackCut 25 = .ok (.aload_n 0, 1) := by decide +kernel
theorem dX6_takeBackCut_26 : decode cX6_takeBackCut 26 = .ok (.getfield 20, 3) := by decide +kernel
theorem dX6_takeBackCut_29 : decode cX6_takeBackCut 29 = .ok (.iload 4, 2) := by decide +kernel
theorem dX6_takeBackCut_31 : decode cX6_takeBackCut 31 = .ok (.invokevirtual 315, 3) := by decide +kernel
theorem dX6_takeBackCut_34 : decode cX6_takeBackCut 34 = .ok (.return_, 1) := by decide +kernel
theorem dX6_refuse_0 : decode cX6_refuse 0 = .ok (.aload_n 0, 1) := by decide +kernel
theorem dX6_refuse_1 : decode cX6_refuse 1 = .ok (.iload_n 1, 1) := by decide +kernel
theorem dX6_refuse_2 : decode cX6_refuse 2 = .ok (.putfield 65, 3) := by decide +kernel
theorem dX6_refuse_5 : decode cX6_refuse 5 = .ok (.iconst (-1), 1) := by decide +kernel
theorem dX6_refuse_6 : decode cX6_refuse 6 = .ok (.ireturn, 1) := by decide +kernel
theorem dX6_grant_0 : decode cX6_grant 0 = .ok (.aload_n 0, 1) := by decide +kernel
theorem dX6_grant_1 : decode cX6_grant 1 = .ok (.iconst 0, 1) := by decide +kernel
theorem dX6_grant_2 : decode cX6_grant 2 = .ok (.putfield 65, 3) := by decide +kernel
theorem dX6_grant_5 : decode cX6_grant 5 = .ok (.iload_n 1, 1) := by decide +kernel
theorem dX6_grant_6 : decode cX6_grant 6 = .ok (.ireturn, 1) := by decide +kernel
theorem dX6_canPut_0 : decode cX6_canPut 0 = .ok (.iload_n 1, 1) := by decide +kernel
theorem dX6_canPut_1 : decode cX6_canPut 1 = .ok (.tableswitch 67 0 4 #[35, 37, 46, 52, 46], 35) := by decide +kernel
theorem dX6_canPut_36 : decode cX6_canPut 36 = .ok (.iconst 1, 1) := by decide +kernel
theorem dX6_canPut_37 : decode cX6_canPut 37 = .ok (.ireturn, 1) := by decide +kernel
theorem dX6_canPut_38 : decode cX6_canPut 38 = .ok (.aload_n 0, 1) := by decide +kernel
theorem dX6_canPut_39 : decode cX6_canPut 39 = .ok (.getfield 20, 3) := by decide +kernel
theorem dX6_canPut_42 : decode cX6_canPut 42 = .ok (.iload_n 2, 1) := by decide +kernel
theorem dX6_canPut_43 : decode cX6_canPut 43 = .ok (.invokevirtual 98, 3) := by decide +kernel
theorem dX6_canPut_46 : decode cX6_canPut 46 = .ok (.ireturn, 1) := by decide +kernel
theorem dX6_canPut_47 : decode cX6_canPut 47 = .ok (.aload_n 0, 1) := by decide +kernel
theorem dX6_canPut_48 : decode cX6_canPut 48 = .ok (.iload_n 2, 1) := by decide +kernel
theorem dX6_canPut_49 : decode cX6_canPut 49 = .ok (.invokevirtual 78, 3) := by decide +kernel
theorem dX6_canPut_52 : decode cX6_canPut 52 = .ok (.ireturn, 1) := by decide +kernel
theorem dX6_canPut_53 : decode cX6_canPut 53 = .ok (.aload_n 0, 1) := by decide +kernel
theorem dX6_canPut_54 : decode cX6_canPut 54 = .ok (.iload_n 2, 1) := by decide +kernel
theorem dX6_canPut_55 : decode cX6_canPut 55 = .ok (.iload_n 3, 1) := by decide +kernel
theorem dX6_canPut_56 : decode cX6_canPut 56 = .ok (.invokevirtual 82, 3) := by decide +kernel
theorem dX6_canPut_59 : decode cX6_canPut 59 = .ok (.ifCond .lt 7, 3) := by decide +kernel
theorem dX6_canPut_62 : decode cX6_canPut 62 = .ok (.iconst 1, 1) := by decide +kernel
theorem dX6_canPut_63 : decode cX6_canPut 63 = .ok (.goto 4, 3) := by decide +kernel
theorem dX6_canPut_66 : decode cX6_canPut 66 = .ok (.iconst 0, 1) := by decide +kernel
theorem dX6_canPut_67 : decode cX6_canPut 67 = .ok (.ireturn, 1) := by decide +kernel
theorem dX6_canPut_68 : decode cX6_canPut 68 = .ok (.iconst 0, 1) := by decide +kernel
theorem dX6_canPut_69 : decode cX6_canPut 69 = .ok (.ireturn, 1) := by decide +kernel
theorem dX6_putKnots_0 : decode cX6_putKnots 0 = .ok (.aload_n 0, 1) := by decide +kernel
theorem dX6_putKnots_1 : decode cX6_putKnots 1 = .ok (.iload_n 2, 1) := by decide +kernel
theorem dX6_putKnots_2 : decode cX6_putKnots 2 = .ok (.invokevirtual 148, 3) := by decide +kernel
theorem dX6_putKnots_5 : decode cX6_putKnots 5 = .ok (.aload_n 1, 1) := by decide +kernel
theorem dX6_putKnots_6 : decode cX6_putKnots 6 = .ok (.iconst 2, 1) := by decide +kernel
theorem dX6_putKnots_7 : decode cX6_putKnots 7 = .ok (.invokevirtual 230, 3) := by decide +kernel
theorem dX6_putKnots_10 : decode cX6_putKnots 10 = .ok (.iconst 0, 1) := by decide +kernel
theorem dX6_putKnots_11 : decode cX6_putKnots 11 = .ok (.istore_n 3, 1) := by decide +kernel
theorem dX6_putKnots_12 : decode cX6_putKnots 12 = .ok (.iload_n 3, 1) := by decide +kernel
theorem dX6_putKnots_13 : decode cX6_putKnots 13 = .ok (.aload_n 0, 1) := by decide +kernel
theorem dX6_putKnots_14 : decode cX6_putKnots 14 = .ok (.getfield 69, 3) := by decide +kernel
theorem dX6_putKnots_17 : decode cX6_putKnots 17 = .ok (.if_icmp .ge 27, 3) := by decide +kernel
theorem dX6_putKnots_20 : decode cX6_putKnots 20 = .ok (.aload_n 0, 1) := by decide +kernel
theorem dX6_putKnots_21 : decode cX6_putKnots 21 = .ok (.getfield 27, 3) := by decide +kernel
theorem dX6_putKnots_24 : decode cX6_putKnots 24 = .ok (.getfield 153, 3) := by decide +kernel
theorem dX6_putKnots_27 : decode cX6_putKnots 27 = .ok (.iload_n 3, 1) := by decide +kernel
theorem dX6_putKnots_28 : decode cX6_putKnots 28 = .ok (.baload, 1) := by decide +kernel
theorem dX6_putKnots_29 : decode cX6_putKnots 29 = .ok (.ifCond .eq 9, 3) := by decide +kernel
theorem dX6_putKnots_32 : decode cX6_putKnots 32 = .ok (.aload_n 1, 1) := by decide +kernel
theorem dX6_putKnots_33 : decode cX6_putKnots 33 = .ok (.iload_n 3, 1) := by decide +kernel
theorem dX6_putKnots_34 : decode cX6_putKnots 34 = .ok (.i2l, 1) := by decide +kernel
theorem dX6_putKnots_35 : decode cX6_putKnots 35 = .ok (.invokevirtual 233, 3) := by decide +kernel
theorem dX6_putKnots_38 : decode cX6_putKnots 38 = .ok (.iinc 3 1, 3) := by decide +kernel
theorem dX6_putKnots_41 : decode cX6_putKnots 41 = .ok (.goto (-29), 3) := by decide +kernel
theorem dX6_putKnots_44 : decode cX6_putKnots 44 = .ok (.return_, 1) := by decide +kernel
theorem dX6_putWeights_0 : decode cX6_putWeights 0 = .ok (.aload_n 0, 1) := by decide +kernel
theorem dX6_putWeights_1 : decode cX6_putWeights 1 = .ok (.iload_n 2, 1) := by decide +kernel
theorem dX6_putWeights_2 : decode cX6_putWeights 2 = .ok (.iload_n 3, 1) := by decide +kernel
theorem dX6_putWeights_3 : decode cX6_putWeights 3 = .ok (.invokevirtual 82, 3) := by decide +kernel
theorem dX6_putWeights_6 : decode cX6_putWeights 6 = .ok (.istore 4, 2) := by decide +kernel
theorem dX6_putWeights_8 : decode cX6_putWeights 8 = .ok (.aload_n 1, 1) := by decide +kernel
theorem dX6_putWeights_9 : decode cX6_putWeights 9 = .ok (.iconst 3, 1) := by decide +kernel
theorem dX6_putWeights_10 : decode cX6_putWeights 10 = .ok (.invokevirtual 230, 3) := by decide +kernel
theorem dX6_putWeights_13 : decode cX6_putWeights 13 = .ok (.iconst 0, 1) := by decide +kernel
theorem dX6_putWeights_14 : decode cX6_putWeights 14 = .ok (.istore 5, 2) := by decide +kernel
theorem dX6_putWeights_16 : decode cX6_putWeights 16 = .ok (.iload 5, 2) := by decide +kernel
theorem dX6_putWeights_18 : decode cX6_putWeights 18 = .ok (.iload 4, 2) := by decide +kernel
theorem dX6_putWeights_20 : decode cX6_putWeights 20 = .ok (.if_icmp .ge 31, 3) := by decide +kernel
theorem dX6_putWeights_23 : decode cX6_putWeights 23 = .ok (.aload_n 1, 1) := by decide +kernel
theorem dX6_putWeights_24 : decode cX6_putWeights 24 = .ok (.aload_n 0, 1) := by decide +kernel
theorem dX6_putWeights_25 : decode cX6_putWeights 25 = .ok (.getfield 20, 3) := by decide +kernel
theorem dX6_putWeights_28 : decode cX6_putWeights 28 = .ok (.getfield 131, 3) := by decide +kernel
theorem dX6_putWeights_31 : decode cX6_putWeights 31 = .ok (.aload_n 0, 1) := by decide +kernel
theorem dX6_putWeights_32 : decode cX6_putWeights 32 = .ok (.getfield 37, 3) := by decide +kernel
theorem dX6_putWeights_35 : decode cX6_putWeights 35 = .ok (.getfield 318, 3) := by decide +kernel
theorem dX6_putWeights_38 : decode cX6_putWeights 38 = .ok (.iload 5, 2) := by decide +kernel
theorem dX6_putWeights_40 : decode cX6_putWeights 40 = .ok (.iaload, 1) := by decide +kernel
theorem dX6_putWeights_41 : decode cX6_putWeights 41 = .ok (.laload, 1) := by decide +kernel
theorem dX6_putWeights_42 : decode cX6_putWeights 42 = .ok (.invokevirtual 233, 3) := by decide +kernel
theorem dX6_putWeights_45 : decode cX6_putWeights 45 = .ok (.iinc 5 1, 3) := by decide +kernel
theorem dX6_putWeights_48 : decode cX6_putWeights 48 = .ok (.goto (-32), 3) := by decide +kernel
theorem dX6_putWeights_51 : decode cX6_putWeights 51 = .ok (.return_, 1) := by decide +kernel
theorem dX6_putTruths_0 : decode cX6_putTruths 0 = .ok (.aload_n 0, 1) := by decide +kernel
theorem dX6_putTruths_1 : decode cX6_putTruths 1 = .ok (.iload_n 2, 1) := by decide +kernel
theorem dX6_putTruths_2 : decode cX6_putTruths 2 = .ok (.invokevirtual 148, 3) := by decide +kernel
theorem dX6_putTruths_5 : decode cX6_putTruths 5 = .ok (.aload_n 1, 1) := by decide +kernel
end
section
theorem dX6_putTruths_6 : decode cX6_putTruths 6 = .ok (.iconst 4, 1) := by decide +kernel
theorem dX6_putTruths_7 : decode cX6_putTruths 7 = .ok (.invokevirtual 230, 3) := by decide +kernel
theorem dX6_putTruths_10 : decode cX6_putTruths 10 = .ok (.iconst 0, 1) := by decide +kernel
theorem dX6_putTruths_11 : decode cX6_putTruths 11 = .ok (.istore_n 3, 1) := by decide +kernel
theorem dX6_putTruths_12 : decode cX6_putTruths 12 = .ok (.iload_n 3, 1) := by decide +kernel
theorem dX6_putTruths_13 : decode cX6_putTruths 13 = .ok (.aload_n 0, 1) := by decide +kernel
theorem dX6_putTruths_14 : decode cX6_putTruths 14 = .ok (.getfield 69, 3) := by decide +kernel
theorem dX6_putTruths_17 : decode cX6_putTruths 17 = .ok (.if_icmp .ge 30, 3) := by decide +kernel
theorem dX6_putTruths_20 : decode cX6_putTruths 20 = .ok (.aload_n 1, 1) := by decide +kernel
theorem dX6_putTruths_21 : decode cX6_putTruths 21 = .ok (.aload_n 0, 1) := by decide +kernel
theorem dX6_putTruths_22 : decode cX6_putTruths 22 = .ok (.getfield 27, 3) := by decide +kernel
theorem dX6_putTruths_25 : decode cX6_putTruths 25 = .ok (.getfield 153, 3) := by decide +kernel
theorem dX6_putTruths_28 : decode cX6_putTruths 28 = .ok (.iload_n 3, 1) := by decide +kernel
theorem dX6_putTruths_29 : decode cX6_putTruths 29 = .ok (.baload, 1) := by decide +kernel
theorem dX6_putTruths_30 : decode cX6_putTruths 30 = .ok (.ifCond .eq 7, 3) := by decide +kernel
theorem dX6_putTruths_33 : decode cX6_putTruths 33 = .ok (.lconst 1, 1) := by decide +kernel
theorem dX6_putTruths_34 : decode cX6_putTruths 34 = .ok (.goto 4, 3) := by decide +kernel
theorem dX6_putTruths_37 : decode cX6_putTruths 37 = .ok (.lconst 0, 1) := by decide +kernel
theorem dX6_putTruths_38 : decode cX6_putTruths 38 = .ok (.invokevirtual 233, 3) := by decide +kernel
theorem dX6_putTruths_41 : decode cX6_putTruths 41 = .ok (.iinc 3 1, 3) := by decide +kernel
theorem dX6_putTruths_44 : decode cX6_putTruths 44 = .ok (.goto (-32), 3) := by decide +kernel
theorem dX6_putTruths_47 : decode cX6_putTruths 47 = .ok (.return_, 1) := by decide +kernel
theorem dX6_whyNot_0 : decode cX6_whyNot 0 = .ok (.aload_n 1, 1) := by decide +kernel
theorem dX6_whyNot_1 : decode cX6_whyNot 1 = .ok (.getfield 321, 3) := by decide +kernel
theorem dX6_whyNot_4 : decode cX6_whyNot 4 = .ok (.ifCond .ne 6, 3) := by decide +kernel
theorem dX6_whyNot_7 : decode cX6_whyNot 7 = .ok (.bipush 10, 2) := by decide +kernel
theorem dX6_whyNot_9 : decode cX6_whyNot 9 = .ok (.ireturn, 1) := by decide +kernel
theorem dX6_whyNot_10 : decode cX6_whyNot 10 = .ok (.aload_n 1, 1) := by decide +kernel
theorem dX6_whyNot_11 : decode cX6_whyNot 11 = .ok (.getfield 321, 3) := by decide +kernel
theorem dX6_whyNot_14 : decode cX6_whyNot 14 = .ok (.iload_n 2, 1) := by decide +kernel
theorem dX6_whyNot_15 : decode cX6_whyNot 15 = .ok (.if_icmp .ne 7, 3) := by decide +kernel
theorem dX6_whyNot_18 : decode cX6_whyNot 18 = .ok (.iconst 0, 1) := by decide +kernel
theorem dX6_whyNot_19 : decode cX6_whyNot 19 = .ok (.goto 5, 3) := by decide +kernel
theorem dX6_whyNot_22 : decode cX6_whyNot 22 = .ok (.bipush 11, 2) := by decide +kernel
theorem dX6_whyNot_24 : decode cX6_whyNot 24 = .ok (.ireturn, 1) := by decide +kernel
theorem dX6_pick_0 : decode cX6_pick 0 = .ok (.aload_n 0, 1) := by decide +kernel
theorem dX6_pick_1 : decode cX6_pick 1 = .ok (.aload_n 1, 1) := by decide +kernel
theorem dX6_pick_2 : decode cX6_pick 2 = .ok (.iload_n 2, 1) := by decide +kernel
theorem dX6_pick_3 : decode cX6_pick 3 = .ok (.invokevirtual 324, 3) := by decide +kernel
theorem dX6_pick_6 : decode cX6_pick 6 = .ok (.istore 4, 2) := by decide +kernel
theorem dX6_pick_8 : decode cX6_pick 8 = .ok (.iload 4, 2) := by decide +kernel
theorem dX6_pick_10 : decode cX6_pick 10 = .ok (.ifCond .eq 10, 3) := by decide +kernel
theorem dX6_pick_13 : decode cX6_pick 13 = .ok (.aload_n 0, 1) := by decide +kernel
theorem dX6_pick_14 : decode cX6_pick 14 = .ok (.iload 4, 2) := by decide +kernel
theorem dX6_pick_16 : decode cX6_pick 16 = .ok (.invokevirtual 227, 3) := by decide +kernel
theorem dX6_pick_19 : decode cX6_pick 19 = .ok (.ireturn, 1) := by decide +kernel
theorem dX6_pick_20 : decode cX6_pick 20 = .ok (.iload_n 3, 1) := by decide +kernel
theorem dX6_pick_21 : decode cX6_pick 21 = .ok (.ifCond .lt 11, 3) := by decide +kernel
theorem dX6_pick_24 : decode cX6_pick 24 = .ok (.iload_n 3, 1) := by decide +kernel
theorem dX6_pick_25 : decode cX6_pick 25 = .ok (.aload_n 1, 1) := by decide +kernel
theorem dX6_pick_26 : decode cX6_pick 26 = .ok (.getfield 327, 3) := by decide +kernel
theorem dX6_pick_29 : decode cX6_pick 29 = .ok (.if_icmp .lt 10, 3) := by decide +kernel
theorem dX6_pick_32 : decode cX6_pick 32 = .ok (.aload_n 0, 1) := by decide +kernel
theorem dX6_pick_33 : decode cX6_pick 33 = .ok (.bipush 12, 2) := by decide +kernel
theorem dX6_pick_35 : decode cX6_pick 35 = .ok (.invokevirtual 227, 3) := by decide +kernel
theorem dX6_pick_38 : decode cX6_pick 38 = .ok (.ireturn, 1) := by decide +kernel
theorem dX6_pick_39 : decode cX6_pick 39 = .ok (.aload_n 0, 1) := by decide +kernel
theorem dX6_pick_40 : decode cX6_pick 40 = .ok (.aload_n 1, 1) := by decide +kernel
theorem dX6_pick_41 : decode cX6_pick 41 = .ok (.getfield 328, 3) := by decide +kernel
theorem dX6_pick_44 : decode cX6_pick 44 = .ok (.iload_n 3, 1) := by decide +kernel
theorem dX6_pick_45 : decode cX6_pick 45 = .ok (.laload, 1) := by decide +kernel
theorem dX6_pick_46 : decode cX6_pick 46 = .ok (.l2i, 1) := by decide +kernel
theorem dX6_pick_47 : decode cX6_pick 47 = .ok (.invokevirtual 256, 3) := by decide +kernel
theorem dX6_pick_50 : decode cX6_pick 50 = .ok (.ireturn, 1) := by decide +kernel
theorem dX6_countLike_0 : decode cX6_countLike 0 = .ok (.aload_n 0, 1) := by decide +kernel
theorem dX6_countLike_1 : decode cX6_countLike 1 = .ok (.aload_n 1, 1) := by decide +kernel
theorem dX6_countLike_2 : decode cX6_countLike 2 = .ok (.iconst 3, 1) := by decide +kernel
theorem dX6_countLike_3 : decode cX6_countLike 3 = .ok (.invokevirtual 324, 3) := by decide +kernel
theorem dX6_countLike_6 : decode cX6_countLike 6 = .ok (.istore_n 3, 1) := by decide +kernel
theorem dX6_countLike_7 : decode cX6_countLike 7 = .ok (.iload_n 3, 1) := by decide +kernel
theorem dX6_countLike_8 : decode cX6_countLike 8 = .ok (.ifCond .eq 9, 3) := by decide +kernel
theorem dX6_countLike_11 : decode cX6_countLike 11 = .ok (.aload_n 0, 1) := by decide +kernel
theorem dX6_countLike_12 : decode cX6_countLike 12 = .ok (.iload_n 3, 1) := by decide +kernel
theorem dX6_countLike_13 : decode cX6_countLike 13 = .ok (.invokevirtual 227, 3) := by decide +kernel
theorem dX6_countLike_16 : decode cX6_countLike 16 = .ok (.ireturn, 1) := by decide +kernel
theorem dX6_countLike_17 : decode cX6_countLike 17 = .ok (.iconst 0, 1) := by decide +kernel
theorem dX6_countLike_18 : decode cX6_countLike 18 = .ok (.istore 4, 2) := by decide +kernel
theorem dX6_countLike_20 : decode cX6_countLike 20 = .ok (.iconst 0, 1) := by decide +kernel
theorem dX6_countLike_21 : decode cX6_countLike 21 = .ok (.istore 5, 2) := by decide +kernel
theorem dX6_countLike_23 : decode cX6_countLike 23 = .ok (.iload 5, 2) := by decide +kernel
theorem dX6_countLike_25 : decode cX6_countLike 25 = .ok (.aload_n 1, 1) := by decide +kernel
theorem dX6_countLike_26 : decode cX6_countLike 26 = .ok (.getfield 327, 3) := by decide +kernel
theorem dX6_countLike_29 : decode cX6_countLike 29 = .ok (.if_icmp .ge 25, 3) := by decide +kernel
theorem dX6_countLike_32 : decode cX6_countLike 32 = .ok (.aload_n 1, 1) := by decide +kernel
theorem dX6_countLike_33 : decode cX6_countLike 33 = .ok (.getfield 328, 3) := by decide +kernel
theorem dX6_countLike_36 : decode cX6_countLike 36 = .ok (.iload 5, 2) := by decide +kernel
theorem dX6_countLike_38 : decode cX6_countLike 38 = .ok (.laload, 1) := by decide +kernel
theorem dX6_countLike_39 : decode cX6_countLike 39 = .ok (.iload_n 2, 1) := by decide +kernel
theorem dX6_countLike_40 : decode cX6_countLike 40 = .ok (.i2l, 1) := by decide +kernel
theorem dX6_countLike_41 : decode cX6_countLike 41 = .ok (.lcmp, 1) := by decide +kernel
theorem dX6_countLike_42 : decode cX6_countLike 42 = .ok (.ifCond .ne 6, 3) := by decide +kernel
theorem dX6_countLike_45 : decode cX6_countLike 45 = .ok (.iinc 4 1, 3) := by decide +kernel
theorem dX6_countLike_48 : decode cX6_countLike 48 = .ok (.iinc 5 1, 3) := by decide +kernel
theorem dX6_countLike_51 : decode cX6_countLike 51 = .ok (.goto (-28), 3) := by decide +kernel
theorem dX6_countLike_54 : decode cX6_countLike 54 = .ok (.aload_n 0, 1) := by decide +kernel
theorem dX6_countLike_55 : decode cX6_countLike 55 = .ok (.iload 4, 2) := by decide +kernel
theorem dX6_countLike_57 : decode cX6_countLike 57 = .ok (.invokevirtual 256, 3) := by decide +kernel
theorem dX6_countLike_60 : decode cX6_countLike 60 = .ok (.ireturn, 1) := by decide +kernel
theorem dX6_sumOfCopy_0 : decode cX6_sumOfCopy 0 = .ok (.aload_n 0, 1) := by decide +kernel
theorem dX6_sumOfCopy_1 : decode cX6_sumOfCopy 1 = .ok (.aload_n 1, 1) := by decide +kernel
theorem dX6_sumOfCopy_2 : decode cX6_sumOfCopy 2 = .ok (.iconst 2, 1) := by decide +kernel
theorem dX6_sumOfCopy_3 : decode cX6_sumOfCopy 3 = .ok (.invokevirtual 324, 3) := by decide +kernel
theorem dX6_sumOfCopy_6 : decode cX6_sumOfCopy 6 = .ok (.istore_n 3, 1) := by decide +kernel
theorem dX6_sumOfCopy_7 : decode cX6_sumOfCopy 7 = .ok (.iload_n 3, 1) := by decide +kernel
theorem dX6_sumOfCopy_8 : decode cX6_sumOfCopy 8 = .ok (.ifCond .eq 9, 3) := by decide +kernel
theorem dX6_sumOfCopy_11 : decode cX6_sumOfCopy 11 = .ok (.aload_n 0, 1) := by decide +kernel
theorem dX6_sumOfCopy_12 : decode cX6_sumOfCopy 12 = .ok (.iload_n 3, 1) := by decide +kernel
theorem dX6_sumOfCopy_13 : decode cX6_sumOfCopy 13 = .ok (.invokevirtual 227, 3) := by decide +kernel
theorem dX6_sumOfCopy_16 : decode cX6_sumOfCopy 16 = .ok (.ireturn, 1) := by decide +kernel
theorem dX6_sumOfCopy_17 : decode cX6_sumOfCopy 17 = .ok (.iload_n 2, 1) := by decide +kernel
theorem dX6_sumOfCopy_18 : decode cX6_sumOfCopy 18 = .ok (.ifCond .lt 19, 3) := by decide +kernel
theorem dX6_sumOfCopy_21 : decode cX6_sumOfCopy 21 = .ok (.iload_n 2, 1) := by decide +kernel
theorem dX6_sumOfCopy_22 : decode cX6_sumOfCopy 22 = .ok (.aload_n 1, 1) := by decide +kernel
theorem dX6_sumOfCopy_23 : decode cX6_sumOfCopy 23 = .ok (.getfield 327, 3) := by decide +kernel
theorem dX6_sumOfCopy_26 : decode cX6_sumOfCopy 26 = .ok (.if_icmp .gt 11, 3) := by decide +kernel
theorem dX6_sumOfCopy_29 : decode cX6_sumOfCopy 29 = .ok (.iload_n 2, 1) := by decide +kernel
theorem dX6_sumOfCopy_30 : decode cX6_sumOfCopy 30 = .ok (.iload_n 2, 1) := by decide +kernel
theorem dX6_sumOfCopy_31 : decode cX6_sumOfCopy 31 = .ok (.iadd, 1) := by decide +kernel
theorem dX6_sumOfCopy_32 : decode cX6_sumOfCopy 32 = .ok (.bipush 8, 2) := by decide +kernel
theorem dX6_sumOfCopy_34 : decode cX6_sumOfCopy 34 = .ok (.if_icmp .le 10, 3) := by decide +kernel
theorem dX6_sumOfCopy_37 : decode cX6_sumOfCopy 37 = .ok (.aload_n 0, 1) := by decide +kernel
theorem dX6_sumOfCopy_38 : decode cX6_sumOfCopy 38 = .ok (.bipush 12, 2) := by decide +kernel
theorem dX6_sumOfCopy_40 : decode cX6_sumOfCopy 40 = .ok (.invokevirtual 227, 3) := by decide +kernel
theorem dX6_sumOfCopy_43 : decode cX6_sumOfCopy 43 = .ok (.ireturn, 1) := by decide +kernel
theorem dX6_sumOfCopy_44 : decode cX6_sumOfCopy 44 = .ok (.iconst 0, 1) := by decide +kernel
theorem dX6_sumOfCopy_45 : decode cX6_sumOfCopy 45 = .ok (.istore 4, 2) := by decide +kernel
theorem dX6_sumOfCopy_47 : decode cX6_sumOfCopy 47 = .ok (.iconst 0, 1) := by decide +kernel
theorem dX6_sumOfCopy_48 : decode cX6_sumOfCopy 48 = .ok (.istore 5, 2) := by decide +kernel
theorem dX6_sumOfCopy_50 : decode cX6_sumOfCopy 50 = .ok (.iload 5, 2) := by decide +kernel
theorem dX6_sumOfCopy_52 : decode cX6_sumOfCopy 52 = .ok (.iload_n 2, 1) := by decide +kernel
theorem dX6_sumOfCopy_53 : decode cX6_sumOfCopy 53 = .ok (.if_icmp .ge 22, 3) := by decide +kernel
theorem dX6_sumOfCopy_56 : decode cX6_sumOfCopy 56 = .ok (.iload 4, 2) := by decide +kernel
theorem dX6_sumOfCopy_58 : decode cX6_sumOfCopy 58 = .ok (.aload_n 1, 1) := by decide +kernel
theorem dX6_sumOfCopy_59 : decode cX6_sumOfCopy 59 = .ok (.getfield 328, 3) := by decide +kernel
theorem dX6_sumOfCopy_62 : decode cX6_sumOfCopy 62 = .ok (.iload 5, 2) := by decide +kernel
theorem dX6_sumOfCopy_64 : decode cX6_sumOfCopy 64 = .ok (.laload, 1) := by decide +kernel
theorem dX6_sumOfCopy_65 : decode cX6_sumOfCopy 65 = .ok (.l2i, 1) := by decide +kernel
theorem dX6_sumOfCopy_66 : decode cX6_sumOfCopy 66 = .ok (.iadd, 1) := by decide +kernel
theorem dX6_sumOfCopy_67 : decode cX6_sumOfCopy 67 = .ok (.istore 4, 2) := by decide +kernel
theorem dX6_sumOfCopy_69 : decode cX6_sumOfCopy 69 = .ok (.iinc 5 1, 3) := by decide +kernel
theorem dX6_sumOfCopy_72 : decode cX6_sumOfCopy 72 = .ok (.goto (-22), 3) := by decide +kernel
theorem dX6_sumOfCopy_75 : decode cX6_sumOfCopy 75 = .ok (.aload_n 0, 1) := by decide +kernel
theorem dX6_sumOfCopy_76 : decode cX6_sumOfCopy 76 = .ok (.iload 4, 2) := by decide +kernel
theorem dX6_sumOfCopy_78 : decode cX6_sumOfCopy 78 = .ok (.invokevirtual 256, 3) := by decide +kernel
theorem dX6_sumOfCopy_81 : decode cX6_sumOfCopy 81 = .ok (.ireturn, 1) := by decide +kernel
theorem dX6_layIntoRows_0 : decode cX6_layIntoRows 0 = .ok (.aload_n 1, 1) := by decide +kernel
theorem dX6_layIntoRows_1 : decode cX6_layIntoRows 1 = .ok (.getfield 321, 3) := by decide +kernel
theorem dX6_layIntoRows_4 : decode cX6_layIntoRows 4 = .ok (.ifCond .ne 9, 3) := by decide +kernel
theorem dX6_layIntoRows_7 : decode cX6_layIntoRows 7 = .ok (.aload_n 0, 1) := by decide +kernel
theorem dX6_layIntoRows_8 : decode cX6_layIntoRows 8 = .ok (.iconst 0, 1) := by decide +kernel
theorem dX6_layIntoRows_9 : decode cX6_layIntoRows 9 = .ok (.invokevirtual 256, 3) := by decide +kernel
theorem dX6_layIntoRows_12 : decode cX6_layIntoRows 12 = .ok (.ireturn, 1) := by decide +kernel
theorem dX6_layIntoRows_13 : decode cX6_layIntoRows 13 = .ok (.aload_n 1, 1) := by decide +kernel
theorem dX6_layIntoRows_14 : decode cX6_layIntoRows 14 = .ok (.getfield 321, 3) := by decide +kernel
theorem dX6_layIntoRows_17 : decode cX6_layIntoRows 17 = .ok (.iconst 3, 1) := by decide +kernel
theorem dX6_layIntoRows_18 : decode cX6_layIntoRows 18 = .ok (.if_icmp .ne 14, 3) := by decide +kernel
theorem dX6_layIntoRows_21 : decode cX6_layIntoRows 21 = .ok (.aload_n 0, 1) := by decide +kernel
theorem dX6_layIntoRows_22 : decode cX6_layIntoRows 22 = .ok (.aload_n 1, 1) := by decide +kernel
theorem dX6_layIntoRows_23 : decode cX6_layIntoRows 23 = .ok (.getfield 327, 3) := by decide +kernel
theorem dX6_layIntoRows_26 : decode cX6_layIntoRows 26 = .ok (.invokevirtual 256, 3) := by decide +kernel
theorem dX6_layIntoRows_29 : decode cX6_layIntoRows 29 = .ok (.goto 9, 3) := by decide +kernel
theorem dX6_layIntoRows_32 : decode cX6_layIntoRows 32 = .ok (.aload_n 0, 1) := by decide +kernel
theorem dX6_layIntoRows_33 : decode cX6_layIntoRows 33 = .ok (.bipush 14, 2) := by decide +kernel
theorem dX6_layIntoRows_35 : decode cX6_layIntoRows 35 = .ok (.invokevirtual 227, 3) := by decide +kernel
theorem dX6_layIntoRows_38 : decode cX6_layIntoRows 38 = .ok (.ireturn, 1) := by decide +kernel
theorem dX7_init_0 : decode cX7_init 0 = .ok (.aload_n 0, 1) := by decide +kernel
theorem dX7_init_1 : decode cX7_init 1 = .ok (.invokespecial 1, 3) := by decide +kernel
theorem dX7_init_4 : decode cX7_init 4 = .ok (.aload_n 0, 1) := by decide +kernel
theorem dX7_init_5 : decode cX7_init 5 = .ok (.bipush 100, 2) := by decide +kernel
theorem dX7_init_7 : decode cX7_init 7 = .ok (.newarray .long, 2) := by decide +kernel
theorem dX7_init_9 : decode cX7_init 9 = .ok (.putfield 7, 3) := by decide +kernel
theorem dX7_init_12 : decode cX7_init 12 = .ok (.aload_n 0, 1) := by decide +kernel
theorem dX7_init_13 : decode cX7_init 13 = .ok (.bipush 100, 2) := by decide +kernel
theorem dX7_init_15 : decode cX7_init 15 = .ok (.newarray .int, 2) := by decide +kernel
theorem dX7_init_17 : decode cX7_init 17 = .ok (.putfield 13, 3) := by decide +kernel
theorem dX7_init_20 : decode cX7_init 20 = .ok (.aload_n 0, 1) := by decide +kernel
theorem dX7_init_21 : decode cX7_init 21 = .ok (.sipush 300, 3) := by decide +kernel
theorem dX7_init_24 : decode cX7_init 24 = .ok (.newarray .int, 2) := by decide +kernel
theorem dX7_init_26 : decode cX7_init 26 = .ok (.putfield 17, 3) := by decide +kernel
theorem dX7_init_29 : decode cX7_init 29 = .ok (.aload_n 0, 1) := by decide +kernel
theorem dX7_init_30 : decode cX7_init 30 = .ok (.sipush 300, 3) := by decide +kernel
theorem dX7_init_33 : decode cX7_init 33 = .ok (.newarray .int, 2) := by decide +kernel
theorem dX7_init_35 : decode cX7_init 35 = .ok (.putfield 20, 3) := by decide +kernel
theorem dX7_init_38 : decode cX7_init 38 = .ok (.aload_n 0, 1) := by decide +kernel
theorem dX7_init_39 : decode cX7_init 39 = .ok (.sipush 300, 3) := by decide +kernel
theorem dX7_init_42 : decode cX7_init 42 = .ok (.newarray .int, 2) := by decide +kernel
theorem dX7_init_44 : decode cX7_init 44 = .ok (.putfield 23, 3) := by decide +kernel
theorem dX7_init_47 : decode cX7_init 47 = .ok (.aload_n 0, 1) := by decide +kernel
theorem dX7_init_48 : decode cX7_init 48 = .ok (.sipush 300, 3) := by decide +kernel
theorem dX7_init_51 : decode cX7_init 51 = .ok (.newarray .int, 2) := by decide +kernel
theorem dX7_init_53 : decode cX7_init 53 = .ok (.putfield 26, 3) := by decide +kernel
theorem dX7_init_56 : decode cX7_init 56 = .ok (.aload_n 0, 1) := by decide +kernel
theorem dX7_init_57 : decode cX7_init 57 = .ok (.sipush 300, 3) := by decide +kernel
theorem dX7_init_60 : decode cX7_init 60 = .ok (.newarray .long, 2) := by decide +kernel
theorem dX7_init_62 : decode cX7_init 62 = .ok (.putfield 29, 3) := by decide +kernel
theorem dX7_init_65 : decode cX7_init 65 = .ok (.aload_n 0, 1) := by decide +kernel
theorem dX7_init_66 : decode cX7_init 66 = .ok (.sipush 2100, 3) := by decide +kernel
theorem dX7_init_69 : decode cX7_init 69 = .ok (.newarray .long, 2) := by decide +kernel
theorem dX7_init_71 : decode cX7_init 71 = .ok (.putfield 32, 3) := by decide +kernel
theorem dX7_init_74 : decode cX7_init 74 = .ok (.aload_n 0, 1) := by decide +kernel
theorem dX7_init_75 : decode cX7_init 75 = .ok (.sipush 2100, 3) := by decide +kernel
theorem dX7_init_78 : decode cX7_init 78 = .ok (.newarray .int, 2) := by decide +kernel
theorem dX7_init_80 : decode cX7_init 80 = .ok (.putfield 35, 3) := by decide +kernel
theorem dX7_init_83 : decode cX7_init 83 = .ok (.aload_n 0, 1) := by decide +kernel
theorem dX7_init_84 : decode cX7_init 84 = .ok (.sipush 6300, 3) := by decide +kernel
theorem dX7_init_87 : decode cX7_init 87 = .ok (.newarray .int, 2) := by decide +kernel
theorem dX7_init_89 : decode cX7_init 89 = .ok (.putfield 38, 3) := by decide +kernel
theorem dX7_init_92 : decode cX7_init 92 = .ok (.aload_n 0, 1) := by decide +kernel
theorem dX7_init_93 : decode cX7_init 93 = .ok (.sipush 6300, 3) := by decide +kernel
theorem dX7_init_96 : decode cX7_init 96 = .ok (.newarray .int, 2) := by decide +kernel
theorem dX7_init_98 : decode cX7_init 98 = .ok (.putfield 41, 3) := by decide +kernel
theorem dX7_init_101 : decode cX7_init 101 = .ok (.aload_n 0, 1) := by decide +kernel
theorem dX7_init_102 : decode cX7_init 102 = .ok (.bipush 21, 2) := by decide +kernel
theorem dX7_init_104 : decode cX7_init 104 = .ok (.newarray .int, 2) := by decide +kernel
theorem dX7_init_106 : decode cX7_init 106 = .ok (.putfield 44, 3) := by decide +kernel
theorem dX7_init_109 : decode cX7_init 109 = .ok (.aload_n 0, 1) := by decide +kernel
theorem dX7_init_110 : decode cX7_init 110 = .ok (.bipush 21, 2) := by decide +kernel
theorem dX7_init_112 : decode cX7_init 112 = .ok (.newarray .int, 2) := by decide +kernel
theorem dX7_init_114 : decode cX7_init 114 = .ok (.putfield 47, 3) := by decide +kernel
theorem dX7_init_117 : decode cX7_init 117 = .ok (.aload_n 0, 1) := by decide +kernel
theorem dX7_init_118 : decode cX7_init 118 = .ok (.bipush 21, 2) := by decide +kernel
theorem dX7_init_120 : decode cX7_init 120 = .ok (.newarray .int, 2) := by decide +kernel
theorem dX7_init_122 : decode cX7_init 122 = .ok (.putfield 50, 3) := by decide +kernel
theorem dX7_init_125 : decode cX7_init 125 = .ok (.aload_n 0, 1) := by decide +kernel
theorem dX7_init_126 : decode cX7_init 126 = .ok (.bipush 100, 2) := by decide +kernel
theorem dX7_init_128 : decode cX7_init 128 = .ok (.newarray .boolean, 2) := by decide +kernel
theorem dX7_init_130 : decode cX7_init 130 = .ok (.putfield 53, 3) := by decide +kernel
theorem dX7_init_133 : decode cX7_init 133 = .ok (.aload_n 0, 1) := by decide +kernel
theorem dX7_init_134 : decode cX7_init 134 = .ok (.bipush 100, 2) := by decide +kernel
theorem dX7_init_136 : decode cX7_init 136 = .ok (.newarray .boolean, 2) := by decide +kernel
theorem dX7_init_138 : decode cX7_init 138 = .ok (.putfield 57, 3) := by decide +kernel
theorem dX7_init_141 : decode cX7_init 141 = .ok (.aload_n 0, 1) := by decide +kernel
theorem dX7_init_142 : decode cX7_init 142 = .ok (.bipush 100, 2) := by decide +kernel
theorem dX7_init_144 : decode cX7_init 144 = .ok (.newarray .int, 2) := by decide +kernel
theorem dX7_init_146 : decode cX7_init 146 = .ok (.putfield 60, 3) := by decide +kernel
theorem dX7_init_149 : decode cX7_init 149 = .ok (.aload_n 0, 1) := by decide +kernel
theorem dX7_init_150 : decode cX7_init 150 = .ok (.bipush 100, 2) := by decide +kernel
theorem dX7_init_152 : decode cX7_init 152 = .ok (.newarray .int, 2) := by decide +kernel
theorem dX7_init_154 : decode cX7_init 154 = .ok (.putfield 63, 3) := by decide +kernel
theorem dX7_init_157 : decode cX7_init 157 = .ok (.aload_n 0, 1) := by decide +kernel
theorem dX7_init_158 : decode cX7_init 158 = .ok (.bipush 100, 2) := by decide +kernel
theorem dX7_init_160 : decode cX7_init 160 = .ok (.newarray .int, 2) := by decide +kernel
theorem dX7_init_162 : decode cX7_init 162 = .ok (.putfield 66, 3) := by decide +kernel
theorem dX7_init_165 : decode cX7_init 165 = .ok (.aload_n 0, 1) := by decide +kernel
theorem dX7_init_166 : decode cX7_init 166 = .ok (.bipush 100, 2) := by decide +kernel
theorem dX7_init_168 : decode cX7_init 168 = .ok (.newarray .int, 2) := by decide +kernel
theorem dX7_init_170 : decode cX7_init 170 = .ok (.putfield 69, 3) := by decide +kernel
theorem dX7_init_173 : decode cX7_init 173 = .ok (.aload_n 0, 1) := by decide +kernel
theorem dX7_init_174 : decode cX7_init 174 = .ok (.bipush 6, 2) := by decide +kernel
theorem dX7_init_176 : decode cX7_init 176 = .ok (.newarray .int, 2) := by decide +kernel
theorem dX7_init_178 : decode cX7_init 178 = .ok (.putfield 72, 3) := by decide +kernel
theorem dX7_init_181 : decode cX7_init 181 = .ok (.aload_n 0, 1) := by decide +kernel
theorem dX7_init_182 : decode cX7_init 182 = .ok (.bipush 6, 2) := by decide +kernel
theorem dX7_init_184 : decode cX7_init 184 = .ok (.newarray .int, 2) := by decide +kernel
theorem dX7_init_186 : decode cX7_init 186 = .ok (.putfield 75, 3) := by decide +kernel
theorem dX7_init_189 : decode cX7_init 189 = .ok (.aload_n 0, 1) := by decide +kernel
theorem dX7_init_190 : decode cX7_init 190 = .ok (.sipush 600, 3) := by decide +kernel
theorem dX7_init_193 : decode cX7_init 193 = .ok (.newarray .int, 2) := by decide +kernel
theorem dX7_init_195 : decode cX7_init 195 = .ok (.putfield 78, 3) := by decide +kernel
theorem dX7_init_198 : decode cX7_init 198 = .ok (.aload_n 0, 1) := by decide +kernel
theorem dX7_init_199 : decode cX7_init 199 = .ok (.sipush 600, 3) := by decide +kernel
theorem dX7_init_202 : decode cX7_init 202 = .ok (.newarray .long, 2) := by decide +kernel
theorem dX7_init_204 : decode cX7_init 204 = .ok (.putfield 81, 3) := by decide +kernel
theorem dX7_init_207 : decode cX7_init 207 = .ok (.return_, 1) := by decide +kernel
theorem dX7_isKnot_0 : decode cX7_isKnot 0 = .ok (.iload_n 1, 1) := by decide +kernel
theorem dX7_isKnot_1 : decode cX7_isKnot 1 = .ok (.ifCond .lt 15, 3) := by decide +kernel
theorem dX7_isKnot_4 : decode cX7_isKnot 4 = .ok (.iload_n 1, 1) := by decide +kernel
theorem dX7_isKnot_5 : decode cX7_isKnot 5 = .ok (.aload_n 0, 1) := by decide +kernel
theorem dX7_isKnot_6 : decode cX7_isKnot 6 = .ok (.getfield 84, 3) := by decide +kernel
theorem dX7_isKnot_9 : decode cX7_isKnot 9 = .ok (.if_icmp .ge 7, 3) := by decide +kernel
theorem dX7_isKnot_12 : decode cX7_isKnot 12 = .ok (.iconst 1, 1) := by decide +kernel
theorem dX7_isKnot_13 : decode cX7_isKnot 13 = .ok (.goto 4, 3) := by decide +kernel
theorem dX7_isKnot_16 : decode cX7_isKnot 16 = .ok (.iconst 0, 1) := by decide +kernel
theorem dX7_isKnot_17 : decode cX7_isKnot 17 = .ok (.ireturn, 1) := by decide +kernel
theorem dX7_isThere_0 : decode cX7_isThere 0 = .ok (.iload_n 1, 1) := by decide +kernel
theorem dX7_isThere_1 : decode cX7_isThere 1 = .ok (.ifCond .lt 24, 3) := by decide +kernel
theorem dX7_isThere_4 : decode cX7_isThere 4 = .ok (.iload_n 1, 1) := by decide +kernel
theorem dX7_isThere_5 : decode cX7_isThere 5 = .ok (.aload_n 0, 1) := by decide +kernel
theorem dX7_isThere_6 : decode cX7_isThere 6 = .ok (.getfield 88, 3) := by decide +kernel
theorem dX7_isThere_9 : decode cX7_isThere 9 = .ok (.if_icmp .ge 16, 3) := by decide +kernel
theorem dX7_isThere_12 : decode cX7_isThere 12 = .ok (.aload_n 0, 1) := by decide +kernel
theorem dX7_isThere_13 : decode cX7_isThere 13 = .ok (.getfield 23, 3) := by decide +kernel
theorem dX7_isThere_16 : decode cX7_isThere 16 = .ok (.iload_n 1, 1) := by decide +kernel
theorem dX7_isThere_17 : decode cX7_isThere 17 = .ok (.iaload, 1) := by decide +kernel
theorem dX7_isThere_18 : decode cX7_isThere 18 = .ok (.ifCond .eq 7, 3) := by decide +kernel
theorem dX7_isThere_21 : decode cX7_isThere 21 = .ok (.iconst 1, 1) := by decide +kernel
theorem dX7_isThere_22 : decode cX7_isThere 22 = .ok (.goto 4, 3) := by decide +kernel
theorem dX7_isThere_25 : decode cX7_isThere 25 = .ok (.iconst 0, 1) := by decide +kernel
theorem dX7_isThere_26 : decode cX7_isThere 26 = .ok (.ireturn, 1) := by decide +kernel
theorem dX7_keep_0 : decode cX7_keep 0 = .ok (.iconst 0, 1) := by decide +kernel
theorem dX7_keep_1 : decode cX7_keep 1 = .ok (.istore_n 2, 1) := by decide +kernel
theorem dX7_keep_2 : decode cX7_keep 2 = .ok (.iload_n 2, 1) := by decide +kernel
theorem dX7_keep_3 : decode cX7_keep 3 = .ok (.aload_n 0, 1) := by decide +kernel
theorem dX7_keep_4 : decode cX7_keep 4 = .ok (.getfield 84, 3) := by decide +kernel
theorem dX7_keep_7 : decode cX7_keep 7 = .ok (.if_icmp .ge 43, 3) := by decide +kernel
theorem dX7_keep_10 : decode cX7_keep 10 = .ok (.aload_n 0, 1) := by decide +kernel
theorem dX7_keep_11 : decode cX7_keep 11 = .ok (.getfield 32, 3) := by decide +kernel
theorem dX7_keep_14 : decode cX7_keep 14 = .ok (.bipush 100, 2) := by decide +kernel
theorem dX7_keep_16 : decode cX7_keep 16 = .ok (.iload_n 1, 1) := by decide +kernel
theorem dX7_keep_17 : decode cX7_keep 17 = .ok (.imul, 1) := by decide +kernel
theorem dX7_keep_18 : decode cX7_keep 18 = .ok (.iload_n 2, 1) := by decide +kernel
theorem dX7_keep_19 : decode cX7_keep 19 = .ok (.iadd, 1) := by decide +kernel
theorem dX7_keep_20 : decode cX7_keep 20 = .ok (.aload_n 0, 1) := by decide +kernel
theorem dX7_keep_21 : decode cX7_keep 21 = .ok (.getfield 7, 3) := by decide +kernel
theorem dX7_keep_24 : decode cX7_keep 24 = .ok (.iload_n 2, 1) := by decide +kernel
theorem dX7_keep_25 : decode cX7_keep 25 = .ok (.laload, 1) := by decide +kernel
theorem dX7_keep_26 : decode cX7_keep 26 = .ok (.lastore, 1) := by decide +kernel
theorem dX7_keep_27 : decode cX7_keep 27 = .ok (.aload_n 0, 1) := by decide +kernel
theorem dX7_keep_28 : decode cX7_keep 28 = .ok (.getfield 35, 3) := by decide +kernel
theorem dX7_keep_31 : decode cX7_keep 31 = .ok (.bipush 100, 2) := by decide +kernel
theorem dX7_keep_33 : decode cX7_keep 33 = .ok (.iload_n 1, 1) := by decide +kernel
theorem dX7_keep_34 : decode cX7_keep 34 = .ok (.imul, 1) := by decide +kernel
theorem dX7_keep_35 : decode cX7_keep 35 = .ok (.iload_n 2, 1) := by decide +kernel
theorem dX7_keep_36 : decode cX7_keep 36 = .ok (.iadd, 1) := by decide +kernel
theorem dX7_keep_37 : decode cX7_keep 37 = .ok (.aload_n 0, 1) := by decide +kernel
theorem dX7_keep_38 : decode cX7_keep 38 = .ok (.getfield 13, 3) := by decide +kernel
theorem dX7_keep_41 : decode cX7_keep 41 = .ok (.iload_n 2, 1) := by decide +kernel
theorem dX7_keep_42 : decode cX7_keep 42 = .ok (.iaload, 1) := by decide +kernel
theorem dX7_keep_43 : decode cX7_keep 43 = .ok (.iastore, 1) := by decide +kernel
theorem dX7_keep_44 : decode cX7_keep 44 = .ok (.iinc 2 1, 3) := by decide +kernel
theorem dX7_keep_47 : decode cX7_keep 47 = .ok (.goto (-45), 3) := by decide +kernel
theorem dX7_keep_50 : decode cX7_keep 50 = .ok (.iconst 0, 1) := by decide +kernel
theorem dX7_keep_51 : decode cX7_keep 51 = .ok (.istore_n 2, 1) := by decide +kernel
theorem dX7_keep_52 : decode cX7_keep 52 = .ok (.iload_n 2, 1) := by decide +kernel
theorem dX7_keep_53 : decode cX7_keep 53 = .ok (.aload_n 0, 1) := by decide +kernel
theorem dX7_keep_54 : decode cX7_keep 54 = .ok (.getfield 88, 3) := by decide +kernel
theorem dX7_keep_57 : decode cX7_keep 57 = .ok (.if_icmp .ge 45, 3) := by decide +kernel
theorem dX7_keep_60 : decode cX7_keep 60 = .ok (.aload_n 0, 1) := by decide +kernel
theorem dX7_keep_61 : decode cX7_keep 61 = .ok (.getfield 38, 3) := by decide +kernel
theorem dX7_keep_64 : decode cX7_keep 64 = .ok (.sipush 300, 3) := by decide +kernel
theorem dX7_keep_67 : decode cX7_keep 67 = .ok (.iload_n 1, 1) := by decide +kernel
theorem dX7_keep_68 : decode cX7_keep 68 = .ok (.imul, 1) := by decide +kernel
theorem dX7_keep_69 : decode cX7_keep 69 = .ok (.iload_n 2, 1) := by decide +kernel
theorem dX7_keep_70 : decode cX7_keep 70 = .ok (.iadd, 1) := by decide +kernel
theorem dX7_keep_71 : decode cX7_keep 71 = .ok (.aload_n 0, 1) := by decide +kernel
theorem dX7_keep_72 : decode cX7_keep 72 = .ok (.getfield 23, 3) := by decide +kernel
theorem dX7_keep_75 : decode cX7_keep 75 = .ok (.iload_n 2, 1) := by decide +kernel
theorem dX7_keep_76 : decode cX7_keep 76 = .ok (.iaload, 1) := by decide +kernel
theorem dX7_keep_77 : decode cX7_keep 77 = .ok (.iastore, 1) := by decide +kernel
theorem dX7_keep_78 : decode cX7_keep 78 = .ok (.aload_n 0, 1) := by decide +kernel
theorem dX7_keep_79 : decode cX7_keep 79 = .ok (.getfield 41, 3) := by decide +kernel
theorem dX7_keep_82 : decode cX7_keep 82 = .ok (.sipush 300, 3) := by decide +kernel
theorem dX7_keep_85 : decode cX7_keep 85 = .ok (.iload_n 1, 1) := by decide +kernel
theorem dX7_keep_86 : decode cX7_keep 86 = .ok (.imul, 1) := by decide +kernel
theorem dX7_keep_87 : decode cX7_keep 87 = .ok (.iload_n 2, 1) := by decide +kernel
theorem dX7_keep_88 : decode cX7_keep 88 = .ok (.iadd, 1) := by decide +kernel
theorem dX7_keep_89 : decode cX7_keep 89 = .ok (.aload_n 0, 1) := by decide +kernel
theorem dX7_keep_90 : decode cX7_keep 90 = .ok (.getfield 26, 3) := by decide +kernel
theorem dX7_keep_93 : decode cX7_keep 93 = .ok (.iload_n 2, 1) := by decide +kernel
theorem dX7_keep_94 : decode cX7_keep 94 = .ok (.iaload, 1) := by decide +kernel
theorem dX7_keep_95 : decode cX7_keep 95 = .ok (.iastore, 1) := by decide +kernel
theorem dX7_keep_96 : decode cX7_keep 96 = .ok (.iinc 2 1, 3) := by decide +kernel
theorem dX7_keep_99 : decode cX7_keep 99 = .ok (.goto (-47), 3) := by decide +kernel
theorem dX7_keep_102 : decode cX7_keep 102 = .ok (.aload_n 0, 1) := by decide +kernel
theorem dX7_keep_103 : decode cX7_keep 103 = .ok (.getfield 44, 3) := by decide +kernel
theorem dX7_keep_106 : decode cX7_keep 106 = .ok (.iload_n 1, 1) := by decide +kernel
theorem dX7_keep_107 : decode cX7_keep 107 = .ok (.aload_n 0, 1) := by decide +kernel
theorem dX7_keep_108 : decode cX7_keep 108 = .ok (.getfield 88, 3) := by decide +kernel
theorem dX7_keep_111 : decode cX7_keep 111 = .ok (.iastore, 1) := by decide +kernel
theorem dX7_keep_112 : decode cX7_keep 112 = .ok (.aload_n 0, 1) := by decide +kernel
theorem dX7_keep_113 : decode cX7_keep 113 = .ok (.getfield 47, 3) := by decide +kernel
theorem dX7_keep_116 : decode cX7_keep 116 = .ok (.iload_n 1, 1) := by decide +kernel
theorem dX7_keep_117 : decode cX7_keep 117 = .ok (.aload_n 0, 1) := by decide +kernel
theorem dX7_keep_118 : decode cX7_keep 118 = .ok (.getfield 91, 3) := by decide +kernel
theorem dX7_keep_121 : decode cX7_keep 121 = .ok (.iastore, 1) := by decide +kernel
theorem dX7_keep_122 : decode cX7_keep 122 = .ok (.aload_n 0, 1) := by decide +kernel
theorem dX7_keep_123 : decode cX7_keep 123 = .ok (.getfield 50, 3) := by decide +kernel
theorem dX7_keep_126 : decode cX7_keep 126 = .ok (.iload_n 1, 1) := by decide +kernel
theorem dX7_keep_127 : decode cX7_keep 127 = .ok (.aload_n 0, 1) := by decide +kernel
theorem dX7_keep_128 : decode cX7_keep 128 = .ok (.getfield 94, 3) := by decide +kernel
theorem dX7_keep_131 : decode cX7_keep 131 = .ok (.iastore, 1) := by decide +kernel
theorem dX7_keep_132 : decode cX7_keep 132 = .ok (.return_, 1) := by decide +kernel
theorem dX7_back_0 : decode cX7_back 0 = .ok (.iconst 0, 1) := by decide +kernel
theorem dX7_back_1 : decode cX7_back 1 = .ok (.istore_n 2, 1) := by decide +kernel
theorem dX7_back_2 : decode cX7_back 2 = .ok (.iload_n 2, 1) := by decide +kernel
theorem dX7_back_3 : decode cX7_back 3 = .ok (.aload_n 0, 1) := by decide +kernel
theorem dX7_back_4 : decode cX7_back 4 = .ok (.getfield 84, 3) := by decide +kernel
theorem dX7_back_7 : decode cX7_back 7 = .ok (.if_icmp .ge 43, 3) := by decide +kernel
theorem dX7_back_10 : decode cX7_back 10 = .ok (.aload_n 0, 1) := by decide +kernel
theorem dX7_back_11 : decode cX7_back 11 = .ok (.getfield 7, 3) := by decide +kernel
theorem dX7_back_14 : decode cX7_back 14 = .ok (.iload_n 2, 1) := by decide +kernel
theorem dX7_back_15 : decode cX7_back 15 = .ok (.aload_n 0, 1) := by decide +kernel
theorem dX7_back_16 : decode cX7_back 16 = .ok (.getfield 32, 3) := by decide +kernel
theorem dX7_back_19 : decode cX7_back 19 = .ok (.bipush 100, 2) := by decide +kernel
theorem dX7_back_21 : decode cX7_back 21 = .ok (.iload_n 1, 1) := by decide +kernel
theorem dX7_back_22 : decode cX7_back 22 = .ok (.imul, 1) := by decide +kernel
theorem dX7_back_23 : decode cX7_back 23 = .ok (.iload_n 2, 1) := by decide +kernel
theorem dX7_back_24 : decode cX7_back 24 = .ok (.iadd, 1) := by decide +kernel
theorem dX7_back_25 : decode cX7_back 25 = .ok (.laload, 1) := by decide +kernel
theorem dX7_back_26 : decode cX7_back 26 = .ok (.lastore, 1) := by decide +kernel
theorem dX7_back_27 : decode cX7_back 27 = .ok (.aload_n 0, 1) := by decide +kernel
theorem dX7_back_28 : decode cX7_back 28 = .ok (.getfield 13, 3) := by decide +kernel
theorem dX7_back_31 : decode cX7_back 31 = .ok (.iload_n 2, 1) := by decide +kernel
theorem dX7_back_32 : decode cX7_back 32 = .ok (.aload_n 0, 1) := by decide +kernel
theorem dX7_back_33 : decode cX7_back 33 = .ok (.getfield 35, 3) := by decide +kernel
theorem dX7_back_36 : decode cX7_back 36 = .ok (.bipush 100, 2) := by decide +kernel
theorem dX7_back_38 : decode cX7_back 38 = .ok (.iload_n 1, 1) := by decide +kernel
theorem dX7_back_39 : decode cX7_back 39 = .ok (.imul, 1) := by decide +kernel
theorem dX7_back_40 : decode cX7_back 40 = .ok (.iload_n 2, 1) := by decide +kernel
theorem dX7_back_41 : decode cX7_back 41 = .ok (.iadd, 1) := by decide +kernel
theorem dX7_back_42 : decode cX7_back 42 = .ok (.iaload, 1) := by decide +kernel
theorem dX7_back_43 : decode cX7_back 43 = .ok (.iastore, 1) := by decide +kernel
theorem dX7_back_44 : decode cX7_back 44 = .ok (.iinc 2 1, 3) := by decide +kernel
theorem dX7_back_47 : decode cX7_back 47 = .ok (.goto (-45), 3) := by decide +kernel
theorem dX7_back_50 : decode cX7_back 50 = .ok (.aload_n 0, 1) := by decide +kernel
theorem dX7_back_51 : decode cX7_back 51 = .ok (.aload_n 0, 1) := by decide +kernel
theorem dX7_back_52 : decode cX7_back 52 = .ok (.getfield 44, 3) := by decide +kernel
theorem dX7_back_55 : decode cX7_back 55 = .ok (.iload_n 1, 1) := by decide +kernel
theorem dX7_back_56 : decode cX7_back 56 = .ok (.iaload, 1) := by decide +kernel
theorem dX7_back_57 : decode cX7_back 57 = .ok (.putfield 88, 3) := by decide +kernel
theorem dX7_back_60 : decode cX7_back 60 = .ok (.iconst 0, 1) := by decide +kernel
theorem dX7_back_61 : decode cX7_back 61 = .ok (.istore_n 2, 1) := by decide +kernel
theorem dX7_back_62 : decode cX7_back 62 = .ok (.iload_n 2, 1) := by decide +kernel
theorem dX7_back_63 : decode cX7_back 63 = .ok (.aload_n 0, 1) := by decide +kernel
theorem dX7_back_64 : decode cX7_back 64 = .ok (.getfield 88, 3) := by decide +kernel
theorem dX7_back_67 : decode cX7_back 67 = .ok (.if_icmp .ge 45, 3) := by decide +kernel
theorem dX7_back_70 : decode cX7_back 70 = .ok (.aload_n 0, 1) := by decide +kernel
theorem dX7_back_71 : decode cX7_back 71 = .ok (.getfield 23, 3) := by decide +kernel
theorem dX7_back_74 : decode cX7_back 74 = .ok (.iload_n 2, 1) := by decide +kernel
theorem dX7_back_75 : decode cX7_back 75 = .ok (.aload_n 0, 1) := by decide +kernel
theorem dX7_back_76 : decode cX7_back 76 = .ok (.getfield 38, 3) := by decide +kernel
theorem dX7_back_79 : decode cX7_back 79 = .ok (.sipush 300, 3) := by decide +kernel
theorem dX7_back_82 : decode cX7_back 82 = .ok (.iload_n 1, 1) := by decide +kernel
theorem dX7_back_83 : decode cX7_back 83 = .ok (.imul, 1) := by decide +kernel
theorem dX7_back_84 : decode cX7_back 84 = .ok (.iload_n 2, 1) := by decide +kernel
theorem dX7_back_85 : decode cX7_back 85 = .ok (.iadd, 1) := by decide +kernel
theorem dX7_back_86 : decode cX7_back 86 = .ok (.iaload, 1) := by decide +kernel
theorem dX7_back_87 : decode cX7_back 87 = .ok (.iastore, 1) := by decide +kernel
theorem dX7_back_88 : decode cX7_back 88 = .ok (.aload_n 0, 1) := by decide +kernel
theorem dX7_back_89 : decode cX7_back 89 = .ok (.getfield 26, 3) := by decide +kernel
theorem dX7_back_92 : decode cX7_back 92 = .ok (.iload_n 2, 1) := by decide +kernel
theorem dX7_back_93 : decode cX7_back 93 = .ok (.aload_n 0, 1) := by decide +kernel
theorem dX7_back_94 : decode cX7_back 94 = .ok (.getfield 41, 3) := by decide +kernel
theorem dX7_back_97 : decode cX7_back 97 = .ok (.sipush 300, 3) := by decide +kernel
theorem dX7_back_100 : decode cX7_back 100 = .ok (.iload_n 1, 1) := by decide +kernel
theorem dX7_back_101 : decode cX7_back 101 = .ok (.imul, 1) := by decide +kernel
theorem dX7_back_102 : decode cX7_back 102 = .ok (.iload_n 2, 1) := by decide +kernel
theorem dX7_back_103 : decode cX7_back 103 = .ok (.iadd, 1) := by decide +kernel
theorem dX7_back_104 : decode cX7_back 104 = .ok (.iaload, 1) := by decide +kernel
theorem dX7_back_105 : decode cX7_back 105 = .ok (.iastore, 1) := by decide +kernel
theorem dX7_back_106 : decode cX7_back 106 = .ok (.iinc 2 1, 3) := by decide +kernel
theorem dX7_back_109 : decode cX7_back 109 = .ok (.goto (-47), 3) := by decide +kernel
theorem dX7_back_112 : decode cX7_back 112 = .ok (.aload_n 0, 1) := by decide +kernel
theorem dX7_back_113 : decode cX7_back 113 = .ok (.aload_n 0, 1) := by decide +kernel
theorem dX7_back_114 : decode cX7_back 114 = .ok (.getfield 47, 3) := by decide +kernel
theorem dX7_back_117 : decode cX7_back 117 = .ok (.iload_n 1, 1) := by decide +kernel
theorem dX7_back_118 : decode cX7_back 118 = .ok (.iaload, 1) := by decide +kernel
theorem dX7_back_119 : decode cX7_back 119 = .ok (.putfield 91, 3) := by decide +kernel
theorem dX7_back_122 : decode cX7_back 122 = .ok (.aload_n 0, 1) := by decide +kernel
theorem dX7_back_123 : decode cX7_back 123 = .ok (.aload_n 0, 1) := by decide +kernel
theorem dX7_back_124 : decode cX7_back 124 = .ok (.getfield 50, 3) := by decide +kernel
theorem dX7_back_127 : decode cX7_back 127 = .ok (.iload_n 1, 1) := by decide +kernel
theorem dX7_back_128 : decode cX7_back 128 = .ok (.iaload, 1) := by decide +kernel
theorem dX7_back_129 : decode cX7_back 129 = .ok (.putfield 94, 3) := by decide +kernel
theorem dX7_back_132 : decode cX7_back 132 = .ok (.return_, 1) := by decide +kernel
theorem dX7_move_0 : decode cX7_move 0 = .ok (.iconst 0, 1) := by decide +kernel
theorem dX7_move_1 : decode cX7_move 1 = .ok (.istore_n 3, 1) := by decide +kernel
theorem dX7_move_2 : decode cX7_move 2 = .ok (.iload_n 3, 1) := by decide +kernel
theorem dX7_move_3 : decode cX7_move 3 = .ok (.bipush 100, 2) := by decide +kernel
theorem dX7_move_5 : decode cX7_move 5 = .ok (.if_icmp .ge 53, 3) := by decide +kernel
theorem dX7_move_8 : decode cX7_move 8 = .ok (.aload_n 0, 1) := by decide +kernel
theorem dX7_move_9 : decode cX7_move 9 = .ok (.getfield 32, 3) := by decide +kernel
theorem dX7_move_12 : decode cX7_move 12 = .ok (.bipush 100, 2) := by decide +kernel
theorem dX7_move_14 : decode cX7_move 14 = .ok (.iload_n 2, 1) := by decide +kernel
theorem dX7_move_15 : decode cX7_move 15 = .ok (.imul, 1) := by decide +kernel
theorem dX7_move_16 : decode cX7_move 16 = .ok (.iload_n 3, 1) := by decide +kernel
theorem dX7_move_17 : decode cX7_move 17 = .ok (.iadd, 1) := by decide +kernel
theorem dX7_move_18 : decode cX7_move 18 = .ok (.aload_n 0, 1) := by decide +kernel
theorem dX7_move_19 : decode cX7_move 19 = .ok (.getfield 32, 3) := by decide +kernel
theorem dX7_move_22 : decode cX7_move 22 = .ok (.bipush 100, 2) := by decide +kernel
theorem dX7_move_24 : decode cX7_move 24 = .ok (.iload_n 1, 1) := by decide +kernel
theorem dX7_move_25 : decode cX7_move 25 = .ok (.imul, 1) := by decide +kernel
theorem dX7_move_26 : decode cX7_move 26 = .ok (.iload_n 3, 1) := by decide +kernel
theorem dX7_move_27 : decode cX7_move 27 = .ok (.iadd, 1) := by decide +kernel
theorem dX7_move_28 : decode cX7_move 28 = .ok (.laload, 1) := by decide +kernel
theorem dX7_move_29 : decode cX7_move 29 = .ok (.lastore, 1) := by decide +kernel
theorem dX7_move_30 : decode cX7_move 30 = .ok (.aload_n 0, 1) := by decide +kernel
theorem dX7_move_31 : decode cX7_move 31 = .ok (.getfield 35, 3) := by decide +kernel
theorem dX7_move_34 : decode cX7_move 34 = .ok (.bipush 100, 2) := by decide +kernel
theorem dX7_move_36 : decode cX7_move 36 = .ok (.iload_n 2, 1) := by decide +kernel
theorem dX7_move_37 : decode cX7_move 37 = .ok (.imul, 1) := by decide +kernel
theorem dX7_move_38 : decode cX7_move 38 = .ok (.iload_n 3, 1) := by decide +kernel
theorem dX7_move_39 : decode cX7_move 39 = .ok (.iadd, 1) := by decide +kernel
theorem dX7_move_40 : decode cX7_move 40 = .ok (.aload_n 0, 1) := by decide +kernel
theorem dX7_move_41 : decode cX7_move 41 = .ok (.getfield 35, 3) := by decide +kernel
theorem dX7_move_44 : decode cX7_move 44 = .ok (.bipush 100, 2) := by decide +kernel
theorem dX7_move_46 : decode cX7_move 46 = .ok (.iload_n 1, 1) := by decide +kernel
theorem dX7_move_47 : decode cX7_move 47 = .ok (.imul, 1) := by decide +kernel
theorem dX7_move_48 : decode cX7_move 48 = .ok (.iload_n 3, 1) := by decide +kernel
theorem dX7_move_49 : decode cX7_move 49 = .ok (.iadd, 1) := by decide +kernel
theorem dX7_move_50 : decode cX7_move 50 = .ok (.iaload, 1) := by decide +kernel
theorem dX7_move_51 : decode cX7_move 51 = .ok (.iastore, 1) := by decide +kernel
theorem dX7_move_52 : decode cX7_move 52 = .ok (.iinc 3 1, 3) := by decide +kernel
theorem dX7_move_55 : decode cX7_move 55 = .ok (.goto (-53), 3) := by decide +kernel
theorem dX7_move_58 : decode cX7_move 58 = .ok (.iconst 0, 1) := by decide +kernel
theorem dX7_move_59 : decode cX7_move 59 = .ok (.istore_n 3, 1) := by decide +kernel
theorem dX7_move_60 : decode cX7_move 60 = .ok (.iload_n 3, 1) := by decide +kernel
theorem dX7_move_61 : decode cX7_move 61 = .ok (.sipush 300, 3) := by decide +kernel
theorem dX7_move_64 : decode cX7_move 64 = .ok (.if_icmp .ge 57, 3) := by decide +kernel
theorem dX7_move_67 : decode cX7_move 67 = .ok (.aload_n 0, 1) := by decide +kernel
theorem dX7_move_68 : decode cX7_move 68 = .ok (.getfield 38, 3) := by decide +kernel
theorem dX7_move_71 : decode cX7_move 71 = .ok (.sipush 300, 3) := by decide +kernel
theorem dX7_move_74 : decode cX7_move 74 = .ok (.iload_n 2, 1) := by decide +kernel
theorem dX7_move_75 : decode cX7_move 75 = .ok (.imul, 1) := by decide +kernel
theorem dX7_move_76 : decode cX7_move 76 = .ok (.iload_n 3, 1) := by decide +kernel
theorem dX7_move_77 : decode cX7_move 77 = .ok (.iadd, 1) := by decide +kernel
theorem dX7_move_78 : decode cX7_move 78 = .ok (.aload_n 0, 1) := by decide +kernel
theorem dX7_move_79 : decode cX7_move 79 = .ok (.getfield 38, 3) := by decide +kernel
theorem dX7_move_82 : decode cX7_move 82 = .ok (.sipush 300, 3) := by decide +kernel
theorem dX7_move_85 : decode cX7_move 85 = .ok (.iload_n 1, 1) := by decide +kernel
theorem dX7_move_86 : decode cX7_move 86 = .ok (.imul, 1) := by decide +kernel
theorem dX7_move_87 : decode cX7_move 87 = .ok (.iload_n 3, 1) := by decide +kernel
theorem dX7_move_88 : decode cX7_move 88 = .ok (.iadd, 1) := by decide +kernel
theorem dX7_move_89 : decode cX7_move 89 = .ok (.iaload, 1) := by decide +kernel
theorem dX7_move_90 : decode cX7_move 90 = .ok (.iastore, 1) := by decide +kernel
theorem dX7_move_91 : decode cX7_move 91 = .ok (.aload_n 0, 1) := by decide +kernel
theorem dX7_move_92 : decode cX7_move 92 = .ok (.getfield 41, 3) := by decide +kernel
theorem dX7_move_95 : decode cX7_move 95 = .ok (.sipush 300, 3) := by decide +kernel
theorem dX7_move_98 : decode cX7_move 98 = .ok (.iload_n 2, 1) := by decide +kernel
theorem dX7_move_99 : decode cX7_move 99 = .ok (.imul, 1) := by decide +kernel
theorem dX7_move_100 : decode cX7_move 100 = .ok (.iload_n 3, 1) := by decide +kernel
theorem dX7_move_101 : decode cX7_move 101 = .ok (.iadd, 1) := by decide +kernel
theorem dX7_move_102 : decode cX7_move 102 = .ok (.aload_n 0, 1) := by decide +kernel
theorem dX7_move_103 : decode cX7_move 103 = .ok (.getfield 41, 3) := by decide +kernel
theorem dX7_move_106 : decode cX7_move 106 = .ok (.sipush 300, 3) := by decide +kernel
theorem dX7_move_109 : decode cX7_move 109 = .ok (.iload_n 1, 1) := by decide +kernel
theorem dX7_move_110 : decode cX7_move 110 = .ok (.imul, 1) := by decide +kernel
theorem dX7_move_111 : decode cX7_move 111 = .ok (.iload_n 3, 1) := by decide +kernel
theorem dX7_move_112 : decode cX7_move 112 = .ok (.iadd, 1) := by decide +kernel
theorem dX7_move_113 : decode cX7_move 113 = .ok (.iaload, 1) := by decide +kernel
theorem dX7_move_114 : decode cX7_move 114 = .ok (.iastore, 1) := by decide +kernel
theorem dX7_move_115 : decode cX7_move 115 = .ok (.iinc 3 1, 3) := by decide +kernel
theorem dX7_move_118 : decode cX7_move 118 = .ok (.goto (-58), 3) := by decide +kernel
theorem dX7_move_121 : decode cX7_move 121 = .ok (.aload_n 0, 1) := by decide +kernel
theorem dX7_move_122 : decode cX7_move 122 = .ok (.getfield 44, 3) := by decide +kernel
theorem dX7_move_125 : decode cX7_move 125 = .ok (.iload_n 2, 1) := by decide +kernel
theorem dX7_move_126 : decode cX7_move 126 = .ok (.aload_n 0, 1) := by decide +kernel
theorem dX7_move_127 : decode cX7_move 127 = .ok (.getfield 44, 3) := by decide +kernel
theorem dX7_move_130 : decode cX7_move 130 = .ok (.iload_n 1, 1) := by decide +kernel
theorem dX7_move_131 : decode cX7_move 131 = .ok (.iaload, 1) := by decide +kernel
theorem dX7_move_132 : decode cX7_move 132 = .ok (.iastore, 1) := by decide +kernel
theorem dX7_move_133 : decode cX7_move 133 = .ok (.aload_n 0, 1) := by decide +kernel
theorem dX7_move_134 : decode cX7_move 134 = .ok (.getfield 47, 3) := by decide +kernel
theorem dX7_move_137 : decode cX7_move 137 = .ok (.iload_n 2, 1) := by decide +kernel
theorem dX7_move_138 : decode cX7_move 138 = .ok (.aload_n 0, 1) := by decide +kernel
theorem dX7_move_139 : decode cX7_move 139 = .ok (.getfield 47, 3) := by decide +kernel
theorem dX7_move_142 : decode cX7_move 142 = .ok (.iload_n 1, 1) := by decide +kernel
theorem dX7_move_143 : decode cX7_move 143 = .ok (.iaload, 1) := by decide +kernel
theorem dX7_move_144 : decode cX7_move 144 = .ok (.iastore, 1) := by decide +kernel
theorem dX7_move_145 : decode cX7_move 145 = .ok (.aload_n 0, 1) := by decide +kernel
theorem dX7_move_146 : decode cX7_move 146 = .ok (.getfield 50, 3) := by decide +kernel
theorem dX7_move_149 : decode cX7_move 149 = .ok (.iload_n 2, 1) := by decide +kernel
theorem dX7_move_150 : decode cX7_move 150 = .ok (.aload_n 0, 1) := by decide +kernel
theorem dX7_move_151 : decode cX7_move 151 = .ok (.getfield 50, 3) := by decide +kernel
theorem dX7_move_154 : decode cX7_move 154 = .ok (.iload_n 1, 1) := by decide +kernel
theorem dX7_move_155 : decode cX7_move 155 = .ok (.iaload, 1) := by decide +kernel
theorem dX7_move_156 : decode cX7_move 156 = .ok (.iastore, 1) := by decide +kernel
theorem dX7_move_157 : decode cX7_move 157 = .ok (.return_, 1) := by decide +kernel
theorem dX7_changes_0 : decode cX7_changes 0 = .ok (.aload_n 0, 1) := by decide +kernel
theorem dX7_changes_1 : decode cX7_changes 1 = .ok (.getfield 97, 3) := by decide +kernel
theorem dX7_changes_4 : decode cX7_changes 4 = .ok (.bipush 20, 2) := by decide +kernel
theorem dX7_changes_6 : decode cX7_changes 6 = .ok (.if_icmp .ne 35, 3) := by decide +kernel
theorem dX7_changes_9 : decode cX7_changes 9 = .ok (.iconst 1, 1) := by decide +kernel
theorem dX7_changes_10 : decode cX7_changes 10 = .ok (.istore_n 1, 1) := by decide +kernel
theorem dX7_changes_11 : decode cX7_changes 11 = .ok (.iload_n 1, 1) := by decide +kernel
theorem dX7_changes_12 : decode cX7_changes 12 = .ok (.bipush 20, 2) := by decide +kernel
theorem dX7_changes_14 : decode cX7_changes 14 = .ok (.if_icmp .ge 17, 3) := by decide +kernel
theorem dX7_changes_17 : decode cX7_changes 17 = .ok (.aload_n 0, 1) := by decide +kernel
theorem dX7_changes_18 : decode cX7_changes 18 = .ok (.iload_n 1, 1) := by decide +kernel
theorem dX7_changes_19 : decode cX7_changes 19 = .ok (.iload_n 1, 1) := by decide +kernel
theorem dX7_changes_20 : decode cX7_changes 20 = .ok (.iconst 1, 1) := by decide +kernel
theorem dX7_changes_21 : decode cX7_changes 21 = .ok (.isub, 1) := by decide +kernel
theorem dX7_changes_22 : decode cX7_changes 22 = .ok (.invokevirtual 100, 3) := by decide +kernel
theorem dX7_changes_25 : decode cX7_changes 25 = .ok (.iinc 1 1, 3) := by decide +kernel
theorem dX7_changes_28 : decode cX7_changes 28 = .ok (.goto (-17), 3) := by decide +kernel
theorem dX7_changes_31 : decode cX7_changes 31 = .ok (.aload_n 0, 1) := by decide +kernel
theorem dX7_changes_32 : decode cX7_changes 32 = .ok (.dup, 1) := by decide +kernel
theorem dX7_changes_33 : decode cX7_changes 33 = .ok (.getfield 97, 3) := by decide +kernel
theorem dX7_changes_36 : decode cX7_changes 36 = .ok (.iconst 1, 1) := by decide +kernel
theorem dX7_changes_37 : decode cX7_changes 37 = .ok (.isub, 1) := by decide +kernel
theorem dX7_changes_38 : decode cX7_changes 38 = .ok (.putfield 97, 3) := by decide +kernel
theorem dX7_changes_41 : decode cX7_changes 41 = .ok (.aload_n 0, 1) := by decide +kernel
theorem dX7_changes_42 : decode cX7_changes 42 = .ok (.aload_n 0, 1) := by decide +kernel
theorem dX7_changes_43 : decode cX7_changes 43 = .ok (.dup, 1) := by decide +kernel
theorem dX7_changes_44 : decode cX7_changes 44 = .ok (.getfield 97, 3) := by decide +kernel
theorem dX7_changes_47 : decode cX7_changes 47 = .ok (.dup_x1, 1) := by decide +kernel
theorem dX7_changes_48 : decode cX7_changes 48 = .ok (.iconst 1, 1) := by decide +kernel
theorem dX7_changes_49 : decode cX7_changes 49 = .ok (.iadd, 1) := by decide +kernel
theorem dX7_changes_50 : decode cX7_changes 50 = .ok (.putfield 97, 3) := by decide +kernel
theorem dX7_changes_53 : decode cX7_changes 53 = .ok (.invokevirtual 104, 3) := by decide +kernel
theorem dX7_changes_56 : decode cX7_changes 56 = .ok (.return_, 1) := by decide +kernel
theorem dX7_undo_0 : decode cX7_undo 0 = .ok (.aload_n 0, 1) := by decide +kernel
theorem dX7_undo_1 : decode cX7_undo 1 = .ok (.getfield 97, 3) := by decide +kernel
theorem dX7_undo_4 : decode cX7_undo 4 = .ok (.ifCond .ne 5, 3) := by decide +kernel
theorem dX7_undo_7 : decode cX7_undo 7 = .ok (.iconst (-1), 1) := by decide +kernel
theorem dX7_undo_8 : decode cX7_undo 8 = .ok (.ireturn, 1) := by decide +kernel
theorem dX7_undo_9 : decode cX7_undo 9 = .ok (.aload_n 0, 1) := by decide +kernel
theorem dX7_undo_10 : decode cX7_undo 10 = .ok (.aload_n 0, 1) := by decide +kernel
theorem dX7_undo_11 : decode cX7_undo 11 = .ok (.dup, 1) := by decide +kernel
theorem dX7_undo_12 : decode cX7_undo 12 = .ok (.getfield 97, 3) := by decide +kernel
theorem dX7_undo_15 : decode cX7_undo 15 = .ok (.iconst 1, 1) := by decide +kernel
theorem dX7_undo_16 : decode cX7_undo 16 = .ok (.isub, 1) := by decide +kernel
theorem dX7_undo_17 : decode cX7_undo 17 = .ok (.dup_x1, 1) := by decide +kernel
theorem dX7_undo_18 : decode cX7_undo 18 = .ok (.putfield 97, 3) := by decide +kernel
theorem dX7_undo_21 : decode cX7_undo 21 = .ok (.invokevirtual 108, 3) := by decide +kernel
theorem dX7_undo_24 : decode cX7_undo 24 = .ok (.iconst 1, 1) := by decide +kernel
theorem dX7_undo_25 : decode cX7_undo 25 = .ok (.ireturn, 1) := by decide +kernel
theorem dX7_reach_0 : decode cX7_reach 0 = .ok (.iconst 0, 1) := by decide +kernel
theorem dX7_reach_1 : decode cX7_reach 1 = .ok (.istore 7, 2) := by decide +kernel
theorem dX7_reach_3 : decode cX7_reach 3 = .ok (.iload 7, 2) := by decide +kernel
theorem dX7_reach_5 : decode cX7_reach 5 = .ok (.aload_n 0, 1) := by decide +kernel
theorem dX7_reach_6 : decode cX7_reach 6 = .ok (.getfield 84, 3) := by decide +kernel
theorem dX7_reach_9 : decode cX7_reach 9 = .ok (.if_icmp .ge 14, 3) := by decide +kernel
theorem dX7_reach_12 : decode cX7_reach 12 = .ok (.aload_n 3, 1) := by decide +kernel
theorem dX7_reach_13 : decode cX7_reach 13 = .ok (.iload 7, 2) := by decide +kernel
theorem dX7_reach_15 : decode cX7_reach 15 = .ok (.iconst 0, 1) := by decide +kernel
theorem dX7_reach_16 : decode cX7_reach 16 = .ok (.bastore, 1) := by decide +kernel
theorem dX7_reach_17 : decode cX7_reach 17 = .ok (.iinc 7 1, 3) := by decide +kernel
theorem dX7_reach_20 : decode cX7_reach 20 = .ok (.goto (-17), 3) := by decide +kernel
theorem dX7_reach_23 : decode cX7_reach 23 = .ok (.aload_n 3, 1) := by decide +kernel
theorem dX7_reach_24 : decode cX7_reach 24 = .ok (.iload_n 1, 1) := by decide +kernel
theorem dX7_reach_25 : decode cX7_reach 25 = .ok (.iconst 1, 1) := by decide +kernel
theorem dX7_reach_26 : decode cX7_reach 26 = .ok (.bastore, 1) := by decide +kernel
theorem dX7_reach_27 : decode cX7_reach 27 = .ok (.aload_n 0, 1) := by decide +kernel
theorem dX7_reach_28 : decode cX7_reach 28 = .ok (.getfield 63, 3) := by decide +kernel
theorem dX7_reach_31 : decode cX7_reach 31 = .ok (.iload_n 1, 1) := by decide +kernel
theorem dX7_reach_32 : decode cX7_reach 32 = .ok (.iconst (-1), 1) := by decide +kernel
theorem dX7_reach_33 : decode cX7_reach 33 = .ok (.iastore, 1) := by decide +kernel
theorem dX7_reach_34 : decode cX7_reach 34 = .ok (.iconst 0, 1) := by decide +kernel
theorem dX7_reach_35 : decode cX7_reach 35 = .ok (.istore 7, 2) := by decide +kernel
theorem dX7_reach_37 : decode cX7_reach 37 = .ok (.iconst 0, 1) := by decide +kernel
theorem dX7_reach_38 : decode cX7_reach 38 = .ok (.istore 8, 2) := by decide +kernel
theorem dX7_reach_40 : decode cX7_reach 40 = .ok (.aload_n 0, 1) := by decide +kernel
theorem dX7_reach_41 : decode cX7_reach 41 = .ok (.getfield 60, 3) := by decide +kernel
theorem dX7_reach_44 : decode cX7_reach 44 = .ok (.iload 8, 2) := by decide +kernel
theorem dX7_reach_46 : decode cX7_reach 46 = .ok (.iinc 8 1, 3) := by decide +kernel
theorem dX7_reach_49 : decode cX7_reach 49 = .ok (.iload_n 1, 1) := by decide +kernel
theorem dX7_reach_50 : decode cX7_reach 50 = .ok (.iastore, 1) := by decide +kernel
theorem dX7_reach_51 : decode cX7_reach 51 = .ok (.iload 7, 2) := by decide +kernel
theorem dX7_reach_53 : decode cX7_reach 53 = .ok (.iload 8, 2) := by decide +kernel
theorem dX7_reach_55 : decode cX7_reach 55 = .ok (.if_icmp .ge 189, 3) := by decide +kernel
theorem dX7_reach_58 : decode cX7_reach 58 = .ok (.aload_n 0, 1) := by decide +kernel
theorem dX7_reach_59 : decode cX7_reach 59 = .ok (.getfield 60, 3) := by decide +kernel
theorem dX7_reach_62 : decode cX7_reach 62 = .ok (.iload 7, 2) := by decide +kernel
theorem dX7_reach_64 : decode cX7_reach 64 = .ok (.iinc 7 1, 3) := by decide +kernel
theorem dX7_reach_67 : decode cX7_reach 67 = .ok (.iaload, 1) := by decide +kernel
theorem dX7_reach_68 : decode cX7_reach 68 = .ok (.istore 9, 2) := by decide +kernel
theorem dX7_reach_70 : decode cX7_reach 70 = .ok (.iconst 0, 1) := by decide +kernel
theorem dX7_reach_71 : decode cX7_reach 71 = .ok (.istore 10, 2) := by decide +kernel
theorem dX7_reach_73 : decode cX7_reach 73 = .ok (.iload 10, 2) := by decide +kernel
theorem dX7_reach_75 : decode cX7_reach 75 = .ok (.aload_n 0, 1) := by decide +kernel
theorem dX7_reach_76 : decode cX7_reach 76 = .ok (.getfield 88, 3) := by decide +kernel
theorem dX7_reach_79 : decode cX7_reach 79 = .ok (.if_icmp .ge 162, 3) := by decide +kernel
theorem dX7_reach_82 : decode cX7_reach 82 = .ok (.iload 10, 2) := by decide +kernel
theorem dX7_reach_84 : decode cX7_reach 84 = .ok (.iload 5, 2) := by decide +kernel
theorem dX7_reach_86 : decode cX7_reach 86 = .ok (.if_icmp .eq 149, 3) := by decide +kernel
theorem dX7_reach_89 : decode cX7_reach 89 = .ok (.aload_n 0, 1) := by decide +kernel
theorem dX7_reach_90 : decode cX7_reach 90 = .ok (.getfield 23, 3) := by decide +kernel
theorem dX7_reach_93 : decode cX7_reach 93 = .ok (.iload 10, 2) := by decide +kernel
theorem dX7_reach_95 : decode cX7_reach 95 = .ok (.iaload, 1) := by decide +kernel
theorem dX7_reach_96 : decode cX7_reach 96 = .ok (.ifCond .eq 139, 3) := by decide +kernel
theorem dX7_reach_99 : decode cX7_reach 99 = .ok (.aload_n 0, 1) := by decide +kernel
theorem dX7_reach_100 : decode cX7_reach 100 = .ok (.getfield 23, 3) := by decide +kernel
theorem dX7_reach_103 : decode cX7_reach 103 = .ok (.iload 10, 2) := by decide +kernel
theorem dX7_reach_105 : decode cX7_reach 105 = .ok (.iaload, 1) := by decide +kernel
theorem dX7_reach_106 : decode cX7_reach 106 = .ok (.iconst 2, 1) := by decide +kernel
theorem dX7_reach_107 : decode cX7_reach 107 = .ok (.if_icmp .ne 8, 3) := by decide +kernel
theorem dX7_reach_110 : decode cX7_reach 110 = .ok (.iload 4, 2) := by decide +kernel
theorem dX7_reach_112 : decode cX7_reach 112 = .ok (.ifCond .eq 123, 3) := by decide +kernel
theorem dX7_reach_115 : decode cX7_reach 115 = .ok (.aload_n 0, 1) := by decide +kernel
theorem dX7_reach_116 : decode cX7_reach 116 = .ok (.getfield 26, 3) := by decide +kernel
theorem dX7_reach_119 : decode cX7_reach 119 = .ok (.iload 10, 2) := by decide +kernel
theorem dX7_reach_121 : decode cX7_reach 121 = .ok (.iaload, 1) := by decide +kernel
theorem dX7_reach_122 : decode cX7_reach 122 = .ok (.iload_n 2, 1) := by decide +kernel
theorem dX7_reach_123 : decode cX7_reach 123 = .ok (.if_icmp .ge 11, 3) := by decide +kernel
theorem dX7_reach_126 : decode cX7_reach 126 = .ok (.iload 4, 2) := by decide +kernel
theorem dX7_reach_128 : decode cX7_reach 128 = .ok (.ifCond .ne 6, 3) := by decide +kernel
theorem dX7_reach_131 : decode cX7_reach 131 = .ok (.goto 104, 3) := by decide +kernel
theorem dX7_reach_134 : decode cX7_reach 134 = .ok (.aload_n 0, 1) := by decide +kernel
theorem dX7_reach_135 : decode cX7_reach 135 = .ok (.getfield 17, 3) := by decide +kernel
theorem dX7_reach_138 : decode cX7_reach 138 = .ok (.iload 10, 2) := by decide +kernel
theorem dX7_reach_140 : decode cX7_reach 140 = .ok (.iaload, 1) := by decide +kernel
theorem dX7_reach_141 : decode cX7_reach 141 = .ok (.iload 9, 2) := by decide +kernel
theorem dX7_reach_143 : decode cX7_reach 143 = .ok (.if_icmp .eq 18, 3) := by decide +kernel
theorem dX7_reach_146 : decode cX7_reach 146 = .ok (.aload_n 0, 1) := by decide +kernel
theorem dX7_reach_147 : decode cX7_reach 147 = .ok (.getfield 20, 3) := by decide +kernel
theorem dX7_reach_150 : decode cX7_reach 150 = .ok (.iload 10, 2) := by decide +kernel
theorem dX7_reach_152 : decode cX7_reach 152 = .ok (.iaload, 1) := by decide +kernel
theorem dX7_reach_153 : decode cX7_reach 153 = .ok (.iload 9, 2) := by decide +kernel
theorem dX7_reach_155 : decode cX7_reach 155 = .ok (.if_icmp .eq 6, 3) := by decide +kernel
theorem dX7_reach_158 : decode cX7_reach 158 = .ok (.goto 77, 3) := by decide +kernel
theorem dX7_reach_161 : decode cX7_reach 161 = .ok (.aload_n 0, 1) := by decide +kernel
theorem dX7_reach_162 : decode cX7_reach 162 = .ok (.getfield 17, 3) := by decide +kernel
theorem dX7_reach_165 : decode cX7_reach 165 = .ok (.iload 10, 2) := by decide +kernel
theorem dX7_reach_167 : decode cX7_reach 167 = .ok (.iaload, 1) := by decide +kernel
theorem dX7_reach_168 : decode cX7_reach 168 = .ok (.iload 9, 2) := by decide +kernel
theorem dX7_reach_170 : decode cX7_reach 170 = .ok (.if_icmp .ne 13, 3) := by decide +kernel
theorem dX7_reach_173 : decode cX7_reach 173 = .ok (.aload_n 0, 1) := by decide +kernel
theorem dX7_reach_174 : decode cX7_reach 174 = .ok (.getfield 20, 3) := by decide +kernel
theorem dX7_reach_177 : decode cX7_reach 177 = .ok (.iload 10, 2) := by decide +kernel
theorem dX7_reach_179 : decode cX7_reach 179 = .ok (.iaload, 1) := by decide +kernel
theorem dX7_reach_180 : decode cX7_reach 180 = .ok (.goto 10, 3) := by decide +kernel
theorem dX7_reach_183 : decode cX7_reach 183 = .ok (.aload_n 0, 1) := by decide +kernel
theorem dX7_reach_184 : decode cX7_reach 184 = .ok (.getfield 17, 3) := by decide +kernel
theorem dX7_reach_187 : decode cX7_reach 187 = .ok (.iload 10, 2) := by decide +kernel
theorem dX7_reach_189 : decode cX7_reach 189 = .ok (.iaload, 1) := by decide +kernel
theorem dX7_reach_190 : decode cX7_reach 190 = .ok (.istore 11, 2) := by decide +kernel
theorem dX7_reach_192 : decode cX7_reach 192 = .ok (.aload_n 3, 1) := by decide +kernel
theorem dX7_reach_193 : decode cX7_reach 193 = .ok (.iload 11, 2) := by decide +kernel
theorem dX7_reach_195 : decode cX7_reach 195 = .ok (.baload, 1) := by decide +kernel
theorem dX7_reach_196 : decode cX7_reach 196 = .ok (.ifCond .ne 39, 3) := by decide +kernel
theorem dX7_reach_199 : decode cX7_reach 199 = .ok (.iload 11, 2) := by decide +kernel
theorem dX7_reach_201 : decode cX7_reach 201 = .ok (.iload 6, 2) := by decide +kernel
theorem dX7_reach_203 : decode cX7_reach 203 = .ok (.if_icmp .ne 6, 3) := by decide +kernel
theorem dX7_reach_206 : decode cX7_reach 206 = .ok (.goto 29, 3) := by decide +kernel
theorem dX7_reach_209 : decode cX7_reach 209 = .ok (.aload_n 3, 1) := by decide +kernel
theorem dX7_reach_210 : decode cX7_reach 210 = .ok (.iload 11, 2) := by decide +kernel
theorem dX7_reach_212 : decode cX7_reach 212 = .ok (.iconst 1, 1) := by decide +kernel
theorem dX7_reach_213 : decode cX7_reach 213 = .ok (.bastore, 1) := by decide +kernel
theorem dX7_reach_214 : decode cX7_reach 214 = .ok (.aload_n 0, 1) := by decide +kernel
theorem dX7_reach_215 : decode cX7_reach 215 = .ok (.getfield 63, 3) := by decide +kernel
theorem dX7_reach_218 : decode cX7_reach 218 = .ok (.iload 11, 2) := by decide +kernel
theorem dX7_reach_220 : decode cX7_reach 220 = .ok (.iload 10, 2) := by decide +kernel
theorem dX7_reach_222 : decode cX7_reach 222 = .ok (.iastore, 1) := by decide +kernel
theorem dX7_reach_223 : decode cX7_reach 223 = .ok (.aload_n 0, 1) := by decide +kernel
theorem dX7_reach_224 : decode cX7_reach 224 = .ok (.getfield 60, 3) := by decide +kernel
theorem dX7_reach_227 : decode cX7_reach 227 = .ok (.iload 8, 2) := by decide +kernel
theorem dX7_reach_229 : decode cX7_reach 229 = .ok (.iinc 8 1, 3) := by decide +kernel
theorem dX7_reach_232 : decode cX7_reach 232 = .ok (.iload 11, 2) := by decide +kernel
theorem dX7_reach_234 : decode cX7_reach 234 = .ok (.iastore, 1) := by decide +kernel
theorem dX7_reach_235 : decode cX7_reach 235 = .ok (.iinc 10 1, 3) := by decide +kernel
theorem dX7_reach_238 : decode cX7_reach 238 = .ok (.goto (-165), 3) := by decide +kernel
theorem dX7_reach_241 : decode cX7_reach 241 = .ok (.goto (-190), 3) := by decide +kernel
theorem dX7_reach_244 : decode cX7_reach 244 = .ok (.iload 8, 2) := by decide +kernel
theorem dX7_reach_246 : decode cX7_reach 246 = .ok (.ireturn, 1) := by decide +kernel
theorem dX7_part_0 : decode cX7_part 0 = .ok (.aload_n 0, 1) := by decide +kernel
theorem dX7_part_1 : decode cX7_part 1 = .ok (.iload_n 1, 1) := by decide +kernel
theorem dX7_part_2 : decode cX7_part 2 = .ok (.iconst 0, 1) := by decide +kernel
theorem dX7_part_3 : decode cX7_part 3 = .ok (.aload_n 0, 1) := by decide +kernel
theorem dX7_part_4 : decode cX7_part 4 = .ok (.getfield 53, 3) := by decide +kernel
theorem dX7_part_7 : decode cX7_part 7 = .ok (.iconst 0, 1) := by decide +kernel
theorem dX7_part_8 : decode cX7_part 8 = .ok (.iconst (-1), 1) := by decide +kernel
theorem dX7_part_9 : decode cX7_part 9 = .ok (.iconst (-1), 1) := by decide +kernel
theorem dX7_part_10 : decode cX7_part 10 = .ok (.invokevirtual 111, 3) := by decide +kernel
theorem dX7_part_13 : decode cX7_part 13 = .ok (.ireturn, 1) := by decide +kernel
theorem dX7_isTogether_0 : decode cX7_isTogether 0 = .ok (.aload_n 0, 1) := by decide +kernel
theorem dX7_isTogether_1 : decode cX7_isTogether 1 = .ok (.iload_n 1, 1) := by decide +kernel
theorem dX7_isTogether_2 : decode cX7_isTogether 2 = .ok (.invokevirtual 115, 3) := by decide +kernel
theorem dX7_isTogether_5 : decode cX7_isTogether 5 = .ok (.pop, 1) := by decide +kernel
theorem dX7_isTogether_6 : decode cX7_isTogether 6 = .ok (.aload_n 0, 1) := by decide +kernel
theorem dX7_isTogether_7 : decode cX7_isTogether 7 = .ok (.getfield 53, 3) := by decide +kernel
theorem dX7_isTogether_10 : decode cX7_isTogether 10 = .ok (.iload_n 2, 1) := by decide +kernel
theorem dX7_isTogether_11 : decode cX7_isTogether 11 = .ok (.baload, 1) := by decide +kernel
theorem dX7_isTogether_12 : decode cX7_isTogether 12 = .ok (.ireturn, 1) := by decide +kernel
theorem dX7_finds_0 : decode cX7_finds 0 = .ok (.aload_n 0, 1) := by decide +kernel
theorem dX7_finds_1 : decode cX7_finds 1 = .ok (.iload_n 2, 1) := by decide +kernel
theorem dX7_finds_2 : decode cX7_finds 2 = .ok (.invokevirtual 115, 3) := by decide +kernel
theorem dX7_finds_5 : decode cX7_finds 5 = .ok (.pop, 1) := by decide +kernel
theorem dX7_finds_6 : decode cX7_finds 6 = .ok (.aload_n 0, 1) := by decide +kernel
theorem dX7_finds_7 : decode cX7_finds 7 = .ok (.getfield 53, 3) := by decide +kernel
theorem dX7_finds_10 : decode cX7_finds 10 = .ok (.iload_n 1, 1) := by decide +kernel
theorem dX7_finds_11 : decode cX7_finds 11 = .ok (.baload, 1) := by decide +kernel
theorem dX7_finds_12 : decode cX7_finds 12 = .ok (.ifCond .ne 5, 3) := by decide +kernel
theorem dX7_finds_15 : decode cX7_finds 15 = .ok (.iconst 0, 1) := by decide +kernel
theorem dX7_finds_16 : decode cX7_finds 16 = .ok (.ireturn, 1) := by decide +kernel
theorem dX7_finds_17 : decode cX7_finds 17 = .ok (.aload_n 0, 1) := by decide +kernel
theorem dX7_finds_18 : decode cX7_finds 18 = .ok (.iconst 0, 1) := by decide +kernel
theorem dX7_finds_19 : decode cX7_finds 19 = .ok (.putfield 119, 3) := by decide +kernel
theorem dX7_finds_22 : decode cX7_finds 22 = .ok (.iload_n 1, 1) := by decide +kernel
theorem dX7_finds_23 : decode cX7_finds 23 = .ok (.istore_n 3, 1) := by decide +kernel
theorem dX7_finds_24 : decode cX7_finds 24 = .ok (.aload_n 0, 1) := by decide +kernel
theorem dX7_finds_25 : decode cX7_finds 25 = .ok (.getfield 66, 3) := by decide +kernel
theorem dX7_finds_28 : decode cX7_finds 28 = .ok (.aload_n 0, 1) := by decide +kernel
theorem dX7_finds_29 : decode cX7_finds 29 = .ok (.dup, 1) := by decide +kernel
theorem dX7_finds_30 : decode cX7_finds 30 = .ok (.getfield 119, 3) := by decide +kernel
theorem dX7_finds_33 : decode cX7_finds 33 = .ok (.dup_x1, 1) := by decide +kernel
theorem dX7_finds_34 : decode cX7_finds 34 = .ok (.iconst 1, 1) := by decide +kernel
theorem dX7_finds_35 : decode cX7_finds 35 = .ok (.iadd, 1) := by decide +kernel
theorem dX7_finds_36 : decode cX7_finds 36 = .ok (.putfield 119, 3) := by decide +kernel
theorem dX7_finds_39 : decode cX7_finds 39 = .ok (.iload_n 1, 1) := by decide +kernel
theorem dX7_finds_40 : decode cX7_finds 40 = .ok (.iastore, 1) := by decide +kernel
theorem dX7_finds_41 : decode cX7_finds 41 = .ok (.iload_n 3, 1) := by decide +kernel
theorem dX7_finds_42 : decode cX7_finds 42 = .ok (.iload_n 2, 1) := by decide +kernel
theorem dX7_finds_43 : decode cX7_finds 43 = .ok (.if_icmp .eq 71, 3) := by decide +kernel
theorem dX7_finds_46 : decode cX7_finds 46 = .ok (.aload_n 0, 1) := by decide +kernel
theorem dX7_finds_47 : decode cX7_finds 47 = .ok (.getfield 63, 3) := by decide +kernel
theorem dX7_finds_50 : decode cX7_finds 50 = .ok (.iload_n 3, 1) := by decide +kernel
theorem dX7_finds_51 : decode cX7_finds 51 = .ok (.iaload, 1) := by decide +kernel
theorem dX7_finds_52 : decode cX7_finds 52 = .ok (.istore 4, 2) := by decide +kernel
theorem dX7_finds_54 : decode cX7_finds 54 = .ok (.aload_n 0, 1) := by decide +kernel
theorem dX7_finds_55 : decode cX7_finds 55 = .ok (.getfield 17, 3) := by decide +kernel
theorem dX7_finds_58 : decode cX7_finds 58 = .ok (.iload 4, 2) := by decide +kernel
theorem dX7_finds_60 : decode cX7_finds 60 = .ok (.iaload, 1) := by decide +kernel
theorem dX7_finds_61 : decode cX7_finds 61 = .ok (.iload_n 3, 1) := by decide +kernel
theorem dX7_finds_62 : decode cX7_finds 62 = .ok (.if_icmp .ne 13, 3) := by decide +kernel
theorem dX7_finds_65 : decode cX7_finds 65 = .ok (.aload_n 0, 1) := by decide +kernel
theorem dX7_finds_66 : decode cX7_finds 66 = .ok (.getfield 20, 3) := by decide +kernel
theorem dX7_finds_69 : decode cX7_finds 69 = .ok (.iload 4, 2) := by decide +kernel
theorem dX7_finds_71 : decode cX7_finds 71 = .ok (.iaload, 1) := by decide +kernel
theorem dX7_finds_72 : decode cX7_finds 72 = .ok (.goto 10, 3) := by decide +kernel
theorem dX7_finds_75 : decode cX7_finds 75 = .ok (.aload_n 0, 1) := by decide +kernel
theorem dX7_finds_76 : decode cX7_finds 76 = .ok (.getfield 17, 3) := by decide +kernel
theorem dX7_finds_79 : decode cX7_finds 79 = .ok (.iload 4, 2) := by decide +kernel
theorem dX7_finds_81 : decode cX7_finds 81 = .ok (.iaload, 1) := by decide +kernel
theorem dX7_finds_82 : decode cX7_finds 82 = .ok (.istore_n 3, 1) := by decide +kernel
theorem dX7_finds_83 : decode cX7_finds 83 = .ok (.aload_n 0, 1) := by decide +kernel
theorem dX7_finds_84 : decode cX7_finds 84 = .ok (.getfield 69, 3) := by decide +kernel
theorem dX7_finds_87 : decode cX7_finds 87 = .ok (.aload_n 0, 1) := by decide +kernel
theorem dX7_finds_88 : decode cX7_finds 88 = .ok (.getfield 119, 3) := by decide +kernel
theorem dX7_finds_91 : decode cX7_finds 91 = .ok (.iload 4, 2) := by decide +kernel
theorem dX7_finds_93 : decode cX7_finds 93 = .ok (.iastore, 1) := by decide +kernel
theorem dX7_finds_94 : decode cX7_finds 94 = .ok (.aload_n 0, 1) := by decide +kernel
theorem dX7_finds_95 : decode cX7_finds 95 = .ok (.getfield 66, 3) := by decide +kernel
theorem dX7_finds_98 : decode cX7_finds 98 = .ok (.aload_n 0, 1) := by decide +kernel
theorem dX7_finds_99 : decode cX7_finds 99 = .ok (.dup, 1) := by decide +kernel
theorem dX7_finds_100 : decode cX7_finds 100 = .ok (.getfield 119, 3) := by decide +kernel
theorem dX7_finds_103 : decode cX7_finds 103 = .ok (.dup_x1, 1) := by decide +kernel
theorem dX7_finds_104 : decode cX7_finds 104 = .ok (.iconst 1, 1) := by decide +kernel
theorem dX7_finds_105 : decode cX7_finds 105 = .ok (.iadd, 1) := by decide +kernel
theorem dX7_finds_106 : decode cX7_finds 106 = .ok (.putfield 119, 3) := by decide +kernel
theorem dX7_finds_109 : decode cX7_finds 109 = .ok (.iload_n 3, 1) := by decide +kernel
theorem dX7_finds_110 : decode cX7_finds 110 = .ok (.iastore, 1) := by decide +kernel
theorem dX7_finds_111 : decode cX7_finds 111 = .ok (.goto (-70), 3) := by decide +kernel
theorem dX7_finds_114 : decode cX7_finds 114 = .ok (.iconst 1, 1) := by decide +kernel
theorem dX7_finds_115 : decode cX7_finds 115 = .ok (.ireturn, 1) := by decide +kernel
theorem dX7_isHeavier_0 : decode cX7_isHeavier 0 = .ok (.aload_n 0, 1) := by decide +kernel
theorem dX7_isHeavier_1 : decode cX7_isHeavier 1 = .ok (.getfield 29, 3) := by decide +kernel
theorem dX7_isHeavier_4 : decode cX7_isHeavier 4 = .ok (.iload_n 1, 1) := by decide +kernel
theorem dX7_isHeavier_5 : decode cX7_isHeavier 5 = .ok (.laload, 1) := by decide +kernel
theorem dX7_isHeavier_6 : decode cX7_isHeavier 6 = .ok (.aload_n 0, 1) := by decide +kernel
theorem dX7_isHeavier_7 : decode cX7_isHeavier 7 = .ok (.getfield 29, 3) := by decide +kernel
theorem dX7_isHeavier_10 : decode cX7_isHeavier 10 = .ok (.iload_n 2, 1) := by decide +kernel
theorem dX7_isHeavier_11 : decode cX7_isHeavier 11 = .ok (.laload, 1) := by decide +kernel
theorem dX7_isHeavier_12 : decode cX7_isHeavier 12 = .ok (.lcmp, 1) := by decide +kernel
theorem dX7_isHeavier_13 : decode cX7_isHeavier 13 = .ok (.ifCond .eq 27, 3) := by decide +kernel
theorem dX7_isHeavier_16 : decode cX7_isHeavier 16 = .ok (.aload_n 0, 1) := by decide +kernel
theorem dX7_isHeavier_17 : decode cX7_isHeavier 17 = .ok (.getfield 29, 3) := by decide +kernel
theorem dX7_isHeavier_20 : decode cX7_isHeavier 20 = .ok (.iload_n 1, 1) := by decide +kernel
theorem dX7_isHeavier_21 : decode cX7_isHeavier 21 = .ok (.laload, 1) := by decide +kernel
theorem dX7_isHeavier_22 : decode cX7_isHeavier 22 = .ok (.aload_n 0, 1) := by decide +kernel
theorem dX7_isHeavier_23 : decode cX7_isHeavier 23 = .ok (.getfield 29, 3) := by decide +kernel
theorem dX7_isHeavier_26 : decode cX7_isHeavier 26 = .ok (.iload_n 2, 1) := by decide +kernel
theorem dX7_isHeavier_27 : decode cX7_isHeavier 27 = .ok (.laload, 1) := by decide +kernel
theorem dX7_isHeavier_28 : decode cX7_isHeavier 28 = .ok (.lcmp, 1) := by decide +kernel
theorem dX7_isHeavier_29 : decode cX7_isHeavier 29 = .ok (.ifCond .le 7, 3) := by decide +kernel
theorem dX7_isHeavier_32 : decode cX7_isHeavier 32 = .ok (.iconst 1, 1) := by decide +kernel
theorem dX7_isHeavier_33 : decode cX7_isHeavier 33 = .ok (.goto 17, 3) := by decide +kernel
theorem dX7_isHeavier_36 : decode cX7_isHeavier 36 = .ok (.iconst 0, 1) := by decide +kernel
theorem dX7_isHeavier_37 : decode cX7_isHeavier 37 = .ok (.goto 13, 3) := by decide +kernel
theorem dX7_isHeavier_40 : decode cX7_isHeavier 40 = .ok (.iload_n 1, 1) := by decide +kernel
theorem dX7_isHeavier_41 : decode cX7_isHeavier 41 = .ok (.iload_n 2, 1) := by decide +kernel
theorem dX7_isHeavier_42 : decode cX7_isHeavier 42 = .ok (.if_icmp .le 7, 3) := by decide +kernel
theorem dX7_isHeavier_45 : decode cX7_isHeavier 45 = .ok (.iconst 1, 1) := by decide +kernel
theorem dX7_isHeavier_46 : decode cX7_isHeavier 46 = .ok (.goto 4, 3) := by decide +kernel
theorem dX7_isHeavier_49 : decode cX7_isHeavier 49 = .ok (.iconst 0, 1) := by decide +kernel
theorem dX7_isHeavier_50 : decode cX7_isHeavier 50 = .ok (.ireturn, 1) := by decide +kernel
theorem dX7_heaviestOfWay_0 : decode cX7_heaviestOfWay 0 = .ok (.iconst (-1), 1) := by decide +kernel
theorem dX7_heaviestOfWay_1 : decode cX7_heaviestOfWay 1 = .ok (.istore_n 1, 1) := by decide +kernel
theorem dX7_heaviestOfWay_2 : decode cX7_heaviestOfWay 2 = .ok (.iconst 1, 1) := by decide +kernel
theorem dX7_heaviestOfWay_3 : decode cX7_heaviestOfWay 3 = .ok (.istore_n 2, 1) := by decide +kernel
theorem dX7_heaviestOfWay_4 : decode cX7_heaviestOfWay 4 = .ok (.iload_n 2, 1) := by decide +kernel
theorem dX7_heaviestOfWay_5 : decode cX7_heaviestOfWay 5 = .ok (.aload_n 0, 1) := by decide +kernel
theorem dX7_heaviestOfWay_6 : decode cX7_heaviestOfWay 6 = .ok (.getfield 119, 3) := by decide +kernel
theorem dX7_heaviestOfWay_9 : decode cX7_heaviestOfWay 9 = .ok (.if_icmp .ge 35, 3) := by decide +kernel
theorem dX7_heaviestOfWay_12 : decode cX7_heaviestOfWay 12 = .ok (.iload_n 1, 1) := by decide +kernel
theorem dX7_heaviestOfWay_13 : decode cX7_heaviestOfWay 13 = .ok (.iconst (-1), 1) := by decide +kernel
theorem dX7_heaviestOfWay_14 : decode cX7_heaviestOfWay 14 = .ok (.if_icmp .eq 17, 3) := by decide +kernel
theorem dX7_heaviestOfWay_17 : decode cX7_heaviestOfWay 17 = .ok (.aload_n 0, 1) := by decide +kernel
theorem dX7_heaviestOfWay_18 : decode cX7_heaviestOfWay 18 = .ok (.aload_n 0, 1) := by decide +kernel
theorem dX7_heaviestOfWay_19 : decode cX7_heaviestOfWay 19 = .ok (.getfield 69, 3) := by decide +kernel
theorem dX7_heaviestOfWay_22 : decode cX7_heaviestOfWay 22 = .ok (.iload_n 2, 1) := by decide +kernel
theorem dX7_heaviestOfWay_23 : decode cX7_heaviestOfWay 23 = .ok (.iaload, 1) := by decide +kernel
theorem dX7_heaviestOfWay_24 : decode cX7_heaviestOfWay 24 = .ok (.iload_n 1, 1) := by decide +kernel
theorem dX7_heaviestOfWay_25 : decode cX7_heaviestOfWay 25 = .ok (.invokevirtual 122, 3) := by decide +kernel
theorem dX7_heaviestOfWay_28 : decode cX7_heaviestOfWay 28 = .ok (.ifCond .eq 10, 3) := by decide +kernel
theorem dX7_heaviestOfWay_31 : decode cX7_heaviestOfWay 31 = .ok (.aload_n 0, 1) := by decide +kernel
theorem dX7_heaviestOfWay_32 : decode cX7_heaviestOfWay 32 = .ok (.getfield 69, 3) := by decide +kernel
theorem dX7_heaviestOfWay_35 : decode cX7_heaviestOfWay 35 = .ok (.iload_n 2, 1) := by decide +kernel
theorem dX7_heaviestOfWay_36 : decode cX7_heaviestOfWay 36 = .ok (.iaload, 1) := by decide +kernel
theorem dX7_heaviestOfWay_37 : decode cX7_heaviestOfWay 37 = .ok (.istore_n 1, 1) := by decide +kernel
theorem dX7_heaviestOfWay_38 : decode cX7_heaviestOfWay 38 = .ok (.iinc 2 1, 3) := by decide +kernel
theorem dX7_heaviestOfWay_41 : decode cX7_heaviestOfWay 41 = .ok (.goto (-37), 3) := by decide +kernel
theorem dX7_heaviestOfWay_44 : decode cX7_heaviestOfWay 44 = .ok (.iload_n 1, 1) := by decide +kernel
theorem dX7_heaviestOfWay_45 : decode cX7_heaviestOfWay 45 = .ok (.ireturn, 1) := by decide +kernel
theorem dX7_rootOf_0 : decode cX7_rootOf 0 = .ok (.aload_n 0, 1) := by decide +kernel
theorem dX7_rootOf_1 : decode cX7_rootOf 1 = .ok (.iload_n 1, 1) := by decide +kernel
theorem dX7_rootOf_2 : decode cX7_rootOf 2 = .ok (.invokevirtual 115, 3) := by decide +kernel
theorem dX7_rootOf_5 : decode cX7_rootOf 5 = .ok (.pop, 1) := by decide +kernel
theorem dX7_rootOf_6 : decode cX7_rootOf 6 = .ok (.iconst (-1), 1) := by decide +kernel
theorem dX7_rootOf_7 : decode cX7_rootOf 7 = .ok (.istore_n 2, 1) := by decide +kernel
theorem dX7_rootOf_8 : decode cX7_rootOf 8 = .ok (.iconst 0, 1) := by decide +kernel
theorem dX7_rootOf_9 : decode cX7_rootOf 9 = .ok (.istore_n 3, 1) := by decide +kernel
theorem dX7_rootOf_10 : decode cX7_rootOf 10 = .ok (.iload_n 3, 1) := by decide +kernel
theorem dX7_rootOf_11 : decode cX7_rootOf 11 = .ok (.aload_n 0, 1) := by decide +kernel
theorem dX7_rootOf_12 : decode cX7_rootOf 12 = .ok (.getfield 84, 3) := by decide +kernel
theorem dX7_rootOf_15 : decode cX7_rootOf 15 = .ok (.if_icmp .ge 40, 3) := by decide +kernel
theorem dX7_rootOf_18 : decode cX7_rootOf 18 = .ok (.aload_n 0, 1) := by decide +kernel
theorem dX7_rootOf_19 : decode cX7_rootOf 19 = .ok (.getfield 53, 3) := by decide +kernel
theorem dX7_rootOf_22 : decode cX7_rootOf 22 = .ok (.iload_n 3, 1) := by decide +kernel
theorem dX7_rootOf_23 : decode cX7_rootOf 23 = .ok (.baload, 1) := by decide +kernel
end
section
theorem dX7_rootOf_24 : decode cX7_rootOf 24 = .ok (.ifCond .eq 25, 3) := by decide +kernel
theorem dX7_rootOf_27 : decode cX7_rootOf 27 = .ok (.iload_n 2, 1) := by decide +kernel
theorem dX7_rootOf_28 : decode cX7_rootOf 28 = .ok (.iconst (-1), 1) := by decide +kernel
theorem dX7_rootOf_29 : decode cX7_rootOf 29 = .ok (.if_icmp .eq 18, 3) := by decide +kernel
theorem dX7_rootOf_32 : decode cX7_rootOf 32 = .ok (.aload_n 0, 1) := by decide +kernel
theorem dX7_rootOf_33 : decode cX7_rootOf 33 = .ok (.getfield 13, 3) := by decide +kernel
theorem dX7_rootOf_36 : decode cX7_rootOf 36 = .ok (.iload_n 3, 1) := by decide +kernel
theorem dX7_rootOf_37 : decode cX7_rootOf 37 = .ok (.iaload, 1) := by decide +kernel
theorem dX7_rootOf_38 : decode cX7_rootOf 38 = .ok (.aload_n 0, 1) := by decide +kernel
theorem dX7_rootOf_39 : decode cX7_rootOf 39 = .ok (.getfield 13, 3) := by decide +kernel
theorem dX7_rootOf_42 : decode cX7_rootOf 42 = .ok (.iload_n 2, 1) := by decide +kernel
theorem dX7_rootOf_43 : decode cX7_rootOf 43 = .ok (.iaload, 1) := by decide +kernel
theorem dX7_rootOf_44 : decode cX7_rootOf 44 = .ok (.if_icmp .le 5, 3) := by decide +kernel
theorem dX7_rootOf_47 : decode cX7_rootOf 47 = .ok (.iload_n 3, 1) := by decide +kernel
theorem dX7_rootOf_48 : decode cX7_rootOf 48 = .ok (.istore_n 2, 1) := by decide +kernel
theorem dX7_rootOf_49 : decode cX7_rootOf 49 = .ok (.iinc 3 1, 3) := by decide +kernel
theorem dX7_rootOf_52 : decode cX7_rootOf 52 = .ok (.goto (-42), 3) := by decide +kernel
theorem dX7_rootOf_55 : decode cX7_rootOf 55 = .ok (.iload_n 2, 1) := by decide +kernel
theorem dX7_rootOf_56 : decode cX7_rootOf 56 = .ok (.ireturn, 1) := by decide +kernel
theorem dX7_knot_0 : decode cX7_knot 0 = .ok (.aload_n 0, 1) := by decide +kernel
theorem dX7_knot_1 : decode cX7_knot 1 = .ok (.getfield 84, 3) := by decide +kernel
theorem dX7_knot_4 : decode cX7_knot 4 = .ok (.bipush 100, 2) := by decide +kernel
theorem dX7_knot_6 : decode cX7_knot 6 = .ok (.if_icmp .ne 6, 3) := by decide +kernel
theorem dX7_knot_9 : decode cX7_knot 9 = .ok (.bipush (-4), 2) := by decide +kernel
theorem dX7_knot_11 : decode cX7_knot 11 = .ok (.ireturn, 1) := by decide +kernel
theorem dX7_knot_12 : decode cX7_knot 12 = .ok (.aload_n 0, 1) := by decide +kernel
theorem dX7_knot_13 : decode cX7_knot 13 = .ok (.getfield 7, 3) := by decide +kernel
theorem dX7_knot_16 : decode cX7_knot 16 = .ok (.aload_n 0, 1) := by decide +kernel
theorem dX7_knot_17 : decode cX7_knot 17 = .ok (.getfield 84, 3) := by decide +kernel
theorem dX7_knot_20 : decode cX7_knot 20 = .ok (.lload_n 1, 1) := by decide +kernel
theorem dX7_knot_21 : decode cX7_knot 21 = .ok (.lastore, 1) := by decide +kernel
theorem dX7_knot_22 : decode cX7_knot 22 = .ok (.aload_n 0, 1) := by decide +kernel
theorem dX7_knot_23 : decode cX7_knot 23 = .ok (.getfield 13, 3) := by decide +kernel
theorem dX7_knot_26 : decode cX7_knot 26 = .ok (.aload_n 0, 1) := by decide +kernel
theorem dX7_knot_27 : decode cX7_knot 27 = .ok (.getfield 84, 3) := by decide +kernel
theorem dX7_knot_30 : decode cX7_knot 30 = .ok (.iconst 0, 1) := by decide +kernel
theorem dX7_knot_31 : decode cX7_knot 31 = .ok (.iastore, 1) := by decide +kernel
theorem dX7_knot_32 : decode cX7_knot 32 = .ok (.aload_n 0, 1) := by decide +kernel
theorem dX7_knot_33 : decode cX7_knot 33 = .ok (.iconst 0, 1) := by decide +kernel
theorem dX7_knot_34 : decode cX7_knot 34 = .ok (.putfield 97, 3) := by decide +kernel
theorem dX7_knot_37 : decode cX7_knot 37 = .ok (.aload_n 0, 1) := by decide +kernel
theorem dX7_knot_38 : decode cX7_knot 38 = .ok (.dup, 1) := by decide +kernel
theorem dX7_knot_39 : decode cX7_knot 39 = .ok (.getfield 84, 3) := by decide +kernel
theorem dX7_knot_42 : decode cX7_knot 42 = .ok (.dup_x1, 1) := by decide +kernel
theorem dX7_knot_43 : decode cX7_knot 43 = .ok (.iconst 1, 1) := by decide +kernel
theorem dX7_knot_44 : decode cX7_knot 44 = .ok (.iadd, 1) := by decide +kernel
theorem dX7_knot_45 : decode cX7_knot 45 = .ok (.putfield 84, 3) := by decide +kernel
theorem dX7_knot_48 : decode cX7_knot 48 = .ok (.ireturn, 1) := by decide +kernel
theorem dX7_kind_0 : decode cX7_kind 0 = .ok (.iload_n 1, 1) := by decide +kernel
theorem dX7_kind_1 : decode cX7_kind 1 = .ok (.ifCond .lt 8, 3) := by decide +kernel
theorem dX7_kind_4 : decode cX7_kind 4 = .ok (.iload_n 1, 1) := by decide +kernel
theorem dX7_kind_5 : decode cX7_kind 5 = .ok (.iconst 2, 1) := by decide +kernel
theorem dX7_kind_6 : decode cX7_kind 6 = .ok (.if_icmp .le 6, 3) := by decide +kernel
theorem dX7_kind_9 : decode cX7_kind 9 = .ok (.bipush (-2), 2) := by decide +kernel
theorem dX7_kind_11 : decode cX7_kind 11 = .ok (.ireturn, 1) := by decide +kernel
theorem dX7_kind_12 : decode cX7_kind 12 = .ok (.aload_n 0, 1) := by decide +kernel
theorem dX7_kind_13 : decode cX7_kind 13 = .ok (.getfield 88, 3) := by decide +kernel
theorem dX7_kind_16 : decode cX7_kind 16 = .ok (.ifCond .le 6, 3) := by decide +kernel
theorem dX7_kind_19 : decode cX7_kind 19 = .ok (.bipush (-3), 2) := by decide +kernel
theorem dX7_kind_21 : decode cX7_kind 21 = .ok (.ireturn, 1) := by decide +kernel
theorem dX7_kind_22 : decode cX7_kind 22 = .ok (.aload_n 0, 1) := by decide +kernel
theorem dX7_kind_23 : decode cX7_kind 23 = .ok (.getfield 126, 3) := by decide +kernel
theorem dX7_kind_26 : decode cX7_kind 26 = .ok (.istore_n 2, 1) := by decide +kernel
theorem dX7_kind_27 : decode cX7_kind 27 = .ok (.aload_n 0, 1) := by decide +kernel
theorem dX7_kind_28 : decode cX7_kind 28 = .ok (.iload_n 1, 1) := by decide +kernel
theorem dX7_kind_29 : decode cX7_kind 29 = .ok (.putfield 126, 3) := by decide +kernel
theorem dX7_kind_32 : decode cX7_kind 32 = .ok (.iload_n 2, 1) := by decide +kernel
theorem dX7_kind_33 : decode cX7_kind 33 = .ok (.ireturn, 1) := by decide +kernel
theorem dX7_edge_0 : decode cX7_edge 0 = .ok (.aload_n 0, 1) := by decide +kernel
theorem dX7_edge_1 : decode cX7_edge 1 = .ok (.iload_n 1, 1) := by decide +kernel
theorem dX7_edge_2 : decode cX7_edge 2 = .ok (.invokevirtual 129, 3) := by decide +kernel
theorem dX7_edge_5 : decode cX7_edge 5 = .ok (.ifCond .eq 16, 3) := by decide +kernel
theorem dX7_edge_8 : decode cX7_edge 8 = .ok (.aload_n 0, 1) := by decide +kernel
theorem dX7_edge_9 : decode cX7_edge 9 = .ok (.iload_n 2, 1) := by decide +kernel
theorem dX7_edge_10 : decode cX7_edge 10 = .ok (.invokevirtual 129, 3) := by decide +kernel
theorem dX7_edge_13 : decode cX7_edge 13 = .ok (.ifCond .eq 8, 3) := by decide +kernel
theorem dX7_edge_16 : decode cX7_edge 16 = .ok (.iload_n 1, 1) := by decide +kernel
theorem dX7_edge_17 : decode cX7_edge 17 = .ok (.iload_n 2, 1) := by decide +kernel
theorem dX7_edge_18 : decode cX7_edge 18 = .ok (.if_icmp .ne 6, 3) := by decide +kernel
theorem dX7_edge_21 : decode cX7_edge 21 = .ok (.bipush (-2), 2) := by decide +kernel
theorem dX7_edge_23 : decode cX7_edge 23 = .ok (.ireturn, 1) := by decide +kernel
theorem dX7_edge_24 : decode cX7_edge 24 = .ok (.aload_n 0, 1) := by decide +kernel
theorem dX7_edge_25 : decode cX7_edge 25 = .ok (.getfield 88, 3) := by decide +kernel
theorem dX7_edge_28 : decode cX7_edge 28 = .ok (.sipush 300, 3) := by decide +kernel
theorem dX7_edge_31 : decode cX7_edge 31 = .ok (.if_icmp .ne 6, 3) := by decide +kernel
theorem dX7_edge_34 : decode cX7_edge 34 = .ok (.bipush (-4), 2) := by decide +kernel
theorem dX7_edge_36 : decode cX7_edge 36 = .ok (.ireturn, 1) := by decide +kernel
theorem dX7_edge_37 : decode cX7_edge 37 = .ok (.aload_n 0, 1) := by decide +kernel
theorem dX7_edge_38 : decode cX7_edge 38 = .ok (.iload_n 1, 1) := by decide +kernel
theorem dX7_edge_39 : decode cX7_edge 39 = .ok (.iload_n 2, 1) := by decide +kernel
theorem dX7_edge_40 : decode cX7_edge 40 = .ok (.invokevirtual 133, 3) := by decide +kernel
theorem dX7_edge_43 : decode cX7_edge 43 = .ok (.istore 5, 2) := by decide +kernel
theorem dX7_edge_45 : decode cX7_edge 45 = .ok (.aload_n 0, 1) := by decide +kernel
theorem dX7_edge_46 : decode cX7_edge 46 = .ok (.getfield 126, 3) := by decide +kernel
theorem dX7_edge_49 : decode cX7_edge 49 = .ok (.ifCond .ne 11, 3) := by decide +kernel
theorem dX7_edge_52 : decode cX7_edge 52 = .ok (.iload 5, 2) := by decide +kernel
theorem dX7_edge_54 : decode cX7_edge 54 = .ok (.ifCond .eq 6, 3) := by decide +kernel
theorem dX7_edge_57 : decode cX7_edge 57 = .ok (.bipush (-3), 2) := by decide +kernel
theorem dX7_edge_59 : decode cX7_edge 59 = .ok (.ireturn, 1) := by decide +kernel
theorem dX7_edge_60 : decode cX7_edge 60 = .ok (.aload_n 0, 1) := by decide +kernel
theorem dX7_edge_61 : decode cX7_edge 61 = .ok (.invokevirtual 136, 3) := by decide +kernel
theorem dX7_edge_64 : decode cX7_edge 64 = .ok (.aload_n 0, 1) := by decide +kernel
theorem dX7_edge_65 : decode cX7_edge 65 = .ok (.getfield 88, 3) := by decide +kernel
theorem dX7_edge_68 : decode cX7_edge 68 = .ok (.istore 6, 2) := by decide +kernel
theorem dX7_edge_70 : decode cX7_edge 70 = .ok (.aload_n 0, 1) := by decide +kernel
theorem dX7_edge_71 : decode cX7_edge 71 = .ok (.getfield 17, 3) := by decide +kernel
theorem dX7_edge_74 : decode cX7_edge 74 = .ok (.iload 6, 2) := by decide +kernel
theorem dX7_edge_76 : decode cX7_edge 76 = .ok (.iload_n 1, 1) := by decide +kernel
theorem dX7_edge_77 : decode cX7_edge 77 = .ok (.iastore, 1) := by decide +kernel
theorem dX7_edge_78 : decode cX7_edge 78 = .ok (.aload_n 0, 1) := by decide +kernel
theorem dX7_edge_79 : decode cX7_edge 79 = .ok (.getfield 20, 3) := by decide +kernel
theorem dX7_edge_82 : decode cX7_edge 82 = .ok (.iload 6, 2) := by decide +kernel
theorem dX7_edge_84 : decode cX7_edge 84 = .ok (.iload_n 2, 1) := by decide +kernel
theorem dX7_edge_85 : decode cX7_edge 85 = .ok (.iastore, 1) := by decide +kernel
theorem dX7_edge_86 : decode cX7_edge 86 = .ok (.aload_n 0, 1) := by decide +kernel
theorem dX7_edge_87 : decode cX7_edge 87 = .ok (.getfield 29, 3) := by decide +kernel
theorem dX7_edge_90 : decode cX7_edge 90 = .ok (.iload 6, 2) := by decide +kernel
theorem dX7_edge_92 : decode cX7_edge 92 = .ok (.lload_n 3, 1) := by decide +kernel
theorem dX7_edge_93 : decode cX7_edge 93 = .ok (.lastore, 1) := by decide +kernel
theorem dX7_edge_94 : decode cX7_edge 94 = .ok (.aload_n 0, 1) := by decide +kernel
theorem dX7_edge_95 : decode cX7_edge 95 = .ok (.getfield 26, 3) := by decide +kernel
theorem dX7_edge_98 : decode cX7_edge 98 = .ok (.iload 6, 2) := by decide +kernel
theorem dX7_edge_100 : decode cX7_edge 100 = .ok (.iconst 0, 1) := by decide +kernel
theorem dX7_edge_101 : decode cX7_edge 101 = .ok (.iastore, 1) := by decide +kernel
theorem dX7_edge_102 : decode cX7_edge 102 = .ok (.aload_n 0, 1) := by decide +kernel
theorem dX7_edge_103 : decode cX7_edge 103 = .ok (.getfield 23, 3) := by decide +kernel
theorem dX7_edge_106 : decode cX7_edge 106 = .ok (.iload 6, 2) := by decide +kernel
theorem dX7_edge_108 : decode cX7_edge 108 = .ok (.iconst 0, 1) := by decide +kernel
theorem dX7_edge_109 : decode cX7_edge 109 = .ok (.iastore, 1) := by decide +kernel
theorem dX7_edge_110 : decode cX7_edge 110 = .ok (.aload_n 0, 1) := by decide +kernel
theorem dX7_edge_111 : decode cX7_edge 111 = .ok (.dup, 1) := by decide +kernel
theorem dX7_edge_112 : decode cX7_edge 112 = .ok (.getfield 88, 3) := by decide +kernel
theorem dX7_edge_115 : decode cX7_edge 115 = .ok (.iconst 1, 1) := by decide +kernel
theorem dX7_edge_116 : decode cX7_edge 116 = .ok (.iadd, 1) := by decide +kernel
theorem dX7_edge_117 : decode cX7_edge 117 = .ok (.putfield 88, 3) := by decide +kernel
theorem dX7_edge_120 : decode cX7_edge 120 = .ok (.iload 5, 2) := by decide +kernel
theorem dX7_edge_122 : decode cX7_edge 122 = .ok (.ifCond .ne 14, 3) := by decide +kernel
theorem dX7_edge_125 : decode cX7_edge 125 = .ok (.aload_n 0, 1) := by decide +kernel
theorem dX7_edge_126 : decode cX7_edge 126 = .ok (.getfield 23, 3) := by decide +kernel
theorem dX7_edge_129 : decode cX7_edge 129 = .ok (.iload 6, 2) := by decide +kernel
theorem dX7_edge_131 : decode cX7_edge 131 = .ok (.iconst 1, 1) := by decide +kernel
theorem dX7_edge_132 : decode cX7_edge 132 = .ok (.iastore, 1) := by decide +kernel
theorem dX7_edge_133 : decode cX7_edge 133 = .ok (.goto 73, 3) := by decide +kernel
theorem dX7_edge_136 : decode cX7_edge 136 = .ok (.aload_n 0, 1) := by decide +kernel
theorem dX7_edge_137 : decode cX7_edge 137 = .ok (.getfield 126, 3) := by decide +kernel
theorem dX7_edge_140 : decode cX7_edge 140 = .ok (.iconst 1, 1) := by decide +kernel
theorem dX7_edge_141 : decode cX7_edge 141 = .ok (.if_icmp .ne 14, 3) := by decide +kernel
theorem dX7_edge_144 : decode cX7_edge 144 = .ok (.aload_n 0, 1) := by decide +kernel
theorem dX7_edge_145 : decode cX7_edge 145 = .ok (.getfield 23, 3) := by decide +kernel
theorem dX7_edge_148 : decode cX7_edge 148 = .ok (.iload 6, 2) := by decide +kernel
theorem dX7_edge_150 : decode cX7_edge 150 = .ok (.iconst 2, 1) := by decide +kernel
theorem dX7_edge_151 : decode cX7_edge 151 = .ok (.iastore, 1) := by decide +kernel
theorem dX7_edge_152 : decode cX7_edge 152 = .ok (.goto 54, 3) := by decide +kernel
theorem dX7_edge_155 : decode cX7_edge 155 = .ok (.aload_n 0, 1) := by decide +kernel
theorem dX7_edge_156 : decode cX7_edge 156 = .ok (.iload_n 1, 1) := by decide +kernel
theorem dX7_edge_157 : decode cX7_edge 157 = .ok (.iload_n 2, 1) := by decide +kernel
theorem dX7_edge_158 : decode cX7_edge 158 = .ok (.invokevirtual 139, 3) := by decide +kernel
theorem dX7_edge_161 : decode cX7_edge 161 = .ok (.pop, 1) := by decide +kernel
theorem dX7_edge_162 : decode cX7_edge 162 = .ok (.aload_n 0, 1) := by decide +kernel
theorem dX7_edge_163 : decode cX7_edge 163 = .ok (.invokevirtual 142, 3) := by decide +kernel
theorem dX7_edge_166 : decode cX7_edge 166 = .ok (.istore 7, 2) := by decide +kernel
theorem dX7_edge_168 : decode cX7_edge 168 = .ok (.aload_n 0, 1) := by decide +kernel
theorem dX7_edge_169 : decode cX7_edge 169 = .ok (.iload 7, 2) := by decide +kernel
theorem dX7_edge_171 : decode cX7_edge 171 = .ok (.iload 6, 2) := by decide +kernel
theorem dX7_edge_173 : decode cX7_edge 173 = .ok (.invokevirtual 122, 3) := by decide +kernel
theorem dX7_edge_176 : decode cX7_edge 176 = .ok (.ifCond .eq 22, 3) := by decide +kernel
theorem dX7_edge_179 : decode cX7_edge 179 = .ok (.aload_n 0, 1) := by decide +kernel
theorem dX7_edge_180 : decode cX7_edge 180 = .ok (.getfield 23, 3) := by decide +kernel
theorem dX7_edge_183 : decode cX7_edge 183 = .ok (.iload 7, 2) := by decide +kernel
theorem dX7_edge_185 : decode cX7_edge 185 = .ok (.iconst 2, 1) := by decide +kernel
theorem dX7_edge_186 : decode cX7_edge 186 = .ok (.iastore, 1) := by decide +kernel
theorem dX7_edge_187 : decode cX7_edge 187 = .ok (.aload_n 0, 1) := by decide +kernel
theorem dX7_edge_188 : decode cX7_edge 188 = .ok (.getfield 23, 3) := by decide +kernel
theorem dX7_edge_191 : decode cX7_edge 191 = .ok (.iload 6, 2) := by decide +kernel
theorem dX7_edge_193 : decode cX7_edge 193 = .ok (.iconst 1, 1) := by decide +kernel
theorem dX7_edge_194 : decode cX7_edge 194 = .ok (.iastore, 1) := by decide +kernel
theorem dX7_edge_195 : decode cX7_edge 195 = .ok (.goto 11, 3) := by decide +kernel
theorem dX7_edge_198 : decode cX7_edge 198 = .ok (.aload_n 0, 1) := by decide +kernel
theorem dX7_edge_199 : decode cX7_edge 199 = .ok (.getfield 23, 3) := by decide +kernel
theorem dX7_edge_202 : decode cX7_edge 202 = .ok (.iload 6, 2) := by decide +kernel
theorem dX7_edge_204 : decode cX7_edge 204 = .ok (.iconst 2, 1) := by decide +kernel
theorem dX7_edge_205 : decode cX7_edge 205 = .ok (.iastore, 1) := by decide +kernel
theorem dX7_edge_206 : decode cX7_edge 206 = .ok (.iload 6, 2) := by decide +kernel
theorem dX7_edge_208 : decode cX7_edge 208 = .ok (.ireturn, 1) := by decide +kernel
theorem dX7_goes_0 : decode cX7_goes 0 = .ok (.aload_n 0, 1) := by decide +kernel
theorem dX7_goes_1 : decode cX7_goes 1 = .ok (.getfield 23, 3) := by decide +kernel
theorem dX7_goes_4 : decode cX7_goes 4 = .ok (.iload_n 1, 1) := by decide +kernel
theorem dX7_goes_5 : decode cX7_goes 5 = .ok (.iaload, 1) := by decide +kernel
theorem dX7_goes_6 : decode cX7_goes 6 = .ok (.iconst 1, 1) := by decide +kernel
theorem dX7_goes_7 : decode cX7_goes 7 = .ok (.if_icmp .ne 7, 3) := by decide +kernel
theorem dX7_goes_10 : decode cX7_goes 10 = .ok (.iconst 1, 1) := by decide +kernel
theorem dX7_goes_11 : decode cX7_goes 11 = .ok (.goto 4, 3) := by decide +kernel
theorem dX7_goes_14 : decode cX7_goes 14 = .ok (.iconst 0, 1) := by decide +kernel
theorem dX7_goes_15 : decode cX7_goes 15 = .ok (.istore_n 2, 1) := by decide +kernel
theorem dX7_goes_16 : decode cX7_goes 16 = .ok (.aload_n 0, 1) := by decide +kernel
theorem dX7_goes_17 : decode cX7_goes 17 = .ok (.getfield 23, 3) := by decide +kernel
theorem dX7_goes_20 : decode cX7_goes 20 = .ok (.iload_n 1, 1) := by decide +kernel
theorem dX7_goes_21 : decode cX7_goes 21 = .ok (.iconst 0, 1) := by decide +kernel
theorem dX7_goes_22 : decode cX7_goes 22 = .ok (.iastore, 1) := by decide +kernel
theorem dX7_goes_23 : decode cX7_goes 23 = .ok (.iload_n 2, 1) := by decide +kernel
theorem dX7_goes_24 : decode cX7_goes 24 = .ok (.ifCond .eq 10, 3) := by decide +kernel
theorem dX7_goes_27 : decode cX7_goes 27 = .ok (.aload_n 0, 1) := by decide +kernel
theorem dX7_goes_28 : decode cX7_goes 28 = .ok (.getfield 126, 3) := by decide +kernel
theorem dX7_goes_31 : decode cX7_goes 31 = .ok (.ifCond .ne 5, 3) := by decide +kernel
theorem dX7_goes_34 : decode cX7_goes 34 = .ok (.iconst (-1), 1) := by decide +kernel
theorem dX7_goes_35 : decode cX7_goes 35 = .ok (.ireturn, 1) := by decide +kernel
theorem dX7_goes_36 : decode cX7_goes 36 = .ok (.aload_n 0, 1) := by decide +kernel
theorem dX7_goes_37 : decode cX7_goes 37 = .ok (.getfield 126, 3) := by decide +kernel
theorem dX7_goes_40 : decode cX7_goes 40 = .ok (.iconst 2, 1) := by decide +kernel
theorem dX7_goes_41 : decode cX7_goes 41 = .ok (.if_icmp .ne 11, 3) := by decide +kernel
theorem dX7_goes_44 : decode cX7_goes 44 = .ok (.aload_n 0, 1) := by decide +kernel
theorem dX7_goes_45 : decode cX7_goes 45 = .ok (.iload_n 1, 1) := by decide +kernel
theorem dX7_goes_46 : decode cX7_goes 46 = .ok (.invokevirtual 146, 3) := by decide +kernel
theorem dX7_goes_49 : decode cX7_goes 49 = .ok (.goto 8, 3) := by decide +kernel
theorem dX7_goes_52 : decode cX7_goes 52 = .ok (.aload_n 0, 1) := by decide +kernel
theorem dX7_goes_53 : decode cX7_goes 53 = .ok (.iload_n 1, 1) := by decide +kernel
theorem dX7_goes_54 : decode cX7_goes 54 = .ok (.invokevirtual 149, 3) := by decide +kernel
theorem dX7_goes_57 : decode cX7_goes 57 = .ok (.ireturn, 1) := by decide +kernel
theorem dX7_lightest_0 : decode cX7_lightest 0 = .ok (.aload_n 0, 1) := by decide +kernel
theorem dX7_lightest_1 : decode cX7_lightest 1 = .ok (.aload_n 0, 1) := by decide +kernel
theorem dX7_lightest_2 : decode cX7_lightest 2 = .ok (.getfield 17, 3) := by decide +kernel
theorem dX7_lightest_5 : decode cX7_lightest 5 = .ok (.iload_n 1, 1) := by decide +kernel
theorem dX7_lightest_6 : decode cX7_lightest 6 = .ok (.iaload, 1) := by decide +kernel
theorem dX7_lightest_7 : decode cX7_lightest 7 = .ok (.iconst 0, 1) := by decide +kernel
theorem dX7_lightest_8 : decode cX7_lightest 8 = .ok (.aload_n 0, 1) := by decide +kernel
theorem dX7_lightest_9 : decode cX7_lightest 9 = .ok (.getfield 53, 3) := by decide +kernel
theorem dX7_lightest_12 : decode cX7_lightest 12 = .ok (.iconst 0, 1) := by decide +kernel
theorem dX7_lightest_13 : decode cX7_lightest 13 = .ok (.iconst (-1), 1) := by decide +kernel
theorem dX7_lightest_14 : decode cX7_lightest 14 = .ok (.iconst (-1), 1) := by decide +kernel
theorem dX7_lightest_15 : decode cX7_lightest 15 = .ok (.invokevirtual 111, 3) := by decide +kernel
theorem dX7_lightest_18 : decode cX7_lightest 18 = .ok (.pop, 1) := by decide +kernel
theorem dX7_lightest_19 : decode cX7_lightest 19 = .ok (.aload_n 0, 1) := by decide +kernel
theorem dX7_lightest_20 : decode cX7_lightest 20 = .ok (.aload_n 0, 1) := by decide +kernel
theorem dX7_lightest_21 : decode cX7_lightest 21 = .ok (.getfield 20, 3) := by decide +kernel
theorem dX7_lightest_24 : decode cX7_lightest 24 = .ok (.iload_n 1, 1) := by decide +kernel
theorem dX7_lightest_25 : decode cX7_lightest 25 = .ok (.iaload, 1) := by decide +kernel
theorem dX7_lightest_26 : decode cX7_lightest 26 = .ok (.iconst 0, 1) := by decide +kernel
theorem dX7_lightest_27 : decode cX7_lightest 27 = .ok (.aload_n 0, 1) := by decide +kernel
theorem dX7_lightest_28 : decode cX7_lightest 28 = .ok (.getfield 57, 3) := by decide +kernel
theorem dX7_lightest_31 : decode cX7_lightest 31 = .ok (.iconst 0, 1) := by decide +kernel
theorem dX7_lightest_32 : decode cX7_lightest 32 = .ok (.iconst (-1), 1) := by decide +kernel
theorem dX7_lightest_33 : decode cX7_lightest 33 = .ok (.iconst (-1), 1) := by decide +kernel
theorem dX7_lightest_34 : decode cX7_lightest 34 = .ok (.invokevirtual 111, 3) := by decide +kernel
theorem dX7_lightest_37 : decode cX7_lightest 37 = .ok (.pop, 1) := by decide +kernel
theorem dX7_lightest_38 : decode cX7_lightest 38 = .ok (.iconst (-1), 1) := by decide +kernel
theorem dX7_lightest_39 : decode cX7_lightest 39 = .ok (.istore_n 2, 1) := by decide +kernel
theorem dX7_lightest_40 : decode cX7_lightest 40 = .ok (.iconst 0, 1) := by decide +kernel
theorem dX7_lightest_41 : decode cX7_lightest 41 = .ok (.istore_n 3, 1) := by decide +kernel
theorem dX7_lightest_42 : decode cX7_lightest 42 = .ok (.iload_n 3, 1) := by decide +kernel
theorem dX7_lightest_43 : decode cX7_lightest 43 = .ok (.aload_n 0, 1) := by decide +kernel
theorem dX7_lightest_44 : decode cX7_lightest 44 = .ok (.getfield 88, 3) := by decide +kernel
theorem dX7_lightest_47 : decode cX7_lightest 47 = .ok (.if_icmp .ge 106, 3) := by decide +kernel
theorem dX7_lightest_50 : decode cX7_lightest 50 = .ok (.aload_n 0, 1) := by decide +kernel
theorem dX7_lightest_51 : decode cX7_lightest 51 = .ok (.getfield 23, 3) := by decide +kernel
theorem dX7_lightest_54 : decode cX7_lightest 54 = .ok (.iload_n 3, 1) := by decide +kernel
theorem dX7_lightest_55 : decode cX7_lightest 55 = .ok (.iaload, 1) := by decide +kernel
theorem dX7_lightest_56 : decode cX7_lightest 56 = .ok (.iconst 2, 1) := by decide +kernel
theorem dX7_lightest_57 : decode cX7_lightest 57 = .ok (.if_icmp .eq 6, 3) := by decide +kernel
theorem dX7_lightest_60 : decode cX7_lightest 60 = .ok (.goto 87, 3) := by decide +kernel
theorem dX7_lightest_63 : decode cX7_lightest 63 = .ok (.aload_n 0, 1) := by decide +kernel
theorem dX7_lightest_64 : decode cX7_lightest 64 = .ok (.getfield 53, 3) := by decide +kernel
theorem dX7_lightest_67 : decode cX7_lightest 67 = .ok (.aload_n 0, 1) := by decide +kernel
theorem dX7_lightest_68 : decode cX7_lightest 68 = .ok (.getfield 17, 3) := by decide +kernel
theorem dX7_lightest_71 : decode cX7_lightest 71 = .ok (.iload_n 3, 1) := by decide +kernel
theorem dX7_lightest_72 : decode cX7_lightest 72 = .ok (.iaload, 1) := by decide +kernel
theorem dX7_lightest_73 : decode cX7_lightest 73 = .ok (.baload, 1) := by decide +kernel
theorem dX7_lightest_74 : decode cX7_lightest 74 = .ok (.ifCond .eq 17, 3) := by decide +kernel
theorem dX7_lightest_77 : decode cX7_lightest 77 = .ok (.aload_n 0, 1) := by decide +kernel
theorem dX7_lightest_78 : decode cX7_lightest 78 = .ok (.getfield 57, 3) := by decide +kernel
theorem dX7_lightest_81 : decode cX7_lightest 81 = .ok (.aload_n 0, 1) := by decide +kernel
theorem dX7_lightest_82 : decode cX7_lightest 82 = .ok (.getfield 20, 3) := by decide +kernel
theorem dX7_lightest_85 : decode cX7_lightest 85 = .ok (.iload_n 3, 1) := by decide +kernel
theorem dX7_lightest_86 : decode cX7_lightest 86 = .ok (.iaload, 1) := by decide +kernel
theorem dX7_lightest_87 : decode cX7_lightest 87 = .ok (.baload, 1) := by decide +kernel
theorem dX7_lightest_88 : decode cX7_lightest 88 = .ok (.ifCond .ne 31, 3) := by decide +kernel
theorem dX7_lightest_91 : decode cX7_lightest 91 = .ok (.aload_n 0, 1) := by decide +kernel
theorem dX7_lightest_92 : decode cX7_lightest 92 = .ok (.getfield 53, 3) := by decide +kernel
theorem dX7_lightest_95 : decode cX7_lightest 95 = .ok (.aload_n 0, 1) := by decide +kernel
theorem dX7_lightest_96 : decode cX7_lightest 96 = .ok (.getfield 20, 3) := by decide +kernel
theorem dX7_lightest_99 : decode cX7_lightest 99 = .ok (.iload_n 3, 1) := by decide +kernel
theorem dX7_lightest_100 : decode cX7_lightest 100 = .ok (.iaload, 1) := by decide +kernel
theorem dX7_lightest_101 : decode cX7_lightest 101 = .ok (.baload, 1) := by decide +kernel
theorem dX7_lightest_102 : decode cX7_lightest 102 = .ok (.ifCond .eq 21, 3) := by decide +kernel
theorem dX7_lightest_105 : decode cX7_lightest 105 = .ok (.aload_n 0, 1) := by decide +kernel
theorem dX7_lightest_106 : decode cX7_lightest 106 = .ok (.getfield 57, 3) := by decide +kernel
theorem dX7_lightest_109 : decode cX7_lightest 109 = .ok (.aload_n 0, 1) := by decide +kernel
theorem dX7_lightest_110 : decode cX7_lightest 110 = .ok (.getfield 17, 3) := by decide +kernel
theorem dX7_lightest_113 : decode cX7_lightest 113 = .ok (.iload_n 3, 1) := by decide +kernel
theorem dX7_lightest_114 : decode cX7_lightest 114 = .ok (.iaload, 1) := by decide +kernel
theorem dX7_lightest_115 : decode cX7_lightest 115 = .ok (.baload, 1) := by decide +kernel
theorem dX7_lightest_116 : decode cX7_lightest 116 = .ok (.ifCond .eq 7, 3) := by decide +kernel
theorem dX7_lightest_119 : decode cX7_lightest 119 = .ok (.iconst 1, 1) := by decide +kernel
theorem dX7_lightest_120 : decode cX7_lightest 120 = .ok (.goto 4, 3) := by decide +kernel
theorem dX7_lightest_123 : decode cX7_lightest 123 = .ok (.iconst 0, 1) := by decide +kernel
theorem dX7_lightest_124 : decode cX7_lightest 124 = .ok (.istore 4, 2) := by decide +kernel
theorem dX7_lightest_126 : decode cX7_lightest 126 = .ok (.iload 4, 2) := by decide +kernel
theorem dX7_lightest_128 : decode cX7_lightest 128 = .ok (.ifCond .eq 19, 3) := by decide +kernel
theorem dX7_lightest_131 : decode cX7_lightest 131 = .ok (.iload_n 2, 1) := by decide +kernel
theorem dX7_lightest_132 : decode cX7_lightest 132 = .ok (.iconst (-1), 1) := by decide +kernel
theorem dX7_lightest_133 : decode cX7_lightest 133 = .ok (.if_icmp .eq 12, 3) := by decide +kernel
theorem dX7_lightest_136 : decode cX7_lightest 136 = .ok (.aload_n 0, 1) := by decide +kernel
theorem dX7_lightest_137 : decode cX7_lightest 137 = .ok (.iload_n 2, 1) := by decide +kernel
theorem dX7_lightest_138 : decode cX7_lightest 138 = .ok (.iload_n 3, 1) := by decide +kernel
theorem dX7_lightest_139 : decode cX7_lightest 139 = .ok (.invokevirtual 122, 3) := by decide +kernel
theorem dX7_lightest_142 : decode cX7_lightest 142 = .ok (.ifCond .eq 5, 3) := by decide +kernel
theorem dX7_lightest_145 : decode cX7_lightest 145 = .ok (.iload_n 3, 1) := by decide +kernel
theorem dX7_lightest_146 : decode cX7_lightest 146 = .ok (.istore_n 2, 1) := by decide +kernel
theorem dX7_lightest_147 : decode cX7_lightest 147 = .ok (.iinc 3 1, 3) := by decide +kernel
theorem dX7_lightest_150 : decode cX7_lightest 150 = .ok (.goto (-108), 3) := by decide +kernel
theorem dX7_lightest_153 : decode cX7_lightest 153 = .ok (.iload_n 2, 1) := by decide +kernel
theorem dX7_lightest_154 : decode cX7_lightest 154 = .ok (.iconst (-1), 1) := by decide +kernel
theorem dX7_lightest_155 : decode cX7_lightest 155 = .ok (.if_icmp .eq 10, 3) := by decide +kernel
theorem dX7_lightest_158 : decode cX7_lightest 158 = .ok (.aload_n 0, 1) := by decide +kernel
theorem dX7_lightest_159 : decode cX7_lightest 159 = .ok (.getfield 23, 3) := by decide +kernel
theorem dX7_lightest_162 : decode cX7_lightest 162 = .ok (.iload_n 2, 1) := by decide +kernel
theorem dX7_lightest_163 : decode cX7_lightest 163 = .ok (.iconst 1, 1) := by decide +kernel
theorem dX7_lightest_164 : decode cX7_lightest 164 = .ok (.iastore, 1) := by decide +kernel
theorem dX7_lightest_165 : decode cX7_lightest 165 = .ok (.iload_n 2, 1) := by decide +kernel
theorem dX7_lightest_166 : decode cX7_lightest 166 = .ok (.ireturn, 1) := by decide +kernel
theorem dX7_byLevels_0 : decode cX7_byLevels 0 = .ok (.aload_n 0, 1) := by decide +kernel
theorem dX7_byLevels_1 : decode cX7_byLevels 1 = .ok (.getfield 26, 3) := by decide +kernel
theorem dX7_byLevels_4 : decode cX7_byLevels 4 = .ok (.iload_n 1, 1) := by decide +kernel
theorem dX7_byLevels_5 : decode cX7_byLevels 5 = .ok (.iaload, 1) := by decide +kernel
theorem dX7_byLevels_6 : decode cX7_byLevels 6 = .ok (.istore_n 2, 1) := by decide +kernel
theorem dX7_byLevels_7 : decode cX7_byLevels 7 = .ok (.iload_n 2, 1) := by decide +kernel
theorem dX7_byLevels_8 : decode cX7_byLevels 8 = .ok (.ifCond .lt 435, 3) := by decide +kernel
theorem dX7_byLevels_11 : decode cX7_byLevels 11 = .ok (.aload_n 0, 1) := by decide +kernel
theorem dX7_byLevels_12 : decode cX7_byLevels 12 = .ok (.aload_n 0, 1) := by decide +kernel
theorem dX7_byLevels_13 : decode cX7_byLevels 13 = .ok (.getfield 17, 3) := by decide +kernel
theorem dX7_byLevels_16 : decode cX7_byLevels 16 = .ok (.iload_n 1, 1) := by decide +kernel
theorem dX7_byLevels_17 : decode cX7_byLevels 17 = .ok (.iaload, 1) := by decide +kernel
theorem dX7_byLevels_18 : decode cX7_byLevels 18 = .ok (.iload_n 2, 1) := by decide +kernel
theorem dX7_byLevels_19 : decode cX7_byLevels 19 = .ok (.aload_n 0, 1) := by decide +kernel
theorem dX7_byLevels_20 : decode cX7_byLevels 20 = .ok (.getfield 53, 3) := by decide +kernel
theorem dX7_byLevels_23 : decode cX7_byLevels 23 = .ok (.iconst 0, 1) := by decide +kernel
theorem dX7_byLevels_24 : decode cX7_byLevels 24 = .ok (.iconst (-1), 1) := by decide +kernel
theorem dX7_byLevels_25 : decode cX7_byLevels 25 = .ok (.iconst (-1), 1) := by decide +kernel
theorem dX7_byLevels_26 : decode cX7_byLevels 26 = .ok (.invokevirtual 111, 3) := by decide +kernel
theorem dX7_byLevels_29 : decode cX7_byLevels 29 = .ok (.istore_n 3, 1) := by decide +kernel
theorem dX7_byLevels_30 : decode cX7_byLevels 30 = .ok (.aload_n 0, 1) := by decide +kernel
theorem dX7_byLevels_31 : decode cX7_byLevels 31 = .ok (.aload_n 0, 1) := by decide +kernel
theorem dX7_byLevels_32 : decode cX7_byLevels 32 = .ok (.getfield 20, 3) := by decide +kernel
theorem dX7_byLevels_35 : decode cX7_byLevels 35 = .ok (.iload_n 1, 1) := by decide +kernel
theorem dX7_byLevels_36 : decode cX7_byLevels 36 = .ok (.iaload, 1) := by decide +kernel
theorem dX7_byLevels_37 : decode cX7_byLevels 37 = .ok (.iload_n 2, 1) := by decide +kernel
theorem dX7_byLevels_38 : decode cX7_byLevels 38 = .ok (.aload_n 0, 1) := by decide +kernel
theorem dX7_byLevels_39 : decode cX7_byLevels 39 = .ok (.getfield 57, 3) := by decide +kernel
theorem dX7_byLevels_42 : decode cX7_byLevels 42 = .ok (.iconst 0, 1) := by decide +kernel
theorem dX7_byLevels_43 : decode cX7_byLevels 43 = .ok (.iconst (-1), 1) := by decide +kernel
theorem dX7_byLevels_44 : decode cX7_byLevels 44 = .ok (.iconst (-1), 1) := by decide +kernel
theorem dX7_byLevels_45 : decode cX7_byLevels 45 = .ok (.invokevirtual 111, 3) := by decide +kernel
theorem dX7_byLevels_48 : decode cX7_byLevels 48 = .ok (.istore 4, 2) := by decide +kernel
theorem dX7_byLevels_50 : decode cX7_byLevels 50 = .ok (.iload_n 3, 1) := by decide +kernel
theorem dX7_byLevels_51 : decode cX7_byLevels 51 = .ok (.iload 4, 2) := by decide +kernel
theorem dX7_byLevels_53 : decode cX7_byLevels 53 = .ok (.if_icmp .gt 7, 3) := by decide +kernel
theorem dX7_byLevels_56 : decode cX7_byLevels 56 = .ok (.iconst 1, 1) := by decide +kernel
theorem dX7_byLevels_57 : decode cX7_byLevels 57 = .ok (.goto 4, 3) := by decide +kernel
theorem dX7_byLevels_60 : decode cX7_byLevels 60 = .ok (.iconst 0, 1) := by decide +kernel
theorem dX7_byLevels_61 : decode cX7_byLevels 61 = .ok (.istore 5, 2) := by decide +kernel
theorem dX7_byLevels_63 : decode cX7_byLevels 63 = .ok (.iconst 0, 1) := by decide +kernel
theorem dX7_byLevels_64 : decode cX7_byLevels 64 = .ok (.istore 6, 2) := by decide +kernel
theorem dX7_byLevels_66 : decode cX7_byLevels 66 = .ok (.iload 6, 2) := by decide +kernel
theorem dX7_byLevels_68 : decode cX7_byLevels 68 = .ok (.aload_n 0, 1) := by decide +kernel
theorem dX7_byLevels_69 : decode cX7_byLevels 69 = .ok (.getfield 88, 3) := by decide +kernel
theorem dX7_byLevels_72 : decode cX7_byLevels 72 = .ok (.if_icmp .ge 123, 3) := by decide +kernel
theorem dX7_byLevels_75 : decode cX7_byLevels 75 = .ok (.aload_n 0, 1) := by decide +kernel
theorem dX7_byLevels_76 : decode cX7_byLevels 76 = .ok (.getfield 23, 3) := by decide +kernel
theorem dX7_byLevels_79 : decode cX7_byLevels 79 = .ok (.iload 6, 2) := by decide +kernel
theorem dX7_byLevels_81 : decode cX7_byLevels 81 = .ok (.iaload, 1) := by decide +kernel
theorem dX7_byLevels_82 : decode cX7_byLevels 82 = .ok (.iconst 1, 1) := by decide +kernel
theorem dX7_byLevels_83 : decode cX7_byLevels 83 = .ok (.if_icmp .ne 106, 3) := by decide +kernel
theorem dX7_byLevels_86 : decode cX7_byLevels 86 = .ok (.aload_n 0, 1) := by decide +kernel
theorem dX7_byLevels_87 : decode cX7_byLevels 87 = .ok (.getfield 26, 3) := by decide +kernel
theorem dX7_byLevels_90 : decode cX7_byLevels 90 = .ok (.iload 6, 2) := by decide +kernel
theorem dX7_byLevels_92 : decode cX7_byLevels 92 = .ok (.iaload, 1) := by decide +kernel
theorem dX7_byLevels_93 : decode cX7_byLevels 93 = .ok (.iload_n 2, 1) := by decide +kernel
theorem dX7_byLevels_94 : decode cX7_byLevels 94 = .ok (.if_icmp .eq 6, 3) := by decide +kernel
theorem dX7_byLevels_97 : decode cX7_byLevels 97 = .ok (.goto 92, 3) := by decide +kernel
theorem dX7_byLevels_100 : decode cX7_byLevels 100 = .ok (.iload 5, 2) := by decide +kernel
theorem dX7_byLevels_102 : decode cX7_byLevels 102 = .ok (.ifCond .eq 36, 3) := by decide +kernel
theorem dX7_byLevels_105 : decode cX7_byLevels 105 = .ok (.aload_n 0, 1) := by decide +kernel
theorem dX7_byLevels_106 : decode cX7_byLevels 106 = .ok (.getfield 53, 3) := by decide +kernel
theorem dX7_byLevels_109 : decode cX7_byLevels 109 = .ok (.aload_n 0, 1) := by decide +kernel
theorem dX7_byLevels_110 : decode cX7_byLevels 110 = .ok (.getfield 17, 3) := by decide +kernel
theorem dX7_byLevels_113 : decode cX7_byLevels 113 = .ok (.iload 6, 2) := by decide +kernel
theorem dX7_byLevels_115 : decode cX7_byLevels 115 = .ok (.iaload, 1) := by decide +kernel
theorem dX7_byLevels_116 : decode cX7_byLevels 116 = .ok (.baload, 1) := by decide +kernel
theorem dX7_byLevels_117 : decode cX7_byLevels 117 = .ok (.ifCond .eq 72, 3) := by decide +kernel
theorem dX7_byLevels_120 : decode cX7_byLevels 120 = .ok (.aload_n 0, 1) := by decide +kernel
theorem dX7_byLevels_121 : decode cX7_byLevels 121 = .ok (.getfield 53, 3) := by decide +kernel
theorem dX7_byLevels_124 : decode cX7_byLevels 124 = .ok (.aload_n 0, 1) := by decide +kernel
theorem dX7_byLevels_125 : decode cX7_byLevels 125 = .ok (.getfield 20, 3) := by decide +kernel
theorem dX7_byLevels_128 : decode cX7_byLevels 128 = .ok (.iload 6, 2) := by decide +kernel
theorem dX7_byLevels_130 : decode cX7_byLevels 130 = .ok (.iaload, 1) := by decide +kernel
theorem dX7_byLevels_131 : decode cX7_byLevels 131 = .ok (.baload, 1) := by decide +kernel
theorem dX7_byLevels_132 : decode cX7_byLevels 132 = .ok (.ifCond .eq 57, 3) := by decide +kernel
theorem dX7_byLevels_135 : decode cX7_byLevels 135 = .ok (.goto 33, 3) := by decide +kernel
theorem dX7_byLevels_138 : decode cX7_byLevels 138 = .ok (.aload_n 0, 1) := by decide +kernel
theorem dX7_byLevels_139 : decode cX7_byLevels 139 = .ok (.getfield 57, 3) := by decide +kernel
theorem dX7_byLevels_142 : decode cX7_byLevels 142 = .ok (.aload_n 0, 1) := by decide +kernel
theorem dX7_byLevels_143 : decode cX7_byLevels 143 = .ok (.getfield 17, 3) := by decide +kernel
theorem dX7_byLevels_146 : decode cX7_byLevels 146 = .ok (.iload 6, 2) := by decide +kernel
theorem dX7_byLevels_148 : decode cX7_byLevels 148 = .ok (.iaload, 1) := by decide +kernel
theorem dX7_byLevels_149 : decode cX7_byLevels 149 = .ok (.baload, 1) := by decide +kernel
theorem dX7_byLevels_150 : decode cX7_byLevels 150 = .ok (.ifCond .eq 39, 3) := by decide +kernel
theorem dX7_byLevels_153 : decode cX7_byLevels 153 = .ok (.aload_n 0, 1) := by decide +kernel
theorem dX7_byLevels_154 : decode cX7_byLevels 154 = .ok (.getfield 57, 3) := by decide +kernel
theorem dX7_byLevels_157 : decode cX7_byLevels 157 = .ok (.aload_n 0, 1) := by decide +kernel
theorem dX7_byLevels_158 : decode cX7_byLevels 158 = .ok (.getfield 20, 3) := by decide +kernel
theorem dX7_byLevels_161 : decode cX7_byLevels 161 = .ok (.iload 6, 2) := by decide +kernel
theorem dX7_byLevels_163 : decode cX7_byLevels 163 = .ok (.iaload, 1) := by decide +kernel
theorem dX7_byLevels_164 : decode cX7_byLevels 164 = .ok (.baload, 1) := by decide +kernel
theorem dX7_byLevels_165 : decode cX7_byLevels 165 = .ok (.ifCond .eq 24, 3) := by decide +kernel
theorem dX7_byLevels_168 : decode cX7_byLevels 168 = .ok (.aload_n 0, 1) := by decide +kernel
theorem dX7_byLevels_169 : decode cX7_byLevels 169 = .ok (.getfield 26, 3) := by decide +kernel
theorem dX7_byLevels_172 : decode cX7_byLevels 172 = .ok (.iload 6, 2) := by decide +kernel
theorem dX7_byLevels_174 : decode cX7_byLevels 174 = .ok (.dup2, 1) := by decide +kernel
theorem dX7_byLevels_175 : decode cX7_byLevels 175 = .ok (.iaload, 1) := by decide +kernel
theorem dX7_byLevels_176 : decode cX7_byLevels 176 = .ok (.iconst 1, 1) := by decide +kernel
theorem dX7_byLevels_177 : decode cX7_byLevels 177 = .ok (.iadd, 1) := by decide +kernel
theorem dX7_byLevels_178 : decode cX7_byLevels 178 = .ok (.iastore, 1) := by decide +kernel
theorem dX7_byLevels_179 : decode cX7_byLevels 179 = .ok (.aload_n 0, 1) := by decide +kernel
theorem dX7_byLevels_180 : decode cX7_byLevels 180 = .ok (.dup, 1) := by decide +kernel
theorem dX7_byLevels_181 : decode cX7_byLevels 181 = .ok (.getfield 94, 3) := by decide +kernel
theorem dX7_byLevels_184 : decode cX7_byLevels 184 = .ok (.iconst 1, 1) := by decide +kernel
theorem dX7_byLevels_185 : decode cX7_byLevels 185 = .ok (.iadd, 1) := by decide +kernel
theorem dX7_byLevels_186 : decode cX7_byLevels 186 = .ok (.putfield 94, 3) := by decide +kernel
theorem dX7_byLevels_189 : decode cX7_byLevels 189 = .ok (.iinc 6 1, 3) := by decide +kernel
theorem dX7_byLevels_192 : decode cX7_byLevels 192 = .ok (.goto (-126), 3) := by decide +kernel
theorem dX7_byLevels_195 : decode cX7_byLevels 195 = .ok (.iconst 0, 1) := by decide +kernel
theorem dX7_byLevels_196 : decode cX7_byLevels 196 = .ok (.istore 6, 2) := by decide +kernel
theorem dX7_byLevels_198 : decode cX7_byLevels 198 = .ok (.iload 6, 2) := by decide +kernel
theorem dX7_byLevels_200 : decode cX7_byLevels 200 = .ok (.aload_n 0, 1) := by decide +kernel
theorem dX7_byLevels_201 : decode cX7_byLevels 201 = .ok (.getfield 88, 3) := by decide +kernel
theorem dX7_byLevels_204 : decode cX7_byLevels 204 = .ok (.if_icmp .ge 233, 3) := by decide +kernel
theorem dX7_byLevels_207 : decode cX7_byLevels 207 = .ok (.aload_n 0, 1) := by decide +kernel
theorem dX7_byLevels_208 : decode cX7_byLevels 208 = .ok (.getfield 23, 3) := by decide +kernel
theorem dX7_byLevels_211 : decode cX7_byLevels 211 = .ok (.iload 6, 2) := by decide +kernel
theorem dX7_byLevels_213 : decode cX7_byLevels 213 = .ok (.iaload, 1) := by decide +kernel
theorem dX7_byLevels_214 : decode cX7_byLevels 214 = .ok (.iconst 2, 1) := by decide +kernel
theorem dX7_byLevels_215 : decode cX7_byLevels 215 = .ok (.if_icmp .ne 216, 3) := by decide +kernel
theorem dX7_byLevels_218 : decode cX7_byLevels 218 = .ok (.aload_n 0, 1) := by decide +kernel
theorem dX7_byLevels_219 : decode cX7_byLevels 219 = .ok (.getfield 26, 3) := by decide +kernel
theorem dX7_byLevels_222 : decode cX7_byLevels 222 = .ok (.iload 6, 2) := by decide +kernel
theorem dX7_byLevels_224 : decode cX7_byLevels 224 = .ok (.iaload, 1) := by decide +kernel
theorem dX7_byLevels_225 : decode cX7_byLevels 225 = .ok (.iload_n 2, 1) := by decide +kernel
theorem dX7_byLevels_226 : decode cX7_byLevels 226 = .ok (.if_icmp .eq 6, 3) := by decide +kernel
theorem dX7_byLevels_229 : decode cX7_byLevels 229 = .ok (.goto 202, 3) := by decide +kernel
theorem dX7_byLevels_232 : decode cX7_byLevels 232 = .ok (.iload 5, 2) := by decide +kernel
theorem dX7_byLevels_234 : decode cX7_byLevels 234 = .ok (.ifCond .eq 18, 3) := by decide +kernel
theorem dX7_byLevels_237 : decode cX7_byLevels 237 = .ok (.aload_n 0, 1) := by decide +kernel
theorem dX7_byLevels_238 : decode cX7_byLevels 238 = .ok (.getfield 53, 3) := by decide +kernel
theorem dX7_byLevels_241 : decode cX7_byLevels 241 = .ok (.aload_n 0, 1) := by decide +kernel
theorem dX7_byLevels_242 : decode cX7_byLevels 242 = .ok (.getfield 17, 3) := by decide +kernel
theorem dX7_byLevels_245 : decode cX7_byLevels 245 = .ok (.iload 6, 2) := by decide +kernel
theorem dX7_byLevels_247 : decode cX7_byLevels 247 = .ok (.iaload, 1) := by decide +kernel
theorem dX7_byLevels_248 : decode cX7_byLevels 248 = .ok (.baload, 1) := by decide +kernel
theorem dX7_byLevels_249 : decode cX7_byLevels 249 = .ok (.goto 15, 3) := by decide +kernel
theorem dX7_byLevels_252 : decode cX7_byLevels 252 = .ok (.aload_n 0, 1) := by decide +kernel
theorem dX7_byLevels_253 : decode cX7_byLevels 253 = .ok (.getfield 57, 3) := by decide +kernel
theorem dX7_byLevels_256 : decode cX7_byLevels 256 = .ok (.aload_n 0, 1) := by decide +kernel
theorem dX7_byLevels_257 : decode cX7_byLevels 257 = .ok (.getfield 17, 3) := by decide +kernel
theorem dX7_byLevels_260 : decode cX7_byLevels 260 = .ok (.iload 6, 2) := by decide +kernel
theorem dX7_byLevels_262 : decode cX7_byLevels 262 = .ok (.iaload, 1) := by decide +kernel
theorem dX7_byLevels_263 : decode cX7_byLevels 263 = .ok (.baload, 1) := by decide +kernel
theorem dX7_byLevels_264 : decode cX7_byLevels 264 = .ok (.istore 7, 2) := by decide +kernel
theorem dX7_byLevels_266 : decode cX7_byLevels 266 = .ok (.iload 5, 2) := by decide +kernel
theorem dX7_byLevels_268 : decode cX7_byLevels 268 = .ok (.ifCond .eq 18, 3) := by decide +kernel
theorem dX7_byLevels_271 : decode cX7_byLevels 271 = .ok (.aload_n 0, 1) := by decide +kernel
theorem dX7_byLevels_272 : decode cX7_byLevels 272 = .ok (.getfield 53, 3) := by decide +kernel
theorem dX7_byLevels_275 : decode cX7_byLevels 275 = .ok (.aload_n 0, 1) := by decide +kernel
theorem dX7_byLevels_276 : decode cX7_byLevels 276 = .ok (.getfield 20, 3) := by decide +kernel
theorem dX7_byLevels_279 : decode cX7_byLevels 279 = .ok (.iload 6, 2) := by decide +kernel
theorem dX7_byLevels_281 : decode cX7_byLevels 281 = .ok (.iaload, 1) := by decide +kernel
theorem dX7_byLevels_282 : decode cX7_byLevels 282 = .ok (.baload, 1) := by decide +kernel
theorem dX7_byLevels_283 : decode cX7_byLevels 283 = .ok (.goto 15, 3) := by decide +kernel
theorem dX7_byLevels_286 : decode cX7_byLevels 286 = .ok (.aload_n 0, 1) := by decide +kernel
theorem dX7_byLevels_287 : decode cX7_byLevels 287 = .ok (.getfield 57, 3) := by decide +kernel
theorem dX7_byLevels_290 : decode cX7_byLevels 290 = .ok (.aload_n 0, 1) := by decide +kernel
theorem dX7_byLevels_291 : decode cX7_byLevels 291 = .ok (.getfield 20, 3) := by decide +kernel
theorem dX7_byLevels_294 : decode cX7_byLevels 294 = .ok (.iload 6, 2) := by decide +kernel
theorem dX7_byLevels_296 : decode cX7_byLevels 296 = .ok (.iaload, 1) := by decide +kernel
theorem dX7_byLevels_297 : decode cX7_byLevels 297 = .ok (.baload, 1) := by decide +kernel
theorem dX7_byLevels_298 : decode cX7_byLevels 298 = .ok (.istore 8, 2) := by decide +kernel
theorem dX7_byLevels_300 : decode cX7_byLevels 300 = .ok (.iload 7, 2) := by decide +kernel
theorem dX7_byLevels_302 : decode cX7_byLevels 302 = .ok (.ifCond .eq 32, 3) := by decide +kernel
theorem dX7_byLevels_305 : decode cX7_byLevels 305 = .ok (.iload 8, 2) := by decide +kernel
theorem dX7_byLevels_307 : decode cX7_byLevels 307 = .ok (.ifCond .eq 27, 3) := by decide +kernel
theorem dX7_byLevels_310 : decode cX7_byLevels 310 = .ok (.aload_n 0, 1) := by decide +kernel
theorem dX7_byLevels_311 : decode cX7_byLevels 311 = .ok (.getfield 26, 3) := by decide +kernel
theorem dX7_byLevels_314 : decode cX7_byLevels 314 = .ok (.iload 6, 2) := by decide +kernel
theorem dX7_byLevels_316 : decode cX7_byLevels 316 = .ok (.dup2, 1) := by decide +kernel
theorem dX7_byLevels_317 : decode cX7_byLevels 317 = .ok (.iaload, 1) := by decide +kernel
theorem dX7_byLevels_318 : decode cX7_byLevels 318 = .ok (.iconst 1, 1) := by decide +kernel
theorem dX7_byLevels_319 : decode cX7_byLevels 319 = .ok (.iadd, 1) := by decide +kernel
theorem dX7_byLevels_320 : decode cX7_byLevels 320 = .ok (.iastore, 1) := by decide +kernel
theorem dX7_byLevels_321 : decode cX7_byLevels 321 = .ok (.aload_n 0, 1) := by decide +kernel
theorem dX7_byLevels_322 : decode cX7_byLevels 322 = .ok (.dup, 1) := by decide +kernel
theorem dX7_byLevels_323 : decode cX7_byLevels 323 = .ok (.getfield 94, 3) := by decide +kernel
theorem dX7_byLevels_326 : decode cX7_byLevels 326 = .ok (.iconst 1, 1) := by decide +kernel
theorem dX7_byLevels_327 : decode cX7_byLevels 327 = .ok (.iadd, 1) := by decide +kernel
theorem dX7_byLevels_328 : decode cX7_byLevels 328 = .ok (.putfield 94, 3) := by decide +kernel
theorem dX7_byLevels_331 : decode cX7_byLevels 331 = .ok (.goto 100, 3) := by decide +kernel
theorem dX7_byLevels_334 : decode cX7_byLevels 334 = .ok (.iload 7, 2) := by decide +kernel
theorem dX7_byLevels_336 : decode cX7_byLevels 336 = .ok (.ifCond .eq 41, 3) := by decide +kernel
theorem dX7_byLevels_339 : decode cX7_byLevels 339 = .ok (.iload 5, 2) := by decide +kernel
theorem dX7_byLevels_341 : decode cX7_byLevels 341 = .ok (.ifCond .eq 21, 3) := by decide +kernel
theorem dX7_byLevels_344 : decode cX7_byLevels 344 = .ok (.aload_n 0, 1) := by decide +kernel
theorem dX7_byLevels_345 : decode cX7_byLevels 345 = .ok (.getfield 57, 3) := by decide +kernel
theorem dX7_byLevels_348 : decode cX7_byLevels 348 = .ok (.aload_n 0, 1) := by decide +kernel
theorem dX7_byLevels_349 : decode cX7_byLevels 349 = .ok (.getfield 20, 3) := by decide +kernel
theorem dX7_byLevels_352 : decode cX7_byLevels 352 = .ok (.iload 6, 2) := by decide +kernel
theorem dX7_byLevels_354 : decode cX7_byLevels 354 = .ok (.iaload, 1) := by decide +kernel
theorem dX7_byLevels_355 : decode cX7_byLevels 355 = .ok (.baload, 1) := by decide +kernel
theorem dX7_byLevels_356 : decode cX7_byLevels 356 = .ok (.ifCond .eq 21, 3) := by decide +kernel
theorem dX7_byLevels_359 : decode cX7_byLevels 359 = .ok (.goto 61, 3) := by decide +kernel
theorem dX7_byLevels_362 : decode cX7_byLevels 362 = .ok (.aload_n 0, 1) := by decide +kernel
theorem dX7_byLevels_363 : decode cX7_byLevels 363 = .ok (.getfield 53, 3) := by decide +kernel
theorem dX7_byLevels_366 : decode cX7_byLevels 366 = .ok (.aload_n 0, 1) := by decide +kernel
theorem dX7_byLevels_367 : decode cX7_byLevels 367 = .ok (.getfield 20, 3) := by decide +kernel
theorem dX7_byLevels_370 : decode cX7_byLevels 370 = .ok (.iload 6, 2) := by decide +kernel
theorem dX7_byLevels_372 : decode cX7_byLevels 372 = .ok (.iaload, 1) := by decide +kernel
theorem dX7_byLevels_373 : decode cX7_byLevels 373 = .ok (.baload, 1) := by decide +kernel
theorem dX7_byLevels_374 : decode cX7_byLevels 374 = .ok (.ifCond .ne 46, 3) := by decide +kernel
theorem dX7_byLevels_377 : decode cX7_byLevels 377 = .ok (.iload 8, 2) := by decide +kernel
theorem dX7_byLevels_379 : decode cX7_byLevels 379 = .ok (.ifCond .eq 52, 3) := by decide +kernel
theorem dX7_byLevels_382 : decode cX7_byLevels 382 = .ok (.iload 5, 2) := by decide +kernel
theorem dX7_byLevels_384 : decode cX7_byLevels 384 = .ok (.ifCond .eq 21, 3) := by decide +kernel
theorem dX7_byLevels_387 : decode cX7_byLevels 387 = .ok (.aload_n 0, 1) := by decide +kernel
theorem dX7_byLevels_388 : decode cX7_byLevels 388 = .ok (.getfield 57, 3) := by decide +kernel
theorem dX7_byLevels_391 : decode cX7_byLevels 391 = .ok (.aload_n 0, 1) := by decide +kernel
theorem dX7_byLevels_392 : decode cX7_byLevels 392 = .ok (.getfield 17, 3) := by decide +kernel
theorem dX7_byLevels_395 : decode cX7_byLevels 395 = .ok (.iload 6, 2) := by decide +kernel
theorem dX7_byLevels_397 : decode cX7_byLevels 397 = .ok (.iaload, 1) := by decide +kernel
theorem dX7_byLevels_398 : decode cX7_byLevels 398 = .ok (.baload, 1) := by decide +kernel
theorem dX7_byLevels_399 : decode cX7_byLevels 399 = .ok (.ifCond .eq 32, 3) := by decide +kernel
theorem dX7_byLevels_402 : decode cX7_byLevels 402 = .ok (.goto 18, 3) := by decide +kernel
theorem dX7_byLevels_405 : decode cX7_byLevels 405 = .ok (.aload_n 0, 1) := by decide +kernel
theorem dX7_byLevels_406 : decode cX7_byLevels 406 = .ok (.getfield 53, 3) := by decide +kernel
theorem dX7_byLevels_409 : decode cX7_byLevels 409 = .ok (.aload_n 0, 1) := by decide +kernel
theorem dX7_byLevels_410 : decode cX7_byLevels 410 = .ok (.getfield 17, 3) := by decide +kernel
theorem dX7_byLevels_413 : decode cX7_byLevels 413 = .ok (.iload 6, 2) := by decide +kernel
theorem dX7_byLevels_415 : decode cX7_byLevels 415 = .ok (.iaload, 1) := by decide +kernel
theorem dX7_byLevels_416 : decode cX7_byLevels 416 = .ok (.baload, 1) := by decide +kernel
theorem dX7_byLevels_417 : decode cX7_byLevels 417 = .ok (.ifCond .eq 14, 3) := by decide +kernel
theorem dX7_byLevels_420 : decode cX7_byLevels 420 = .ok (.aload_n 0, 1) := by decide +kernel
theorem dX7_byLevels_421 : decode cX7_byLevels 421 = .ok (.getfield 23, 3) := by decide +kernel
theorem dX7_byLevels_424 : decode cX7_byLevels 424 = .ok (.iload 6, 2) := by decide +kernel
theorem dX7_byLevels_426 : decode cX7_byLevels 426 = .ok (.iconst 1, 1) := by decide +kernel
theorem dX7_byLevels_427 : decode cX7_byLevels 427 = .ok (.iastore, 1) := by decide +kernel
theorem dX7_byLevels_428 : decode cX7_byLevels 428 = .ok (.iload 6, 2) := by decide +kernel
theorem dX7_byLevels_430 : decode cX7_byLevels 430 = .ok (.ireturn, 1) := by decide +kernel
theorem dX7_byLevels_431 : decode cX7_byLevels 431 = .ok (.iinc 6 1, 3) := by decide +kernel
theorem dX7_byLevels_434 : decode cX7_byLevels 434 = .ok (.goto (-236), 3) := by decide +kernel
theorem dX7_byLevels_437 : decode cX7_byLevels 437 = .ok (.iinc 2 (-1), 3) := by decide +kernel
theorem dX7_byLevels_440 : decode cX7_byLevels 440 = .ok (.goto (-433), 3) := by decide +kernel
theorem dX7_byLevels_443 : decode cX7_byLevels 443 = .ok (.iconst (-1), 1) := by decide +kernel
theorem dX7_byLevels_444 : decode cX7_byLevels 444 = .ok (.ireturn, 1) := by decide +kernel
theorem dX7_cut_0 : decode cX7_cut 0 = .ok (.aload_n 0, 1) := by decide +kernel
theorem dX7_cut_1 : decode cX7_cut 1 = .ok (.iload_n 1, 1) := by decide +kernel
theorem dX7_cut_2 : decode cX7_cut 2 = .ok (.invokevirtual 152, 3) := by decide +kernel
theorem dX7_cut_5 : decode cX7_cut 5 = .ok (.ifCond .ne 6, 3) := by decide +kernel
theorem dX7_cut_8 : decode cX7_cut 8 = .ok (.bipush (-2), 2) := by decide +kernel
theorem dX7_cut_10 : decode cX7_cut 10 = .ok (.ireturn, 1) := by decide +kernel
theorem dX7_cut_11 : decode cX7_cut 11 = .ok (.aload_n 0, 1) := by decide +kernel
theorem dX7_cut_12 : decode cX7_cut 12 = .ok (.invokevirtual 136, 3) := by decide +kernel
theorem dX7_cut_15 : decode cX7_cut 15 = .ok (.aload_n 0, 1) := by decide +kernel
theorem dX7_cut_16 : decode cX7_cut 16 = .ok (.iload_n 1, 1) := by decide +kernel
theorem dX7_cut_17 : decode cX7_cut 17 = .ok (.invokevirtual 155, 3) := by decide +kernel
theorem dX7_cut_20 : decode cX7_cut 20 = .ok (.ireturn, 1) := by decide +kernel
theorem dX7_instead_0 : decode cX7_instead 0 = .ok (.aload_n 0, 1) := by decide +kernel
theorem dX7_instead_1 : decode cX7_instead 1 = .ok (.iload_n 1, 1) := by decide +kernel
theorem dX7_instead_2 : decode cX7_instead 2 = .ok (.invokevirtual 152, 3) := by decide +kernel
theorem dX7_instead_5 : decode cX7_instead 5 = .ok (.ifCond .ne 6, 3) := by decide +kernel
theorem dX7_instead_8 : decode cX7_instead 8 = .ok (.bipush (-2), 2) := by decide +kernel
theorem dX7_instead_10 : decode cX7_instead 10 = .ok (.ireturn, 1) := by decide +kernel
theorem dX7_instead_11 : decode cX7_instead 11 = .ok (.aload_n 0, 1) := by decide +kernel
theorem dX7_instead_12 : decode cX7_instead 12 = .ok (.getfield 23, 3) := by decide +kernel
theorem dX7_instead_15 : decode cX7_instead 15 = .ok (.iload_n 1, 1) := by decide +kernel
theorem dX7_instead_16 : decode cX7_instead 16 = .ok (.iaload, 1) := by decide +kernel
theorem dX7_instead_17 : decode cX7_instead 17 = .ok (.iconst 2, 1) := by decide +kernel
theorem dX7_instead_18 : decode cX7_instead 18 = .ok (.if_icmp .ne 5, 3) := by decide +kernel
theorem dX7_instead_21 : decode cX7_instead 21 = .ok (.iconst (-1), 1) := by decide +kernel
theorem dX7_instead_22 : decode cX7_instead 22 = .ok (.ireturn, 1) := by decide +kernel
theorem dX7_instead_23 : decode cX7_instead 23 = .ok (.aload_n 0, 1) := by decide +kernel
theorem dX7_instead_24 : decode cX7_instead 24 = .ok (.bipush 20, 2) := by decide +kernel
theorem dX7_instead_26 : decode cX7_instead 26 = .ok (.invokevirtual 104, 3) := by decide +kernel
theorem dX7_instead_29 : decode cX7_instead 29 = .ok (.aload_n 0, 1) := by decide +kernel
theorem dX7_instead_30 : decode cX7_instead 30 = .ok (.iload_n 1, 1) := by decide +kernel
theorem dX7_instead_31 : decode cX7_instead 31 = .ok (.invokevirtual 155, 3) := by decide +kernel
theorem dX7_instead_34 : decode cX7_instead 34 = .ok (.istore_n 2, 1) := by decide +kernel
theorem dX7_instead_35 : decode cX7_instead 35 = .ok (.aload_n 0, 1) := by decide +kernel
theorem dX7_instead_36 : decode cX7_instead 36 = .ok (.bipush 20, 2) := by decide +kernel
theorem dX7_instead_38 : decode cX7_instead 38 = .ok (.invokevirtual 108, 3) := by decide +kernel
theorem dX7_instead_41 : decode cX7_instead 41 = .ok (.iload_n 2, 1) := by decide +kernel
theorem dX7_instead_42 : decode cX7_instead 42 = .ok (.ireturn, 1) := by decide +kernel
theorem dX7_isBridge_0 : decode cX7_isBridge 0 = .ok (.aload_n 0, 1) := by decide +kernel
theorem dX7_isBridge_1 : decode cX7_isBridge 1 = .ok (.aload_n 0, 1) := by decide +kernel
theorem dX7_isBridge_2 : decode cX7_isBridge 2 = .ok (.getfield 17, 3) := by decide +kernel
theorem dX7_isBridge_5 : decode cX7_isBridge 5 = .ok (.iload_n 1, 1) := by decide +kernel
theorem dX7_isBridge_6 : decode cX7_isBridge 6 = .ok (.iaload, 1) := by decide +kernel
theorem dX7_isBridge_7 : decode cX7_isBridge 7 = .ok (.iconst 0, 1) := by decide +kernel
theorem dX7_isBridge_8 : decode cX7_isBridge 8 = .ok (.aload_n 0, 1) := by decide +kernel
theorem dX7_isBridge_9 : decode cX7_isBridge 9 = .ok (.getfield 53, 3) := by decide +kernel
theorem dX7_isBridge_12 : decode cX7_isBridge 12 = .ok (.iconst 1, 1) := by decide +kernel
theorem dX7_isBridge_13 : decode cX7_isBridge 13 = .ok (.iload_n 1, 1) := by decide +kernel
theorem dX7_isBridge_14 : decode cX7_isBridge 14 = .ok (.iconst (-1), 1) := by decide +kernel
theorem dX7_isBridge_15 : decode cX7_isBridge 15 = .ok (.invokevirtual 111, 3) := by decide +kernel
theorem dX7_isBridge_18 : decode cX7_isBridge 18 = .ok (.pop, 1) := by decide +kernel
theorem dX7_isBridge_19 : decode cX7_isBridge 19 = .ok (.aload_n 0, 1) := by decide +kernel
theorem dX7_isBridge_20 : decode cX7_isBridge 20 = .ok (.getfield 53, 3) := by decide +kernel
theorem dX7_isBridge_23 : decode cX7_isBridge 23 = .ok (.aload_n 0, 1) := by decide +kernel
theorem dX7_isBridge_24 : decode cX7_isBridge 24 = .ok (.getfield 20, 3) := by decide +kernel
theorem dX7_isBridge_27 : decode cX7_isBridge 27 = .ok (.iload_n 1, 1) := by decide +kernel
theorem dX7_isBridge_28 : decode cX7_isBridge 28 = .ok (.iaload, 1) := by decide +kernel
theorem dX7_isBridge_29 : decode cX7_isBridge 29 = .ok (.baload, 1) := by decide +kernel
theorem dX7_isBridge_30 : decode cX7_isBridge 30 = .ok (.ifCond .ne 7, 3) := by decide +kernel
theorem dX7_isBridge_33 : decode cX7_isBridge 33 = .ok (.iconst 1, 1) := by decide +kernel
theorem dX7_isBridge_34 : decode cX7_isBridge 34 = .ok (.goto 4, 3) := by decide +kernel
theorem dX7_isBridge_37 : decode cX7_isBridge 37 = .ok (.iconst 0, 1) := by decide +kernel
theorem dX7_isBridge_38 : decode cX7_isBridge 38 = .ok (.ireturn, 1) := by decide +kernel
theorem dX7_told_0 : decode cX7_told 0 = .ok (.iload_n 1, 1) := by decide +kernel
theorem dX7_told_1 : decode cX7_told 1 = .ok (.ifCond .lt 11, 3) := by decide +kernel
theorem dX7_told_4 : decode cX7_told 4 = .ok (.iload_n 1, 1) := by decide +kernel
theorem dX7_told_5 : decode cX7_told 5 = .ok (.aload_n 0, 1) := by decide +kernel
theorem dX7_told_6 : decode cX7_told 6 = .ok (.getfield 88, 3) := by decide +kernel
theorem dX7_told_9 : decode cX7_told 9 = .ok (.if_icmp .lt 6, 3) := by decide +kernel
theorem dX7_told_12 : decode cX7_told 12 = .ok (.bipush (-2), 2) := by decide +kernel
theorem dX7_told_14 : decode cX7_told 14 = .ok (.ireturn, 1) := by decide +kernel
theorem dX7_told_15 : decode cX7_told 15 = .ok (.iload_n 2, 1) := by decide +kernel
theorem dX7_told_16 : decode cX7_told 16 = .ok (.tableswitch 87 0 4 #[36, 43, 50, 57, 64], 36) := by decide +kernel
theorem dX7_told_52 : decode cX7_told 52 = .ok (.aload_n 0, 1) := by decide +kernel
theorem dX7_told_53 : decode cX7_told 53 = .ok (.getfield 23, 3) := by decide +kernel
theorem dX7_told_56 : decode cX7_told 56 = .ok (.iload_n 1, 1) := by decide +kernel
theorem dX7_told_57 : decode cX7_told 57 = .ok (.iaload, 1) := by decide +kernel
theorem dX7_told_58 : decode cX7_told 58 = .ok (.ireturn, 1) := by decide +kernel
theorem dX7_told_59 : decode cX7_told 59 = .ok (.aload_n 0, 1) := by decide +kernel
theorem dX7_told_60 : decode cX7_told 60 = .ok (.getfield 17, 3) := by decide +kernel
theorem dX7_told_63 : decode cX7_told 63 = .ok (.iload_n 1, 1) := by decide +kernel
theorem dX7_told_64 : decode cX7_told 64 = .ok (.iaload, 1) := by decide +kernel
theorem dX7_told_65 : decode cX7_told 65 = .ok (.ireturn, 1) := by decide +kernel
theorem dX7_told_66 : decode cX7_told 66 = .ok (.aload_n 0, 1) := by decide +kernel
theorem dX7_told_67 : decode cX7_told 67 = .ok (.getfield 20, 3) := by decide +kernel
theorem dX7_told_70 : decode cX7_told 70 = .ok (.iload_n 1, 1) := by decide +kernel
theorem dX7_told_71 : decode cX7_told 71 = .ok (.iaload, 1) := by decide +kernel
theorem dX7_told_72 : decode cX7_told 72 = .ok (.ireturn, 1) := by decide +kernel
theorem dX7_told_73 : decode cX7_told 73 = .ok (.aload_n 0, 1) := by decide +kernel
theorem dX7_told_74 : decode cX7_told 74 = .ok (.getfield 26, 3) := by decide +kernel
theorem dX7_told_77 : decode cX7_told 77 = .ok (.iload_n 1, 1) := by decide +kernel
theorem dX7_told_78 : decode cX7_told 78 = .ok (.iaload, 1) := by decide +kernel
theorem dX7_told_79 : decode cX7_told 79 = .ok (.ireturn, 1) := by decide +kernel
theorem dX7_told_80 : decode cX7_told 80 = .ok (.aload_n 0, 1) := by decide +kernel
theorem dX7_told_81 : decode cX7_told 81 = .ok (.getfield 23, 3) := by decide +kernel
theorem dX7_told_84 : decode cX7_told 84 = .ok (.iload_n 1, 1) := by decide +kernel
theorem dX7_told_85 : decode cX7_told 85 = .ok (.iaload, 1) := by decide +kernel
theorem dX7_told_86 : decode cX7_told 86 = .ok (.ifCond .eq 15, 3) := by decide +kernel
theorem dX7_told_89 : decode cX7_told 89 = .ok (.aload_n 0, 1) := by decide +kernel
theorem dX7_told_90 : decode cX7_told 90 = .ok (.iload_n 1, 1) := by decide +kernel
theorem dX7_told_91 : decode cX7_told 91 = .ok (.invokevirtual 158, 3) := by decide +kernel
theorem dX7_told_94 : decode cX7_told 94 = .ok (.ifCond .eq 7, 3) := by decide +kernel
theorem dX7_told_97 : decode cX7_told 97 = .ok (.iconst 1, 1) := by decide +kernel
theorem dX7_told_98 : decode cX7_told 98 = .ok (.goto 4, 3) := by decide +kernel
theorem dX7_told_101 : decode cX7_told 101 = .ok (.iconst 0, 1) := by decide +kernel
theorem dX7_told_102 : decode cX7_told 102 = .ok (.ireturn, 1) := by decide +kernel
theorem dX7_told_103 : decode cX7_told 103 = .ok (.bipush (-2), 2) := by decide +kernel
theorem dX7_told_105 : decode cX7_told 105 = .ok (.ireturn, 1) := by decide +kernel
theorem dX7_weight_0 : decode cX7_weight 0 = .ok (.iload_n 1, 1) := by decide +kernel
theorem dX7_weight_1 : decode cX7_weight 1 = .ok (.ifCond .lt 11, 3) := by decide +kernel
theorem dX7_weight_4 : decode cX7_weight 4 = .ok (.iload_n 1, 1) := by decide +kernel
theorem dX7_weight_5 : decode cX7_weight 5 = .ok (.aload_n 0, 1) := by decide +kernel
theorem dX7_weight_6 : decode cX7_weight 6 = .ok (.getfield 88, 3) := by decide +kernel
theorem dX7_weight_9 : decode cX7_weight 9 = .ok (.if_icmp .lt 9, 3) := by decide +kernel
theorem dX7_weight_12 : decode cX7_weight 12 = .ok (.ldc2_w 161, 3) := by decide +kernel
theorem dX7_weight_15 : decode cX7_weight 15 = .ok (.goto 9, 3) := by decide +kernel
theorem dX7_weight_18 : decode cX7_weight 18 = .ok (.aload_n 0, 1) := by decide +kernel
theorem dX7_weight_19 : decode cX7_weight 19 = .ok (.getfield 29, 3) := by decide +kernel
theorem dX7_weight_22 : decode cX7_weight 22 = .ok (.iload_n 1, 1) := by decide +kernel
theorem dX7_weight_23 : decode cX7_weight 23 = .ok (.laload, 1) := by decide +kernel
theorem dX7_weight_24 : decode cX7_weight 24 = .ok (.lreturn, 1) := by decide +kernel
theorem dX7_isCut_0 : decode cX7_isCut 0 = .ok (.aload_n 0, 1) := by decide +kernel
theorem dX7_isCut_1 : decode cX7_isCut 1 = .ok (.iload_n 1, 1) := by decide +kernel
theorem dX7_isCut_2 : decode cX7_isCut 2 = .ok (.iconst 0, 1) := by decide +kernel
theorem dX7_isCut_3 : decode cX7_isCut 3 = .ok (.aload_n 0, 1) := by decide +kernel
theorem dX7_isCut_4 : decode cX7_isCut 4 = .ok (.getfield 57, 3) := by decide +kernel
theorem dX7_isCut_7 : decode cX7_isCut 7 = .ok (.iconst 1, 1) := by decide +kernel
theorem dX7_isCut_8 : decode cX7_isCut 8 = .ok (.iconst (-1), 1) := by decide +kernel
theorem dX7_isCut_9 : decode cX7_isCut 9 = .ok (.iconst (-1), 1) := by decide +kernel
theorem dX7_isCut_10 : decode cX7_isCut 10 = .ok (.invokevirtual 111, 3) := by decide +kernel
theorem dX7_isCut_13 : decode cX7_isCut 13 = .ok (.pop, 1) := by decide +kernel
theorem dX7_isCut_14 : decode cX7_isCut 14 = .ok (.iconst (-1), 1) := by decide +kernel
theorem dX7_isCut_15 : decode cX7_isCut 15 = .ok (.istore_n 2, 1) := by decide +kernel
theorem dX7_isCut_16 : decode cX7_isCut 16 = .ok (.iconst 0, 1) := by decide +kernel
theorem dX7_isCut_17 : decode cX7_isCut 17 = .ok (.istore_n 3, 1) := by decide +kernel
theorem dX7_isCut_18 : decode cX7_isCut 18 = .ok (.iconst 0, 1) := by decide +kernel
theorem dX7_isCut_19 : decode cX7_isCut 19 = .ok (.istore 4, 2) := by decide +kernel
theorem dX7_isCut_21 : decode cX7_isCut 21 = .ok (.iload 4, 2) := by decide +kernel
theorem dX7_isCut_23 : decode cX7_isCut 23 = .ok (.aload_n 0, 1) := by decide +kernel
theorem dX7_isCut_24 : decode cX7_isCut 24 = .ok (.getfield 84, 3) := by decide +kernel
theorem dX7_isCut_27 : decode cX7_isCut 27 = .ok (.if_icmp .ge 39, 3) := by decide +kernel
theorem dX7_isCut_30 : decode cX7_isCut 30 = .ok (.aload_n 0, 1) := by decide +kernel
theorem dX7_isCut_31 : decode cX7_isCut 31 = .ok (.getfield 57, 3) := by decide +kernel
theorem dX7_isCut_34 : decode cX7_isCut 34 = .ok (.iload 4, 2) := by decide +kernel
theorem dX7_isCut_36 : decode cX7_isCut 36 = .ok (.baload, 1) := by decide +kernel
theorem dX7_isCut_37 : decode cX7_isCut 37 = .ok (.ifCond .eq 23, 3) := by decide +kernel
theorem dX7_isCut_40 : decode cX7_isCut 40 = .ok (.iload 4, 2) := by decide +kernel
theorem dX7_isCut_42 : decode cX7_isCut 42 = .ok (.iload_n 1, 1) := by decide +kernel
theorem dX7_isCut_43 : decode cX7_isCut 43 = .ok (.if_icmp .ne 6, 3) := by decide +kernel
theorem dX7_isCut_46 : decode cX7_isCut 46 = .ok (.goto 14, 3) := by decide +kernel
theorem dX7_isCut_49 : decode cX7_isCut 49 = .ok (.iload_n 2, 1) := by decide +kernel
theorem dX7_isCut_50 : decode cX7_isCut 50 = .ok (.iconst (-1), 1) := by decide +kernel
theorem dX7_isCut_51 : decode cX7_isCut 51 = .ok (.if_icmp .ne 6, 3) := by decide +kernel
theorem dX7_isCut_54 : decode cX7_isCut 54 = .ok (.iload 4, 2) := by decide +kernel
theorem dX7_isCut_56 : decode cX7_isCut 56 = .ok (.istore_n 2, 1) := by decide +kernel
theorem dX7_isCut_57 : decode cX7_isCut 57 = .ok (.iinc 3 1, 3) := by decide +kernel
theorem dX7_isCut_60 : decode cX7_isCut 60 = .ok (.iinc 4 1, 3) := by decide +kernel
theorem dX7_isCut_63 : decode cX7_isCut 63 = .ok (.goto (-42), 3) := by decide +kernel
theorem dX7_isCut_66 : decode cX7_isCut 66 = .ok (.iload_n 3, 1) := by decide +kernel
theorem dX7_isCut_67 : decode cX7_isCut 67 = .ok (.iconst 1, 1) := by decide +kernel
theorem dX7_isCut_68 : decode cX7_isCut 68 = .ok (.if_icmp .le 24, 3) := by decide +kernel
theorem dX7_isCut_71 : decode cX7_isCut 71 = .ok (.aload_n 0, 1) := by decide +kernel
theorem dX7_isCut_72 : decode cX7_isCut 72 = .ok (.iload_n 2, 1) := by decide +kernel
theorem dX7_isCut_73 : decode cX7_isCut 73 = .ok (.iconst 0, 1) := by decide +kernel
theorem dX7_isCut_74 : decode cX7_isCut 74 = .ok (.aload_n 0, 1) := by decide +kernel
theorem dX7_isCut_75 : decode cX7_isCut 75 = .ok (.getfield 53, 3) := by decide +kernel
theorem dX7_isCut_78 : decode cX7_isCut 78 = .ok (.iconst 1, 1) := by decide +kernel
theorem dX7_isCut_79 : decode cX7_isCut 79 = .ok (.iconst (-1), 1) := by decide +kernel
theorem dX7_isCut_80 : decode cX7_isCut 80 = .ok (.iload_n 1, 1) := by decide +kernel
theorem dX7_isCut_81 : decode cX7_isCut 81 = .ok (.invokevirtual 111, 3) := by decide +kernel
theorem dX7_isCut_84 : decode cX7_isCut 84 = .ok (.iload_n 3, 1) := by decide +kernel
theorem dX7_isCut_85 : decode cX7_isCut 85 = .ok (.if_icmp .ge 7, 3) := by decide +kernel
theorem dX7_isCut_88 : decode cX7_isCut 88 = .ok (.iconst 1, 1) := by decide +kernel
theorem dX7_isCut_89 : decode cX7_isCut 89 = .ok (.goto 4, 3) := by decide +kernel
theorem dX7_isCut_92 : decode cX7_isCut 92 = .ok (.iconst 0, 1) := by decide +kernel
theorem dX7_isCut_93 : decode cX7_isCut 93 = .ok (.ireturn, 1) := by decide +kernel
theorem dX7_parts_0 : decode cX7_parts 0 = .ok (.iconst 0, 1) := by decide +kernel
theorem dX7_parts_1 : decode cX7_parts 1 = .ok (.istore_n 1, 1) := by decide +kernel
theorem dX7_parts_2 : decode cX7_parts 2 = .ok (.iconst 0, 1) := by decide +kernel
theorem dX7_parts_3 : decode cX7_parts 3 = .ok (.istore_n 2, 1) := by decide +kernel
theorem dX7_parts_4 : decode cX7_parts 4 = .ok (.iload_n 2, 1) := by decide +kernel
theorem dX7_parts_5 : decode cX7_parts 5 = .ok (.aload_n 0, 1) := by decide +kernel
theorem dX7_parts_6 : decode cX7_parts 6 = .ok (.getfield 84, 3) := by decide +kernel
theorem dX7_parts_9 : decode cX7_parts 9 = .ok (.if_icmp .ge 51, 3) := by decide +kernel
theorem dX7_parts_12 : decode cX7_parts 12 = .ok (.aload_n 0, 1) := by decide +kernel
theorem dX7_parts_13 : decode cX7_parts 13 = .ok (.iload_n 2, 1) := by decide +kernel
theorem dX7_parts_14 : decode cX7_parts 14 = .ok (.invokevirtual 115, 3) := by decide +kernel
theorem dX7_parts_17 : decode cX7_parts 17 = .ok (.pop, 1) := by decide +kernel
theorem dX7_parts_18 : decode cX7_parts 18 = .ok (.iconst 1, 1) := by decide +kernel
theorem dX7_parts_19 : decode cX7_parts 19 = .ok (.istore_n 3, 1) := by decide +kernel
theorem dX7_parts_20 : decode cX7_parts 20 = .ok (.iconst 0, 1) := by decide +kernel
theorem dX7_parts_21 : decode cX7_parts 21 = .ok (.istore 4, 2) := by decide +kernel
theorem dX7_parts_23 : decode cX7_parts 23 = .ok (.iload 4, 2) := by decide +kernel
theorem dX7_parts_25 : decode cX7_parts 25 = .ok (.iload_n 2, 1) := by decide +kernel
theorem dX7_parts_26 : decode cX7_parts 26 = .ok (.if_icmp .ge 21, 3) := by decide +kernel
theorem dX7_parts_29 : decode cX7_parts 29 = .ok (.aload_n 0, 1) := by decide +kernel
theorem dX7_parts_30 : decode cX7_parts 30 = .ok (.getfield 53, 3) := by decide +kernel
theorem dX7_parts_33 : decode cX7_parts 33 = .ok (.iload 4, 2) := by decide +kernel
theorem dX7_parts_35 : decode cX7_parts 35 = .ok (.baload, 1) := by decide +kernel
theorem dX7_parts_36 : decode cX7_parts 36 = .ok (.ifCond .eq 5, 3) := by decide +kernel
theorem dX7_parts_39 : decode cX7_parts 39 = .ok (.iconst 0, 1) := by decide +kernel
theorem dX7_parts_40 : decode cX7_parts 40 = .ok (.istore_n 3, 1) := by decide +kernel
theorem dX7_parts_41 : decode cX7_parts 41 = .ok (.iinc 4 1, 3) := by decide +kernel
theorem dX7_parts_44 : decode cX7_parts 44 = .ok (.goto (-21), 3) := by decide +kernel
theorem dX7_parts_47 : decode cX7_parts 47 = .ok (.iload_n 3, 1) := by decide +kernel
theorem dX7_parts_48 : decode cX7_parts 48 = .ok (.ifCond .eq 6, 3) := by decide +kernel
theorem dX7_parts_51 : decode cX7_parts 51 = .ok (.iinc 1 1, 3) := by decide +kernel
theorem dX7_parts_54 : decode cX7_parts 54 = .ok (.iinc 2 1, 3) := by decide +kernel
theorem dX7_parts_57 : decode cX7_parts 57 = .ok (.goto (-53), 3) := by decide +kernel
theorem dX7_parts_60 : decode cX7_parts 60 = .ok (.iload_n 1, 1) := by decide +kernel
theorem dX7_parts_61 : decode cX7_parts 61 = .ok (.ireturn, 1) := by decide +kernel
theorem dX7_count_0 : decode cX7_count 0 = .ok (.iconst 0, 1) := by decide +kernel
theorem dX7_count_1 : decode cX7_count 1 = .ok (.istore_n 2, 1) := by decide +kernel
theorem dX7_count_2 : decode cX7_count 2 = .ok (.iload_n 1, 1) := by decide +kernel
theorem dX7_count_3 : decode cX7_count 3 = .ok (.tableswitch 174 0 8 #[49, 54, 59, 59, 92, 97, 135, 164, 169], 49) := by decide +kernel
theorem dX7_count_52 : decode cX7_count 52 = .ok (.aload_n 0, 1) := by decide +kernel
theorem dX7_count_53 : decode cX7_count 53 = .ok (.getfield 84, 3) := by decide +kernel
theorem dX7_count_56 : decode cX7_count 56 = .ok (.ireturn, 1) := by decide +kernel
theorem dX7_count_57 : decode cX7_count 57 = .ok (.aload_n 0, 1) := by decide +kernel
theorem dX7_count_58 : decode cX7_count 58 = .ok (.getfield 88, 3) := by decide +kernel
theorem dX7_count_61 : decode cX7_count 61 = .ok (.ireturn, 1) := by decide +kernel
theorem dX7_count_62 : decode cX7_count 62 = .ok (.iconst 0, 1) := by decide +kernel
theorem dX7_count_63 : decode cX7_count 63 = .ok (.istore_n 3, 1) := by decide +kernel
theorem dX7_count_64 : decode cX7_count 64 = .ok (.iload_n 3, 1) := by decide +kernel
theorem dX7_count_65 : decode cX7_count 65 = .ok (.aload_n 0, 1) := by decide +kernel
theorem dX7_count_66 : decode cX7_count 66 = .ok (.getfield 88, 3) := by decide +kernel
theorem dX7_count_69 : decode cX7_count 69 = .ok (.if_icmp .ge 24, 3) := by decide +kernel
theorem dX7_count_72 : decode cX7_count 72 = .ok (.aload_n 0, 1) := by decide +kernel
theorem dX7_count_73 : decode cX7_count 73 = .ok (.getfield 23, 3) := by decide +kernel
theorem dX7_count_76 : decode cX7_count 76 = .ok (.iload_n 3, 1) := by decide +kernel
theorem dX7_count_77 : decode cX7_count 77 = .ok (.iaload, 1) := by decide +kernel
theorem dX7_count_78 : decode cX7_count 78 = .ok (.iload_n 1, 1) := by decide +kernel
theorem dX7_count_79 : decode cX7_count 79 = .ok (.iconst 1, 1) := by decide +kernel
theorem dX7_count_80 : decode cX7_count 80 = .ok (.isub, 1) := by decide +kernel
theorem dX7_count_81 : decode cX7_count 81 = .ok (.if_icmp .ne 6, 3) := by decide +kernel
theorem dX7_count_84 : decode cX7_count 84 = .ok (.iinc 2 1, 3) := by decide +kernel
theorem dX7_count_87 : decode cX7_count 87 = .ok (.iinc 3 1, 3) := by decide +kernel
theorem dX7_count_90 : decode cX7_count 90 = .ok (.goto (-26), 3) := by decide +kernel
theorem dX7_count_93 : decode cX7_count 93 = .ok (.iload_n 2, 1) := by decide +kernel
theorem dX7_count_94 : decode cX7_count 94 = .ok (.ireturn, 1) := by decide +kernel
theorem dX7_count_95 : decode cX7_count 95 = .ok (.aload_n 0, 1) := by decide +kernel
theorem dX7_count_96 : decode cX7_count 96 = .ok (.invokevirtual 163, 3) := by decide +kernel
theorem dX7_count_99 : decode cX7_count 99 = .ok (.ireturn, 1) := by decide +kernel
theorem dX7_count_100 : decode cX7_count 100 = .ok (.iconst 0, 1) := by decide +kernel
theorem dX7_count_101 : decode cX7_count 101 = .ok (.istore_n 3, 1) := by decide +kernel
theorem dX7_count_102 : decode cX7_count 102 = .ok (.iload_n 3, 1) := by decide +kernel
theorem dX7_count_103 : decode cX7_count 103 = .ok (.aload_n 0, 1) := by decide +kernel
theorem dX7_count_104 : decode cX7_count 104 = .ok (.getfield 88, 3) := by decide +kernel
theorem dX7_count_107 : decode cX7_count 107 = .ok (.if_icmp .ge 29, 3) := by decide +kernel
theorem dX7_count_110 : decode cX7_count 110 = .ok (.aload_n 0, 1) := by decide +kernel
theorem dX7_count_111 : decode cX7_count 111 = .ok (.getfield 23, 3) := by decide +kernel
theorem dX7_count_114 : decode cX7_count 114 = .ok (.iload_n 3, 1) := by decide +kernel
theorem dX7_count_115 : decode cX7_count 115 = .ok (.iaload, 1) := by decide +kernel
theorem dX7_count_116 : decode cX7_count 116 = .ok (.ifCond .eq 14, 3) := by decide +kernel
theorem dX7_count_119 : decode cX7_count 119 = .ok (.aload_n 0, 1) := by decide +kernel
theorem dX7_count_120 : decode cX7_count 120 = .ok (.iload_n 3, 1) := by decide +kernel
theorem dX7_count_121 : decode cX7_count 121 = .ok (.invokevirtual 158, 3) := by decide +kernel
theorem dX7_count_124 : decode cX7_count 124 = .ok (.ifCond .eq 6, 3) := by decide +kernel
theorem dX7_count_127 : decode cX7_count 127 = .ok (.iinc 2 1, 3) := by decide +kernel
theorem dX7_count_130 : decode cX7_count 130 = .ok (.iinc 3 1, 3) := by decide +kernel
theorem dX7_count_133 : decode cX7_count 133 = .ok (.goto (-31), 3) := by decide +kernel
theorem dX7_count_136 : decode cX7_count 136 = .ok (.iload_n 2, 1) := by decide +kernel
theorem dX7_count_137 : decode cX7_count 137 = .ok (.ireturn, 1) := by decide +kernel
theorem dX7_count_138 : decode cX7_count 138 = .ok (.iconst 0, 1) := by decide +kernel
theorem dX7_count_139 : decode cX7_count 139 = .ok (.istore_n 3, 1) := by decide +kernel
theorem dX7_count_140 : decode cX7_count 140 = .ok (.iload_n 3, 1) := by decide +kernel
theorem dX7_count_141 : decode cX7_count 141 = .ok (.aload_n 0, 1) := by decide +kernel
theorem dX7_count_142 : decode cX7_count 142 = .ok (.getfield 84, 3) := by decide +kernel
theorem dX7_count_145 : decode cX7_count 145 = .ok (.if_icmp .ge 20, 3) := by decide +kernel
theorem dX7_count_148 : decode cX7_count 148 = .ok (.aload_n 0, 1) := by decide +kernel
theorem dX7_count_149 : decode cX7_count 149 = .ok (.iload_n 3, 1) := by decide +kernel
theorem dX7_count_150 : decode cX7_count 150 = .ok (.invokevirtual 166, 3) := by decide +kernel
theorem dX7_count_153 : decode cX7_count 153 = .ok (.ifCond .eq 6, 3) := by decide +kernel
theorem dX7_count_156 : decode cX7_count 156 = .ok (.iinc 2 1, 3) := by decide +kernel
theorem dX7_count_159 : decode cX7_count 159 = .ok (.iinc 3 1, 3) := by decide +kernel
theorem dX7_count_162 : decode cX7_count 162 = .ok (.goto (-22), 3) := by decide +kernel
theorem dX7_count_165 : decode cX7_count 165 = .ok (.iload_n 2, 1) := by decide +kernel
theorem dX7_count_166 : decode cX7_count 166 = .ok (.ireturn, 1) := by decide +kernel
theorem dX7_count_167 : decode cX7_count 167 = .ok (.aload_n 0, 1) := by decide +kernel
theorem dX7_count_168 : decode cX7_count 168 = .ok (.getfield 97, 3) := by decide +kernel
theorem dX7_count_171 : decode cX7_count 171 = .ok (.ireturn, 1) := by decide +kernel
theorem dX7_count_172 : decode cX7_count 172 = .ok (.aload_n 0, 1) := by decide +kernel
theorem dX7_count_173 : decode cX7_count 173 = .ok (.getfield 94, 3) := by decide +kernel
theorem dX7_count_176 : decode cX7_count 176 = .ok (.ireturn, 1) := by decide +kernel
theorem dX7_count_177 : decode cX7_count 177 = .ok (.bipush (-2), 2) := by decide +kernel
theorem dX7_count_179 : decode cX7_count 179 = .ok (.ireturn, 1) := by decide +kernel
theorem dX7_total_0 : decode cX7_total 0 = .ok (.lconst 0, 1) := by decide +kernel
theorem dX7_total_1 : decode cX7_total 1 = .ok (.lstore_n 1, 1) := by decide +kernel
theorem dX7_total_2 : decode cX7_total 2 = .ok (.iconst 0, 1) := by decide +kernel
theorem dX7_total_3 : decode cX7_total 3 = .ok (.istore_n 3, 1) := by decide +kernel
theorem dX7_total_4 : decode cX7_total 4 = .ok (.iload_n 3, 1) := by decide +kernel
theorem dX7_total_5 : decode cX7_total 5 = .ok (.aload_n 0, 1) := by decide +kernel
theorem dX7_total_6 : decode cX7_total 6 = .ok (.getfield 88, 3) := by decide +kernel
theorem dX7_total_9 : decode cX7_total 9 = .ok (.if_icmp .ge 28, 3) := by decide +kernel
theorem dX7_total_12 : decode cX7_total 12 = .ok (.aload_n 0, 1) := by decide +kernel
theorem dX7_total_13 : decode cX7_total 13 = .ok (.getfield 23, 3) := by decide +kernel
theorem dX7_total_16 : decode cX7_total 16 = .ok (.iload_n 3, 1) := by decide +kernel
theorem dX7_total_17 : decode cX7_total 17 = .ok (.iaload, 1) := by decide +kernel
theorem dX7_total_18 : decode cX7_total 18 = .ok (.iconst 1, 1) := by decide +kernel
theorem dX7_total_19 : decode cX7_total 19 = .ok (.if_icmp .ne 12, 3) := by decide +kernel
theorem dX7_total_22 : decode cX7_total 22 = .ok (.lload_n 1, 1) := by decide +kernel
theorem dX7_total_23 : decode cX7_total 23 = .ok (.aload_n 0, 1) := by decide +kernel
theorem dX7_total_24 : decode cX7_total 24 = .ok (.getfield 29, 3) := by decide +kernel
theorem dX7_total_27 : decode cX7_total 27 = .ok (.iload_n 3, 1) := by decide +kernel
theorem dX7_total_28 : decode cX7_total 28 = .ok (.laload, 1) := by decide +kernel
theorem dX7_total_29 : decode cX7_total 29 = .ok (.ladd, 1) := by decide +kernel
theorem dX7_total_30 : decode cX7_total 30 = .ok (.lstore_n 1, 1) := by decide +kernel
theorem dX7_total_31 : decode cX7_total 31 = .ok (.iinc 3 1, 3) := by decide +kernel
theorem dX7_total_34 : decode cX7_total 34 = .ok (.goto (-30), 3) := by decide +kernel
theorem dX7_total_37 : decode cX7_total 37 = .ok (.lload_n 1, 1) := by decide +kernel
theorem dX7_total_38 : decode cX7_total 38 = .ok (.lreturn, 1) := by decide +kernel
theorem dX7_together_0 : decode cX7_together 0 = .ok (.aload_n 0, 1) := by decide +kernel
theorem dX7_together_1 : decode cX7_together 1 = .ok (.iload_n 1, 1) := by decide +kernel
theorem dX7_together_2 : decode cX7_together 2 = .ok (.invokevirtual 129, 3) := by decide +kernel
theorem dX7_together_5 : decode cX7_together 5 = .ok (.ifCond .eq 11, 3) := by decide +kernel
theorem dX7_together_8 : decode cX7_together 8 = .ok (.aload_n 0, 1) := by decide +kernel
theorem dX7_together_9 : decode cX7_together 9 = .ok (.iload_n 2, 1) := by decide +kernel
theorem dX7_together_10 : decode cX7_together 10 = .ok (.invokevirtual 129, 3) := by decide +kernel
theorem dX7_together_13 : decode cX7_together 13 = .ok (.ifCond .ne 6, 3) := by decide +kernel
theorem dX7_together_16 : decode cX7_together 16 = .ok (.bipush (-2), 2) := by decide +kernel
theorem dX7_together_18 : decode cX7_together 18 = .ok (.ireturn, 1) := by decide +kernel
theorem dX7_together_19 : decode cX7_together 19 = .ok (.aload_n 0, 1) := by decide +kernel
theorem dX7_together_20 : decode cX7_together 20 = .ok (.iload_n 1, 1) := by decide +kernel
theorem dX7_together_21 : decode cX7_together 21 = .ok (.iload_n 2, 1) := by decide +kernel
theorem dX7_together_22 : decode cX7_together 22 = .ok (.invokevirtual 133, 3) := by decide +kernel
theorem dX7_together_25 : decode cX7_together 25 = .ok (.ifCond .eq 7, 3) := by decide +kernel
theorem dX7_together_28 : decode cX7_together 28 = .ok (.iconst 1, 1) := by decide +kernel
theorem dX7_together_29 : decode cX7_together 29 = .ok (.goto 4, 3) := by decide +kernel
theorem dX7_together_32 : decode cX7_together 32 = .ok (.iconst 0, 1) := by decide +kernel
theorem dX7_together_33 : decode cX7_together 33 = .ok (.ireturn, 1) := by decide +kernel
theorem dX7_size_0 : decode cX7_size 0 = .ok (.aload_n 0, 1) := by decide +kernel
theorem dX7_size_1 : decode cX7_size 1 = .ok (.iload_n 1, 1) := by decide +kernel
theorem dX7_size_2 : decode cX7_size 2 = .ok (.invokevirtual 129, 3) := by decide +kernel
theorem dX7_size_5 : decode cX7_size 5 = .ok (.ifCond .eq 11, 3) := by decide +kernel
theorem dX7_size_8 : decode cX7_size 8 = .ok (.aload_n 0, 1) := by decide +kernel
theorem dX7_size_9 : decode cX7_size 9 = .ok (.iload_n 1, 1) := by decide +kernel
theorem dX7_size_10 : decode cX7_size 10 = .ok (.invokevirtual 115, 3) := by decide +kernel
theorem dX7_size_13 : decode cX7_size 13 = .ok (.goto 5, 3) := by decide +kernel
theorem dX7_size_16 : decode cX7_size 16 = .ok (.bipush (-2), 2) := by decide +kernel
theorem dX7_size_18 : decode cX7_size 18 = .ok (.ireturn, 1) := by decide +kernel
theorem dX7_member_0 : decode cX7_member 0 = .ok (.aload_n 0, 1) := by decide +kernel
theorem dX7_member_1 : decode cX7_member 1 = .ok (.iload_n 1, 1) := by decide +kernel
end
section
theorem dX7_member_2 : decode cX7_member 2 = .ok (.invokevirtual 129, 3) := by decide +kernel
theorem dX7_member_5 : decode cX7_member 5 = .ok (.ifCond .ne 6, 3) := by decide +kernel
theorem dX7_member_8 : decode cX7_member 8 = .ok (.bipush (-2), 2) := by decide +kernel
theorem dX7_member_10 : decode cX7_member 10 = .ok (.ireturn, 1) := by decide +kernel
theorem dX7_member_11 : decode cX7_member 11 = .ok (.aload_n 0, 1) := by decide +kernel
theorem dX7_member_12 : decode cX7_member 12 = .ok (.iload_n 1, 1) := by decide +kernel
theorem dX7_member_13 : decode cX7_member 13 = .ok (.invokevirtual 115, 3) := by decide +kernel
theorem dX7_member_16 : decode cX7_member 16 = .ok (.pop, 1) := by decide +kernel
theorem dX7_member_17 : decode cX7_member 17 = .ok (.iconst 0, 1) := by decide +kernel
theorem dX7_member_18 : decode cX7_member 18 = .ok (.istore_n 3, 1) := by decide +kernel
theorem dX7_member_19 : decode cX7_member 19 = .ok (.iconst 0, 1) := by decide +kernel
theorem dX7_member_20 : decode cX7_member 20 = .ok (.istore 4, 2) := by decide +kernel
theorem dX7_member_22 : decode cX7_member 22 = .ok (.iload 4, 2) := by decide +kernel
theorem dX7_member_24 : decode cX7_member 24 = .ok (.aload_n 0, 1) := by decide +kernel
theorem dX7_member_25 : decode cX7_member 25 = .ok (.getfield 84, 3) := by decide +kernel
theorem dX7_member_28 : decode cX7_member 28 = .ok (.if_icmp .ge 30, 3) := by decide +kernel
theorem dX7_member_31 : decode cX7_member 31 = .ok (.aload_n 0, 1) := by decide +kernel
theorem dX7_member_32 : decode cX7_member 32 = .ok (.getfield 53, 3) := by decide +kernel
theorem dX7_member_35 : decode cX7_member 35 = .ok (.iload 4, 2) := by decide +kernel
theorem dX7_member_37 : decode cX7_member 37 = .ok (.baload, 1) := by decide +kernel
theorem dX7_member_38 : decode cX7_member 38 = .ok (.ifCond .eq 14, 3) := by decide +kernel
theorem dX7_member_41 : decode cX7_member 41 = .ok (.iload_n 3, 1) := by decide +kernel
theorem dX7_member_42 : decode cX7_member 42 = .ok (.iinc 3 1, 3) := by decide +kernel
theorem dX7_member_45 : decode cX7_member 45 = .ok (.iload_n 2, 1) := by decide +kernel
theorem dX7_member_46 : decode cX7_member 46 = .ok (.if_icmp .ne 6, 3) := by decide +kernel
theorem dX7_member_49 : decode cX7_member 49 = .ok (.iload 4, 2) := by decide +kernel
theorem dX7_member_51 : decode cX7_member 51 = .ok (.ireturn, 1) := by decide +kernel
theorem dX7_member_52 : decode cX7_member 52 = .ok (.iinc 4 1, 3) := by decide +kernel
theorem dX7_member_55 : decode cX7_member 55 = .ok (.goto (-33), 3) := by decide +kernel
theorem dX7_member_58 : decode cX7_member 58 = .ok (.iconst (-1), 1) := by decide +kernel
theorem dX7_member_59 : decode cX7_member 59 = .ok (.ireturn, 1) := by decide +kernel
theorem dX7_way_0 : decode cX7_way 0 = .ok (.aload_n 0, 1) := by decide +kernel
theorem dX7_way_1 : decode cX7_way 1 = .ok (.iload_n 1, 1) := by decide +kernel
theorem dX7_way_2 : decode cX7_way 2 = .ok (.invokevirtual 129, 3) := by decide +kernel
theorem dX7_way_5 : decode cX7_way 5 = .ok (.ifCond .eq 11, 3) := by decide +kernel
theorem dX7_way_8 : decode cX7_way 8 = .ok (.aload_n 0, 1) := by decide +kernel
theorem dX7_way_9 : decode cX7_way 9 = .ok (.iload_n 2, 1) := by decide +kernel
theorem dX7_way_10 : decode cX7_way 10 = .ok (.invokevirtual 129, 3) := by decide +kernel
theorem dX7_way_13 : decode cX7_way 13 = .ok (.ifCond .ne 6, 3) := by decide +kernel
theorem dX7_way_16 : decode cX7_way 16 = .ok (.bipush (-2), 2) := by decide +kernel
theorem dX7_way_18 : decode cX7_way 18 = .ok (.ireturn, 1) := by decide +kernel
theorem dX7_way_19 : decode cX7_way 19 = .ok (.aload_n 0, 1) := by decide +kernel
theorem dX7_way_20 : decode cX7_way 20 = .ok (.iload_n 1, 1) := by decide +kernel
theorem dX7_way_21 : decode cX7_way 21 = .ok (.iload_n 2, 1) := by decide +kernel
theorem dX7_way_22 : decode cX7_way 22 = .ok (.invokevirtual 139, 3) := by decide +kernel
theorem dX7_way_25 : decode cX7_way 25 = .ok (.ifCond .eq 12, 3) := by decide +kernel
theorem dX7_way_28 : decode cX7_way 28 = .ok (.aload_n 0, 1) := by decide +kernel
theorem dX7_way_29 : decode cX7_way 29 = .ok (.getfield 119, 3) := by decide +kernel
theorem dX7_way_32 : decode cX7_way 32 = .ok (.iconst 1, 1) := by decide +kernel
theorem dX7_way_33 : decode cX7_way 33 = .ok (.isub, 1) := by decide +kernel
theorem dX7_way_34 : decode cX7_way 34 = .ok (.goto 4, 3) := by decide +kernel
theorem dX7_way_37 : decode cX7_way 37 = .ok (.iconst (-1), 1) := by decide +kernel
theorem dX7_way_38 : decode cX7_way 38 = .ok (.ireturn, 1) := by decide +kernel
theorem dX7_between_0 : decode cX7_between 0 = .ok (.aload_n 0, 1) := by decide +kernel
theorem dX7_between_1 : decode cX7_between 1 = .ok (.iload_n 1, 1) := by decide +kernel
theorem dX7_between_2 : decode cX7_between 2 = .ok (.invokevirtual 129, 3) := by decide +kernel
theorem dX7_between_5 : decode cX7_between 5 = .ok (.ifCond .eq 11, 3) := by decide +kernel
theorem dX7_between_8 : decode cX7_between 8 = .ok (.aload_n 0, 1) := by decide +kernel
theorem dX7_between_9 : decode cX7_between 9 = .ok (.iload_n 2, 1) := by decide +kernel
theorem dX7_between_10 : decode cX7_between 10 = .ok (.invokevirtual 129, 3) := by decide +kernel
theorem dX7_between_13 : decode cX7_between 13 = .ok (.ifCond .ne 6, 3) := by decide +kernel
theorem dX7_between_16 : decode cX7_between 16 = .ok (.bipush (-2), 2) := by decide +kernel
theorem dX7_between_18 : decode cX7_between 18 = .ok (.ireturn, 1) := by decide +kernel
theorem dX7_between_19 : decode cX7_between 19 = .ok (.aload_n 0, 1) := by decide +kernel
theorem dX7_between_20 : decode cX7_between 20 = .ok (.iload_n 1, 1) := by decide +kernel
theorem dX7_between_21 : decode cX7_between 21 = .ok (.iload_n 2, 1) := by decide +kernel
theorem dX7_between_22 : decode cX7_between 22 = .ok (.invokevirtual 139, 3) := by decide +kernel
theorem dX7_between_25 : decode cX7_between 25 = .ok (.ifCond .eq 24, 3) := by decide +kernel
theorem dX7_between_28 : decode cX7_between 28 = .ok (.iload_n 3, 1) := by decide +kernel
theorem dX7_between_29 : decode cX7_between 29 = .ok (.ifCond .lt 20, 3) := by decide +kernel
theorem dX7_between_32 : decode cX7_between 32 = .ok (.iload_n 3, 1) := by decide +kernel
theorem dX7_between_33 : decode cX7_between 33 = .ok (.aload_n 0, 1) := by decide +kernel
theorem dX7_between_34 : decode cX7_between 34 = .ok (.getfield 119, 3) := by decide +kernel
theorem dX7_between_37 : decode cX7_between 37 = .ok (.if_icmp .ge 12, 3) := by decide +kernel
theorem dX7_between_40 : decode cX7_between 40 = .ok (.aload_n 0, 1) := by decide +kernel
theorem dX7_between_41 : decode cX7_between 41 = .ok (.getfield 66, 3) := by decide +kernel
theorem dX7_between_44 : decode cX7_between 44 = .ok (.iload_n 3, 1) := by decide +kernel
theorem dX7_between_45 : decode cX7_between 45 = .ok (.iaload, 1) := by decide +kernel
theorem dX7_between_46 : decode cX7_between 46 = .ok (.goto 4, 3) := by decide +kernel
theorem dX7_between_49 : decode cX7_between 49 = .ok (.iconst (-1), 1) := by decide +kernel
theorem dX7_between_50 : decode cX7_between 50 = .ok (.ireturn, 1) := by decide +kernel
theorem dX7_heaviest_0 : decode cX7_heaviest 0 = .ok (.aload_n 0, 1) := by decide +kernel
theorem dX7_heaviest_1 : decode cX7_heaviest 1 = .ok (.iload_n 1, 1) := by decide +kernel
theorem dX7_heaviest_2 : decode cX7_heaviest 2 = .ok (.invokevirtual 129, 3) := by decide +kernel
theorem dX7_heaviest_5 : decode cX7_heaviest 5 = .ok (.ifCond .eq 11, 3) := by decide +kernel
theorem dX7_heaviest_8 : decode cX7_heaviest 8 = .ok (.aload_n 0, 1) := by decide +kernel
theorem dX7_heaviest_9 : decode cX7_heaviest 9 = .ok (.iload_n 2, 1) := by decide +kernel
theorem dX7_heaviest_10 : decode cX7_heaviest 10 = .ok (.invokevirtual 129, 3) := by decide +kernel
theorem dX7_heaviest_13 : decode cX7_heaviest 13 = .ok (.ifCond .ne 6, 3) := by decide +kernel
theorem dX7_heaviest_16 : decode cX7_heaviest 16 = .ok (.bipush (-2), 2) := by decide +kernel
theorem dX7_heaviest_18 : decode cX7_heaviest 18 = .ok (.ireturn, 1) := by decide +kernel
theorem dX7_heaviest_19 : decode cX7_heaviest 19 = .ok (.aload_n 0, 1) := by decide +kernel
theorem dX7_heaviest_20 : decode cX7_heaviest 20 = .ok (.iload_n 1, 1) := by decide +kernel
theorem dX7_heaviest_21 : decode cX7_heaviest 21 = .ok (.iload_n 2, 1) := by decide +kernel
theorem dX7_heaviest_22 : decode cX7_heaviest 22 = .ok (.invokevirtual 139, 3) := by decide +kernel
theorem dX7_heaviest_25 : decode cX7_heaviest 25 = .ok (.ifCond .eq 10, 3) := by decide +kernel
theorem dX7_heaviest_28 : decode cX7_heaviest 28 = .ok (.aload_n 0, 1) := by decide +kernel
theorem dX7_heaviest_29 : decode cX7_heaviest 29 = .ok (.invokevirtual 142, 3) := by decide +kernel
theorem dX7_heaviest_32 : decode cX7_heaviest 32 = .ok (.goto 4, 3) := by decide +kernel
theorem dX7_heaviest_35 : decode cX7_heaviest 35 = .ok (.iconst (-1), 1) := by decide +kernel
theorem dX7_heaviest_36 : decode cX7_heaviest 36 = .ok (.ireturn, 1) := by decide +kernel
theorem dX7_sum_0 : decode cX7_sum 0 = .ok (.aload_n 0, 1) := by decide +kernel
theorem dX7_sum_1 : decode cX7_sum 1 = .ok (.iload_n 1, 1) := by decide +kernel
theorem dX7_sum_2 : decode cX7_sum 2 = .ok (.invokevirtual 129, 3) := by decide +kernel
theorem dX7_sum_5 : decode cX7_sum 5 = .ok (.ifCond .eq 20, 3) := by decide +kernel
theorem dX7_sum_8 : decode cX7_sum 8 = .ok (.aload_n 0, 1) := by decide +kernel
theorem dX7_sum_9 : decode cX7_sum 9 = .ok (.iload_n 2, 1) := by decide +kernel
theorem dX7_sum_10 : decode cX7_sum 10 = .ok (.invokevirtual 129, 3) := by decide +kernel
theorem dX7_sum_13 : decode cX7_sum 13 = .ok (.ifCond .eq 12, 3) := by decide +kernel
theorem dX7_sum_16 : decode cX7_sum 16 = .ok (.aload_n 0, 1) := by decide +kernel
theorem dX7_sum_17 : decode cX7_sum 17 = .ok (.iload_n 1, 1) := by decide +kernel
theorem dX7_sum_18 : decode cX7_sum 18 = .ok (.iload_n 2, 1) := by decide +kernel
theorem dX7_sum_19 : decode cX7_sum 19 = .ok (.invokevirtual 139, 3) := by decide +kernel
theorem dX7_sum_22 : decode cX7_sum 22 = .ok (.ifCond .ne 7, 3) := by decide +kernel
theorem dX7_sum_25 : decode cX7_sum 25 = .ok (.ldc2_w 161, 3) := by decide +kernel
theorem dX7_sum_28 : decode cX7_sum 28 = .ok (.lreturn, 1) := by decide +kernel
theorem dX7_sum_29 : decode cX7_sum 29 = .ok (.lconst 0, 1) := by decide +kernel
theorem dX7_sum_30 : decode cX7_sum 30 = .ok (.lstore_n 3, 1) := by decide +kernel
theorem dX7_sum_31 : decode cX7_sum 31 = .ok (.iconst 0, 1) := by decide +kernel
theorem dX7_sum_32 : decode cX7_sum 32 = .ok (.istore 5, 2) := by decide +kernel
theorem dX7_sum_34 : decode cX7_sum 34 = .ok (.iload 5, 2) := by decide +kernel
theorem dX7_sum_36 : decode cX7_sum 36 = .ok (.aload_n 0, 1) := by decide +kernel
theorem dX7_sum_37 : decode cX7_sum 37 = .ok (.getfield 119, 3) := by decide +kernel
theorem dX7_sum_40 : decode cX7_sum 40 = .ok (.if_icmp .ge 24, 3) := by decide +kernel
theorem dX7_sum_43 : decode cX7_sum 43 = .ok (.lload_n 3, 1) := by decide +kernel
theorem dX7_sum_44 : decode cX7_sum 44 = .ok (.aload_n 0, 1) := by decide +kernel
theorem dX7_sum_45 : decode cX7_sum 45 = .ok (.getfield 7, 3) := by decide +kernel
theorem dX7_sum_48 : decode cX7_sum 48 = .ok (.aload_n 0, 1) := by decide +kernel
theorem dX7_sum_49 : decode cX7_sum 49 = .ok (.getfield 66, 3) := by decide +kernel
theorem dX7_sum_52 : decode cX7_sum 52 = .ok (.iload 5, 2) := by decide +kernel
theorem dX7_sum_54 : decode cX7_sum 54 = .ok (.iaload, 1) := by decide +kernel
theorem dX7_sum_55 : decode cX7_sum 55 = .ok (.laload, 1) := by decide +kernel
theorem dX7_sum_56 : decode cX7_sum 56 = .ok (.ladd, 1) := by decide +kernel
theorem dX7_sum_57 : decode cX7_sum 57 = .ok (.lstore_n 3, 1) := by decide +kernel
theorem dX7_sum_58 : decode cX7_sum 58 = .ok (.iinc 5 1, 3) := by decide +kernel
theorem dX7_sum_61 : decode cX7_sum 61 = .ok (.goto (-27), 3) := by decide +kernel
theorem dX7_sum_64 : decode cX7_sum 64 = .ok (.lload_n 3, 1) := by decide +kernel
theorem dX7_sum_65 : decode cX7_sum 65 = .ok (.lreturn, 1) := by decide +kernel
theorem dX7_least_0 : decode cX7_least 0 = .ok (.aload_n 0, 1) := by decide +kernel
theorem dX7_least_1 : decode cX7_least 1 = .ok (.iload_n 1, 1) := by decide +kernel
theorem dX7_least_2 : decode cX7_least 2 = .ok (.invokevirtual 129, 3) := by decide +kernel
theorem dX7_least_5 : decode cX7_least 5 = .ok (.ifCond .eq 20, 3) := by decide +kernel
theorem dX7_least_8 : decode cX7_least 8 = .ok (.aload_n 0, 1) := by decide +kernel
theorem dX7_least_9 : decode cX7_least 9 = .ok (.iload_n 2, 1) := by decide +kernel
theorem dX7_least_10 : decode cX7_least 10 = .ok (.invokevirtual 129, 3) := by decide +kernel
theorem dX7_least_13 : decode cX7_least 13 = .ok (.ifCond .eq 12, 3) := by decide +kernel
theorem dX7_least_16 : decode cX7_least 16 = .ok (.aload_n 0, 1) := by decide +kernel
theorem dX7_least_17 : decode cX7_least 17 = .ok (.iload_n 1, 1) := by decide +kernel
theorem dX7_least_18 : decode cX7_least 18 = .ok (.iload_n 2, 1) := by decide +kernel
theorem dX7_least_19 : decode cX7_least 19 = .ok (.invokevirtual 139, 3) := by decide +kernel
theorem dX7_least_22 : decode cX7_least 22 = .ok (.ifCond .ne 7, 3) := by decide +kernel
theorem dX7_least_25 : decode cX7_least 25 = .ok (.ldc2_w 161, 3) := by decide +kernel
theorem dX7_least_28 : decode cX7_least 28 = .ok (.lreturn, 1) := by decide +kernel
theorem dX7_least_29 : decode cX7_least 29 = .ok (.aload_n 0, 1) := by decide +kernel
theorem dX7_least_30 : decode cX7_least 30 = .ok (.getfield 7, 3) := by decide +kernel
theorem dX7_least_33 : decode cX7_least 33 = .ok (.iload_n 1, 1) := by decide +kernel
theorem dX7_least_34 : decode cX7_least 34 = .ok (.laload, 1) := by decide +kernel
theorem dX7_least_35 : decode cX7_least 35 = .ok (.lstore_n 3, 1) := by decide +kernel
theorem dX7_least_36 : decode cX7_least 36 = .ok (.iconst 0, 1) := by decide +kernel
theorem dX7_least_37 : decode cX7_least 37 = .ok (.istore 5, 2) := by decide +kernel
theorem dX7_least_39 : decode cX7_least 39 = .ok (.iload 5, 2) := by decide +kernel
theorem dX7_least_41 : decode cX7_least 41 = .ok (.aload_n 0, 1) := by decide +kernel
theorem dX7_least_42 : decode cX7_least 42 = .ok (.getfield 119, 3) := by decide +kernel
theorem dX7_least_45 : decode cX7_least 45 = .ok (.if_icmp .ge 39, 3) := by decide +kernel
theorem dX7_least_48 : decode cX7_least 48 = .ok (.aload_n 0, 1) := by decide +kernel
theorem dX7_least_49 : decode cX7_least 49 = .ok (.getfield 7, 3) := by decide +kernel
theorem dX7_least_52 : decode cX7_least 52 = .ok (.aload_n 0, 1) := by decide +kernel
theorem dX7_least_53 : decode cX7_least 53 = .ok (.getfield 66, 3) := by decide +kernel
theorem dX7_least_56 : decode cX7_least 56 = .ok (.iload 5, 2) := by decide +kernel
theorem dX7_least_58 : decode cX7_least 58 = .ok (.iaload, 1) := by decide +kernel
theorem dX7_least_59 : decode cX7_least 59 = .ok (.laload, 1) := by decide +kernel
theorem dX7_least_60 : decode cX7_least 60 = .ok (.lload_n 3, 1) := by decide +kernel
theorem dX7_least_61 : decode cX7_least 61 = .ok (.lcmp, 1) := by decide +kernel
theorem dX7_least_62 : decode cX7_least 62 = .ok (.ifCond .ge 16, 3) := by decide +kernel
theorem dX7_least_65 : decode cX7_least 65 = .ok (.aload_n 0, 1) := by decide +kernel
theorem dX7_least_66 : decode cX7_least 66 = .ok (.getfield 7, 3) := by decide +kernel
theorem dX7_least_69 : decode cX7_least 69 = .ok (.aload_n 0, 1) := by decide +kernel
theorem dX7_least_70 : decode cX7_least 70 = .ok (.getfield 66, 3) := by decide +kernel
theorem dX7_least_73 : decode cX7_least 73 = .ok (.iload 5, 2) := by decide +kernel
theorem dX7_least_75 : decode cX7_least 75 = .ok (.iaload, 1) := by decide +kernel
theorem dX7_least_76 : decode cX7_least 76 = .ok (.laload, 1) := by decide +kernel
theorem dX7_least_77 : decode cX7_least 77 = .ok (.lstore_n 3, 1) := by decide +kernel
theorem dX7_least_78 : decode cX7_least 78 = .ok (.iinc 5 1, 3) := by decide +kernel
theorem dX7_least_81 : decode cX7_least 81 = .ok (.goto (-42), 3) := by decide +kernel
theorem dX7_least_84 : decode cX7_least 84 = .ok (.lload_n 3, 1) := by decide +kernel
theorem dX7_least_85 : decode cX7_least 85 = .ok (.lreturn, 1) := by decide +kernel
theorem dX7_add_0 : decode cX7_add 0 = .ok (.aload_n 0, 1) := by decide +kernel
theorem dX7_add_1 : decode cX7_add 1 = .ok (.iload_n 1, 1) := by decide +kernel
theorem dX7_add_2 : decode cX7_add 2 = .ok (.invokevirtual 129, 3) := by decide +kernel
theorem dX7_add_5 : decode cX7_add 5 = .ok (.ifCond .eq 11, 3) := by decide +kernel
theorem dX7_add_8 : decode cX7_add 8 = .ok (.aload_n 0, 1) := by decide +kernel
theorem dX7_add_9 : decode cX7_add 9 = .ok (.iload_n 2, 1) := by decide +kernel
theorem dX7_add_10 : decode cX7_add 10 = .ok (.invokevirtual 129, 3) := by decide +kernel
theorem dX7_add_13 : decode cX7_add 13 = .ok (.ifCond .ne 6, 3) := by decide +kernel
theorem dX7_add_16 : decode cX7_add 16 = .ok (.bipush (-2), 2) := by decide +kernel
theorem dX7_add_18 : decode cX7_add 18 = .ok (.ireturn, 1) := by decide +kernel
theorem dX7_add_19 : decode cX7_add 19 = .ok (.aload_n 0, 1) := by decide +kernel
theorem dX7_add_20 : decode cX7_add 20 = .ok (.iload_n 1, 1) := by decide +kernel
theorem dX7_add_21 : decode cX7_add 21 = .ok (.iload_n 2, 1) := by decide +kernel
theorem dX7_add_22 : decode cX7_add 22 = .ok (.invokevirtual 139, 3) := by decide +kernel
theorem dX7_add_25 : decode cX7_add 25 = .ok (.ifCond .ne 6, 3) := by decide +kernel
theorem dX7_add_28 : decode cX7_add 28 = .ok (.bipush (-3), 2) := by decide +kernel
theorem dX7_add_30 : decode cX7_add 30 = .ok (.ireturn, 1) := by decide +kernel
theorem dX7_add_31 : decode cX7_add 31 = .ok (.aload_n 0, 1) := by decide +kernel
theorem dX7_add_32 : decode cX7_add 32 = .ok (.invokevirtual 136, 3) := by decide +kernel
theorem dX7_add_35 : decode cX7_add 35 = .ok (.iconst 0, 1) := by decide +kernel
theorem dX7_add_36 : decode cX7_add 36 = .ok (.istore 5, 2) := by decide +kernel
theorem dX7_add_38 : decode cX7_add 38 = .ok (.iload 5, 2) := by decide +kernel
theorem dX7_add_40 : decode cX7_add 40 = .ok (.aload_n 0, 1) := by decide +kernel
theorem dX7_add_41 : decode cX7_add 41 = .ok (.getfield 119, 3) := by decide +kernel
theorem dX7_add_44 : decode cX7_add 44 = .ok (.if_icmp .ge 25, 3) := by decide +kernel
theorem dX7_add_47 : decode cX7_add 47 = .ok (.aload_n 0, 1) := by decide +kernel
theorem dX7_add_48 : decode cX7_add 48 = .ok (.getfield 7, 3) := by decide +kernel
theorem dX7_add_51 : decode cX7_add 51 = .ok (.aload_n 0, 1) := by decide +kernel
theorem dX7_add_52 : decode cX7_add 52 = .ok (.getfield 66, 3) := by decide +kernel
theorem dX7_add_55 : decode cX7_add 55 = .ok (.iload 5, 2) := by decide +kernel
theorem dX7_add_57 : decode cX7_add 57 = .ok (.iaload, 1) := by decide +kernel
theorem dX7_add_58 : decode cX7_add 58 = .ok (.dup2, 1) := by decide +kernel
theorem dX7_add_59 : decode cX7_add 59 = .ok (.laload, 1) := by decide +kernel
theorem dX7_add_60 : decode cX7_add 60 = .ok (.lload_n 3, 1) := by decide +kernel
theorem dX7_add_61 : decode cX7_add 61 = .ok (.ladd, 1) := by decide +kernel
theorem dX7_add_62 : decode cX7_add 62 = .ok (.lastore, 1) := by decide +kernel
theorem dX7_add_63 : decode cX7_add 63 = .ok (.iinc 5 1, 3) := by decide +kernel
theorem dX7_add_66 : decode cX7_add 66 = .ok (.goto (-28), 3) := by decide +kernel
theorem dX7_add_69 : decode cX7_add 69 = .ok (.aload_n 0, 1) := by decide +kernel
theorem dX7_add_70 : decode cX7_add 70 = .ok (.getfield 119, 3) := by decide +kernel
theorem dX7_add_73 : decode cX7_add 73 = .ok (.ireturn, 1) := by decide +kernel
theorem dX7_value_0 : decode cX7_value 0 = .ok (.aload_n 0, 1) := by decide +kernel
theorem dX7_value_1 : decode cX7_value 1 = .ok (.iload_n 1, 1) := by decide +kernel
theorem dX7_value_2 : decode cX7_value 2 = .ok (.invokevirtual 129, 3) := by decide +kernel
theorem dX7_value_5 : decode cX7_value 5 = .ok (.ifCond .eq 12, 3) := by decide +kernel
theorem dX7_value_8 : decode cX7_value 8 = .ok (.aload_n 0, 1) := by decide +kernel
theorem dX7_value_9 : decode cX7_value 9 = .ok (.getfield 7, 3) := by decide +kernel
theorem dX7_value_12 : decode cX7_value 12 = .ok (.iload_n 1, 1) := by decide +kernel
theorem dX7_value_13 : decode cX7_value 13 = .ok (.laload, 1) := by decide +kernel
theorem dX7_value_14 : decode cX7_value 14 = .ok (.goto 6, 3) := by decide +kernel
theorem dX7_value_17 : decode cX7_value 17 = .ok (.ldc2_w 161, 3) := by decide +kernel
theorem dX7_value_20 : decode cX7_value 20 = .ok (.lreturn, 1) := by decide +kernel
theorem dX7_set_0 : decode cX7_set 0 = .ok (.aload_n 0, 1) := by decide +kernel
theorem dX7_set_1 : decode cX7_set 1 = .ok (.iload_n 1, 1) := by decide +kernel
theorem dX7_set_2 : decode cX7_set 2 = .ok (.invokevirtual 129, 3) := by decide +kernel
theorem dX7_set_5 : decode cX7_set 5 = .ok (.ifCond .ne 6, 3) := by decide +kernel
theorem dX7_set_8 : decode cX7_set 8 = .ok (.bipush (-2), 2) := by decide +kernel
theorem dX7_set_10 : decode cX7_set 10 = .ok (.ireturn, 1) := by decide +kernel
theorem dX7_set_11 : decode cX7_set 11 = .ok (.aload_n 0, 1) := by decide +kernel
theorem dX7_set_12 : decode cX7_set 12 = .ok (.invokevirtual 136, 3) := by decide +kernel
theorem dX7_set_15 : decode cX7_set 15 = .ok (.aload_n 0, 1) := by decide +kernel
theorem dX7_set_16 : decode cX7_set 16 = .ok (.getfield 7, 3) := by decide +kernel
theorem dX7_set_19 : decode cX7_set 19 = .ok (.iload_n 1, 1) := by decide +kernel
theorem dX7_set_20 : decode cX7_set 20 = .ok (.lload_n 2, 1) := by decide +kernel
theorem dX7_set_21 : decode cX7_set 21 = .ok (.lastore, 1) := by decide +kernel
theorem dX7_set_22 : decode cX7_set 22 = .ok (.iconst 1, 1) := by decide +kernel
theorem dX7_set_23 : decode cX7_set 23 = .ok (.ireturn, 1) := by decide +kernel
theorem dX7_root_0 : decode cX7_root 0 = .ok (.aload_n 0, 1) := by decide +kernel
theorem dX7_root_1 : decode cX7_root 1 = .ok (.iload_n 1, 1) := by decide +kernel
theorem dX7_root_2 : decode cX7_root 2 = .ok (.invokevirtual 129, 3) := by decide +kernel
theorem dX7_root_5 : decode cX7_root 5 = .ok (.ifCond .ne 6, 3) := by decide +kernel
theorem dX7_root_8 : decode cX7_root 8 = .ok (.bipush (-2), 2) := by decide +kernel
theorem dX7_root_10 : decode cX7_root 10 = .ok (.ireturn, 1) := by decide +kernel
theorem dX7_root_11 : decode cX7_root 11 = .ok (.aload_n 0, 1) := by decide +kernel
theorem dX7_root_12 : decode cX7_root 12 = .ok (.iload_n 1, 1) := by decide +kernel
theorem dX7_root_13 : decode cX7_root 13 = .ok (.invokevirtual 169, 3) := by decide +kernel
theorem dX7_root_16 : decode cX7_root 16 = .ok (.istore_n 2, 1) := by decide +kernel
theorem dX7_root_17 : decode cX7_root 17 = .ok (.aload_n 0, 1) := by decide +kernel
theorem dX7_root_18 : decode cX7_root 18 = .ok (.invokevirtual 136, 3) := by decide +kernel
theorem dX7_root_21 : decode cX7_root 21 = .ok (.aload_n 0, 1) := by decide +kernel
theorem dX7_root_22 : decode cX7_root 22 = .ok (.getfield 13, 3) := by decide +kernel
theorem dX7_root_25 : decode cX7_root 25 = .ok (.iload_n 1, 1) := by decide +kernel
theorem dX7_root_26 : decode cX7_root 26 = .ok (.aload_n 0, 1) := by decide +kernel
theorem dX7_root_27 : decode cX7_root 27 = .ok (.dup, 1) := by decide +kernel
theorem dX7_root_28 : decode cX7_root 28 = .ok (.getfield 91, 3) := by decide +kernel
theorem dX7_root_31 : decode cX7_root 31 = .ok (.iconst 1, 1) := by decide +kernel
theorem dX7_root_32 : decode cX7_root 32 = .ok (.iadd, 1) := by decide +kernel
theorem dX7_root_33 : decode cX7_root 33 = .ok (.dup_x1, 1) := by decide +kernel
theorem dX7_root_34 : decode cX7_root 34 = .ok (.putfield 91, 3) := by decide +kernel
theorem dX7_root_37 : decode cX7_root 37 = .ok (.iastore, 1) := by decide +kernel
theorem dX7_root_38 : decode cX7_root 38 = .ok (.iload_n 2, 1) := by decide +kernel
theorem dX7_root_39 : decode cX7_root 39 = .ok (.ireturn, 1) := by decide +kernel
theorem dX7_marksBelow_0 : decode cX7_marksBelow 0 = .ok (.aload_n 0, 1) := by decide +kernel
theorem dX7_marksBelow_1 : decode cX7_marksBelow 1 = .ok (.iload_n 1, 1) := by decide +kernel
theorem dX7_marksBelow_2 : decode cX7_marksBelow 2 = .ok (.invokevirtual 169, 3) := by decide +kernel
theorem dX7_marksBelow_5 : decode cX7_marksBelow 5 = .ok (.istore_n 2, 1) := by decide +kernel
theorem dX7_marksBelow_6 : decode cX7_marksBelow 6 = .ok (.iconst 0, 1) := by decide +kernel
theorem dX7_marksBelow_7 : decode cX7_marksBelow 7 = .ok (.istore_n 3, 1) := by decide +kernel
theorem dX7_marksBelow_8 : decode cX7_marksBelow 8 = .ok (.iconst 0, 1) := by decide +kernel
theorem dX7_marksBelow_9 : decode cX7_marksBelow 9 = .ok (.istore 4, 2) := by decide +kernel
theorem dX7_marksBelow_11 : decode cX7_marksBelow 11 = .ok (.iload 4, 2) := by decide +kernel
theorem dX7_marksBelow_13 : decode cX7_marksBelow 13 = .ok (.aload_n 0, 1) := by decide +kernel
theorem dX7_marksBelow_14 : decode cX7_marksBelow 14 = .ok (.getfield 84, 3) := by decide +kernel
theorem dX7_marksBelow_17 : decode cX7_marksBelow 17 = .ok (.if_icmp .ge 80, 3) := by decide +kernel
theorem dX7_marksBelow_20 : decode cX7_marksBelow 20 = .ok (.aload_n 0, 1) := by decide +kernel
theorem dX7_marksBelow_21 : decode cX7_marksBelow 21 = .ok (.getfield 57, 3) := by decide +kernel
theorem dX7_marksBelow_24 : decode cX7_marksBelow 24 = .ok (.iload 4, 2) := by decide +kernel
theorem dX7_marksBelow_26 : decode cX7_marksBelow 26 = .ok (.iconst 0, 1) := by decide +kernel
theorem dX7_marksBelow_27 : decode cX7_marksBelow 27 = .ok (.bastore, 1) := by decide +kernel
theorem dX7_marksBelow_28 : decode cX7_marksBelow 28 = .ok (.aload_n 0, 1) := by decide +kernel
theorem dX7_marksBelow_29 : decode cX7_marksBelow 29 = .ok (.iload 4, 2) := by decide +kernel
theorem dX7_marksBelow_31 : decode cX7_marksBelow 31 = .ok (.iload_n 2, 1) := by decide +kernel
theorem dX7_marksBelow_32 : decode cX7_marksBelow 32 = .ok (.invokevirtual 139, 3) := by decide +kernel
theorem dX7_marksBelow_35 : decode cX7_marksBelow 35 = .ok (.ifCond .ne 6, 3) := by decide +kernel
theorem dX7_marksBelow_38 : decode cX7_marksBelow 38 = .ok (.goto 53, 3) := by decide +kernel
theorem dX7_marksBelow_41 : decode cX7_marksBelow 41 = .ok (.iconst 0, 1) := by decide +kernel
theorem dX7_marksBelow_42 : decode cX7_marksBelow 42 = .ok (.istore 5, 2) := by decide +kernel
theorem dX7_marksBelow_44 : decode cX7_marksBelow 44 = .ok (.iload 5, 2) := by decide +kernel
theorem dX7_marksBelow_46 : decode cX7_marksBelow 46 = .ok (.aload_n 0, 1) := by decide +kernel
theorem dX7_marksBelow_47 : decode cX7_marksBelow 47 = .ok (.getfield 119, 3) := by decide +kernel
theorem dX7_marksBelow_50 : decode cX7_marksBelow 50 = .ok (.if_icmp .ge 28, 3) := by decide +kernel
theorem dX7_marksBelow_53 : decode cX7_marksBelow 53 = .ok (.aload_n 0, 1) := by decide +kernel
theorem dX7_marksBelow_54 : decode cX7_marksBelow 54 = .ok (.getfield 66, 3) := by decide +kernel
theorem dX7_marksBelow_57 : decode cX7_marksBelow 57 = .ok (.iload 5, 2) := by decide +kernel
theorem dX7_marksBelow_59 : decode cX7_marksBelow 59 = .ok (.iaload, 1) := by decide +kernel
theorem dX7_marksBelow_60 : decode cX7_marksBelow 60 = .ok (.iload_n 1, 1) := by decide +kernel
theorem dX7_marksBelow_61 : decode cX7_marksBelow 61 = .ok (.if_icmp .ne 11, 3) := by decide +kernel
theorem dX7_marksBelow_64 : decode cX7_marksBelow 64 = .ok (.aload_n 0, 1) := by decide +kernel
theorem dX7_marksBelow_65 : decode cX7_marksBelow 65 = .ok (.getfield 57, 3) := by decide +kernel
theorem dX7_marksBelow_68 : decode cX7_marksBelow 68 = .ok (.iload 4, 2) := by decide +kernel
theorem dX7_marksBelow_70 : decode cX7_marksBelow 70 = .ok (.iconst 1, 1) := by decide +kernel
theorem dX7_marksBelow_71 : decode cX7_marksBelow 71 = .ok (.bastore, 1) := by decide +kernel
theorem dX7_marksBelow_72 : decode cX7_marksBelow 72 = .ok (.iinc 5 1, 3) := by decide +kernel
theorem dX7_marksBelow_75 : decode cX7_marksBelow 75 = .ok (.goto (-31), 3) := by decide +kernel
theorem dX7_marksBelow_78 : decode cX7_marksBelow 78 = .ok (.aload_n 0, 1) := by decide +kernel
theorem dX7_marksBelow_79 : decode cX7_marksBelow 79 = .ok (.getfield 57, 3) := by decide +kernel
theorem dX7_marksBelow_82 : decode cX7_marksBelow 82 = .ok (.iload 4, 2) := by decide +kernel
theorem dX7_marksBelow_84 : decode cX7_marksBelow 84 = .ok (.baload, 1) := by decide +kernel
theorem dX7_marksBelow_85 : decode cX7_marksBelow 85 = .ok (.ifCond .eq 6, 3) := by decide +kernel
theorem dX7_marksBelow_88 : decode cX7_marksBelow 88 = .ok (.iinc 3 1, 3) := by decide +kernel
theorem dX7_marksBelow_91 : decode cX7_marksBelow 91 = .ok (.iinc 4 1, 3) := by decide +kernel
theorem dX7_marksBelow_94 : decode cX7_marksBelow 94 = .ok (.goto (-83), 3) := by decide +kernel
theorem dX7_marksBelow_97 : decode cX7_marksBelow 97 = .ok (.iload_n 3, 1) := by decide +kernel
theorem dX7_marksBelow_98 : decode cX7_marksBelow 98 = .ok (.ireturn, 1) := by decide +kernel
theorem dX7_below_0 : decode cX7_below 0 = .ok (.aload_n 0, 1) := by decide +kernel
theorem dX7_below_1 : decode cX7_below 1 = .ok (.iload_n 1, 1) := by decide +kernel
theorem dX7_below_2 : decode cX7_below 2 = .ok (.invokevirtual 129, 3) := by decide +kernel
theorem dX7_below_5 : decode cX7_below 5 = .ok (.ifCond .eq 12, 3) := by decide +kernel
theorem dX7_below_8 : decode cX7_below 8 = .ok (.iload_n 2, 1) := by decide +kernel
theorem dX7_below_9 : decode cX7_below 9 = .ok (.ifCond .lt 8, 3) := by decide +kernel
theorem dX7_below_12 : decode cX7_below 12 = .ok (.iload_n 2, 1) := by decide +kernel
theorem dX7_below_13 : decode cX7_below 13 = .ok (.iconst 4, 1) := by decide +kernel
theorem dX7_below_14 : decode cX7_below 14 = .ok (.if_icmp .le 6, 3) := by decide +kernel
theorem dX7_below_17 : decode cX7_below 17 = .ok (.bipush (-2), 2) := by decide +kernel
theorem dX7_below_19 : decode cX7_below 19 = .ok (.ireturn, 1) := by decide +kernel
theorem dX7_below_20 : decode cX7_below 20 = .ok (.aload_n 0, 1) := by decide +kernel
theorem dX7_below_21 : decode cX7_below 21 = .ok (.iload_n 1, 1) := by decide +kernel
theorem dX7_below_22 : decode cX7_below 22 = .ok (.invokevirtual 169, 3) := by decide +kernel
theorem dX7_below_25 : decode cX7_below 25 = .ok (.istore_n 3, 1) := by decide +kernel
theorem dX7_below_26 : decode cX7_below 26 = .ok (.iload_n 2, 1) := by decide +kernel
theorem dX7_below_27 : decode cX7_below 27 = .ok (.tableswitch 77 0 3 #[29, 31, 57, 71], 29) := by decide +kernel
theorem dX7_below_56 : decode cX7_below 56 = .ok (.iload_n 3, 1) := by decide +kernel
theorem dX7_below_57 : decode cX7_below 57 = .ok (.ireturn, 1) := by decide +kernel
theorem dX7_below_58 : decode cX7_below 58 = .ok (.aload_n 0, 1) := by decide +kernel
theorem dX7_below_59 : decode cX7_below 59 = .ok (.iload_n 1, 1) := by decide +kernel
theorem dX7_below_60 : decode cX7_below 60 = .ok (.iload_n 3, 1) := by decide +kernel
theorem dX7_below_61 : decode cX7_below 61 = .ok (.invokevirtual 139, 3) := by decide +kernel
theorem dX7_below_64 : decode cX7_below 64 = .ok (.pop, 1) := by decide +kernel
theorem dX7_below_65 : decode cX7_below 65 = .ok (.aload_n 0, 1) := by decide +kernel
theorem dX7_below_66 : decode cX7_below 66 = .ok (.getfield 119, 3) := by decide +kernel
theorem dX7_below_69 : decode cX7_below 69 = .ok (.iconst 1, 1) := by decide +kernel
theorem dX7_below_70 : decode cX7_below 70 = .ok (.if_icmp .le 12, 3) := by decide +kernel
theorem dX7_below_73 : decode cX7_below 73 = .ok (.aload_n 0, 1) := by decide +kernel
theorem dX7_below_74 : decode cX7_below 74 = .ok (.getfield 66, 3) := by decide +kernel
theorem dX7_below_77 : decode cX7_below 77 = .ok (.iconst 1, 1) := by decide +kernel
theorem dX7_below_78 : decode cX7_below 78 = .ok (.iaload, 1) := by decide +kernel
theorem dX7_below_79 : decode cX7_below 79 = .ok (.goto 4, 3) := by decide +kernel
theorem dX7_below_82 : decode cX7_below 82 = .ok (.iconst (-1), 1) := by decide +kernel
theorem dX7_below_83 : decode cX7_below 83 = .ok (.ireturn, 1) := by decide +kernel
theorem dX7_below_84 : decode cX7_below 84 = .ok (.aload_n 0, 1) := by decide +kernel
theorem dX7_below_85 : decode cX7_below 85 = .ok (.iload_n 1, 1) := by decide +kernel
theorem dX7_below_86 : decode cX7_below 86 = .ok (.iload_n 3, 1) := by decide +kernel
theorem dX7_below_87 : decode cX7_below 87 = .ok (.invokevirtual 139, 3) := by decide +kernel
theorem dX7_below_90 : decode cX7_below 90 = .ok (.pop, 1) := by decide +kernel
theorem dX7_below_91 : decode cX7_below 91 = .ok (.aload_n 0, 1) := by decide +kernel
theorem dX7_below_92 : decode cX7_below 92 = .ok (.getfield 119, 3) := by decide +kernel
theorem dX7_below_95 : decode cX7_below 95 = .ok (.iconst 1, 1) := by decide +kernel
theorem dX7_below_96 : decode cX7_below 96 = .ok (.isub, 1) := by decide +kernel
theorem dX7_below_97 : decode cX7_below 97 = .ok (.ireturn, 1) := by decide +kernel
theorem dX7_below_98 : decode cX7_below 98 = .ok (.aload_n 0, 1) := by decide +kernel
theorem dX7_below_99 : decode cX7_below 99 = .ok (.iload_n 1, 1) := by decide +kernel
theorem dX7_below_100 : decode cX7_below 100 = .ok (.invokevirtual 172, 3) := by decide +kernel
theorem dX7_below_103 : decode cX7_below 103 = .ok (.ireturn, 1) := by decide +kernel
theorem dX7_below_104 : decode cX7_below 104 = .ok (.aload_n 0, 1) := by decide +kernel
theorem dX7_below_105 : decode cX7_below 105 = .ok (.iload_n 1, 1) := by decide +kernel
theorem dX7_below_106 : decode cX7_below 106 = .ok (.invokevirtual 166, 3) := by decide +kernel
theorem dX7_below_109 : decode cX7_below 109 = .ok (.ifCond .eq 7, 3) := by decide +kernel
theorem dX7_below_112 : decode cX7_below 112 = .ok (.iconst 1, 1) := by decide +kernel
theorem dX7_below_113 : decode cX7_below 113 = .ok (.goto 4, 3) := by decide +kernel
theorem dX7_below_116 : decode cX7_below 116 = .ok (.iconst 0, 1) := by decide +kernel
theorem dX7_below_117 : decode cX7_below 117 = .ok (.ireturn, 1) := by decide +kernel
theorem dX7_meet_0 : decode cX7_meet 0 = .ok (.aload_n 0, 1) := by decide +kernel
theorem dX7_meet_1 : decode cX7_meet 1 = .ok (.iload_n 1, 1) := by decide +kernel
theorem dX7_meet_2 : decode cX7_meet 2 = .ok (.invokevirtual 129, 3) := by decide +kernel
theorem dX7_meet_5 : decode cX7_meet 5 = .ok (.ifCond .eq 11, 3) := by decide +kernel
theorem dX7_meet_8 : decode cX7_meet 8 = .ok (.aload_n 0, 1) := by decide +kernel
theorem dX7_meet_9 : decode cX7_meet 9 = .ok (.iload_n 2, 1) := by decide +kernel
theorem dX7_meet_10 : decode cX7_meet 10 = .ok (.invokevirtual 129, 3) := by decide +kernel
theorem dX7_meet_13 : decode cX7_meet 13 = .ok (.ifCond .ne 6, 3) := by decide +kernel
theorem dX7_meet_16 : decode cX7_meet 16 = .ok (.bipush (-2), 2) := by decide +kernel
theorem dX7_meet_18 : decode cX7_meet 18 = .ok (.ireturn, 1) := by decide +kernel
theorem dX7_meet_19 : decode cX7_meet 19 = .ok (.aload_n 0, 1) := by decide +kernel
theorem dX7_meet_20 : decode cX7_meet 20 = .ok (.iload_n 1, 1) := by decide +kernel
theorem dX7_meet_21 : decode cX7_meet 21 = .ok (.iload_n 2, 1) := by decide +kernel
theorem dX7_meet_22 : decode cX7_meet 22 = .ok (.invokevirtual 133, 3) := by decide +kernel
theorem dX7_meet_25 : decode cX7_meet 25 = .ok (.ifCond .ne 5, 3) := by decide +kernel
theorem dX7_meet_28 : decode cX7_meet 28 = .ok (.iconst (-1), 1) := by decide +kernel
theorem dX7_meet_29 : decode cX7_meet 29 = .ok (.ireturn, 1) := by decide +kernel
theorem dX7_meet_30 : decode cX7_meet 30 = .ok (.aload_n 0, 1) := by decide +kernel
theorem dX7_meet_31 : decode cX7_meet 31 = .ok (.iload_n 1, 1) := by decide +kernel
theorem dX7_meet_32 : decode cX7_meet 32 = .ok (.invokevirtual 169, 3) := by decide +kernel
theorem dX7_meet_35 : decode cX7_meet 35 = .ok (.istore_n 3, 1) := by decide +kernel
theorem dX7_meet_36 : decode cX7_meet 36 = .ok (.aload_n 0, 1) := by decide +kernel
theorem dX7_meet_37 : decode cX7_meet 37 = .ok (.iload_n 2, 1) := by decide +kernel
theorem dX7_meet_38 : decode cX7_meet 38 = .ok (.iload_n 3, 1) := by decide +kernel
theorem dX7_meet_39 : decode cX7_meet 39 = .ok (.invokevirtual 139, 3) := by decide +kernel
theorem dX7_meet_42 : decode cX7_meet 42 = .ok (.pop, 1) := by decide +kernel
theorem dX7_meet_43 : decode cX7_meet 43 = .ok (.iconst 0, 1) := by decide +kernel
theorem dX7_meet_44 : decode cX7_meet 44 = .ok (.istore 4, 2) := by decide +kernel
theorem dX7_meet_46 : decode cX7_meet 46 = .ok (.iload 4, 2) := by decide +kernel
theorem dX7_meet_48 : decode cX7_meet 48 = .ok (.aload_n 0, 1) := by decide +kernel
theorem dX7_meet_49 : decode cX7_meet 49 = .ok (.getfield 84, 3) := by decide +kernel
theorem dX7_meet_52 : decode cX7_meet 52 = .ok (.if_icmp .ge 17, 3) := by decide +kernel
theorem dX7_meet_55 : decode cX7_meet 55 = .ok (.aload_n 0, 1) := by decide +kernel
theorem dX7_meet_56 : decode cX7_meet 56 = .ok (.getfield 57, 3) := by decide +kernel
theorem dX7_meet_59 : decode cX7_meet 59 = .ok (.iload 4, 2) := by decide +kernel
theorem dX7_meet_61 : decode cX7_meet 61 = .ok (.iconst 0, 1) := by decide +kernel
theorem dX7_meet_62 : decode cX7_meet 62 = .ok (.bastore, 1) := by decide +kernel
theorem dX7_meet_63 : decode cX7_meet 63 = .ok (.iinc 4 1, 3) := by decide +kernel
theorem dX7_meet_66 : decode cX7_meet 66 = .ok (.goto (-20), 3) := by decide +kernel
theorem dX7_meet_69 : decode cX7_meet 69 = .ok (.iconst 0, 1) := by decide +kernel
theorem dX7_meet_70 : decode cX7_meet 70 = .ok (.istore 4, 2) := by decide +kernel
theorem dX7_meet_72 : decode cX7_meet 72 = .ok (.iload 4, 2) := by decide +kernel
theorem dX7_meet_74 : decode cX7_meet 74 = .ok (.aload_n 0, 1) := by decide +kernel
theorem dX7_meet_75 : decode cX7_meet 75 = .ok (.getfield 119, 3) := by decide +kernel
theorem dX7_meet_78 : decode cX7_meet 78 = .ok (.if_icmp .ge 22, 3) := by decide +kernel
theorem dX7_meet_81 : decode cX7_meet 81 = .ok (.aload_n 0, 1) := by decide +kernel
theorem dX7_meet_82 : decode cX7_meet 82 = .ok (.getfield 57, 3) := by decide +kernel
theorem dX7_meet_85 : decode cX7_meet 85 = .ok (.aload_n 0, 1) := by decide +kernel
theorem dX7_meet_86 : decode cX7_meet 86 = .ok (.getfield 66, 3) := by decide +kernel
theorem dX7_meet_89 : decode cX7_meet 89 = .ok (.iload 4, 2) := by decide +kernel
theorem dX7_meet_91 : decode cX7_meet 91 = .ok (.iaload, 1) := by decide +kernel
theorem dX7_meet_92 : decode cX7_meet 92 = .ok (.iconst 1, 1) := by decide +kernel
theorem dX7_meet_93 : decode cX7_meet 93 = .ok (.bastore, 1) := by decide +kernel
theorem dX7_meet_94 : decode cX7_meet 94 = .ok (.iinc 4 1, 3) := by decide +kernel
theorem dX7_meet_97 : decode cX7_meet 97 = .ok (.goto (-25), 3) := by decide +kernel
theorem dX7_meet_100 : decode cX7_meet 100 = .ok (.aload_n 0, 1) := by decide +kernel
theorem dX7_meet_101 : decode cX7_meet 101 = .ok (.iload_n 1, 1) := by decide +kernel
theorem dX7_meet_102 : decode cX7_meet 102 = .ok (.iload_n 3, 1) := by decide +kernel
theorem dX7_meet_103 : decode cX7_meet 103 = .ok (.invokevirtual 139, 3) := by decide +kernel
theorem dX7_meet_106 : decode cX7_meet 106 = .ok (.pop, 1) := by decide +kernel
theorem dX7_meet_107 : decode cX7_meet 107 = .ok (.iconst 0, 1) := by decide +kernel
theorem dX7_meet_108 : decode cX7_meet 108 = .ok (.istore 4, 2) := by decide +kernel
theorem dX7_meet_110 : decode cX7_meet 110 = .ok (.iload 4, 2) := by decide +kernel
theorem dX7_meet_112 : decode cX7_meet 112 = .ok (.aload_n 0, 1) := by decide +kernel
theorem dX7_meet_113 : decode cX7_meet 113 = .ok (.getfield 119, 3) := by decide +kernel
theorem dX7_meet_116 : decode cX7_meet 116 = .ok (.if_icmp .ge 32, 3) := by decide +kernel
theorem dX7_meet_119 : decode cX7_meet 119 = .ok (.aload_n 0, 1) := by decide +kernel
theorem dX7_meet_120 : decode cX7_meet 120 = .ok (.getfield 57, 3) := by decide +kernel
theorem dX7_meet_123 : decode cX7_meet 123 = .ok (.aload_n 0, 1) := by decide +kernel
theorem dX7_meet_124 : decode cX7_meet 124 = .ok (.getfield 66, 3) := by decide +kernel
theorem dX7_meet_127 : decode cX7_meet 127 = .ok (.iload 4, 2) := by decide +kernel
theorem dX7_meet_129 : decode cX7_meet 129 = .ok (.iaload, 1) := by decide +kernel
theorem dX7_meet_130 : decode cX7_meet 130 = .ok (.baload, 1) := by decide +kernel
theorem dX7_meet_131 : decode cX7_meet 131 = .ok (.ifCond .eq 11, 3) := by decide +kernel
theorem dX7_meet_134 : decode cX7_meet 134 = .ok (.aload_n 0, 1) := by decide +kernel
theorem dX7_meet_135 : decode cX7_meet 135 = .ok (.getfield 66, 3) := by decide +kernel
theorem dX7_meet_138 : decode cX7_meet 138 = .ok (.iload 4, 2) := by decide +kernel
theorem dX7_meet_140 : decode cX7_meet 140 = .ok (.iaload, 1) := by decide +kernel
theorem dX7_meet_141 : decode cX7_meet 141 = .ok (.ireturn, 1) := by decide +kernel
theorem dX7_meet_142 : decode cX7_meet 142 = .ok (.iinc 4 1, 3) := by decide +kernel
theorem dX7_meet_145 : decode cX7_meet 145 = .ok (.goto (-35), 3) := by decide +kernel
theorem dX7_meet_148 : decode cX7_meet 148 = .ok (.iconst (-1), 1) := by decide +kernel
theorem dX7_meet_149 : decode cX7_meet 149 = .ok (.ireturn, 1) := by decide +kernel
theorem dX7_sumBelow_0 : decode cX7_sumBelow 0 = .ok (.aload_n 0, 1) := by decide +kernel
theorem dX7_sumBelow_1 : decode cX7_sumBelow 1 = .ok (.iload_n 1, 1) := by decide +kernel
theorem dX7_sumBelow_2 : decode cX7_sumBelow 2 = .ok (.invokevirtual 129, 3) := by decide +kernel
theorem dX7_sumBelow_5 : decode cX7_sumBelow 5 = .ok (.ifCond .ne 7, 3) := by decide +kernel
theorem dX7_sumBelow_8 : decode cX7_sumBelow 8 = .ok (.ldc2_w 161, 3) := by decide +kernel
theorem dX7_sumBelow_11 : decode cX7_sumBelow 11 = .ok (.lreturn, 1) := by decide +kernel
theorem dX7_sumBelow_12 : decode cX7_sumBelow 12 = .ok (.aload_n 0, 1) := by decide +kernel
theorem dX7_sumBelow_13 : decode cX7_sumBelow 13 = .ok (.iload_n 1, 1) := by decide +kernel
theorem dX7_sumBelow_14 : decode cX7_sumBelow 14 = .ok (.invokevirtual 172, 3) := by decide +kernel
theorem dX7_sumBelow_17 : decode cX7_sumBelow 17 = .ok (.pop, 1) := by decide +kernel
theorem dX7_sumBelow_18 : decode cX7_sumBelow 18 = .ok (.lconst 0, 1) := by decide +kernel
theorem dX7_sumBelow_19 : decode cX7_sumBelow 19 = .ok (.lstore_n 2, 1) := by decide +kernel
theorem dX7_sumBelow_20 : decode cX7_sumBelow 20 = .ok (.iconst 0, 1) := by decide +kernel
theorem dX7_sumBelow_21 : decode cX7_sumBelow 21 = .ok (.istore 4, 2) := by decide +kernel
theorem dX7_sumBelow_23 : decode cX7_sumBelow 23 = .ok (.iload 4, 2) := by decide +kernel
theorem dX7_sumBelow_25 : decode cX7_sumBelow 25 = .ok (.aload_n 0, 1) := by decide +kernel
theorem dX7_sumBelow_26 : decode cX7_sumBelow 26 = .ok (.getfield 84, 3) := by decide +kernel
theorem dX7_sumBelow_29 : decode cX7_sumBelow 29 = .ok (.if_icmp .ge 29, 3) := by decide +kernel
theorem dX7_sumBelow_32 : decode cX7_sumBelow 32 = .ok (.aload_n 0, 1) := by decide +kernel
theorem dX7_sumBelow_33 : decode cX7_sumBelow 33 = .ok (.getfield 57, 3) := by decide +kernel
theorem dX7_sumBelow_36 : decode cX7_sumBelow 36 = .ok (.iload 4, 2) := by decide +kernel
theorem dX7_sumBelow_38 : decode cX7_sumBelow 38 = .ok (.baload, 1) := by decide +kernel
theorem dX7_sumBelow_39 : decode cX7_sumBelow 39 = .ok (.ifCond .eq 13, 3) := by decide +kernel
theorem dX7_sumBelow_42 : decode cX7_sumBelow 42 = .ok (.lload_n 2, 1) := by decide +kernel
theorem dX7_sumBelow_43 : decode cX7_sumBelow 43 = .ok (.aload_n 0, 1) := by decide +kernel
theorem dX7_sumBelow_44 : decode cX7_sumBelow 44 = .ok (.getfield 7, 3) := by decide +kernel
theorem dX7_sumBelow_47 : decode cX7_sumBelow 47 = .ok (.iload 4, 2) := by decide +kernel
theorem dX7_sumBelow_49 : decode cX7_sumBelow 49 = .ok (.laload, 1) := by decide +kernel
theorem dX7_sumBelow_50 : decode cX7_sumBelow 50 = .ok (.ladd, 1) := by decide +kernel
theorem dX7_sumBelow_51 : decode cX7_sumBelow 51 = .ok (.lstore_n 2, 1) := by decide +kernel
theorem dX7_sumBelow_52 : decode cX7_sumBelow 52 = .ok (.iinc 4 1, 3) := by decide +kernel
theorem dX7_sumBelow_55 : decode cX7_sumBelow 55 = .ok (.goto (-32), 3) := by decide +kernel
theorem dX7_sumBelow_58 : decode cX7_sumBelow 58 = .ok (.lload_n 2, 1) := by decide +kernel
theorem dX7_sumBelow_59 : decode cX7_sumBelow 59 = .ok (.lreturn, 1) := by decide +kernel
theorem dX7_addBelow_0 : decode cX7_addBelow 0 = .ok (.aload_n 0, 1) := by decide +kernel
theorem dX7_addBelow_1 : decode cX7_addBelow 1 = .ok (.iload_n 1, 1) := by decide +kernel
theorem dX7_addBelow_2 : decode cX7_addBelow 2 = .ok (.invokevirtual 129, 3) := by decide +kernel
theorem dX7_addBelow_5 : decode cX7_addBelow 5 = .ok (.ifCond .ne 6, 3) := by decide +kernel
theorem dX7_addBelow_8 : decode cX7_addBelow 8 = .ok (.bipush (-2), 2) := by decide +kernel
theorem dX7_addBelow_10 : decode cX7_addBelow 10 = .ok (.ireturn, 1) := by decide +kernel
theorem dX7_addBelow_11 : decode cX7_addBelow 11 = .ok (.aload_n 0, 1) := by decide +kernel
theorem dX7_addBelow_12 : decode cX7_addBelow 12 = .ok (.iload_n 1, 1) := by decide +kernel
theorem dX7_addBelow_13 : decode cX7_addBelow 13 = .ok (.invokevirtual 172, 3) := by decide +kernel
theorem dX7_addBelow_16 : decode cX7_addBelow 16 = .ok (.istore 4, 2) := by decide +kernel
theorem dX7_addBelow_18 : decode cX7_addBelow 18 = .ok (.aload_n 0, 1) := by decide +kernel
theorem dX7_addBelow_19 : decode cX7_addBelow 19 = .ok (.invokevirtual 136, 3) := by decide +kernel
theorem dX7_addBelow_22 : decode cX7_addBelow 22 = .ok (.iconst 0, 1) := by decide +kernel
theorem dX7_addBelow_23 : decode cX7_addBelow 23 = .ok (.istore 5, 2) := by decide +kernel
theorem dX7_addBelow_25 : decode cX7_addBelow 25 = .ok (.iload 5, 2) := by decide +kernel
theorem dX7_addBelow_27 : decode cX7_addBelow 27 = .ok (.aload_n 0, 1) := by decide +kernel
theorem dX7_addBelow_28 : decode cX7_addBelow 28 = .ok (.getfield 84, 3) := by decide +kernel
theorem dX7_addBelow_31 : decode cX7_addBelow 31 = .ok (.if_icmp .ge 30, 3) := by decide +kernel
theorem dX7_addBelow_34 : decode cX7_addBelow 34 = .ok (.aload_n 0, 1) := by decide +kernel
theorem dX7_addBelow_35 : decode cX7_addBelow 35 = .ok (.getfield 57, 3) := by decide +kernel
theorem dX7_addBelow_38 : decode cX7_addBelow 38 = .ok (.iload 5, 2) := by decide +kernel
theorem dX7_addBelow_40 : decode cX7_addBelow 40 = .ok (.baload, 1) := by decide +kernel
theorem dX7_addBelow_41 : decode cX7_addBelow 41 = .ok (.ifCond .eq 14, 3) := by decide +kernel
theorem dX7_addBelow_44 : decode cX7_addBelow 44 = .ok (.aload_n 0, 1) := by decide +kernel
theorem dX7_addBelow_45 : decode cX7_addBelow 45 = .ok (.getfield 7, 3) := by decide +kernel
theorem dX7_addBelow_48 : decode cX7_addBelow 48 = .ok (.iload 5, 2) := by decide +kernel
theorem dX7_addBelow_50 : decode cX7_addBelow 50 = .ok (.dup2, 1) := by decide +kernel
theorem dX7_addBelow_51 : decode cX7_addBelow 51 = .ok (.laload, 1) := by decide +kernel
theorem dX7_addBelow_52 : decode cX7_addBelow 52 = .ok (.lload_n 2, 1) := by decide +kernel
theorem dX7_addBelow_53 : decode cX7_addBelow 53 = .ok (.ladd, 1) := by decide +kernel
theorem dX7_addBelow_54 : decode cX7_addBelow 54 = .ok (.lastore, 1) := by decide +kernel
theorem dX7_addBelow_55 : decode cX7_addBelow 55 = .ok (.iinc 5 1, 3) := by decide +kernel
theorem dX7_addBelow_58 : decode cX7_addBelow 58 = .ok (.goto (-33), 3) := by decide +kernel
theorem dX7_addBelow_61 : decode cX7_addBelow 61 = .ok (.iload 4, 2) := by decide +kernel
theorem dX7_addBelow_63 : decode cX7_addBelow 63 = .ok (.ireturn, 1) := by decide +kernel
theorem dX7_refused_0 : decode cX7_refused 0 = .ok (.aload_n 0, 1) := by decide +kernel
theorem dX7_refused_1 : decode cX7_refused 1 = .ok (.iload_n 1, 1) := by decide +kernel
theorem dX7_refused_2 : decode cX7_refused 2 = .ok (.putfield 175, 3) := by decide +kernel
theorem dX7_refused_5 : decode cX7_refused 5 = .ok (.iconst (-1), 1) := by decide +kernel
theorem dX7_refused_6 : decode cX7_refused 6 = .ok (.ireturn, 1) := by decide +kernel
theorem dX7_done_0 : decode cX7_done 0 = .ok (.aload_n 0, 1) := by decide +kernel
theorem dX7_done_1 : decode cX7_done 1 = .ok (.iconst 0, 1) := by decide +kernel
theorem dX7_done_2 : decode cX7_done 2 = .ok (.putfield 175, 3) := by decide +kernel
theorem dX7_done_5 : decode cX7_done 5 = .ok (.iload_n 1, 1) := by decide +kernel
theorem dX7_done_6 : decode cX7_done 6 = .ok (.ireturn, 1) := by decide +kernel
theorem dX7_put_0 : decode cX7_put 0 = .ok (.iload_n 1, 1) := by decide +kernel
theorem dX7_put_1 : decode cX7_put 1 = .ok (.ifCond .lt 17, 3) := by decide +kernel
theorem dX7_put_4 : decode cX7_put 4 = .ok (.iload_n 1, 1) := by decide +kernel
theorem dX7_put_5 : decode cX7_put 5 = .ok (.iconst 5, 1) := by decide +kernel
theorem dX7_put_6 : decode cX7_put 6 = .ok (.if_icmp .gt 12, 3) := by decide +kernel
theorem dX7_put_9 : decode cX7_put 9 = .ok (.iload_n 2, 1) := by decide +kernel
theorem dX7_put_10 : decode cX7_put 10 = .ok (.ifCond .lt 8, 3) := by decide +kernel
theorem dX7_put_13 : decode cX7_put 13 = .ok (.iload_n 2, 1) := by decide +kernel
theorem dX7_put_14 : decode cX7_put 14 = .ok (.iconst 4, 1) := by decide +kernel
theorem dX7_put_15 : decode cX7_put 15 = .ok (.if_icmp .le 9, 3) := by decide +kernel
theorem dX7_put_18 : decode cX7_put 18 = .ok (.aload_n 0, 1) := by decide +kernel
theorem dX7_put_19 : decode cX7_put 19 = .ok (.iconst 1, 1) := by decide +kernel
theorem dX7_put_20 : decode cX7_put 20 = .ok (.invokevirtual 178, 3) := by decide +kernel
theorem dX7_put_23 : decode cX7_put 23 = .ok (.ireturn, 1) := by decide +kernel
theorem dX7_put_24 : decode cX7_put 24 = .ok (.iload_n 2, 1) := by decide +kernel
theorem dX7_put_25 : decode cX7_put 25 = .ok (.iconst 1, 1) := by decide +kernel
theorem dX7_put_26 : decode cX7_put 26 = .ok (.if_icmp .ne 11, 3) := by decide +kernel
theorem dX7_put_29 : decode cX7_put 29 = .ok (.aload_n 0, 1) := by decide +kernel
theorem dX7_put_30 : decode cX7_put 30 = .ok (.iload_n 3, 1) := by decide +kernel
theorem dX7_put_31 : decode cX7_put 31 = .ok (.invokevirtual 152, 3) := by decide +kernel
theorem dX7_put_34 : decode cX7_put 34 = .ok (.ifCond .eq 40, 3) := by decide +kernel
theorem dX7_put_37 : decode cX7_put 37 = .ok (.iload_n 2, 1) := by decide +kernel
theorem dX7_put_38 : decode cX7_put 38 = .ok (.iconst 2, 1) := by decide +kernel
theorem dX7_put_39 : decode cX7_put 39 = .ok (.if_icmp .lt 11, 3) := by decide +kernel
theorem dX7_put_42 : decode cX7_put 42 = .ok (.aload_n 0, 1) := by decide +kernel
theorem dX7_put_43 : decode cX7_put 43 = .ok (.iload_n 3, 1) := by decide +kernel
theorem dX7_put_44 : decode cX7_put 44 = .ok (.invokevirtual 129, 3) := by decide +kernel
theorem dX7_put_47 : decode cX7_put 47 = .ok (.ifCond .eq 27, 3) := by decide +kernel
theorem dX7_put_50 : decode cX7_put 50 = .ok (.iload_n 2, 1) := by decide +kernel
theorem dX7_put_51 : decode cX7_put 51 = .ok (.iconst 3, 1) := by decide +kernel
theorem dX7_put_52 : decode cX7_put 52 = .ok (.if_icmp .ne 28, 3) := by decide +kernel
theorem dX7_put_55 : decode cX7_put 55 = .ok (.aload_n 0, 1) := by decide +kernel
theorem dX7_put_56 : decode cX7_put 56 = .ok (.iload 4, 2) := by decide +kernel
theorem dX7_put_58 : decode cX7_put 58 = .ok (.invokevirtual 129, 3) := by decide +kernel
theorem dX7_put_61 : decode cX7_put 61 = .ok (.ifCond .eq 13, 3) := by decide +kernel
theorem dX7_put_64 : decode cX7_put 64 = .ok (.aload_n 0, 1) := by decide +kernel
theorem dX7_put_65 : decode cX7_put 65 = .ok (.iload_n 3, 1) := by decide +kernel
theorem dX7_put_66 : decode cX7_put 66 = .ok (.iload 4, 2) := by decide +kernel
theorem dX7_put_68 : decode cX7_put 68 = .ok (.invokevirtual 139, 3) := by decide +kernel
theorem dX7_put_71 : decode cX7_put 71 = .ok (.ifCond .ne 9, 3) := by decide +kernel
theorem dX7_put_74 : decode cX7_put 74 = .ok (.aload_n 0, 1) := by decide +kernel
theorem dX7_put_75 : decode cX7_put 75 = .ok (.iconst 1, 1) := by decide +kernel
theorem dX7_put_76 : decode cX7_put 76 = .ok (.invokevirtual 178, 3) := by decide +kernel
theorem dX7_put_79 : decode cX7_put 79 = .ok (.ireturn, 1) := by decide +kernel
theorem dX7_put_80 : decode cX7_put 80 = .ok (.aload_n 0, 1) := by decide +kernel
theorem dX7_put_81 : decode cX7_put 81 = .ok (.getfield 72, 3) := by decide +kernel
theorem dX7_put_84 : decode cX7_put 84 = .ok (.iload_n 1, 1) := by decide +kernel
theorem dX7_put_85 : decode cX7_put 85 = .ok (.iload_n 2, 1) := by decide +kernel
theorem dX7_put_86 : decode cX7_put 86 = .ok (.iastore, 1) := by decide +kernel
theorem dX7_put_87 : decode cX7_put 87 = .ok (.aload_n 0, 1) := by decide +kernel
theorem dX7_put_88 : decode cX7_put 88 = .ok (.getfield 75, 3) := by decide +kernel
theorem dX7_put_91 : decode cX7_put 91 = .ok (.iload_n 1, 1) := by decide +kernel
theorem dX7_put_92 : decode cX7_put 92 = .ok (.iconst 0, 1) := by decide +kernel
theorem dX7_put_93 : decode cX7_put 93 = .ok (.iastore, 1) := by decide +kernel
theorem dX7_put_94 : decode cX7_put 94 = .ok (.bipush 100, 2) := by decide +kernel
theorem dX7_put_96 : decode cX7_put 96 = .ok (.iload_n 1, 1) := by decide +kernel
theorem dX7_put_97 : decode cX7_put 97 = .ok (.imul, 1) := by decide +kernel
theorem dX7_put_98 : decode cX7_put 98 = .ok (.istore 5, 2) := by decide +kernel
theorem dX7_put_100 : decode cX7_put 100 = .ok (.iload_n 2, 1) := by decide +kernel
theorem dX7_put_101 : decode cX7_put 101 = .ok (.iconst 1, 1) := by decide +kernel
theorem dX7_put_102 : decode cX7_put 102 = .ok (.if_icmp .ne 16, 3) := by decide +kernel
theorem dX7_put_105 : decode cX7_put 105 = .ok (.aload_n 0, 1) := by decide +kernel
theorem dX7_put_106 : decode cX7_put 106 = .ok (.getfield 78, 3) := by decide +kernel
theorem dX7_put_109 : decode cX7_put 109 = .ok (.iload 5, 2) := by decide +kernel
theorem dX7_put_111 : decode cX7_put 111 = .ok (.aload_n 0, 1) := by decide +kernel
theorem dX7_put_112 : decode cX7_put 112 = .ok (.getfield 17, 3) := by decide +kernel
theorem dX7_put_115 : decode cX7_put 115 = .ok (.iload_n 3, 1) := by decide +kernel
theorem dX7_put_116 : decode cX7_put 116 = .ok (.iaload, 1) := by decide +kernel
theorem dX7_put_117 : decode cX7_put 117 = .ok (.iastore, 1) := by decide +kernel
theorem dX7_put_118 : decode cX7_put 118 = .ok (.iload_n 2, 1) := by decide +kernel
theorem dX7_put_119 : decode cX7_put 119 = .ok (.iconst 2, 1) := by decide +kernel
theorem dX7_put_120 : decode cX7_put 120 = .ok (.if_icmp .eq 8, 3) := by decide +kernel
theorem dX7_put_123 : decode cX7_put 123 = .ok (.iload_n 2, 1) := by decide +kernel
theorem dX7_put_124 : decode cX7_put 124 = .ok (.iconst 4, 1) := by decide +kernel
theorem dX7_put_125 : decode cX7_put 125 = .ok (.if_icmp .ne 9, 3) := by decide +kernel
theorem dX7_put_128 : decode cX7_put 128 = .ok (.aload_n 0, 1) := by decide +kernel
theorem dX7_put_129 : decode cX7_put 129 = .ok (.iload_n 3, 1) := by decide +kernel
theorem dX7_put_130 : decode cX7_put 130 = .ok (.invokevirtual 115, 3) := by decide +kernel
theorem dX7_put_133 : decode cX7_put 133 = .ok (.pop, 1) := by decide +kernel
theorem dX7_put_134 : decode cX7_put 134 = .ok (.iconst 0, 1) := by decide +kernel
theorem dX7_put_135 : decode cX7_put 135 = .ok (.istore 6, 2) := by decide +kernel
theorem dX7_put_137 : decode cX7_put 137 = .ok (.iload 6, 2) := by decide +kernel
theorem dX7_put_139 : decode cX7_put 139 = .ok (.aload_n 0, 1) := by decide +kernel
theorem dX7_put_140 : decode cX7_put 140 = .ok (.getfield 84, 3) := by decide +kernel
theorem dX7_put_143 : decode cX7_put 143 = .ok (.if_icmp .ge 92, 3) := by decide +kernel
theorem dX7_put_146 : decode cX7_put 146 = .ok (.iload_n 2, 1) := by decide +kernel
theorem dX7_put_147 : decode cX7_put 147 = .ok (.iconst 2, 1) := by decide +kernel
theorem dX7_put_148 : decode cX7_put 148 = .ok (.if_icmp .eq 8, 3) := by decide +kernel
theorem dX7_put_151 : decode cX7_put 151 = .ok (.iload_n 2, 1) := by decide +kernel
theorem dX7_put_152 : decode cX7_put 152 = .ok (.iconst 4, 1) := by decide +kernel
theorem dX7_put_153 : decode cX7_put 153 = .ok (.if_icmp .ne 82, 3) := by decide +kernel
theorem dX7_put_156 : decode cX7_put 156 = .ok (.iload_n 2, 1) := by decide +kernel
theorem dX7_put_157 : decode cX7_put 157 = .ok (.iconst 4, 1) := by decide +kernel
theorem dX7_put_158 : decode cX7_put 158 = .ok (.if_icmp .ne 40, 3) := by decide +kernel
theorem dX7_put_161 : decode cX7_put 161 = .ok (.aload_n 0, 1) := by decide +kernel
theorem dX7_put_162 : decode cX7_put 162 = .ok (.getfield 78, 3) := by decide +kernel
theorem dX7_put_165 : decode cX7_put 165 = .ok (.iload 5, 2) := by decide +kernel
theorem dX7_put_167 : decode cX7_put 167 = .ok (.aload_n 0, 1) := by decide +kernel
theorem dX7_put_168 : decode cX7_put 168 = .ok (.getfield 75, 3) := by decide +kernel
theorem dX7_put_171 : decode cX7_put 171 = .ok (.iload_n 1, 1) := by decide +kernel
theorem dX7_put_172 : decode cX7_put 172 = .ok (.dup2, 1) := by decide +kernel
theorem dX7_put_173 : decode cX7_put 173 = .ok (.iaload, 1) := by decide +kernel
theorem dX7_put_174 : decode cX7_put 174 = .ok (.dup_x2, 1) := by decide +kernel
theorem dX7_put_175 : decode cX7_put 175 = .ok (.iconst 1, 1) := by decide +kernel
theorem dX7_put_176 : decode cX7_put 176 = .ok (.iadd, 1) := by decide +kernel
theorem dX7_put_177 : decode cX7_put 177 = .ok (.iastore, 1) := by decide +kernel
theorem dX7_put_178 : decode cX7_put 178 = .ok (.iadd, 1) := by decide +kernel
theorem dX7_put_179 : decode cX7_put 179 = .ok (.aload_n 0, 1) := by decide +kernel
theorem dX7_put_180 : decode cX7_put 180 = .ok (.getfield 53, 3) := by decide +kernel
theorem dX7_put_183 : decode cX7_put 183 = .ok (.iload 6, 2) := by decide +kernel
theorem dX7_put_185 : decode cX7_put 185 = .ok (.baload, 1) := by decide +kernel
theorem dX7_put_186 : decode cX7_put 186 = .ok (.ifCond .eq 7, 3) := by decide +kernel
theorem dX7_put_189 : decode cX7_put 189 = .ok (.iconst 1, 1) := by decide +kernel
theorem dX7_put_190 : decode cX7_put 190 = .ok (.goto 4, 3) := by decide +kernel
theorem dX7_put_193 : decode cX7_put 193 = .ok (.iconst 0, 1) := by decide +kernel
theorem dX7_put_194 : decode cX7_put 194 = .ok (.iastore, 1) := by decide +kernel
theorem dX7_put_195 : decode cX7_put 195 = .ok (.goto 34, 3) := by decide +kernel
theorem dX7_put_198 : decode cX7_put 198 = .ok (.aload_n 0, 1) := by decide +kernel
theorem dX7_put_199 : decode cX7_put 199 = .ok (.getfield 53, 3) := by decide +kernel
theorem dX7_put_202 : decode cX7_put 202 = .ok (.iload 6, 2) := by decide +kernel
theorem dX7_put_204 : decode cX7_put 204 = .ok (.baload, 1) := by decide +kernel
theorem dX7_put_205 : decode cX7_put 205 = .ok (.ifCond .eq 24, 3) := by decide +kernel
theorem dX7_put_208 : decode cX7_put 208 = .ok (.aload_n 0, 1) := by decide +kernel
theorem dX7_put_209 : decode cX7_put 209 = .ok (.getfield 78, 3) := by decide +kernel
theorem dX7_put_212 : decode cX7_put 212 = .ok (.iload 5, 2) := by decide +kernel
theorem dX7_put_214 : decode cX7_put 214 = .ok (.aload_n 0, 1) := by decide +kernel
theorem dX7_put_215 : decode cX7_put 215 = .ok (.getfield 75, 3) := by decide +kernel
theorem dX7_put_218 : decode cX7_put 218 = .ok (.iload_n 1, 1) := by decide +kernel
theorem dX7_put_219 : decode cX7_put 219 = .ok (.dup2, 1) := by decide +kernel
theorem dX7_put_220 : decode cX7_put 220 = .ok (.iaload, 1) := by decide +kernel
theorem dX7_put_221 : decode cX7_put 221 = .ok (.dup_x2, 1) := by decide +kernel
theorem dX7_put_222 : decode cX7_put 222 = .ok (.iconst 1, 1) := by decide +kernel
theorem dX7_put_223 : decode cX7_put 223 = .ok (.iadd, 1) := by decide +kernel
theorem dX7_put_224 : decode cX7_put 224 = .ok (.iastore, 1) := by decide +kernel
theorem dX7_put_225 : decode cX7_put 225 = .ok (.iadd, 1) := by decide +kernel
theorem dX7_put_226 : decode cX7_put 226 = .ok (.iload 6, 2) := by decide +kernel
theorem dX7_put_228 : decode cX7_put 228 = .ok (.iastore, 1) := by decide +kernel
theorem dX7_put_229 : decode cX7_put 229 = .ok (.iinc 6 1, 3) := by decide +kernel
theorem dX7_put_232 : decode cX7_put 232 = .ok (.goto (-95), 3) := by decide +kernel
theorem dX7_put_235 : decode cX7_put 235 = .ok (.iconst 1, 1) := by decide +kernel
theorem dX7_put_236 : decode cX7_put 236 = .ok (.istore 6, 2) := by decide +kernel
theorem dX7_put_238 : decode cX7_put 238 = .ok (.iload 6, 2) := by decide +kernel
theorem dX7_put_240 : decode cX7_put 240 = .ok (.aload_n 0, 1) := by decide +kernel
theorem dX7_put_241 : decode cX7_put 241 = .ok (.getfield 119, 3) := by decide +kernel
theorem dX7_put_244 : decode cX7_put 244 = .ok (.if_icmp .ge 45, 3) := by decide +kernel
theorem dX7_put_247 : decode cX7_put 247 = .ok (.iload_n 2, 1) := by decide +kernel
theorem dX7_put_248 : decode cX7_put 248 = .ok (.iconst 3, 1) := by decide +kernel
theorem dX7_put_249 : decode cX7_put 249 = .ok (.if_icmp .ne 40, 3) := by decide +kernel
theorem dX7_put_252 : decode cX7_put 252 = .ok (.aload_n 0, 1) := by decide +kernel
theorem dX7_put_253 : decode cX7_put 253 = .ok (.getfield 81, 3) := by decide +kernel
theorem dX7_put_256 : decode cX7_put 256 = .ok (.iload 5, 2) := by decide +kernel
theorem dX7_put_258 : decode cX7_put 258 = .ok (.aload_n 0, 1) := by decide +kernel
theorem dX7_put_259 : decode cX7_put 259 = .ok (.getfield 75, 3) := by decide +kernel
theorem dX7_put_262 : decode cX7_put 262 = .ok (.iload_n 1, 1) := by decide +kernel
theorem dX7_put_263 : decode cX7_put 263 = .ok (.dup2, 1) := by decide +kernel
theorem dX7_put_264 : decode cX7_put 264 = .ok (.iaload, 1) := by decide +kernel
theorem dX7_put_265 : decode cX7_put 265 = .ok (.dup_x2, 1) := by decide +kernel
theorem dX7_put_266 : decode cX7_put 266 = .ok (.iconst 1, 1) := by decide +kernel
theorem dX7_put_267 : decode cX7_put 267 = .ok (.iadd, 1) := by decide +kernel
theorem dX7_put_268 : decode cX7_put 268 = .ok (.iastore, 1) := by decide +kernel
theorem dX7_put_269 : decode cX7_put 269 = .ok (.iadd, 1) := by decide +kernel
theorem dX7_put_270 : decode cX7_put 270 = .ok (.aload_n 0, 1) := by decide +kernel
theorem dX7_put_271 : decode cX7_put 271 = .ok (.getfield 29, 3) := by decide +kernel
theorem dX7_put_274 : decode cX7_put 274 = .ok (.aload_n 0, 1) := by decide +kernel
theorem dX7_put_275 : decode cX7_put 275 = .ok (.getfield 69, 3) := by decide +kernel
theorem dX7_put_278 : decode cX7_put 278 = .ok (.iload 6, 2) := by decide +kernel
theorem dX7_put_280 : decode cX7_put 280 = .ok (.iaload, 1) := by decide +kernel
theorem dX7_put_281 : decode cX7_put 281 = .ok (.laload, 1) := by decide +kernel
theorem dX7_put_282 : decode cX7_put 282 = .ok (.lastore, 1) := by decide +kernel
theorem dX7_put_283 : decode cX7_put 283 = .ok (.iinc 6 1, 3) := by decide +kernel
theorem dX7_put_286 : decode cX7_put 286 = .ok (.goto (-48), 3) := by decide +kernel
theorem dX7_put_289 : decode cX7_put 289 = .ok (.aload_n 0, 1) := by decide +kernel
theorem dX7_put_290 : decode cX7_put 290 = .ok (.iconst 1, 1) := by decide +kernel
theorem dX7_put_291 : decode cX7_put 291 = .ok (.invokevirtual 181, 3) := by decide +kernel
theorem dX7_put_294 : decode cX7_put 294 = .ok (.ireturn, 1) := by decide +kernel
theorem dX7_forge_0 : decode cX7_forge 0 = .ok (.iload_n 1, 1) := by decide +kernel
theorem dX7_forge_1 : decode cX7_forge 1 = .ok (.ifCond .lt 30, 3) := by decide +kernel
theorem dX7_forge_4 : decode cX7_forge 4 = .ok (.iload_n 1, 1) := by decide +kernel
theorem dX7_forge_5 : decode cX7_forge 5 = .ok (.iconst 5, 1) := by decide +kernel
theorem dX7_forge_6 : decode cX7_forge 6 = .ok (.if_icmp .gt 25, 3) := by decide +kernel
theorem dX7_forge_9 : decode cX7_forge 9 = .ok (.iload_n 2, 1) := by decide +kernel
theorem dX7_forge_10 : decode cX7_forge 10 = .ok (.ifCond .lt 21, 3) := by decide +kernel
theorem dX7_forge_13 : decode cX7_forge 13 = .ok (.iload_n 2, 1) := by decide +kernel
theorem dX7_forge_14 : decode cX7_forge 14 = .ok (.bipush 8, 2) := by decide +kernel
theorem dX7_forge_16 : decode cX7_forge 16 = .ok (.if_icmp .gt 15, 3) := by decide +kernel
theorem dX7_forge_19 : decode cX7_forge 19 = .ok (.iload_n 3, 1) := by decide +kernel
theorem dX7_forge_20 : decode cX7_forge 20 = .ok (.bipush (-100), 2) := by decide +kernel
theorem dX7_forge_22 : decode cX7_forge 22 = .ok (.if_icmp .lt 9, 3) := by decide +kernel
theorem dX7_forge_25 : decode cX7_forge 25 = .ok (.iload_n 3, 1) := by decide +kernel
theorem dX7_forge_26 : decode cX7_forge 26 = .ok (.bipush 100, 2) := by decide +kernel
theorem dX7_forge_28 : decode cX7_forge 28 = .ok (.if_icmp .le 9, 3) := by decide +kernel
theorem dX7_forge_31 : decode cX7_forge 31 = .ok (.aload_n 0, 1) := by decide +kernel
theorem dX7_forge_32 : decode cX7_forge 32 = .ok (.iconst 1, 1) := by decide +kernel
theorem dX7_forge_33 : decode cX7_forge 33 = .ok (.invokevirtual 178, 3) := by decide +kernel
theorem dX7_forge_36 : decode cX7_forge 36 = .ok (.ireturn, 1) := by decide +kernel
theorem dX7_forge_37 : decode cX7_forge 37 = .ok (.aload_n 0, 1) := by decide +kernel
theorem dX7_forge_38 : decode cX7_forge 38 = .ok (.getfield 72, 3) := by decide +kernel
theorem dX7_forge_41 : decode cX7_forge 41 = .ok (.iload_n 1, 1) := by decide +kernel
theorem dX7_forge_42 : decode cX7_forge 42 = .ok (.iaload, 1) := by decide +kernel
theorem dX7_forge_43 : decode cX7_forge 43 = .ok (.istore 4, 2) := by decide +kernel
theorem dX7_forge_45 : decode cX7_forge 45 = .ok (.bipush 100, 2) := by decide +kernel
theorem dX7_forge_47 : decode cX7_forge 47 = .ok (.iload_n 1, 1) := by decide +kernel
theorem dX7_forge_48 : decode cX7_forge 48 = .ok (.imul, 1) := by decide +kernel
theorem dX7_forge_49 : decode cX7_forge 49 = .ok (.istore 5, 2) := by decide +kernel
theorem dX7_forge_51 : decode cX7_forge 51 = .ok (.iload_n 2, 1) := by decide +kernel
theorem dX7_forge_52 : decode cX7_forge 52 = .ok (.iconst 3, 1) := by decide +kernel
theorem dX7_forge_53 : decode cX7_forge 53 = .ok (.if_icmp .le 8, 3) := by decide +kernel
theorem dX7_forge_56 : decode cX7_forge 56 = .ok (.iload_n 2, 1) := by decide +kernel
theorem dX7_forge_57 : decode cX7_forge 57 = .ok (.iconst 5, 1) := by decide +kernel
theorem dX7_forge_58 : decode cX7_forge 58 = .ok (.if_icmp .ne 39, 3) := by decide +kernel
theorem dX7_forge_61 : decode cX7_forge 61 = .ok (.iload 4, 2) := by decide +kernel
theorem dX7_forge_63 : decode cX7_forge 63 = .ok (.ifCond .ne 10, 3) := by decide +kernel
theorem dX7_forge_66 : decode cX7_forge 66 = .ok (.aload_n 0, 1) := by decide +kernel
theorem dX7_forge_67 : decode cX7_forge 67 = .ok (.bipush 10, 2) := by decide +kernel
theorem dX7_forge_69 : decode cX7_forge 69 = .ok (.invokevirtual 178, 3) := by decide +kernel
theorem dX7_forge_72 : decode cX7_forge 72 = .ok (.ireturn, 1) := by decide +kernel
theorem dX7_forge_73 : decode cX7_forge 73 = .ok (.iload 4, 2) := by decide +kernel
theorem dX7_forge_75 : decode cX7_forge 75 = .ok (.iload_n 2, 1) := by decide +kernel
theorem dX7_forge_76 : decode cX7_forge 76 = .ok (.iconst 5, 1) := by decide +kernel
theorem dX7_forge_77 : decode cX7_forge 77 = .ok (.if_icmp .ne 7, 3) := by decide +kernel
theorem dX7_forge_80 : decode cX7_forge 80 = .ok (.iconst 2, 1) := by decide +kernel
theorem dX7_forge_81 : decode cX7_forge 81 = .ok (.goto 6, 3) := by decide +kernel
theorem dX7_forge_84 : decode cX7_forge 84 = .ok (.iload_n 2, 1) := by decide +kernel
theorem dX7_forge_85 : decode cX7_forge 85 = .ok (.iconst 1, 1) := by decide +kernel
theorem dX7_forge_86 : decode cX7_forge 86 = .ok (.iadd, 1) := by decide +kernel
theorem dX7_forge_87 : decode cX7_forge 87 = .ok (.if_icmp .eq 10, 3) := by decide +kernel
theorem dX7_forge_90 : decode cX7_forge 90 = .ok (.aload_n 0, 1) := by decide +kernel
theorem dX7_forge_91 : decode cX7_forge 91 = .ok (.bipush 11, 2) := by decide +kernel
theorem dX7_forge_93 : decode cX7_forge 93 = .ok (.invokevirtual 178, 3) := by decide +kernel
theorem dX7_forge_96 : decode cX7_forge 96 = .ok (.ireturn, 1) := by decide +kernel
theorem dX7_forge_97 : decode cX7_forge 97 = .ok (.iload_n 2, 1) := by decide +kernel
theorem dX7_forge_98 : decode cX7_forge 98 = .ok (.tableswitch 294 0 7 #[46, 58, 95, 58, 144, 163, 232, 271], 46) := by decide +kernel
theorem dX7_forge_144 : decode cX7_forge 144 = .ok (.aload_n 0, 1) := by decide +kernel
theorem dX7_forge_145 : decode cX7_forge 145 = .ok (.aload_n 0, 1) := by decide +kernel
theorem dX7_forge_146 : decode cX7_forge 146 = .ok (.getfield 78, 3) := by decide +kernel
theorem dX7_forge_149 : decode cX7_forge 149 = .ok (.iload 5, 2) := by decide +kernel
theorem dX7_forge_151 : decode cX7_forge 151 = .ok (.iaload, 1) := by decide +kernel
theorem dX7_forge_152 : decode cX7_forge 152 = .ok (.invokevirtual 181, 3) := by decide +kernel
theorem dX7_forge_155 : decode cX7_forge 155 = .ok (.ireturn, 1) := by decide +kernel
theorem dX7_forge_156 : decode cX7_forge 156 = .ok (.iload_n 3, 1) := by decide +kernel
theorem dX7_forge_157 : decode cX7_forge 157 = .ok (.ifCond .lt 13, 3) := by decide +kernel
theorem dX7_forge_160 : decode cX7_forge 160 = .ok (.iload_n 3, 1) := by decide +kernel
theorem dX7_forge_161 : decode cX7_forge 161 = .ok (.aload_n 0, 1) := by decide +kernel
theorem dX7_forge_162 : decode cX7_forge 162 = .ok (.getfield 75, 3) := by decide +kernel
theorem dX7_forge_165 : decode cX7_forge 165 = .ok (.iload_n 1, 1) := by decide +kernel
theorem dX7_forge_166 : decode cX7_forge 166 = .ok (.iaload, 1) := by decide +kernel
theorem dX7_forge_167 : decode cX7_forge 167 = .ok (.if_icmp .lt 12, 3) := by decide +kernel
theorem dX7_forge_170 : decode cX7_forge 170 = .ok (.aload_n 0, 1) := by decide +kernel
theorem dX7_forge_171 : decode cX7_forge 171 = .ok (.bipush 12, 2) := by decide +kernel
theorem dX7_forge_173 : decode cX7_forge 173 = .ok (.invokevirtual 178, 3) := by decide +kernel
theorem dX7_forge_176 : decode cX7_forge 176 = .ok (.goto 16, 3) := by decide +kernel
theorem dX7_forge_179 : decode cX7_forge 179 = .ok (.aload_n 0, 1) := by decide +kernel
theorem dX7_forge_180 : decode cX7_forge 180 = .ok (.aload_n 0, 1) := by decide +kernel
theorem dX7_forge_181 : decode cX7_forge 181 = .ok (.getfield 78, 3) := by decide +kernel
theorem dX7_forge_184 : decode cX7_forge 184 = .ok (.iload 5, 2) := by decide +kernel
theorem dX7_forge_186 : decode cX7_forge 186 = .ok (.iload_n 3, 1) := by decide +kernel
theorem dX7_forge_187 : decode cX7_forge 187 = .ok (.iadd, 1) := by decide +kernel
theorem dX7_forge_188 : decode cX7_forge 188 = .ok (.iaload, 1) := by decide +kernel
theorem dX7_forge_189 : decode cX7_forge 189 = .ok (.invokevirtual 181, 3) := by decide +kernel
theorem dX7_forge_192 : decode cX7_forge 192 = .ok (.ireturn, 1) := by decide +kernel
theorem dX7_forge_193 : decode cX7_forge 193 = .ok (.iconst 0, 1) := by decide +kernel
theorem dX7_forge_194 : decode cX7_forge 194 = .ok (.istore 6, 2) := by decide +kernel
theorem dX7_forge_196 : decode cX7_forge 196 = .ok (.iconst 0, 1) := by decide +kernel
theorem dX7_forge_197 : decode cX7_forge 197 = .ok (.istore 7, 2) := by decide +kernel
theorem dX7_forge_199 : decode cX7_forge 199 = .ok (.iload 7, 2) := by decide +kernel
theorem dX7_forge_201 : decode cX7_forge 201 = .ok (.aload_n 0, 1) := by decide +kernel
theorem dX7_forge_202 : decode cX7_forge 202 = .ok (.getfield 75, 3) := by decide +kernel
theorem dX7_forge_205 : decode cX7_forge 205 = .ok (.iload_n 1, 1) := by decide +kernel
theorem dX7_forge_206 : decode cX7_forge 206 = .ok (.iaload, 1) := by decide +kernel
theorem dX7_forge_207 : decode cX7_forge 207 = .ok (.if_icmp .ge 28, 3) := by decide +kernel
theorem dX7_forge_210 : decode cX7_forge 210 = .ok (.aload_n 0, 1) := by decide +kernel
theorem dX7_forge_211 : decode cX7_forge 211 = .ok (.getfield 81, 3) := by decide +kernel
theorem dX7_forge_214 : decode cX7_forge 214 = .ok (.iload 5, 2) := by decide +kernel
theorem dX7_forge_216 : decode cX7_forge 216 = .ok (.iload 7, 2) := by decide +kernel
theorem dX7_forge_218 : decode cX7_forge 218 = .ok (.iadd, 1) := by decide +kernel
theorem dX7_forge_219 : decode cX7_forge 219 = .ok (.laload, 1) := by decide +kernel
theorem dX7_forge_220 : decode cX7_forge 220 = .ok (.iload_n 3, 1) := by decide +kernel
theorem dX7_forge_221 : decode cX7_forge 221 = .ok (.i2l, 1) := by decide +kernel
theorem dX7_forge_222 : decode cX7_forge 222 = .ok (.lcmp, 1) := by decide +kernel
theorem dX7_forge_223 : decode cX7_forge 223 = .ok (.ifCond .ne 6, 3) := by decide +kernel
theorem dX7_forge_226 : decode cX7_forge 226 = .ok (.iinc 6 1, 3) := by decide +kernel
theorem dX7_forge_229 : decode cX7_forge 229 = .ok (.iinc 7 1, 3) := by decide +kernel
theorem dX7_forge_232 : decode cX7_forge 232 = .ok (.goto (-33), 3) := by decide +kernel
theorem dX7_forge_235 : decode cX7_forge 235 = .ok (.aload_n 0, 1) := by decide +kernel
theorem dX7_forge_236 : decode cX7_forge 236 = .ok (.iload 6, 2) := by decide +kernel
theorem dX7_forge_238 : decode cX7_forge 238 = .ok (.invokevirtual 181, 3) := by decide +kernel
theorem dX7_forge_241 : decode cX7_forge 241 = .ok (.ireturn, 1) := by decide +kernel
theorem dX7_forge_242 : decode cX7_forge 242 = .ok (.iload_n 3, 1) := by decide +kernel
theorem dX7_forge_243 : decode cX7_forge 243 = .ok (.ifCond .ge 12, 3) := by decide +kernel
theorem dX7_forge_246 : decode cX7_forge 246 = .ok (.aload_n 0, 1) := by decide +kernel
theorem dX7_forge_247 : decode cX7_forge 247 = .ok (.bipush 13, 2) := by decide +kernel
theorem dX7_forge_249 : decode cX7_forge 249 = .ok (.invokevirtual 178, 3) := by decide +kernel
theorem dX7_forge_252 : decode cX7_forge 252 = .ok (.goto 8, 3) := by decide +kernel
theorem dX7_forge_255 : decode cX7_forge 255 = .ok (.aload_n 0, 1) := by decide +kernel
theorem dX7_forge_256 : decode cX7_forge 256 = .ok (.iload_n 3, 1) := by decide +kernel
theorem dX7_forge_257 : decode cX7_forge 257 = .ok (.invokevirtual 181, 3) := by decide +kernel
theorem dX7_forge_260 : decode cX7_forge 260 = .ok (.ireturn, 1) := by decide +kernel
theorem dX7_forge_261 : decode cX7_forge 261 = .ok (.iload_n 3, 1) := by decide +kernel
theorem dX7_forge_262 : decode cX7_forge 262 = .ok (.ifCond .lt 21, 3) := by decide +kernel
theorem dX7_forge_265 : decode cX7_forge 265 = .ok (.iload_n 3, 1) := by decide +kernel
theorem dX7_forge_266 : decode cX7_forge 266 = .ok (.aload_n 0, 1) := by decide +kernel
theorem dX7_forge_267 : decode cX7_forge 267 = .ok (.getfield 75, 3) := by decide +kernel
theorem dX7_forge_270 : decode cX7_forge 270 = .ok (.iload_n 1, 1) := by decide +kernel
theorem dX7_forge_271 : decode cX7_forge 271 = .ok (.iaload, 1) := by decide +kernel
theorem dX7_forge_272 : decode cX7_forge 272 = .ok (.if_icmp .gt 11, 3) := by decide +kernel
theorem dX7_forge_275 : decode cX7_forge 275 = .ok (.iload_n 3, 1) := by decide +kernel
theorem dX7_forge_276 : decode cX7_forge 276 = .ok (.iload_n 3, 1) := by decide +kernel
theorem dX7_forge_277 : decode cX7_forge 277 = .ok (.iadd, 1) := by decide +kernel
theorem dX7_forge_278 : decode cX7_forge 278 = .ok (.bipush 8, 2) := by decide +kernel
theorem dX7_forge_280 : decode cX7_forge 280 = .ok (.if_icmp .le 10, 3) := by decide +kernel
theorem dX7_forge_283 : decode cX7_forge 283 = .ok (.aload_n 0, 1) := by decide +kernel
theorem dX7_forge_284 : decode cX7_forge 284 = .ok (.bipush 12, 2) := by decide +kernel
theorem dX7_forge_286 : decode cX7_forge 286 = .ok (.invokevirtual 178, 3) := by decide +kernel
theorem dX7_forge_289 : decode cX7_forge 289 = .ok (.ireturn, 1) := by decide +kernel
theorem dX7_forge_290 : decode cX7_forge 290 = .ok (.iconst 0, 1) := by decide +kernel
theorem dX7_forge_291 : decode cX7_forge 291 = .ok (.istore 6, 2) := by decide +kernel
theorem dX7_forge_293 : decode cX7_forge 293 = .ok (.iconst 0, 1) := by decide +kernel
theorem dX7_forge_294 : decode cX7_forge 294 = .ok (.istore 7, 2) := by decide +kernel
theorem dX7_forge_296 : decode cX7_forge 296 = .ok (.iload 7, 2) := by decide +kernel
theorem dX7_forge_298 : decode cX7_forge 298 = .ok (.iload_n 3, 1) := by decide +kernel
theorem dX7_forge_299 : decode cX7_forge 299 = .ok (.if_icmp .ge 24, 3) := by decide +kernel
theorem dX7_forge_302 : decode cX7_forge 302 = .ok (.iload 6, 2) := by decide +kernel
theorem dX7_forge_304 : decode cX7_forge 304 = .ok (.aload_n 0, 1) := by decide +kernel
theorem dX7_forge_305 : decode cX7_forge 305 = .ok (.getfield 78, 3) := by decide +kernel
theorem dX7_forge_308 : decode cX7_forge 308 = .ok (.iload 5, 2) := by decide +kernel
theorem dX7_forge_310 : decode cX7_forge 310 = .ok (.iload 7, 2) := by decide +kernel
theorem dX7_forge_312 : decode cX7_forge 312 = .ok (.iadd, 1) := by decide +kernel
theorem dX7_forge_313 : decode cX7_forge 313 = .ok (.iaload, 1) := by decide +kernel
theorem dX7_forge_314 : decode cX7_forge 314 = .ok (.iadd, 1) := by decide +kernel
theorem dX7_forge_315 : decode cX7_forge 315 = .ok (.istore 6, 2) := by decide +kernel
theorem dX7_forge_317 : decode cX7_forge 317 = .ok (.iinc 7 1, 3) := by decide +kernel
theorem dX7_forge_320 : decode cX7_forge 320 = .ok (.goto (-24), 3) := by decide +kernel
theorem dX7_forge_323 : decode cX7_forge 323 = .ok (.aload_n 0, 1) := by decide +kernel
theorem dX7_forge_324 : decode cX7_forge 324 = .ok (.iload 6, 2) := by decide +kernel
theorem dX7_forge_326 : decode cX7_forge 326 = .ok (.invokevirtual 181, 3) := by decide +kernel
theorem dX7_forge_329 : decode cX7_forge 329 = .ok (.ireturn, 1) := by decide +kernel
theorem dX7_forge_330 : decode cX7_forge 330 = .ok (.iload 4, 2) := by decide +kernel
theorem dX7_forge_332 : decode cX7_forge 332 = .ok (.ifCond .ne 11, 3) := by decide +kernel
theorem dX7_forge_335 : decode cX7_forge 335 = .ok (.aload_n 0, 1) := by decide +kernel
theorem dX7_forge_336 : decode cX7_forge 336 = .ok (.iconst 0, 1) := by decide +kernel
theorem dX7_forge_337 : decode cX7_forge 337 = .ok (.invokevirtual 181, 3) := by decide +kernel
theorem dX7_forge_340 : decode cX7_forge 340 = .ok (.goto 28, 3) := by decide +kernel
theorem dX7_forge_343 : decode cX7_forge 343 = .ok (.iload 4, 2) := by decide +kernel
theorem dX7_forge_345 : decode cX7_forge 345 = .ok (.iconst 3, 1) := by decide +kernel
theorem dX7_forge_346 : decode cX7_forge 346 = .ok (.if_icmp .ne 16, 3) := by decide +kernel
theorem dX7_forge_349 : decode cX7_forge 349 = .ok (.aload_n 0, 1) := by decide +kernel
theorem dX7_forge_350 : decode cX7_forge 350 = .ok (.aload_n 0, 1) := by decide +kernel
theorem dX7_forge_351 : decode cX7_forge 351 = .ok (.getfield 75, 3) := by decide +kernel
theorem dX7_forge_354 : decode cX7_forge 354 = .ok (.iload_n 1, 1) := by decide +kernel
theorem dX7_forge_355 : decode cX7_forge 355 = .ok (.iaload, 1) := by decide +kernel
theorem dX7_forge_356 : decode cX7_forge 356 = .ok (.invokevirtual 181, 3) := by decide +kernel
end
section
theorem dX7_forge_359 : decode cX7_forge 359 = .ok (.goto 9, 3) := by decide +kernel
theorem dX7_forge_362 : decode cX7_forge 362 = .ok (.aload_n 0, 1) := by decide +kernel
theorem dX7_forge_363 : decode cX7_forge 363 = .ok (.bipush 14, 2) := by decide +kernel
theorem dX7_forge_365 : decode cX7_forge 365 = .ok (.invokevirtual 178, 3) := by decide +kernel
theorem dX7_forge_368 : decode cX7_forge 368 = .ok (.ireturn, 1) := by decide +kernel
theorem dX7_forge_369 : decode cX7_forge 369 = .ok (.iload_n 3, 1) := by decide +kernel
theorem dX7_forge_370 : decode cX7_forge 370 = .ok (.ifCond .ne 12, 3) := by decide +kernel
theorem dX7_forge_373 : decode cX7_forge 373 = .ok (.aload_n 0, 1) := by decide +kernel
theorem dX7_forge_374 : decode cX7_forge 374 = .ok (.bipush 15, 2) := by decide +kernel
theorem dX7_forge_376 : decode cX7_forge 376 = .ok (.invokevirtual 178, 3) := by decide +kernel
theorem dX7_forge_379 : decode cX7_forge 379 = .ok (.goto 12, 3) := by decide +kernel
theorem dX7_forge_382 : decode cX7_forge 382 = .ok (.aload_n 0, 1) := by decide +kernel
theorem dX7_forge_383 : decode cX7_forge 383 = .ok (.sipush 1000, 3) := by decide +kernel
theorem dX7_forge_386 : decode cX7_forge 386 = .ok (.iload_n 3, 1) := by decide +kernel
theorem dX7_forge_387 : decode cX7_forge 387 = .ok (.idiv, 1) := by decide +kernel
theorem dX7_forge_388 : decode cX7_forge 388 = .ok (.invokevirtual 181, 3) := by decide +kernel
theorem dX7_forge_391 : decode cX7_forge 391 = .ok (.ireturn, 1) := by decide +kernel
theorem dX7_forge_392 : decode cX7_forge 392 = .ok (.aload_n 0, 1) := by decide +kernel
theorem dX7_forge_393 : decode cX7_forge 393 = .ok (.bipush 10, 2) := by decide +kernel
theorem dX7_forge_395 : decode cX7_forge 395 = .ok (.invokevirtual 178, 3) := by decide +kernel
theorem dX7_forge_398 : decode cX7_forge 398 = .ok (.ireturn, 1) := by decide +kernel
theorem dX7_status_0 : decode cX7_status 0 = .ok (.aload_n 0, 1) := by decide +kernel
theorem dX7_status_1 : decode cX7_status 1 = .ok (.getfield 175, 3) := by decide +kernel
theorem dX7_status_4 : decode cX7_status 4 = .ok (.ireturn, 1) := by decide +kernel
theorem dL_law_0 : decode cL_law 0 = .ok (.new 7, 3) := by decide +kernel
theorem dL_law_3 : decode cL_law 3 = .ok (.dup, 1) := by decide +kernel
theorem dL_law_4 : decode cL_law 4 = .ok (.invokespecial 9, 3) := by decide +kernel
theorem dL_law_7 : decode cL_law 7 = .ok (.astore_n 1, 1) := by decide +kernel
theorem dL_law_8 : decode cL_law 8 = .ok (.new 10, 3) := by decide +kernel
theorem dL_law_11 : decode cL_law 11 = .ok (.dup, 1) := by decide +kernel
theorem dL_law_12 : decode cL_law 12 = .ok (.invokespecial 12, 3) := by decide +kernel
theorem dL_law_15 : decode cL_law 15 = .ok (.astore_n 2, 1) := by decide +kernel
theorem dL_law_16 : decode cL_law 16 = .ok (.iconst 0, 1) := by decide +kernel
theorem dL_law_17 : decode cL_law 17 = .ok (.istore_n 3, 1) := by decide +kernel
theorem dL_law_18 : decode cL_law 18 = .ok (.iload_n 3, 1) := by decide +kernel
theorem dL_law_19 : decode cL_law 19 = .ok (.aload_n 0, 1) := by decide +kernel
theorem dL_law_20 : decode cL_law 20 = .ok (.arraylength, 1) := by decide +kernel
theorem dL_law_21 : decode cL_law 21 = .ok (.iconst 5, 1) := by decide +kernel
theorem dL_law_22 : decode cL_law 22 = .ok (.isub, 1) := by decide +kernel
theorem dL_law_23 : decode cL_law 23 = .ok (.if_icmp .gt 1160, 3) := by decide +kernel
theorem dL_law_26 : decode cL_law 26 = .ok (.aload_n 0, 1) := by decide +kernel
theorem dL_law_27 : decode cL_law 27 = .ok (.iload_n 3, 1) := by decide +kernel
theorem dL_law_28 : decode cL_law 28 = .ok (.iaload, 1) := by decide +kernel
theorem dL_law_29 : decode cL_law 29 = .ok (.bipush 31, 2) := by decide +kernel
theorem dL_law_31 : decode cL_law 31 = .ok (.iand, 1) := by decide +kernel
theorem dL_law_32 : decode cL_law 32 = .ok (.tableswitch 1145 0 28 #[132, 185, 208, 281, 304, 327, 360, 384, 407, 421, 454, 477, 510, 543, 586, 619, 653, 687, 760, 784, 847, 870, 903, 936, 960, 1023, 1036, 1089, 1132], 132) := by decide +kernel
theorem dL_law_164 : decode cL_law 164 = .ok (.aload_n 1, 1) := by decide +kernel
theorem dL_law_165 : decode cL_law 165 = .ok (.aload_n 0, 1) := by decide +kernel
theorem dL_law_166 : decode cL_law 166 = .ok (.iload_n 3, 1) := by decide +kernel
theorem dL_law_167 : decode cL_law 167 = .ok (.iconst 1, 1) := by decide +kernel
theorem dL_law_168 : decode cL_law 168 = .ok (.iadd, 1) := by decide +kernel
theorem dL_law_169 : decode cL_law 169 = .ok (.iaload, 1) := by decide +kernel
theorem dL_law_170 : decode cL_law 170 = .ok (.i2l, 1) := by decide +kernel
theorem dL_law_171 : decode cL_law 171 = .ok (.bipush 32, 2) := by decide +kernel
theorem dL_law_173 : decode cL_law 173 = .ok (.lshl, 1) := by decide +kernel
theorem dL_law_174 : decode cL_law 174 = .ok (.aload_n 0, 1) := by decide +kernel
theorem dL_law_175 : decode cL_law 175 = .ok (.iload_n 3, 1) := by decide +kernel
theorem dL_law_176 : decode cL_law 176 = .ok (.iconst 2, 1) := by decide +kernel
theorem dL_law_177 : decode cL_law 177 = .ok (.iadd, 1) := by decide +kernel
theorem dL_law_178 : decode cL_law 178 = .ok (.iaload, 1) := by decide +kernel
theorem dL_law_179 : decode cL_law 179 = .ok (.i2l, 1) := by decide +kernel
theorem dL_law_180 : decode cL_law 180 = .ok (.ldc2_w 13, 3) := by decide +kernel
theorem dL_law_183 : decode cL_law 183 = .ok (.land, 1) := by decide +kernel
theorem dL_law_184 : decode cL_law 184 = .ok (.lor, 1) := by decide +kernel
theorem dL_law_185 : decode cL_law 185 = .ok (.invokevirtual 15, 3) := by decide +kernel
theorem dL_law_188 : decode cL_law 188 = .ok (.aload_n 2, 1) := by decide +kernel
theorem dL_law_189 : decode cL_law 189 = .ok (.aload_n 0, 1) := by decide +kernel
theorem dL_law_190 : decode cL_law 190 = .ok (.iload_n 3, 1) := by decide +kernel
theorem dL_law_191 : decode cL_law 191 = .ok (.iconst 1, 1) := by decide +kernel
theorem dL_law_192 : decode cL_law 192 = .ok (.iadd, 1) := by decide +kernel
theorem dL_law_193 : decode cL_law 193 = .ok (.iaload, 1) := by decide +kernel
theorem dL_law_194 : decode cL_law 194 = .ok (.i2l, 1) := by decide +kernel
theorem dL_law_195 : decode cL_law 195 = .ok (.bipush 32, 2) := by decide +kernel
theorem dL_law_197 : decode cL_law 197 = .ok (.lshl, 1) := by decide +kernel
theorem dL_law_198 : decode cL_law 198 = .ok (.aload_n 0, 1) := by decide +kernel
theorem dL_law_199 : decode cL_law 199 = .ok (.iload_n 3, 1) := by decide +kernel
theorem dL_law_200 : decode cL_law 200 = .ok (.iconst 2, 1) := by decide +kernel
theorem dL_law_201 : decode cL_law 201 = .ok (.iadd, 1) := by decide +kernel
theorem dL_law_202 : decode cL_law 202 = .ok (.iaload, 1) := by decide +kernel
theorem dL_law_203 : decode cL_law 203 = .ok (.i2l, 1) := by decide +kernel
theorem dL_law_204 : decode cL_law 204 = .ok (.ldc2_w 13, 3) := by decide +kernel
theorem dL_law_207 : decode cL_law 207 = .ok (.land, 1) := by decide +kernel
theorem dL_law_208 : decode cL_law 208 = .ok (.lor, 1) := by decide +kernel
theorem dL_law_209 : decode cL_law 209 = .ok (.invokevirtual 19, 3) := by decide +kernel
theorem dL_law_212 : decode cL_law 212 = .ok (.if_icmp .eq 965, 3) := by decide +kernel
theorem dL_law_215 : decode cL_law 215 = .ok (.iconst 0, 1) := by decide +kernel
theorem dL_law_216 : decode cL_law 216 = .ok (.ireturn, 1) := by decide +kernel
theorem dL_law_217 : decode cL_law 217 = .ok (.aload_n 1, 1) := by decide +kernel
theorem dL_law_218 : decode cL_law 218 = .ok (.aload_n 0, 1) := by decide +kernel
theorem dL_law_219 : decode cL_law 219 = .ok (.iload_n 3, 1) := by decide +kernel
theorem dL_law_220 : decode cL_law 220 = .ok (.iconst 1, 1) := by decide +kernel
theorem dL_law_221 : decode cL_law 221 = .ok (.iadd, 1) := by decide +kernel
theorem dL_law_222 : decode cL_law 222 = .ok (.iaload, 1) := by decide +kernel
theorem dL_law_223 : decode cL_law 223 = .ok (.invokevirtual 20, 3) := by decide +kernel
theorem dL_law_226 : decode cL_law 226 = .ok (.aload_n 2, 1) := by decide +kernel
theorem dL_law_227 : decode cL_law 227 = .ok (.aload_n 0, 1) := by decide +kernel
theorem dL_law_228 : decode cL_law 228 = .ok (.iload_n 3, 1) := by decide +kernel
theorem dL_law_229 : decode cL_law 229 = .ok (.iconst 1, 1) := by decide +kernel
theorem dL_law_230 : decode cL_law 230 = .ok (.iadd, 1) := by decide +kernel
theorem dL_law_231 : decode cL_law 231 = .ok (.iaload, 1) := by decide +kernel
theorem dL_law_232 : decode cL_law 232 = .ok (.invokevirtual 24, 3) := by decide +kernel
theorem dL_law_235 : decode cL_law 235 = .ok (.if_icmp .eq 942, 3) := by decide +kernel
theorem dL_law_238 : decode cL_law 238 = .ok (.iconst 0, 1) := by decide +kernel
theorem dL_law_239 : decode cL_law 239 = .ok (.ireturn, 1) := by decide +kernel
theorem dL_law_240 : decode cL_law 240 = .ok (.aload_n 1, 1) := by decide +kernel
theorem dL_law_241 : decode cL_law 241 = .ok (.aload_n 0, 1) := by decide +kernel
theorem dL_law_242 : decode cL_law 242 = .ok (.iload_n 3, 1) := by decide +kernel
theorem dL_law_243 : decode cL_law 243 = .ok (.iconst 1, 1) := by decide +kernel
theorem dL_law_244 : decode cL_law 244 = .ok (.iadd, 1) := by decide +kernel
theorem dL_law_245 : decode cL_law 245 = .ok (.iaload, 1) := by decide +kernel
theorem dL_law_246 : decode cL_law 246 = .ok (.aload_n 0, 1) := by decide +kernel
theorem dL_law_247 : decode cL_law 247 = .ok (.iload_n 3, 1) := by decide +kernel
theorem dL_law_248 : decode cL_law 248 = .ok (.iconst 2, 1) := by decide +kernel
theorem dL_law_249 : decode cL_law 249 = .ok (.iadd, 1) := by decide +kernel
theorem dL_law_250 : decode cL_law 250 = .ok (.iaload, 1) := by decide +kernel
theorem dL_law_251 : decode cL_law 251 = .ok (.aload_n 0, 1) := by decide +kernel
theorem dL_law_252 : decode cL_law 252 = .ok (.iload_n 3, 1) := by decide +kernel
theorem dL_law_253 : decode cL_law 253 = .ok (.iconst 3, 1) := by decide +kernel
theorem dL_law_254 : decode cL_law 254 = .ok (.iadd, 1) := by decide +kernel
theorem dL_law_255 : decode cL_law 255 = .ok (.iaload, 1) := by decide +kernel
theorem dL_law_256 : decode cL_law 256 = .ok (.i2l, 1) := by decide +kernel
theorem dL_law_257 : decode cL_law 257 = .ok (.bipush 32, 2) := by decide +kernel
theorem dL_law_259 : decode cL_law 259 = .ok (.lshl, 1) := by decide +kernel
theorem dL_law_260 : decode cL_law 260 = .ok (.aload_n 0, 1) := by decide +kernel
theorem dL_law_261 : decode cL_law 261 = .ok (.iload_n 3, 1) := by decide +kernel
theorem dL_law_262 : decode cL_law 262 = .ok (.iconst 4, 1) := by decide +kernel
theorem dL_law_263 : decode cL_law 263 = .ok (.iadd, 1) := by decide +kernel
theorem dL_law_264 : decode cL_law 264 = .ok (.iaload, 1) := by decide +kernel
theorem dL_law_265 : decode cL_law 265 = .ok (.i2l, 1) := by decide +kernel
theorem dL_law_266 : decode cL_law 266 = .ok (.ldc2_w 13, 3) := by decide +kernel
theorem dL_law_269 : decode cL_law 269 = .ok (.land, 1) := by decide +kernel
theorem dL_law_270 : decode cL_law 270 = .ok (.lor, 1) := by decide +kernel
theorem dL_law_271 : decode cL_law 271 = .ok (.invokevirtual 25, 3) := by decide +kernel
theorem dL_law_274 : decode cL_law 274 = .ok (.aload_n 2, 1) := by decide +kernel
theorem dL_law_275 : decode cL_law 275 = .ok (.aload_n 0, 1) := by decide +kernel
theorem dL_law_276 : decode cL_law 276 = .ok (.iload_n 3, 1) := by decide +kernel
theorem dL_law_277 : decode cL_law 277 = .ok (.iconst 1, 1) := by decide +kernel
theorem dL_law_278 : decode cL_law 278 = .ok (.iadd, 1) := by decide +kernel
theorem dL_law_279 : decode cL_law 279 = .ok (.iaload, 1) := by decide +kernel
theorem dL_law_280 : decode cL_law 280 = .ok (.aload_n 0, 1) := by decide +kernel
theorem dL_law_281 : decode cL_law 281 = .ok (.iload_n 3, 1) := by decide +kernel
theorem dL_law_282 : decode cL_law 282 = .ok (.iconst 2, 1) := by decide +kernel
theorem dL_law_283 : decode cL_law 283 = .ok (.iadd, 1) := by decide +kernel
theorem dL_law_284 : decode cL_law 284 = .ok (.iaload, 1) := by decide +kernel
theorem dL_law_285 : decode cL_law 285 = .ok (.aload_n 0, 1) := by decide +kernel
theorem dL_law_286 : decode cL_law 286 = .ok (.iload_n 3, 1) := by decide +kernel
theorem dL_law_287 : decode cL_law 287 = .ok (.iconst 3, 1) := by decide +kernel
theorem dL_law_288 : decode cL_law 288 = .ok (.iadd, 1) := by decide +kernel
theorem dL_law_289 : decode cL_law 289 = .ok (.iaload, 1) := by decide +kernel
theorem dL_law_290 : decode cL_law 290 = .ok (.i2l, 1) := by decide +kernel
theorem dL_law_291 : decode cL_law 291 = .ok (.bipush 32, 2) := by decide +kernel
theorem dL_law_293 : decode cL_law 293 = .ok (.lshl, 1) := by decide +kernel
theorem dL_law_294 : decode cL_law 294 = .ok (.aload_n 0, 1) := by decide +kernel
theorem dL_law_295 : decode cL_law 295 = .ok (.iload_n 3, 1) := by decide +kernel
theorem dL_law_296 : decode cL_law 296 = .ok (.iconst 4, 1) := by decide +kernel
theorem dL_law_297 : decode cL_law 297 = .ok (.iadd, 1) := by decide +kernel
theorem dL_law_298 : decode cL_law 298 = .ok (.iaload, 1) := by decide +kernel
theorem dL_law_299 : decode cL_law 299 = .ok (.i2l, 1) := by decide +kernel
theorem dL_law_300 : decode cL_law 300 = .ok (.ldc2_w 13, 3) := by decide +kernel
theorem dL_law_303 : decode cL_law 303 = .ok (.land, 1) := by decide +kernel
theorem dL_law_304 : decode cL_law 304 = .ok (.lor, 1) := by decide +kernel
theorem dL_law_305 : decode cL_law 305 = .ok (.invokevirtual 29, 3) := by decide +kernel
theorem dL_law_308 : decode cL_law 308 = .ok (.if_icmp .eq 869, 3) := by decide +kernel
theorem dL_law_311 : decode cL_law 311 = .ok (.iconst 0, 1) := by decide +kernel
theorem dL_law_312 : decode cL_law 312 = .ok (.ireturn, 1) := by decide +kernel
theorem dL_law_313 : decode cL_law 313 = .ok (.aload_n 1, 1) := by decide +kernel
theorem dL_law_314 : decode cL_law 314 = .ok (.aload_n 0, 1) := by decide +kernel
theorem dL_law_315 : decode cL_law 315 = .ok (.iload_n 3, 1) := by decide +kernel
theorem dL_law_316 : decode cL_law 316 = .ok (.iconst 1, 1) := by decide +kernel
theorem dL_law_317 : decode cL_law 317 = .ok (.iadd, 1) := by decide +kernel
theorem dL_law_318 : decode cL_law 318 = .ok (.iaload, 1) := by decide +kernel
theorem dL_law_319 : decode cL_law 319 = .ok (.invokevirtual 30, 3) := by decide +kernel
theorem dL_law_322 : decode cL_law 322 = .ok (.aload_n 2, 1) := by decide +kernel
theorem dL_law_323 : decode cL_law 323 = .ok (.aload_n 0, 1) := by decide +kernel
theorem dL_law_324 : decode cL_law 324 = .ok (.iload_n 3, 1) := by decide +kernel
theorem dL_law_325 : decode cL_law 325 = .ok (.iconst 1, 1) := by decide +kernel
theorem dL_law_326 : decode cL_law 326 = .ok (.iadd, 1) := by decide +kernel
theorem dL_law_327 : decode cL_law 327 = .ok (.iaload, 1) := by decide +kernel
theorem dL_law_328 : decode cL_law 328 = .ok (.invokevirtual 33, 3) := by decide +kernel
theorem dL_law_331 : decode cL_law 331 = .ok (.if_icmp .eq 846, 3) := by decide +kernel
theorem dL_law_334 : decode cL_law 334 = .ok (.iconst 0, 1) := by decide +kernel
theorem dL_law_335 : decode cL_law 335 = .ok (.ireturn, 1) := by decide +kernel
theorem dL_law_336 : decode cL_law 336 = .ok (.aload_n 1, 1) := by decide +kernel
theorem dL_law_337 : decode cL_law 337 = .ok (.aload_n 0, 1) := by decide +kernel
theorem dL_law_338 : decode cL_law 338 = .ok (.iload_n 3, 1) := by decide +kernel
theorem dL_law_339 : decode cL_law 339 = .ok (.iconst 1, 1) := by decide +kernel
theorem dL_law_340 : decode cL_law 340 = .ok (.iadd, 1) := by decide +kernel
theorem dL_law_341 : decode cL_law 341 = .ok (.iaload, 1) := by decide +kernel
theorem dL_law_342 : decode cL_law 342 = .ok (.invokevirtual 34, 3) := by decide +kernel
theorem dL_law_345 : decode cL_law 345 = .ok (.aload_n 2, 1) := by decide +kernel
theorem dL_law_346 : decode cL_law 346 = .ok (.aload_n 0, 1) := by decide +kernel
theorem dL_law_347 : decode cL_law 347 = .ok (.iload_n 3, 1) := by decide +kernel
theorem dL_law_348 : decode cL_law 348 = .ok (.iconst 1, 1) := by decide +kernel
theorem dL_law_349 : decode cL_law 349 = .ok (.iadd, 1) := by decide +kernel
theorem dL_law_350 : decode cL_law 350 = .ok (.iaload, 1) := by decide +kernel
theorem dL_law_351 : decode cL_law 351 = .ok (.invokevirtual 37, 3) := by decide +kernel
theorem dL_law_354 : decode cL_law 354 = .ok (.if_icmp .eq 823, 3) := by decide +kernel
theorem dL_law_357 : decode cL_law 357 = .ok (.iconst 0, 1) := by decide +kernel
theorem dL_law_358 : decode cL_law 358 = .ok (.ireturn, 1) := by decide +kernel
theorem dL_law_359 : decode cL_law 359 = .ok (.aload_n 1, 1) := by decide +kernel
theorem dL_law_360 : decode cL_law 360 = .ok (.aload_n 0, 1) := by decide +kernel
theorem dL_law_361 : decode cL_law 361 = .ok (.iload_n 3, 1) := by decide +kernel
theorem dL_law_362 : decode cL_law 362 = .ok (.iconst 1, 1) := by decide +kernel
theorem dL_law_363 : decode cL_law 363 = .ok (.iadd, 1) := by decide +kernel
theorem dL_law_364 : decode cL_law 364 = .ok (.iaload, 1) := by decide +kernel
theorem dL_law_365 : decode cL_law 365 = .ok (.aload_n 0, 1) := by decide +kernel
theorem dL_law_366 : decode cL_law 366 = .ok (.iload_n 3, 1) := by decide +kernel
theorem dL_law_367 : decode cL_law 367 = .ok (.iconst 2, 1) := by decide +kernel
theorem dL_law_368 : decode cL_law 368 = .ok (.iadd, 1) := by decide +kernel
theorem dL_law_369 : decode cL_law 369 = .ok (.iaload, 1) := by decide +kernel
theorem dL_law_370 : decode cL_law 370 = .ok (.invokevirtual 38, 3) := by decide +kernel
theorem dL_law_373 : decode cL_law 373 = .ok (.aload_n 2, 1) := by decide +kernel
theorem dL_law_374 : decode cL_law 374 = .ok (.aload_n 0, 1) := by decide +kernel
theorem dL_law_375 : decode cL_law 375 = .ok (.iload_n 3, 1) := by decide +kernel
theorem dL_law_376 : decode cL_law 376 = .ok (.iconst 1, 1) := by decide +kernel
theorem dL_law_377 : decode cL_law 377 = .ok (.iadd, 1) := by decide +kernel
theorem dL_law_378 : decode cL_law 378 = .ok (.iaload, 1) := by decide +kernel
theorem dL_law_379 : decode cL_law 379 = .ok (.aload_n 0, 1) := by decide +kernel
theorem dL_law_380 : decode cL_law 380 = .ok (.iload_n 3, 1) := by decide +kernel
theorem dL_law_381 : decode cL_law 381 = .ok (.iconst 2, 1) := by decide +kernel
theorem dL_law_382 : decode cL_law 382 = .ok (.iadd, 1) := by decide +kernel
theorem dL_law_383 : decode cL_law 383 = .ok (.iaload, 1) := by decide +kernel
theorem dL_law_384 : decode cL_law 384 = .ok (.invokevirtual 42, 3) := by decide +kernel
theorem dL_law_387 : decode cL_law 387 = .ok (.if_icmp .eq 790, 3) := by decide +kernel
theorem dL_law_390 : decode cL_law 390 = .ok (.iconst 0, 1) := by decide +kernel
theorem dL_law_391 : decode cL_law 391 = .ok (.ireturn, 1) := by decide +kernel
theorem dL_law_392 : decode cL_law 392 = .ok (.aload_n 1, 1) := by decide +kernel
theorem dL_law_393 : decode cL_law 393 = .ok (.aload_n 0, 1) := by decide +kernel
theorem dL_law_394 : decode cL_law 394 = .ok (.iload_n 3, 1) := by decide +kernel
theorem dL_law_395 : decode cL_law 395 = .ok (.iconst 1, 1) := by decide +kernel
theorem dL_law_396 : decode cL_law 396 = .ok (.iadd, 1) := by decide +kernel
theorem dL_law_397 : decode cL_law 397 = .ok (.iaload, 1) := by decide +kernel
theorem dL_law_398 : decode cL_law 398 = .ok (.invokevirtual 43, 3) := by decide +kernel
theorem dL_law_401 : decode cL_law 401 = .ok (.aload_n 2, 1) := by decide +kernel
theorem dL_law_402 : decode cL_law 402 = .ok (.aload_n 0, 1) := by decide +kernel
theorem dL_law_403 : decode cL_law 403 = .ok (.iload_n 3, 1) := by decide +kernel
theorem dL_law_404 : decode cL_law 404 = .ok (.iconst 1, 1) := by decide +kernel
theorem dL_law_405 : decode cL_law 405 = .ok (.iadd, 1) := by decide +kernel
theorem dL_law_406 : decode cL_law 406 = .ok (.iaload, 1) := by decide +kernel
theorem dL_law_407 : decode cL_law 407 = .ok (.invokevirtual 47, 3) := by decide +kernel
theorem dL_law_410 : decode cL_law 410 = .ok (.lcmp, 1) := by decide +kernel
theorem dL_law_411 : decode cL_law 411 = .ok (.ifCond .eq 766, 3) := by decide +kernel
theorem dL_law_414 : decode cL_law 414 = .ok (.iconst 0, 1) := by decide +kernel
theorem dL_law_415 : decode cL_law 415 = .ok (.ireturn, 1) := by decide +kernel
theorem dL_law_416 : decode cL_law 416 = .ok (.aload_n 1, 1) := by decide +kernel
theorem dL_law_417 : decode cL_law 417 = .ok (.aload_n 0, 1) := by decide +kernel
theorem dL_law_418 : decode cL_law 418 = .ok (.iload_n 3, 1) := by decide +kernel
theorem dL_law_419 : decode cL_law 419 = .ok (.iconst 1, 1) := by decide +kernel
theorem dL_law_420 : decode cL_law 420 = .ok (.iadd, 1) := by decide +kernel
theorem dL_law_421 : decode cL_law 421 = .ok (.iaload, 1) := by decide +kernel
theorem dL_law_422 : decode cL_law 422 = .ok (.invokevirtual 48, 3) := by decide +kernel
theorem dL_law_425 : decode cL_law 425 = .ok (.aload_n 2, 1) := by decide +kernel
theorem dL_law_426 : decode cL_law 426 = .ok (.aload_n 0, 1) := by decide +kernel
theorem dL_law_427 : decode cL_law 427 = .ok (.iload_n 3, 1) := by decide +kernel
theorem dL_law_428 : decode cL_law 428 = .ok (.iconst 1, 1) := by decide +kernel
theorem dL_law_429 : decode cL_law 429 = .ok (.iadd, 1) := by decide +kernel
theorem dL_law_430 : decode cL_law 430 = .ok (.iaload, 1) := by decide +kernel
theorem dL_law_431 : decode cL_law 431 = .ok (.invokevirtual 51, 3) := by decide +kernel
theorem dL_law_434 : decode cL_law 434 = .ok (.if_icmp .eq 743, 3) := by decide +kernel
theorem dL_law_437 : decode cL_law 437 = .ok (.iconst 0, 1) := by decide +kernel
theorem dL_law_438 : decode cL_law 438 = .ok (.ireturn, 1) := by decide +kernel
theorem dL_law_439 : decode cL_law 439 = .ok (.aload_n 1, 1) := by decide +kernel
theorem dL_law_440 : decode cL_law 440 = .ok (.invokevirtual 52, 3) := by decide +kernel
theorem dL_law_443 : decode cL_law 443 = .ok (.aload_n 2, 1) := by decide +kernel
theorem dL_law_444 : decode cL_law 444 = .ok (.invokevirtual 56, 3) := by decide +kernel
theorem dL_law_447 : decode cL_law 447 = .ok (.lcmp, 1) := by decide +kernel
theorem dL_law_448 : decode cL_law 448 = .ok (.ifCond .eq 729, 3) := by decide +kernel
theorem dL_law_451 : decode cL_law 451 = .ok (.iconst 0, 1) := by decide +kernel
theorem dL_law_452 : decode cL_law 452 = .ok (.ireturn, 1) := by decide +kernel
theorem dL_law_453 : decode cL_law 453 = .ok (.aload_n 1, 1) := by decide +kernel
theorem dL_law_454 : decode cL_law 454 = .ok (.aload_n 0, 1) := by decide +kernel
theorem dL_law_455 : decode cL_law 455 = .ok (.iload_n 3, 1) := by decide +kernel
theorem dL_law_456 : decode cL_law 456 = .ok (.iconst 1, 1) := by decide +kernel
theorem dL_law_457 : decode cL_law 457 = .ok (.iadd, 1) := by decide +kernel
theorem dL_law_458 : decode cL_law 458 = .ok (.iaload, 1) := by decide +kernel
theorem dL_law_459 : decode cL_law 459 = .ok (.aload_n 0, 1) := by decide +kernel
theorem dL_law_460 : decode cL_law 460 = .ok (.iload_n 3, 1) := by decide +kernel
theorem dL_law_461 : decode cL_law 461 = .ok (.iconst 2, 1) := by decide +kernel
theorem dL_law_462 : decode cL_law 462 = .ok (.iadd, 1) := by decide +kernel
theorem dL_law_463 : decode cL_law 463 = .ok (.iaload, 1) := by decide +kernel
theorem dL_law_464 : decode cL_law 464 = .ok (.invokevirtual 57, 3) := by decide +kernel
theorem dL_law_467 : decode cL_law 467 = .ok (.aload_n 2, 1) := by decide +kernel
theorem dL_law_468 : decode cL_law 468 = .ok (.aload_n 0, 1) := by decide +kernel
theorem dL_law_469 : decode cL_law 469 = .ok (.iload_n 3, 1) := by decide +kernel
theorem dL_law_470 : decode cL_law 470 = .ok (.iconst 1, 1) := by decide +kernel
theorem dL_law_471 : decode cL_law 471 = .ok (.iadd, 1) := by decide +kernel
theorem dL_law_472 : decode cL_law 472 = .ok (.iaload, 1) := by decide +kernel
theorem dL_law_473 : decode cL_law 473 = .ok (.aload_n 0, 1) := by decide +kernel
theorem dL_law_474 : decode cL_law 474 = .ok (.iload_n 3, 1) := by decide +kernel
theorem dL_law_475 : decode cL_law 475 = .ok (.iconst 2, 1) := by decide +kernel
theorem dL_law_476 : decode cL_law 476 = .ok (.iadd, 1) := by decide +kernel
theorem dL_law_477 : decode cL_law 477 = .ok (.iaload, 1) := by decide +kernel
theorem dL_law_478 : decode cL_law 478 = .ok (.invokevirtual 60, 3) := by decide +kernel
theorem dL_law_481 : decode cL_law 481 = .ok (.if_icmp .eq 696, 3) := by decide +kernel
theorem dL_law_484 : decode cL_law 484 = .ok (.iconst 0, 1) := by decide +kernel
theorem dL_law_485 : decode cL_law 485 = .ok (.ireturn, 1) := by decide +kernel
theorem dL_law_486 : decode cL_law 486 = .ok (.aload_n 1, 1) := by decide +kernel
theorem dL_law_487 : decode cL_law 487 = .ok (.aload_n 0, 1) := by decide +kernel
theorem dL_law_488 : decode cL_law 488 = .ok (.iload_n 3, 1) := by decide +kernel
theorem dL_law_489 : decode cL_law 489 = .ok (.iconst 1, 1) := by decide +kernel
theorem dL_law_490 : decode cL_law 490 = .ok (.iadd, 1) := by decide +kernel
theorem dL_law_491 : decode cL_law 491 = .ok (.iaload, 1) := by decide +kernel
theorem dL_law_492 : decode cL_law 492 = .ok (.invokevirtual 61, 3) := by decide +kernel
theorem dL_law_495 : decode cL_law 495 = .ok (.aload_n 2, 1) := by decide +kernel
theorem dL_law_496 : decode cL_law 496 = .ok (.aload_n 0, 1) := by decide +kernel
theorem dL_law_497 : decode cL_law 497 = .ok (.iload_n 3, 1) := by decide +kernel
theorem dL_law_498 : decode cL_law 498 = .ok (.iconst 1, 1) := by decide +kernel
theorem dL_law_499 : decode cL_law 499 = .ok (.iadd, 1) := by decide +kernel
theorem dL_law_500 : decode cL_law 500 = .ok (.iaload, 1) := by decide +kernel
theorem dL_law_501 : decode cL_law 501 = .ok (.invokevirtual 64, 3) := by decide +kernel
theorem dL_law_504 : decode cL_law 504 = .ok (.if_icmp .eq 673, 3) := by decide +kernel
theorem dL_law_507 : decode cL_law 507 = .ok (.iconst 0, 1) := by decide +kernel
theorem dL_law_508 : decode cL_law 508 = .ok (.ireturn, 1) := by decide +kernel
theorem dL_law_509 : decode cL_law 509 = .ok (.aload_n 1, 1) := by decide +kernel
theorem dL_law_510 : decode cL_law 510 = .ok (.aload_n 0, 1) := by decide +kernel
theorem dL_law_511 : decode cL_law 511 = .ok (.iload_n 3, 1) := by decide +kernel
theorem dL_law_512 : decode cL_law 512 = .ok (.iconst 1, 1) := by decide +kernel
theorem dL_law_513 : decode cL_law 513 = .ok (.iadd, 1) := by decide +kernel
theorem dL_law_514 : decode cL_law 514 = .ok (.iaload, 1) := by decide +kernel
theorem dL_law_515 : decode cL_law 515 = .ok (.aload_n 0, 1) := by decide +kernel
theorem dL_law_516 : decode cL_law 516 = .ok (.iload_n 3, 1) := by decide +kernel
theorem dL_law_517 : decode cL_law 517 = .ok (.iconst 2, 1) := by decide +kernel
theorem dL_law_518 : decode cL_law 518 = .ok (.iadd, 1) := by decide +kernel
theorem dL_law_519 : decode cL_law 519 = .ok (.iaload, 1) := by decide +kernel
theorem dL_law_520 : decode cL_law 520 = .ok (.invokevirtual 65, 3) := by decide +kernel
theorem dL_law_523 : decode cL_law 523 = .ok (.aload_n 2, 1) := by decide +kernel
theorem dL_law_524 : decode cL_law 524 = .ok (.aload_n 0, 1) := by decide +kernel
theorem dL_law_525 : decode cL_law 525 = .ok (.iload_n 3, 1) := by decide +kernel
theorem dL_law_526 : decode cL_law 526 = .ok (.iconst 1, 1) := by decide +kernel
theorem dL_law_527 : decode cL_law 527 = .ok (.iadd, 1) := by decide +kernel
theorem dL_law_528 : decode cL_law 528 = .ok (.iaload, 1) := by decide +kernel
theorem dL_law_529 : decode cL_law 529 = .ok (.aload_n 0, 1) := by decide +kernel
theorem dL_law_530 : decode cL_law 530 = .ok (.iload_n 3, 1) := by decide +kernel
theorem dL_law_531 : decode cL_law 531 = .ok (.iconst 2, 1) := by decide +kernel
theorem dL_law_532 : decode cL_law 532 = .ok (.iadd, 1) := by decide +kernel
theorem dL_law_533 : decode cL_law 533 = .ok (.iaload, 1) := by decide +kernel
theorem dL_law_534 : decode cL_law 534 = .ok (.invokevirtual 68, 3) := by decide +kernel
theorem dL_law_537 : decode cL_law 537 = .ok (.if_icmp .eq 640, 3) := by decide +kernel
theorem dL_law_540 : decode cL_law 540 = .ok (.iconst 0, 1) := by decide +kernel
theorem dL_law_541 : decode cL_law 541 = .ok (.ireturn, 1) := by decide +kernel
theorem dL_law_542 : decode cL_law 542 = .ok (.aload_n 1, 1) := by decide +kernel
theorem dL_law_543 : decode cL_law 543 = .ok (.aload_n 0, 1) := by decide +kernel
theorem dL_law_544 : decode cL_law 544 = .ok (.iload_n 3, 1) := by decide +kernel
theorem dL_law_545 : decode cL_law 545 = .ok (.iconst 1, 1) := by decide +kernel
theorem dL_law_546 : decode cL_law 546 = .ok (.iadd, 1) := by decide +kernel
theorem dL_law_547 : decode cL_law 547 = .ok (.iaload, 1) := by decide +kernel
theorem dL_law_548 : decode cL_law 548 = .ok (.aload_n 0, 1) := by decide +kernel
theorem dL_law_549 : decode cL_law 549 = .ok (.iload_n 3, 1) := by decide +kernel
theorem dL_law_550 : decode cL_law 550 = .ok (.iconst 2, 1) := by decide +kernel
theorem dL_law_551 : decode cL_law 551 = .ok (.iadd, 1) := by decide +kernel
theorem dL_law_552 : decode cL_law 552 = .ok (.iaload, 1) := by decide +kernel
theorem dL_law_553 : decode cL_law 553 = .ok (.invokevirtual 69, 3) := by decide +kernel
theorem dL_law_556 : decode cL_law 556 = .ok (.aload_n 2, 1) := by decide +kernel
theorem dL_law_557 : decode cL_law 557 = .ok (.aload_n 0, 1) := by decide +kernel
theorem dL_law_558 : decode cL_law 558 = .ok (.iload_n 3, 1) := by decide +kernel
theorem dL_law_559 : decode cL_law 559 = .ok (.iconst 1, 1) := by decide +kernel
theorem dL_law_560 : decode cL_law 560 = .ok (.iadd, 1) := by decide +kernel
theorem dL_law_561 : decode cL_law 561 = .ok (.iaload, 1) := by decide +kernel
theorem dL_law_562 : decode cL_law 562 = .ok (.aload_n 0, 1) := by decide +kernel
theorem dL_law_563 : decode cL_law 563 = .ok (.iload_n 3, 1) := by decide +kernel
theorem dL_law_564 : decode cL_law 564 = .ok (.iconst 2, 1) := by decide +kernel
theorem dL_law_565 : decode cL_law 565 = .ok (.iadd, 1) := by decide +kernel
theorem dL_law_566 : decode cL_law 566 = .ok (.iaload, 1) := by decide +kernel
theorem dL_law_567 : decode cL_law 567 = .ok (.invokevirtual 72, 3) := by decide +kernel
theorem dL_law_570 : decode cL_law 570 = .ok (.if_icmp .eq 607, 3) := by decide +kernel
theorem dL_law_573 : decode cL_law 573 = .ok (.iconst 0, 1) := by decide +kernel
theorem dL_law_574 : decode cL_law 574 = .ok (.ireturn, 1) := by decide +kernel
theorem dL_law_575 : decode cL_law 575 = .ok (.aload_n 1, 1) := by decide +kernel
theorem dL_law_576 : decode cL_law 576 = .ok (.aload_n 0, 1) := by decide +kernel
theorem dL_law_577 : decode cL_law 577 = .ok (.iload_n 3, 1) := by decide +kernel
theorem dL_law_578 : decode cL_law 578 = .ok (.iconst 1, 1) := by decide +kernel
theorem dL_law_579 : decode cL_law 579 = .ok (.iadd, 1) := by decide +kernel
theorem dL_law_580 : decode cL_law 580 = .ok (.iaload, 1) := by decide +kernel
theorem dL_law_581 : decode cL_law 581 = .ok (.aload_n 0, 1) := by decide +kernel
theorem dL_law_582 : decode cL_law 582 = .ok (.iload_n 3, 1) := by decide +kernel
theorem dL_law_583 : decode cL_law 583 = .ok (.iconst 2, 1) := by decide +kernel
theorem dL_law_584 : decode cL_law 584 = .ok (.iadd, 1) := by decide +kernel
theorem dL_law_585 : decode cL_law 585 = .ok (.iaload, 1) := by decide +kernel
theorem dL_law_586 : decode cL_law 586 = .ok (.aload_n 0, 1) := by decide +kernel
theorem dL_law_587 : decode cL_law 587 = .ok (.iload_n 3, 1) := by decide +kernel
theorem dL_law_588 : decode cL_law 588 = .ok (.iconst 3, 1) := by decide +kernel
theorem dL_law_589 : decode cL_law 589 = .ok (.iadd, 1) := by decide +kernel
theorem dL_law_590 : decode cL_law 590 = .ok (.iaload, 1) := by decide +kernel
theorem dL_law_591 : decode cL_law 591 = .ok (.invokevirtual 73, 3) := by decide +kernel
theorem dL_law_594 : decode cL_law 594 = .ok (.aload_n 2, 1) := by decide +kernel
theorem dL_law_595 : decode cL_law 595 = .ok (.aload_n 0, 1) := by decide +kernel
theorem dL_law_596 : decode cL_law 596 = .ok (.iload_n 3, 1) := by decide +kernel
theorem dL_law_597 : decode cL_law 597 = .ok (.iconst 1, 1) := by decide +kernel
theorem dL_law_598 : decode cL_law 598 = .ok (.iadd, 1) := by decide +kernel
theorem dL_law_599 : decode cL_law 599 = .ok (.iaload, 1) := by decide +kernel
theorem dL_law_600 : decode cL_law 600 = .ok (.aload_n 0, 1) := by decide +kernel
theorem dL_law_601 : decode cL_law 601 = .ok (.iload_n 3, 1) := by decide +kernel
theorem dL_law_602 : decode cL_law 602 = .ok (.iconst 2, 1) := by decide +kernel
theorem dL_law_603 : decode cL_law 603 = .ok (.iadd, 1) := by decide +kernel
theorem dL_law_604 : decode cL_law 604 = .ok (.iaload, 1) := by decide +kernel
theorem dL_law_605 : decode cL_law 605 = .ok (.aload_n 0, 1) := by decide +kernel
theorem dL_law_606 : decode cL_law 606 = .ok (.iload_n 3, 1) := by decide +kernel
theorem dL_law_607 : decode cL_law 607 = .ok (.iconst 3, 1) := by decide +kernel
theorem dL_law_608 : decode cL_law 608 = .ok (.iadd, 1) := by decide +kernel
theorem dL_law_609 : decode cL_law 609 = .ok (.iaload, 1) := by decide +kernel
theorem dL_law_610 : decode cL_law 610 = .ok (.invokevirtual 77, 3) := by decide +kernel
theorem dL_law_613 : decode cL_law 613 = .ok (.if_icmp .eq 564, 3) := by decide +kernel
theorem dL_law_616 : decode cL_law 616 = .ok (.iconst 0, 1) := by decide +kernel
theorem dL_law_617 : decode cL_law 617 = .ok (.ireturn, 1) := by decide +kernel
theorem dL_law_618 : decode cL_law 618 = .ok (.aload_n 1, 1) := by decide +kernel
theorem dL_law_619 : decode cL_law 619 = .ok (.aload_n 0, 1) := by decide +kernel
theorem dL_law_620 : decode cL_law 620 = .ok (.iload_n 3, 1) := by decide +kernel
theorem dL_law_621 : decode cL_law 621 = .ok (.iconst 1, 1) := by decide +kernel
theorem dL_law_622 : decode cL_law 622 = .ok (.iadd, 1) := by decide +kernel
theorem dL_law_623 : decode cL_law 623 = .ok (.iaload, 1) := by decide +kernel
theorem dL_law_624 : decode cL_law 624 = .ok (.aload_n 0, 1) := by decide +kernel
theorem dL_law_625 : decode cL_law 625 = .ok (.iload_n 3, 1) := by decide +kernel
theorem dL_law_626 : decode cL_law 626 = .ok (.iconst 2, 1) := by decide +kernel
theorem dL_law_627 : decode cL_law 627 = .ok (.iadd, 1) := by decide +kernel
theorem dL_law_628 : decode cL_law 628 = .ok (.iaload, 1) := by decide +kernel
theorem dL_law_629 : decode cL_law 629 = .ok (.invokevirtual 78, 3) := by decide +kernel
theorem dL_law_632 : decode cL_law 632 = .ok (.aload_n 2, 1) := by decide +kernel
theorem dL_law_633 : decode cL_law 633 = .ok (.aload_n 0, 1) := by decide +kernel
theorem dL_law_634 : decode cL_law 634 = .ok (.iload_n 3, 1) := by decide +kernel
theorem dL_law_635 : decode cL_law 635 = .ok (.iconst 1, 1) := by decide +kernel
theorem dL_law_636 : decode cL_law 636 = .ok (.iadd, 1) := by decide +kernel
theorem dL_law_637 : decode cL_law 637 = .ok (.iaload, 1) := by decide +kernel
theorem dL_law_638 : decode cL_law 638 = .ok (.aload_n 0, 1) := by decide +kernel
theorem dL_law_639 : decode cL_law 639 = .ok (.iload_n 3, 1) := by decide +kernel
theorem dL_law_640 : decode cL_law 640 = .ok (.iconst 2, 1) := by decide +kernel
theorem dL_law_641 : decode cL_law 641 = .ok (.iadd, 1) := by decide +kernel
theorem dL_law_642 : decode cL_law 642 = .ok (.iaload, 1) := by decide +kernel
theorem dL_law_643 : decode cL_law 643 = .ok (.invokevirtual 81, 3) := by decide +kernel
theorem dL_law_646 : decode cL_law 646 = .ok (.if_icmp .eq 531, 3) := by decide +kernel
theorem dL_law_649 : decode cL_law 649 = .ok (.iconst 0, 1) := by decide +kernel
theorem dL_law_650 : decode cL_law 650 = .ok (.ireturn, 1) := by decide +kernel
theorem dL_law_651 : decode cL_law 651 = .ok (.aload_n 1, 1) := by decide +kernel
theorem dL_law_652 : decode cL_law 652 = .ok (.aload_n 0, 1) := by decide +kernel
theorem dL_law_653 : decode cL_law 653 = .ok (.iload_n 3, 1) := by decide +kernel
theorem dL_law_654 : decode cL_law 654 = .ok (.iconst 1, 1) := by decide +kernel
theorem dL_law_655 : decode cL_law 655 = .ok (.iadd, 1) := by decide +kernel
theorem dL_law_656 : decode cL_law 656 = .ok (.iaload, 1) := by decide +kernel
theorem dL_law_657 : decode cL_law 657 = .ok (.aload_n 0, 1) := by decide +kernel
theorem dL_law_658 : decode cL_law 658 = .ok (.iload_n 3, 1) := by decide +kernel
theorem dL_law_659 : decode cL_law 659 = .ok (.iconst 2, 1) := by decide +kernel
theorem dL_law_660 : decode cL_law 660 = .ok (.iadd, 1) := by decide +kernel
theorem dL_law_661 : decode cL_law 661 = .ok (.iaload, 1) := by decide +kernel
theorem dL_law_662 : decode cL_law 662 = .ok (.invokevirtual 82, 3) := by decide +kernel
theorem dL_law_665 : decode cL_law 665 = .ok (.aload_n 2, 1) := by decide +kernel
theorem dL_law_666 : decode cL_law 666 = .ok (.aload_n 0, 1) := by decide +kernel
theorem dL_law_667 : decode cL_law 667 = .ok (.iload_n 3, 1) := by decide +kernel
theorem dL_law_668 : decode cL_law 668 = .ok (.iconst 1, 1) := by decide +kernel
theorem dL_law_669 : decode cL_law 669 = .ok (.iadd, 1) := by decide +kernel
theorem dL_law_670 : decode cL_law 670 = .ok (.iaload, 1) := by decide +kernel
theorem dL_law_671 : decode cL_law 671 = .ok (.aload_n 0, 1) := by decide +kernel
theorem dL_law_672 : decode cL_law 672 = .ok (.iload_n 3, 1) := by decide +kernel
theorem dL_law_673 : decode cL_law 673 = .ok (.iconst 2, 1) := by decide +kernel
theorem dL_law_674 : decode cL_law 674 = .ok (.iadd, 1) := by decide +kernel
theorem dL_law_675 : decode cL_law 675 = .ok (.iaload, 1) := by decide +kernel
theorem dL_law_676 : decode cL_law 676 = .ok (.invokevirtual 86, 3) := by decide +kernel
theorem dL_law_679 : decode cL_law 679 = .ok (.lcmp, 1) := by decide +kernel
theorem dL_law_680 : decode cL_law 680 = .ok (.ifCond .eq 497, 3) := by decide +kernel
theorem dL_law_683 : decode cL_law 683 = .ok (.iconst 0, 1) := by decide +kernel
theorem dL_law_684 : decode cL_law 684 = .ok (.ireturn, 1) := by decide +kernel
theorem dL_law_685 : decode cL_law 685 = .ok (.aload_n 1, 1) := by decide +kernel
theorem dL_law_686 : decode cL_law 686 = .ok (.aload_n 0, 1) := by decide +kernel
theorem dL_law_687 : decode cL_law 687 = .ok (.iload_n 3, 1) := by decide +kernel
theorem dL_law_688 : decode cL_law 688 = .ok (.iconst 1, 1) := by decide +kernel
theorem dL_law_689 : decode cL_law 689 = .ok (.iadd, 1) := by decide +kernel
theorem dL_law_690 : decode cL_law 690 = .ok (.iaload, 1) := by decide +kernel
theorem dL_law_691 : decode cL_law 691 = .ok (.aload_n 0, 1) := by decide +kernel
theorem dL_law_692 : decode cL_law 692 = .ok (.iload_n 3, 1) := by decide +kernel
theorem dL_law_693 : decode cL_law 693 = .ok (.iconst 2, 1) := by decide +kernel
theorem dL_law_694 : decode cL_law 694 = .ok (.iadd, 1) := by decide +kernel
theorem dL_law_695 : decode cL_law 695 = .ok (.iaload, 1) := by decide +kernel
theorem dL_law_696 : decode cL_law 696 = .ok (.invokevirtual 87, 3) := by decide +kernel
theorem dL_law_699 : decode cL_law 699 = .ok (.aload_n 2, 1) := by decide +kernel
theorem dL_law_700 : decode cL_law 700 = .ok (.aload_n 0, 1) := by decide +kernel
theorem dL_law_701 : decode cL_law 701 = .ok (.iload_n 3, 1) := by decide +kernel
theorem dL_law_702 : decode cL_law 702 = .ok (.iconst 1, 1) := by decide +kernel
theorem dL_law_703 : decode cL_law 703 = .ok (.iadd, 1) := by decide +kernel
theorem dL_law_704 : decode cL_law 704 = .ok (.iaload, 1) := by decide +kernel
theorem dL_law_705 : decode cL_law 705 = .ok (.aload_n 0, 1) := by decide +kernel
theorem dL_law_706 : decode cL_law 706 = .ok (.iload_n 3, 1) := by decide +kernel
theorem dL_law_707 : decode cL_law 707 = .ok (.iconst 2, 1) := by decide +kernel
theorem dL_law_708 : decode cL_law 708 = .ok (.iadd, 1) := by decide +kernel
theorem dL_law_709 : decode cL_law 709 = .ok (.iaload, 1) := by decide +kernel
theorem dL_law_710 : decode cL_law 710 = .ok (.invokevirtual 90, 3) := by decide +kernel
theorem dL_law_713 : decode cL_law 713 = .ok (.lcmp, 1) := by decide +kernel
theorem dL_law_714 : decode cL_law 714 = .ok (.ifCond .eq 463, 3) := by decide +kernel
theorem dL_law_717 : decode cL_law 717 = .ok (.iconst 0, 1) := by decide +kernel
theorem dL_law_718 : decode cL_law 718 = .ok (.ireturn, 1) := by decide +kernel
theorem dL_law_719 : decode cL_law 719 = .ok (.aload_n 1, 1) := by decide +kernel
theorem dL_law_720 : decode cL_law 720 = .ok (.aload_n 0, 1) := by decide +kernel
theorem dL_law_721 : decode cL_law 721 = .ok (.iload_n 3, 1) := by decide +kernel
theorem dL_law_722 : decode cL_law 722 = .ok (.iconst 1, 1) := by decide +kernel
theorem dL_law_723 : decode cL_law 723 = .ok (.iadd, 1) := by decide +kernel
theorem dL_law_724 : decode cL_law 724 = .ok (.iaload, 1) := by decide +kernel
theorem dL_law_725 : decode cL_law 725 = .ok (.aload_n 0, 1) := by decide +kernel
theorem dL_law_726 : decode cL_law 726 = .ok (.iload_n 3, 1) := by decide +kernel
theorem dL_law_727 : decode cL_law 727 = .ok (.iconst 2, 1) := by decide +kernel
theorem dL_law_728 : decode cL_law 728 = .ok (.iadd, 1) := by decide +kernel
theorem dL_law_729 : decode cL_law 729 = .ok (.iaload, 1) := by decide +kernel
theorem dL_law_730 : decode cL_law 730 = .ok (.aload_n 0, 1) := by decide +kernel
theorem dL_law_731 : decode cL_law 731 = .ok (.iload_n 3, 1) := by decide +kernel
theorem dL_law_732 : decode cL_law 732 = .ok (.iconst 3, 1) := by decide +kernel
theorem dL_law_733 : decode cL_law 733 = .ok (.iadd, 1) := by decide +kernel
theorem dL_law_734 : decode cL_law 734 = .ok (.iaload, 1) := by decide +kernel
theorem dL_law_735 : decode cL_law 735 = .ok (.i2l, 1) := by decide +kernel
theorem dL_law_736 : decode cL_law 736 = .ok (.bipush 32, 2) := by decide +kernel
theorem dL_law_738 : decode cL_law 738 = .ok (.lshl, 1) := by decide +kernel
theorem dL_law_739 : decode cL_law 739 = .ok (.aload_n 0, 1) := by decide +kernel
theorem dL_law_740 : decode cL_law 740 = .ok (.iload_n 3, 1) := by decide +kernel
theorem dL_law_741 : decode cL_law 741 = .ok (.iconst 4, 1) := by decide +kernel
theorem dL_law_742 : decode cL_law 742 = .ok (.iadd, 1) := by decide +kernel
theorem dL_law_743 : decode cL_law 743 = .ok (.iaload, 1) := by decide +kernel
theorem dL_law_744 : decode cL_law 744 = .ok (.i2l, 1) := by decide +kernel
theorem dL_law_745 : decode cL_law 745 = .ok (.ldc2_w 13, 3) := by decide +kernel
theorem dL_law_748 : decode cL_law 748 = .ok (.land, 1) := by decide +kernel
theorem dL_law_749 : decode cL_law 749 = .ok (.lor, 1) := by decide +kernel
theorem dL_law_750 : decode cL_law 750 = .ok (.invokevirtual 91, 3) := by decide +kernel
theorem dL_law_753 : decode cL_law 753 = .ok (.aload_n 2, 1) := by decide +kernel
theorem dL_law_754 : decode cL_law 754 = .ok (.aload_n 0, 1) := by decide +kernel
theorem dL_law_755 : decode cL_law 755 = .ok (.iload_n 3, 1) := by decide +kernel
theorem dL_law_756 : decode cL_law 756 = .ok (.iconst 1, 1) := by decide +kernel
theorem dL_law_757 : decode cL_law 757 = .ok (.iadd, 1) := by decide +kernel
theorem dL_law_758 : decode cL_law 758 = .ok (.iaload, 1) := by decide +kernel
theorem dL_law_759 : decode cL_law 759 = .ok (.aload_n 0, 1) := by decide +kernel
theorem dL_law_760 : decode cL_law 760 = .ok (.iload_n 3, 1) := by decide +kernel
theorem dL_law_761 : decode cL_law 761 = .ok (.iconst 2, 1) := by decide +kernel
theorem dL_law_762 : decode cL_law 762 = .ok (.iadd, 1) := by decide +kernel
theorem dL_law_763 : decode cL_law 763 = .ok (.iaload, 1) := by decide +kernel
theorem dL_law_764 : decode cL_law 764 = .ok (.aload_n 0, 1) := by decide +kernel
theorem dL_law_765 : decode cL_law 765 = .ok (.iload_n 3, 1) := by decide +kernel
theorem dL_law_766 : decode cL_law 766 = .ok (.iconst 3, 1) := by decide +kernel
theorem dL_law_767 : decode cL_law 767 = .ok (.iadd, 1) := by decide +kernel
theorem dL_law_768 : decode cL_law 768 = .ok (.iaload, 1) := by decide +kernel
theorem dL_law_769 : decode cL_law 769 = .ok (.i2l, 1) := by decide +kernel
theorem dL_law_770 : decode cL_law 770 = .ok (.bipush 32, 2) := by decide +kernel
theorem dL_law_772 : decode cL_law 772 = .ok (.lshl, 1) := by decide +kernel
theorem dL_law_773 : decode cL_law 773 = .ok (.aload_n 0, 1) := by decide +kernel
theorem dL_law_774 : decode cL_law 774 = .ok (.iload_n 3, 1) := by decide +kernel
theorem dL_law_775 : decode cL_law 775 = .ok (.iconst 4, 1) := by decide +kernel
theorem dL_law_776 : decode cL_law 776 = .ok (.iadd, 1) := by decide +kernel
theorem dL_law_777 : decode cL_law 777 = .ok (.iaload, 1) := by decide +kernel
theorem dL_law_778 : decode cL_law 778 = .ok (.i2l, 1) := by decide +kernel
theorem dL_law_779 : decode cL_law 779 = .ok (.ldc2_w 13, 3) := by decide +kernel
theorem dL_law_782 : decode cL_law 782 = .ok (.land, 1) := by decide +kernel
theorem dL_law_783 : decode cL_law 783 = .ok (.lor, 1) := by decide +kernel
theorem dL_law_784 : decode cL_law 784 = .ok (.invokevirtual 94, 3) := by decide +kernel
theorem dL_law_787 : decode cL_law 787 = .ok (.if_icmp .eq 390, 3) := by decide +kernel
theorem dL_law_790 : decode cL_law 790 = .ok (.iconst 0, 1) := by decide +kernel
theorem dL_law_791 : decode cL_law 791 = .ok (.ireturn, 1) := by decide +kernel
theorem dL_law_792 : decode cL_law 792 = .ok (.aload_n 1, 1) := by decide +kernel
theorem dL_law_793 : decode cL_law 793 = .ok (.aload_n 0, 1) := by decide +kernel
theorem dL_law_794 : decode cL_law 794 = .ok (.iload_n 3, 1) := by decide +kernel
theorem dL_law_795 : decode cL_law 795 = .ok (.iconst 1, 1) := by decide +kernel
theorem dL_law_796 : decode cL_law 796 = .ok (.iadd, 1) := by decide +kernel
theorem dL_law_797 : decode cL_law 797 = .ok (.iaload, 1) := by decide +kernel
theorem dL_law_798 : decode cL_law 798 = .ok (.invokevirtual 95, 3) := by decide +kernel
theorem dL_law_801 : decode cL_law 801 = .ok (.aload_n 2, 1) := by decide +kernel
theorem dL_law_802 : decode cL_law 802 = .ok (.aload_n 0, 1) := by decide +kernel
theorem dL_law_803 : decode cL_law 803 = .ok (.iload_n 3, 1) := by decide +kernel
theorem dL_law_804 : decode cL_law 804 = .ok (.iconst 1, 1) := by decide +kernel
theorem dL_law_805 : decode cL_law 805 = .ok (.iadd, 1) := by decide +kernel
theorem dL_law_806 : decode cL_law 806 = .ok (.iaload, 1) := by decide +kernel
theorem dL_law_807 : decode cL_law 807 = .ok (.invokevirtual 98, 3) := by decide +kernel
theorem dL_law_810 : decode cL_law 810 = .ok (.lcmp, 1) := by decide +kernel
theorem dL_law_811 : decode cL_law 811 = .ok (.ifCond .eq 366, 3) := by decide +kernel
theorem dL_law_814 : decode cL_law 814 = .ok (.iconst 0, 1) := by decide +kernel
theorem dL_law_815 : decode cL_law 815 = .ok (.ireturn, 1) := by decide +kernel
theorem dL_law_816 : decode cL_law 816 = .ok (.aload_n 1, 1) := by decide +kernel
theorem dL_law_817 : decode cL_law 817 = .ok (.aload_n 0, 1) := by decide +kernel
theorem dL_law_818 : decode cL_law 818 = .ok (.iload_n 3, 1) := by decide +kernel
theorem dL_law_819 : decode cL_law 819 = .ok (.iconst 1, 1) := by decide +kernel
theorem dL_law_820 : decode cL_law 820 = .ok (.iadd, 1) := by decide +kernel
theorem dL_law_821 : decode cL_law 821 = .ok (.iaload, 1) := by decide +kernel
theorem dL_law_822 : decode cL_law 822 = .ok (.aload_n 0, 1) := by decide +kernel
theorem dL_law_823 : decode cL_law 823 = .ok (.iload_n 3, 1) := by decide +kernel
theorem dL_law_824 : decode cL_law 824 = .ok (.iconst 2, 1) := by decide +kernel
theorem dL_law_825 : decode cL_law 825 = .ok (.iadd, 1) := by decide +kernel
theorem dL_law_826 : decode cL_law 826 = .ok (.iaload, 1) := by decide +kernel
theorem dL_law_827 : decode cL_law 827 = .ok (.i2l, 1) := by decide +kernel
theorem dL_law_828 : decode cL_law 828 = .ok (.bipush 32, 2) := by decide +kernel
theorem dL_law_830 : decode cL_law 830 = .ok (.lshl, 1) := by decide +kernel
theorem dL_law_831 : decode cL_law 831 = .ok (.aload_n 0, 1) := by decide +kernel
theorem dL_law_832 : decode cL_law 832 = .ok (.iload_n 3, 1) := by decide +kernel
theorem dL_law_833 : decode cL_law 833 = .ok (.iconst 3, 1) := by decide +kernel
theorem dL_law_834 : decode cL_law 834 = .ok (.iadd, 1) := by decide +kernel
theorem dL_law_835 : decode cL_law 835 = .ok (.iaload, 1) := by decide +kernel
theorem dL_law_836 : decode cL_law 836 = .ok (.i2l, 1) := by decide +kernel
theorem dL_law_837 : decode cL_law 837 = .ok (.ldc2_w 13, 3) := by decide +kernel
theorem dL_law_840 : decode cL_law 840 = .ok (.land, 1) := by decide +kernel
theorem dL_law_841 : decode cL_law 841 = .ok (.lor, 1) := by decide +kernel
theorem dL_law_842 : decode cL_law 842 = .ok (.invokevirtual 99, 3) := by decide +kernel
theorem dL_law_845 : decode cL_law 845 = .ok (.aload_n 2, 1) := by decide +kernel
theorem dL_law_846 : decode cL_law 846 = .ok (.aload_n 0, 1) := by decide +kernel
theorem dL_law_847 : decode cL_law 847 = .ok (.iload_n 3, 1) := by decide +kernel
theorem dL_law_848 : decode cL_law 848 = .ok (.iconst 1, 1) := by decide +kernel
theorem dL_law_849 : decode cL_law 849 = .ok (.iadd, 1) := by decide +kernel
theorem dL_law_850 : decode cL_law 850 = .ok (.iaload, 1) := by decide +kernel
theorem dL_law_851 : decode cL_law 851 = .ok (.aload_n 0, 1) := by decide +kernel
theorem dL_law_852 : decode cL_law 852 = .ok (.iload_n 3, 1) := by decide +kernel
theorem dL_law_853 : decode cL_law 853 = .ok (.iconst 2, 1) := by decide +kernel
theorem dL_law_854 : decode cL_law 854 = .ok (.iadd, 1) := by decide +kernel
theorem dL_law_855 : decode cL_law 855 = .ok (.iaload, 1) := by decide +kernel
theorem dL_law_856 : decode cL_law 856 = .ok (.i2l, 1) := by decide +kernel
theorem dL_law_857 : decode cL_law 857 = .ok (.bipush 32, 2) := by decide +kernel
theorem dL_law_859 : decode cL_law 859 = .ok (.lshl, 1) := by decide +kernel
theorem dL_law_860 : decode cL_law 860 = .ok (.aload_n 0, 1) := by decide +kernel
theorem dL_law_861 : decode cL_law 861 = .ok (.iload_n 3, 1) := by decide +kernel
theorem dL_law_862 : decode cL_law 862 = .ok (.iconst 3, 1) := by decide +kernel
theorem dL_law_863 : decode cL_law 863 = .ok (.iadd, 1) := by decide +kernel
theorem dL_law_864 : decode cL_law 864 = .ok (.iaload, 1) := by decide +kernel
theorem dL_law_865 : decode cL_law 865 = .ok (.i2l, 1) := by decide +kernel
theorem dL_law_866 : decode cL_law 866 = .ok (.ldc2_w 13, 3) := by decide +kernel
theorem dL_law_869 : decode cL_law 869 = .ok (.land, 1) := by decide +kernel
theorem dL_law_870 : decode cL_law 870 = .ok (.lor, 1) := by decide +kernel
theorem dL_law_871 : decode cL_law 871 = .ok (.invokevirtual 103, 3) := by decide +kernel
theorem dL_law_874 : decode cL_law 874 = .ok (.if_icmp .eq 303, 3) := by decide +kernel
theorem dL_law_877 : decode cL_law 877 = .ok (.iconst 0, 1) := by decide +kernel
theorem dL_law_878 : decode cL_law 878 = .ok (.ireturn, 1) := by decide +kernel
theorem dL_law_879 : decode cL_law 879 = .ok (.aload_n 1, 1) := by decide +kernel
theorem dL_law_880 : decode cL_law 880 = .ok (.aload_n 0, 1) := by decide +kernel
theorem dL_law_881 : decode cL_law 881 = .ok (.iload_n 3, 1) := by decide +kernel
theorem dL_law_882 : decode cL_law 882 = .ok (.iconst 1, 1) := by decide +kernel
theorem dL_law_883 : decode cL_law 883 = .ok (.iadd, 1) := by decide +kernel
theorem dL_law_884 : decode cL_law 884 = .ok (.iaload, 1) := by decide +kernel
theorem dL_law_885 : decode cL_law 885 = .ok (.invokevirtual 104, 3) := by decide +kernel
theorem dL_law_888 : decode cL_law 888 = .ok (.aload_n 2, 1) := by decide +kernel
theorem dL_law_889 : decode cL_law 889 = .ok (.aload_n 0, 1) := by decide +kernel
theorem dL_law_890 : decode cL_law 890 = .ok (.iload_n 3, 1) := by decide +kernel
theorem dL_law_891 : decode cL_law 891 = .ok (.iconst 1, 1) := by decide +kernel
theorem dL_law_892 : decode cL_law 892 = .ok (.iadd, 1) := by decide +kernel
theorem dL_law_893 : decode cL_law 893 = .ok (.iaload, 1) := by decide +kernel
theorem dL_law_894 : decode cL_law 894 = .ok (.invokevirtual 107, 3) := by decide +kernel
theorem dL_law_897 : decode cL_law 897 = .ok (.if_icmp .eq 280, 3) := by decide +kernel
theorem dL_law_900 : decode cL_law 900 = .ok (.iconst 0, 1) := by decide +kernel
theorem dL_law_901 : decode cL_law 901 = .ok (.ireturn, 1) := by decide +kernel
theorem dL_law_902 : decode cL_law 902 = .ok (.aload_n 1, 1) := by decide +kernel
theorem dL_law_903 : decode cL_law 903 = .ok (.aload_n 0, 1) := by decide +kernel
theorem dL_law_904 : decode cL_law 904 = .ok (.iload_n 3, 1) := by decide +kernel
theorem dL_law_905 : decode cL_law 905 = .ok (.iconst 1, 1) := by decide +kernel
theorem dL_law_906 : decode cL_law 906 = .ok (.iadd, 1) := by decide +kernel
theorem dL_law_907 : decode cL_law 907 = .ok (.iaload, 1) := by decide +kernel
theorem dL_law_908 : decode cL_law 908 = .ok (.aload_n 0, 1) := by decide +kernel
theorem dL_law_909 : decode cL_law 909 = .ok (.iload_n 3, 1) := by decide +kernel
theorem dL_law_910 : decode cL_law 910 = .ok (.iconst 2, 1) := by decide +kernel
theorem dL_law_911 : decode cL_law 911 = .ok (.iadd, 1) := by decide +kernel
theorem dL_law_912 : decode cL_law 912 = .ok (.iaload, 1) := by decide +kernel
theorem dL_law_913 : decode cL_law 913 = .ok (.invokevirtual 108, 3) := by decide +kernel
theorem dL_law_916 : decode cL_law 916 = .ok (.aload_n 2, 1) := by decide +kernel
theorem dL_law_917 : decode cL_law 917 = .ok (.aload_n 0, 1) := by decide +kernel
theorem dL_law_918 : decode cL_law 918 = .ok (.iload_n 3, 1) := by decide +kernel
theorem dL_law_919 : decode cL_law 919 = .ok (.iconst 1, 1) := by decide +kernel
theorem dL_law_920 : decode cL_law 920 = .ok (.iadd, 1) := by decide +kernel
theorem dL_law_921 : decode cL_law 921 = .ok (.iaload, 1) := by decide +kernel
theorem dL_law_922 : decode cL_law 922 = .ok (.aload_n 0, 1) := by decide +kernel
theorem dL_law_923 : decode cL_law 923 = .ok (.iload_n 3, 1) := by decide +kernel
theorem dL_law_924 : decode cL_law 924 = .ok (.iconst 2, 1) := by decide +kernel
theorem dL_law_925 : decode cL_law 925 = .ok (.iadd, 1) := by decide +kernel
theorem dL_law_926 : decode cL_law 926 = .ok (.iaload, 1) := by decide +kernel
theorem dL_law_927 : decode cL_law 927 = .ok (.invokevirtual 111, 3) := by decide +kernel
theorem dL_law_930 : decode cL_law 930 = .ok (.if_icmp .eq 247, 3) := by decide +kernel
theorem dL_law_933 : decode cL_law 933 = .ok (.iconst 0, 1) := by decide +kernel
theorem dL_law_934 : decode cL_law 934 = .ok (.ireturn, 1) := by decide +kernel
theorem dL_law_935 : decode cL_law 935 = .ok (.aload_n 1, 1) := by decide +kernel
theorem dL_law_936 : decode cL_law 936 = .ok (.aload_n 0, 1) := by decide +kernel
theorem dL_law_937 : decode cL_law 937 = .ok (.iload_n 3, 1) := by decide +kernel
theorem dL_law_938 : decode cL_law 938 = .ok (.iconst 1, 1) := by decide +kernel
theorem dL_law_939 : decode cL_law 939 = .ok (.iadd, 1) := by decide +kernel
theorem dL_law_940 : decode cL_law 940 = .ok (.iaload, 1) := by decide +kernel
theorem dL_law_941 : decode cL_law 941 = .ok (.aload_n 0, 1) := by decide +kernel
theorem dL_law_942 : decode cL_law 942 = .ok (.iload_n 3, 1) := by decide +kernel
theorem dL_law_943 : decode cL_law 943 = .ok (.iconst 2, 1) := by decide +kernel
theorem dL_law_944 : decode cL_law 944 = .ok (.iadd, 1) := by decide +kernel
theorem dL_law_945 : decode cL_law 945 = .ok (.iaload, 1) := by decide +kernel
theorem dL_law_946 : decode cL_law 946 = .ok (.invokevirtual 112, 3) := by decide +kernel
theorem dL_law_949 : decode cL_law 949 = .ok (.aload_n 2, 1) := by decide +kernel
theorem dL_law_950 : decode cL_law 950 = .ok (.aload_n 0, 1) := by decide +kernel
theorem dL_law_951 : decode cL_law 951 = .ok (.iload_n 3, 1) := by decide +kernel
theorem dL_law_952 : decode cL_law 952 = .ok (.iconst 1, 1) := by decide +kernel
theorem dL_law_953 : decode cL_law 953 = .ok (.iadd, 1) := by decide +kernel
theorem dL_law_954 : decode cL_law 954 = .ok (.iaload, 1) := by decide +kernel
theorem dL_law_955 : decode cL_law 955 = .ok (.aload_n 0, 1) := by decide +kernel
theorem dL_law_956 : decode cL_law 956 = .ok (.iload_n 3, 1) := by decide +kernel
theorem dL_law_957 : decode cL_law 957 = .ok (.iconst 2, 1) := by decide +kernel
theorem dL_law_958 : decode cL_law 958 = .ok (.iadd, 1) := by decide +kernel
theorem dL_law_959 : decode cL_law 959 = .ok (.iaload, 1) := by decide +kernel
theorem dL_law_960 : decode cL_law 960 = .ok (.invokevirtual 115, 3) := by decide +kernel
theorem dL_law_963 : decode cL_law 963 = .ok (.if_icmp .eq 214, 3) := by decide +kernel
theorem dL_law_966 : decode cL_law 966 = .ok (.iconst 0, 1) := by decide +kernel
theorem dL_law_967 : decode cL_law 967 = .ok (.ireturn, 1) := by decide +kernel
theorem dL_law_968 : decode cL_law 968 = .ok (.aload_n 1, 1) := by decide +kernel
theorem dL_law_969 : decode cL_law 969 = .ok (.aload_n 0, 1) := by decide +kernel
theorem dL_law_970 : decode cL_law 970 = .ok (.iload_n 3, 1) := by decide +kernel
theorem dL_law_971 : decode cL_law 971 = .ok (.iconst 1, 1) := by decide +kernel
theorem dL_law_972 : decode cL_law 972 = .ok (.iadd, 1) := by decide +kernel
theorem dL_law_973 : decode cL_law 973 = .ok (.iaload, 1) := by decide +kernel
theorem dL_law_974 : decode cL_law 974 = .ok (.invokevirtual 116, 3) := by decide +kernel
theorem dL_law_977 : decode cL_law 977 = .ok (.aload_n 2, 1) := by decide +kernel
theorem dL_law_978 : decode cL_law 978 = .ok (.aload_n 0, 1) := by decide +kernel
theorem dL_law_979 : decode cL_law 979 = .ok (.iload_n 3, 1) := by decide +kernel
theorem dL_law_980 : decode cL_law 980 = .ok (.iconst 1, 1) := by decide +kernel
theorem dL_law_981 : decode cL_law 981 = .ok (.iadd, 1) := by decide +kernel
theorem dL_law_982 : decode cL_law 982 = .ok (.iaload, 1) := by decide +kernel
theorem dL_law_983 : decode cL_law 983 = .ok (.invokevirtual 119, 3) := by decide +kernel
theorem dL_law_986 : decode cL_law 986 = .ok (.lcmp, 1) := by decide +kernel
theorem dL_law_987 : decode cL_law 987 = .ok (.ifCond .eq 190, 3) := by decide +kernel
theorem dL_law_990 : decode cL_law 990 = .ok (.iconst 0, 1) := by decide +kernel
theorem dL_law_991 : decode cL_law 991 = .ok (.ireturn, 1) := by decide +kernel
theorem dL_law_992 : decode cL_law 992 = .ok (.aload_n 1, 1) := by decide +kernel
theorem dL_law_993 : decode cL_law 993 = .ok (.aload_n 0, 1) := by decide +kernel
theorem dL_law_994 : decode cL_law 994 = .ok (.iload_n 3, 1) := by decide +kernel
theorem dL_law_995 : decode cL_law 995 = .ok (.iconst 1, 1) := by decide +kernel
theorem dL_law_996 : decode cL_law 996 = .ok (.iadd, 1) := by decide +kernel
theorem dL_law_997 : decode cL_law 997 = .ok (.iaload, 1) := by decide +kernel
theorem dL_law_998 : decode cL_law 998 = .ok (.aload_n 0, 1) := by decide +kernel
theorem dL_law_999 : decode cL_law 999 = .ok (.iload_n 3, 1) := by decide +kernel
theorem dL_law_1000 : decode cL_law 1000 = .ok (.iconst 2, 1) := by decide +kernel
theorem dL_law_1001 : decode cL_law 1001 = .ok (.iadd, 1) := by decide +kernel
theorem dL_law_1002 : decode cL_law 1002 = .ok (.iaload, 1) := by decide +kernel
theorem dL_law_1003 : decode cL_law 1003 = .ok (.i2l, 1) := by decide +kernel
theorem dL_law_1004 : decode cL_law 1004 = .ok (.bipush 32, 2) := by decide +kernel
theorem dL_law_1006 : decode cL_law 1006 = .ok (.lshl, 1) := by decide +kernel
theorem dL_law_1007 : decode cL_law 1007 = .ok (.aload_n 0, 1) := by decide +kernel
theorem dL_law_1008 : decode cL_law 1008 = .ok (.iload_n 3, 1) := by decide +kernel
theorem dL_law_1009 : decode cL_law 1009 = .ok (.iconst 3, 1) := by decide +kernel
theorem dL_law_1010 : decode cL_law 1010 = .ok (.iadd, 1) := by decide +kernel
theorem dL_law_1011 : decode cL_law 1011 = .ok (.iaload, 1) := by decide +kernel
theorem dL_law_1012 : decode cL_law 1012 = .ok (.i2l, 1) := by decide +kernel
theorem dL_law_1013 : decode cL_law 1013 = .ok (.ldc2_w 13, 3) := by decide +kernel
theorem dL_law_1016 : decode cL_law 1016 = .ok (.land, 1) := by decide +kernel
theorem dL_law_1017 : decode cL_law 1017 = .ok (.lor, 1) := by decide +kernel
theorem dL_law_1018 : decode cL_law 1018 = .ok (.invokevirtual 120, 3) := by decide +kernel
theorem dL_law_1021 : decode cL_law 1021 = .ok (.aload_n 2, 1) := by decide +kernel
theorem dL_law_1022 : decode cL_law 1022 = .ok (.aload_n 0, 1) := by decide +kernel
theorem dL_law_1023 : decode cL_law 1023 = .ok (.iload_n 3, 1) := by decide +kernel
theorem dL_law_1024 : decode cL_law 1024 = .ok (.iconst 1, 1) := by decide +kernel
theorem dL_law_1025 : decode cL_law 1025 = .ok (.iadd, 1) := by decide +kernel
theorem dL_law_1026 : decode cL_law 1026 = .ok (.iaload, 1) := by decide +kernel
theorem dL_law_1027 : decode cL_law 1027 = .ok (.aload_n 0, 1) := by decide +kernel
theorem dL_law_1028 : decode cL_law 1028 = .ok (.iload_n 3, 1) := by decide +kernel
theorem dL_law_1029 : decode cL_law 1029 = .ok (.iconst 2, 1) := by decide +kernel
theorem dL_law_1030 : decode cL_law 1030 = .ok (.iadd, 1) := by decide +kernel
theorem dL_law_1031 : decode cL_law 1031 = .ok (.iaload, 1) := by decide +kernel
theorem dL_law_1032 : decode cL_law 1032 = .ok (.i2l, 1) := by decide +kernel
theorem dL_law_1033 : decode cL_law 1033 = .ok (.bipush 32, 2) := by decide +kernel
theorem dL_law_1035 : decode cL_law 1035 = .ok (.lshl, 1) := by decide +kernel
theorem dL_law_1036 : decode cL_law 1036 = .ok (.aload_n 0, 1) := by decide +kernel
theorem dL_law_1037 : decode cL_law 1037 = .ok (.iload_n 3, 1) := by decide +kernel
theorem dL_law_1038 : decode cL_law 1038 = .ok (.iconst 3, 1) := by decide +kernel
theorem dL_law_1039 : decode cL_law 1039 = .ok (.iadd, 1) := by decide +kernel
theorem dL_law_1040 : decode cL_law 1040 = .ok (.iaload, 1) := by decide +kernel
theorem dL_law_1041 : decode cL_law 1041 = .ok (.i2l, 1) := by decide +kernel
theorem dL_law_1042 : decode cL_law 1042 = .ok (.ldc2_w 13, 3) := by decide +kernel
theorem dL_law_1045 : decode cL_law 1045 = .ok (.land, 1) := by decide +kernel
theorem dL_law_1046 : decode cL_law 1046 = .ok (.lor, 1) := by decide +kernel
theorem dL_law_1047 : decode cL_law 1047 = .ok (.invokevirtual 123, 3) := by decide +kernel
theorem dL_law_1050 : decode cL_law 1050 = .ok (.if_icmp .eq 127, 3) := by decide +kernel
theorem dL_law_1053 : decode cL_law 1053 = .ok (.iconst 0, 1) := by decide +kernel
theorem dL_law_1054 : decode cL_law 1054 = .ok (.ireturn, 1) := by decide +kernel
theorem dL_law_1055 : decode cL_law 1055 = .ok (.aload_n 1, 1) := by decide +kernel
theorem dL_law_1056 : decode cL_law 1056 = .ok (.invokevirtual 124, 3) := by decide +kernel
theorem dL_law_1059 : decode cL_law 1059 = .ok (.aload_n 2, 1) := by decide +kernel
theorem dL_law_1060 : decode cL_law 1060 = .ok (.invokevirtual 128, 3) := by decide +kernel
theorem dL_law_1063 : decode cL_law 1063 = .ok (.if_icmp .eq 114, 3) := by decide +kernel
theorem dL_law_1066 : decode cL_law 1066 = .ok (.iconst 0, 1) := by decide +kernel
theorem dL_law_1067 : decode cL_law 1067 = .ok (.ireturn, 1) := by decide +kernel
theorem dL_law_1068 : decode cL_law 1068 = .ok (.aload_n 1, 1) := by decide +kernel
theorem dL_law_1069 : decode cL_law 1069 = .ok (.aload_n 0, 1) := by decide +kernel
theorem dL_law_1070 : decode cL_law 1070 = .ok (.iload_n 3, 1) := by decide +kernel
theorem dL_law_1071 : decode cL_law 1071 = .ok (.iconst 1, 1) := by decide +kernel
theorem dL_law_1072 : decode cL_law 1072 = .ok (.iadd, 1) := by decide +kernel
theorem dL_law_1073 : decode cL_law 1073 = .ok (.iaload, 1) := by decide +kernel
theorem dL_law_1074 : decode cL_law 1074 = .ok (.aload_n 0, 1) := by decide +kernel
theorem dL_law_1075 : decode cL_law 1075 = .ok (.iload_n 3, 1) := by decide +kernel
theorem dL_law_1076 : decode cL_law 1076 = .ok (.iconst 2, 1) := by decide +kernel
theorem dL_law_1077 : decode cL_law 1077 = .ok (.iadd, 1) := by decide +kernel
theorem dL_law_1078 : decode cL_law 1078 = .ok (.iaload, 1) := by decide +kernel
theorem dL_law_1079 : decode cL_law 1079 = .ok (.aload_n 0, 1) := by decide +kernel
theorem dL_law_1080 : decode cL_law 1080 = .ok (.iload_n 3, 1) := by decide +kernel
theorem dL_law_1081 : decode cL_law 1081 = .ok (.iconst 3, 1) := by decide +kernel
theorem dL_law_1082 : decode cL_law 1082 = .ok (.iadd, 1) := by decide +kernel
theorem dL_law_1083 : decode cL_law 1083 = .ok (.iaload, 1) := by decide +kernel
theorem dL_law_1084 : decode cL_law 1084 = .ok (.aload_n 0, 1) := by decide +kernel
theorem dL_law_1085 : decode cL_law 1085 = .ok (.iload_n 3, 1) := by decide +kernel
theorem dL_law_1086 : decode cL_law 1086 = .ok (.iconst 4, 1) := by decide +kernel
theorem dL_law_1087 : decode cL_law 1087 = .ok (.iadd, 1) := by decide +kernel
theorem dL_law_1088 : decode cL_law 1088 = .ok (.iaload, 1) := by decide +kernel
theorem dL_law_1089 : decode cL_law 1089 = .ok (.invokevirtual 129, 3) := by decide +kernel
theorem dL_law_1092 : decode cL_law 1092 = .ok (.aload_n 2, 1) := by decide +kernel
theorem dL_law_1093 : decode cL_law 1093 = .ok (.aload_n 0, 1) := by decide +kernel
theorem dL_law_1094 : decode cL_law 1094 = .ok (.iload_n 3, 1) := by decide +kernel
theorem dL_law_1095 : decode cL_law 1095 = .ok (.iconst 1, 1) := by decide +kernel
theorem dL_law_1096 : decode cL_law 1096 = .ok (.iadd, 1) := by decide +kernel
theorem dL_law_1097 : decode cL_law 1097 = .ok (.iaload, 1) := by decide +kernel
theorem dL_law_1098 : decode cL_law 1098 = .ok (.aload_n 0, 1) := by decide +kernel
theorem dL_law_1099 : decode cL_law 1099 = .ok (.iload_n 3, 1) := by decide +kernel
theorem dL_law_1100 : decode cL_law 1100 = .ok (.iconst 2, 1) := by decide +kernel
theorem dL_law_1101 : decode cL_law 1101 = .ok (.iadd, 1) := by decide +kernel
theorem dL_law_1102 : decode cL_law 1102 = .ok (.iaload, 1) := by decide +kernel
theorem dL_law_1103 : decode cL_law 1103 = .ok (.aload_n 0, 1) := by decide +kernel
theorem dL_law_1104 : decode cL_law 1104 = .ok (.iload_n 3, 1) := by decide +kernel
theorem dL_law_1105 : decode cL_law 1105 = .ok (.iconst 3, 1) := by decide +kernel
theorem dL_law_1106 : decode cL_law 1106 = .ok (.iadd, 1) := by decide +kernel
theorem dL_law_1107 : decode cL_law 1107 = .ok (.iaload, 1) := by decide +kernel
theorem dL_law_1108 : decode cL_law 1108 = .ok (.aload_n 0, 1) := by decide +kernel
theorem dL_law_1109 : decode cL_law 1109 = .ok (.iload_n 3, 1) := by decide +kernel
theorem dL_law_1110 : decode cL_law 1110 = .ok (.iconst 4, 1) := by decide +kernel
theorem dL_law_1111 : decode cL_law 1111 = .ok (.iadd, 1) := by decide +kernel
theorem dL_law_1112 : decode cL_law 1112 = .ok (.iaload, 1) := by decide +kernel
theorem dL_law_1113 : decode cL_law 1113 = .ok (.invokevirtual 133, 3) := by decide +kernel
theorem dL_law_1116 : decode cL_law 1116 = .ok (.if_icmp .eq 61, 3) := by decide +kernel
theorem dL_law_1119 : decode cL_law 1119 = .ok (.iconst 0, 1) := by decide +kernel
theorem dL_law_1120 : decode cL_law 1120 = .ok (.ireturn, 1) := by decide +kernel
theorem dL_law_1121 : decode cL_law 1121 = .ok (.aload_n 1, 1) := by decide +kernel
theorem dL_law_1122 : decode cL_law 1122 = .ok (.aload_n 0, 1) := by decide +kernel
theorem dL_law_1123 : decode cL_law 1123 = .ok (.iload_n 3, 1) := by decide +kernel
theorem dL_law_1124 : decode cL_law 1124 = .ok (.iconst 1, 1) := by decide +kernel
theorem dL_law_1125 : decode cL_law 1125 = .ok (.iadd, 1) := by decide +kernel
theorem dL_law_1126 : decode cL_law 1126 = .ok (.iaload, 1) := by decide +kernel
theorem dL_law_1127 : decode cL_law 1127 = .ok (.aload_n 0, 1) := by decide +kernel
theorem dL_law_1128 : decode cL_law 1128 = .ok (.iload_n 3, 1) := by decide +kernel
theorem dL_law_1129 : decode cL_law 1129 = .ok (.iconst 2, 1) := by decide +kernel
theorem dL_law_1130 : decode cL_law 1130 = .ok (.iadd, 1) := by decide +kernel
theorem dL_law_1131 : decode cL_law 1131 = .ok (.iaload, 1) := by decide +kernel
theorem dL_law_1132 : decode cL_law 1132 = .ok (.aload_n 0, 1) := by decide +kernel
theorem dL_law_1133 : decode cL_law 1133 = .ok (.iload_n 3, 1) := by decide +kernel
theorem dL_law_1134 : decode cL_law 1134 = .ok (.iconst 3, 1) := by decide +kernel
theorem dL_law_1135 : decode cL_law 1135 = .ok (.iadd, 1) := by decide +kernel
theorem dL_law_1136 : decode cL_law 1136 = .ok (.iaload, 1) := by decide +kernel
theorem dL_law_1137 : decode cL_law 1137 = .ok (.invokevirtual 134, 3) := by decide +kernel
theorem dL_law_1140 : decode cL_law 1140 = .ok (.aload_n 2, 1) := by decide +kernel
theorem dL_law_1141 : decode cL_law 1141 = .ok (.aload_n 0, 1) := by decide +kernel
theorem dL_law_1142 : decode cL_law 1142 = .ok (.iload_n 3, 1) := by decide +kernel
theorem dL_law_1143 : decode cL_law 1143 = .ok (.iconst 1, 1) := by decide +kernel
theorem dL_law_1144 : decode cL_law 1144 = .ok (.iadd, 1) := by decide +kernel
theorem dL_law_1145 : decode cL_law 1145 = .ok (.iaload, 1) := by decide +kernel
theorem dL_law_1146 : decode cL_law 1146 = .ok (.aload_n 0, 1) := by decide +kernel
theorem dL_law_1147 : decode cL_law 1147 = .ok (.iload_n 3, 1) := by decide +kernel
theorem dL_law_1148 : decode cL_law 1148 = .ok (.iconst 2, 1) := by decide +kernel
theorem dL_law_1149 : decode cL_law 1149 = .ok (.iadd, 1) := by decide +kernel
theorem dL_law_1150 : decode cL_law 1150 = .ok (.iaload, 1) := by decide +kernel
theorem dL_law_1151 : decode cL_law 1151 = .ok (.aload_n 0, 1) := by decide +kernel
theorem dL_law_1152 : decode cL_law 1152 = .ok (.iload_n 3, 1) := by decide +kernel
theorem dL_law_1153 : decode cL_law 1153 = .ok (.iconst 3, 1) := by decide +kernel
theorem dL_law_1154 : decode cL_law 1154 = .ok (.iadd, 1) := by decide +kernel
theorem dL_law_1155 : decode cL_law 1155 = .ok (.iaload, 1) := by decide +kernel
theorem dL_law_1156 : decode cL_law 1156 = .ok (.invokevirtual 137, 3) := by decide +kernel
theorem dL_law_1159 : decode cL_law 1159 = .ok (.if_icmp .eq 18, 3) := by decide +kernel
theorem dL_law_1162 : decode cL_law 1162 = .ok (.iconst 0, 1) := by decide +kernel
theorem dL_law_1163 : decode cL_law 1163 = .ok (.ireturn, 1) := by decide +kernel
theorem dL_law_1164 : decode cL_law 1164 = .ok (.aload_n 1, 1) := by decide +kernel
theorem dL_law_1165 : decode cL_law 1165 = .ok (.invokevirtual 138, 3) := by decide +kernel
theorem dL_law_1168 : decode cL_law 1168 = .ok (.aload_n 2, 1) := by decide +kernel
theorem dL_law_1169 : decode cL_law 1169 = .ok (.invokevirtual 141, 3) := by decide +kernel
theorem dL_law_1172 : decode cL_law 1172 = .ok (.if_icmp .eq 5, 3) := by decide +kernel
theorem dL_law_1175 : decode cL_law 1175 = .ok (.iconst 0, 1) := by decide +kernel
theorem dL_law_1176 : decode cL_law 1176 = .ok (.ireturn, 1) := by decide +kernel
theorem dL_law_1177 : decode cL_law 1177 = .ok (.iinc 3 5, 3) := by decide +kernel
theorem dL_law_1180 : decode cL_law 1180 = .ok (.goto (-1162), 3) := by decide +kernel
theorem dL_law_1183 : decode cL_law 1183 = .ok (.iconst 1, 1) := by decide +kernel
theorem dL_law_1184 : decode cL_law 1184 = .ok (.ireturn, 1) := by decide +kernel
end
section
/-! THE ABSTRACT MACHINE: objects and arrays by number; ints of objects in F, rows of ints and truths in I, rows of longs in J -/
abbrev zM : Type := (Nat → Int32) × (Nat → Nat → Int32) × (Nat → Nat → Int64)
abbrev zE : Type := (Nat × List (Nat ⊕ Nat)) ⊕ (Nat × Nat × Nat)
/-- a method: name, bytes, locals, answer, class, rank, world -/
abbrev zI : Type := MethodName × ByteArray × Nat × Option FieldType × String × Nat × Nat
def zgw : List Cond := lw_tbl.filter goodWord
theorem zgw_good {ws : List Cond} (h : ∀ w ∈ ws, w ∈ zgw) : GoodIn zgw ws := fun w hw => ⟨h w hw, good_of_word (List.mem_filter.mp (h w hw)).2⟩
theorem zgw_tbl {w : Cond} (h : w ∈ zgw) : w ∈ lw_tbl := (List.mem_filter.mp h).1
abbrev zcl : List vw_C := [(RX0, TX0, 10), (RX1, TX1, 5), (RX2, TX2, 9), (RX3, TX3, 6), (RX4, TX4, 3), (RX5, TX5, 3), (RX6, TX6, 13), (RX7, TX7, 32)]
def z_v (ad : Nat → Nat) : Value → Value
  | .ref i => .ref (ad i)
  | v => v
theorem z_v_cat (ad : Nat → Nat) (v : Value) : (z_v ad v).category = v.category := by cases v <;> rfl
def z_fv (ad : Nat → Nat) (F : Nat → Int32) : Nat ⊕ Nat → Value
  | .inl r => .ref (ad r)
  | .inr v => .int (F v)
def z_ar (ad : Nat → Nat) (M : zM) (k id : Nat) : (Nat → Int32) ⊕ (Nat → Int64) ⊕ (Nat → UInt32) ⊕ (Nat → UInt64) ⊕ (Nat → Option Nat) :=
  match k with
  | 2 => .inr (.inl (M.2.2 id))
  | 3 => .inr (.inr (.inr (.inr (fun j => some (ad (id + 2 * j))))))
  | _ => .inl (M.2.1 id)
def z_el (cA : Nat → ClassId) (ad : Nat → Nat) (M : zM) : zE → va_E
  | .inl q => .inr (q.1, q.2.map (z_fv ad M.1))
  | .inr q => .inl (cA q.1, q.2.1, z_ar ad M q.1 q.2.2)
def z_w (lay : List zE) (cA : Nat → ClassId) (ad : Nat → Nat) (M : zM) : va_W := lay.mapIdx (fun i e => (ad i, z_el cA ad M e))
theorem z_w_at {lay : List zE} {cA : Nat → ClassId} {ad : Nat → Nat} {M : zM} {o : Nat} {e : zE} (h : lay[o]? = some e) : (z_w lay cA ad M)[o]? = some (ad o, z_el cA ad M e) := by
  simp [z_w, h]
def z_ui (I : Nat → Nat → Int32) (id j : Nat) (x : Int32) : Nat → Nat → Int32 := fun a => if a = id then upd (I id) j x else I a
def z_ul (J : Nat → Nat → Int64) (id j : Nat) (x : Int64) : Nat → Nat → Int64 := fun a => if a = id then vp_updL (J id) j x else J a
/-- numbers of fields and rows are each in one place -/
def z_un (lay : List zE) (iF : List (Nat × Nat)) (iI iJ : List Nat) : Prop :=
  (∀ (i c : Nat) (fs : List (Nat ⊕ Nat)) (k v : Nat), lay[i]? = some (.inl (c, fs)) → fs[k]? = some (.inr v) → iF[v]? = some (i, k)) ∧
  (∀ i k n id : Nat, lay[i]? = some (.inr (k, n, id)) → k ≠ 2 → k ≠ 3 → iI[id]? = some i) ∧ (∀ i n id : Nat, lay[i]? = some (.inr (2, n, id)) → iJ[id]? = some i)
def z_chk (lay : List zE) (iF : List (Nat × Nat)) (iI iJ : List Nat) : Bool :=
  lay.zipIdx.all fun q => match q.1 with
    | .inl (_, fs) => fs.zipIdx.all fun f => match f.1 with
      | .inr v => iF[v]? == some (q.2, f.2)
      | .inl _ => true
    | .inr (k, _, id) => if k = 3 then true else if k = 2 then iJ[id]? == some q.2 else iI[id]? == some q.2
theorem z_un_of {lay : List zE} {iF : List (Nat × Nat)} {iI iJ : List Nat} (h : z_chk lay iF iI iJ = true) : z_un lay iF iI iJ := by
  unfold z_chk at h
  rw [List.all_eq_true] at h
  refine ⟨fun i c fs k v hi hk => ?_, fun i k n id hi h2 h3 => ?_, fun i n id hi => ?_⟩
  · have h1 := h (_, i) (List.mem_zipIdx_iff_getElem?.mpr hi)
    simp only at h1
    rw [List.all_eq_true] at h1
    have h2 := h1 (_, k) (List.mem_zipIdx_iff_getElem?.mpr hk)
    simpa using h2
  · have h1 := h (_, i) (List.mem_zipIdx_iff_getElem?.mpr hi)
    simpa [h2, h3] using h1
  · have h1 := h (_, i) (List.mem_zipIdx_iff_getElem?.mpr hi)
    simpa using h1
theorem z_w_putF {lay : List zE} {iF : List (Nat × Nat)} {iI iJ : List Nat} (hu : z_un lay iF iI iJ) {cA : Nat → ClassId} {ad : Nat → Nat} {M : zM} {o ci k v : Nat} {fs : List (Nat ⊕ Nat)} (ho : lay[o]? = some (.inl (ci, fs))) (hk : fs[k]? = some (.inr v)) (x : Int32) :
    (z_w lay cA ad M).set o (ad o, .inr (ci, (fs.map (z_fv ad M.1)).set k (.int x))) = z_w lay cA ad (upd M.1 v x, M.2) := by
  have hol := (List.getElem?_eq_some_iff.mp ho).1
  have hkl := (List.getElem?_eq_some_iff.mp hk).1
  have hv := hu.1 o ci fs k v ho hk
  apply List.ext_getElem?
  intro i
  by_cases hi : i = o
  · subst hi
    rw [List.getElem?_set_self (by simpa [z_w] using hol), z_w_at ho]
    simp only [z_el, Option.some.injEq, Prod.mk.injEq, Sum.inr.injEq, true_and]
    apply List.ext_getElem?
    intro j
    by_cases hj : j = k
    · subst hj
      rw [List.getElem?_set_self (by simpa using hkl), List.getElem?_map, hk]
      simp [z_fv, upd]
    · rw [List.getElem?_set_ne (Ne.symm hj), List.getElem?_map, List.getElem?_map]
      cases hf : fs[j]? with
      | none => rfl
      | some f =>
        cases f with
        | inl r => rfl
        | inr v' =>
          have hv' := hu.1 i ci fs j v' ho hf
          have hne : v' ≠ v := by
            intro e
            rw [e, hv] at hv'
            simp at hv'
            exact hj hv'.symm
          simp [z_fv, upd, hne]
  · rw [List.getElem?_set_ne (Ne.symm hi)]
    cases he : lay[i]? with
    | none => simp [z_w, he]
    | some e =>
      rw [z_w_at he, z_w_at he]
      cases e with
      | inr q => rfl
      | inl q =>
        obtain ⟨c, fs'⟩ := q
        simp only [z_el, Option.some.injEq, Prod.mk.injEq, Sum.inr.injEq, true_and]
        apply List.map_congr_left
        intro f hf
        cases f with
        | inl r => rfl
        | inr v' =>
          obtain ⟨j, hj⟩ := List.getElem?_of_mem hf
          have hv' := hu.1 i c fs' j v' he hj
          have hne : v' ≠ v := by
            intro e
            rw [e, hv] at hv'
            simp at hv'
            exact hi hv'.1.symm
          simp [z_fv, upd, hne]
theorem z_w_putI {lay : List zE} {iF : List (Nat × Nat)} {iI iJ : List Nat} (hu : z_un lay iF iI iJ) {cA : Nat → ClassId} {ad : Nat → Nat} {M : zM} {o kd n id : Nat} (ho : lay[o]? = some (.inr (kd, n, id))) (h2 : kd ≠ 2) (h3 : kd ≠ 3) (j : Nat) (x : Int32) :
    (z_w lay cA ad M).set o (ad o, .inl (cA kd, n, .inl (upd (M.2.1 id) j x))) = z_w lay cA ad (M.1, z_ui M.2.1 id j x, M.2.2) := by
  have hol := (List.getElem?_eq_some_iff.mp ho).1
  have hv := hu.2.1 o kd n id ho h2 h3
  apply List.ext_getElem?
  intro i
  by_cases hi : i = o
  · subst hi
    rw [List.getElem?_set_self (by simpa [z_w] using hol), z_w_at ho]
    simp only [z_el, Option.some.injEq, Prod.mk.injEq, Sum.inl.injEq, true_and]
    unfold z_ar
    split
    · exact absurd rfl h2
    · exact absurd rfl h3
    · simp [z_ui]
  · rw [List.getElem?_set_ne (Ne.symm hi)]
    cases he : lay[i]? with
    | none => simp [z_w, he]
    | some e =>
      rw [z_w_at he, z_w_at he]
      cases e with
      | inl q => rfl
      | inr q =>
        obtain ⟨k', n', id'⟩ := q
        simp only [z_el, Option.some.injEq, Prod.mk.injEq, Sum.inl.injEq, true_and]
        unfold z_ar
        split
        · rfl
        · rfl
        · rename_i q2 q3
          have hv' := hu.2.1 i k' n' id' he (fun e => q2 e) (fun e => q3 e)
          have hne : id' ≠ id := by
            intro e
            rw [e, hv] at hv'
            simp at hv'
            exact hi hv'.symm
          simp [z_ui, hne]
theorem z_w_putJ {lay : List zE} {iF : List (Nat × Nat)} {iI iJ : List Nat} (hu : z_un lay iF iI iJ) {cA : Nat → ClassId} {ad : Nat → Nat} {M : zM} {o n id : Nat} (ho : lay[o]? = some (.inr (2, n, id))) (j : Nat) (x : Int64) :
    (z_w lay cA ad M).set o (ad o, .inl (cA 2, n, .inr (.inl (vp_updL (M.2.2 id) j x)))) = z_w lay cA ad (M.1, M.2.1, z_ul M.2.2 id j x) := by
  have hol := (List.getElem?_eq_some_iff.mp ho).1
  have hv := hu.2.2 o n id ho
  apply List.ext_getElem?
  intro i
  by_cases hi : i = o
  · subst hi
    rw [List.getElem?_set_self (by simpa [z_w] using hol), z_w_at ho]
    simp [z_el, z_ar, z_ul]
  · rw [List.getElem?_set_ne (Ne.symm hi)]
    cases he : lay[i]? with
    | none => simp [z_w, he]
    | some e =>
      rw [z_w_at he, z_w_at he]
      cases e with
      | inl q => rfl
      | inr q =>
        obtain ⟨k', n', id'⟩ := q
        simp only [z_el, Option.some.injEq, Prod.mk.injEq, Sum.inl.injEq, true_and]
        unfold z_ar
        split
        · have hv' := hu.2.2 i n' id' he
          have hne : id' ≠ id := by
            intro e
            rw [e, hv] at hv'
            simp at hv'
            exact hi hv'.symm
          simp [z_ul, hne]
        · rfl
        · rfl
/-! locals -/
def z_lv (ls : Array Slot) (nL : Nat) (ad : Nat → Nat) (L : List (Option Value)) : Prop := ls.size = nL ∧ lv_wf ls ∧ ∀ (i : Nat) (v : Value), L[i]? = some (some v) → ls[i]? = some (Slot.val (z_v ad v))
def z_prs (ad : Nat → Nat) : Nat → List (Option Value) → List (Nat × Value)
  | _, [] => []
  | k, none :: L => z_prs ad (k + 1) L
  | k, some v :: L => (k, z_v ad v) :: z_prs ad (k + 1) L
theorem z_prs_mem (ad : Nat → Nat) : ∀ (L : List (Option Value)) (k : Nat) (q : Nat × Value), q ∈ z_prs ad k L ↔ ∃ j v, L[j]? = some (some v) ∧ q = (k + j, z_v ad v)
  | [], k, q => by simp [z_prs]
  | none :: L, k, q => by
    rw [z_prs, z_prs_mem ad L (k + 1) q]
    constructor
    · rintro ⟨j, v, h1, h2⟩
      exact ⟨j + 1, v, by simpa using h1, by rw [h2]; simp; omega⟩
    · rintro ⟨j, v, h1, h2⟩
      cases j with
      | zero => simp at h1
      | succ j => exact ⟨j, v, by simpa using h1, by rw [h2]; simp; omega⟩
  | some v0 :: L, k, q => by
    rw [z_prs, List.mem_cons, z_prs_mem ad L (k + 1) q]
    constructor
    · rintro (h | ⟨j, v, h1, h2⟩)
      · exact ⟨0, v0, rfl, h⟩
      · exact ⟨j + 1, v, by simpa using h1, by rw [h2]; simp; omega⟩
    · rintro ⟨j, v, h1, h2⟩
      cases j with
      | zero =>
        simp at h1
        subst h1
        exact Or.inl h2
      | succ j => exact Or.inr ⟨j, v, by simpa using h1, by rw [h2]; simp; omega⟩
theorem z_lv_has {ls : Array Slot} {nL : Nat} {ad : Nat → Nat} {L : List (Option Value)} (h : z_lv ls nL ad L) : lv_has ls nL (z_prs ad 0 L) := by
  refine ⟨h.1, h.2.1, fun q hq => ?_⟩
  obtain ⟨j, v, h1, h2⟩ := (z_prs_mem ad L 0 q).mp hq
  rw [h2]
  simpa using h.2.2 j v h1
def z_c1 : Option Value → Option Value
  | some (.long _) => none
  | some (.double _) => none
  | o => o
theorem z_c1_some {o : Option Value} {v : Value} (h : z_c1 o = some v) : o = some v ∧ v.category = 1 := by
  cases o with
  | none => simp [z_c1] at h
  | some u => cases u <;> simp [z_c1] at h <;> subst h <;> exact ⟨rfl, rfl⟩
def z_s1 : List (Option Value) → Nat → Value → List (Option Value)
  | [], _, _ => []
  | _ :: L, 0, v => some v :: L
  | o :: L, 1, v => z_c1 o :: z_s1 L 0 v
  | o :: L, n + 2, v => o :: z_s1 L (n + 1) v
theorem z_s1_at : ∀ (L : List (Option Value)) (i : Nat) (v : Value) (j : Nat) (w : Value), (z_s1 L i v)[j]? = some (some w) → (j = i ∧ w = v) ∨ (j ≠ i ∧ L[j]? = some (some w) ∧ (j + 1 = i → w.category = 1))
  | [], i, v, j, w, h => by simp [z_s1] at h
  | o :: L, 0, v, j, w, h => by
    cases j with
    | zero => simp [z_s1] at h; exact Or.inl ⟨rfl, h.symm⟩
    | succ j => exact Or.inr ⟨by omega, by simpa [z_s1] using h, fun q => by omega⟩
  | o :: L, 1, v, j, w, h => by
    cases j with
    | zero =>
      have h1 : z_c1 o = some w := by simpa [z_s1] using h
      obtain ⟨h2, h3⟩ := z_c1_some h1
      exact Or.inr ⟨by omega, by simp [h2], fun _ => h3⟩
    | succ j =>
      have h1 : (z_s1 L 0 v)[j]? = some (some w) := by simpa [z_s1] using h
      rcases z_s1_at L 0 v j w h1 with ⟨a, b⟩ | ⟨a, b, c⟩
      · exact Or.inl ⟨by omega, b⟩
      · exact Or.inr ⟨by omega, by simpa using b, fun q => c (by omega)⟩
  | o :: L, n + 2, v, j, w, h => by
    cases j with
    | zero => exact Or.inr ⟨by omega, by simpa [z_s1] using h, fun q => by omega⟩
    | succ j =>
      have h1 : (z_s1 L (n + 1) v)[j]? = some (some w) := by simpa [z_s1] using h
      rcases z_s1_at L (n + 1) v j w h1 with ⟨a, b⟩ | ⟨a, b, c⟩
      · exact Or.inl ⟨by omega, b⟩
      · exact Or.inr ⟨by omega, by simpa using b, fun q => c (by omega)⟩
def z_s2 : List (Option Value) → Nat → Value → List (Option Value)
  | [], _, _ => []
  | [_], 0, v => [some v]
  | _ :: _ :: L, 0, v => some v :: none :: L
  | o :: L, 1, v => z_c1 o :: z_s2 L 0 v
  | o :: L, n + 2, v => o :: z_s2 L (n + 1) v
theorem z_s2_at : ∀ (L : List (Option Value)) (i : Nat) (v : Value) (j : Nat) (w : Value), (z_s2 L i v)[j]? = some (some w) → (j = i ∧ w = v) ∨ (j ≠ i ∧ j ≠ i + 1 ∧ L[j]? = some (some w) ∧ (j + 1 = i → w.category = 1))
  | [], i, v, j, w, h => by simp [z_s2] at h
  | [o], 0, v, j, w, h => by
    cases j with
    | zero => simp [z_s2] at h; exact Or.inl ⟨rfl, h.symm⟩
    | succ j => simp [z_s2] at h
  | o :: o2 :: L, 0, v, j, w, h => by
    match j, h with
    | 0, h => simp [z_s2] at h; exact Or.inl ⟨rfl, h.symm⟩
    | 1, h => simp [z_s2] at h
    | j + 2, h => exact Or.inr ⟨by omega, by omega, by simpa [z_s2] using h, fun q => by omega⟩
  | o :: L, 1, v, j, w, h => by
    cases j with
    | zero =>
      have h1 : z_c1 o = some w := by simpa [z_s2] using h
      obtain ⟨h2, h3⟩ := z_c1_some h1
      exact Or.inr ⟨by omega, by omega, by simp [h2], fun _ => h3⟩
    | succ j =>
      have h1 : (z_s2 L 0 v)[j]? = some (some w) := by simpa [z_s2] using h
      rcases z_s2_at L 0 v j w h1 with ⟨a, b⟩ | ⟨a, b, c, d⟩
      · exact Or.inl ⟨by omega, b⟩
      · exact Or.inr ⟨by omega, by omega, by simpa using c, fun q => d (by omega)⟩
  | o :: L, n + 2, v, j, w, h => by
    cases j with
    | zero => exact Or.inr ⟨by omega, by omega, by simpa [z_s2] using h, fun q => by omega⟩
    | succ j =>
      have h1 : (z_s2 L (n + 1) v)[j]? = some (some w) := by simpa [z_s2] using h
      rcases z_s2_at L (n + 1) v j w h1 with ⟨a, b⟩ | ⟨a, b, c, d⟩
      · exact Or.inl ⟨by omega, b⟩
      · exact Or.inr ⟨by omega, by omega, by simpa using c, fun q => d (by omega)⟩
theorem z_lv_s1 {ls : Array Slot} {nL : Nat} {ad : Nat → Nat} {L : List (Option Value)} {i : Nat} {v : Value} (h : lv_has ls nL ((i, z_v ad v) :: (z_prs ad 0 L).filter (fun q => !(q.1 == i) && !(q.1 + 1 == i && q.2.category == 2)))) : z_lv ls nL ad (z_s1 L i v) := by
  refine ⟨h.1, h.2.1, fun j w hj => ?_⟩
  rcases z_s1_at L i v j w hj with ⟨a, b⟩ | ⟨a, b, c⟩
  · subst a; subst b
    exact h.2.2 _ List.mem_cons_self
  · refine h.2.2 (j, z_v ad w) (List.mem_cons_of_mem _ (List.mem_filter.mpr ⟨(z_prs_mem ad L 0 _).mpr ⟨j, w, b, by simp⟩, ?_⟩))
    simp only [z_v_cat]
    by_cases e : j + 1 = i
    · simp [a, e, c e]
    · simp [a, e]
theorem z_lv_s2 {ls : Array Slot} {nL : Nat} {ad : Nat → Nat} {L : List (Option Value)} {i : Nat} {v : Value} (h : lv_has ls nL ((i, z_v ad v) :: (z_prs ad 0 L).filter (fun q => !(q.1 == i) && (!(q.1 == i + 1) && !(q.1 + 1 == i && q.2.category == 2))))) : z_lv ls nL ad (z_s2 L i v) := by
  refine ⟨h.1, h.2.1, fun j w hj => ?_⟩
  rcases z_s2_at L i v j w hj with ⟨a, b⟩ | ⟨a, a2, b, c⟩
  · subst a; subst b
    exact h.2.2 _ List.mem_cons_self
  · refine h.2.2 (j, z_v ad w) (List.mem_cons_of_mem _ (List.mem_filter.mpr ⟨(z_prs_mem ad L 0 _).mpr ⟨j, w, b, by simp⟩, ?_⟩))
    simp only [z_v_cat]
    by_cases e : j + 1 = i
    · simp [a, a2, e, c e]
    · simp [a, a2, e]
def z_en : List Value → Nat → List (Option Value)
  | [], n => List.replicate n none
  | v :: vs, n => if v.category = 2 then some v :: none :: z_en vs n else some v :: z_en vs n
theorem z_en_at (ad : Nat → Nat) (n : Nat) : ∀ (vs : List Value) (k j : Nat) (w : Value), (z_en vs n)[j]? = some (some w) → (k + j, z_v ad w) ∈ lv_args k (vs.map (z_v ad))
  | [], k, j, w, h => by simp [z_en, List.getElem?_replicate] at h
  | v :: vs, k, j, w, h => by
    rw [List.map_cons, lv_args, z_v_cat]
    by_cases hc : v.category = 2
    · rw [z_en, if_pos hc] at h
      rw [if_pos hc]
      match j, h with
      | 0, h => simp at h; subst h; exact List.mem_cons_self
      | 1, h => simp at h
      | j + 2, h =>
        have := z_en_at ad n vs (k + 2) j w (by simpa using h)
        rw [show k + (j + 2) = k + 2 + j by omega]
        exact List.mem_cons_of_mem _ this
    · rw [z_en, if_neg hc] at h
      rw [if_neg hc]
      match j, h with
      | 0, h => simp at h; subst h; exact List.mem_cons_self
      | j + 1, h =>
        have := z_en_at ad n vs (k + 1) j w (by simpa using h)
        rw [show k + (j + 1) = k + 1 + j by omega]
        exact List.mem_cons_of_mem _ this
/-! the judgements -/
def z_tys (cA : Nat → ClassId) : List (ClassId × FieldType) := [(cA 0, .int), (cA 1, .boolean), (cA 2, .long), (cA 3, .object "ForestKeeper$Tray")]
def z_rm (I : zI) : Room := { frames := I.2.2.2.2.2.1, cells := 0, slots := 0, locals := 32 * I.2.2.2.2.2.1 }
def z_ws (I : zI) : List Cond := .code I.1 I.2.1 I.2.2.1 I.2.2.2.1 :: zgw
def z_layC : List zE := [
  .inl (6, [.inl 1, .inl 2, .inl 3, .inl 12, .inl 17, .inl 22, .inl 25, .inl 31, .inl 36, .inr 0, .inr 1, .inr 2, .inr 3]),
  .inr (2, 100, 0), .inr (0, 100, 0),
  .inl (0, [.inl 4, .inl 5, .inl 6, .inl 7, .inl 8, .inl 9, .inl 10, .inl 11, .inr 4, .inr 5]),
  .inr (0, 300, 1), .inr (0, 300, 2), .inr (2, 300, 1), .inr (0, 300, 3), .inr (0, 300, 4), .inr (0, 100, 5), .inr (0, 600, 6), .inr (0, 1500, 7),
  .inl (1, [.inl 13, .inl 14, .inl 15, .inl 16, .inr 6]), .inr (0, 100, 8), .inr (0, 100, 9), .inr (0, 100, 10), .inr (1, 100, 11),
  .inl (1, [.inl 18, .inl 19, .inl 20, .inl 21, .inr 7]), .inr (0, 100, 12), .inr (0, 100, 13), .inr (0, 100, 14), .inr (1, 100, 15),
  .inl (5, [.inl 23, .inl 24, .inr 8]), .inr (0, 100, 16), .inr (0, 100, 17),
  .inl (2, [.inl 26, .inl 27, .inl 28, .inl 29, .inl 30, .inr 9, .inr 10, .inr 11, .inr 12]), .inr (0, 100, 18), .inr (0, 100, 19), .inr (0, 100, 20), .inr (0, 100, 21), .inr (1, 100, 22),
  .inl (3, [.inl 32, .inl 33, .inl 34, .inl 35, .inr 13, .inr 14]), .inr (0, 20, 23), .inr (0, 20, 24), .inr (0, 20, 25), .inr (2, 20, 2),
  .inr (3, 6, 37),
  .inl (4, [.inl 38, .inr 15, .inr 21]), .inr (2, 100, 3),
  .inl (4, [.inl 40, .inr 16, .inr 22]), .inr (2, 100, 4),
  .inl (4, [.inl 42, .inr 17, .inr 23]), .inr (2, 100, 5),
  .inl (4, [.inl 44, .inr 18, .inr 24]), .inr (2, 100, 6),
  .inl (4, [.inl 46, .inr 19, .inr 25]), .inr (2, 100, 7),
  .inl (4, [.inl 48, .inr 20, .inr 26]), .inr (2, 100, 8)]
def z_layM : List zE := [
  .inl (7, [.inr 0, .inr 1, .inr 2, .inr 3, .inr 4, .inl 1, .inl 2, .inl 3, .inl 4, .inl 5, .inl 6, .inl 7, .inr 5, .inl 8, .inl 9, .inl 10, .inl 11, .inl 12, .inl 13, .inl 14, .inl 15, .inl 16, .inl 17, .inl 18, .inl 19, .inl 20, .inr 6, .inl 21, .inl 22, .inl 23, .inl 24, .inr 7]),
  .inr (2, 100, 0), .inr (0, 100, 0), .inr (0, 300, 1), .inr (0, 300, 2), .inr (0, 300, 3), .inr (0, 300, 4), .inr (2, 300, 1), .inr (2, 2100, 2), .inr (0, 2100, 5), .inr (0, 6300, 6), .inr (0, 6300, 7), .inr (0, 21, 8), .inr (0, 21, 9), .inr (0, 21, 10), .inr (1, 100, 11), .inr (1, 100, 12), .inr (0, 100, 13), .inr (0, 100, 14), .inr (0, 100, 15), .inr (0, 100, 16), .inr (0, 6, 17), .inr (0, 6, 18), .inr (0, 600, 19), .inr (2, 600, 3)]
def z_lay (I : zI) : List zE := match I.2.2.2.2.2.2 with
  | 0 => z_layC
  | _ => z_layM
def z_iF (w : Nat) : List (Nat × Nat) := match w with
  | 0 => [(0, 9), (0, 10), (0, 11), (0, 12), (3, 8), (3, 9), (12, 4), (17, 4), (22, 2), (25, 5), (25, 6), (25, 7), (25, 8), (31, 4), (31, 5), (37, 1), (39, 1), (41, 1), (43, 1), (45, 1), (47, 1), (37, 2), (39, 2), (41, 2), (43, 2), (45, 2), (47, 2)]
  | _ => [(0, 0), (0, 1), (0, 2), (0, 3), (0, 4), (0, 12), (0, 26), (0, 31)]
def z_iI (w : Nat) : List Nat := match w with
  | 0 => [2, 4, 5, 7, 8, 9, 10, 11, 13, 14, 15, 16, 18, 19, 20, 21, 23, 24, 26, 27, 28, 29, 30, 32, 33, 34]
  | _ => [2, 3, 4, 5, 6, 9, 10, 11, 12, 13, 14, 15, 16, 17, 18, 19, 20, 21, 22, 23]
def z_iJ (w : Nat) : List Nat := match w with
  | 0 => [1, 6, 35, 38, 40, 42, 44, 46, 48]
  | _ => [1, 7, 8, 24]
theorem z_unC : z_un z_layC (z_iF 0) (z_iI 0) (z_iJ 0) := z_un_of (by decide +kernel)
theorem z_unM : z_un z_layM (z_iF 1) (z_iI 1) (z_iJ 1) := z_un_of (by decide +kernel)
theorem z_unI (I : zI) : ∃ iF iI iJ, z_un (z_lay I) iF iI iJ := by
  unfold z_lay
  split
  · exact ⟨_, _, _, z_unC⟩
  · exact ⟨_, _, _, z_unM⟩
theorem z_trayC {t : Nat} (h : t < 6) : z_layC[37 + 2 * t]? = some (.inl (4, [.inl (38 + 2 * t), .inr (15 + t), .inr (21 + t)])) := by
  rcases (show t = 0 ∨ t = 1 ∨ t = 2 ∨ t = 3 ∨ t = 4 ∨ t = 5 by omega) with rfl | rfl | rfl | rfl | rfl | rfl <;> rfl
theorem z_rowC {t : Nat} (h : t < 6) : z_layC[38 + 2 * t]? = some (.inr (2, 100, 3 + t)) := by
  rcases (show t = 0 ∨ t = 1 ∨ t = 2 ∨ t = 3 ∨ t = 4 ∨ t = 5 by omega) with rfl | rfl | rfl | rfl | rfl | rfl <;> rfl
def z_Q (I : zI) (post : Option Value → zM → Prop) (D : va_G) (cA : Nat → ClassId) (ad : Nat → Nat) (A : Nat → Prop) : Array Value → State → Outcome → State → Prop := fun _ st oc t =>
  (∃ r M, post r M ∧ oc = .returned (r.map (z_v ad)) ∧ va_P D zcl (z_w (z_lay I) cA ad M) t.heap ∧ va_K D zcl (z_tys cA) t ∧ va_D A (z_w (z_lay I) cA ad M)) ∧ va_F A st t
def z_cx (I : zI) (p : Program) (R : Room) (s : State) (m : MethodId) (args : Array Value) (meth : Method) (c : Code) (D : va_G) (cA : Nat → ClassId) (A : Nat → Prop) : Prop :=
  p.tables.exec = Jvm.exec ∧ c.code = I.2.1 ∧ c.maxLocals = I.2.2.1 ∧ meth.sig.returnType = I.2.2.2.1 ∧ meth.locks = false ∧ s.vm.findClass I.2.2.2.2.1 = some m.cls ∧ (∀ w ∈ zgw, w.before args s = true) ∧ va_K D zcl (z_tys cA) s ∧ (∀ q, s.heap.size ≤ q → A q) ∧ R = z_rm I
/-- from here on the method comes to its end, with post -/
def AW (I : zI) (post : Option Value → zM → Prop) (pc : Nat) (L : List (Option Value)) (st : List Value) (M : zM) : Prop :=
  ∀ post' : Option Value → zM → Prop, (∀ r M, post r M → post' r M) → ∀ (p : Program) (l : Launch) (e : Env) (R : Room) (s : State) (m : MethodId) (args : Array Value) (below : List Frame) (meth : Method) (c : Code) (D : va_G) (cA : Nat → ClassId) (ad : Nat → Nat) (A : Nat → Prop), z_cx I p R s m args meth c D cA A →
    ∀ (H : Heap) (locs : List Loc) (ls : Array Slot), va_P D zcl (z_w (z_lay I) cA ad M) H → va_D A (z_w (z_lay I) cA ad M) → va_S A s.heap H locs → z_lv ls I.2.2.1 ad L →
      W p l e R s m args below meth c H locs 0 0 (MQ below (z_Q I post' D cA ad A) args s 0 0 A) (F0 m pc ls (st.map (z_v ad)))
/-- a method's contract -/
def AMet (I : zI) (av : List Value) (M : zM) (post : Option Value → zM → Prop) : Prop :=
  ∀ post' : Option Value → zM → Prop, (∀ r M, post r M → post' r M) → ∀ (l : Launch) (D : va_G) (cA : Nat → ClassId) (ad : Nat → Nat) (sz : Nat),
    Met l I.1 (z_ws I) (z_rm I) (va_Pc (av.map (z_v ad)) (fun U => U.heap.size = sz ∧ va_P D zcl (z_w (z_lay I) cA ad M) U.heap ∧ va_K D zcl (z_tys cA) U ∧ va_D (fun _ => True) (z_w (z_lay I) cA ad M)))
      (z_Q I post' D cA ad (va_A (z_w (z_lay I) cA ad M) sz)) 0 0 (va_A (z_w (z_lay I) cA ad M) sz)
theorem AW.mono {I : zI} {post post2 : Option Value → zM → Prop} {pc : Nat} {L : List (Option Value)} {st : List Value} {M : zM} (h : AW I post pc L st M) (hp : ∀ r M, post r M → post2 r M) : AW I post2 pc L st M := fun post' h' => h post' (fun r M q => h' r M (hp r M q))
theorem AMet.mono {I : zI} {post post2 : Option Value → zM → Prop} {av : List Value} {M : zM} (h : AMet I av M post) (hp : ∀ r M, post r M → post2 r M) : AMet I av M post2 := fun post' h' => h post' (fun r M q => h' r M (hp r M q))
/-- int, long, void, reference answers -/
def AMi (I : zI) (av : List Value) (M : zM) (post : Int32 → zM → Prop) : Prop := AMet I av M (fun r M' => ∃ x, r = some (.int x) ∧ post x M')
def AMl (I : zI) (av : List Value) (M : zM) (post : Int64 → zM → Prop) : Prop := AMet I av M (fun r M' => ∃ x, r = some (.long x) ∧ post x M')
def AMv (I : zI) (av : List Value) (M : zM) (post : zM → Prop) : Prop := AMet I av M (fun r M' => r = none ∧ post M')
def AMr (I : zI) (av : List Value) (M : zM) (post : Nat → zM → Prop) : Prop := AMet I av M (fun r M' => ∃ x, r = some (.ref x) ∧ post x M')
theorem AMi.mono {I : zI} {post post2 : Int32 → zM → Prop} {av : List Value} {M : zM} (h : AMi I av M post) (hp : ∀ r M, post r M → post2 r M) : AMi I av M post2 := AMet.mono h (fun _ M q => q.elim fun x q => ⟨x, q.1, hp x M q.2⟩)
theorem AMl.mono {I : zI} {post post2 : Int64 → zM → Prop} {av : List Value} {M : zM} (h : AMl I av M post) (hp : ∀ r M, post r M → post2 r M) : AMl I av M post2 := AMet.mono h (fun _ M q => q.elim fun x q => ⟨x, q.1, hp x M q.2⟩)
theorem AMv.mono {I : zI} {post post2 : zM → Prop} {av : List Value} {M : zM} (h : AMv I av M post) (hp : ∀ M, post M → post2 M) : AMv I av M post2 := AMet.mono h (fun _ M q => ⟨q.1, hp M q.2⟩)
theorem AMr.mono {I : zI} {post post2 : Nat → zM → Prop} {av : List Value} {M : zM} (h : AMr I av M post) (hp : ∀ r M, post r M → post2 r M) : AMr I av M post2 := AMet.mono h (fun _ M q => q.elim fun x q => ⟨x, q.1, hp x M q.2⟩)

/-! the rules -/
theorem z_weak {I : zI} {post : Option Value → zM → Prop} {pc : Nat} {L : List (Option Value)} {st : List Value} {M : zM} {L2 : List (Option Value)} (h : ∀ (i : Nat) (v : Value), L2[i]? = some (some v) → L[i]? = some (some v)) (k : AW I post pc L2 st M) : AW I post pc L st M := by
  intro post' hp p l e R s m args below meth c D cA ad A C H locs ls hP hD hS hl
  exact k post' hp p l e R s m args below meth c D cA ad A C H locs ls hP hD hS ⟨hl.1, hl.2.1, fun i v q => hl.2.2 i v (h i v q)⟩
def z_le : List (Option Value) → List (Option Value) → Prop
  | [], _ => True
  | none :: L2, _ :: L => z_le L2 L
  | none :: L2, [] => z_le L2 []
  | some v :: L2, o :: L => o = some v ∧ z_le L2 L
  | some _ :: _, [] => False
theorem z_le_at : ∀ (L2 L : List (Option Value)), z_le L2 L → ∀ (i : Nat) (v : Value), L2[i]? = some (some v) → L[i]? = some (some v)
  | [], L, _, i, v, h => by simp at h
  | none :: L2, o :: L, hle, i, v, h => by
    cases i with
    | zero => simp at h
    | succ i => simpa using z_le_at L2 L hle i v (by simpa using h)
  | none :: L2, [], hle, i, v, h => by
    cases i with
    | zero => simp at h
    | succ i => have := z_le_at L2 [] hle i v (by simpa using h); simp at this
  | some u :: L2, o :: L, hle, i, v, h => by
    cases i with
    | zero =>
      obtain ⟨h1, -⟩ := hle
      simp at h
      subst h
      simp [h1]
    | succ i => simpa using z_le_at L2 L hle.2 i v (by simpa using h)
  | some u :: L2, [], hle, i, v, h => hle.elim
theorem z_wk {I : zI} {post : Option Value → zM → Prop} {pc : Nat} {L : List (Option Value)} {st : List Value} {M : zM} (L2 : List (Option Value)) (h : z_le L2 L) (k : AW I post pc L2 st M) : AW I post pc L st M := z_weak (z_le_at L2 L h) k
theorem z_iconst {I : zI} {post : Option Value → zM → Prop} {pc : Nat} {L : List (Option Value)} {st : List Value} {M : zM} {n : Int} {v : Int32} (hd : decode I.2.1 pc = .ok (.iconst n, 1)) (hv : Int32.ofInt n = v) (k : AW I post (pc + 1) L (.int v :: st) M) : AW I post pc L (st) M := by
  intro post' hp p l e R s m args below meth c D cA ad A C H locs ls hP hD hS hl
  exact lv_iconst C.1 C.2.1 hd hv (k post' hp p l e R s m args below meth c D cA ad A C H locs ls hP hD hS hl)
theorem z_bipush {I : zI} {post : Option Value → zM → Prop} {pc : Nat} {L : List (Option Value)} {st : List Value} {M : zM} {n : Int} {v : Int32} (hd : decode I.2.1 pc = .ok (.bipush n, 2)) (hv : (Int8.ofInt n).toInt32 = v) (k : AW I post (pc + 2) L (.int v :: st) M) : AW I post pc L (st) M := by
  intro post' hp p l e R s m args below meth c D cA ad A C H locs ls hP hD hS hl
  exact lv_bipush C.1 C.2.1 hd hv (k post' hp p l e R s m args below meth c D cA ad A C H locs ls hP hD hS hl)
theorem z_sipush {I : zI} {post : Option Value → zM → Prop} {pc : Nat} {L : List (Option Value)} {st : List Value} {M : zM} {n : Int} {v : Int32} (hd : decode I.2.1 pc = .ok (.sipush n, 3)) (hv : (Int16.ofInt n).toInt32 = v) (k : AW I post (pc + 3) L (.int v :: st) M) : AW I post pc L (st) M := by
  intro post' hp p l e R s m args below meth c D cA ad A C H locs ls hP hD hS hl
  exact lv_sipush C.1 C.2.1 hd hv (k post' hp p l e R s m args below meth c D cA ad A C H locs ls hP hD hS hl)
theorem z_lconst {I : zI} {post : Option Value → zM → Prop} {pc : Nat} {L : List (Option Value)} {st : List Value} {M : zM} {n : Fin 2} {v : Int64} (hd : decode I.2.1 pc = .ok (.lconst n, 1)) (hv : Int64.ofNat (n : Nat) = v) (k : AW I post (pc + 1) L (.long v :: st) M) : AW I post pc L (st) M := by
  intro post' hp p l e R s m args below meth c D cA ad A C H locs ls hP hD hS hl
  exact lv_lconst C.1 C.2.1 hd hv (k post' hp p l e R s m args below meth c D cA ad A C H locs ls hP hD hS hl)
theorem z_ldc2 {I : zI} {post : Option Value → zM → Prop} {pc : Nat} {L : List (Option Value)} {st : List Value} {M : zM} {n : Nat} {v : Int64} (hd : decode I.2.1 pc = .ok (.ldc2_w n, 3)) (hv : Jvm.Cond.constantLong I.2.2.2.2.1 n v ∈ zgw) (k : AW I post (pc + 3) L (.long v :: st) M) : AW I post pc L (st) M := by
  intro post' hp p l e R s m args below meth c D cA ad A C H locs ls hP hD hS hl
  exact lv_ldc2 C.1 C.2.1 C.2.2.2.2.2.1 (C.2.2.2.2.2.2.1 _ hv) hd (k post' hp p l e R s m args below meth c D cA ad A C H locs ls hP hD hS hl)
theorem z_iload_n {I : zI} {post : Option Value → zM → Prop} {pc : Nat} {L : List (Option Value)} {st : List Value} {M : zM} {n : Fin 4} {i : Nat} {x : Int32} (hd : decode I.2.1 pc = .ok (.iload_n n, 1)) (hi : (n : Nat) = i) (hL : L[i]? = some (some (.int x))) (k : AW I post (pc + 1) L (.int x :: st) M) : AW I post pc L (st) M := by
  intro post' hp p l e R s m args below meth c D cA ad A C H locs ls hP hD hS hl
  exact lv_iload_n C.1 C.2.1 hd hi (hl.2.2 i _ hL) (k post' hp p l e R s m args below meth c D cA ad A C H locs ls hP hD hS hl)
theorem z_iload {I : zI} {post : Option Value → zM → Prop} {pc : Nat} {L : List (Option Value)} {st : List Value} {M : zM} {i : Nat} {x : Int32} (hd : decode I.2.1 pc = .ok (.iload i, 2)) (hL : L[i]? = some (some (.int x))) (k : AW I post (pc + 2) L (.int x :: st) M) : AW I post pc L (st) M := by
  intro post' hp p l e R s m args below meth c D cA ad A C H locs ls hP hD hS hl
  exact lv_iload C.1 C.2.1 hd (hl.2.2 i _ hL) (k post' hp p l e R s m args below meth c D cA ad A C H locs ls hP hD hS hl)
theorem z_lload_n {I : zI} {post : Option Value → zM → Prop} {pc : Nat} {L : List (Option Value)} {st : List Value} {M : zM} {n : Fin 4} {i : Nat} {x : Int64} (hd : decode I.2.1 pc = .ok (.lload_n n, 1)) (hi : (n : Nat) = i) (hL : L[i]? = some (some (.long x))) (k : AW I post (pc + 1) L (.long x :: st) M) : AW I post pc L (st) M := by
  intro post' hp p l e R s m args below meth c D cA ad A C H locs ls hP hD hS hl
  exact lv_lload_n C.1 C.2.1 hd hi (hl.2.2 i _ hL) (k post' hp p l e R s m args below meth c D cA ad A C H locs ls hP hD hS hl)
theorem z_lload {I : zI} {post : Option Value → zM → Prop} {pc : Nat} {L : List (Option Value)} {st : List Value} {M : zM} {i : Nat} {x : Int64} (hd : decode I.2.1 pc = .ok (.lload i, 2)) (hL : L[i]? = some (some (.long x))) (k : AW I post (pc + 2) L (.long x :: st) M) : AW I post pc L (st) M := by
  intro post' hp p l e R s m args below meth c D cA ad A C H locs ls hP hD hS hl
  exact lv_lload C.1 C.2.1 hd (hl.2.2 i _ hL) (k post' hp p l e R s m args below meth c D cA ad A C H locs ls hP hD hS hl)
theorem z_aload_n {I : zI} {post : Option Value → zM → Prop} {pc : Nat} {L : List (Option Value)} {st : List Value} {M : zM} {n : Fin 4} {i : Nat} {x : Nat} (hd : decode I.2.1 pc = .ok (.aload_n n, 1)) (hi : (n : Nat) = i) (hL : L[i]? = some (some (.ref x))) (k : AW I post (pc + 1) L (.ref x :: st) M) : AW I post pc L (st) M := by
  intro post' hp p l e R s m args below meth c D cA ad A C H locs ls hP hD hS hl
  exact lv_aload_n C.1 C.2.1 hd hi (hl.2.2 i _ hL) (k post' hp p l e R s m args below meth c D cA ad A C H locs ls hP hD hS hl)
theorem z_aload {I : zI} {post : Option Value → zM → Prop} {pc : Nat} {L : List (Option Value)} {st : List Value} {M : zM} {i : Nat} {x : Nat} (hd : decode I.2.1 pc = .ok (.aload i, 2)) (hL : L[i]? = some (some (.ref x))) (k : AW I post (pc + 2) L (.ref x :: st) M) : AW I post pc L (st) M := by
  intro post' hp p l e R s m args below meth c D cA ad A C H locs ls hP hD hS hl
  exact lv_aload C.1 C.2.1 hd (hl.2.2 i _ hL) (k post' hp p l e R s m args below meth c D cA ad A C H locs ls hP hD hS hl)
theorem z_iadd {I : zI} {post : Option Value → zM → Prop} {pc : Nat} {L : List (Option Value)} {st : List Value} {M : zM} {x y : Int32} (hd : decode I.2.1 pc = .ok (.iadd, 1)) (k : AW I post (pc + 1) L (.int (x + y) :: st) M) : AW I post pc L (.int y :: .int x :: st) M := by
  intro post' hp p l e R s m args below meth c D cA ad A C H locs ls hP hD hS hl
  exact lv_iadd C.1 C.2.1 hd (k post' hp p l e R s m args below meth c D cA ad A C H locs ls hP hD hS hl)
theorem z_isub {I : zI} {post : Option Value → zM → Prop} {pc : Nat} {L : List (Option Value)} {st : List Value} {M : zM} {x y : Int32} (hd : decode I.2.1 pc = .ok (.isub, 1)) (k : AW I post (pc + 1) L (.int (x - y) :: st) M) : AW I post pc L (.int y :: .int x :: st) M := by
  intro post' hp p l e R s m args below meth c D cA ad A C H locs ls hP hD hS hl
  exact lv_isub C.1 C.2.1 hd (k post' hp p l e R s m args below meth c D cA ad A C H locs ls hP hD hS hl)
theorem z_imul {I : zI} {post : Option Value → zM → Prop} {pc : Nat} {L : List (Option Value)} {st : List Value} {M : zM} {x y : Int32} (hd : decode I.2.1 pc = .ok (.imul, 1)) (k : AW I post (pc + 1) L (.int (x * y) :: st) M) : AW I post pc L (.int y :: .int x :: st) M := by
  intro post' hp p l e R s m args below meth c D cA ad A C H locs ls hP hD hS hl
  exact lv_imul C.1 C.2.1 hd (k post' hp p l e R s m args below meth c D cA ad A C H locs ls hP hD hS hl)
theorem z_iand {I : zI} {post : Option Value → zM → Prop} {pc : Nat} {L : List (Option Value)} {st : List Value} {M : zM} {x y : Int32} (hd : decode I.2.1 pc = .ok (.iand, 1)) (k : AW I post (pc + 1) L (.int (x &&& y) :: st) M) : AW I post pc L (.int y :: .int x :: st) M := by
  intro post' hp p l e R s m args below meth c D cA ad A C H locs ls hP hD hS hl
  exact lv_iand C.1 C.2.1 hd (k post' hp p l e R s m args below meth c D cA ad A C H locs ls hP hD hS hl)
theorem z_ladd {I : zI} {post : Option Value → zM → Prop} {pc : Nat} {L : List (Option Value)} {st : List Value} {M : zM} {x y : Int64} (hd : decode I.2.1 pc = .ok (.ladd, 1)) (k : AW I post (pc + 1) L (.long (x + y) :: st) M) : AW I post pc L (.long y :: .long x :: st) M := by
  intro post' hp p l e R s m args below meth c D cA ad A C H locs ls hP hD hS hl
  exact lv_ladd C.1 C.2.1 hd (k post' hp p l e R s m args below meth c D cA ad A C H locs ls hP hD hS hl)
theorem z_land {I : zI} {post : Option Value → zM → Prop} {pc : Nat} {L : List (Option Value)} {st : List Value} {M : zM} {x y : Int64} (hd : decode I.2.1 pc = .ok (.land, 1)) (k : AW I post (pc + 1) L (.long (x &&& y) :: st) M) : AW I post pc L (.long y :: .long x :: st) M := by
  intro post' hp p l e R s m args below meth c D cA ad A C H locs ls hP hD hS hl
  exact lv_land C.1 C.2.1 hd (k post' hp p l e R s m args below meth c D cA ad A C H locs ls hP hD hS hl)
theorem z_lor {I : zI} {post : Option Value → zM → Prop} {pc : Nat} {L : List (Option Value)} {st : List Value} {M : zM} {x y : Int64} (hd : decode I.2.1 pc = .ok (.lor, 1)) (k : AW I post (pc + 1) L (.long (x ||| y) :: st) M) : AW I post pc L (.long y :: .long x :: st) M := by
  intro post' hp p l e R s m args below meth c D cA ad A C H locs ls hP hD hS hl
  exact lv_lor C.1 C.2.1 hd (k post' hp p l e R s m args below meth c D cA ad A C H locs ls hP hD hS hl)
theorem z_idiv {I : zI} {post : Option Value → zM → Prop} {pc : Nat} {L : List (Option Value)} {st : List Value} {M : zM} {x y : Int32} (hd : decode I.2.1 pc = .ok (.idiv, 1)) (hne : ¬ y = 0) (k : AW I post (pc + 1) L (.int (x / y) :: st) M) : AW I post pc L (.int y :: .int x :: st) M := by
  intro post' hp p l e R s m args below meth c D cA ad A C H locs ls hP hD hS hl
  exact lv_idiv C.1 C.2.1 hd hne (k post' hp p l e R s m args below meth c D cA ad A C H locs ls hP hD hS hl)
theorem z_irem {I : zI} {post : Option Value → zM → Prop} {pc : Nat} {L : List (Option Value)} {st : List Value} {M : zM} {x y : Int32} (hd : decode I.2.1 pc = .ok (.irem, 1)) (hne : ¬ y = 0) (k : AW I post (pc + 1) L (.int (x - x / y * y) :: st) M) : AW I post pc L (.int y :: .int x :: st) M := by
  intro post' hp p l e R s m args below meth c D cA ad A C H locs ls hP hD hS hl
  exact lv_irem C.1 C.2.1 hd hne (k post' hp p l e R s m args below meth c D cA ad A C H locs ls hP hD hS hl)
theorem z_lneg {I : zI} {post : Option Value → zM → Prop} {pc : Nat} {L : List (Option Value)} {st : List Value} {M : zM} {x : Int64} (hd : decode I.2.1 pc = .ok (.lneg, 1)) (k : AW I post (pc + 1) L (.long (-x) :: st) M) : AW I post pc L (.long x :: st) M := by
  intro post' hp p l e R s m args below meth c D cA ad A C H locs ls hP hD hS hl
  exact lv_lneg C.1 C.2.1 hd (k post' hp p l e R s m args below meth c D cA ad A C H locs ls hP hD hS hl)
theorem z_i2l {I : zI} {post : Option Value → zM → Prop} {pc : Nat} {L : List (Option Value)} {st : List Value} {M : zM} {x : Int32} (hd : decode I.2.1 pc = .ok (.i2l, 1)) (k : AW I post (pc + 1) L (.long x.toInt64 :: st) M) : AW I post pc L (.int x :: st) M := by
  intro post' hp p l e R s m args below meth c D cA ad A C H locs ls hP hD hS hl
  exact lv_i2l C.1 C.2.1 hd rfl (k post' hp p l e R s m args below meth c D cA ad A C H locs ls hP hD hS hl)
theorem z_l2i {I : zI} {post : Option Value → zM → Prop} {pc : Nat} {L : List (Option Value)} {st : List Value} {M : zM} {x : Int64} (hd : decode I.2.1 pc = .ok (.l2i, 1)) (k : AW I post (pc + 1) L (.int x.toInt32 :: st) M) : AW I post pc L (.long x :: st) M := by
  intro post' hp p l e R s m args below meth c D cA ad A C H locs ls hP hD hS hl
  exact lv_l2i C.1 C.2.1 hd rfl (k post' hp p l e R s m args below meth c D cA ad A C H locs ls hP hD hS hl)
theorem z_lcmp {I : zI} {post : Option Value → zM → Prop} {pc : Nat} {L : List (Option Value)} {st : List Value} {M : zM} {x y : Int64} (hd : decode I.2.1 pc = .ok (.lcmp, 1)) (k : AW I post (pc + 1) L (.int (lg_cmp x y) :: st) M) : AW I post pc L (.long y :: .long x :: st) M := by
  intro post' hp p l e R s m args below meth c D cA ad A C H locs ls hP hD hS hl
  exact W.lcmp C.1 C.2.1 hd (k post' hp p l e R s m args below meth c D cA ad A C H locs ls hP hD hS hl)
theorem z_istore_n {I : zI} {post : Option Value → zM → Prop} {pc : Nat} {L : List (Option Value)} {st : List Value} {M : zM} {n : Fin 4} {i : Nat} {x : Int32} {L2 : List (Option Value)} (hd : decode I.2.1 pc = .ok (.istore_n n, 1)) (hi : (n : Nat) = i) (hn : i < I.2.2.1) (hL : z_s1 L i (.int x) = L2) (k : AW I post (pc + 1) L2 st M) : AW I post pc L (.int x :: st) M := by
  intro post' hp p l e R s m args below meth c D cA ad A C H locs ls hP hD hS hl
  exact lv_istore_n C.1 C.2.1 hd hi (z_lv_has hl) hn rfl (fun ls' hl' => k post' hp p l e R s m args below meth c D cA ad A C H locs ls' hP hD hS (by rw [← hL]; exact z_lv_s1 (v := .int x) hl'))
theorem z_istore {I : zI} {post : Option Value → zM → Prop} {pc : Nat} {L : List (Option Value)} {st : List Value} {M : zM} {i : Nat} {x : Int32} {L2 : List (Option Value)} (hd : decode I.2.1 pc = .ok (.istore i, 2)) (hn : i < I.2.2.1) (hL : z_s1 L i (.int x) = L2) (k : AW I post (pc + 2) L2 st M) : AW I post pc L (.int x :: st) M := by
  intro post' hp p l e R s m args below meth c D cA ad A C H locs ls hP hD hS hl
  exact lv_istore C.1 C.2.1 hd (z_lv_has hl) hn rfl (fun ls' hl' => k post' hp p l e R s m args below meth c D cA ad A C H locs ls' hP hD hS (by rw [← hL]; exact z_lv_s1 (v := .int x) hl'))
theorem z_lstore_n {I : zI} {post : Option Value → zM → Prop} {pc : Nat} {L : List (Option Value)} {st : List Value} {M : zM} {n : Fin 4} {i : Nat} {x : Int64} {L2 : List (Option Value)} (hd : decode I.2.1 pc = .ok (.lstore_n n, 1)) (hi : (n : Nat) = i) (hn : i + 1 < I.2.2.1) (hL : z_s2 L i (.long x) = L2) (k : AW I post (pc + 1) L2 st M) : AW I post pc L (.long x :: st) M := by
  intro post' hp p l e R s m args below meth c D cA ad A C H locs ls hP hD hS hl
  exact lv_lstore_n C.1 C.2.1 hd hi (z_lv_has hl) hn rfl (fun ls' hl' => k post' hp p l e R s m args below meth c D cA ad A C H locs ls' hP hD hS (by rw [← hL]; exact z_lv_s2 (v := .long x) hl'))
theorem z_lstore {I : zI} {post : Option Value → zM → Prop} {pc : Nat} {L : List (Option Value)} {st : List Value} {M : zM} {i : Nat} {x : Int64} {L2 : List (Option Value)} (hd : decode I.2.1 pc = .ok (.lstore i, 2)) (hn : i + 1 < I.2.2.1) (hL : z_s2 L i (.long x) = L2) (k : AW I post (pc + 2) L2 st M) : AW I post pc L (.long x :: st) M := by
  intro post' hp p l e R s m args below meth c D cA ad A C H locs ls hP hD hS hl
  exact lv_lstore C.1 C.2.1 hd (z_lv_has hl) hn rfl (fun ls' hl' => k post' hp p l e R s m args below meth c D cA ad A C H locs ls' hP hD hS (by rw [← hL]; exact z_lv_s2 (v := .long x) hl'))
theorem z_astore_n {I : zI} {post : Option Value → zM → Prop} {pc : Nat} {L : List (Option Value)} {st : List Value} {M : zM} {n : Fin 4} {i : Nat} {x : Nat} {L2 : List (Option Value)} (hd : decode I.2.1 pc = .ok (.astore_n n, 1)) (hi : (n : Nat) = i) (hn : i < I.2.2.1) (hL : z_s1 L i (.ref x) = L2) (k : AW I post (pc + 1) L2 st M) : AW I post pc L (.ref x :: st) M := by
  intro post' hp p l e R s m args below meth c D cA ad A C H locs ls hP hD hS hl
  exact lv_astore_n C.1 C.2.1 hd hi (z_lv_has hl) hn rfl (fun ls' hl' => k post' hp p l e R s m args below meth c D cA ad A C H locs ls' hP hD hS (by rw [← hL]; exact z_lv_s1 (v := .ref x) hl'))
theorem z_astore {I : zI} {post : Option Value → zM → Prop} {pc : Nat} {L : List (Option Value)} {st : List Value} {M : zM} {i : Nat} {x : Nat} {L2 : List (Option Value)} (hd : decode I.2.1 pc = .ok (.astore i, 2)) (hn : i < I.2.2.1) (hL : z_s1 L i (.ref x) = L2) (k : AW I post (pc + 2) L2 st M) : AW I post pc L (.ref x :: st) M := by
  intro post' hp p l e R s m args below meth c D cA ad A C H locs ls hP hD hS hl
  exact lv_astore C.1 C.2.1 hd (z_lv_has hl) hn rfl (fun ls' hl' => k post' hp p l e R s m args below meth c D cA ad A C H locs ls' hP hD hS (by rw [← hL]; exact z_lv_s1 (v := .ref x) hl'))
theorem z_iinc {I : zI} {post : Option Value → zM → Prop} {pc : Nat} {L : List (Option Value)} {st : List Value} {M : zM} {i : Nat} {n : Int} {x v : Int32} {L2 : List (Option Value)} (hd : decode I.2.1 pc = .ok (.iinc i n, 3)) (hx : L[i]? = some (some (.int x))) (hv : x + Int32.ofInt n = v) (hn : i < I.2.2.1) (hL : z_s1 L i (.int v) = L2) (k : AW I post (pc + 3) L2 st M) : AW I post pc L st M := by
  intro post' hp p l e R s m args below meth c D cA ad A C H locs ls hP hD hS hl
  obtain ⟨q, hq⟩ := List.getElem?_of_mem ((z_prs_mem ad L 0 (i, .int x)).mpr ⟨i, _, hx, by simp [z_v]⟩)
  exact lv_iinc C.1 C.2.1 hd (z_lv_has hl) hq hv hn rfl (fun ls' hl' => k post' hp p l e R s m args below meth c D cA ad A C H locs ls' hP hD hS (by rw [← hL]; exact z_lv_s1 (v := .int v) hl'))
theorem z_if_eq {I : zI} {post : Option Value → zM → Prop} {pc : Nat} {L : List (Option Value)} {st : List Value} {M : zM} {x : Int32} {off : Int} (tgt : Nat) (hd : decode I.2.1 pc = .ok (.ifCond .eq off, 3)) (ht : (pc : Int) + off = (tgt : Int)) (k : (x = 0 → AW I post tgt L st M) ∧ (¬ x = 0 → AW I post (pc + 3) L st M)) : AW I post pc L (.int x :: st) M := by
  intro post' hp p l e R s m args below meth c D cA ad A C H locs ls hP hD hS hl
  exact lv_if_eq C.1 C.2.1 hd ht (fun q => k.1 q post' hp p l e R s m args below meth c D cA ad A C H locs ls hP hD hS hl) (fun q => k.2 q post' hp p l e R s m args below meth c D cA ad A C H locs ls hP hD hS hl)
theorem z_icmp_eq {I : zI} {post : Option Value → zM → Prop} {pc : Nat} {L : List (Option Value)} {st : List Value} {M : zM} {x y : Int32} {off : Int} (tgt : Nat) (hd : decode I.2.1 pc = .ok (.if_icmp .eq off, 3)) (ht : (pc : Int) + off = (tgt : Int)) (k : (x = y → AW I post tgt L st M) ∧ (¬ x = y → AW I post (pc + 3) L st M)) : AW I post pc L (.int y :: .int x :: st) M := by
  intro post' hp p l e R s m args below meth c D cA ad A C H locs ls hP hD hS hl
  exact lv_icmp_eq C.1 C.2.1 hd ht (fun q => k.1 q post' hp p l e R s m args below meth c D cA ad A C H locs ls hP hD hS hl) (fun q => k.2 q post' hp p l e R s m args below meth c D cA ad A C H locs ls hP hD hS hl)
theorem z_if_ne {I : zI} {post : Option Value → zM → Prop} {pc : Nat} {L : List (Option Value)} {st : List Value} {M : zM} {x : Int32} {off : Int} (tgt : Nat) (hd : decode I.2.1 pc = .ok (.ifCond .ne off, 3)) (ht : (pc : Int) + off = (tgt : Int)) (k : (¬ x = 0 → AW I post tgt L st M) ∧ (x = 0 → AW I post (pc + 3) L st M)) : AW I post pc L (.int x :: st) M := by
  intro post' hp p l e R s m args below meth c D cA ad A C H locs ls hP hD hS hl
  exact lv_if_ne C.1 C.2.1 hd ht (fun q => k.1 q post' hp p l e R s m args below meth c D cA ad A C H locs ls hP hD hS hl) (fun q => k.2 q post' hp p l e R s m args below meth c D cA ad A C H locs ls hP hD hS hl)
theorem z_icmp_ne {I : zI} {post : Option Value → zM → Prop} {pc : Nat} {L : List (Option Value)} {st : List Value} {M : zM} {x y : Int32} {off : Int} (tgt : Nat) (hd : decode I.2.1 pc = .ok (.if_icmp .ne off, 3)) (ht : (pc : Int) + off = (tgt : Int)) (k : (¬ x = y → AW I post tgt L st M) ∧ (x = y → AW I post (pc + 3) L st M)) : AW I post pc L (.int y :: .int x :: st) M := by
  intro post' hp p l e R s m args below meth c D cA ad A C H locs ls hP hD hS hl
  exact lv_icmp_ne C.1 C.2.1 hd ht (fun q => k.1 q post' hp p l e R s m args below meth c D cA ad A C H locs ls hP hD hS hl) (fun q => k.2 q post' hp p l e R s m args below meth c D cA ad A C H locs ls hP hD hS hl)
theorem z_if_lt {I : zI} {post : Option Value → zM → Prop} {pc : Nat} {L : List (Option Value)} {st : List Value} {M : zM} {x : Int32} {off : Int} (tgt : Nat) (hd : decode I.2.1 pc = .ok (.ifCond .lt off, 3)) (ht : (pc : Int) + off = (tgt : Int)) (k : (x < 0 → AW I post tgt L st M) ∧ (¬ x < 0 → AW I post (pc + 3) L st M)) : AW I post pc L (.int x :: st) M := by
  intro post' hp p l e R s m args below meth c D cA ad A C H locs ls hP hD hS hl
  exact lv_if_lt C.1 C.2.1 hd ht (fun q => k.1 q post' hp p l e R s m args below meth c D cA ad A C H locs ls hP hD hS hl) (fun q => k.2 q post' hp p l e R s m args below meth c D cA ad A C H locs ls hP hD hS hl)
theorem z_icmp_lt {I : zI} {post : Option Value → zM → Prop} {pc : Nat} {L : List (Option Value)} {st : List Value} {M : zM} {x y : Int32} {off : Int} (tgt : Nat) (hd : decode I.2.1 pc = .ok (.if_icmp .lt off, 3)) (ht : (pc : Int) + off = (tgt : Int)) (k : (x < y → AW I post tgt L st M) ∧ (¬ x < y → AW I post (pc + 3) L st M)) : AW I post pc L (.int y :: .int x :: st) M := by
  intro post' hp p l e R s m args below meth c D cA ad A C H locs ls hP hD hS hl
  exact lv_icmp_lt C.1 C.2.1 hd ht (fun q => k.1 q post' hp p l e R s m args below meth c D cA ad A C H locs ls hP hD hS hl) (fun q => k.2 q post' hp p l e R s m args below meth c D cA ad A C H locs ls hP hD hS hl)
theorem z_if_ge {I : zI} {post : Option Value → zM → Prop} {pc : Nat} {L : List (Option Value)} {st : List Value} {M : zM} {x : Int32} {off : Int} (tgt : Nat) (hd : decode I.2.1 pc = .ok (.ifCond .ge off, 3)) (ht : (pc : Int) + off = (tgt : Int)) (k : (0 ≤ x → AW I post tgt L st M) ∧ (¬ 0 ≤ x → AW I post (pc + 3) L st M)) : AW I post pc L (.int x :: st) M := by
  intro post' hp p l e R s m args below meth c D cA ad A C H locs ls hP hD hS hl
  exact lv_if_ge C.1 C.2.1 hd ht (fun q => k.1 q post' hp p l e R s m args below meth c D cA ad A C H locs ls hP hD hS hl) (fun q => k.2 q post' hp p l e R s m args below meth c D cA ad A C H locs ls hP hD hS hl)
theorem z_icmp_ge {I : zI} {post : Option Value → zM → Prop} {pc : Nat} {L : List (Option Value)} {st : List Value} {M : zM} {x y : Int32} {off : Int} (tgt : Nat) (hd : decode I.2.1 pc = .ok (.if_icmp .ge off, 3)) (ht : (pc : Int) + off = (tgt : Int)) (k : (y ≤ x → AW I post tgt L st M) ∧ (¬ y ≤ x → AW I post (pc + 3) L st M)) : AW I post pc L (.int y :: .int x :: st) M := by
  intro post' hp p l e R s m args below meth c D cA ad A C H locs ls hP hD hS hl
  exact lv_icmp_ge C.1 C.2.1 hd ht (fun q => k.1 q post' hp p l e R s m args below meth c D cA ad A C H locs ls hP hD hS hl) (fun q => k.2 q post' hp p l e R s m args below meth c D cA ad A C H locs ls hP hD hS hl)
theorem z_if_gt {I : zI} {post : Option Value → zM → Prop} {pc : Nat} {L : List (Option Value)} {st : List Value} {M : zM} {x : Int32} {off : Int} (tgt : Nat) (hd : decode I.2.1 pc = .ok (.ifCond .gt off, 3)) (ht : (pc : Int) + off = (tgt : Int)) (k : (0 < x → AW I post tgt L st M) ∧ (¬ 0 < x → AW I post (pc + 3) L st M)) : AW I post pc L (.int x :: st) M := by
  intro post' hp p l e R s m args below meth c D cA ad A C H locs ls hP hD hS hl
  exact lv_if_gt C.1 C.2.1 hd ht (fun q => k.1 q post' hp p l e R s m args below meth c D cA ad A C H locs ls hP hD hS hl) (fun q => k.2 q post' hp p l e R s m args below meth c D cA ad A C H locs ls hP hD hS hl)
theorem z_icmp_gt {I : zI} {post : Option Value → zM → Prop} {pc : Nat} {L : List (Option Value)} {st : List Value} {M : zM} {x y : Int32} {off : Int} (tgt : Nat) (hd : decode I.2.1 pc = .ok (.if_icmp .gt off, 3)) (ht : (pc : Int) + off = (tgt : Int)) (k : (y < x → AW I post tgt L st M) ∧ (¬ y < x → AW I post (pc + 3) L st M)) : AW I post pc L (.int y :: .int x :: st) M := by
  intro post' hp p l e R s m args below meth c D cA ad A C H locs ls hP hD hS hl
  exact lv_icmp_gt C.1 C.2.1 hd ht (fun q => k.1 q post' hp p l e R s m args below meth c D cA ad A C H locs ls hP hD hS hl) (fun q => k.2 q post' hp p l e R s m args below meth c D cA ad A C H locs ls hP hD hS hl)
theorem z_if_le {I : zI} {post : Option Value → zM → Prop} {pc : Nat} {L : List (Option Value)} {st : List Value} {M : zM} {x : Int32} {off : Int} (tgt : Nat) (hd : decode I.2.1 pc = .ok (.ifCond .le off, 3)) (ht : (pc : Int) + off = (tgt : Int)) (k : (x ≤ 0 → AW I post tgt L st M) ∧ (¬ x ≤ 0 → AW I post (pc + 3) L st M)) : AW I post pc L (.int x :: st) M := by
  intro post' hp p l e R s m args below meth c D cA ad A C H locs ls hP hD hS hl
  exact lv_if_le C.1 C.2.1 hd ht (fun q => k.1 q post' hp p l e R s m args below meth c D cA ad A C H locs ls hP hD hS hl) (fun q => k.2 q post' hp p l e R s m args below meth c D cA ad A C H locs ls hP hD hS hl)
theorem z_icmp_le {I : zI} {post : Option Value → zM → Prop} {pc : Nat} {L : List (Option Value)} {st : List Value} {M : zM} {x y : Int32} {off : Int} (tgt : Nat) (hd : decode I.2.1 pc = .ok (.if_icmp .le off, 3)) (ht : (pc : Int) + off = (tgt : Int)) (k : (x ≤ y → AW I post tgt L st M) ∧ (¬ x ≤ y → AW I post (pc + 3) L st M)) : AW I post pc L (.int y :: .int x :: st) M := by
  intro post' hp p l e R s m args below meth c D cA ad A C H locs ls hP hD hS hl
  exact lv_icmp_le C.1 C.2.1 hd ht (fun q => k.1 q post' hp p l e R s m args below meth c D cA ad A C H locs ls hP hD hS hl) (fun q => k.2 q post' hp p l e R s m args below meth c D cA ad A C H locs ls hP hD hS hl)
theorem z_goto {I : zI} {post : Option Value → zM → Prop} {pc : Nat} {L : List (Option Value)} {st : List Value} {M : zM} {off : Int} (tgt : Nat) (hd : decode I.2.1 pc = .ok (.goto off, 3)) (ht : (pc : Int) + off = (tgt : Int)) (k : AW I post tgt L st M) : AW I post pc L st M := by
  intro post' hp p l e R s m args below meth c D cA ad A C H locs ls hP hD hS hl
  exact lv_goto C.1 C.2.1 hd ht (k post' hp p l e R s m args below meth c D cA ad A C H locs ls hP hD hS hl)
theorem z_dup {I : zI} {post : Option Value → zM → Prop} {pc : Nat} {L : List (Option Value)} {st : List Value} {M : zM} {v : Value} (hd : decode I.2.1 pc = .ok (.dup, 1)) (hv : v.category = 1) (k : AW I post (pc + 1) L (v :: v :: st) M) : AW I post pc L (v :: st) M := by
  intro post' hp p l e R s m args below meth c D cA ad A C H locs ls hP hD hS hl
  exact lv_dup C.1 C.2.1 hd (by rw [z_v_cat]; exact hv) (k post' hp p l e R s m args below meth c D cA ad A C H locs ls hP hD hS hl)
theorem z_pop {I : zI} {post : Option Value → zM → Prop} {pc : Nat} {L : List (Option Value)} {st : List Value} {M : zM} {v : Value} (hd : decode I.2.1 pc = .ok (.pop, 1)) (hv : v.category = 1) (k : AW I post (pc + 1) L (st) M) : AW I post pc L (v :: st) M := by
  intro post' hp p l e R s m args below meth c D cA ad A C H locs ls hP hD hS hl
  exact lv_pop C.1 C.2.1 hd (by rw [z_v_cat]; exact hv) (k post' hp p l e R s m args below meth c D cA ad A C H locs ls hP hD hS hl)
theorem z_dup_x1 {I : zI} {post : Option Value → zM → Prop} {pc : Nat} {L : List (Option Value)} {st : List Value} {M : zM} {v u : Value} (hd : decode I.2.1 pc = .ok (.dup_x1, 1)) (hv : v.category = 1) (hu : u.category = 1) (k : AW I post (pc + 1) L (v :: u :: v :: st) M) : AW I post pc L (v :: u :: st) M := by
  intro post' hp p l e R s m args below meth c D cA ad A C H locs ls hP hD hS hl
  exact lv_dup_x1 C.1 C.2.1 hd (by rw [z_v_cat]; exact hv) (by rw [z_v_cat]; exact hu) (k post' hp p l e R s m args below meth c D cA ad A C H locs ls hP hD hS hl)
theorem z_dup_x2 {I : zI} {post : Option Value → zM → Prop} {pc : Nat} {L : List (Option Value)} {st : List Value} {M : zM} {v u t : Value} (hd : decode I.2.1 pc = .ok (.dup_x2, 1)) (hv : v.category = 1) (hu : u.category = 1) (ht : t.category = 1) (k : AW I post (pc + 1) L (v :: u :: t :: v :: st) M) : AW I post pc L (v :: u :: t :: st) M := by
  intro post' hp p l e R s m args below meth c D cA ad A C H locs ls hP hD hS hl
  exact lv_dup_x2 C.1 C.2.1 hd (by rw [z_v_cat]; exact hv) (by rw [z_v_cat]; exact hu) (by rw [z_v_cat]; exact ht) (k post' hp p l e R s m args below meth c D cA ad A C H locs ls hP hD hS hl)
theorem z_dup2 {I : zI} {post : Option Value → zM → Prop} {pc : Nat} {L : List (Option Value)} {st : List Value} {M : zM} {v u : Value} (hd : decode I.2.1 pc = .ok (.dup2, 1)) (hv : v.category = 1) (hu : u.category = 1) (k : AW I post (pc + 1) L (v :: u :: v :: u :: st) M) : AW I post pc L (v :: u :: st) M := by
  intro post' hp p l e R s m args below meth c D cA ad A C H locs ls hP hD hS hl
  exact lv_dup2_11 C.1 C.2.1 hd (by rw [z_v_cat]; exact hv) (by rw [z_v_cat]; exact hu) (k post' hp p l e R s m args below meth c D cA ad A C H locs ls hP hD hS hl)
theorem z_case {I : zI} {post : Option Value → zM → Prop} {pc : Nat} {L : List (Option Value)} {st : List Value} {M : zM} (v x : Int32) (k : (x = v → AW I post pc L st M) ∧ (¬ x = v → AW I post pc L st M)) : AW I post pc L st M := by
  by_cases h : x = v
  · exact k.1 h
  · exact k.2 h
theorem z_tin {I : zI} {post : Option Value → zM → Prop} {pc : Nat} {L : List (Option Value)} {st : List Value} {M : zM} {dflt lo hi : Int} {offs : Array Int} {len : Nat} {x : Int32} {off : Int} (tgt : Nat) (hd : decode I.2.1 pc = .ok (.tableswitch dflt lo hi offs, len)) (h1 : ¬ x.toInt < lo) (h2 : ¬ hi < x.toInt) (ho : offs[(x.toInt - lo).toNat]? = some off) (ht : (pc : Int) + off = (tgt : Int)) (k : AW I post tgt L st M) : AW I post pc L (.int x :: st) M := by
  intro post' hp p l e R s m args below meth c D cA ad A C H locs ls hP hD hS hl
  exact lv_tableIn C.1 C.2.1 hd h1 h2 ho ht (k post' hp p l e R s m args below meth c D cA ad A C H locs ls hP hD hS hl)
theorem z_tout {I : zI} {post : Option Value → zM → Prop} {pc : Nat} {L : List (Option Value)} {st : List Value} {M : zM} {dflt lo hi : Int} {offs : Array Int} {len : Nat} {x : Int32} (tgt : Nat) (hd : decode I.2.1 pc = .ok (.tableswitch dflt lo hi offs, len)) (h : x.toInt < lo ∨ hi < x.toInt) (ht : (pc : Int) + dflt = (tgt : Int)) (k : AW I post tgt L st M) : AW I post pc L (.int x :: st) M := by
  intro post' hp p l e R s m args below meth c D cA ad A C H locs ls hP hD hS hl
  exact lv_tableOut C.1 C.2.1 hd h ht (k post' hp p l e R s m args below meth c D cA ad A C H locs ls hP hD hS hl)
theorem z_lkp {I : zI} {post : Option Value → zM → Prop} {pc : Nat} {L : List (Option Value)} {st : List Value} {M : zM} {dflt : Int} {ps : Array (Int × Int)} {len : Nat} {x : Int32} {off : Int} (tgt : Nat) (hd : decode I.2.1 pc = .ok (.lookupswitch dflt ps, len)) (hq : (ps.toList.zip (ps.toList.drop 1)).all (fun (a, next) => a.1 < next.1) = true) (ho : Op.lookupswitch.offset ps.toList dflt x.toInt = off) (ht : (pc : Int) + off = (tgt : Int)) (k : AW I post tgt L st M) : AW I post pc L (.int x :: st) M := by
  intro post' hp p l e R s m args below meth c D cA ad A C H locs ls hP hD hS hl
  exact lv_lookup C.1 C.2.1 hd hq ho ht (k post' hp p l e R s m args below meth c D cA ad A C H locs ls hP hD hS hl)
def z_fl (own : String) (idx ci k : Nat) : Prop := ∃ (C : String) (T : u_T) (N : Nat), zcl[ci]? = some (C, T, N) ∧ k < N ∧ Cond.fieldLink own idx (T k).1 (T k).2.1 (T k).2.2.1 ∈ zgw ∧ ∀ w ∈ u_ws C T N, w ∈ zgw
def z_fw (own : String) (idx ci k : Nat) : Prop := ∃ (C : String) (T : u_T) (N : Nat) (ty : Nat → FieldType), zcl[ci]? = some (C, T, N) ∧ k < N ∧ Cond.fieldLink own idx (T k).1 (T k).2.1 (T k).2.2.1 ∈ zgw ∧ (∀ w ∈ u_ws C T N, w ∈ zgw) ∧ (∀ k, k < N → parseFieldDescriptor (T k).2.2.1 = some (ty k)) ∧ (∀ a, a < N → ∀ b, b < N → a ≠ b → (T a).2.1 ≠ (T b).2.1) ∧ (T k).2.2.2 = false ∧ ty k = .int
theorem z_geti {I : zI} {post : Option Value → zM → Prop} {pc : Nat} {L : List (Option Value)} {st : List Value} {M : zM} {idx ci k o v : Nat} {fs : List (Nat ⊕ Nat)} (hd : decode I.2.1 pc = .ok (.getfield idx, 3)) (hf : z_fl I.2.2.2.2.1 idx ci k) (ho : (z_lay I)[o]? = some (.inl (ci, fs))) (hk : fs[k]? = some (.inr v)) (k : AW I post (pc + 3) L (.int (M.1 v) :: st) M) : AW I post pc L (.ref o :: st) M := by
  intro post' hp p l e R s m args below meth c D cA ad A C H locs ls hP hD hS hl
  obtain ⟨CC, T, N, h1, h2, h3, h4⟩ := hf
  exact va_get C.1 C.2.1 C.2.2.2.2.2.2.1 h4 C.2.2.2.2.2.1 C.2.2.2.2.2.2.2.1 hP o (z_w_at ho) h1 _ h2 (C.2.2.2.2.2.2.1 _ h3) (fun _ h9 => h9) (by rw [List.getElem?_map, hk]; rfl) hd (k post' hp p l e R s m args below meth c D cA ad A C H locs ls hP hD hS hl)
theorem z_getr {I : zI} {post : Option Value → zM → Prop} {pc : Nat} {L : List (Option Value)} {st : List Value} {M : zM} {idx ci k o v : Nat} {fs : List (Nat ⊕ Nat)} (hd : decode I.2.1 pc = .ok (.getfield idx, 3)) (hf : z_fl I.2.2.2.2.1 idx ci k) (ho : (z_lay I)[o]? = some (.inl (ci, fs))) (hk : fs[k]? = some (.inl v)) (k : AW I post (pc + 3) L (.ref v :: st) M) : AW I post pc L (.ref o :: st) M := by
  intro post' hp p l e R s m args below meth c D cA ad A C H locs ls hP hD hS hl
  obtain ⟨CC, T, N, h1, h2, h3, h4⟩ := hf
  exact va_get C.1 C.2.1 C.2.2.2.2.2.2.1 h4 C.2.2.2.2.2.1 C.2.2.2.2.2.2.2.1 hP o (z_w_at ho) h1 _ h2 (C.2.2.2.2.2.2.1 _ h3) (fun _ h9 => h9) (by rw [List.getElem?_map, hk]; rfl) hd (k post' hp p l e R s m args below meth c D cA ad A C H locs ls hP hD hS hl)
theorem z_puti {I : zI} {post : Option Value → zM → Prop} {pc : Nat} {L : List (Option Value)} {st : List Value} {M : zM} {idx ci k o v : Nat} {x : Int32} {fs : List (Nat ⊕ Nat)} (hd : decode I.2.1 pc = .ok (.putfield idx, 3)) (hf : z_fw I.2.2.2.2.1 idx ci k) (ho : (z_lay I)[o]? = some (.inl (ci, fs))) (hk : fs[k]? = some (.inr v)) (k : AW I post (pc + 3) L st (upd M.1 v x, M.2)) : AW I post pc L (.int x :: .ref o :: st) M := by
  intro post' hp p l e R s m args below meth c D cA ad A C H locs ls hP hD hS hl
  obtain ⟨CC, T, N, ty, h1, h2, h3, h4, h5, h6, h7, h8⟩ := hf
  obtain ⟨iF, iI, iJ, hu⟩ := z_unI I
  have hkl := (List.getElem?_eq_some_iff.mp hk).1
  refine va_put C.1 C.2.1 C.2.2.2.2.2.2.1 h4 ty h5 h6 C.2.2.2.2.2.1 C.2.2.2.2.2.2.2.1 hP hD hS o (z_w_at ho) h1 _ h2 (C.2.2.2.2.2.2.1 _ h3) (fun _ h9 => h9) h7 (ty := .int) (v := .int x) (by rw [h5 _ h2, h8]) rfl rfl (by simpa using hkl) hd (fun H1 locs1 hP1 hD1 hS1 => ?_)
  rw [z_w_putF hu ho hk] at hP1 hD1
  exact k post' hp p l e R s m args below meth c D cA ad A C H1 locs1 ls hP1 hD1 hS1 hl
theorem z_iald {I : zI} {post : Option Value → zM → Prop} {pc : Nat} {L : List (Option Value)} {st : List Value} {M : zM} {o n id : Nat} {i : Int32} (hd : decode I.2.1 pc = .ok (.iaload, 1)) (ho : (z_lay I)[o]? = some (.inr (0, n, id))) (k : vp_in i n ∧ AW I post (pc + 1) L (.int (M.2.1 id i.toNatClampNeg) :: st) M) : AW I post pc L (.int i :: .ref o :: st) M := by
  obtain ⟨hi, k⟩ := k
  intro post' hp p l e R s m args below meth c D cA ad A C H locs ls hP hD hS hl
  exact va_iald C.1 C.2.1 C.2.2.2.2.2.2.2.1 hP o 0 (z_w_at ho) rfl hi hd (k post' hp p l e R s m args below meth c D cA ad A C H locs ls hP hD hS hl)
theorem z_zald {I : zI} {post : Option Value → zM → Prop} {pc : Nat} {L : List (Option Value)} {st : List Value} {M : zM} {o n id : Nat} {i : Int32} (hd : decode I.2.1 pc = .ok (.baload, 1)) (ho : (z_lay I)[o]? = some (.inr (1, n, id))) (k : vp_in i n ∧ AW I post (pc + 1) L (.int (M.2.1 id i.toNatClampNeg) :: st) M) : AW I post pc L (.int i :: .ref o :: st) M := by
  obtain ⟨hi, k⟩ := k
  intro post' hp p l e R s m args below meth c D cA ad A C H locs ls hP hD hS hl
  exact va_zald C.1 C.2.1 C.2.2.2.2.2.2.2.1 hP o 1 (z_w_at ho) rfl hi hd (k post' hp p l e R s m args below meth c D cA ad A C H locs ls hP hD hS hl)
theorem z_lald {I : zI} {post : Option Value → zM → Prop} {pc : Nat} {L : List (Option Value)} {st : List Value} {M : zM} {o n id : Nat} {i : Int32} (hd : decode I.2.1 pc = .ok (.laload, 1)) (ho : (z_lay I)[o]? = some (.inr (2, n, id))) (k : vp_in i n ∧ AW I post (pc + 1) L (.long (M.2.2 id i.toNatClampNeg) :: st) M) : AW I post pc L (.int i :: .ref o :: st) M := by
  obtain ⟨hi, k⟩ := k
  intro post' hp p l e R s m args below meth c D cA ad A C H locs ls hP hD hS hl
  exact va_lald C.1 C.2.1 C.2.2.2.2.2.2.2.1 hP o 2 (z_w_at ho) rfl hi hd (k post' hp p l e R s m args below meth c D cA ad A C H locs ls hP hD hS hl)
theorem z_aald {I : zI} {post : Option Value → zM → Prop} {pc : Nat} {L : List (Option Value)} {st : List Value} {M : zM} {o n id : Nat} {i : Int32} (hd : decode I.2.1 pc = .ok (.aaload, 1)) (ho : (z_lay I)[o]? = some (.inr (3, n, id))) (k : vp_in i n ∧ AW I post (pc + 1) L (.ref (id + 2 * i.toNatClampNeg) :: st) M) : AW I post pc L (.int i :: .ref o :: st) M := by
  obtain ⟨hi, k⟩ := k
  intro post' hp p l e R s m args below meth c D cA ad A C H locs ls hP hD hS hl
  exact va_aldq C.1 C.2.1 C.2.2.2.2.2.2.2.1 hP o 3 (z_w_at ho) rfl hi hd (k post' hp p l e R s m args below meth c D cA ad A C H locs ls hP hD hS hl)
theorem z_iast {I : zI} {post : Option Value → zM → Prop} {pc : Nat} {L : List (Option Value)} {st : List Value} {M : zM} {o n id : Nat} {i : Int32} {x : Int32} (hd : decode I.2.1 pc = .ok (.iastore, 1)) (ho : (z_lay I)[o]? = some (.inr (0, n, id))) (k : vp_in i n ∧ AW I post (pc + 1) L st (M.1, z_ui M.2.1 id i.toNatClampNeg x, M.2.2)) : AW I post pc L (.int x :: .int i :: .ref o :: st) M := by
  obtain ⟨hi, k⟩ := k
  intro post' hp p l e R s m args below meth c D cA ad A C H locs ls hP hD hS hl
  obtain ⟨iF, iI, iJ, hu⟩ := z_unI I
  refine va_iast C.1 C.2.1 C.2.2.2.2.2.2.2.1 hP hD hS o 0 (z_w_at ho) rfl hi hd (fun H1 locs1 hP1 hD1 hS1 => ?_)
  have ee := z_w_putI hu ho (by decide) (by decide) (cA := cA) (ad := ad) (M := M) (i.toNatClampNeg) (x)
  have hP2 : va_P D zcl (z_w (z_lay I) cA ad _) H1 := ee ▸ hP1
  have hD2 : va_D A (z_w (z_lay I) cA ad _) := ee ▸ hD1
  exact k post' hp p l e R s m args below meth c D cA ad A C H1 locs1 ls hP2 hD2 hS1 hl
theorem z_zast {I : zI} {post : Option Value → zM → Prop} {pc : Nat} {L : List (Option Value)} {st : List Value} {M : zM} {o n id : Nat} {i : Int32} {x : Int32} {x2 : Int32} (hx : vp_nar .boolean x = x2) (hd : decode I.2.1 pc = .ok (.bastore, 1)) (ho : (z_lay I)[o]? = some (.inr (1, n, id))) (k : vp_in i n ∧ AW I post (pc + 1) L st (M.1, z_ui M.2.1 id i.toNatClampNeg x2, M.2.2)) : AW I post pc L (.int x :: .int i :: .ref o :: st) M := by
  obtain ⟨hi, k⟩ := k
  subst hx
  intro post' hp p l e R s m args below meth c D cA ad A C H locs ls hP hD hS hl
  obtain ⟨iF, iI, iJ, hu⟩ := z_unI I
  refine va_zast C.1 C.2.1 C.2.2.2.2.2.2.2.1 hP hD hS o 1 (z_w_at ho) rfl hi hd (fun H1 locs1 hP1 hD1 hS1 => ?_)
  have ee := z_w_putI hu ho (by decide) (by decide) (cA := cA) (ad := ad) (M := M) (i.toNatClampNeg) (vp_nar .boolean x)
  have hP2 : va_P D zcl (z_w (z_lay I) cA ad _) H1 := ee ▸ hP1
  have hD2 : va_D A (z_w (z_lay I) cA ad _) := ee ▸ hD1
  exact k post' hp p l e R s m args below meth c D cA ad A C H1 locs1 ls hP2 hD2 hS1 hl
theorem z_last {I : zI} {post : Option Value → zM → Prop} {pc : Nat} {L : List (Option Value)} {st : List Value} {M : zM} {o n id : Nat} {i : Int32} {x : Int64} (hd : decode I.2.1 pc = .ok (.lastore, 1)) (ho : (z_lay I)[o]? = some (.inr (2, n, id))) (k : vp_in i n ∧ AW I post (pc + 1) L st (M.1, M.2.1, z_ul M.2.2 id i.toNatClampNeg x)) : AW I post pc L (.long x :: .int i :: .ref o :: st) M := by
  obtain ⟨hi, k⟩ := k
  intro post' hp p l e R s m args below meth c D cA ad A C H locs ls hP hD hS hl
  obtain ⟨iF, iI, iJ, hu⟩ := z_unI I
  refine va_last C.1 C.2.1 C.2.2.2.2.2.2.2.1 hP hD hS o 2 (z_w_at ho) rfl hi hd (fun H1 locs1 hP1 hD1 hS1 => ?_)
  have ee := z_w_putJ hu ho (cA := cA) (ad := ad) (M := M) (i.toNatClampNeg) (x)
  have hP2 : va_P D zcl (z_w (z_lay I) cA ad _) H1 := ee ▸ hP1
  have hD2 : va_D A (z_w (z_lay I) cA ad _) := ee ▸ hD1
  exact k post' hp p l e R s m args below meth c D cA ad A C H1 locs1 ls hP2 hD2 hS1 hl
theorem z_alen {I : zI} {post : Option Value → zM → Prop} {pc : Nat} {L : List (Option Value)} {st : List Value} {M : zM} {o n id kd : Nat} {v : Int32} (hd : decode I.2.1 pc = .ok (.arraylength, 1)) (ho : (z_lay I)[o]? = some (.inr (kd, n, id))) (hk : kd < 4) (hv : Int32.ofNat n = v) (k : AW I post (pc + 1) L (.int v :: st) M) : AW I post pc L (.ref o :: st) M := by
  intro post' hp p l e R s m args below meth c D cA ad A C H locs ls hP hD hS hl
  obtain ⟨ty, hty⟩ : ∃ ty, (z_tys cA)[kd]? = some (cA kd, ty) := by
    rcases (show kd = 0 ∨ kd = 1 ∨ kd = 2 ∨ kd = 3 by omega) with rfl | rfl | rfl | rfl <;> exact ⟨_, rfl⟩
  exact va_alen C.1 C.2.1 C.2.2.2.2.2.2.2.1 hP o kd (z_w_at ho) hty hv hd (k post' hp p l e R s m args below meth c D cA ad A C H locs ls hP hD hS hl)
theorem z_ireturn {I : zI} {post : Option Value → zM → Prop} {pc : Nat} {L : List (Option Value)} {st : List Value} {M : zM} {x : Int32} (hr : I.2.2.2.1 = some .int) (hd : decode I.2.1 pc = .ok (.ireturn, 1)) (k : post (some (.int x)) M) : AW I post pc L [.int x] M := by
  intro post' hp p l e R s m args below meth c D cA ad A C H locs ls hP hD hS hl
  exact W.iret C.1 C.2.1 (C.2.2.2.1.trans hr) (fun t ht hW => ⟨⟨some (.int x), M, hp _ _ k, rfl, by rw [ht]; exact hP, va_K.moved hW.alike C.2.2.2.2.2.2.2.1, hD⟩, hS.F ht⟩) hS.2.2 hd C.2.2.2.2.1
theorem z_zreturn {I : zI} {post : Option Value → zM → Prop} {pc : Nat} {L : List (Option Value)} {st : List Value} {M : zM} {x : Int32} (hr : I.2.2.2.1 = some .boolean) (hn : narrow .boolean (.int x) = .int x) (hd : decode I.2.1 pc = .ok (.ireturn, 1)) (k : post (some (.int x)) M) : AW I post pc L [.int x] M := by
  intro post' hp p l e R s m args below meth c D cA ad A C H locs ls hP hD hS hl
  exact W.zret C.1 C.2.1 (C.2.2.2.1.trans hr) hn (fun t ht hW => ⟨⟨some (.int x), M, hp _ _ k, rfl, by rw [ht]; exact hP, va_K.moved hW.alike C.2.2.2.2.2.2.2.1, hD⟩, hS.F ht⟩) hS.2.2 hd C.2.2.2.2.1
theorem z_lreturn {I : zI} {post : Option Value → zM → Prop} {pc : Nat} {L : List (Option Value)} {st : List Value} {M : zM} {x : Int64} (hr : I.2.2.2.1 = some .long) (hd : decode I.2.1 pc = .ok (.lreturn, 1)) (k : post (some (.long x)) M) : AW I post pc L [.long x] M := by
  intro post' hp p l e R s m args below meth c D cA ad A C H locs ls hP hD hS hl
  exact W.lret C.1 C.2.1 (C.2.2.2.1.trans hr) (fun t ht hW => ⟨⟨some (.long x), M, hp _ _ k, rfl, by rw [ht]; exact hP, va_K.moved hW.alike C.2.2.2.2.2.2.2.1, hD⟩, hS.F ht⟩) hS.2.2 hd C.2.2.2.2.1
theorem z_areturn {I : zI} {post : Option Value → zM → Prop} {pc : Nat} {L : List (Option Value)} {st : List Value} {M : zM} {x : Nat} {cn : String} (hr : I.2.2.2.1 = some (.object cn)) (hd : decode I.2.1 pc = .ok (.areturn, 1)) (k : post (some (.ref x)) M) : AW I post pc L [.ref x] M := by
  intro post' hp p l e R s m args below meth c D cA ad A C H locs ls hP hD hS hl
  exact W.aret C.1 C.2.1 (C.2.2.2.1.trans hr) (Or.inl ⟨_, rfl⟩) (Or.inr ⟨_, rfl⟩) (fun t ht hW => ⟨⟨some (.ref x), M, hp _ _ k, rfl, by rw [ht]; exact hP, va_K.moved hW.alike C.2.2.2.2.2.2.2.1, hD⟩, hS.F ht⟩) hS.2.2 hd C.2.2.2.2.1
theorem z_return {I : zI} {post : Option Value → zM → Prop} {pc : Nat} {L : List (Option Value)} {st : List Value} {M : zM} (hr : I.2.2.2.1 = none) (hd : decode I.2.1 pc = .ok (.return_, 1)) (k : post (none) M) : AW I post pc L [] M := by
  intro post' hp p l e R s m args below meth c D cA ad A C H locs ls hP hD hS hl
  exact W.vret C.1 C.2.1 (C.2.2.2.1.trans hr) (fun t ht hW => ⟨⟨none, M, hp _ _ k, rfl, by rw [ht]; exact hP, va_K.moved hW.alike C.2.2.2.2.2.2.2.1, hD⟩, hS.F ht⟩) hS.2.2 hd C.2.2.2.2.1
theorem z_csum (ad : Nat → Nat) (st : List Value) : ((st.map (z_v ad)).map fun v => v.category).sum = (st.map fun v => v.category).sum := by
  rw [List.map_map]
  congr 1
  apply List.map_congr_left
  intro v _
  exact z_v_cat ad v
def z_ml (own : String) (idx : Nat) (I2 : zI) (ci n : Nat) : Prop := (∀ w ∈ wsV own idx I2.1.cls I2.1 [.code I2.1 I2.2.1 I2.2.2.1 I2.2.2.2.1], w ∈ zgw) ∧ (∃ T N, zcl[ci]? = some (I2.1.cls, T, N)) ∧ I2.1.cls ≠ "java/lang/invoke/MethodHandle" ∧ I2.1.cls ≠ "java/lang/invoke/VarHandle" ∧ (parseMethodDescriptor I2.1.desc).map (fun d => d.parameters.length) = some n ∧ I2.2.2.1 ≤ 13
def z_ms (own : String) (idx : Nat) (I2 : zI) (n : Nat) : Prop := (∀ w ∈ va_wsS own idx I2.1 [.code I2.1 I2.2.1 I2.2.2.1 I2.2.2.2.1], w ∈ zgw) ∧ I2.1.cls ≠ "java/lang/invoke/MethodHandle" ∧ I2.1.cls ≠ "java/lang/invoke/VarHandle" ∧ (parseMethodDescriptor I2.1.desc).map (fun d => d.parameters.length) = some n ∧ I2.2.2.1 ≤ 13
theorem z_blind {av : List Value} {D : va_G} {cA : Nat → ClassId} {w : va_W} {sz : Nat} : FrameBlind (va_Pc av (fun U => U.heap.size = sz ∧ va_P D zcl w U.heap ∧ va_K D zcl (z_tys cA) U ∧ va_D (fun _ => True) w)) := fun a U g mk q => by
  obtain ⟨q0, q1, qP, qK, qD⟩ := q
  exact ⟨q0, q1, qP, va_K.moved (u := U) (U := U.calling g mk a) (Vm.Alike.refl U.vm) qK, qD⟩
theorem z_after {I : zI} {post : Option Value → zM → Prop} {pc : Nat} {L : List (Option Value)} {st : List Value} {M : zM} {I2 : zI} (hw : z_lay I2 = z_lay I) {post' : Option Value → zM → Prop} (hp : ∀ r M, post r M → post' r M) {p : Program} {l : Launch} {e : Env} {R : Room} {s : State} {m : MethodId} {args : Array Value} {below : List Frame} {meth : Method} {c : Code} {D : va_G} {cA : Nat → ClassId} {ad : Nat → Nat} {A : Nat → Prop} (C : z_cx I p R s m args meth c D cA A) {H : Heap} {locs : List Loc} {ls : Array Slot} (hP : va_P D zcl (z_w (z_lay I) cA ad M) H) (hD : va_D A (z_w (z_lay I) cA ad M)) (hS : va_S A s.heap H locs) (hl : z_lv ls I.2.2.1 ad L) {stk : List Value} {a : Array Value}
    (run : va_Run p l e R s m args below meth c H locs 0 0 0 0 (F0 m pc ls stk) (st.map (z_v ad)) (z_Q I2 (fun r M' => AW I post (pc + 3) L (r.toList ++ st) M') D cA ad (va_A (z_w (z_lay I2) cA ad M) H.size) a) (va_A (z_w (z_lay I2) cA ad M) H.size)) :
    W p l e R s m args below meth c H locs 0 0 (MQ below (z_Q I post' D cA ad A) args s 0 0 A) (F0 m pc ls stk) := by
  rw [hw] at run
  have hF : ∀ q, va_A (z_w (z_lay I) cA ad M) H.size q → A q := by
    intro q h
    rcases h with ⟨k, e, hk⟩ | h
    · exact hD.2 k _ hk
    · exact C.2.2.2.2.2.2.2.2.1 q (Nat.le_trans hS.1 h)
  intro T hT X
  obtain ⟨v, st₀, t, T', L', h0, X', hL, e1, e2, ⟨⟨r, M', hpost, hv, hP1, hK1, hD1⟩, hz, hk⟩, st'⟩ := run T hT X
  rw [hw] at hP1 hD1
  have hv' : v = r.map (z_v ad) := by cases hv; rfl
  subst hv'
  rw [h0] at hz hk
  have hS2 : va_S A s.heap T'.heap (locs ++ L') := ⟨Nat.le_trans hS.1 (by rw [e1]; exact hz), fun q h1 h2 => by rw [e1, hk q (Nat.lt_of_lt_of_le h1 hS.1) (fun z => h2 (hF q z))]; exact hS.2.1 q h1 h2, fun q hq => by
      rcases List.mem_append.mp hq with h | h
      · exact hS.2.2 q h
      · exact hF _ (hL q h)⟩
  obtain ⟨t2, a1, b1⟩ := hpost post' hp p l e R s m args below meth c D cA ad A C T'.heap (locs ++ L') ls (by rw [e1]; exact hP1) (hD1.weaken (fun k q _ h => hF q.1 h)) hS2 hl T' rfl X'
  refine ⟨t2, st' t2 ?_, b1⟩
  have e3 : List.map (z_v ad) (r.toList ++ st) = (r.map (z_v ad)).toList ++ List.map (z_v ad) st := by cases r <;> simp
  rw [e3] at a1
  exact a1
theorem z_call {I : zI} {post : Option Value → zM → Prop} {pc : Nat} {L : List (Option Value)} {st : List Value} {M : zM} {I2 : zI} {idx ci n o : Nat} {fs : List (Nat ⊕ Nat)} (As : List Value) (hd : decode I.2.1 pc = .ok (.invokevirtual idx, 3)) (hm : z_ml I.2.2.2.2.1 idx I2 ci n) (hw : z_lay I2 = z_lay I) (hr : I2.2.2.2.2.2.1 < I.2.2.2.2.2.1) (ho : (z_lay I)[o]? = some (.inl (ci, fs))) (hn : As.length = n) (hst : (st.map fun v => v.category).sum ≤ 8) (k : AMet I2 (.ref o :: As) M (fun r M' => AW I post (pc + 3) L (r.toList ++ st) M')) : AW I post pc L (As.reverse ++ .ref o :: st) M := by
  intro post' hp p l e R s m args below meth c D cA ad A C H locs ls hP hD hS hl
  obtain ⟨m1, ⟨T2, N2, m2⟩, m3, m4, m5, m6⟩ := hm
  have hM := k _ (fun _ _ q => q) l D cA ad H.size
  have hg : GoodIn zgw (wsV I.2.2.2.2.1 idx I2.1.cls I2.1 (z_ws I2)) := zgw_good (fun w h => by
    rcases List.mem_append.mp h with h | h
    · exact m1 w (List.mem_append_left _ h)
    · rcases List.mem_cons.mp h with h | h
      · exact m1 w (List.mem_append_right _ (by rw [h]; exact List.mem_cons_self))
      · exact h)
  have hR : (z_rm I2).frames + 1 ≤ R.frames ∧ 8 + (I2.2.2.1 + 11) + (z_rm I2).locals ≤ R.locals := by
    rw [C.2.2.2.2.2.2.2.2.2]
    refine ⟨hr, ?_⟩
    show 8 + (I2.2.2.1 + 11) + 32 * I2.2.2.2.2.2.1 ≤ 32 * I.2.2.2.2.2.1
    omega
  have cw := cwV (own := I.2.2.2.2.1) (index := idx) (C := I2.1.cls) n C.2.2.2.2.2.2.1 hg rfl rfl rfl ⟨rfl, m3, m4, m5⟩ hR
  refine z_after hw hp C hP hD hS hl (va_runV (As := As.map (z_v ad)) (rest := st.map (z_v ad)) (b := ad o) ⟨C.1, C.2.1, C.2.2.1, C.2.2.2.2.2.1, C.2.2.2.2.2.2.1⟩ hM cw ⟨z_blind, va_recv C.2.2.2.2.2.2.2.1 hP m2 (z_w_at ho), fun U hU hW => ⟨rfl, by rw [hU], by rw [hU, hw]; exact hP, va_K.moved hW.alike C.2.2.2.2.2.2.2.1, by rw [hw]; exact hD.weaken (fun _ _ _ _ => trivial)⟩⟩ rfl (by simpa using hn) hl.1 (by simp [z_v]) (lv_room (by rw [z_csum]; exact hst)) hd ⟨Nat.zero_le _, Nat.zero_le _⟩)
theorem z_callS {I : zI} {post : Option Value → zM → Prop} {pc : Nat} {L : List (Option Value)} {st : List Value} {M : zM} {I2 : zI} {idx n : Nat} (As : List Value) (hd : decode I.2.1 pc = .ok (.invokestatic idx, 3)) (hm : z_ms I.2.2.2.2.1 idx I2 n) (hw : z_lay I2 = z_lay I) (hr : I2.2.2.2.2.2.1 < I.2.2.2.2.2.1) (hn : As.length = n) (hst : (st.map fun v => v.category).sum ≤ 8) (k : AMet I2 As M (fun r M' => AW I post (pc + 3) L (r.toList ++ st) M')) : AW I post pc L (As.reverse ++ st) M := by
  intro post' hp p l e R s m args below meth c D cA ad A C H locs ls hP hD hS hl
  obtain ⟨m1, m3, m4, m5, m6⟩ := hm
  have hM := k _ (fun _ _ q => q) l D cA ad H.size
  have hg : GoodIn zgw (va_wsS I.2.2.2.2.1 idx I2.1 (z_ws I2)) := zgw_good (fun w h => by
    rcases List.mem_append.mp h with h | h
    · exact m1 w (List.mem_append_left _ h)
    · rcases List.mem_cons.mp h with h | h
      · exact m1 w (List.mem_append_right _ (by rw [h]; exact List.mem_cons_self))
      · exact h)
  have hR : (z_rm I2).frames + 1 ≤ R.frames ∧ 8 + (I2.2.2.1 + 11) + (z_rm I2).locals ≤ R.locals := by
    rw [C.2.2.2.2.2.2.2.2.2]
    refine ⟨hr, ?_⟩
    show 8 + (I2.2.2.1 + 11) + 32 * I2.2.2.2.2.2.1 ≤ 32 * I.2.2.2.2.2.1
    omega
  have cw := va_cwS (own := I.2.2.2.2.1) (index := idx) n C.2.2.2.2.2.2.1 hg rfl rfl rfl ⟨m3, m4, m5⟩ hR
  refine z_after hw hp C hP hD hS hl (va_runS (As := As.map (z_v ad)) (rest := st.map (z_v ad)) ⟨C.1, C.2.1, C.2.2.1, C.2.2.2.2.2.1, C.2.2.2.2.2.2.1⟩ hM cw ⟨z_blind, fun U hU hW => ⟨rfl, by rw [hU], by rw [hU, hw]; exact hP, va_K.moved hW.alike C.2.2.2.2.2.2.2.1, by rw [hw]; exact hD.weaken (fun _ _ _ _ => trivial)⟩⟩ rfl (by simpa using hn) hl.1 (by simp) (lv_room (by rw [z_csum]; exact hst)) hd ⟨Nat.zero_le _, Nat.zero_le _⟩)
theorem z_mini {I : zI} {post : Option Value → zM → Prop} {pc : Nat} {L : List (Option Value)} {st : List Value} {M : zM} {idx : Nat} {x y : Int32} (hd : decode I.2.1 pc = .ok (.invokestatic idx, 3)) (h1 : Cond.methodLink I.2.2.2.2.1 idx Lib.Math.min.name ∈ zgw) (h2 : Cond.static Lib.Math.min.name ∈ zgw) (h3 : Cond.initialized "java/lang/Math" ∈ zgw) (h4 : Cond.code Lib.Math.min.name Lib.Math.min.code 2 (some .int) ∈ zgw) (hr : 1 ≤ I.2.2.2.2.2.1) (hst : (st.map fun v => v.category).sum ≤ 8) (k : AW I post (pc + 3) L (.int (if y < x then y else x) :: st) M) : AW I post pc L (.int y :: .int x :: st) M := by
  intro post' hp p l e R s m args below meth c D cA ad A C H locs ls hP hD hS hl
  refine va_mmin C.1 C.2.1 (by rw [C.2.2.1, hl.1]) C.2.2.2.2.2.1 (C.2.2.2.2.2.2.1 _ h1) (C.2.2.2.2.2.2.1 _ h2) (C.2.2.2.2.2.2.1 _ h3) (C.2.2.2.2.2.2.1 _ h4) ?_ ?_ (Nat.zero_le _) (Nat.zero_le _) hd (k post' hp p l e R s m args below meth c D cA ad A C H locs ls hP hD hS hl)
  · rw [C.2.2.2.2.2.2.2.2.2]
    exact hr
  · rw [C.2.2.2.2.2.2.2.2.2, z_csum]
    show _ + 13 ≤ 32 * I.2.2.2.2.2.1
    omega
theorem z_minl {I : zI} {post : Option Value → zM → Prop} {pc : Nat} {L : List (Option Value)} {st : List Value} {M : zM} {idx : Nat} {x y : Int64} (hd : decode I.2.1 pc = .ok (.invokestatic idx, 3)) (h1 : Cond.methodLink I.2.2.2.2.1 idx Lib.MathLoose.min_long.x ∈ zgw) (h2 : Cond.static Lib.MathLoose.min_long.x ∈ zgw) (h3 : Cond.initialized "java/lang/Math" ∈ zgw) (h4 : Cond.code Lib.MathLoose.min_long.x Lib.MathLoose.min_long.code 4 (some .long) ∈ zgw) (hr : 1 ≤ I.2.2.2.2.2.1) (hst : (st.map fun v => v.category).sum ≤ 8) (k : AW I post (pc + 3) L (.long (if y < x then y else x) :: st) M) : AW I post pc L (.long y :: .long x :: st) M := by
  intro post' hp p l e R s m args below meth c D cA ad A C H locs ls hP hD hS hl
  refine va_mmin_long C.1 C.2.1 (by rw [C.2.2.1, hl.1]) C.2.2.2.2.2.1 (C.2.2.2.2.2.2.1 _ h1) (C.2.2.2.2.2.2.1 _ h2) (C.2.2.2.2.2.2.1 _ h3) (C.2.2.2.2.2.2.1 _ h4) ?_ ?_ (Nat.zero_le _) (Nat.zero_le _) hd (k post' hp p l e R s m args below meth c D cA ad A C H locs ls hP hD hS hl)
  · rw [C.2.2.2.2.2.2.2.2.2]
    exact hr
  · rw [C.2.2.2.2.2.2.2.2.2, z_csum]
    show _ + 15 ≤ 32 * I.2.2.2.2.2.1
    omega
theorem z_entry {I : zI} {post : Option Value → zM → Prop} {M : zM} {av : List Value} {pad : Nat} (L0 : List (Option Value)) (hy : plainName I.1.cls = true) (ho : I.1.cls = I.2.2.2.2.1) (hL : z_en av pad = L0) (hn : ∀ ad, (lg_sl (av.map (z_v ad))).length ≤ I.2.2.1) (k : AW I post 0 L0 [] M) : AMet I av M post := by
  intro post' hp l D cA ad sz
  refine Met.ofW (cc := I.2.1) (maxL := I.2.2.1) (ret := I.2.2.2.1) hy rfl ?_
  intro p e s m args below meth c s₁ B hml hv
  obtain ⟨rfl, hsz, hP, hK, hD0⟩ := hv
  have hts := atoms_spec (ws := z_ws I) B.pre
  have hown : s.vm.findClass I.1.cls = some m.cls := findClass_of_methodNamed B.named
  subst hsz
  have hD := hD0.self (sz := s.heap.size)
  have hl := lv_entry (av.map (z_v ad)) (n := I.2.2.1) (hn ad)
  rw [lg_entry_eq]
  refine k post' hp p l e _ s m _ below meth c D cA ad _ ⟨B.exec, B.bytes, hml, B.returns, B.notSynchronized, by rw [← ho]; exact hown, fun w h => hts w (List.mem_cons_of_mem _ h), hK, fun q h => Or.inr h, rfl⟩ s.heap [] _ hP hD va_S.rf ⟨hl.1, hl.2.1, fun i v h => hl.2.2 (i, z_v ad v) ?_⟩
  rw [← hL] at h
  simpa using z_en_at ad pad av 0 i v h
end
