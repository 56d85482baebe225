-- ===== PART A: goes FIRST, ahead of the names: the tables' words, and 'selects' of the private methods out of them =====
/-- a private method of a class that the tables say can be made, by its rows of tables_1 -/
def lw_okq (q : MethodName × Nat) : Prop := (q.1.cls ≠ "java/lang/invoke/MethodHandle" ∧ q.1.cls ≠ "java/lang/invoke/VarHandle") ∧ Cond.instantiable q.1.cls q.2 ∈ tables_1 ∧ Cond.privateMethod q.1 ∈ tables_1 ∧ Cond.instanceMethod q.1 ∈ tables_1
theorem lw_p0 : lw_okq (⟨"ActSurgery", "isPlace", "(I)Z"⟩, 6) := ⟨⟨by decide +kernel, by decide +kernel⟩, List.mem_of_getElem? (i := 11) (by decide +kernel), List.mem_of_getElem? (i := 144) (by decide +kernel), List.mem_of_getElem? (i := 145) (by decide +kernel)⟩
theorem lw_p1 : lw_okq (⟨"ActSurgery$LikeGraphs", "lay", "(LActSurgery$Arrows;II)V"⟩, 6) := ⟨⟨by decide +kernel, by decide +kernel⟩, List.mem_of_getElem? (i := 71) (by decide +kernel), List.mem_of_getElem? (i := 201) (by decide +kernel), List.mem_of_getElem? (i := 202) (by decide +kernel)⟩
theorem lw_p2 : lw_okq (⟨"ActSurgery$LikeGraphs", "takeUp", "()V"⟩, 6) := ⟨⟨by decide +kernel, by decide +kernel⟩, List.mem_of_getElem? (i := 71) (by decide +kernel), List.mem_of_getElem? (i := 205) (by decide +kernel), List.mem_of_getElem? (i := 206) (by decide +kernel)⟩
theorem lw_p3 : lw_okq (⟨"ActSurgery$LikeGraphs", "isLeastOrder", "(II)Z"⟩, 6) := ⟨⟨by decide +kernel, by decide +kernel⟩, List.mem_of_getElem? (i := 71) (by decide +kernel), List.mem_of_getElem? (i := 210) (by decide +kernel), List.mem_of_getElem? (i := 211) (by decide +kernel)⟩
theorem lw_p4 : lw_okq (⟨"ActSurgery$LikeGraphs", "meetsAlike", "(II)Z"⟩, 6) := ⟨⟨by decide +kernel, by decide +kernel⟩, List.mem_of_getElem? (i := 71) (by decide +kernel), List.mem_of_getElem? (i := 214) (by decide +kernel), List.mem_of_getElem? (i := 215) (by decide +kernel)⟩
theorem lw_p5 : lw_okq (⟨"ActSurgery$LikeGraphs", "unjoined", "(II)I"⟩, 6) := ⟨⟨by decide +kernel, by decide +kernel⟩, List.mem_of_getElem? (i := 71) (by decide +kernel), List.mem_of_getElem? (i := 218) (by decide +kernel), List.mem_of_getElem? (i := 219) (by decide +kernel)⟩
theorem lw_p6 : lw_okq (⟨"ActSurgery$Graph", "boundTo", "(I)I"⟩, 3) := ⟨⟨by decide +kernel, by decide +kernel⟩, List.mem_of_getElem? (i := 19) (by decide +kernel), List.mem_of_getElem? (i := 236) (by decide +kernel), List.mem_of_getElem? (i := 237) (by decide +kernel)⟩
theorem lw_p7 : lw_okq (⟨"ActSurgery", "howManyPairsParted", "()I"⟩, 6) := ⟨⟨by decide +kernel, by decide +kernel⟩, List.mem_of_getElem? (i := 11) (by decide +kernel), List.mem_of_getElem? (i := 244) (by decide +kernel), List.mem_of_getElem? (i := 245) (by decide +kernel)⟩
theorem lw_p8 : lw_okq (⟨"ActSurgery", "leastParting", "(II)I"⟩, 6) := ⟨⟨by decide +kernel, by decide +kernel⟩, List.mem_of_getElem? (i := 11) (by decide +kernel), List.mem_of_getElem? (i := 248) (by decide +kernel), List.mem_of_getElem? (i := 249) (by decide +kernel)⟩
theorem lw_p9 : lw_okq (⟨"ActSurgery", "allPlaces", "()I"⟩, 6) := ⟨⟨by decide +kernel, by decide +kernel⟩, List.mem_of_getElem? (i := 11) (by decide +kernel), List.mem_of_getElem? (i := 252) (by decide +kernel), List.mem_of_getElem? (i := 253) (by decide +kernel)⟩
theorem lw_p10 : lw_okq (⟨"ActSurgery$Arrows", "openWaysOn", "(IIIIII)I"⟩, 2) := ⟨⟨by decide +kernel, by decide +kernel⟩, List.mem_of_getElem? (i := 25) (by decide +kernel), List.mem_of_getElem? (i := 264) (by decide +kernel), List.mem_of_getElem? (i := 265) (by decide +kernel)⟩
theorem lw_p11 : lw_okq (⟨"ActSurgery$Arrows", "isBeside", "(II)Z"⟩, 2) := ⟨⟨by decide +kernel, by decide +kernel⟩, List.mem_of_getElem? (i := 25) (by decide +kernel), List.mem_of_getElem? (i := 268) (by decide +kernel), List.mem_of_getElem? (i := 269) (by decide +kernel)⟩
theorem lw_p12 : lw_okq (⟨"ActSurgery$Arrows", "isOpenAt", "(IIII)Z"⟩, 2) := ⟨⟨by decide +kernel, by decide +kernel⟩, List.mem_of_getElem? (i := 25) (by decide +kernel), List.mem_of_getElem? (i := 272) (by decide +kernel), List.mem_of_getElem? (i := 273) (by decide +kernel)⟩
theorem lw_p13 : lw_okq (⟨"ActSurgery", "isAskOfWays", "(III)Z"⟩, 6) := ⟨⟨by decide +kernel, by decide +kernel⟩, List.mem_of_getElem? (i := 11) (by decide +kernel), List.mem_of_getElem? (i := 299) (by decide +kernel), List.mem_of_getElem? (i := 300) (by decide +kernel)⟩
theorem lw_p14 : lw_okq (⟨"ActSurgery", "isPair", "(II)Z"⟩, 6) := ⟨⟨by decide +kernel, by decide +kernel⟩, List.mem_of_getElem? (i := 11) (by decide +kernel), List.mem_of_getElem? (i := 303) (by decide +kernel), List.mem_of_getElem? (i := 304) (by decide +kernel)⟩
theorem lw_p15 : lw_okq (⟨"ActSurgery", "isAskOfTelling", "(III)Z"⟩, 6) := ⟨⟨by decide +kernel, by decide +kernel⟩, List.mem_of_getElem? (i := 11) (by decide +kernel), List.mem_of_getElem? (i := 323) (by decide +kernel), List.mem_of_getElem? (i := 324) (by decide +kernel)⟩
def lw_privs_1 : List (MethodName × Nat) := [(⟨"ActSurgery", "isPlace", "(I)Z"⟩, 6), (⟨"ActSurgery$LikeGraphs", "lay", "(LActSurgery$Arrows;II)V"⟩, 6), (⟨"ActSurgery$LikeGraphs", "takeUp", "()V"⟩, 6), (⟨"ActSurgery$LikeGraphs", "isLeastOrder", "(II)Z"⟩, 6), (⟨"ActSurgery$LikeGraphs", "meetsAlike", "(II)Z"⟩, 6), (⟨"ActSurgery$LikeGraphs", "unjoined", "(II)I"⟩, 6), (⟨"ActSurgery$Graph", "boundTo", "(I)I"⟩, 3), (⟨"ActSurgery", "howManyPairsParted", "()I"⟩, 6), (⟨"ActSurgery", "leastParting", "(II)I"⟩, 6), (⟨"ActSurgery", "allPlaces", "()I"⟩, 6), (⟨"ActSurgery$Arrows", "openWaysOn", "(IIIIII)I"⟩, 2), (⟨"ActSurgery$Arrows", "isBeside", "(II)Z"⟩, 2), (⟨"ActSurgery$Arrows", "isOpenAt", "(IIII)Z"⟩, 2), (⟨"ActSurgery", "isAskOfWays", "(III)Z"⟩, 6), (⟨"ActSurgery", "isPair", "(II)Z"⟩, 6), (⟨"ActSurgery", "isAskOfTelling", "(III)Z"⟩, 6)]
theorem lw_r1 : ∀ q ∈ lw_privs_1, lw_okq q := List.forall_mem_cons.mpr ⟨lw_p0, List.forall_mem_cons.mpr ⟨lw_p1, List.forall_mem_cons.mpr ⟨lw_p2, List.forall_mem_cons.mpr ⟨lw_p3, List.forall_mem_cons.mpr ⟨lw_p4, List.forall_mem_cons.mpr ⟨lw_p5, List.forall_mem_cons.mpr ⟨lw_p6, List.forall_mem_cons.mpr ⟨lw_p7, List.forall_mem_cons.mpr ⟨lw_p8, List.forall_mem_cons.mpr ⟨lw_p9, List.forall_mem_cons.mpr ⟨lw_p10, List.forall_mem_cons.mpr ⟨lw_p11, List.forall_mem_cons.mpr ⟨lw_p12, List.forall_mem_cons.mpr ⟨lw_p13, List.forall_mem_cons.mpr ⟨lw_p14, List.forall_mem_cons.mpr ⟨lw_p15, fun _ h => absurd h List.not_mem_nil⟩⟩⟩⟩⟩⟩⟩⟩⟩⟩⟩⟩⟩⟩⟩⟩
theorem lw_p16 : lw_okq (⟨"ActSurgery", "mayTell", "(II)I"⟩, 6) := ⟨⟨by decide +kernel, by decide +kernel⟩, List.mem_of_getElem? (i := 11) (by decide +kernel), List.mem_of_getElem? (i := 327) (by decide +kernel), List.mem_of_getElem? (i := 328) (by decide +kernel)⟩
theorem lw_p17 : lw_okq (⟨"ActSurgery", "isTelling", "(IIII)Z"⟩, 6) := ⟨⟨by decide +kernel, by decide +kernel⟩, List.mem_of_getElem? (i := 11) (by decide +kernel), List.mem_of_getElem? (i := 331) (by decide +kernel), List.mem_of_getElem? (i := 332) (by decide +kernel)⟩
theorem lw_p18 : lw_okq (⟨"ActSurgery", "isBackSet", "(III)Z"⟩, 6) := ⟨⟨by decide +kernel, by decide +kernel⟩, List.mem_of_getElem? (i := 11) (by decide +kernel), List.mem_of_getElem? (i := 335) (by decide +kernel), List.mem_of_getElem? (i := 336) (by decide +kernel)⟩
theorem lw_p19 : lw_okq (⟨"ActSurgery", "isFrontSet", "(III)Z"⟩, 6) := ⟨⟨by decide +kernel, by decide +kernel⟩, List.mem_of_getElem? (i := 11) (by decide +kernel), List.mem_of_getElem? (i := 343) (by decide +kernel), List.mem_of_getElem? (i := 344) (by decide +kernel)⟩
theorem lw_p20 : lw_okq (⟨"ActSurgery", "isInstrument", "(III)Z"⟩, 6) := ⟨⟨by decide +kernel, by decide +kernel⟩, List.mem_of_getElem? (i := 11) (by decide +kernel), List.mem_of_getElem? (i := 354) (by decide +kernel), List.mem_of_getElem? (i := 355) (by decide +kernel)⟩
theorem lw_p21 : lw_okq (⟨"ActSurgery", "isValued", "(II)Z"⟩, 6) := ⟨⟨by decide +kernel, by decide +kernel⟩, List.mem_of_getElem? (i := 11) (by decide +kernel), List.mem_of_getElem? (i := 371) (by decide +kernel), List.mem_of_getElem? (i := 372) (by decide +kernel)⟩
theorem lw_p22 : lw_okq (⟨"ActSurgery", "isPart", "(I)Z"⟩, 6) := ⟨⟨by decide +kernel, by decide +kernel⟩, List.mem_of_getElem? (i := 11) (by decide +kernel), List.mem_of_getElem? (i := 375) (by decide +kernel), List.mem_of_getElem? (i := 376) (by decide +kernel)⟩
theorem lw_p23 : lw_okq (⟨"ActSurgery", "oddsOfTwoGivenOne", "(I)I"⟩, 6) := ⟨⟨by decide +kernel, by decide +kernel⟩, List.mem_of_getElem? (i := 11) (by decide +kernel), List.mem_of_getElem? (i := 383) (by decide +kernel), List.mem_of_getElem? (i := 384) (by decide +kernel)⟩
theorem lw_p24 : lw_okq (⟨"ActSurgery$Graph", "drawsFrom", "(ILActSurgery$World;ILActSurgery$World;I)I"⟩, 3) := ⟨⟨by decide +kernel, by decide +kernel⟩, List.mem_of_getElem? (i := 19) (by decide +kernel), List.mem_of_getElem? (i := 391) (by decide +kernel), List.mem_of_getElem? (i := 392) (by decide +kernel)⟩
theorem lw_p25 : lw_okq (⟨"ActSurgery", "haveSameOdds", "(III)Z"⟩, 6) := ⟨⟨by decide +kernel, by decide +kernel⟩, List.mem_of_getElem? (i := 11) (by decide +kernel), List.mem_of_getElem? (i := 454) (by decide +kernel), List.mem_of_getElem? (i := 455) (by decide +kernel)⟩
theorem lw_p26 : lw_okq (⟨"ActSurgery", "haveSameOddsOfActs", "()Z"⟩, 6) := ⟨⟨by decide +kernel, by decide +kernel⟩, List.mem_of_getElem? (i := 11) (by decide +kernel), List.mem_of_getElem? (i := 458) (by decide +kernel), List.mem_of_getElem? (i := 459) (by decide +kernel)⟩
theorem lw_p27 : lw_okq (⟨"ActSurgeryModel", "clear", "(II)V"⟩, 12) := ⟨⟨by decide +kernel, by decide +kernel⟩, List.mem_of_getElem? (i := 462) (by decide +kernel), List.mem_of_getElem? (i := 468) (by decide +kernel), List.mem_of_getElem? (i := 469) (by decide +kernel)⟩
theorem lw_p28 : lw_okq (⟨"ActSurgeryModel", "resetWeights", "(II)V"⟩, 12) := ⟨⟨by decide +kernel, by decide +kernel⟩, List.mem_of_getElem? (i := 462) (by decide +kernel), List.mem_of_getElem? (i := 472) (by decide +kernel), List.mem_of_getElem? (i := 473) (by decide +kernel)⟩
theorem lw_p29 : lw_okq (⟨"ActSurgeryModel", "n", "()I"⟩, 12) := ⟨⟨by decide +kernel, by decide +kernel⟩, List.mem_of_getElem? (i := 462) (by decide +kernel), List.mem_of_getElem? (i := 520) (by decide +kernel), List.mem_of_getElem? (i := 521) (by decide +kernel)⟩
theorem lw_p30 : lw_okq (⟨"ActSurgeryModel", "isPlace", "(I)Z"⟩, 12) := ⟨⟨by decide +kernel, by decide +kernel⟩, List.mem_of_getElem? (i := 462) (by decide +kernel), List.mem_of_getElem? (i := 528) (by decide +kernel), List.mem_of_getElem? (i := 529) (by decide +kernel)⟩
theorem lw_p31 : lw_okq (⟨"ActSurgeryModel", "isSet", "(I)Z"⟩, 12) := ⟨⟨by decide +kernel, by decide +kernel⟩, List.mem_of_getElem? (i := 462) (by decide +kernel), List.mem_of_getElem? (i := 536) (by decide +kernel), List.mem_of_getElem? (i := 537) (by decide +kernel)⟩
def lw_privs_2 : List (MethodName × Nat) := [(⟨"ActSurgery", "mayTell", "(II)I"⟩, 6), (⟨"ActSurgery", "isTelling", "(IIII)Z"⟩, 6), (⟨"ActSurgery", "isBackSet", "(III)Z"⟩, 6), (⟨"ActSurgery", "isFrontSet", "(III)Z"⟩, 6), (⟨"ActSurgery", "isInstrument", "(III)Z"⟩, 6), (⟨"ActSurgery", "isValued", "(II)Z"⟩, 6), (⟨"ActSurgery", "isPart", "(I)Z"⟩, 6), (⟨"ActSurgery", "oddsOfTwoGivenOne", "(I)I"⟩, 6), (⟨"ActSurgery$Graph", "drawsFrom", "(ILActSurgery$World;ILActSurgery$World;I)I"⟩, 3), (⟨"ActSurgery", "haveSameOdds", "(III)Z"⟩, 6), (⟨"ActSurgery", "haveSameOddsOfActs", "()Z"⟩, 6), (⟨"ActSurgeryModel", "clear", "(II)V"⟩, 12), (⟨"ActSurgeryModel", "resetWeights", "(II)V"⟩, 12), (⟨"ActSurgeryModel", "n", "()I"⟩, 12), (⟨"ActSurgeryModel", "isPlace", "(I)Z"⟩, 12), (⟨"ActSurgeryModel", "isSet", "(I)Z"⟩, 12)]
theorem lw_r2 : ∀ q ∈ lw_privs_2, lw_okq q := List.forall_mem_cons.mpr ⟨lw_p16, List.forall_mem_cons.mpr ⟨lw_p17, List.forall_mem_cons.mpr ⟨lw_p18, List.forall_mem_cons.mpr ⟨lw_p19, List.forall_mem_cons.mpr ⟨lw_p20, List.forall_mem_cons.mpr ⟨lw_p21, List.forall_mem_cons.mpr ⟨lw_p22, List.forall_mem_cons.mpr ⟨lw_p23, List.forall_mem_cons.mpr ⟨lw_p24, List.forall_mem_cons.mpr ⟨lw_p25, List.forall_mem_cons.mpr ⟨lw_p26, List.forall_mem_cons.mpr ⟨lw_p27, List.forall_mem_cons.mpr ⟨lw_p28, List.forall_mem_cons.mpr ⟨lw_p29, List.forall_mem_cons.mpr ⟨lw_p30, List.forall_mem_cons.mpr ⟨lw_p31, fun _ h => absurd h List.not_mem_nil⟩⟩⟩⟩⟩⟩⟩⟩⟩⟩⟩⟩⟩⟩⟩⟩
theorem lw_p32 : lw_okq (⟨"ActSurgeryModel", "all", "()I"⟩, 12) := ⟨⟨by decide +kernel, by decide +kernel⟩, List.mem_of_getElem? (i := 462) (by decide +kernel), List.mem_of_getElem? (i := 540) (by decide +kernel), List.mem_of_getElem? (i := 541) (by decide +kernel)⟩
theorem lw_p33 : lw_okq (⟨"ActSurgeryModel", "isPair", "(III)Z"⟩, 12) := ⟨⟨by decide +kernel, by decide +kernel⟩, List.mem_of_getElem? (i := 462) (by decide +kernel), List.mem_of_getElem? (i := 552) (by decide +kernel), List.mem_of_getElem? (i := 553) (by decide +kernel)⟩
theorem lw_p34 : lw_okq (⟨"ActSurgeryModel", "waysOf", "(III)I"⟩, 12) := ⟨⟨by decide +kernel, by decide +kernel⟩, List.mem_of_getElem? (i := 462) (by decide +kernel), List.mem_of_getElem? (i := 559) (by decide +kernel), List.mem_of_getElem? (i := 560) (by decide +kernel)⟩
theorem lw_p35 : lw_okq (⟨"ActSurgeryModel", "isJoined", "(II)Z"⟩, 12) := ⟨⟨by decide +kernel, by decide +kernel⟩, List.mem_of_getElem? (i := 462) (by decide +kernel), List.mem_of_getElem? (i := 563) (by decide +kernel), List.mem_of_getElem? (i := 564) (by decide +kernel)⟩
theorem lw_p36 : lw_okq (⟨"ActSurgeryModel", "isArrow", "(II)Z"⟩, 12) := ⟨⟨by decide +kernel, by decide +kernel⟩, List.mem_of_getElem? (i := 462) (by decide +kernel), List.mem_of_getElem? (i := 567) (by decide +kernel), List.mem_of_getElem? (i := 568) (by decide +kernel)⟩
theorem lw_p37 : lw_okq (⟨"ActSurgeryModel", "isOpen", "(II)Z"⟩, 12) := ⟨⟨by decide +kernel, by decide +kernel⟩, List.mem_of_getElem? (i := 462) (by decide +kernel), List.mem_of_getElem? (i := 571) (by decide +kernel), List.mem_of_getElem? (i := 572) (by decide +kernel)⟩
theorem lw_p38 : lw_okq (⟨"ActSurgeryModel", "after", "(I)I"⟩, 12) := ⟨⟨by decide +kernel, by decide +kernel⟩, List.mem_of_getElem? (i := 462) (by decide +kernel), List.mem_of_getElem? (i := 575) (by decide +kernel), List.mem_of_getElem? (i := 576) (by decide +kernel)⟩
theorem lw_p39 : lw_okq (⟨"ActSurgeryModel", "reach", "(II)I"⟩, 12) := ⟨⟨by decide +kernel, by decide +kernel⟩, List.mem_of_getElem? (i := 462) (by decide +kernel), List.mem_of_getElem? (i := 579) (by decide +kernel), List.mem_of_getElem? (i := 580) (by decide +kernel)⟩
theorem lw_p40 : lw_okq (⟨"ActSurgeryModel", "children", "(I)I"⟩, 12) := ⟨⟨by decide +kernel, by decide +kernel⟩, List.mem_of_getElem? (i := 462) (by decide +kernel), List.mem_of_getElem? (i := 583) (by decide +kernel), List.mem_of_getElem? (i := 584) (by decide +kernel)⟩
theorem lw_p41 : lw_okq (⟨"ActSurgeryModel", "partingOf", "(II)I"⟩, 12) := ⟨⟨by decide +kernel, by decide +kernel⟩, List.mem_of_getElem? (i := 462) (by decide +kernel), List.mem_of_getElem? (i := 595) (by decide +kernel), List.mem_of_getElem? (i := 596) (by decide +kernel)⟩
theorem lw_p42 : lw_okq (⟨"ActSurgeryModel", "isSeenPair", "(III)Z"⟩, 12) := ⟨⟨by decide +kernel, by decide +kernel⟩, List.mem_of_getElem? (i := 462) (by decide +kernel), List.mem_of_getElem? (i := 606) (by decide +kernel), List.mem_of_getElem? (i := 607) (by decide +kernel)⟩
theorem lw_p43 : lw_okq (⟨"ActSurgeryModel", "isSeenSet", "(III)Z"⟩, 12) := ⟨⟨by decide +kernel, by decide +kernel⟩, List.mem_of_getElem? (i := 462) (by decide +kernel), List.mem_of_getElem? (i := 610) (by decide +kernel), List.mem_of_getElem? (i := 611) (by decide +kernel)⟩
theorem lw_p44 : lw_okq (⟨"ActSurgeryModel", "isTelling", "(IIII)Z"⟩, 12) := ⟨⟨by decide +kernel, by decide +kernel⟩, List.mem_of_getElem? (i := 462) (by decide +kernel), List.mem_of_getElem? (i := 614) (by decide +kernel), List.mem_of_getElem? (i := 615) (by decide +kernel)⟩
theorem lw_p45 : lw_okq (⟨"ActSurgeryModel", "isBack", "(III)Z"⟩, 12) := ⟨⟨by decide +kernel, by decide +kernel⟩, List.mem_of_getElem? (i := 462) (by decide +kernel), List.mem_of_getElem? (i := 618) (by decide +kernel), List.mem_of_getElem? (i := 619) (by decide +kernel)⟩
theorem lw_p46 : lw_okq (⟨"ActSurgeryModel", "isFront", "(III)Z"⟩, 12) := ⟨⟨by decide +kernel, by decide +kernel⟩, List.mem_of_getElem? (i := 462) (by decide +kernel), List.mem_of_getElem? (i := 622) (by decide +kernel), List.mem_of_getElem? (i := 623) (by decide +kernel)⟩
theorem lw_p47 : lw_okq (⟨"ActSurgeryModel", "isInstrument", "(III)Z"⟩, 12) := ⟨⟨by decide +kernel, by decide +kernel⟩, List.mem_of_getElem? (i := 462) (by decide +kernel), List.mem_of_getElem? (i := 629) (by decide +kernel), List.mem_of_getElem? (i := 630) (by decide +kernel)⟩
def lw_privs_3 : List (MethodName × Nat) := [(⟨"ActSurgeryModel", "all", "()I"⟩, 12), (⟨"ActSurgeryModel", "isPair", "(III)Z"⟩, 12), (⟨"ActSurgeryModel", "waysOf", "(III)I"⟩, 12), (⟨"ActSurgeryModel", "isJoined", "(II)Z"⟩, 12), (⟨"ActSurgeryModel", "isArrow", "(II)Z"⟩, 12), (⟨"ActSurgeryModel", "isOpen", "(II)Z"⟩, 12), (⟨"ActSurgeryModel", "after", "(I)I"⟩, 12), (⟨"ActSurgeryModel", "reach", "(II)I"⟩, 12), (⟨"ActSurgeryModel", "children", "(I)I"⟩, 12), (⟨"ActSurgeryModel", "partingOf", "(II)I"⟩, 12), (⟨"ActSurgeryModel", "isSeenPair", "(III)Z"⟩, 12), (⟨"ActSurgeryModel", "isSeenSet", "(III)Z"⟩, 12), (⟨"ActSurgeryModel", "isTelling", "(IIII)Z"⟩, 12), (⟨"ActSurgeryModel", "isBack", "(III)Z"⟩, 12), (⟨"ActSurgeryModel", "isFront", "(III)Z"⟩, 12), (⟨"ActSurgeryModel", "isInstrument", "(III)Z"⟩, 12)]
theorem lw_r3 : ∀ q ∈ lw_privs_3, lw_okq q := List.forall_mem_cons.mpr ⟨lw_p32, List.forall_mem_cons.mpr ⟨lw_p33, List.forall_mem_cons.mpr ⟨lw_p34, List.forall_mem_cons.mpr ⟨lw_p35, List.forall_mem_cons.mpr ⟨lw_p36, List.forall_mem_cons.mpr ⟨lw_p37, List.forall_mem_cons.mpr ⟨lw_p38, List.forall_mem_cons.mpr ⟨lw_p39, List.forall_mem_cons.mpr ⟨lw_p40, List.forall_mem_cons.mpr ⟨lw_p41, List.forall_mem_cons.mpr ⟨lw_p42, List.forall_mem_cons.mpr ⟨lw_p43, List.forall_mem_cons.mpr ⟨lw_p44, List.forall_mem_cons.mpr ⟨lw_p45, List.forall_mem_cons.mpr ⟨lw_p46, List.forall_mem_cons.mpr ⟨lw_p47, fun _ h => absurd h List.not_mem_nil⟩⟩⟩⟩⟩⟩⟩⟩⟩⟩⟩⟩⟩⟩⟩⟩
theorem lw_p48 : lw_okq (⟨"ActSurgeryModel", "clumpOf", "(I)I"⟩, 12) := ⟨⟨by decide +kernel, by decide +kernel⟩, List.mem_of_getElem? (i := 462) (by decide +kernel), List.mem_of_getElem? (i := 641) (by decide +kernel), List.mem_of_getElem? (i := 642) (by decide +kernel)⟩
theorem lw_p49 : lw_okq (⟨"ActSurgeryModel", "isBound", "(II)Z"⟩, 12) := ⟨⟨by decide +kernel, by decide +kernel⟩, List.mem_of_getElem? (i := 462) (by decide +kernel), List.mem_of_getElem? (i := 645) (by decide +kernel), List.mem_of_getElem? (i := 646) (by decide +kernel)⟩
theorem lw_p50 : lw_okq (⟨"ActSurgeryModel", "findLike", "()V"⟩, 12) := ⟨⟨by decide +kernel, by decide +kernel⟩, List.mem_of_getElem? (i := 462) (by decide +kernel), List.mem_of_getElem? (i := 653) (by decide +kernel), List.mem_of_getElem? (i := 654) (by decide +kernel)⟩
theorem lw_p51 : lw_okq (⟨"ActSurgeryModel", "hasNoRing", "(I)Z"⟩, 12) := ⟨⟨by decide +kernel, by decide +kernel⟩, List.mem_of_getElem? (i := 462) (by decide +kernel), List.mem_of_getElem? (i := 657) (by decide +kernel), List.mem_of_getElem? (i := 658) (by decide +kernel)⟩
theorem lw_p52 : lw_okq (⟨"ActSurgeryModel", "hasShape", "(I)Z"⟩, 12) := ⟨⟨by decide +kernel, by decide +kernel⟩, List.mem_of_getElem? (i := 462) (by decide +kernel), List.mem_of_getElem? (i := 661) (by decide +kernel), List.mem_of_getElem? (i := 662) (by decide +kernel)⟩
theorem lw_p53 : lw_okq (⟨"ActSurgeryModel", "clumps", "()I"⟩, 12) := ⟨⟨by decide +kernel, by decide +kernel⟩, List.mem_of_getElem? (i := 462) (by decide +kernel), List.mem_of_getElem? (i := 668) (by decide +kernel), List.mem_of_getElem? (i := 669) (by decide +kernel)⟩
theorem lw_p54 : lw_okq (⟨"ActSurgeryModel", "partedPairs", "()I"⟩, 12) := ⟨⟨by decide +kernel, by decide +kernel⟩, List.mem_of_getElem? (i := 462) (by decide +kernel), List.mem_of_getElem? (i := 672) (by decide +kernel), List.mem_of_getElem? (i := 673) (by decide +kernel)⟩
theorem lw_p55 : lw_okq (⟨"ActSurgeryModel", "before", "(I)I"⟩, 12) := ⟨⟨by decide +kernel, by decide +kernel⟩, List.mem_of_getElem? (i := 462) (by decide +kernel), List.mem_of_getElem? (i := 680) (by decide +kernel), List.mem_of_getElem? (i := 681) (by decide +kernel)⟩
theorem lw_p56 : lw_okq (⟨"ActSurgeryModel", "sureFrom", "(I)I"⟩, 12) := ⟨⟨by decide +kernel, by decide +kernel⟩, List.mem_of_getElem? (i := 462) (by decide +kernel), List.mem_of_getElem? (i := 684) (by decide +kernel), List.mem_of_getElem? (i := 685) (by decide +kernel)⟩
theorem lw_p57 : lw_okq (⟨"ActSurgeryModel", "isValues", "(II)Z"⟩, 12) := ⟨⟨by decide +kernel, by decide +kernel⟩, List.mem_of_getElem? (i := 462) (by decide +kernel), List.mem_of_getElem? (i := 692) (by decide +kernel), List.mem_of_getElem? (i := 693) (by decide +kernel)⟩
theorem lw_p58 : lw_okq (⟨"ActSurgeryModel", "draws", "(IIII)J"⟩, 12) := ⟨⟨by decide +kernel, by decide +kernel⟩, List.mem_of_getElem? (i := 462) (by decide +kernel), List.mem_of_getElem? (i := 696) (by decide +kernel), List.mem_of_getElem? (i := 697) (by decide +kernel)⟩
theorem lw_p59 : lw_okq (⟨"ActSurgeryModel", "twoDraws", "(IIIIII)J"⟩, 12) := ⟨⟨by decide +kernel, by decide +kernel⟩, List.mem_of_getElem? (i := 462) (by decide +kernel), List.mem_of_getElem? (i := 710) (by decide +kernel), List.mem_of_getElem? (i := 711) (by decide +kernel)⟩
theorem lw_p60 : lw_okq (⟨"ActSurgeryModel", "ofOne", "(III)J"⟩, 12) := ⟨⟨by decide +kernel, by decide +kernel⟩, List.mem_of_getElem? (i := 462) (by decide +kernel), List.mem_of_getElem? (i := 718) (by decide +kernel), List.mem_of_getElem? (i := 719) (by decide +kernel)⟩
theorem lw_p61 : lw_okq (⟨"ActSurgeryModel", "swayedDraws", "(III)J"⟩, 12) := ⟨⟨by decide +kernel, by decide +kernel⟩, List.mem_of_getElem? (i := 462) (by decide +kernel), List.mem_of_getElem? (i := 726) (by decide +kernel), List.mem_of_getElem? (i := 727) (by decide +kernel)⟩
theorem lw_p62 : lw_okq (⟨"ActSurgeryModel", "sameShape", "()Z"⟩, 12) := ⟨⟨by decide +kernel, by decide +kernel⟩, List.mem_of_getElem? (i := 462) (by decide +kernel), List.mem_of_getElem? (i := 742) (by decide +kernel), List.mem_of_getElem? (i := 743) (by decide +kernel)⟩
theorem lw_p63 : lw_okq (⟨"ActSurgeryModel", "sameOdds", "(II)Z"⟩, 12) := ⟨⟨by decide +kernel, by decide +kernel⟩, List.mem_of_getElem? (i := 462) (by decide +kernel), List.mem_of_getElem? (i := 746) (by decide +kernel), List.mem_of_getElem? (i := 747) (by decide +kernel)⟩
def lw_privs_4 : List (MethodName × Nat) := [(⟨"ActSurgeryModel", "clumpOf", "(I)I"⟩, 12), (⟨"ActSurgeryModel", "isBound", "(II)Z"⟩, 12), (⟨"ActSurgeryModel", "findLike", "()V"⟩, 12), (⟨"ActSurgeryModel", "hasNoRing", "(I)Z"⟩, 12), (⟨"ActSurgeryModel", "hasShape", "(I)Z"⟩, 12), (⟨"ActSurgeryModel", "clumps", "()I"⟩, 12), (⟨"ActSurgeryModel", "partedPairs", "()I"⟩, 12), (⟨"ActSurgeryModel", "before", "(I)I"⟩, 12), (⟨"ActSurgeryModel", "sureFrom", "(I)I"⟩, 12), (⟨"ActSurgeryModel", "isValues", "(II)Z"⟩, 12), (⟨"ActSurgeryModel", "draws", "(IIII)J"⟩, 12), (⟨"ActSurgeryModel", "twoDraws", "(IIIIII)J"⟩, 12), (⟨"ActSurgeryModel", "ofOne", "(III)J"⟩, 12), (⟨"ActSurgeryModel", "swayedDraws", "(III)J"⟩, 12), (⟨"ActSurgeryModel", "sameShape", "()Z"⟩, 12), (⟨"ActSurgeryModel", "sameOdds", "(II)Z"⟩, 12)]
theorem lw_r4 : ∀ q ∈ lw_privs_4, lw_okq q := List.forall_mem_cons.mpr ⟨lw_p48, List.forall_mem_cons.mpr ⟨lw_p49, List.forall_mem_cons.mpr ⟨lw_p50, List.forall_mem_cons.mpr ⟨lw_p51, List.forall_mem_cons.mpr ⟨lw_p52, List.forall_mem_cons.mpr ⟨lw_p53, List.forall_mem_cons.mpr ⟨lw_p54, List.forall_mem_cons.mpr ⟨lw_p55, List.forall_mem_cons.mpr ⟨lw_p56, List.forall_mem_cons.mpr ⟨lw_p57, List.forall_mem_cons.mpr ⟨lw_p58, List.forall_mem_cons.mpr ⟨lw_p59, List.forall_mem_cons.mpr ⟨lw_p60, List.forall_mem_cons.mpr ⟨lw_p61, List.forall_mem_cons.mpr ⟨lw_p62, List.forall_mem_cons.mpr ⟨lw_p63, fun _ h => absurd h List.not_mem_nil⟩⟩⟩⟩⟩⟩⟩⟩⟩⟩⟩⟩⟩⟩⟩⟩
theorem lw_p64 : lw_okq (⟨"ActSurgeryModel", "sameWhatever", "()Z"⟩, 12) := ⟨⟨by decide +kernel, by decide +kernel⟩, List.mem_of_getElem? (i := 462) (by decide +kernel), List.mem_of_getElem? (i := 750) (by decide +kernel), List.mem_of_getElem? (i := 751) (by decide +kernel)⟩
theorem lw_p65 : lw_okq (⟨"ActSurgeryModel", "sameSeen", "()Z"⟩, 12) := ⟨⟨by decide +kernel, by decide +kernel⟩, List.mem_of_getElem? (i := 462) (by decide +kernel), List.mem_of_getElem? (i := 754) (by decide +kernel), List.mem_of_getElem? (i := 755) (by decide +kernel)⟩
def lw_privs_5 : List (MethodName × Nat) := [(⟨"ActSurgeryModel", "sameWhatever", "()Z"⟩, 12), (⟨"ActSurgeryModel", "sameSeen", "()Z"⟩, 12)]
theorem lw_r5 : ∀ q ∈ lw_privs_5, lw_okq q := List.forall_mem_cons.mpr ⟨lw_p64, List.forall_mem_cons.mpr ⟨lw_p65, fun _ h => absurd h List.not_mem_nil⟩⟩
def lw_privs : List (MethodName × Nat) := lw_privs_1 ++ (lw_privs_2 ++ (lw_privs_3 ++ (lw_privs_4 ++ (lw_privs_5))))
def lw_tbl : List Cond := k2_sels lw_privs ++ tables_1
theorem lw_privs_ok : ∀ q ∈ lw_privs, lw_okq q := by
  show ∀ q ∈ lw_privs_1 ++ (lw_privs_2 ++ (lw_privs_3 ++ (lw_privs_4 ++ (lw_privs_5)))), lw_okq q
  exact List.forall_mem_append.mpr ⟨lw_r1, List.forall_mem_append.mpr ⟨lw_r2, List.forall_mem_append.mpr ⟨lw_r3, List.forall_mem_append.mpr ⟨lw_r4, lw_r5⟩⟩⟩⟩
/-! the words that hold at every state later on -/
def x_GT : List Cond := lw_tbl.filter goodWord
theorem x_good : GoodIn x_GT x_GT := fun w hw => ⟨hw, good_of_word (List.mem_filter.mp hw).2⟩
theorem x_GTl : ∀ w ∈ x_GT, w ∈ lw_tbl := fun w hw => (List.mem_filter.mp hw).1
theorem x_t1 {w : Cond} (k : Nat) (h : tables_1_1[k]? = some w) (g : goodWord w = true) : w ∈ x_GT := List.mem_filter.mpr ⟨List.mem_append_right _ (List.mem_append_left _ (List.mem_of_getElem? h)), g⟩
theorem x_t2 {w : Cond} (k : Nat) (h : tables_1_2[k]? = some w) (g : goodWord w = true) : w ∈ x_GT := List.mem_filter.mpr ⟨List.mem_append_right _ (List.mem_append_right _ (List.mem_append_left _ (List.mem_of_getElem? h))), g⟩
theorem x_t3 {w : Cond} (k : Nat) (h : tables_1_3[k]? = some w) (g : goodWord w = true) : w ∈ x_GT := List.mem_filter.mpr ⟨List.mem_append_right _ (List.mem_append_right _ (List.mem_append_right _ (List.mem_append_left _ (List.mem_of_getElem? h)))), g⟩
theorem x_t4 {w : Cond} (k : Nat) (h : tables_1_4[k]? = some w) (g : goodWord w = true) : w ∈ x_GT := List.mem_filter.mpr ⟨List.mem_append_right _ (List.mem_append_right _ (List.mem_append_right _ (List.mem_append_right _ (List.mem_of_getElem? h)))), g⟩
theorem x_ts {w : Cond} (k : Nat) (h : (k2_sels lw_privs)[k]? = some w) (g : goodWord w = true) : w ∈ x_GT := List.mem_filter.mpr ⟨List.mem_append_left _ (List.mem_of_getElem? h), g⟩
def x_NW : List Cond := [(Jvm.Cond.methodLinkNest "ActSurgery$Graph" (11 : Nat) ({ cls := "ActSurgery$Arrows", name := "<init>", desc := "()V" } : Jvm.MethodName) "ActSurgery"), (Jvm.Cond.methodLinkNest "ActSurgery" (21 : Nat) ({ cls := "ActSurgery$Arrows", name := "<init>", desc := "()V" } : Jvm.MethodName) "ActSurgery"), (Jvm.Cond.methodLinkNest "ActSurgery" (28 : Nat) ({ cls := "ActSurgery$LikeGraphs", name := "<init>", desc := "()V" } : Jvm.MethodName) "ActSurgery"), (Jvm.Cond.methodLinkNest "ActSurgery" (35 : Nat) ({ cls := "ActSurgery$World", name := "<init>", desc := "()V" } : Jvm.MethodName) "ActSurgery"), (Jvm.Cond.methodLinkNest "ActSurgery$Arrows" (25 : Nat) ({ cls := "ActSurgery", name := "has", desc := "(II)Z" } : Jvm.MethodName) "ActSurgery"), (Jvm.Cond.methodLinkNest "ActSurgery$LikeGraphs" (48 : Nat) ({ cls := "ActSurgery", name := "has", desc := "(II)Z" } : Jvm.MethodName) "ActSurgery"), (Jvm.Cond.methodLinkNest "ActSurgery$Graph" (54 : Nat) ({ cls := "ActSurgery", name := "has", desc := "(II)Z" } : Jvm.MethodName) "ActSurgery"), (Jvm.Cond.methodLinkNest "ActSurgery$World" (24 : Nat) ({ cls := "ActSurgery", name := "has", desc := "(II)Z" } : Jvm.MethodName) "ActSurgery")]
theorem x_NWt : ∀ z ∈ x_NW, z.onTables = true := by decide +kernel
theorem x_NWl : ∀ z ∈ x_NW, z ∈ lw_tbl := by decide +kernel
theorem x_NWk : ∀ q ∈ x_NW, (∃ a i r n d h, q = Cond.fieldLinkNest a i r n d h) ∨ (∃ a i x h, q = Cond.methodLinkNest a i x h) := by
  intro q hq
  simp only [x_NW, List.mem_cons, List.not_mem_nil, or_false] at hq
  rcases hq with rfl | rfl | rfl | rfl | rfl | rfl | rfl | rfl <;> exact Or.inr ⟨_, _, _, _, rfl⟩
def xR0 : String := "ActSurgery"
def xT0 : u_T := fun k => match k with
  | 0 => ("ActSurgery", "here", "LActSurgery$Graph;", false)
  | 1 => ("ActSurgery", "other", "LActSurgery$Graph;", false)
  | 2 => ("ActSurgery", "cut", "LActSurgery$Arrows;", true)
  | 3 => ("ActSurgery", "likes", "LActSurgery$LikeGraphs;", true)
  | 4 => ("ActSurgery", "one", "LActSurgery$World;", true)
  | _ => ("ActSurgery", "two", "LActSurgery$World;", true)
def xy0 : Nat → FieldType := fun k => match k with
  | 0 => .object "ActSurgery$Graph"
  | 1 => .object "ActSurgery$Graph"
  | 2 => .object "ActSurgery$Arrows"
  | 3 => .object "ActSurgery$LikeGraphs"
  | 4 => .object "ActSurgery$World"
  | _ => .object "ActSurgery$World"
theorem xn0 : ∀ a, a < 6 → ∀ b, b < 6 → a ≠ b → (xT0 a).2.1 ≠ (xT0 b).2.1 := by decide +kernel
theorem xy0_ok : ∀ k, k < 6 → parseFieldDescriptor (xT0 k).2.2.1 = some (xy0 k) := by decide +kernel
theorem x_in0_ : ∀ w ∈ u_ws xR0 xT0 6, w ∈ lw_tbl ∧ goodWord w = true := by decide +kernel
theorem x_in0 : ∀ w ∈ u_ws xR0 xT0 6, w ∈ x_GT := fun w hw => List.mem_filter.mpr (x_in0_ w hw)
theorem x_df0 : ∀ j, j < 6 → defaultValue (xy0 j) = vp_V [.null, .null, .null, .null, .null, .null] j := by decide +kernel
def xR1 : String := "ActSurgery$Arrows"
def xT1 : u_T := fun k => match k with
  | 0 => ("ActSurgery$Arrows", "size", "I", false)
  | _ => ("ActSurgery$Arrows", "parents", "[I", true)
def xy1 : Nat → FieldType := fun k => match k with
  | 0 => .int
  | _ => .array .int
theorem xn1 : ∀ a, a < 2 → ∀ b, b < 2 → a ≠ b → (xT1 a).2.1 ≠ (xT1 b).2.1 := by decide +kernel
theorem xy1_ok : ∀ k, k < 2 → parseFieldDescriptor (xT1 k).2.2.1 = some (xy1 k) := by decide +kernel
theorem x_in1_ : ∀ w ∈ u_ws xR1 xT1 2, w ∈ lw_tbl ∧ goodWord w = true := by decide +kernel
theorem x_in1 : ∀ w ∈ u_ws xR1 xT1 2, w ∈ x_GT := fun w hw => List.mem_filter.mpr (x_in1_ w hw)
theorem x_df1 : ∀ j, j < 2 → defaultValue (xy1 j) = vp_V [.int 0, .null] j := by decide +kernel
def xR2 : String := "ActSurgery$Graph"
def xT2 : u_T := fun k => match k with
  | 0 => ("ActSurgery$Graph", "arrows", "LActSurgery$Arrows;", true)
  | 1 => ("ActSurgery$Graph", "weights", "[I", true)
  | _ => ("ActSurgery$Graph", "hidden", "I", false)
def xy2 : Nat → FieldType := fun k => match k with
  | 0 => .object "ActSurgery$Arrows"
  | 1 => .array .int
  | _ => .int
theorem xn2 : ∀ a, a < 3 → ∀ b, b < 3 → a ≠ b → (xT2 a).2.1 ≠ (xT2 b).2.1 := by decide +kernel
theorem xy2_ok : ∀ k, k < 3 → parseFieldDescriptor (xT2 k).2.2.1 = some (xy2 k) := by decide +kernel
theorem x_in2_ : ∀ w ∈ u_ws xR2 xT2 3, w ∈ lw_tbl ∧ goodWord w = true := by decide +kernel
theorem x_in2 : ∀ w ∈ u_ws xR2 xT2 3, w ∈ x_GT := fun w hw => List.mem_filter.mpr (x_in2_ w hw)
theorem x_df2 : ∀ j, j < 3 → defaultValue (xy2 j) = vp_V [.null, .null, .int 0] j := by decide +kernel
def xR3 : String := "ActSurgery$World"
def xT3 : u_T := fun k => match k with
  | 0 => ("ActSurgery$World", "made", "I", false)
  | 1 => ("ActSurgery$World", "madeAs", "I", false)
  | 2 => ("ActSurgery$World", "asked", "I", false)
  | _ => ("ActSurgery$World", "askedAs", "I", false)
def xy3 : Nat → FieldType := fun k => match k with
  | 0 => .int
  | 1 => .int
  | 2 => .int
  | _ => .int
theorem xn3 : ∀ a, a < 4 → ∀ b, b < 4 → a ≠ b → (xT3 a).2.1 ≠ (xT3 b).2.1 := by decide +kernel
theorem xy3_ok : ∀ k, k < 4 → parseFieldDescriptor (xT3 k).2.2.1 = some (xy3 k) := by decide +kernel
theorem x_in3_ : ∀ w ∈ u_ws xR3 xT3 4, w ∈ lw_tbl ∧ goodWord w = true := by decide +kernel
theorem x_in3 : ∀ w ∈ u_ws xR3 xT3 4, w ∈ x_GT := fun w hw => List.mem_filter.mpr (x_in3_ w hw)
theorem x_df3 : ∀ j, j < 4 → defaultValue (xy3 j) = vp_V [.int 0, .int 0, .int 0, .int 0] j := by decide +kernel
def xR4 : String := "ActSurgery$LikeGraphs"
def xT4 : u_T := fun k => match k with
  | 0 => ("ActSurgery$LikeGraphs", "beside", "[I", true)
  | 1 => ("ActSurgery$LikeGraphs", "order", "[I", true)
  | 2 => ("ActSurgery$LikeGraphs", "parentsNow", "[I", true)
  | 3 => ("ActSurgery$LikeGraphs", "sureParents", "[I", true)
  | 4 => ("ActSurgery$LikeGraphs", "size", "I", false)
  | _ => ("ActSurgery$LikeGraphs", "found", "I", false)
def xy4 : Nat → FieldType := fun k => match k with
  | 0 => .array .int
  | 1 => .array .int
  | 2 => .array .int
  | 3 => .array .int
  | 4 => .int
  | _ => .int
theorem xn4 : ∀ a, a < 6 → ∀ b, b < 6 → a ≠ b → (xT4 a).2.1 ≠ (xT4 b).2.1 := by decide +kernel
theorem xy4_ok : ∀ k, k < 6 → parseFieldDescriptor (xT4 k).2.2.1 = some (xy4 k) := by decide +kernel
theorem x_in4_ : ∀ w ∈ u_ws xR4 xT4 6, w ∈ lw_tbl ∧ goodWord w = true := by decide +kernel
theorem x_in4 : ∀ w ∈ u_ws xR4 xT4 6, w ∈ x_GT := fun w hw => List.mem_filter.mpr (x_in4_ w hw)
theorem x_df4 : ∀ j, j < 6 → defaultValue (xy4 j) = vp_V [.null, .null, .null, .null, .int 0, .int 0] j := by decide +kernel
def xR5 : String := "ActSurgeryModel"
def xT5 : u_T := fun k => match k with
  | 0 => ("ActSurgeryModel", "many", "[I", true)
  | 1 => ("ActSurgeryModel", "parentsOf", "[I", true)
  | 2 => ("ActSurgeryModel", "weights", "[I", true)
  | 3 => ("ActSurgeryModel", "hidden", "[I", true)
  | 4 => ("ActSurgeryModel", "cut", "I", false)
  | 5 => ("ActSurgeryModel", "way", "[I", true)
  | 6 => ("ActSurgeryModel", "pairA", "[I", true)
  | 7 => ("ActSurgeryModel", "pairB", "[I", true)
  | 8 => ("ActSurgeryModel", "pairs", "I", false)
  | 9 => ("ActSurgeryModel", "from", "[I", true)
  | 10 => ("ActSurgeryModel", "sure", "[I", true)
  | _ => ("ActSurgeryModel", "likeMany", "I", false)
def xy5 : Nat → FieldType := fun k => match k with
  | 0 => .array .int
  | 1 => .array .int
  | 2 => .array .int
  | 3 => .array .int
  | 4 => .int
  | 5 => .array .int
  | 6 => .array .int
  | 7 => .array .int
  | 8 => .int
  | 9 => .array .int
  | 10 => .array .int
  | _ => .int
theorem xn5 : ∀ a, a < 12 → ∀ b, b < 12 → a ≠ b → (xT5 a).2.1 ≠ (xT5 b).2.1 := by decide +kernel
theorem xy5_ok : ∀ k, k < 12 → parseFieldDescriptor (xT5 k).2.2.1 = some (xy5 k) := by decide +kernel
theorem x_in5_ : ∀ w ∈ u_ws xR5 xT5 12, w ∈ lw_tbl ∧ goodWord w = true := by decide +kernel
theorem x_in5 : ∀ w ∈ u_ws xR5 xT5 12, w ∈ x_GT := fun w hw => List.mem_filter.mpr (x_in5_ w hw)
theorem x_df5 : ∀ j, j < 12 → defaultValue (xy5 j) = vp_V [.null, .null, .null, .null, .int 0, .null, .null, .null, .int 0, .null, .null, .int 0] j := by decide +kernel
abbrev x_cl : List vw_C := [(xR0, xT0, 6), (xR1, xT1, 2), (xR2, xT2, 3), (xR3, xT3, 4), (xR4, xT4, 6), (xR5, xT5, 12)]
def yA_init : MethodName := ⟨"ActSurgery", "<init>", "()V"⟩
abbrev cA_init : ByteArray := prog_1_method_1_code
def yA_begin : MethodName := ⟨"ActSurgery", "begin", "(I)I"⟩
abbrev cA_begin : ByteArray := prog_1_method_2_code
def yA_parents : MethodName := ⟨"ActSurgery", "parents", "(II)I"⟩
abbrev cA_parents : ByteArray := prog_1_method_3_code
def yA_weight : MethodName := ⟨"ActSurgery", "weight", "(III)I"⟩
abbrev cA_weight : ByteArray := prog_1_method_4_code
def yA_hide : MethodName := ⟨"ActSurgery", "hide", "(IZ)I"⟩
abbrev cA_hide : ByteArray := prog_1_method_5_code
def yA_count : MethodName := ⟨"ActSurgery", "count", "(I)I"⟩
abbrev cA_count : ByteArray := prog_1_method_6_code
def yA_of : MethodName := ⟨"ActSurgery", "of", "(II)I"⟩
abbrev cA_of : ByteArray := prog_1_method_7_code
def yA_parted : MethodName := ⟨"ActSurgery", "parted", "(III)I"⟩
abbrev cA_parted : ByteArray := prog_1_method_8_code
def yA_parting : MethodName := ⟨"ActSurgery", "parting", "(II)I"⟩
abbrev cA_parting : ByteArray := prog_1_method_9_code
def yA_ways : MethodName := ⟨"ActSurgery", "ways", "(III)I"⟩
abbrev cA_ways : ByteArray := prog_1_method_10_code
def yA_tells : MethodName := ⟨"ActSurgery", "tells", "(IIII)I"⟩
abbrev cA_tells : ByteArray := prog_1_method_11_code
def yA_telling : MethodName := ⟨"ActSurgery", "telling", "(III)I"⟩
abbrev cA_telling : ByteArray := prog_1_method_12_code
def yA_told : MethodName := ⟨"ActSurgery", "told", "(I)I"⟩
abbrev cA_told : ByteArray := prog_1_method_13_code
def yA_odds : MethodName := ⟨"ActSurgery", "odds", "(IIIIIII)I"⟩
abbrev cA_odds : ByteArray := prog_1_method_14_code
def yA_would : MethodName := ⟨"ActSurgery", "would", "(IIIIIII)I"⟩
abbrev cA_would : ByteArray := prog_1_method_15_code
def yA_effect : MethodName := ⟨"ActSurgery", "effect", "(II)I"⟩
abbrev cA_effect : ByteArray := prog_1_method_16_code
def yA_swayed : MethodName := ⟨"ActSurgery", "swayed", "(II)I"⟩
abbrev cA_swayed : ByteArray := prog_1_method_17_code
def yA_swap : MethodName := ⟨"ActSurgery", "swap", "()I"⟩
abbrev cA_swap : ByteArray := prog_1_method_18_code
def yA_keep : MethodName := ⟨"ActSurgery", "keep", "()I"⟩
abbrev cA_keep : ByteArray := prog_1_method_19_code
def yA_alike : MethodName := ⟨"ActSurgery", "alike", "(I)I"⟩
abbrev cA_alike : ByteArray := prog_1_method_20_code
def yA_allPlaces : MethodName := ⟨"ActSurgery", "allPlaces", "()I"⟩
abbrev cA_allPlaces : ByteArray := prog_1_method_21_code
def yA_isPlace : MethodName := ⟨"ActSurgery", "isPlace", "(I)Z"⟩
abbrev cA_isPlace : ByteArray := prog_1_method_22_code
def yA_isPair : MethodName := ⟨"ActSurgery", "isPair", "(II)Z"⟩
abbrev cA_isPair : ByteArray := prog_1_method_23_code
def yA_isValued : MethodName := ⟨"ActSurgery", "isValued", "(II)Z"⟩
abbrev cA_isValued : ByteArray := prog_1_method_24_code
def yA_isPart : MethodName := ⟨"ActSurgery", "isPart", "(I)Z"⟩
abbrev cA_isPart : ByteArray := prog_1_method_25_code
def yA_isAskOfWays : MethodName := ⟨"ActSurgery", "isAskOfWays", "(III)Z"⟩
abbrev cA_isAskOfWays : ByteArray := prog_1_method_26_code
def yA_isAskOfTelling : MethodName := ⟨"ActSurgery", "isAskOfTelling", "(III)Z"⟩
abbrev cA_isAskOfTelling : ByteArray := prog_1_method_27_code
def yA_howManyPairsParted : MethodName := ⟨"ActSurgery", "howManyPairsParted", "()I"⟩
abbrev cA_howManyPairsParted : ByteArray := prog_1_method_28_code
def yA_leastParting : MethodName := ⟨"ActSurgery", "leastParting", "(II)I"⟩
abbrev cA_leastParting : ByteArray := prog_1_method_29_code
def yA_mayTell : MethodName := ⟨"ActSurgery", "mayTell", "(II)I"⟩
abbrev cA_mayTell : ByteArray := prog_1_method_30_code
def yA_isTelling : MethodName := ⟨"ActSurgery", "isTelling", "(IIII)Z"⟩
abbrev cA_isTelling : ByteArray := prog_1_method_31_code
def yA_isBackSet : MethodName := ⟨"ActSurgery", "isBackSet", "(III)Z"⟩
abbrev cA_isBackSet : ByteArray := prog_1_method_32_code
def yA_isFrontSet : MethodName := ⟨"ActSurgery", "isFrontSet", "(III)Z"⟩
abbrev cA_isFrontSet : ByteArray := prog_1_method_33_code
def yA_isEachParted : MethodName := ⟨"ActSurgery", "isEachParted", "(LActSurgery$Arrows;III)Z"⟩
abbrev cA_isEachParted : ByteArray := prog_1_method_34_code
def yA_isInstrument : MethodName := ⟨"ActSurgery", "isInstrument", "(III)Z"⟩
abbrev cA_isInstrument : ByteArray := prog_1_method_35_code
def yA_oddsOfTwoGivenOne : MethodName := ⟨"ActSurgery", "oddsOfTwoGivenOne", "(I)I"⟩
abbrev cA_oddsOfTwoGivenOne : ByteArray := prog_1_method_36_code
def yA_haveSameOdds : MethodName := ⟨"ActSurgery", "haveSameOdds", "(III)Z"⟩
abbrev cA_haveSameOdds : ByteArray := prog_1_method_37_code
def yA_haveSameOddsOfActs : MethodName := ⟨"ActSurgery", "haveSameOddsOfActs", "()Z"⟩
abbrev cA_haveSameOddsOfActs : ByteArray := prog_1_method_38_code
def yA_asNumber : MethodName := ⟨"ActSurgery", "asNumber", "(Z)I"⟩
abbrev cA_asNumber : ByteArray := prog_1_method_39_code
def yA_has : MethodName := ⟨"ActSurgery", "has", "(II)Z"⟩
abbrev cA_has : ByteArray := prog_1_method_40_code
def yA_isWithin : MethodName := ⟨"ActSurgery", "isWithin", "(II)Z"⟩
abbrev cA_isWithin : ByteArray := prog_1_method_41_code
def yA_placesBelow : MethodName := ⟨"ActSurgery", "placesBelow", "(I)I"⟩
abbrev cA_placesBelow : ByteArray := prog_1_method_42_code
def yA_isFewer : MethodName := ⟨"ActSurgery", "isFewer", "(II)Z"⟩
abbrev cA_isFewer : ByteArray := prog_1_method_43_code
def yA_commonMeasure : MethodName := ⟨"ActSurgery", "commonMeasure", "(II)I"⟩
abbrev cA_commonMeasure : ByteArray := prog_1_method_44_code
def yR_init : MethodName := ⟨"ActSurgery$Arrows", "<init>", "()V"⟩
abbrev cR_init : ByteArray := prog_2_method_1_code
def yR_copyWithout : MethodName := ⟨"ActSurgery$Arrows", "copyWithout", "(LActSurgery$Arrows;I)V"⟩
abbrev cR_copyWithout : ByteArray := prog_2_method_2_code
def yR_howMany : MethodName := ⟨"ActSurgery$Arrows", "howMany", "()I"⟩
abbrev cR_howMany : ByteArray := prog_2_method_3_code
def yR_childrenOf : MethodName := ⟨"ActSurgery$Arrows", "childrenOf", "(I)I"⟩
abbrev cR_childrenOf : ByteArray := prog_2_method_4_code
def yR_besideOf : MethodName := ⟨"ActSurgery$Arrows", "besideOf", "(I)I"⟩
abbrev cR_besideOf : ByteArray := prog_2_method_5_code
def yR_afterOf : MethodName := ⟨"ActSurgery$Arrows", "afterOf", "(I)I"⟩
abbrev cR_afterOf : ByteArray := prog_2_method_6_code
def yR_beforeOf : MethodName := ⟨"ActSurgery$Arrows", "beforeOf", "(I)I"⟩
abbrev cR_beforeOf : ByteArray := prog_2_method_7_code
def yR_leadsPast : MethodName := ⟨"ActSurgery$Arrows", "leadsPast", "(III)Z"⟩
abbrev cR_leadsPast : ByteArray := prog_2_method_8_code
def yR_isParted : MethodName := ⟨"ActSurgery$Arrows", "isParted", "(III)Z"⟩
abbrev cR_isParted : ByteArray := prog_2_method_9_code
def yR_openWays : MethodName := ⟨"ActSurgery$Arrows", "openWays", "(III)I"⟩
abbrev cR_openWays : ByteArray := prog_2_method_10_code
def yR_openWaysOn : MethodName := ⟨"ActSurgery$Arrows", "openWaysOn", "(IIIIII)I"⟩
abbrev cR_openWaysOn : ByteArray := prog_2_method_11_code
def yR_isBeside : MethodName := ⟨"ActSurgery$Arrows", "isBeside", "(II)Z"⟩
abbrev cR_isBeside : ByteArray := prog_2_method_12_code
def yR_isOpenAt : MethodName := ⟨"ActSurgery$Arrows", "isOpenAt", "(IIII)Z"⟩
abbrev cR_isOpenAt : ByteArray := prog_2_method_13_code
def yR_hasShapeOf : MethodName := ⟨"ActSurgery$Arrows", "hasShapeOf", "(LActSurgery$Arrows;)Z"⟩
abbrev cR_hasShapeOf : ByteArray := prog_2_method_14_code
def yG_init : MethodName := ⟨"ActSurgery$Graph", "<init>", "()V"⟩
abbrev cG_init : ByteArray := prog_3_method_1_code
def yG_restart : MethodName := ⟨"ActSurgery$Graph", "restart", "(I)V"⟩
abbrev cG_restart : ByteArray := prog_3_method_2_code
def yG_copy : MethodName := ⟨"ActSurgery$Graph", "copy", "(LActSurgery$Graph;)V"⟩
abbrev cG_copy : ByteArray := prog_3_method_3_code
def yG_putParents : MethodName := ⟨"ActSurgery$Graph", "putParents", "(II)V"⟩
abbrev cG_putParents : ByteArray := prog_3_method_4_code
def yG_putWeight : MethodName := ⟨"ActSurgery$Graph", "putWeight", "(III)V"⟩
abbrev cG_putWeight : ByteArray := prog_3_method_5_code
def yG_weightAt : MethodName := ⟨"ActSurgery$Graph", "weightAt", "(II)I"⟩
abbrev cG_weightAt : ByteArray := prog_3_method_6_code
def yG_seenFrom : MethodName := ⟨"ActSurgery$Graph", "seenFrom", "(I)I"⟩
abbrev cG_seenFrom : ByteArray := prog_3_method_7_code
def yG_clumpOf : MethodName := ⟨"ActSurgery$Graph", "clumpOf", "(I)I"⟩
abbrev cG_clumpOf : ByteArray := prog_3_method_8_code
def yG_boundTo : MethodName := ⟨"ActSurgery$Graph", "boundTo", "(I)I"⟩
abbrev cG_boundTo : ByteArray := prog_3_method_9_code
def yG_howManyClumps : MethodName := ⟨"ActSurgery$Graph", "howManyClumps", "()I"⟩
abbrev cG_howManyClumps : ByteArray := prog_3_method_10_code
def yG_drawsOfBoth : MethodName := ⟨"ActSurgery$Graph", "drawsOfBoth", "(LActSurgery$World;LActSurgery$World;)I"⟩
abbrev cG_drawsOfBoth : ByteArray := prog_3_method_11_code
def yG_drawsFrom : MethodName := ⟨"ActSurgery$Graph", "drawsFrom", "(ILActSurgery$World;ILActSurgery$World;I)I"⟩
abbrev cG_drawsFrom : ByteArray := prog_3_method_12_code
def yG_numbersFor : MethodName := ⟨"ActSurgery$Graph", "numbersFor", "(IIII)I"⟩
abbrev cG_numbersFor : ByteArray := prog_3_method_13_code
def yO_init : MethodName := ⟨"ActSurgery$World", "<init>", "()V"⟩
abbrev cO_init : ByteArray := prog_5_method_1_code
def yO_become : MethodName := ⟨"ActSurgery$World", "become", "(IIII)V"⟩
abbrev cO_become : ByteArray := prog_5_method_2_code
def yO_takes : MethodName := ⟨"ActSurgery$World", "takes", "(II)Z"⟩
abbrev cO_takes : ByteArray := prog_5_method_3_code
def yO_weightIn : MethodName := ⟨"ActSurgery$World", "weightIn", "(II)I"⟩
abbrev cO_weightIn : ByteArray := prog_5_method_4_code
def yK_init : MethodName := ⟨"ActSurgery$LikeGraphs", "<init>", "()V"⟩
abbrev cK_init : ByteArray := prog_4_method_1_code
def yK_find : MethodName := ⟨"ActSurgery$LikeGraphs", "find", "(LActSurgery$Arrows;)V"⟩
abbrev cK_find : ByteArray := prog_4_method_2_code
def yK_lay : MethodName := ⟨"ActSurgery$LikeGraphs", "lay", "(LActSurgery$Arrows;II)V"⟩
abbrev cK_lay : ByteArray := prog_4_method_3_code
def yK_takeUp : MethodName := ⟨"ActSurgery$LikeGraphs", "takeUp", "()V"⟩
abbrev cK_takeUp : ByteArray := prog_4_method_4_code
def yK_isLeastOrder : MethodName := ⟨"ActSurgery$LikeGraphs", "isLeastOrder", "(II)Z"⟩
abbrev cK_isLeastOrder : ByteArray := prog_4_method_5_code
def yK_meetsAlike : MethodName := ⟨"ActSurgery$LikeGraphs", "meetsAlike", "(II)Z"⟩
abbrev cK_meetsAlike : ByteArray := prog_4_method_6_code
def yK_unjoined : MethodName := ⟨"ActSurgery$LikeGraphs", "unjoined", "(II)I"⟩
abbrev cK_unjoined : ByteArray := prog_4_method_7_code
def yK_howManySure : MethodName := ⟨"ActSurgery$LikeGraphs", "howManySure", "()I"⟩
abbrev cK_howManySure : ByteArray := prog_4_method_8_code
def yK_sureFrom : MethodName := ⟨"ActSurgery$LikeGraphs", "sureFrom", "(I)I"⟩
abbrev cK_sureFrom : ByteArray := prog_4_method_9_code
def yM_init : MethodName := ⟨"ActSurgeryModel", "<init>", "()V"⟩
abbrev cM_init : ByteArray := prog_7_method_1_code
def yM_isIn : MethodName := ⟨"ActSurgeryModel", "isIn", "(III)Z"⟩
abbrev cM_isIn : ByteArray := prog_7_method_2_code
def yM_clear : MethodName := ⟨"ActSurgeryModel", "clear", "(II)V"⟩
abbrev cM_clear : ByteArray := prog_7_method_3_code
def yM_resetWeights : MethodName := ⟨"ActSurgeryModel", "resetWeights", "(II)V"⟩
abbrev cM_resetWeights : ByteArray := prog_7_method_4_code
def yM_n : MethodName := ⟨"ActSurgeryModel", "n", "()I"⟩
abbrev cM_n : ByteArray := prog_7_method_5_code
def yM_isPlace : MethodName := ⟨"ActSurgeryModel", "isPlace", "(I)Z"⟩
abbrev cM_isPlace : ByteArray := prog_7_method_6_code
def yM_all : MethodName := ⟨"ActSurgeryModel", "all", "()I"⟩
abbrev cM_all : ByteArray := prog_7_method_7_code
def yM_isSet : MethodName := ⟨"ActSurgeryModel", "isSet", "(I)Z"⟩
abbrev cM_isSet : ByteArray := prog_7_method_8_code
def yM_ones : MethodName := ⟨"ActSurgeryModel", "ones", "(I)I"⟩
abbrev cM_ones : ByteArray := prog_7_method_9_code
def yM_has : MethodName := ⟨"ActSurgeryModel", "has", "(II)Z"⟩
abbrev cM_has : ByteArray := prog_7_method_10_code
def yM_begin : MethodName := ⟨"ActSurgeryModel", "begin", "(I)I"⟩
abbrev cM_begin : ByteArray := prog_7_method_11_code
def yM_parents : MethodName := ⟨"ActSurgeryModel", "parents", "(II)I"⟩
abbrev cM_parents : ByteArray := prog_7_method_12_code
def yM_weight : MethodName := ⟨"ActSurgeryModel", "weight", "(III)I"⟩
abbrev cM_weight : ByteArray := prog_7_method_13_code
def yM_hide : MethodName := ⟨"ActSurgeryModel", "hide", "(IZ)I"⟩
abbrev cM_hide : ByteArray := prog_7_method_14_code
def yM_isArrow : MethodName := ⟨"ActSurgeryModel", "isArrow", "(II)Z"⟩
abbrev cM_isArrow : ByteArray := prog_7_method_15_code
def yM_isJoined : MethodName := ⟨"ActSurgeryModel", "isJoined", "(II)Z"⟩
abbrev cM_isJoined : ByteArray := prog_7_method_16_code
def yM_children : MethodName := ⟨"ActSurgeryModel", "children", "(I)I"⟩
abbrev cM_children : ByteArray := prog_7_method_17_code
def yM_reach : MethodName := ⟨"ActSurgeryModel", "reach", "(II)I"⟩
abbrev cM_reach : ByteArray := prog_7_method_18_code
def yM_after : MethodName := ⟨"ActSurgeryModel", "after", "(I)I"⟩
abbrev cM_after : ByteArray := prog_7_method_19_code
def yM_isOpen : MethodName := ⟨"ActSurgeryModel", "isOpen", "(II)Z"⟩
abbrev cM_isOpen : ByteArray := prog_7_method_20_code
def yM_waysOf : MethodName := ⟨"ActSurgeryModel", "waysOf", "(III)I"⟩
abbrev cM_waysOf : ByteArray := prog_7_method_21_code
def yM_isPair : MethodName := ⟨"ActSurgeryModel", "isPair", "(III)Z"⟩
abbrev cM_isPair : ByteArray := prog_7_method_22_code
def yM_parted : MethodName := ⟨"ActSurgeryModel", "parted", "(III)I"⟩
abbrev cM_parted : ByteArray := prog_7_method_23_code
def yM_ways : MethodName := ⟨"ActSurgeryModel", "ways", "(III)I"⟩
abbrev cM_ways : ByteArray := prog_7_method_24_code
def yM_partingOf : MethodName := ⟨"ActSurgeryModel", "partingOf", "(II)I"⟩
abbrev cM_partingOf : ByteArray := prog_7_method_25_code
def yM_parting : MethodName := ⟨"ActSurgeryModel", "parting", "(II)I"⟩
abbrev cM_parting : ByteArray := prog_7_method_26_code
def yM_isBack : MethodName := ⟨"ActSurgeryModel", "isBack", "(III)Z"⟩
abbrev cM_isBack : ByteArray := prog_7_method_27_code
def yM_isFront : MethodName := ⟨"ActSurgeryModel", "isFront", "(III)Z"⟩
abbrev cM_isFront : ByteArray := prog_7_method_28_code
def yM_isInstrument : MethodName := ⟨"ActSurgeryModel", "isInstrument", "(III)Z"⟩
abbrev cM_isInstrument : ByteArray := prog_7_method_29_code
def yM_only : MethodName := ⟨"ActSurgeryModel", "only", "(I)I"⟩
abbrev cM_only : ByteArray := prog_7_method_30_code
def yM_isTelling : MethodName := ⟨"ActSurgeryModel", "isTelling", "(IIII)Z"⟩
abbrev cM_isTelling : ByteArray := prog_7_method_31_code
def yM_isSeenPair : MethodName := ⟨"ActSurgeryModel", "isSeenPair", "(III)Z"⟩
abbrev cM_isSeenPair : ByteArray := prog_7_method_32_code
def yM_isSeenSet : MethodName := ⟨"ActSurgeryModel", "isSeenSet", "(III)Z"⟩
abbrev cM_isSeenSet : ByteArray := prog_7_method_33_code
def yM_tells : MethodName := ⟨"ActSurgeryModel", "tells", "(IIII)I"⟩
abbrev cM_tells : ByteArray := prog_7_method_34_code
def yM_telling : MethodName := ⟨"ActSurgeryModel", "telling", "(III)I"⟩
abbrev cM_telling : ByteArray := prog_7_method_35_code
def yM_isBound : MethodName := ⟨"ActSurgeryModel", "isBound", "(II)Z"⟩
abbrev cM_isBound : ByteArray := prog_7_method_36_code
def yM_clumpOf : MethodName := ⟨"ActSurgeryModel", "clumpOf", "(I)I"⟩
abbrev cM_clumpOf : ByteArray := prog_7_method_37_code
def yM_clumps : MethodName := ⟨"ActSurgeryModel", "clumps", "()I"⟩
abbrev cM_clumps : ByteArray := prog_7_method_38_code
def yM_told : MethodName := ⟨"ActSurgeryModel", "told", "(I)I"⟩
abbrev cM_told : ByteArray := prog_7_method_39_code
def yM_meets : MethodName := ⟨"ActSurgeryModel", "meets", "([IIIII)Z"⟩
abbrev cM_meets : ByteArray := prog_7_method_40_code
def yM_hasShape : MethodName := ⟨"ActSurgeryModel", "hasShape", "(I)Z"⟩
abbrev cM_hasShape : ByteArray := prog_7_method_41_code
def yM_hasNoRing : MethodName := ⟨"ActSurgeryModel", "hasNoRing", "(I)Z"⟩
abbrev cM_hasNoRing : ByteArray := prog_7_method_42_code
def yM_findLike : MethodName := ⟨"ActSurgeryModel", "findLike", "()V"⟩
abbrev cM_findLike : ByteArray := prog_7_method_43_code
def yM_sureFrom : MethodName := ⟨"ActSurgeryModel", "sureFrom", "(I)I"⟩
abbrev cM_sureFrom : ByteArray := prog_7_method_44_code
def yM_count : MethodName := ⟨"ActSurgeryModel", "count", "(I)I"⟩
abbrev cM_count : ByteArray := prog_7_method_45_code
def yM_partedPairs : MethodName := ⟨"ActSurgeryModel", "partedPairs", "()I"⟩
abbrev cM_partedPairs : ByteArray := prog_7_method_46_code
def yM_before : MethodName := ⟨"ActSurgeryModel", "before", "(I)I"⟩
abbrev cM_before : ByteArray := prog_7_method_47_code
def yM_of : MethodName := ⟨"ActSurgeryModel", "of", "(II)I"⟩
abbrev cM_of : ByteArray := prog_7_method_48_code
def yM_draws : MethodName := ⟨"ActSurgeryModel", "draws", "(IIII)J"⟩
abbrev cM_draws : ByteArray := prog_7_method_49_code
def yM_twoDraws : MethodName := ⟨"ActSurgeryModel", "twoDraws", "(IIIIII)J"⟩
abbrev cM_twoDraws : ByteArray := prog_7_method_50_code
def yM_divisor : MethodName := ⟨"ActSurgeryModel", "divisor", "(JJ)J"⟩
abbrev cM_divisor : ByteArray := prog_7_method_51_code
def yM_part : MethodName := ⟨"ActSurgeryModel", "part", "(JJI)I"⟩
abbrev cM_part : ByteArray := prog_7_method_52_code
def yM_isValues : MethodName := ⟨"ActSurgeryModel", "isValues", "(II)Z"⟩
abbrev cM_isValues : ByteArray := prog_7_method_53_code
def yM_odds : MethodName := ⟨"ActSurgeryModel", "odds", "(IIIIIII)I"⟩
abbrev cM_odds : ByteArray := prog_7_method_54_code
def yM_would : MethodName := ⟨"ActSurgeryModel", "would", "(IIIIIII)I"⟩
abbrev cM_would : ByteArray := prog_7_method_55_code
def yM_ofOne : MethodName := ⟨"ActSurgeryModel", "ofOne", "(III)J"⟩
abbrev cM_ofOne : ByteArray := prog_7_method_56_code
def yM_effect : MethodName := ⟨"ActSurgeryModel", "effect", "(II)I"⟩
abbrev cM_effect : ByteArray := prog_7_method_57_code
def yM_swayed : MethodName := ⟨"ActSurgeryModel", "swayed", "(II)I"⟩
abbrev cM_swayed : ByteArray := prog_7_method_58_code
def yM_swayedDraws : MethodName := ⟨"ActSurgeryModel", "swayedDraws", "(III)J"⟩
abbrev cM_swayedDraws : ByteArray := prog_7_method_59_code
def yM_swap : MethodName := ⟨"ActSurgeryModel", "swap", "()I"⟩
abbrev cM_swap : ByteArray := prog_7_method_60_code
def yM_keep : MethodName := ⟨"ActSurgeryModel", "keep", "()I"⟩
abbrev cM_keep : ByteArray := prog_7_method_61_code
def yM_sameOdds : MethodName := ⟨"ActSurgeryModel", "sameOdds", "(II)Z"⟩
abbrev cM_sameOdds : ByteArray := prog_7_method_62_code
def yM_sameWhatever : MethodName := ⟨"ActSurgeryModel", "sameWhatever", "()Z"⟩
abbrev cM_sameWhatever : ByteArray := prog_7_method_63_code
def yM_sameSeen : MethodName := ⟨"ActSurgeryModel", "sameSeen", "()Z"⟩
abbrev cM_sameSeen : ByteArray := prog_7_method_64_code
def yM_sameShape : MethodName := ⟨"ActSurgeryModel", "sameShape", "()Z"⟩
abbrev cM_sameShape : ByteArray := prog_7_method_65_code
def yM_alike : MethodName := ⟨"ActSurgeryModel", "alike", "(I)I"⟩
abbrev cM_alike : ByteArray := prog_7_method_66_code
def yI_bitCount : MethodName := ⟨"java/lang/Integer", "bitCount", "(I)I"⟩
abbrev cI_bitCount : ByteArray := prog_8_method_49_code
theorem tw_1_43 : (Jvm.Cond.arrayClass Jvm.ClassFile.FieldType.int) ∈ x_GT := x_t1 43 rfl rfl
theorem x_arr : Cond.arrayClass .int ∈ x_GT := tw_1_43
