section
-- ===== PART A: goes FIRST, ahead of the names: the tables' words, and 'selects' of the private methods out of them =====
/-- a private method of a class that the tables say can be made, by its rows of tables_1 -/
def lw_okq (q : MethodName × Nat) : Prop := (q.1.cls ≠ "java/lang/invoke/MethodHandle" ∧ q.1.cls ≠ "java/lang/invoke/VarHandle") ∧ Cond.instantiable q.1.cls q.2 ∈ tables_1 ∧ Cond.privateMethod q.1 ∈ tables_1 ∧ Cond.instanceMethod q.1 ∈ tables_1
theorem lw_p0 : lw_okq (⟨"ActSurgery", "isPlace", "(I)Z"⟩, 6) := ⟨⟨by decide +kernel, by decide +kernel⟩, List.mem_of_getElem? (i := 11) (by decide +kernel), List.mem_of_getElem? (i := 144) (by decide +kernel), List.mem_of_getElem? (i := 145) (by decide +kernel)⟩
theorem lw_p1 : lw_okq (⟨"ActSurgery$LikeGraphs", "lay", "(LActSurgery$Arrows;II)V"⟩, 6) := ⟨⟨by decide +kernel, by decide +kernel⟩, List.mem_of_getElem? (i := 71) (by decide +kernel), List.mem_of_getElem? (i := 201) (by decide +kernel), List.mem_of_getElem? (i := 202) (by decide +kernel)⟩
theorem lw_p2 : lw_okq (⟨"ActSurgery$LikeGraphs", "takeUp", "()V"⟩, 6) := ⟨⟨by decide +kernel, by decide +kernel⟩, List.mem_of_getElem? (i := 71) (by decide +kernel), List.mem_of_getElem? (i := 205) (by decide +kernel), List.mem_of_getElem? (i := 206) (by decide +kernel)⟩
theorem lw_p3 : lw_okq (⟨"ActSurgery$LikeGraphs", "isLeastOrder", "(II)Z"⟩, 6) := ⟨⟨by decide +kernel, by decide +kernel⟩, List.mem_of_getElem? (i := 71) (by decide +kernel), List.mem_of_getElem? (i := 210) (by decide +kernel), List.mem_of_getElem? (i := 211) (by decide +kernel)⟩
theorem lw_p4 : lw_okq (⟨"ActSurgery$LikeGraphs", "meetsAlike", "(II)Z"⟩, 6) := ⟨⟨by decide +kernel, by decide +kernel⟩, List.mem_of_getElem? (i := 71) (by decide +kernel), List.mem_of_getElem? (i := 214) (by decide +kernel), List.mem_of_getElem? (i := 215) (by decide +kernel)⟩
theorem lw_p5 : lw_okq (⟨"ActSurgery$LikeGraphs", "unjoined", "(II)I"⟩, 6) := ⟨⟨by decide +kernel, by decide +kernel⟩, List.mem_of_getElem? (i := 71) (by decide +kernel), List.mem_of_getElem? (i := 218) (by decide +kernel), List.mem_of_getElem? (i := 219) (by decide +kernel)⟩
theorem lw_p6 : lw_okq (⟨"ActSurgery$Graph", "boundTo", "(I)I"⟩, 3) := ⟨⟨by decide +kernel, by decide +kernel⟩, List.mem_of_getElem? (i := 19) (by decide +kernel), List.mem_of_getElem? (i := 236) (by decide +kernel), List.mem_of_getElem? (i := 237) (by decide +kernel)⟩
theorem lw_p7 : lw_okq (⟨"ActSurgery", "howManyPairsParted", "()I"⟩, 6) := ⟨⟨by decide +kernel, by decide +kernel⟩, List.mem_of_getElem? (i := 11) (by decide +kernel), List.mem_of_getElem? (i := 244) (by decide +kernel), List.mem_of_getElem? (i := 245) (by decide +kernel)⟩
theorem lw_p8 : lw_okq (⟨"ActSurgery", "leastParting", "(II)I"⟩, 6) := ⟨⟨by decide +kernel, by decide +kernel⟩, List.mem_of_getElem? (i := 11) (by decide +kernel), List.mem_of_getElem? (i := 248) (by decide +kernel), List.mem_of_getElem? (i := 249) (by decide +kernel)⟩
theorem lw_p9 : lw_okq (⟨"ActSurgery", "allPlaces", "()I"⟩, 6) := ⟨⟨by decide +kernel, by decide +kernel⟩, List.mem_of_getElem? (i := 11) (by decide +kernel), List.mem_of_getElem? (i := 252) (by decide +kernel), List.mem_of_getElem? (i := 253) (by decide +kernel)⟩
theorem lw_p10 : lw_okq (⟨"ActSurgery$Arrows", "openWaysOn", "(IIIIII)I"⟩, 2) := ⟨⟨by decide +kernel, by decide +kernel⟩, List.mem_of_getElem? (i := 25) (by decide +kernel), List.mem_of_getElem? (i := 264) (by decide +kernel), List.mem_of_getElem? (i := 265) (by decide +kernel)⟩
theorem lw_p11 : lw_okq (⟨"ActSurgery$Arrows", "isBeside", "(II)Z"⟩, 2) := ⟨⟨by decide +kernel, by decide +kernel⟩, List.mem_of_getElem? (i := 25) (by decide +kernel), List.mem_of_getElem? (i := 268) (by decide +kernel), List.mem_of_getElem? (i := 269) (by decide +kernel)⟩
theorem lw_p12 : lw_okq (⟨"ActSurgery$Arrows", "isOpenAt", "(IIII)Z"⟩, 2) := ⟨⟨by decide +kernel, by decide +kernel⟩, List.mem_of_getElem? (i := 25) (by decide +kernel), List.mem_of_getElem? (i := 272) (by decide +kernel), List.mem_of_getElem? (i := 273) (by decide +kernel)⟩
theorem lw_p13 : lw_okq (⟨"ActSurgery", "isAskOfWays", "(III)Z"⟩, 6) := ⟨⟨by decide +kernel, by decide +kernel⟩, List.mem_of_getElem? (i := 11) (by decide +kernel), List.mem_of_getElem? (i := 299) (by decide +kernel), List.mem_of_getElem? (i := 300) (by decide +kernel)⟩
theorem lw_p14 : lw_okq (⟨"ActSurgery", "isPair", "(II)Z"⟩, 6) := ⟨⟨by decide +kernel, by decide +kernel⟩, List.mem_of_getElem? (i := 11) (by decide +kernel), List.mem_of_getElem? (i := 303) (by decide +kernel), List.mem_of_getElem? (i := 304) (by decide +kernel)⟩
theorem lw_p15 : lw_okq (⟨"ActSurgery", "isAskOfTelling", "(III)Z"⟩, 6) := ⟨⟨by decide +kernel, by decide +kernel⟩, List.mem_of_getElem? (i := 11) (by decide +kernel), List.mem_of_getElem? (i := 323) (by decide +kernel), List.mem_of_getElem? (i := 324) (by decide +kernel)⟩
def lw_privs_1 : List (MethodName × Nat) := [(⟨"ActSurgery", "isPlace", "(I)Z"⟩, 6), (⟨"ActSurgery$LikeGraphs", "lay", "(LActSurgery$Arrows;II)V"⟩, 6), (⟨"ActSurgery$LikeGraphs", "takeUp", "()V"⟩, 6), (⟨"ActSurgery$LikeGraphs", "isLeastOrder", "(II)Z"⟩, 6), (⟨"ActSurgery$LikeGraphs", "meetsAlike", "(II)Z"⟩, 6), (⟨"ActSurgery$LikeGraphs", "unjoined", "(II)I"⟩, 6), (⟨"ActSurgery$Graph", "boundTo", "(I)I"⟩, 3), (⟨"ActSurgery", "howManyPairsParted", "()I"⟩, 6), (⟨"ActSurgery", "leastParting", "(II)I"⟩, 6), (⟨"ActSurgery", "allPlaces", "()I"⟩, 6), (⟨"ActSurgery$Arrows", "openWaysOn", "(IIIIII)I"⟩, 2), (⟨"ActSurgery$Arrows", "isBeside", "(II)Z"⟩, 2), (⟨"ActSurgery$Arrows", "isOpenAt", "(IIII)Z"⟩, 2), (⟨"ActSurgery", "isAskOfWays", "(III)Z"⟩, 6), (⟨"ActSurgery", "isPair", "(II)Z"⟩, 6), (⟨"ActSurgery", "isAskOfTelling", "(III)Z"⟩, 6)]
theorem lw_r1 : ∀ q ∈ lw_privs_1, lw_okq q := List.forall_mem_cons.mpr ⟨lw_p0, List.forall_mem_cons.mpr ⟨lw_p1, List.forall_mem_cons.mpr ⟨lw_p2, List.forall_mem_cons.mpr ⟨lw_p3, List.forall_mem_cons.mpr ⟨lw_p4, List.forall_mem_cons.mpr ⟨lw_p5, List.forall_mem_cons.mpr ⟨lw_p6, List.forall_mem_cons.mpr ⟨lw_p7, List.forall_mem_cons.mpr ⟨lw_p8, List.forall_mem_cons.mpr ⟨lw_p9, List.forall_mem_cons.mpr ⟨lw_p10, List.forall_mem_cons.mpr ⟨lw_p11, List.forall_mem_cons.mpr ⟨lw_p12, List.forall_mem_cons.mpr ⟨lw_p13, List.forall_mem_cons.mpr ⟨lw_p14, List.forall_mem_cons.mpr ⟨lw_p15, fun _ h => absurd h List.not_mem_nil⟩⟩⟩⟩⟩⟩⟩⟩⟩⟩⟩⟩⟩⟩⟩⟩
theorem lw_p16 : lw_okq (⟨"ActSurgery", "mayTell", "(II)I"⟩, 6) := ⟨⟨by decide +kernel, by decide +kernel⟩, List.mem_of_getElem? (i := 11) (by decide +kernel), List.mem_of_getElem? (i := 327) (by decide +kernel), List.mem_of_getElem? (i := 328) (by decide +kernel)⟩
theorem lw_p17 : lw_okq (⟨"ActSurgery", "isTelling", "(IIII)Z"⟩, 6) := ⟨⟨by decide +kernel, by decide +kernel⟩, List.mem_of_getElem? (i := 11) (by decide +kernel), List.mem_of_getElem? (i := 331) (by decide +kernel), List.mem_of_getElem? (i := 332) (by decide +kernel)⟩
theorem lw_p18 : lw_okq (⟨"ActSurgery", "isBackSet", "(III)Z"⟩, 6) := ⟨⟨by decide +kernel, by decide +kernel⟩, List.mem_of_getElem? (i := 11) (by decide +kernel), List.mem_of_getElem? (i := 335) (by decide +kernel), List.mem_of_getElem? (i := 336) (by decide +kernel)⟩
theorem lw_p19 : lw_okq (⟨"ActSurgery", "isFrontSet", "(III)Z"⟩, 6) := ⟨⟨by decide +kernel, by decide +kernel⟩, List.mem_of_getElem? (i := 11) (by decide +kernel), List.mem_of_getElem? (i := 343) (by decide +kernel), List.mem_of_getElem? (i := 344) (by decide +kernel)⟩
theorem lw_p20 : lw_okq (⟨"ActSurgery", "isInstrument", "(III)Z"⟩, 6) := ⟨⟨by decide +kernel, by decide +kernel⟩, List.mem_of_getElem? (i := 11) (by decide +kernel), List.mem_of_getElem? (i := 354) (by decide +kernel), List.mem_of_getElem? (i := 355) (by decide +kernel)⟩
theorem lw_p21 : lw_okq (⟨"ActSurgery", "isValued", "(II)Z"⟩, 6) := ⟨⟨by decide +kernel, by decide +kernel⟩, List.mem_of_getElem? (i := 11) (by decide +kernel), List.mem_of_getElem? (i := 371) (by decide +kernel), List.mem_of_getElem? (i := 372) (by decide +kernel)⟩
theorem lw_p22 : lw_okq (⟨"ActSurgery", "isPart", "(I)Z"⟩, 6) := ⟨⟨by decide +kernel, by decide +kernel⟩, List.mem_of_getElem? (i := 11) (by decide +kernel), List.mem_of_getElem? (i := 375) (by decide +kernel), List.mem_of_getElem? (i := 376) (by decide +kernel)⟩
theorem lw_p23 : lw_okq (⟨"ActSurgery", "oddsOfTwoGivenOne", "(I)I"⟩, 6) := ⟨⟨by decide +kernel, by decide +kernel⟩, List.mem_of_getElem? (i := 11) (by decide +kernel), List.mem_of_getElem? (i := 383) (by decide +kernel), List.mem_of_getElem? (i := 384) (by decide +kernel)⟩
theorem lw_p24 : lw_okq (⟨"ActSurgery$Graph", "drawsFrom", "(ILActSurgery$World;ILActSurgery$World;I)I"⟩, 3) := ⟨⟨by decide +kernel, by decide +kernel⟩, List.mem_of_getElem? (i := 19) (by decide +kernel), List.mem_of_getElem? (i := 391) (by decide +kernel), List.mem_of_getElem? (i := 392) (by decide +kernel)⟩
theorem lw_p25 : lw_okq (⟨"ActSurgery", "haveSameOdds", "(III)Z"⟩, 6) := ⟨⟨by decide +kernel, by decide +kernel⟩, List.mem_of_getElem? (i := 11) (by decide +kernel), List.mem_of_getElem? (i := 454) (by decide +kernel), List.mem_of_getElem? (i := 455) (by decide +kernel)⟩
theorem lw_p26 : lw_okq (⟨"ActSurgery", "haveSameOddsOfActs", "()Z"⟩, 6) := ⟨⟨by decide +kernel, by decide +kernel⟩, List.mem_of_getElem? (i := 11) (by decide +kernel), List.mem_of_getElem? (i := 458) (by decide +kernel), List.mem_of_getElem? (i := 459) (by decide +kernel)⟩
theorem lw_p27 : lw_okq (⟨"ActSurgeryModel", "clear", "(II)V"⟩, 12) := ⟨⟨by decide +kernel, by decide +kernel⟩, List.mem_of_getElem? (i := 462) (by decide +kernel), List.mem_of_getElem? (i := 468) (by decide +kernel), List.mem_of_getElem? (i := 469) (by decide +kernel)⟩
theorem lw_p28 : lw_okq (⟨"ActSurgeryModel", "resetWeights", "(II)V"⟩, 12) := ⟨⟨by decide +kernel, by decide +kernel⟩, List.mem_of_getElem? (i := 462) (by decide +kernel), List.mem_of_getElem? (i := 472) (by decide +kernel), List.mem_of_getElem? (i := 473) (by decide +kernel)⟩
theorem lw_p29 : lw_okq (⟨"ActSurgeryModel", "n", "()I"⟩, 12) := ⟨⟨by decide +kernel, by decide +kernel⟩, List.mem_of_getElem? (i := 462) (by decide +kernel), List.mem_of_getElem? (i := 520) (by decide +kernel), List.mem_of_getElem? (i := 521) (by decide +kernel)⟩
theorem lw_p30 : lw_okq (⟨"ActSurgeryModel", "isPlace", "(I)Z"⟩, 12) := ⟨⟨by decide +kernel, by decide +kernel⟩, List.mem_of_getElem? (i := 462) (by decide +kernel), List.mem_of_getElem? (i := 528) (by decide +kernel), List.mem_of_getElem? (i := 529) (by decide +kernel)⟩
theorem lw_p31 : lw_okq (⟨"ActSurgeryModel", "isSet", "(I)Z"⟩, 12) := ⟨⟨by decide +kernel, by decide +kernel⟩, List.mem_of_getElem? (i := 462) (by decide +kernel), List.mem_of_getElem? (i := 536) (by decide +kernel), List.mem_of_getElem? (i := 537) (by decide +kernel)⟩
def lw_privs_2 : List (MethodName × Nat) := [(⟨"ActSurgery", "mayTell", "(II)I"⟩, 6), (⟨"ActSurgery", "isTelling", "(IIII)Z"⟩, 6), (⟨"ActSurgery", "isBackSet", "(III)Z"⟩, 6), (⟨"ActSurgery", "isFrontSet", "(III)Z"⟩, 6), (⟨"ActSurgery", "isInstrument", "(III)Z"⟩, 6), (⟨"ActSurgery", "isValued", "(II)Z"⟩, 6), (⟨"ActSurgery", "isPart", "(I)Z"⟩, 6), (⟨"ActSurgery", "oddsOfTwoGivenOne", "(I)I"⟩, 6), (⟨"ActSurgery$Graph", "drawsFrom", "(ILActSurgery$World;ILActSurgery$World;I)I"⟩, 3), (⟨"ActSurgery", "haveSameOdds", "(III)Z"⟩, 6), (⟨"ActSurgery", "haveSameOddsOfActs", "()Z"⟩, 6), (⟨"ActSurgeryModel", "clear", "(II)V"⟩, 12), (⟨"ActSurgeryModel", "resetWeights", "(II)V"⟩, 12), (⟨"ActSurgeryModel", "n", "()I"⟩, 12), (⟨"ActSurgeryModel", "isPlace", "(I)Z"⟩, 12), (⟨"ActSurgeryModel", "isSet", "(I)Z"⟩, 12)]
theorem lw_r2 : ∀ q ∈ lw_privs_2, lw_okq q := List.forall_mem_cons.mpr ⟨lw_p16, List.forall_mem_cons.mpr ⟨lw_p17, List.forall_mem_cons.mpr ⟨lw_p18, List.forall_mem_cons.mpr ⟨lw_p19, List.forall_mem_cons.mpr ⟨lw_p20, List.forall_mem_cons.mpr ⟨lw_p21, List.forall_mem_cons.mpr ⟨lw_p22, List.forall_mem_cons.mpr ⟨lw_p23, List.forall_mem_cons.mpr ⟨lw_p24, List.forall_mem_cons.mpr ⟨lw_p25, List.forall_mem_cons.mpr ⟨lw_p26, List.forall_mem_cons.mpr ⟨lw_p27, List.forall_mem_cons.mpr ⟨lw_p28, List.forall_mem_cons.mpr ⟨lw_p29, List.forall_mem_cons.mpr ⟨lw_p30, List.forall_mem_cons.mpr ⟨lw_p31, fun _ h => absurd h List.not_mem_nil⟩⟩⟩⟩⟩⟩⟩⟩⟩⟩⟩⟩⟩⟩⟩⟩
theorem lw_p32 : lw_okq (⟨"ActSurgeryModel", "all", "()I"⟩, 12) := ⟨⟨by decide +kernel, by decide +kernel⟩, List.mem_of_getElem? (i := 462) (by decide +kernel), List.mem_of_getElem? (i := 540) (by decide +kernel), List.mem_of_getElem? (i := 541) (by decide +kernel)⟩
theorem lw_p33 : lw_okq (⟨"ActSurgeryModel", "isPair", "(III)Z"⟩, 12) := ⟨⟨by decide +kernel, by decide +kernel⟩, List.mem_of_getElem? (i := 462) (by decide +kernel), List.mem_of_getElem? (i := 552) (by decide +kernel), List.mem_of_getElem? (i := 553) (by decide +kernel)⟩
theorem lw_p34 : lw_okq (⟨"ActSurgeryModel", "waysOf", "(III)I"⟩, 12) := ⟨⟨by decide +kernel, by decide +kernel⟩, List.mem_of_getElem? (i := 462) (by decide +kernel), List.mem_of_getElem? (i := 559) (by decide +kernel), List.mem_of_getElem? (i := 560) (by decide +kernel)⟩
theorem lw_p35 : lw_okq (⟨"ActSurgeryModel", "isJoined", "(II)Z"⟩, 12) := ⟨⟨by decide +kernel, by decide +kernel⟩, List.mem_of_getElem? (i := 462) (by decide +kernel), List.mem_of_getElem? (i := 563) (by decide +kernel), List.mem_of_getElem? (i := 564) (by decide +kernel)⟩
theorem lw_p36 : lw_okq (⟨"ActSurgeryModel", "isArrow", "(II)Z"⟩, 12) := ⟨⟨by decide +kernel, by decide +kernel⟩, List.mem_of_getElem? (i := 462) (by decide +kernel), List.mem_of_getElem? (i := 567) (by decide +kernel), List.mem_of_getElem? (i := 568) (by decide +kernel)⟩
theorem lw_p37 : lw_okq (⟨"ActSurgeryModel", "isOpen", "(II)Z"⟩, 12) := ⟨⟨by decide +kernel, by decide +kernel⟩, List.mem_of_getElem? (i := 462) (by decide +kernel), List.mem_of_getElem? (i := 571) (by decide +kernel), List.mem_of_getElem? (i := 572) (by decide +kernel)⟩
theorem lw_p38 : lw_okq (⟨"ActSurgeryModel", "after", "(I)I"⟩, 12) := ⟨⟨by decide +kernel, by decide +kernel⟩, List.mem_of_getElem? (i := 462) (by decide +kernel), List.mem_of_getElem? (i := 575) (by decide +kernel), List.mem_of_getElem? (i := 576) (by decide +kernel)⟩
theorem lw_p39 : lw_okq (⟨"ActSurgeryModel", "reach", "(II)I"⟩, 12) := ⟨⟨by decide +kernel, by decide +kernel⟩, List.mem_of_getElem? (i := 462) (by decide +kernel), List.mem_of_getElem? (i := 579) (by decide +kernel), List.mem_of_getElem? (i := 580) (by decide +kernel)⟩
theorem lw_p40 : lw_okq (⟨"ActSurgeryModel", "children", "(I)I"⟩, 12) := ⟨⟨by decide +kernel, by decide +kernel⟩, List.mem_of_getElem? (i := 462) (by decide +kernel), List.mem_of_getElem? (i := 583) (by decide +kernel), List.mem_of_getElem? (i := 584) (by decide +kernel)⟩
theorem lw_p41 : lw_okq (⟨"ActSurgeryModel", "partingOf", "(II)I"⟩, 12) := ⟨⟨by decide +kernel, by decide +kernel⟩, List.mem_of_getElem? (i := 462) (by decide +kernel), List.mem_of_getElem? (i := 595) (by decide +kernel), List.mem_of_getElem? (i := 596) (by decide +kernel)⟩
theorem lw_p42 : lw_okq (⟨"ActSurgeryModel", "isSeenPair", "(III)Z"⟩, 12) := ⟨⟨by decide +kernel, by decide +kernel⟩, List.mem_of_getElem? (i := 462) (by decide +kernel), List.mem_of_getElem? (i := 606) (by decide +kernel), List.mem_of_getElem? (i := 607) (by decide +kernel)⟩
theorem lw_p43 : lw_okq (⟨"ActSurgeryModel", "isSeenSet", "(III)Z"⟩, 12) := ⟨⟨by decide +kernel, by decide +kernel⟩, List.mem_of_getElem? (i := 462) (by decide +kernel), List.mem_of_getElem? (i := 610) (by decide +kernel), List.mem_of_getElem? (i := 611) (by decide +kernel)⟩
theorem lw_p44 : lw_okq (⟨"ActSurgeryModel", "isTelling", "(IIII)Z"⟩, 12) := ⟨⟨by decide +kernel, by decide +kernel⟩, List.mem_of_getElem? (i := 462) (by decide +kernel), List.mem_of_getElem? (i := 614) (by decide +kernel), List.mem_of_getElem? (i := 615) (by decide +kernel)⟩
theorem lw_p45 : lw_okq (⟨"ActSurgeryModel", "isBack", "(III)Z"⟩, 12) := ⟨⟨by decide +kernel, by decide +kernel⟩, List.mem_of_getElem? (i := 462) (by decide +kernel), List.mem_of_getElem? (i := 618) (by decide +kernel), List.mem_of_getElem? (i := 619) (by decide +kernel)⟩
theorem lw_p46 : lw_okq (⟨"ActSurgeryModel", "isFront", "(III)Z"⟩, 12) := ⟨⟨by decide +kernel, by decide +kernel⟩, List.mem_of_getElem? (i := 462) (by decide +kernel), List.mem_of_getElem? (i := 622) (by decide +kernel), List.mem_of_getElem? (i := 623) (by decide +kernel)⟩
theorem lw_p47 : lw_okq (⟨"ActSurgeryModel", "isInstrument", "(III)Z"⟩, 12) := ⟨⟨by decide +kernel, by decide +kernel⟩, List.mem_of_getElem? (i := 462) (by decide +kernel), List.mem_of_getElem? (i := 629) (by decide +kernel), List.mem_of_getElem? (i := 630) (by decide +kernel)⟩
def lw_privs_3 : List (MethodName × Nat) := [(⟨"ActSurgeryModel", "all", "()I"⟩, 12), (⟨"ActSurgeryModel", "isPair", "(III)Z"⟩, 12), (⟨"ActSurgeryModel", "waysOf", "(III)I"⟩, 12), (⟨"ActSurgeryModel", "isJoined", "(II)Z"⟩, 12), (⟨"ActSurgeryModel", "isArrow", "(II)Z"⟩, 12), (⟨"ActSurgeryModel", "isOpen", "(II)Z"⟩, 12), (⟨"ActSurgeryModel", "after", "(I)I"⟩, 12), (⟨"ActSurgeryModel", "reach", "(II)I"⟩, 12), (⟨"ActSurgeryModel", "children", "(I)I"⟩, 12), (⟨"ActSurgeryModel", "partingOf", "(II)I"⟩, 12), (⟨"ActSurgeryModel", "isSeenPair", "(III)Z"⟩, 12), (⟨"ActSurgeryModel", "isSeenSet", "(III)Z"⟩, 12), (⟨"ActSurgeryModel", "isTelling", "(IIII)Z"⟩, 12), (⟨"ActSurgeryModel", "isBack", "(III)Z"⟩, 12), (⟨"ActSurgeryModel", "isFront", "(III)Z"⟩, 12), (⟨"ActSurgeryModel", "isInstrument", "(III)Z"⟩, 12)]
theorem lw_r3 : ∀ q ∈ lw_privs_3, lw_okq q := List.forall_mem_cons.mpr ⟨lw_p32, List.forall_mem_cons.mpr ⟨lw_p33, List.forall_mem_cons.mpr ⟨lw_p34, List.forall_mem_cons.mpr ⟨lw_p35, List.forall_mem_cons.mpr ⟨lw_p36, List.forall_mem_cons.mpr ⟨lw_p37, List.forall_mem_cons.mpr ⟨lw_p38, List.forall_mem_cons.mpr ⟨lw_p39, List.forall_mem_cons.mpr ⟨lw_p40, List.forall_mem_cons.mpr ⟨lw_p41, List.forall_mem_cons.mpr ⟨lw_p42, List.forall_mem_cons.mpr ⟨lw_p43, List.forall_mem_cons.mpr ⟨lw_p44, List.forall_mem_cons.mpr ⟨lw_p45, List.forall_mem_cons.mpr ⟨lw_p46, List.forall_mem_cons.mpr ⟨lw_p47, fun _ h => absurd h List.not_mem_nil⟩⟩⟩⟩⟩⟩⟩⟩⟩⟩⟩⟩⟩⟩⟩⟩
theorem lw_p48 : lw_okq (⟨"ActSurgeryModel", "clumpOf", "(I)I"⟩, 12) := ⟨⟨by decide +kernel, by decide +kernel⟩, List.mem_of_getElem? (i := 462) (by decide +kernel), List.mem_of_getElem? (i := 641) (by decide +kernel), List.mem_of_getElem? (i := 642) (by decide +kernel)⟩
theorem lw_p49 : lw_okq (⟨"ActSurgeryModel", "isBound", "(II)Z"⟩, 12) := ⟨⟨by decide +kernel, by decide +kernel⟩, List.mem_of_getElem? (i := 462) (by decide +kernel), List.mem_of_getElem? (i := 645) (by decide +kernel), List.mem_of_getElem? (i := 646) (by decide +kernel)⟩
theorem lw_p50 : lw_okq (⟨"ActSurgeryModel", "findLike", "()V"⟩, 12) := ⟨⟨by decide +kernel, by decide +kernel⟩, List.mem_of_getElem? (i := 462) (by decide +kernel), List.mem_of_getElem? (i := 653) (by decide +kernel), List.mem_of_getElem? (i := 654) (by decide +kernel)⟩
theorem lw_p51 : lw_okq (⟨"ActSurgeryModel", "hasNoRing", "(I)Z"⟩, 12) := ⟨⟨by decide +kernel, by decide +kernel⟩, List.mem_of_getElem? (i := 462) (by decide +kernel), List.mem_of_getElem? (i := 657) (by decide +kernel), List.mem_of_getElem? (i := 658) (by decide +kernel)⟩
theorem lw_p52 : lw_okq (⟨"ActSurgeryModel", "hasShape", "(I)Z"⟩, 12) := ⟨⟨by decide +kernel, by decide +kernel⟩, List.mem_of_getElem? (i := 462) (by decide +kernel), List.mem_of_getElem? (i := 661) (by decide +kernel), List.mem_of_getElem? (i := 662) (by decide +kernel)⟩
theorem lw_p53 : lw_okq (⟨"ActSurgeryModel", "clumps", "()I"⟩, 12) := ⟨⟨by decide +kernel, by decide +kernel⟩, List.mem_of_getElem? (i := 462) (by decide +kernel), List.mem_of_getElem? (i := 668) (by decide +kernel), List.mem_of_getElem? (i := 669) (by decide +kernel)⟩
theorem lw_p54 : lw_okq (⟨"ActSurgeryModel", "partedPairs", "()I"⟩, 12) := ⟨⟨by decide +kernel, by decide +kernel⟩, List.mem_of_getElem? (i := 462) (by decide +kernel), List.mem_of_getElem? (i := 672) (by decide +kernel), List.mem_of_getElem? (i := 673) (by decide +kernel)⟩
theorem lw_p55 : lw_okq (⟨"ActSurgeryModel", "before", "(I)I"⟩, 12) := ⟨⟨by decide +kernel, by decide +kernel⟩, List.mem_of_getElem? (i := 462) (by decide +kernel), List.mem_of_getElem? (i := 680) (by decide +kernel), List.mem_of_getElem? (i := 681) (by decide +kernel)⟩
theorem lw_p56 : lw_okq (⟨"ActSurgeryModel", "sureFrom", "(I)I"⟩, 12) := ⟨⟨by decide +kernel, by decide +kernel⟩, List.mem_of_getElem? (i := 462) (by decide +kernel), List.mem_of_getElem? (i := 684) (by decide +kernel), List.mem_of_getElem? (i := 685) (by decide +kernel)⟩
theorem lw_p57 : lw_okq (⟨"ActSurgeryModel", "isValues", "(II)Z"⟩, 12) := ⟨⟨by decide +kernel, by decide +kernel⟩, List.mem_of_getElem? (i := 462) (by decide +kernel), List.mem_of_getElem? (i := 692) (by decide +kernel), List.mem_of_getElem? (i := 693) (by decide +kernel)⟩
theorem lw_p58 : lw_okq (⟨"ActSurgeryModel", "draws", "(IIII)J"⟩, 12) := ⟨⟨by decide +kernel, by decide +kernel⟩, List.mem_of_getElem? (i := 462) (by decide +kernel), List.mem_of_getElem? (i := 696) (by decide +kernel), List.mem_of_getElem? (i := 697) (by decide +kernel)⟩
theorem lw_p59 : lw_okq (⟨"ActSurgeryModel", "twoDraws", "(IIIIII)J"⟩, 12) := ⟨⟨by decide +kernel, by decide +kernel⟩, List.mem_of_getElem? (i := 462) (by decide +kernel), List.mem_of_getElem? (i := 710) (by decide +kernel), List.mem_of_getElem? (i := 711) (by decide +kernel)⟩
theorem lw_p60 : lw_okq (⟨"ActSurgeryModel", "ofOne", "(III)J"⟩, 12) := ⟨⟨by decide +kernel, by decide +kernel⟩, List.mem_of_getElem? (i := 462) (by decide +kernel), List.mem_of_getElem? (i := 718) (by decide +kernel), List.mem_of_getElem? (i := 719) (by decide +kernel)⟩
theorem lw_p61 : lw_okq (⟨"ActSurgeryModel", "swayedDraws", "(III)J"⟩, 12) := ⟨⟨by decide +kernel, by decide +kernel⟩, List.mem_of_getElem? (i := 462) (by decide +kernel), List.mem_of_getElem? (i := 726) (by decide +kernel), List.mem_of_getElem? (i := 727) (by decide +kernel)⟩
theorem lw_p62 : lw_okq (⟨"ActSurgeryModel", "sameShape", "()Z"⟩, 12) := ⟨⟨by decide +kernel, by decide +kernel⟩, List.mem_of_getElem? (i := 462) (by decide +kernel), List.mem_of_getElem? (i := 742) (by decide +kernel), List.mem_of_getElem? (i := 743) (by decide +kernel)⟩
theorem lw_p63 : lw_okq (⟨"ActSurgeryModel", "sameOdds", "(II)Z"⟩, 12) := ⟨⟨by decide +kernel, by decide +kernel⟩, List.mem_of_getElem? (i := 462) (by decide +kernel), List.mem_of_getElem? (i := 746) (by decide +kernel), List.mem_of_getElem? (i := 747) (by decide +kernel)⟩
def lw_privs_4 : List (MethodName × Nat) := [(⟨"ActSurgeryModel", "clumpOf", "(I)I"⟩, 12), (⟨"ActSurgeryModel", "isBound", "(II)Z"⟩, 12), (⟨"ActSurgeryModel", "findLike", "()V"⟩, 12), (⟨"ActSurgeryModel", "hasNoRing", "(I)Z"⟩, 12), (⟨"ActSurgeryModel", "hasShape", "(I)Z"⟩, 12), (⟨"ActSurgeryModel", "clumps", "()I"⟩, 12), (⟨"ActSurgeryModel", "partedPairs", "()I"⟩, 12), (⟨"ActSurgeryModel", "before", "(I)I"⟩, 12), (⟨"ActSurgeryModel", "sureFrom", "(I)I"⟩, 12), (⟨"ActSurgeryModel", "isValues", "(II)Z"⟩, 12), (⟨"ActSurgeryModel", "draws", "(IIII)J"⟩, 12), (⟨"ActSurgeryModel", "twoDraws", "(IIIIII)J"⟩, 12), (⟨"ActSurgeryModel", "ofOne", "(III)J"⟩, 12), (⟨"ActSurgeryModel", "swayedDraws", "(III)J"⟩, 12), (⟨"ActSurgeryModel", "sameShape", "()Z"⟩, 12), (⟨"ActSurgeryModel", "sameOdds", "(II)Z"⟩, 12)]
theorem lw_r4 : ∀ q ∈ lw_privs_4, lw_okq q := List.forall_mem_cons.mpr ⟨lw_p48, List.forall_mem_cons.mpr ⟨lw_p49, List.forall_mem_cons.mpr ⟨lw_p50, List.forall_mem_cons.mpr ⟨lw_p51, List.forall_mem_cons.mpr ⟨lw_p52, List.forall_mem_cons.mpr ⟨lw_p53, List.forall_mem_cons.mpr ⟨lw_p54, List.forall_mem_cons.mpr ⟨lw_p55, List.forall_mem_cons.mpr ⟨lw_p56, List.forall_mem_cons.mpr ⟨lw_p57, List.forall_mem_cons.mpr ⟨lw_p58, List.forall_mem_cons.mpr ⟨lw_p59, List.forall_mem_cons.mpr ⟨lw_p60, List.forall_mem_cons.mpr ⟨lw_p61, List.forall_mem_cons.mpr ⟨lw_p62, List.forall_mem_cons.mpr ⟨lw_p63, fun _ h => absurd h List.not_mem_nil⟩⟩⟩⟩⟩⟩⟩⟩⟩⟩⟩⟩⟩⟩⟩⟩
theorem lw_p64 : lw_okq (⟨"ActSurgeryModel", "sameWhatever", "()Z"⟩, 12) := ⟨⟨by decide +kernel, by decide +kernel⟩, List.mem_of_getElem? (i := 462) (by decide +kernel), List.mem_of_getElem? (i := 750) (by decide +kernel), List.mem_of_getElem? (i := 751) (by decide +kernel)⟩
theorem lw_p65 : lw_okq (⟨"ActSurgeryModel", "sameSeen", "()Z"⟩, 12) := ⟨⟨by decide +kernel, by decide +kernel⟩, List.mem_of_getElem? (i := 462) (by decide +kernel), List.mem_of_getElem? (i := 754) (by decide +kernel), List.mem_of_getElem? (i := 755) (by decide +kernel)⟩
def lw_privs_5 : List (MethodName × Nat) := [(⟨"ActSurgeryModel", "sameWhatever", "()Z"⟩, 12), (⟨"ActSurgeryModel", "sameSeen", "()Z"⟩, 12)]
theorem lw_r5 : ∀ q ∈ lw_privs_5, lw_okq q := List.forall_mem_cons.mpr ⟨lw_p64, List.forall_mem_cons.mpr ⟨lw_p65, fun _ h => absurd h List.not_mem_nil⟩⟩
def lw_privs : List (MethodName × Nat) := lw_privs_1 ++ (lw_privs_2 ++ (lw_privs_3 ++ (lw_privs_4 ++ (lw_privs_5))))
def lw_tbl : List Cond := k2_sels lw_privs ++ tables_1
theorem lw_privs_ok : ∀ q ∈ lw_privs, lw_okq q := by
  show ∀ q ∈ lw_privs_1 ++ (lw_privs_2 ++ (lw_privs_3 ++ (lw_privs_4 ++ (lw_privs_5)))), lw_okq q
  exact List.forall_mem_append.mpr ⟨lw_r1, List.forall_mem_append.mpr ⟨lw_r2, List.forall_mem_append.mpr ⟨lw_r3, List.forall_mem_append.mpr ⟨lw_r4, lw_r5⟩⟩⟩⟩
/-! the words that hold at every state later on -/
def x_GT : List Cond := lw_tbl.filter goodWord
theorem x_good : GoodIn x_GT x_GT := fun w hw => ⟨hw, good_of_word (List.mem_filter.mp hw).2⟩
theorem x_GTl : ∀ w ∈ x_GT, w ∈ lw_tbl := fun w hw => (List.mem_filter.mp hw).1
theorem x_t1 {w : Cond} (k : Nat) (h : tables_1_1[k]? = some w) (g : goodWord w = true) : w ∈ x_GT := List.mem_filter.mpr ⟨List.mem_append_right _ (List.mem_append_left _ (List.mem_of_getElem? h)), g⟩
theorem x_t2 {w : Cond} (k : Nat) (h : tables_1_2[k]? = some w) (g : goodWord w = true) : w ∈ x_GT := List.mem_filter.mpr ⟨List.mem_append_right _ (List.mem_append_right _ (List.mem_append_left _ (List.mem_of_getElem? h))), g⟩
theorem x_t3 {w : Cond} (k : Nat) (h : tables_1_3[k]? = some w) (g : goodWord w = true) : w ∈ x_GT := List.mem_filter.mpr ⟨List.mem_append_right _ (List.mem_append_right _ (List.mem_append_right _ (List.mem_append_left _ (List.mem_of_getElem? h)))), g⟩
theorem x_t4 {w : Cond} (k : Nat) (h : tables_1_4[k]? = some w) (g : goodWord w = true) : w ∈ x_GT := List.mem_filter.mpr ⟨List.mem_append_right _ (List.mem_append_right _ (List.mem_append_right _ (List.mem_append_right _ (List.mem_of_getElem? h)))), g⟩
theorem x_ts {w : Cond} (k : Nat) (h : (k2_sels lw_privs)[k]? = some w) (g : goodWord w = true) : w ∈ x_GT := List.mem_filter.mpr ⟨List.mem_append_left _ (List.mem_of_getElem? h), g⟩
def x_NW : List Cond := [(Jvm.Cond.methodLinkNest "ActSurgery$Graph" (11 : Nat) ({ cls := "ActSurgery$Arrows", name := "<init>", desc := "()V" } : Jvm.MethodName) "ActSurgery"), (Jvm.Cond.methodLinkNest "ActSurgery" (21 : Nat) ({ cls := "ActSurgery$Arrows", name := "<init>", desc := "()V" } : Jvm.MethodName) "ActSurgery"), (Jvm.Cond.methodLinkNest "ActSurgery" (28 : Nat) ({ cls := "ActSurgery$LikeGraphs", name := "<init>", desc := "()V" } : Jvm.MethodName) "ActSurgery"), (Jvm.Cond.methodLinkNest "ActSurgery" (35 : Nat) ({ cls := "ActSurgery$World", name := "<init>", desc := "()V" } : Jvm.MethodName) "ActSurgery"), (Jvm.Cond.methodLinkNest "ActSurgery$Arrows" (25 : Nat) ({ cls := "ActSurgery", name := "has", desc := "(II)Z" } : Jvm.MethodName) "ActSurgery"), (Jvm.Cond.methodLinkNest "ActSurgery$LikeGraphs" (48 : Nat) ({ cls := "ActSurgery", name := "has", desc := "(II)Z" } : Jvm.MethodName) "ActSurgery"), (Jvm.Cond.methodLinkNest "ActSurgery$Graph" (54 : Nat) ({ cls := "ActSurgery", name := "has", desc := "(II)Z" } : Jvm.MethodName) "ActSurgery"), (Jvm.Cond.methodLinkNest "ActSurgery$World" (24 : Nat) ({ cls := "ActSurgery", name := "has", desc := "(II)Z" } : Jvm.MethodName) "ActSurgery")]
theorem x_NWt : ∀ z ∈ x_NW, z.onTables = true := by decide +kernel
theorem x_NWl : ∀ z ∈ x_NW, z ∈ lw_tbl := by decide +kernel
theorem x_NWk : ∀ q ∈ x_NW, (∃ a i r n d h, q = Cond.fieldLinkNest a i r n d h) ∨ (∃ a i x h, q = Cond.methodLinkNest a i x h) := by
  intro q hq
  simp only [x_NW, List.mem_cons, List.not_mem_nil, or_false] at hq
  rcases hq with rfl | rfl | rfl | rfl | rfl | rfl | rfl | rfl <;> exact Or.inr ⟨_, _, _, _, rfl⟩
def xR0 : String := "ActSurgery"
def xT0 : u_T := fun k => match k with
  | 0 => ("ActSurgery", "here", "LActSurgery$Graph;", false)
  | 1 => ("ActSurgery", "other", "LActSurgery$Graph;", false)
  | 2 => ("ActSurgery", "cut", "LActSurgery$Arrows;", true)
  | 3 => ("ActSurgery", "likes", "LActSurgery$LikeGraphs;", true)
  | 4 => ("ActSurgery", "one", "LActSurgery$World;", true)
  | _ => ("ActSurgery", "two", "LActSurgery$World;", true)
def xy0 : Nat → FieldType := fun k => match k with
  | 0 => .object "ActSurgery$Graph"
  | 1 => .object "ActSurgery$Graph"
  | 2 => .object "ActSurgery$Arrows"
  | 3 => .object "ActSurgery$LikeGraphs"
  | 4 => .object "ActSurgery$World"
  | _ => .object "ActSurgery$World"
theorem xn0 : ∀ a, a < 6 → ∀ b, b < 6 → a ≠ b → (xT0 a).2.1 ≠ (xT0 b).2.1 := by decide +kernel
theorem xy0_ok : ∀ k, k < 6 → parseFieldDescriptor (xT0 k).2.2.1 = some (xy0 k) := by decide +kernel
theorem x_in0_ : ∀ w ∈ u_ws xR0 xT0 6, w ∈ lw_tbl ∧ goodWord w = true := by decide +kernel
theorem x_in0 : ∀ w ∈ u_ws xR0 xT0 6, w ∈ x_GT := fun w hw => List.mem_filter.mpr (x_in0_ w hw)
theorem x_df0 : ∀ j, j < 6 → defaultValue (xy0 j) = vp_V [.null, .null, .null, .null, .null, .null] j := by decide +kernel
def xR1 : String := "ActSurgery$Arrows"
def xT1 : u_T := fun k => match k with
  | 0 => ("ActSurgery$Arrows", "size", "I", false)
  | _ => ("ActSurgery$Arrows", "parents", "[I", true)
def xy1 : Nat → FieldType := fun k => match k with
  | 0 => .int
  | _ => .array .int
theorem xn1 : ∀ a, a < 2 → ∀ b, b < 2 → a ≠ b → (xT1 a).2.1 ≠ (xT1 b).2.1 := by decide +kernel
theorem xy1_ok : ∀ k, k < 2 → parseFieldDescriptor (xT1 k).2.2.1 = some (xy1 k) := by decide +kernel
theorem x_in1_ : ∀ w ∈ u_ws xR1 xT1 2, w ∈ lw_tbl ∧ goodWord w = true := by decide +kernel
theorem x_in1 : ∀ w ∈ u_ws xR1 xT1 2, w ∈ x_GT := fun w hw => List.mem_filter.mpr (x_in1_ w hw)
theorem x_df1 : ∀ j, j < 2 → defaultValue (xy1 j) = vp_V [.int 0, .null] j := by decide +kernel
def xR2 : String := "ActSurgery$Graph"
def xT2 : u_T := fun k => match k with
  | 0 => ("ActSurgery$Graph", "arrows", "LActSurgery$Arrows;", true)
  | 1 => ("ActSurgery$Graph", "weights", "[I", true)
  | _ => ("ActSurgery$Graph", "hidden", "I", false)
def xy2 : Nat → FieldType := fun k => match k with
  | 0 => .object "ActSurgery$Arrows"
  | 1 => .array .int
  | _ => .int
theorem xn2 : ∀ a, a < 3 → ∀ b, b < 3 → a ≠ b → (xT2 a).2.1 ≠ (xT2 b).2.1 := by decide +kernel
theorem xy2_ok : ∀ k, k < 3 → parseFieldDescriptor (xT2 k).2.2.1 = some (xy2 k) := by decide +kernel
theorem x_in2_ : ∀ w ∈ u_ws xR2 xT2 3, w ∈ lw_tbl ∧ goodWord w = true := by decide +kernel
theorem x_in2 : ∀ w ∈ u_ws xR2 xT2 3, w ∈ x_GT := fun w hw => List.mem_filter.mpr (x_in2_ w hw)
theorem x_df2 : ∀ j, j < 3 → defaultValue (xy2 j) = vp_V [.null, .null, .int 0] j := by decide +kernel
def xR3 : String := "ActSurgery$World"
def xT3 : u_T := fun k => match k with
  | 0 => ("ActSurgery$World", "made", "I", false)
  | 1 => ("ActSurgery$World", "madeAs", "I", false)
  | 2 => ("ActSurgery$World", "asked", "I", false)
  | _ => ("ActSurgery$World", "askedAs", "I", false)
def xy3 : Nat → FieldType := fun k => match k with
  | 0 => .int
  | 1 => .int
  | 2 => .int
  | _ => .int
theorem xn3 : ∀ a, a < 4 → ∀ b, b < 4 → a ≠ b → (xT3 a).2.1 ≠ (xT3 b).2.1 := by decide +kernel
theorem xy3_ok : ∀ k, k < 4 → parseFieldDescriptor (xT3 k).2.2.1 = some (xy3 k) := by decide +kernel
theorem x_in3_ : ∀ w ∈ u_ws xR3 xT3 4, w ∈ lw_tbl ∧ goodWord w = true := by decide +kernel
theorem x_in3 : ∀ w ∈ u_ws xR3 xT3 4, w ∈ x_GT := fun w hw => List.mem_filter.mpr (x_in3_ w hw)
theorem x_df3 : ∀ j, j < 4 → defaultValue (xy3 j) = vp_V [.int 0, .int 0, .int 0, .int 0] j := by decide +kernel
def xR4 : String := "ActSurgery$LikeGraphs"
def xT4 : u_T := fun k => match k with
  | 0 => ("ActSurgery$LikeGraphs", "beside", "[I", true)
  | 1 => ("ActSurgery$LikeGraphs", "order", "[I", true)
  | 2 => ("ActSurgery$LikeGraphs", "parentsNow", "[I", true)
  | 3 => ("ActSurgery$LikeGraphs", "sureParents", "[I", true)
  | 4 => ("ActSurgery$LikeGraphs", "size", "I", false)
  | _ => ("ActSurgery$LikeGraphs", "found", "I", false)
def xy4 : Nat → FieldType := fun k => match k with
  | 0 => .array .int
  | 1 => .array .int
  | 2 => .array .int
  | 3 => .array .int
  | 4 => .int
  | _ => .int
theorem xn4 : ∀ a, a < 6 → ∀ b, b < 6 → a ≠ b → (xT4 a).2.1 ≠ (xT4 b).2.1 := by decide +kernel
theorem xy4_ok : ∀ k, k < 6 → parseFieldDescriptor (xT4 k).2.2.1 = some (xy4 k) := by decide +kernel
theorem x_in4_ : ∀ w ∈ u_ws xR4 xT4 6, w ∈ lw_tbl ∧ goodWord w = true := by decide +kernel
theorem x_in4 : ∀ w ∈ u_ws xR4 xT4 6, w ∈ x_GT := fun w hw => List.mem_filter.mpr (x_in4_ w hw)
theorem x_df4 : ∀ j, j < 6 → defaultValue (xy4 j) = vp_V [.null, .null, .null, .null, .int 0, .int 0] j := by decide +kernel
def xR5 : String := "ActSurgeryModel"
def xT5 : u_T := fun k => match k with
  | 0 => ("ActSurgeryModel", "many", "[I", true)
  | 1 => ("ActSurgeryModel", "parentsOf", "[I", true)
  | 2 => ("ActSurgeryModel", "weights", "[I", true)
  | 3 => ("ActSurgeryModel", "hidden", "[I", true)
  | 4 => ("ActSurgeryModel", "cut", "I", false)
  | 5 => ("ActSurgeryModel", "way", "[I", true)
  | 6 => ("ActSurgeryModel", "pairA", "[I", true)
  | 7 => ("ActSurgeryModel", "pairB", "[I", true)
  | 8 => ("ActSurgeryModel", "pairs", "I", false)
  | 9 => ("ActSurgeryModel", "from", "[I", true)
  | 10 => ("ActSurgeryModel", "sure", "[I", true)
  | _ => ("ActSurgeryModel", "likeMany", "I", false)
def xy5 : Nat → FieldType := fun k => match k with
  | 0 => .array .int
  | 1 => .array .int
  | 2 => .array .int
  | 3 => .array .int
  | 4 => .int
  | 5 => .array .int
  | 6 => .array .int
  | 7 => .array .int
  | 8 => .int
  | 9 => .array .int
  | 10 => .array .int
  | _ => .int
theorem xn5 : ∀ a, a < 12 → ∀ b, b < 12 → a ≠ b → (xT5 a).2.1 ≠ (xT5 b).2.1 := by decide +kernel
theorem xy5_ok : ∀ k, k < 12 → parseFieldDescriptor (xT5 k).2.2.1 = some (xy5 k) := by decide +kernel
theorem x_in5_ : ∀ w ∈ u_ws xR5 xT5 12, w ∈ lw_tbl ∧ goodWord w = true := by decide +kernel
theorem x_in5 : ∀ w ∈ u_ws xR5 xT5 12, w ∈ x_GT := fun w hw => List.mem_filter.mpr (x_in5_ w hw)
theorem x_df5 : ∀ j, j < 12 → defaultValue (xy5 j) = vp_V [.null, .null, .null, .null, .int 0, .null, .null, .null, .int 0, .null, .null, .int 0] j := by decide +kernel
abbrev x_cl : List vw_C := [(xR0, xT0, 6), (xR1, xT1, 2), (xR2, xT2, 3), (xR3, xT3, 4), (xR4, xT4, 6), (xR5, xT5, 12)]
def yA_init : MethodName := ⟨"ActSurgery", "<init>", "()V"⟩
abbrev cA_init : ByteArray := prog_1_method_1_code
def yA_begin : MethodName := ⟨"ActSurgery", "begin", "(I)I"⟩
abbrev cA_begin : ByteArray := prog_1_method_2_code
def yA_parents : MethodName := ⟨"ActSurgery", "parents", "(II)I"⟩
abbrev cA_parents : ByteArray := prog_1_method_3_code
def yA_weight : MethodName := ⟨"ActSurgery", "weight", "(III)I"⟩
abbrev cA_weight : ByteArray := prog_1_method_4_code
def yA_hide : MethodName := ⟨"ActSurgery", "hide", "(IZ)I"⟩
abbrev cA_hide : ByteArray := prog_1_method_5_code
def yA_count : MethodName := ⟨"ActSurgery", "count", "(I)I"⟩
abbrev cA_count : ByteArray := prog_1_method_6_code
def yA_of : MethodName := ⟨"ActSurgery", "of", "(II)I"⟩
abbrev cA_of : ByteArray := prog_1_method_7_code
def yA_parted : MethodName := ⟨"ActSurgery", "parted", "(III)I"⟩
abbrev cA_parted : ByteArray := prog_1_method_8_code
def yA_parting : MethodName := ⟨"ActSurgery", "parting", "(II)I"⟩
abbrev cA_parting : ByteArray := prog_1_method_9_code
def yA_ways : MethodName := ⟨"ActSurgery", "ways", "(III)I"⟩
abbrev cA_ways : ByteArray := prog_1_method_10_code
def yA_tells : MethodName := ⟨"ActSurgery", "tells", "(IIII)I"⟩
abbrev cA_tells : ByteArray := prog_1_method_11_code
def yA_telling : MethodName := ⟨"ActSurgery", "telling", "(III)I"⟩
abbrev cA_telling : ByteArray := prog_1_method_12_code
def yA_told : MethodName := ⟨"ActSurgery", "told", "(I)I"⟩
abbrev cA_told : ByteArray := prog_1_method_13_code
def yA_odds : MethodName := ⟨"ActSurgery", "odds", "(IIIIIII)I"⟩
abbrev cA_odds : ByteArray := prog_1_method_14_code
def yA_would : MethodName := ⟨"ActSurgery", "would", "(IIIIIII)I"⟩
abbrev cA_would : ByteArray := prog_1_method_15_code
def yA_effect : MethodName := ⟨"ActSurgery", "effect", "(II)I"⟩
abbrev cA_effect : ByteArray := prog_1_method_16_code
def yA_swayed : MethodName := ⟨"ActSurgery", "swayed", "(II)I"⟩
abbrev cA_swayed : ByteArray := prog_1_method_17_code
def yA_swap : MethodName := ⟨"ActSurgery", "swap", "()I"⟩
abbrev cA_swap : ByteArray := prog_1_method_18_code
def yA_keep : MethodName := ⟨"ActSurgery", "keep", "()I"⟩
abbrev cA_keep : ByteArray := prog_1_method_19_code
def yA_alike : MethodName := ⟨"ActSurgery", "alike", "(I)I"⟩
abbrev cA_alike : ByteArray := prog_1_method_20_code
def yA_allPlaces : MethodName := ⟨"ActSurgery", "allPlaces", "()I"⟩
abbrev cA_allPlaces : ByteArray := prog_1_method_21_code
def yA_isPlace : MethodName := ⟨"ActSurgery", "isPlace", "(I)Z"⟩
abbrev cA_isPlace : ByteArray := prog_1_method_22_code
def yA_isPair : MethodName := ⟨"ActSurgery", "isPair", "(II)Z"⟩
abbrev cA_isPair : ByteArray := prog_1_method_23_code
def yA_isValued : MethodName := ⟨"ActSurgery", "isValued", "(II)Z"⟩
abbrev cA_isValued : ByteArray := prog_1_method_24_code
def yA_isPart : MethodName := ⟨"ActSurgery", "isPart", "(I)Z"⟩
abbrev cA_isPart : ByteArray := prog_1_method_25_code
def yA_isAskOfWays : MethodName := ⟨"ActSurgery", "isAskOfWays", "(III)Z"⟩
abbrev cA_isAskOfWays : ByteArray := prog_1_method_26_code
def yA_isAskOfTelling : MethodName := ⟨"ActSurgery", "isAskOfTelling", "(III)Z"⟩
abbrev cA_isAskOfTelling : ByteArray := prog_1_method_27_code
def yA_howManyPairsParted : MethodName := ⟨"ActSurgery", "howManyPairsParted", "()I"⟩
abbrev cA_howManyPairsParted : ByteArray := prog_1_method_28_code
def yA_leastParting : MethodName := ⟨"ActSurgery", "leastParting", "(II)I"⟩
abbrev cA_leastParting : ByteArray := prog_1_method_29_code
def yA_mayTell : MethodName := ⟨"ActSurgery", "mayTell", "(II)I"⟩
abbrev cA_mayTell : ByteArray := prog_1_method_30_code
def yA_isTelling : MethodName := ⟨"ActSurgery", "isTelling", "(IIII)Z"⟩
abbrev cA_isTelling : ByteArray := prog_1_method_31_code
def yA_isBackSet : MethodName := ⟨"ActSurgery", "isBackSet", "(III)Z"⟩
abbrev cA_isBackSet : ByteArray := prog_1_method_32_code
def yA_isFrontSet : MethodName := ⟨"ActSurgery", "isFrontSet", "(III)Z"⟩
abbrev cA_isFrontSet : ByteArray := prog_1_method_33_code
def yA_isEachParted : MethodName := ⟨"ActSurgery", "isEachParted", "(LActSurgery$Arrows;III)Z"⟩
abbrev cA_isEachParted : ByteArray := prog_1_method_34_code
def yA_isInstrument : MethodName := ⟨"ActSurgery", "isInstrument", "(III)Z"⟩
abbrev cA_isInstrument : ByteArray := prog_1_method_35_code
def yA_oddsOfTwoGivenOne : MethodName := ⟨"ActSurgery", "oddsOfTwoGivenOne", "(I)I"⟩
abbrev cA_oddsOfTwoGivenOne : ByteArray := prog_1_method_36_code
def yA_haveSameOdds : MethodName := ⟨"ActSurgery", "haveSameOdds", "(III)Z"⟩
abbrev cA_haveSameOdds : ByteArray := prog_1_method_37_code
def yA_haveSameOddsOfActs : MethodName := ⟨"ActSurgery", "haveSameOddsOfActs", "()Z"⟩
abbrev cA_haveSameOddsOfActs : ByteArray := prog_1_method_38_code
def yA_asNumber : MethodName := ⟨"ActSurgery", "asNumber", "(Z)I"⟩
abbrev cA_asNumber : ByteArray := prog_1_method_39_code
def yA_has : MethodName := ⟨"ActSurgery", "has", "(II)Z"⟩
abbrev cA_has : ByteArray := prog_1_method_40_code
def yA_isWithin : MethodName := ⟨"ActSurgery", "isWithin", "(II)Z"⟩
abbrev cA_isWithin : ByteArray := prog_1_method_41_code
def yA_placesBelow : MethodName := ⟨"ActSurgery", "placesBelow", "(I)I"⟩
abbrev cA_placesBelow : ByteArray := prog_1_method_42_code
def yA_isFewer : MethodName := ⟨"ActSurgery", "isFewer", "(II)Z"⟩
abbrev cA_isFewer : ByteArray := prog_1_method_43_code
def yA_commonMeasure : MethodName := ⟨"ActSurgery", "commonMeasure", "(II)I"⟩
abbrev cA_commonMeasure : ByteArray := prog_1_method_44_code
def yR_init : MethodName := ⟨"ActSurgery$Arrows", "<init>", "()V"⟩
abbrev cR_init : ByteArray := prog_2_method_1_code
def yR_copyWithout : MethodName := ⟨"ActSurgery$Arrows", "copyWithout", "(LActSurgery$Arrows;I)V"⟩
abbrev cR_copyWithout : ByteArray := prog_2_method_2_code
def yR_howMany : MethodName := ⟨"ActSurgery$Arrows", "howMany", "()I"⟩
abbrev cR_howMany : ByteArray := prog_2_method_3_code
def yR_childrenOf : MethodName := ⟨"ActSurgery$Arrows", "childrenOf", "(I)I"⟩
abbrev cR_childrenOf : ByteArray := prog_2_method_4_code
def yR_besideOf : MethodName := ⟨"ActSurgery$Arrows", "besideOf", "(I)I"⟩
abbrev cR_besideOf : ByteArray := prog_2_method_5_code
def yR_afterOf : MethodName := ⟨"ActSurgery$Arrows", "afterOf", "(I)I"⟩
abbrev cR_afterOf : ByteArray := prog_2_method_6_code
def yR_beforeOf : MethodName := ⟨"ActSurgery$Arrows", "beforeOf", "(I)I"⟩
abbrev cR_beforeOf : ByteArray := prog_2_method_7_code
def yR_leadsPast : MethodName := ⟨"ActSurgery$Arrows", "leadsPast", "(III)Z"⟩
abbrev cR_leadsPast : ByteArray := prog_2_method_8_code
def yR_isParted : MethodName := ⟨"ActSurgery$Arrows", "isParted", "(III)Z"⟩
abbrev cR_isParted : ByteArray := prog_2_method_9_code
def yR_openWays : MethodName := ⟨"ActSurgery$Arrows", "openWays", "(III)I"⟩
abbrev cR_openWays : ByteArray := prog_2_method_10_code
def yR_openWaysOn : MethodName := ⟨"ActSurgery$Arrows", "openWaysOn", "(IIIIII)I"⟩
abbrev cR_openWaysOn : ByteArray := prog_2_method_11_code
def yR_isBeside : MethodName := ⟨"ActSurgery$Arrows", "isBeside", "(II)Z"⟩
abbrev cR_isBeside : ByteArray := prog_2_method_12_code
def yR_isOpenAt : MethodName := ⟨"ActSurgery$Arrows", "isOpenAt", "(IIII)Z"⟩
abbrev cR_isOpenAt : ByteArray := prog_2_method_13_code
def yR_hasShapeOf : MethodName := ⟨"ActSurgery$Arrows", "hasShapeOf", "(LActSurgery$Arrows;)Z"⟩
abbrev cR_hasShapeOf : ByteArray := prog_2_method_14_code
def yG_init : MethodName := ⟨"ActSurgery$Graph", "<init>", "()V"⟩
abbrev cG_init : ByteArray := prog_3_method_1_code
def yG_restart : MethodName := ⟨"ActSurgery$Graph", "restart", "(I)V"⟩
abbrev cG_restart : ByteArray := prog_3_method_2_code
def yG_copy : MethodName := ⟨"ActSurgery$Graph", "copy", "(LActSurgery$Graph;)V"⟩
abbrev cG_copy : ByteArray := prog_3_method_3_code
def yG_putParents : MethodName := ⟨"ActSurgery$Graph", "putParents", "(II)V"⟩
abbrev cG_putParents : ByteArray := prog_3_method_4_code
def yG_putWeight : MethodName := ⟨"ActSurgery$Graph", "putWeight", "(III)V"⟩
abbrev cG_putWeight : ByteArray := prog_3_method_5_code
def yG_weightAt : MethodName := ⟨"ActSurgery$Graph", "weightAt", "(II)I"⟩
abbrev cG_weightAt : ByteArray := prog_3_method_6_code
def yG_seenFrom : MethodName := ⟨"ActSurgery$Graph", "seenFrom", "(I)I"⟩
abbrev cG_seenFrom : ByteArray := prog_3_method_7_code
def yG_clumpOf : MethodName := ⟨"ActSurgery$Graph", "clumpOf", "(I)I"⟩
abbrev cG_clumpOf : ByteArray := prog_3_method_8_code
def yG_boundTo : MethodName := ⟨"ActSurgery$Graph", "boundTo", "(I)I"⟩
abbrev cG_boundTo : ByteArray := prog_3_method_9_code
def yG_howManyClumps : MethodName := ⟨"ActSurgery$Graph", "howManyClumps", "()I"⟩
abbrev cG_howManyClumps : ByteArray := prog_3_method_10_code
def yG_drawsOfBoth : MethodName := ⟨"ActSurgery$Graph", "drawsOfBoth", "(LActSurgery$World;LActSurgery$World;)I"⟩
abbrev cG_drawsOfBoth : ByteArray := prog_3_method_11_code
def yG_drawsFrom : MethodName := ⟨"ActSurgery$Graph", "drawsFrom", "(ILActSurgery$World;ILActSurgery$World;I)I"⟩
abbrev cG_drawsFrom : ByteArray := prog_3_method_12_code
def yG_numbersFor : MethodName := ⟨"ActSurgery$Graph", "numbersFor", "(IIII)I"⟩
abbrev cG_numbersFor : ByteArray := prog_3_method_13_code
def yO_init : MethodName := ⟨"ActSurgery$World", "<init>", "()V"⟩
abbrev cO_init : ByteArray := prog_5_method_1_code
def yO_become : MethodName := ⟨"ActSurgery$World", "become", "(IIII)V"⟩
abbrev cO_become : ByteArray := prog_5_method_2_code
def yO_takes : MethodName := ⟨"ActSurgery$World", "takes", "(II)Z"⟩
abbrev cO_takes : ByteArray := prog_5_method_3_code
def yO_weightIn : MethodName := ⟨"ActSurgery$World", "weightIn", "(II)I"⟩
abbrev cO_weightIn : ByteArray := prog_5_method_4_code
def yK_init : MethodName := ⟨"ActSurgery$LikeGraphs", "<init>", "()V"⟩
abbrev cK_init : ByteArray := prog_4_method_1_code
def yK_find : MethodName := ⟨"ActSurgery$LikeGraphs", "find", "(LActSurgery$Arrows;)V"⟩
abbrev cK_find : ByteArray := prog_4_method_2_code
def yK_lay : MethodName := ⟨"ActSurgery$LikeGraphs", "lay", "(LActSurgery$Arrows;II)V"⟩
abbrev cK_lay : ByteArray := prog_4_method_3_code
def yK_takeUp : MethodName := ⟨"ActSurgery$LikeGraphs", "takeUp", "()V"⟩
abbrev cK_takeUp : ByteArray := prog_4_method_4_code
def yK_isLeastOrder : MethodName := ⟨"ActSurgery$LikeGraphs", "isLeastOrder", "(II)Z"⟩
abbrev cK_isLeastOrder : ByteArray := prog_4_method_5_code
def yK_meetsAlike : MethodName := ⟨"ActSurgery$LikeGraphs", "meetsAlike", "(II)Z"⟩
abbrev cK_meetsAlike : ByteArray := prog_4_method_6_code
def yK_unjoined : MethodName := ⟨"ActSurgery$LikeGraphs", "unjoined", "(II)I"⟩
abbrev cK_unjoined : ByteArray := prog_4_method_7_code
def yK_howManySure : MethodName := ⟨"ActSurgery$LikeGraphs", "howManySure", "()I"⟩
abbrev cK_howManySure : ByteArray := prog_4_method_8_code
def yK_sureFrom : MethodName := ⟨"ActSurgery$LikeGraphs", "sureFrom", "(I)I"⟩
abbrev cK_sureFrom : ByteArray := prog_4_method_9_code
def yM_init : MethodName := ⟨"ActSurgeryModel", "<init>", "()V"⟩
abbrev cM_init : ByteArray := prog_7_method_1_code
def yM_isIn : MethodName := ⟨"ActSurgeryModel", "isIn", "(III)Z"⟩
abbrev cM_isIn : ByteArray := prog_7_method_2_code
def yM_clear : MethodName := ⟨"ActSurgeryModel", "clear", "(II)V"⟩
abbrev cM_clear : ByteArray := prog_7_method_3_code
def yM_resetWeights : MethodName := ⟨"ActSurgeryModel", "resetWeights", "(II)V"⟩
abbrev cM_resetWeights : ByteArray := prog_7_method_4_code
def yM_n : MethodName := ⟨"ActSurgeryModel", "n", "()I"⟩
abbrev cM_n : ByteArray := prog_7_method_5_code
def yM_isPlace : MethodName := ⟨"ActSurgeryModel", "isPlace", "(I)Z"⟩
abbrev cM_isPlace : ByteArray := prog_7_method_6_code
def yM_all : MethodName := ⟨"ActSurgeryModel", "all", "()I"⟩
abbrev cM_all : ByteArray := prog_7_method_7_code
def yM_isSet : MethodName := ⟨"ActSurgeryModel", "isSet", "(I)Z"⟩
abbrev cM_isSet : ByteArray := prog_7_method_8_code
def yM_ones : MethodName := ⟨"ActSurgeryModel", "ones", "(I)I"⟩
abbrev cM_ones : ByteArray := prog_7_method_9_code
def yM_has : MethodName := ⟨"ActSurgeryModel", "has", "(II)Z"⟩
abbrev cM_has : ByteArray := prog_7_method_10_code
def yM_begin : MethodName := ⟨"ActSurgeryModel", "begin", "(I)I"⟩
abbrev cM_begin : ByteArray := prog_7_method_11_code
def yM_parents : MethodName := ⟨"ActSurgeryModel", "parents", "(II)I"⟩
abbrev cM_parents : ByteArray := prog_7_method_12_code
def yM_weight : MethodName := ⟨"ActSurgeryModel", "weight", "(III)I"⟩
abbrev cM_weight : ByteArray := prog_7_method_13_code
def yM_hide : MethodName := ⟨"ActSurgeryModel", "hide", "(IZ)I"⟩
abbrev cM_hide : ByteArray := prog_7_method_14_code
def yM_isArrow : MethodName := ⟨"ActSurgeryModel", "isArrow", "(II)Z"⟩
abbrev cM_isArrow : ByteArray := prog_7_method_15_code
def yM_isJoined : MethodName := ⟨"ActSurgeryModel", "isJoined", "(II)Z"⟩
abbrev cM_isJoined : ByteArray := prog_7_method_16_code
def yM_children : MethodName := ⟨"ActSurgeryModel", "children", "(I)I"⟩
abbrev cM_children : ByteArray := prog_7_method_17_code
def yM_reach : MethodName := ⟨"ActSurgeryModel", "reach", "(II)I"⟩
abbrev cM_reach : ByteArray := prog_7_method_18_code
def yM_after : MethodName := ⟨"ActSurgeryModel", "after", "(I)I"⟩
abbrev cM_after : ByteArray := prog_7_method_19_code
def yM_isOpen : MethodName := ⟨"ActSurgeryModel", "isOpen", "(II)Z"⟩
abbrev cM_isOpen : ByteArray := prog_7_method_20_code
def yM_waysOf : MethodName := ⟨"ActSurgeryModel", "waysOf", "(III)I"⟩
abbrev cM_waysOf : ByteArray := prog_7_method_21_code
def yM_isPair : MethodName := ⟨"ActSurgeryModel", "isPair", "(III)Z"⟩
abbrev cM_isPair : ByteArray := prog_7_method_22_code
def yM_parted : MethodName := ⟨"ActSurgeryModel", "parted", "(III)I"⟩
abbrev cM_parted : ByteArray := prog_7_method_23_code
def yM_ways : MethodName := ⟨"ActSurgeryModel", "ways", "(III)I"⟩
abbrev cM_ways : ByteArray := prog_7_method_24_code
def yM_partingOf : MethodName := ⟨"ActSurgeryModel", "partingOf", "(II)I"⟩
abbrev cM_partingOf : ByteArray := prog_7_method_25_code
def yM_parting : MethodName := ⟨"ActSurgeryModel", "parting", "(II)I"⟩
abbrev cM_parting : ByteArray := prog_7_method_26_code
def yM_isBack : MethodName := ⟨"ActSurgeryModel", "isBack", "(III)Z"⟩
abbrev cM_isBack : ByteArray := prog_7_method_27_code
def yM_isFront : MethodName := ⟨"ActSurgeryModel", "isFront", "(III)Z"⟩
abbrev cM_isFront : ByteArray := prog_7_method_28_code
def yM_isInstrument : MethodName := ⟨"ActSurgeryModel", "isInstrument", "(III)Z"⟩
abbrev cM_isInstrument : ByteArray := prog_7_method_29_code
def yM_only : MethodName := ⟨"ActSurgeryModel", "only", "(I)I"⟩
abbrev cM_only : ByteArray := prog_7_method_30_code
def yM_isTelling : MethodName := ⟨"ActSurgeryModel", "isTelling", "(IIII)Z"⟩
abbrev cM_isTelling : ByteArray := prog_7_method_31_code
def yM_isSeenPair : MethodName := ⟨"ActSurgeryModel", "isSeenPair", "(III)Z"⟩
abbrev cM_isSeenPair : ByteArray := prog_7_method_32_code
def yM_isSeenSet : MethodName := ⟨"ActSurgeryModel", "isSeenSet", "(III)Z"⟩
abbrev cM_isSeenSet : ByteArray := prog_7_method_33_code
def yM_tells : MethodName := ⟨"ActSurgeryModel", "tells", "(IIII)I"⟩
abbrev cM_tells : ByteArray := prog_7_method_34_code
def yM_telling : MethodName := ⟨"ActSurgeryModel", "telling", "(III)I"⟩
abbrev cM_telling : ByteArray := prog_7_method_35_code
def yM_isBound : MethodName := ⟨"ActSurgeryModel", "isBound", "(II)Z"⟩
abbrev cM_isBound : ByteArray := prog_7_method_36_code
def yM_clumpOf : MethodName := ⟨"ActSurgeryModel", "clumpOf", "(I)I"⟩
abbrev cM_clumpOf : ByteArray := prog_7_method_37_code
def yM_clumps : MethodName := ⟨"ActSurgeryModel", "clumps", "()I"⟩
abbrev cM_clumps : ByteArray := prog_7_method_38_code
def yM_told : MethodName := ⟨"ActSurgeryModel", "told", "(I)I"⟩
abbrev cM_told : ByteArray := prog_7_method_39_code
def yM_meets : MethodName := ⟨"ActSurgeryModel", "meets", "([IIIII)Z"⟩
abbrev cM_meets : ByteArray := prog_7_method_40_code
def yM_hasShape : MethodName := ⟨"ActSurgeryModel", "hasShape", "(I)Z"⟩
abbrev cM_hasShape : ByteArray := prog_7_method_41_code
def yM_hasNoRing : MethodName := ⟨"ActSurgeryModel", "hasNoRing", "(I)Z"⟩
abbrev cM_hasNoRing : ByteArray := prog_7_method_42_code
def yM_findLike : MethodName := ⟨"ActSurgeryModel", "findLike", "()V"⟩
abbrev cM_findLike : ByteArray := prog_7_method_43_code
def yM_sureFrom : MethodName := ⟨"ActSurgeryModel", "sureFrom", "(I)I"⟩
abbrev cM_sureFrom : ByteArray := prog_7_method_44_code
def yM_count : MethodName := ⟨"ActSurgeryModel", "count", "(I)I"⟩
abbrev cM_count : ByteArray := prog_7_method_45_code
def yM_partedPairs : MethodName := ⟨"ActSurgeryModel", "partedPairs", "()I"⟩
abbrev cM_partedPairs : ByteArray := prog_7_method_46_code
def yM_before : MethodName := ⟨"ActSurgeryModel", "before", "(I)I"⟩
abbrev cM_before : ByteArray := prog_7_method_47_code
def yM_of : MethodName := ⟨"ActSurgeryModel", "of", "(II)I"⟩
abbrev cM_of : ByteArray := prog_7_method_48_code
def yM_draws : MethodName := ⟨"ActSurgeryModel", "draws", "(IIII)J"⟩
abbrev cM_draws : ByteArray := prog_7_method_49_code
def yM_twoDraws : MethodName := ⟨"ActSurgeryModel", "twoDraws", "(IIIIII)J"⟩
abbrev cM_twoDraws : ByteArray := prog_7_method_50_code
def yM_divisor : MethodName := ⟨"ActSurgeryModel", "divisor", "(JJ)J"⟩
abbrev cM_divisor : ByteArray := prog_7_method_51_code
def yM_part : MethodName := ⟨"ActSurgeryModel", "part", "(JJI)I"⟩
abbrev cM_part : ByteArray := prog_7_method_52_code
def yM_isValues : MethodName := ⟨"ActSurgeryModel", "isValues", "(II)Z"⟩
abbrev cM_isValues : ByteArray := prog_7_method_53_code
def yM_odds : MethodName := ⟨"ActSurgeryModel", "odds", "(IIIIIII)I"⟩
abbrev cM_odds : ByteArray := prog_7_method_54_code
def yM_would : MethodName := ⟨"ActSurgeryModel", "would", "(IIIIIII)I"⟩
abbrev cM_would : ByteArray := prog_7_method_55_code
def yM_ofOne : MethodName := ⟨"ActSurgeryModel", "ofOne", "(III)J"⟩
abbrev cM_ofOne : ByteArray := prog_7_method_56_code
def yM_effect : MethodName := ⟨"ActSurgeryModel", "effect", "(II)I"⟩
abbrev cM_effect : ByteArray := prog_7_method_57_code
def yM_swayed : MethodName := ⟨"ActSurgeryModel", "swayed", "(II)I"⟩
abbrev cM_swayed : ByteArray := prog_7_method_58_code
def yM_swayedDraws : MethodName := ⟨"ActSurgeryModel", "swayedDraws", "(III)J"⟩
abbrev cM_swayedDraws : ByteArray := prog_7_method_59_code
def yM_swap : MethodName := ⟨"ActSurgeryModel", "swap", "()I"⟩
abbrev cM_swap : ByteArray := prog_7_method_60_code
def yM_keep : MethodName := ⟨"ActSurgeryModel", "keep", "()I"⟩
abbrev cM_keep : ByteArray := prog_7_method_61_code
def yM_sameOdds : MethodName := ⟨"ActSurgeryModel", "sameOdds", "(II)Z"⟩
abbrev cM_sameOdds : ByteArray := prog_7_method_62_code
def yM_sameWhatever : MethodName := ⟨"ActSurgeryModel", "sameWhatever", "()Z"⟩
abbrev cM_sameWhatever : ByteArray := prog_7_method_63_code
def yM_sameSeen : MethodName := ⟨"ActSurgeryModel", "sameSeen", "()Z"⟩
abbrev cM_sameSeen : ByteArray := prog_7_method_64_code
def yM_sameShape : MethodName := ⟨"ActSurgeryModel", "sameShape", "()Z"⟩
abbrev cM_sameShape : ByteArray := prog_7_method_65_code
def yM_alike : MethodName := ⟨"ActSurgeryModel", "alike", "(I)I"⟩
abbrev cM_alike : ByteArray := prog_7_method_66_code
def yI_bitCount : MethodName := ⟨"java/lang/Integer", "bitCount", "(I)I"⟩
abbrev cI_bitCount : ByteArray := prog_8_method_49_code
theorem tw_1_43 : (Jvm.Cond.arrayClass Jvm.ClassFile.FieldType.int) ∈ x_GT := x_t1 43 rfl rfl
theorem x_arr : Cond.arrayClass .int ∈ x_GT := tw_1_43
end
section
/-! A PURE PICTURE of the machine: the cells in the order in which they were made, references told by their places. -/
abbrev x_C : Type := (Nat × (Nat → Int32)) ⊕ (Nat × List Value)
abbrev x_W : Type := List x_C
abbrev x_L : Type := List (Option Value)
/-- a value of the picture as a value of the machine: place i is the cell base + i; a returnAddress stands for the law's script -/
def x_tr (base b : Nat) : Value → Value
  | .ref i => .ref (base + i)
  | .retAddr _ => .ref b
  | .int x => .int x
  | .long x => .long x
  | .float x => .float x
  | .double x => .double x
  | .null => .null
theorem x_tr_cat (base b : Nat) (v : Value) : (x_tr base b v).category = v.category := by cases v <;> rfl
def x_cc (base b : Nat) (cI : ClassId) : x_C → va_E
  | .inl a => .inl (cI, a.1, .inl a.2)
  | .inr o => .inr (o.1, o.2.map (x_tr base b))
def x_cw (base b : Nat) (cI : ClassId) : Nat → x_W → va_W
  | _, [] => []
  | k, c :: w => (base + k, x_cc base b cI c) :: x_cw base b cI (k + 1) w
theorem x_cw_get {base b : Nat} {cI : ClassId} (w : x_W) : ∀ k i : Nat, (x_cw base b cI k w)[i]? = (w[i]?).map (fun c => (base + (k + i), x_cc base b cI c)) := by
  induction w with
  | nil => intro k i; simp [x_cw]
  | cons c w ih =>
    intro k i
    cases i with
    | zero => simp [x_cw]
    | succ i =>
      have e : k + 1 + i = k + (i + 1) := by omega
      have := ih (k + 1) i
      rw [e] at this
      simpa [x_cw] using this
theorem x_cw_set {base b : Nat} {cI : ClassId} (w : x_W) : ∀ (k i : Nat) (c : x_C), (x_cw base b cI k w).set i (base + (k + i), x_cc base b cI c) = x_cw base b cI k (w.set i c) := by
  induction w with
  | nil => intro k i c; simp [x_cw]
  | cons c0 w ih =>
    intro k i c
    cases i with
    | zero => simp [x_cw]
    | succ i =>
      have e : k + 1 + i = k + (i + 1) := by omega
      have := ih (k + 1) i c
      rw [e] at this
      simpa [x_cw] using this
theorem x_cw_app {base b : Nat} {cI : ClassId} (w : x_W) (c : x_C) : ∀ k : Nat, x_cw base b cI k (w ++ [c]) = x_cw base b cI k w ++ [(base + (k + w.length), x_cc base b cI c)] := by
  induction w with
  | nil => intro k; simp [x_cw]
  | cons c0 w ih =>
    intro k
    have e : k + 1 + w.length = k + (w.length + 1) := by omega
    have := ih (k + 1)
    rw [e] at this
    simpa [x_cw] using this
theorem x_cw_at {base b : Nat} {cI : ClassId} {w : x_W} {i : Nat} {c : x_C} (h : w[i]? = some c) : (x_cw base b cI 0 w)[i]? = some (base + i, x_cc base b cI c) := by
  rw [x_cw_get, h]; simp
theorem x_cw_st {base b : Nat} {cI : ClassId} (w : x_W) (i : Nat) (c : x_C) : (x_cw base b cI 0 w).set i (base + i, x_cc base b cI c) = x_cw base b cI 0 (w.set i c) := by
  have := x_cw_set (base := base) (b := b) (cI := cI) w 0 i c
  simpa using this
theorem x_cw_ap {base b : Nat} {cI : ClassId} (w : x_W) (c : x_C) : x_cw base b cI 0 (w ++ [c]) = x_cw base b cI 0 w ++ [(base + w.length, x_cc base b cI c)] := by
  have := x_cw_app (base := base) (b := b) (cI := cI) w c 0
  simpa using this
theorem x_D {base b : Nat} {cI : ClassId} (w : x_W) : va_D (fun q : Nat => base ≤ q) (x_cw base b cI 0 w) := by
  refine ⟨fun i j p q hp hq h => ?_, fun k q hq => ?_⟩
  · rw [x_cw_get] at hp hq
    obtain ⟨c1, -, rfl⟩ := Option.map_eq_some_iff.mp hp
    obtain ⟨c2, -, rfl⟩ := Option.map_eq_some_iff.mp hq
    dsimp only at h
    omega
  · rw [x_cw_get] at hq
    obtain ⟨c1, -, rfl⟩ := Option.map_eq_some_iff.mp hq
    show base ≤ _
    dsimp only
    omega
/-! locals by their places -/
def x_R (base b : Nat) (ls : Array Slot) (nL : Nat) (L : x_L) : Prop := ls.size = nL ∧ lv_wf ls ∧ ∀ (j : Nat) (v : Value), L[j]? = some (some v) → ls[j]? = some (.val (x_tr base b v))
def x_a1 (base b : Nat) (L : x_L) (j : Nat) : Option (Nat × Value) := match L[j]? with
  | some (some v) => some (j, x_tr base b v)
  | _ => none
def x_as (base b : Nat) (L : x_L) : List (Nat × Value) := (List.range L.length).filterMap (x_a1 base b L)
theorem x_a1_some {base b : Nat} {L : x_L} {j : Nat} {q : Nat × Value} (h : x_a1 base b L j = some q) : ∃ v, L[j]? = some (some v) ∧ q = (j, x_tr base b v) := by
  unfold x_a1 at h
  split at h
  · next v hv => exact ⟨v, hv, (Option.some.inj h).symm⟩
  · cases h
theorem x_as_mem {base b : Nat} {L : x_L} {q : Nat × Value} (h : q ∈ x_as base b L) : ∃ v, L[q.1]? = some (some v) ∧ q.2 = x_tr base b v := by
  obtain ⟨j, -, hj⟩ := List.mem_filterMap.mp h
  obtain ⟨v, h1, rfl⟩ := x_a1_some hj
  exact ⟨v, h1, rfl⟩
theorem x_as_of {base b : Nat} {L : x_L} {j : Nat} {v : Value} (h : L[j]? = some (some v)) : (j, x_tr base b v) ∈ x_as base b L := by
  refine List.mem_filterMap.mpr ⟨j, List.mem_range.mpr (List.getElem?_eq_some_iff.mp h).1, ?_⟩
  unfold x_a1
  rw [h]
theorem x_R.has {base b : Nat} {ls : Array Slot} {nL : Nat} {L : x_L} (h : x_R base b ls nL L) : lv_has ls nL (x_as base b L) := by
  refine ⟨h.1, h.2.1, fun q hq => ?_⟩
  obtain ⟨v, h1, h2⟩ := x_as_mem hq
  rw [h2]
  exact h.2.2 q.1 v h1
def x_kill (L : x_L) (i : Nat) : x_L := match i with
  | 0 => L
  | i + 1 => match L[i]? with
    | some (some v) => if v.category = 2 then L.set i none else L
    | _ => L
def x_st1 (L : x_L) (i : Nat) (v : Value) : x_L := (x_kill L i).set i (some v)
def x_st2 (L : x_L) (i : Nat) (v : Value) : x_L := ((x_kill L i).set (i + 1) none).set i (some v)
theorem x_kill_get {L : x_L} {i j : Nat} {u : Value} (h : (x_kill L i)[j]? = some (some u)) : L[j]? = some (some u) ∧ ¬ (j + 1 = i ∧ u.category = 2) := by
  cases i with
  | zero => exact ⟨h, by omega⟩
  | succ i =>
    unfold x_kill at h
    dsimp only at h
    split at h
    · next v hv =>
      split at h
      · next hc =>
        rw [List.getElem?_set] at h
        by_cases e : i = j
        · rw [if_pos e] at h
          split at h <;> simp at h
        · rw [if_neg e] at h
          exact ⟨h, by omega⟩
      · next hc =>
        refine ⟨h, fun z => ?_⟩
        have e : j = i := by omega
        subst e
        rw [hv] at h
        have : v = u := by simpa using h
        subst this
        exact hc z.2
    · next hv =>
      refine ⟨h, fun z => ?_⟩
      have e : j = i := by omega
      subst e
      exact hv u h
theorem x_R.st1 {base b : Nat} {ls' : Array Slot} {nL i : Nat} {L : x_L} {v : Value} (h : lv_has ls' nL ((i, x_tr base b v) :: (x_as base b L).filter (fun q => !(q.1 == i) && !(q.1 + 1 == i && q.2.category == 2)))) : x_R base b ls' nL (x_st1 L i v) := by
  refine ⟨h.1, h.2.1, fun j u hj => ?_⟩
  unfold x_st1 at hj
  rw [List.getElem?_set] at hj
  by_cases e : i = j
  · rw [if_pos e] at hj
    subst e
    split at hj
    · have : v = u := by simpa using hj
      subst this
      exact h.2.2 _ List.mem_cons_self
    · cases hj
  · rw [if_neg e] at hj
    obtain ⟨h1, h2⟩ := x_kill_get hj
    refine h.2.2 (j, x_tr base b u) (List.mem_cons_of_mem _ (List.mem_filter.mpr ⟨x_as_of h1, ?_⟩))
    simp only [x_tr_cat, Bool.and_eq_true, Bool.not_eq_true', beq_eq_false_iff_ne, ne_eq, Bool.and_eq_false_iff]
    refine ⟨fun z => e z.symm, ?_⟩
    by_cases z : j + 1 = i
    · exact Or.inr fun y => h2 ⟨z, y⟩
    · exact Or.inl z
theorem x_R.st2 {base b : Nat} {ls' : Array Slot} {nL i : Nat} {L : x_L} {v : Value} (h : lv_has ls' nL ((i, x_tr base b v) :: (x_as base b L).filter (fun q => !(q.1 == i) && (!(q.1 == i + 1) && !(q.1 + 1 == i && q.2.category == 2))))) : x_R base b ls' nL (x_st2 L i v) := by
  refine ⟨h.1, h.2.1, fun j u hj => ?_⟩
  unfold x_st2 at hj
  rw [List.getElem?_set] at hj
  by_cases e : i = j
  · rw [if_pos e] at hj
    subst e
    split at hj
    · have : v = u := by simpa using hj
      subst this
      exact h.2.2 _ List.mem_cons_self
    · cases hj
  · rw [if_neg e, List.getElem?_set] at hj
    by_cases e2 : i + 1 = j
    · rw [if_pos e2] at hj
      split at hj <;> simp at hj
    · rw [if_neg e2] at hj
      obtain ⟨h1, h2⟩ := x_kill_get hj
      refine h.2.2 (j, x_tr base b u) (List.mem_cons_of_mem _ (List.mem_filter.mpr ⟨x_as_of h1, ?_⟩))
      simp only [x_tr_cat, Bool.and_eq_true, Bool.not_eq_true', beq_eq_false_iff_ne, ne_eq, Bool.and_eq_false_iff]
      refine ⟨fun z => e z.symm, fun z => e2 z.symm, ?_⟩
      by_cases z : j + 1 = i
      · exact Or.inr fun y => h2 ⟨z, y⟩
      · exact Or.inl z
/-- fewer values known -/
theorem x_R.less {base b : Nat} {ls : Array Slot} {nL : Nat} {L L' : x_L} (h : x_R base b ls nL L) (hl : ∀ (j : Nat) (v : Value), L'[j]? = some (some v) → L[j]? = some (some v)) : x_R base b ls nL L' := ⟨h.1, h.2.1, fun j v hj => h.2.2 j v (hl j v hj)⟩
def x_sub : x_L → x_L → Prop
  | [], _ => True
  | none :: l, _ :: L => x_sub l L
  | none :: l, [] => x_sub l []
  | some v :: l, u :: L => u = some v ∧ x_sub l L
  | some _ :: _, [] => False
theorem x_sub_get : ∀ (l L : x_L), x_sub l L → ∀ (j : Nat) (v : Value), l[j]? = some (some v) → L[j]? = some (some v)
  | [], _, _, j, v, hj => by simp at hj
  | none :: l, u :: L, h, 0, v, hj => by simp at hj
  | none :: l, u :: L, h, j + 1, v, hj => x_sub_get l L h j v (by simpa using hj)
  | none :: l, [], h, 0, v, hj => by simp at hj
  | none :: l, [], h, j + 1, v, hj => by
    have := x_sub_get l [] h j v (by simpa using hj)
    simp at this
  | some v0 :: l, u :: L, h, 0, v, hj => by
    have e : v0 = v := by simpa using hj
    subst e
    simpa using h.1
  | some v0 :: l, u :: L, h, j + 1, v, hj => x_sub_get l L h.2 j v (by simpa using hj)
  | some _ :: _, [], h, _, _, _ => h.elim
/-- the locals at a method's start -/
def x_en : List Value → x_L
  | [] => []
  | v :: vs => if v.category = 2 then some v :: none :: x_en vs else some v :: x_en vs
def x_entry (nL : Nat) (av : List Value) : x_L := x_en av ++ List.replicate (nL - (x_en av).length) none
theorem x_en_mem (base b : Nat) : ∀ (av : List Value) (k j : Nat) (v : Value), (x_en av)[j]? = some (some v) → (k + j, x_tr base b v) ∈ lv_args k (av.map (x_tr base b))
  | [], k, j, v, h => by simp [x_en] at h
  | u :: vs, k, j, v, h => by
    rw [List.map_cons, lv_args, x_tr_cat]
    rw [x_en] at h
    by_cases hc : u.category = 2
    · rw [if_pos hc] at h
      rw [if_pos hc]
      match j, h with
      | 0, h =>
        have e : u = v := by simpa using h
        subst e
        exact List.mem_cons_self
      | 1, h => simp at h
      | j + 2, h =>
        have := x_en_mem base b vs (k + 2) j v (by simpa using h)
        rw [show k + 2 + j = k + (j + 2) by omega] at this
        exact List.mem_cons_of_mem _ this
    · rw [if_neg hc] at h
      rw [if_neg hc]
      match j, h with
      | 0, h =>
        have e : u = v := by simpa using h
        subst e
        exact List.mem_cons_self
      | j + 1, h =>
        have := x_en_mem base b vs (k + 1) j v (by simpa using h)
        rw [show k + 1 + j = k + (j + 1) by omega] at this
        exact List.mem_cons_of_mem _ this
theorem x_R.entry {base b nL : Nat} {av : List Value} {ls : Array Slot} (h : lv_has ls nL (lv_args 0 (av.map (x_tr base b)))) : x_R base b ls nL (x_entry nL av) := by
  refine ⟨h.1, h.2.1, fun j v hj => ?_⟩
  unfold x_entry at hj
  by_cases hl : j < (x_en av).length
  · rw [List.getElem?_append_left hl] at hj
    have := x_en_mem base b av 0 j v hj
    rw [Nat.zero_add] at this
    exact h.2.2 _ this
  · rw [List.getElem?_append_right (by omega), List.getElem?_replicate] at hj
    split at hj <;> simp at hj
/-! what the picture's cells hold -/
def x_fv (w : x_W) (i ci k : Nat) : Option Value := match w[i]? with
  | some (.inr o) => if o.1 = ci then o.2[k]? else none
  | _ => none
def x_vi : Option Value → Option Int32
  | some (.int x) => some x
  | _ => none
def x_vr : Option Value → Option Nat
  | some (.ref x) => some x
  | _ => none
def x_fi (w : x_W) (i ci k : Nat) : Option Int32 := x_vi (x_fv w i ci k)
def x_fr (w : x_W) (i ci k : Nat) : Option Nat := x_vr (x_fv w i ci k)
def x_pf (w : x_W) (i ci k : Nat) (v : Value) : Option x_W := match w[i]? with
  | some (.inr o) => if o.1 = ci ∧ k < o.2.length then some (w.set i (.inr (ci, o.2.set k v))) else none
  | _ => none
def x_ai (w : x_W) (i : Nat) (j : Int32) : Option Int32 := match w[i]? with
  | some (.inl a) => if j < 0 ∨ a.1 ≤ j.toNatClampNeg then none else some (a.2 j.toNatClampNeg)
  | _ => none
def x_pa (w : x_W) (i : Nat) (j x : Int32) : Option x_W := match w[i]? with
  | some (.inl a) => if j < 0 ∨ a.1 ≤ j.toNatClampNeg then none else some (w.set i (.inl (a.1, upd a.2 j.toNatClampNeg x)))
  | _ => none
def x_cp (w : x_W) (i : Nat) (sp : Int32) (j : Nat) (dp n : Int32) : Option x_W := match w[i]?, w[j]? with
  | some (.inl a), some (.inl c) => if sp < 0 ∨ dp < 0 ∨ n < 0 ∨ a.1 < sp.toNatClampNeg + n.toNatClampNeg ∨ c.1 < dp.toNatClampNeg + n.toNatClampNeg then none else some (w.set j (.inl (c.1, va_cpy a.2 c.2 sp.toNatClampNeg dp.toNatClampNeg n.toNatClampNeg)))
  | _, _ => none
theorem x_fv_some {w : x_W} {i ci k : Nat} {v : Value} (h : x_fv w i ci k = some v) : ∃ fs, w[i]? = some (.inr (ci, fs)) ∧ fs[k]? = some v := by
  unfold x_fv at h
  split at h
  · next o ho =>
    split at h
    · next hc => exact ⟨o.2, by rw [ho, ← hc], h⟩
    · cases h
  · cases h
theorem x_fi_some {w : x_W} {i ci k : Nat} {x : Int32} (h : x_fi w i ci k = some x) : x_fv w i ci k = some (.int x) := by
  unfold x_fi x_vi at h
  split at h
  · next y hy => rw [hy]; cases h; rfl
  · cases h
theorem x_fr_some {w : x_W} {i ci k : Nat} {x : Nat} (h : x_fr w i ci k = some x) : x_fv w i ci k = some (.ref x) := by
  unfold x_fr x_vr at h
  split at h
  · next y hy => rw [hy]; cases h; rfl
  · cases h
theorem x_pf_some {w w' : x_W} {i ci k : Nat} {v : Value} (h : x_pf w i ci k v = some w') : ∃ fs, w[i]? = some (.inr (ci, fs)) ∧ k < fs.length ∧ w' = w.set i (.inr (ci, fs.set k v)) := by
  unfold x_pf at h
  split at h
  · next o ho =>
    split at h
    · next hc => exact ⟨o.2, by rw [ho, ← hc.1], hc.2, (Option.some.inj h).symm⟩
    · cases h
  · cases h
theorem x_ai_some {w : x_W} {i : Nat} {j x : Int32} (h : x_ai w i j = some x) : ∃ n f, w[i]? = some (.inl (n, f)) ∧ vp_in j n ∧ x = f j.toNatClampNeg := by
  unfold x_ai at h
  split at h
  · next a ha =>
    split at h
    · cases h
    · next hc => exact ⟨a.1, a.2, ha, hc, (Option.some.inj h).symm⟩
  · cases h
theorem x_pa_some {w w' : x_W} {i : Nat} {j x : Int32} (h : x_pa w i j x = some w') : ∃ n f, w[i]? = some (.inl (n, f)) ∧ vp_in j n ∧ w' = w.set i (.inl (n, upd f j.toNatClampNeg x)) := by
  unfold x_pa at h
  split at h
  · next a ha =>
    split at h
    · cases h
    · next hc => exact ⟨a.1, a.2, ha, hc, (Option.some.inj h).symm⟩
  · cases h
theorem x_bind {α β : Type} {o : Option α} {f : α → Option β} {r : β} (h : o.bind f = some r) : ∃ a, o = some a ∧ f a = some r := Option.bind_eq_some_iff.mp h
end
section
/-! THE PURE JUDGEMENT x_G: at this pc, with these locals, this stack and this picture, the frame ends well; a row for each instruction. -/
abbrev x_S : Type := Option (Nat × (Nat → Int32))
def x_SC (SC : x_S) (b base : Nat) (s : State) (args : Array Value) : Prop := match SC with
  | none => True
  | some q => va_X b q.1 q.2 s s.heap ∧ b < s.heap.size ∧ base = s.heap.size ∧ args = #[Value.ref b]
abbrev x_QF : Type := List Frame → Array Value → State → va_G → ClassId → Nat → Nat → State → Prop
def x_room (d mc ms : Nat) : Room := { frames := d, cells := mc, slots := ms, locals := 60 * d }
def x_Ctx (SC : x_S) (y : MethodName) (cc : ByteArray) (nL : Nat) (rt : Option FieldType) (p : Program) (s : State) (m : MethodId) (args : Array Value) (meth : Method) (c : Code) (D : va_G) (cI : ClassId) (base b : Nat) : Prop :=
  p.tables.exec = Jvm.exec ∧ c.code = cc ∧ c.maxLocals = nL ∧ s.vm.findClass y.cls = some m.cls ∧ (∀ w ∈ x_GT, w.before args s = true) ∧ va_K D x_cl [(cI, .int)] s ∧ (∀ w ∈ x_NW, va_Nw w s) ∧ base ≤ s.heap.size ∧ x_SC SC b base s args ∧ meth.sig.returnType = rt ∧ meth.locks = false ∧ meth.name = y.name
def x_Inv (nL : Nat) (D : va_G) (cI : ClassId) (base b : Nat) (s : State) (H : Heap) (locs : List Loc) (ls : Array Slot) (L : x_L) (w : x_W) (nc : Nat) : Prop :=
  s.heap.size + nc ≤ base + w.length ∧ va_P D x_cl (x_cw base b cI 0 w) H ∧ va_S (fun q : Nat => base ≤ q) s.heap H locs ∧ x_R base b ls nL L
def x_G (SC : x_S) (y : MethodName) (cc : ByteArray) (nL : Nat) (rt : Option FieldType) (R : Room) (QF : x_QF) (pc : Nat) (L : x_L) (st : List Value) (w : x_W) (nc ns : Nat) : Prop :=
  ∀ (p : Program) (l : Launch) (e : Env) (s : State) (m : MethodId) (args : Array Value) (below : List Frame) (meth : Method) (c : Code) (D : va_G) (cI : ClassId) (base b : Nat) (H : Heap) (locs : List Loc) (ls : Array Slot),
    x_Ctx SC y cc nL rt p s m args meth c D cI base b → x_Inv nL D cI base b s H locs ls L w nc →
    W p l e R s m args below meth c H locs nc ns (QF below args s D cI base b) (F0 m pc ls (st.map (x_tr base b)))
section XG
variable {SC : x_S} {y : MethodName} {cc : ByteArray} {nL : Nat} {rt : Option FieldType} {R : Room} {QF : x_QF} {pc : Nat} {L : x_L} {st : List Value} {w : x_W} {nc ns : Nat}
theorem g_iadd (n : Nat) {z x : Int32} (hd : decode cc pc = .ok (.iadd, 1)) (hn : pc + 1 = n) (k : x_G SC y cc nL rt R QF n L (.int (x + z) :: st) w nc ns) : x_G SC y cc nL rt R QF pc L (.int z :: .int x :: st) w nc ns := by
  intro p l e s m args below meth c D cI base b H locs ls C I
  subst hn
  exact lv_iadd C.1 C.2.1 hd (k p l e s m args below meth c D cI base b H locs ls C I)
theorem g_isub (n : Nat) {z x : Int32} (hd : decode cc pc = .ok (.isub, 1)) (hn : pc + 1 = n) (k : x_G SC y cc nL rt R QF n L (.int (x - z) :: st) w nc ns) : x_G SC y cc nL rt R QF pc L (.int z :: .int x :: st) w nc ns := by
  intro p l e s m args below meth c D cI base b H locs ls C I
  subst hn
  exact lv_isub C.1 C.2.1 hd (k p l e s m args below meth c D cI base b H locs ls C I)
theorem g_imul (n : Nat) {z x : Int32} (hd : decode cc pc = .ok (.imul, 1)) (hn : pc + 1 = n) (k : x_G SC y cc nL rt R QF n L (.int (x * z) :: st) w nc ns) : x_G SC y cc nL rt R QF pc L (.int z :: .int x :: st) w nc ns := by
  intro p l e s m args below meth c D cI base b H locs ls C I
  subst hn
  exact lv_imul C.1 C.2.1 hd (k p l e s m args below meth c D cI base b H locs ls C I)
theorem g_iand (n : Nat) {z x : Int32} (hd : decode cc pc = .ok (.iand, 1)) (hn : pc + 1 = n) (k : x_G SC y cc nL rt R QF n L (.int (x &&& z) :: st) w nc ns) : x_G SC y cc nL rt R QF pc L (.int z :: .int x :: st) w nc ns := by
  intro p l e s m args below meth c D cI base b H locs ls C I
  subst hn
  exact lv_iand C.1 C.2.1 hd (k p l e s m args below meth c D cI base b H locs ls C I)
theorem g_ior (n : Nat) {z x : Int32} (hd : decode cc pc = .ok (.ior, 1)) (hn : pc + 1 = n) (k : x_G SC y cc nL rt R QF n L (.int (x ||| z) :: st) w nc ns) : x_G SC y cc nL rt R QF pc L (.int z :: .int x :: st) w nc ns := by
  intro p l e s m args below meth c D cI base b H locs ls C I
  subst hn
  exact lv_ior C.1 C.2.1 hd (k p l e s m args below meth c D cI base b H locs ls C I)
theorem g_ixor (n : Nat) {z x : Int32} (hd : decode cc pc = .ok (.ixor, 1)) (hn : pc + 1 = n) (k : x_G SC y cc nL rt R QF n L (.int (x ^^^ z) :: st) w nc ns) : x_G SC y cc nL rt R QF pc L (.int z :: .int x :: st) w nc ns := by
  intro p l e s m args below meth c D cI base b H locs ls C I
  subst hn
  exact lv_ixor C.1 C.2.1 hd (k p l e s m args below meth c D cI base b H locs ls C I)
theorem g_ishl (n : Nat) {z x : Int32} (hd : decode cc pc = .ok (.ishl, 1)) (hn : pc + 1 = n) (k : x_G SC y cc nL rt R QF n L (.int (x <<< (z &&& 31)) :: st) w nc ns) : x_G SC y cc nL rt R QF pc L (.int z :: .int x :: st) w nc ns := by
  intro p l e s m args below meth c D cI base b H locs ls C I
  subst hn
  exact lv_ishl C.1 C.2.1 hd (k p l e s m args below meth c D cI base b H locs ls C I)
theorem g_ishr (n : Nat) {z x : Int32} (hd : decode cc pc = .ok (.ishr, 1)) (hn : pc + 1 = n) (k : x_G SC y cc nL rt R QF n L (.int (x >>> (z &&& 31)) :: st) w nc ns) : x_G SC y cc nL rt R QF pc L (.int z :: .int x :: st) w nc ns := by
  intro p l e s m args below meth c D cI base b H locs ls C I
  subst hn
  exact lv_ishr C.1 C.2.1 hd (k p l e s m args below meth c D cI base b H locs ls C I)
theorem g_iushr (n : Nat) {z x : Int32} (hd : decode cc pc = .ok (.iushr, 1)) (hn : pc + 1 = n) (k : x_G SC y cc nL rt R QF n L (.int ((x.toUInt32 >>> (z.toUInt32 &&& Int32.toUInt32 31)).toInt32) :: st) w nc ns) : x_G SC y cc nL rt R QF pc L (.int z :: .int x :: st) w nc ns := by
  intro p l e s m args below meth c D cI base b H locs ls C I
  subst hn
  exact lv_iushr C.1 C.2.1 hd rfl (k p l e s m args below meth c D cI base b H locs ls C I)
theorem g_idiv (n : Nat) {z x : Int32} (hd : decode cc pc = .ok (.idiv, 1)) (hn : pc + 1 = n) (hz : ¬ z = 0) (k : x_G SC y cc nL rt R QF n L (.int (x / z) :: st) w nc ns) : x_G SC y cc nL rt R QF pc L (.int z :: .int x :: st) w nc ns := by
  intro p l e s m args below meth c D cI base b H locs ls C I
  subst hn
  exact lv_idiv C.1 C.2.1 hd hz (k p l e s m args below meth c D cI base b H locs ls C I)
theorem g_irem (n : Nat) {z x : Int32} (hd : decode cc pc = .ok (.irem, 1)) (hn : pc + 1 = n) (hz : ¬ z = 0) (k : x_G SC y cc nL rt R QF n L (.int (x - x / z * z) :: st) w nc ns) : x_G SC y cc nL rt R QF pc L (.int z :: .int x :: st) w nc ns := by
  intro p l e s m args below meth c D cI base b H locs ls C I
  subst hn
  exact lv_irem C.1 C.2.1 hd hz (k p l e s m args below meth c D cI base b H locs ls C I)
theorem g_ineg (n : Nat) {x : Int32} (hd : decode cc pc = .ok (.ineg, 1)) (hn : pc + 1 = n) (k : x_G SC y cc nL rt R QF n L (.int (-x) :: st) w nc ns) : x_G SC y cc nL rt R QF pc L (.int x :: st) w nc ns := by
  intro p l e s m args below meth c D cI base b H locs ls C I
  subst hn
  exact lv_ineg C.1 C.2.1 hd (k p l e s m args below meth c D cI base b H locs ls C I)
theorem g_ladd (n : Nat) {z x : Int64} (hd : decode cc pc = .ok (.ladd, 1)) (hn : pc + 1 = n) (k : x_G SC y cc nL rt R QF n L (.long (x + z) :: st) w nc ns) : x_G SC y cc nL rt R QF pc L (.long z :: .long x :: st) w nc ns := by
  intro p l e s m args below meth c D cI base b H locs ls C I
  subst hn
  exact lv_ladd C.1 C.2.1 hd (k p l e s m args below meth c D cI base b H locs ls C I)
theorem g_lsub (n : Nat) {z x : Int64} (hd : decode cc pc = .ok (.lsub, 1)) (hn : pc + 1 = n) (k : x_G SC y cc nL rt R QF n L (.long (x - z) :: st) w nc ns) : x_G SC y cc nL rt R QF pc L (.long z :: .long x :: st) w nc ns := by
  intro p l e s m args below meth c D cI base b H locs ls C I
  subst hn
  exact lv_lsub C.1 C.2.1 hd (k p l e s m args below meth c D cI base b H locs ls C I)
theorem g_lmul (n : Nat) {z x : Int64} (hd : decode cc pc = .ok (.lmul, 1)) (hn : pc + 1 = n) (k : x_G SC y cc nL rt R QF n L (.long (x * z) :: st) w nc ns) : x_G SC y cc nL rt R QF pc L (.long z :: .long x :: st) w nc ns := by
  intro p l e s m args below meth c D cI base b H locs ls C I
  subst hn
  exact lv_lmul C.1 C.2.1 hd (k p l e s m args below meth c D cI base b H locs ls C I)
theorem g_ldiv (n : Nat) {z x : Int64} (hd : decode cc pc = .ok (.ldiv, 1)) (hn : pc + 1 = n) (hz : ¬ z = 0) (k : x_G SC y cc nL rt R QF n L (.long (x / z) :: st) w nc ns) : x_G SC y cc nL rt R QF pc L (.long z :: .long x :: st) w nc ns := by
  intro p l e s m args below meth c D cI base b H locs ls C I
  subst hn
  exact lv_ldiv C.1 C.2.1 hd hz (k p l e s m args below meth c D cI base b H locs ls C I)
theorem g_lrem (n : Nat) {z x : Int64} (hd : decode cc pc = .ok (.lrem, 1)) (hn : pc + 1 = n) (hz : ¬ z = 0) (k : x_G SC y cc nL rt R QF n L (.long (x - x / z * z) :: st) w nc ns) : x_G SC y cc nL rt R QF pc L (.long z :: .long x :: st) w nc ns := by
  intro p l e s m args below meth c D cI base b H locs ls C I
  subst hn
  exact lv_lrem C.1 C.2.1 hd hz (k p l e s m args below meth c D cI base b H locs ls C I)
theorem g_lcmp (n : Nat) {z x : Int64} (hd : decode cc pc = .ok (.lcmp, 1)) (hn : pc + 1 = n) (k : x_G SC y cc nL rt R QF n L (.int (lg_cmp x z) :: st) w nc ns) : x_G SC y cc nL rt R QF pc L (.long z :: .long x :: st) w nc ns := by
  intro p l e s m args below meth c D cI base b H locs ls C I
  subst hn
  exact W.lcmp C.1 C.2.1 hd (k p l e s m args below meth c D cI base b H locs ls C I)
theorem g_i2l (n : Nat) {x : Int32} (hd : decode cc pc = .ok (.i2l, 1)) (hn : pc + 1 = n) (k : x_G SC y cc nL rt R QF n L (.long x.toInt64 :: st) w nc ns) : x_G SC y cc nL rt R QF pc L (.int x :: st) w nc ns := by
  intro p l e s m args below meth c D cI base b H locs ls C I
  subst hn
  exact lv_i2l C.1 C.2.1 hd rfl (k p l e s m args below meth c D cI base b H locs ls C I)
theorem g_l2i (n : Nat) {x : Int64} (hd : decode cc pc = .ok (.l2i, 1)) (hn : pc + 1 = n) (k : x_G SC y cc nL rt R QF n L (.int x.toInt32 :: st) w nc ns) : x_G SC y cc nL rt R QF pc L (.long x :: st) w nc ns := by
  intro p l e s m args below meth c D cI base b H locs ls C I
  subst hn
  exact lv_l2i C.1 C.2.1 hd rfl (k p l e s m args below meth c D cI base b H locs ls C I)
theorem g_iconst (n : Nat) (v : Int32) {j : Int} (hd : decode cc pc = .ok (.iconst j, 1)) (hn : pc + 1 = n) (hv : Int32.ofInt j = v) (k : x_G SC y cc nL rt R QF n L (.int v :: st) w nc ns) : x_G SC y cc nL rt R QF pc L st w nc ns := by
  intro p l e s m args below meth c D cI base b H locs ls C I
  subst hn
  exact lv_iconst C.1 C.2.1 hd hv (k p l e s m args below meth c D cI base b H locs ls C I)
theorem g_bipush (n : Nat) (v : Int32) {j : Int} (hd : decode cc pc = .ok (.bipush j, 2)) (hn : pc + 2 = n) (hv : (Int8.ofInt j).toInt32 = v) (k : x_G SC y cc nL rt R QF n L (.int v :: st) w nc ns) : x_G SC y cc nL rt R QF pc L st w nc ns := by
  intro p l e s m args below meth c D cI base b H locs ls C I
  subst hn
  exact lv_bipush C.1 C.2.1 hd hv (k p l e s m args below meth c D cI base b H locs ls C I)
theorem g_sipush (n : Nat) (v : Int32) {j : Int} (hd : decode cc pc = .ok (.sipush j, 3)) (hn : pc + 3 = n) (hv : (Int16.ofInt j).toInt32 = v) (k : x_G SC y cc nL rt R QF n L (.int v :: st) w nc ns) : x_G SC y cc nL rt R QF pc L st w nc ns := by
  intro p l e s m args below meth c D cI base b H locs ls C I
  subst hn
  exact lv_sipush C.1 C.2.1 hd hv (k p l e s m args below meth c D cI base b H locs ls C I)
theorem g_lconst (n : Nat) (v : Int64) {j : Fin 2} (hd : decode cc pc = .ok (.lconst j, 1)) (hn : pc + 1 = n) (hv : Int64.ofNat (j : Nat) = v) (k : x_G SC y cc nL rt R QF n L (.long v :: st) w nc ns) : x_G SC y cc nL rt R QF pc L st w nc ns := by
  intro p l e s m args below meth c D cI base b H locs ls C I
  subst hn
  exact lv_lconst C.1 C.2.1 hd hv (k p l e s m args below meth c D cI base b H locs ls C I)
theorem g_iload_n (n : Nat) {a : Fin 4} {i : Nat} {x : Int32} (hd : decode cc pc = .ok (.iload_n a, 1)) (hn : pc + 1 = n) (hi : (a : Nat) = i) (hl : L[i]? = some (some (.int x))) (k : x_G SC y cc nL rt R QF n L (.int x :: st) w nc ns) : x_G SC y cc nL rt R QF pc L st w nc ns := by
  intro p l e s m args below meth c D cI base b H locs ls C I
  subst hn
  exact lv_iload_n C.1 C.2.1 hd hi (I.2.2.2.2.2 i _ hl) (k p l e s m args below meth c D cI base b H locs ls C I)
theorem g_iload (n : Nat) {i : Nat} {x : Int32} (hd : decode cc pc = .ok (.iload i, 2)) (hn : pc + 2 = n) (hl : L[i]? = some (some (.int x))) (k : x_G SC y cc nL rt R QF n L (.int x :: st) w nc ns) : x_G SC y cc nL rt R QF pc L st w nc ns := by
  intro p l e s m args below meth c D cI base b H locs ls C I
  subst hn
  exact lv_iload C.1 C.2.1 hd (I.2.2.2.2.2 i _ hl) (k p l e s m args below meth c D cI base b H locs ls C I)
theorem g_lload_n (n : Nat) {a : Fin 4} {i : Nat} {x : Int64} (hd : decode cc pc = .ok (.lload_n a, 1)) (hn : pc + 1 = n) (hi : (a : Nat) = i) (hl : L[i]? = some (some (.long x))) (k : x_G SC y cc nL rt R QF n L (.long x :: st) w nc ns) : x_G SC y cc nL rt R QF pc L st w nc ns := by
  intro p l e s m args below meth c D cI base b H locs ls C I
  subst hn
  exact lv_lload_n C.1 C.2.1 hd hi (I.2.2.2.2.2 i _ hl) (k p l e s m args below meth c D cI base b H locs ls C I)
theorem g_lload (n : Nat) {i : Nat} {x : Int64} (hd : decode cc pc = .ok (.lload i, 2)) (hn : pc + 2 = n) (hl : L[i]? = some (some (.long x))) (k : x_G SC y cc nL rt R QF n L (.long x :: st) w nc ns) : x_G SC y cc nL rt R QF pc L st w nc ns := by
  intro p l e s m args below meth c D cI base b H locs ls C I
  subst hn
  exact lv_lload C.1 C.2.1 hd (I.2.2.2.2.2 i _ hl) (k p l e s m args below meth c D cI base b H locs ls C I)
theorem g_aload_n (n : Nat) {a : Fin 4} {i x : Nat} (hd : decode cc pc = .ok (.aload_n a, 1)) (hn : pc + 1 = n) (hi : (a : Nat) = i) (hl : L[i]? = some (some (.ref x))) (k : x_G SC y cc nL rt R QF n L (.ref x :: st) w nc ns) : x_G SC y cc nL rt R QF pc L st w nc ns := by
  intro p l e s m args below meth c D cI base b H locs ls C I
  subst hn
  exact lv_aload_n C.1 C.2.1 hd hi (I.2.2.2.2.2 i _ hl) (k p l e s m args below meth c D cI base b H locs ls C I)
theorem g_aload (n : Nat) {i x : Nat} (hd : decode cc pc = .ok (.aload i, 2)) (hn : pc + 2 = n) (hl : L[i]? = some (some (.ref x))) (k : x_G SC y cc nL rt R QF n L (.ref x :: st) w nc ns) : x_G SC y cc nL rt R QF pc L st w nc ns := by
  intro p l e s m args below meth c D cI base b H locs ls C I
  subst hn
  exact lv_aload C.1 C.2.1 hd (I.2.2.2.2.2 i _ hl) (k p l e s m args below meth c D cI base b H locs ls C I)
theorem g_aloadS_n (n : Nat) {a : Fin 4} {i x : Nat} (hd : decode cc pc = .ok (.aload_n a, 1)) (hn : pc + 1 = n) (hi : (a : Nat) = i) (hl : L[i]? = some (some (.retAddr x))) (k : x_G SC y cc nL rt R QF n L (.retAddr x :: st) w nc ns) : x_G SC y cc nL rt R QF pc L st w nc ns := by
  intro p l e s m args below meth c D cI base b H locs ls C I
  subst hn
  exact lv_aload_n C.1 C.2.1 hd hi (I.2.2.2.2.2 i _ hl) (k p l e s m args below meth c D cI base b H locs ls C I)
theorem g_aloadS (n : Nat) {i x : Nat} (hd : decode cc pc = .ok (.aload i, 2)) (hn : pc + 2 = n) (hl : L[i]? = some (some (.retAddr x))) (k : x_G SC y cc nL rt R QF n L (.retAddr x :: st) w nc ns) : x_G SC y cc nL rt R QF pc L st w nc ns := by
  intro p l e s m args below meth c D cI base b H locs ls C I
  subst hn
  exact lv_aload C.1 C.2.1 hd (I.2.2.2.2.2 i _ hl) (k p l e s m args below meth c D cI base b H locs ls C I)
theorem g_istore_n (n : Nat) {a : Fin 4} {i : Nat} {x : Int32} (L' : x_L) (hd : decode cc pc = .ok (.istore_n a, 1)) (hn : pc + 1 = n) (hi : (a : Nat) = i) (hl : x_st1 L i (.int x) = L') (hm : i < nL) (k : x_G SC y cc nL rt R QF n L' st w nc ns) : x_G SC y cc nL rt R QF pc L (.int x :: st) w nc ns := by
  intro p l e s m args below meth c D cI base b H locs ls C I
  subst hn
  subst hl
  exact lv_istore_n C.1 C.2.1 hd hi I.2.2.2.has hm rfl (fun ls' h => k p l e s m args below meth c D cI base b H locs ls' C ⟨I.1, I.2.1, I.2.2.1, x_R.st1 (v := .int x) h⟩)
theorem g_istore (n : Nat) {i : Nat} {x : Int32} (L' : x_L) (hd : decode cc pc = .ok (.istore i, 2)) (hn : pc + 2 = n) (hl : x_st1 L i (.int x) = L') (hm : i < nL) (k : x_G SC y cc nL rt R QF n L' st w nc ns) : x_G SC y cc nL rt R QF pc L (.int x :: st) w nc ns := by
  intro p l e s m args below meth c D cI base b H locs ls C I
  subst hn
  subst hl
  exact lv_istore C.1 C.2.1 hd I.2.2.2.has hm rfl (fun ls' h => k p l e s m args below meth c D cI base b H locs ls' C ⟨I.1, I.2.1, I.2.2.1, x_R.st1 (v := .int x) h⟩)
theorem g_astore_n (n : Nat) {a : Fin 4} {i : Nat} {x : Nat} (L' : x_L) (hd : decode cc pc = .ok (.astore_n a, 1)) (hn : pc + 1 = n) (hi : (a : Nat) = i) (hl : x_st1 L i (.ref x) = L') (hm : i < nL) (k : x_G SC y cc nL rt R QF n L' st w nc ns) : x_G SC y cc nL rt R QF pc L (.ref x :: st) w nc ns := by
  intro p l e s m args below meth c D cI base b H locs ls C I
  subst hn
  subst hl
  exact lv_astore_n C.1 C.2.1 hd hi I.2.2.2.has hm rfl (fun ls' h => k p l e s m args below meth c D cI base b H locs ls' C ⟨I.1, I.2.1, I.2.2.1, x_R.st1 (v := .ref x) h⟩)
theorem g_astore (n : Nat) {i : Nat} {x : Nat} (L' : x_L) (hd : decode cc pc = .ok (.astore i, 2)) (hn : pc + 2 = n) (hl : x_st1 L i (.ref x) = L') (hm : i < nL) (k : x_G SC y cc nL rt R QF n L' st w nc ns) : x_G SC y cc nL rt R QF pc L (.ref x :: st) w nc ns := by
  intro p l e s m args below meth c D cI base b H locs ls C I
  subst hn
  subst hl
  exact lv_astore C.1 C.2.1 hd I.2.2.2.has hm rfl (fun ls' h => k p l e s m args below meth c D cI base b H locs ls' C ⟨I.1, I.2.1, I.2.2.1, x_R.st1 (v := .ref x) h⟩)
theorem g_lstore_n (n : Nat) {a : Fin 4} {i : Nat} {x : Int64} (L' : x_L) (hd : decode cc pc = .ok (.lstore_n a, 1)) (hn : pc + 1 = n) (hi : (a : Nat) = i) (hl : x_st2 L i (.long x) = L') (hm : i + 1 < nL) (k : x_G SC y cc nL rt R QF n L' st w nc ns) : x_G SC y cc nL rt R QF pc L (.long x :: st) w nc ns := by
  intro p l e s m args below meth c D cI base b H locs ls C I
  subst hn
  subst hl
  exact lv_lstore_n C.1 C.2.1 hd hi I.2.2.2.has hm rfl (fun ls' h => k p l e s m args below meth c D cI base b H locs ls' C ⟨I.1, I.2.1, I.2.2.1, x_R.st2 (v := .long x) h⟩)
theorem g_lstore (n : Nat) {i : Nat} {x : Int64} (L' : x_L) (hd : decode cc pc = .ok (.lstore i, 2)) (hn : pc + 2 = n) (hl : x_st2 L i (.long x) = L') (hm : i + 1 < nL) (k : x_G SC y cc nL rt R QF n L' st w nc ns) : x_G SC y cc nL rt R QF pc L (.long x :: st) w nc ns := by
  intro p l e s m args below meth c D cI base b H locs ls C I
  subst hn
  subst hl
  exact lv_lstore C.1 C.2.1 hd I.2.2.2.has hm rfl (fun ls' h => k p l e s m args below meth c D cI base b H locs ls' C ⟨I.1, I.2.1, I.2.2.1, x_R.st2 (v := .long x) h⟩)
theorem g_iinc (n : Nat) {i : Nat} {j : Int} {x v : Int32} (L' : x_L) (hd : decode cc pc = .ok (.iinc i j, 3)) (hn : pc + 3 = n) (hx : L[i]? = some (some (.int x))) (hv : x + Int32.ofInt j = v) (hl : x_st1 L i (.int v) = L') (hm : i < nL) (k : x_G SC y cc nL rt R QF n L' st w nc ns) : x_G SC y cc nL rt R QF pc L st w nc ns := by
  intro p l e s m args below meth c D cI base b H locs ls C I
  subst hn
  subst hl
  have hmem : (i, Value.int x) ∈ x_as base b L := x_as_of (v := .int x) hx
  obtain ⟨kk, hkk⟩ := List.mem_iff_getElem?.mp hmem
  exact lv_iinc C.1 C.2.1 hd I.2.2.2.has hkk hv hm rfl (fun ls' h => k p l e s m args below meth c D cI base b H locs ls' C ⟨I.1, I.2.1, I.2.2.1, x_R.st1 (v := .int v) h⟩)
theorem g_dup (n : Nat) {v : Value} (hd : decode cc pc = .ok (.dup, 1)) (hn : pc + 1 = n) (hc : v.category = 1) (k : x_G SC y cc nL rt R QF n L (v :: v :: st) w nc ns) : x_G SC y cc nL rt R QF pc L (v :: st) w nc ns := by
  intro p l e s m args below meth c D cI base b H locs ls C I
  subst hn
  exact lv_dup C.1 C.2.1 hd (by rw [x_tr_cat]; exact hc) (k p l e s m args below meth c D cI base b H locs ls C I)
theorem g_dup2 (n : Nat) {u v : Value} (hd : decode cc pc = .ok (.dup2, 1)) (hn : pc + 1 = n) (hu : u.category = 1) (hv : v.category = 1) (k : x_G SC y cc nL rt R QF n L (u :: v :: u :: v :: st) w nc ns) : x_G SC y cc nL rt R QF pc L (u :: v :: st) w nc ns := by
  intro p l e s m args below meth c D cI base b H locs ls C I
  subst hn
  exact lv_dup2_11 C.1 C.2.1 hd (by rw [x_tr_cat]; exact hu) (by rw [x_tr_cat]; exact hv) (k p l e s m args below meth c D cI base b H locs ls C I)
theorem g_pop (n : Nat) {v : Value} (hd : decode cc pc = .ok (.pop, 1)) (hn : pc + 1 = n) (hc : v.category = 1) (k : x_G SC y cc nL rt R QF n L st w nc ns) : x_G SC y cc nL rt R QF pc L (v :: st) w nc ns := by
  intro p l e s m args below meth c D cI base b H locs ls C I
  subst hn
  exact lv_pop C.1 C.2.1 hd (by rw [x_tr_cat]; exact hc) (k p l e s m args below meth c D cI base b H locs ls C I)
theorem g_icmp_eq_t (t : Nat) {x z : Int32} {off : Int} (hd : decode cc pc = .ok (.if_icmp .eq off, 3)) (ht : (pc : Int) + off = (t : Int)) (hc : x = z) (k : x_G SC y cc nL rt R QF t L st w nc ns) : x_G SC y cc nL rt R QF pc L (.int z :: .int x :: st) w nc ns := by
  intro p l e s m args below meth c D cI base b H locs ls C I
  exact lv_icmp_eq (tgt := t) C.1 C.2.1 hd ht (fun _ => (k p l e s m args below meth c D cI base b H locs ls C I)) (fun h => absurd hc h)
theorem g_icmp_eq_f (n : Nat) {x z : Int32} {off : Int} (t : Nat) (hd : decode cc pc = .ok (.if_icmp .eq off, 3)) (ht : (pc : Int) + off = (t : Int)) (hn : pc + 3 = n) (hc : ¬ x = z) (k : x_G SC y cc nL rt R QF n L st w nc ns) : x_G SC y cc nL rt R QF pc L (.int z :: .int x :: st) w nc ns := by
  intro p l e s m args below meth c D cI base b H locs ls C I
  subst hn
  exact lv_icmp_eq (tgt := t) C.1 C.2.1 hd ht (fun h => absurd h hc) (fun _ => (k p l e s m args below meth c D cI base b H locs ls C I))
theorem g_if_eq_t (t : Nat) {x : Int32} {off : Int} (hd : decode cc pc = .ok (.ifCond .eq off, 3)) (ht : (pc : Int) + off = (t : Int)) (hc : x = 0) (k : x_G SC y cc nL rt R QF t L st w nc ns) : x_G SC y cc nL rt R QF pc L (.int x :: st) w nc ns := by
  intro p l e s m args below meth c D cI base b H locs ls C I
  exact lv_if_eq (tgt := t) C.1 C.2.1 hd ht (fun _ => (k p l e s m args below meth c D cI base b H locs ls C I)) (fun h => absurd hc h)
theorem g_if_eq_f (n : Nat) {x : Int32} {off : Int} (t : Nat) (hd : decode cc pc = .ok (.ifCond .eq off, 3)) (ht : (pc : Int) + off = (t : Int)) (hn : pc + 3 = n) (hc : ¬ x = 0) (k : x_G SC y cc nL rt R QF n L st w nc ns) : x_G SC y cc nL rt R QF pc L (.int x :: st) w nc ns := by
  intro p l e s m args below meth c D cI base b H locs ls C I
  subst hn
  exact lv_if_eq (tgt := t) C.1 C.2.1 hd ht (fun h => absurd h hc) (fun _ => (k p l e s m args below meth c D cI base b H locs ls C I))
theorem g_icmp_ne_t (t : Nat) {x z : Int32} {off : Int} (hd : decode cc pc = .ok (.if_icmp .ne off, 3)) (ht : (pc : Int) + off = (t : Int)) (hc : ¬ x = z) (k : x_G SC y cc nL rt R QF t L st w nc ns) : x_G SC y cc nL rt R QF pc L (.int z :: .int x :: st) w nc ns := by
  intro p l e s m args below meth c D cI base b H locs ls C I
  exact lv_icmp_ne (tgt := t) C.1 C.2.1 hd ht (fun _ => (k p l e s m args below meth c D cI base b H locs ls C I)) (fun h => absurd h hc)
theorem g_icmp_ne_f (n : Nat) {x z : Int32} {off : Int} (t : Nat) (hd : decode cc pc = .ok (.if_icmp .ne off, 3)) (ht : (pc : Int) + off = (t : Int)) (hn : pc + 3 = n) (hc : x = z) (k : x_G SC y cc nL rt R QF n L st w nc ns) : x_G SC y cc nL rt R QF pc L (.int z :: .int x :: st) w nc ns := by
  intro p l e s m args below meth c D cI base b H locs ls C I
  subst hn
  exact lv_icmp_ne (tgt := t) C.1 C.2.1 hd ht (fun h => absurd hc h) (fun _ => (k p l e s m args below meth c D cI base b H locs ls C I))
theorem g_if_ne_t (t : Nat) {x : Int32} {off : Int} (hd : decode cc pc = .ok (.ifCond .ne off, 3)) (ht : (pc : Int) + off = (t : Int)) (hc : ¬ x = 0) (k : x_G SC y cc nL rt R QF t L st w nc ns) : x_G SC y cc nL rt R QF pc L (.int x :: st) w nc ns := by
  intro p l e s m args below meth c D cI base b H locs ls C I
  exact lv_if_ne (tgt := t) C.1 C.2.1 hd ht (fun _ => (k p l e s m args below meth c D cI base b H locs ls C I)) (fun h => absurd h hc)
theorem g_if_ne_f (n : Nat) {x : Int32} {off : Int} (t : Nat) (hd : decode cc pc = .ok (.ifCond .ne off, 3)) (ht : (pc : Int) + off = (t : Int)) (hn : pc + 3 = n) (hc : x = 0) (k : x_G SC y cc nL rt R QF n L st w nc ns) : x_G SC y cc nL rt R QF pc L (.int x :: st) w nc ns := by
  intro p l e s m args below meth c D cI base b H locs ls C I
  subst hn
  exact lv_if_ne (tgt := t) C.1 C.2.1 hd ht (fun h => absurd hc h) (fun _ => (k p l e s m args below meth c D cI base b H locs ls C I))
theorem g_icmp_lt_t (t : Nat) {x z : Int32} {off : Int} (hd : decode cc pc = .ok (.if_icmp .lt off, 3)) (ht : (pc : Int) + off = (t : Int)) (hc : x < z) (k : x_G SC y cc nL rt R QF t L st w nc ns) : x_G SC y cc nL rt R QF pc L (.int z :: .int x :: st) w nc ns := by
  intro p l e s m args below meth c D cI base b H locs ls C I
  exact lv_icmp_lt (tgt := t) C.1 C.2.1 hd ht (fun _ => (k p l e s m args below meth c D cI base b H locs ls C I)) (fun h => absurd hc h)
theorem g_icmp_lt_f (n : Nat) {x z : Int32} {off : Int} (t : Nat) (hd : decode cc pc = .ok (.if_icmp .lt off, 3)) (ht : (pc : Int) + off = (t : Int)) (hn : pc + 3 = n) (hc : ¬ x < z) (k : x_G SC y cc nL rt R QF n L st w nc ns) : x_G SC y cc nL rt R QF pc L (.int z :: .int x :: st) w nc ns := by
  intro p l e s m args below meth c D cI base b H locs ls C I
  subst hn
  exact lv_icmp_lt (tgt := t) C.1 C.2.1 hd ht (fun h => absurd h hc) (fun _ => (k p l e s m args below meth c D cI base b H locs ls C I))
theorem g_if_lt_t (t : Nat) {x : Int32} {off : Int} (hd : decode cc pc = .ok (.ifCond .lt off, 3)) (ht : (pc : Int) + off = (t : Int)) (hc : x < 0) (k : x_G SC y cc nL rt R QF t L st w nc ns) : x_G SC y cc nL rt R QF pc L (.int x :: st) w nc ns := by
  intro p l e s m args below meth c D cI base b H locs ls C I
  exact lv_if_lt (tgt := t) C.1 C.2.1 hd ht (fun _ => (k p l e s m args below meth c D cI base b H locs ls C I)) (fun h => absurd hc h)
theorem g_if_lt_f (n : Nat) {x : Int32} {off : Int} (t : Nat) (hd : decode cc pc = .ok (.ifCond .lt off, 3)) (ht : (pc : Int) + off = (t : Int)) (hn : pc + 3 = n) (hc : ¬ x < 0) (k : x_G SC y cc nL rt R QF n L st w nc ns) : x_G SC y cc nL rt R QF pc L (.int x :: st) w nc ns := by
  intro p l e s m args below meth c D cI base b H locs ls C I
  subst hn
  exact lv_if_lt (tgt := t) C.1 C.2.1 hd ht (fun h => absurd h hc) (fun _ => (k p l e s m args below meth c D cI base b H locs ls C I))
theorem g_icmp_ge_t (t : Nat) {x z : Int32} {off : Int} (hd : decode cc pc = .ok (.if_icmp .ge off, 3)) (ht : (pc : Int) + off = (t : Int)) (hc : z ≤ x) (k : x_G SC y cc nL rt R QF t L st w nc ns) : x_G SC y cc nL rt R QF pc L (.int z :: .int x :: st) w nc ns := by
  intro p l e s m args below meth c D cI base b H locs ls C I
  exact lv_icmp_ge (tgt := t) C.1 C.2.1 hd ht (fun _ => (k p l e s m args below meth c D cI base b H locs ls C I)) (fun h => absurd hc h)
theorem g_icmp_ge_f (n : Nat) {x z : Int32} {off : Int} (t : Nat) (hd : decode cc pc = .ok (.if_icmp .ge off, 3)) (ht : (pc : Int) + off = (t : Int)) (hn : pc + 3 = n) (hc : ¬ z ≤ x) (k : x_G SC y cc nL rt R QF n L st w nc ns) : x_G SC y cc nL rt R QF pc L (.int z :: .int x :: st) w nc ns := by
  intro p l e s m args below meth c D cI base b H locs ls C I
  subst hn
  exact lv_icmp_ge (tgt := t) C.1 C.2.1 hd ht (fun h => absurd h hc) (fun _ => (k p l e s m args below meth c D cI base b H locs ls C I))
theorem g_if_ge_t (t : Nat) {x : Int32} {off : Int} (hd : decode cc pc = .ok (.ifCond .ge off, 3)) (ht : (pc : Int) + off = (t : Int)) (hc : 0 ≤ x) (k : x_G SC y cc nL rt R QF t L st w nc ns) : x_G SC y cc nL rt R QF pc L (.int x :: st) w nc ns := by
  intro p l e s m args below meth c D cI base b H locs ls C I
  exact lv_if_ge (tgt := t) C.1 C.2.1 hd ht (fun _ => (k p l e s m args below meth c D cI base b H locs ls C I)) (fun h => absurd hc h)
theorem g_if_ge_f (n : Nat) {x : Int32} {off : Int} (t : Nat) (hd : decode cc pc = .ok (.ifCond .ge off, 3)) (ht : (pc : Int) + off = (t : Int)) (hn : pc + 3 = n) (hc : ¬ 0 ≤ x) (k : x_G SC y cc nL rt R QF n L st w nc ns) : x_G SC y cc nL rt R QF pc L (.int x :: st) w nc ns := by
  intro p l e s m args below meth c D cI base b H locs ls C I
  subst hn
  exact lv_if_ge (tgt := t) C.1 C.2.1 hd ht (fun h => absurd h hc) (fun _ => (k p l e s m args below meth c D cI base b H locs ls C I))
theorem g_icmp_gt_t (t : Nat) {x z : Int32} {off : Int} (hd : decode cc pc = .ok (.if_icmp .gt off, 3)) (ht : (pc : Int) + off = (t : Int)) (hc : z < x) (k : x_G SC y cc nL rt R QF t L st w nc ns) : x_G SC y cc nL rt R QF pc L (.int z :: .int x :: st) w nc ns := by
  intro p l e s m args below meth c D cI base b H locs ls C I
  exact lv_icmp_gt (tgt := t) C.1 C.2.1 hd ht (fun _ => (k p l e s m args below meth c D cI base b H locs ls C I)) (fun h => absurd hc h)
theorem g_icmp_gt_f (n : Nat) {x z : Int32} {off : Int} (t : Nat) (hd : decode cc pc = .ok (.if_icmp .gt off, 3)) (ht : (pc : Int) + off = (t : Int)) (hn : pc + 3 = n) (hc : ¬ z < x) (k : x_G SC y cc nL rt R QF n L st w nc ns) : x_G SC y cc nL rt R QF pc L (.int z :: .int x :: st) w nc ns := by
  intro p l e s m args below meth c D cI base b H locs ls C I
  subst hn
  exact lv_icmp_gt (tgt := t) C.1 C.2.1 hd ht (fun h => absurd h hc) (fun _ => (k p l e s m args below meth c D cI base b H locs ls C I))
theorem g_if_gt_t (t : Nat) {x : Int32} {off : Int} (hd : decode cc pc = .ok (.ifCond .gt off, 3)) (ht : (pc : Int) + off = (t : Int)) (hc : 0 < x) (k : x_G SC y cc nL rt R QF t L st w nc ns) : x_G SC y cc nL rt R QF pc L (.int x :: st) w nc ns := by
  intro p l e s m args below meth c D cI base b H locs ls C I
  exact lv_if_gt (tgt := t) C.1 C.2.1 hd ht (fun _ => (k p l e s m args below meth c D cI base b H locs ls C I)) (fun h => absurd hc h)
theorem g_if_gt_f (n : Nat) {x : Int32} {off : Int} (t : Nat) (hd : decode cc pc = .ok (.ifCond .gt off, 3)) (ht : (pc : Int) + off = (t : Int)) (hn : pc + 3 = n) (hc : ¬ 0 < x) (k : x_G SC y cc nL rt R QF n L st w nc ns) : x_G SC y cc nL rt R QF pc L (.int x :: st) w nc ns := by
  intro p l e s m args below meth c D cI base b H locs ls C I
  subst hn
  exact lv_if_gt (tgt := t) C.1 C.2.1 hd ht (fun h => absurd h hc) (fun _ => (k p l e s m args below meth c D cI base b H locs ls C I))
theorem g_icmp_le_t (t : Nat) {x z : Int32} {off : Int} (hd : decode cc pc = .ok (.if_icmp .le off, 3)) (ht : (pc : Int) + off = (t : Int)) (hc : x ≤ z) (k : x_G SC y cc nL rt R QF t L st w nc ns) : x_G SC y cc nL rt R QF pc L (.int z :: .int x :: st) w nc ns := by
  intro p l e s m args below meth c D cI base b H locs ls C I
  exact lv_icmp_le (tgt := t) C.1 C.2.1 hd ht (fun _ => (k p l e s m args below meth c D cI base b H locs ls C I)) (fun h => absurd hc h)
theorem g_icmp_le_f (n : Nat) {x z : Int32} {off : Int} (t : Nat) (hd : decode cc pc = .ok (.if_icmp .le off, 3)) (ht : (pc : Int) + off = (t : Int)) (hn : pc + 3 = n) (hc : ¬ x ≤ z) (k : x_G SC y cc nL rt R QF n L st w nc ns) : x_G SC y cc nL rt R QF pc L (.int z :: .int x :: st) w nc ns := by
  intro p l e s m args below meth c D cI base b H locs ls C I
  subst hn
  exact lv_icmp_le (tgt := t) C.1 C.2.1 hd ht (fun h => absurd h hc) (fun _ => (k p l e s m args below meth c D cI base b H locs ls C I))
theorem g_if_le_t (t : Nat) {x : Int32} {off : Int} (hd : decode cc pc = .ok (.ifCond .le off, 3)) (ht : (pc : Int) + off = (t : Int)) (hc : x ≤ 0) (k : x_G SC y cc nL rt R QF t L st w nc ns) : x_G SC y cc nL rt R QF pc L (.int x :: st) w nc ns := by
  intro p l e s m args below meth c D cI base b H locs ls C I
  exact lv_if_le (tgt := t) C.1 C.2.1 hd ht (fun _ => (k p l e s m args below meth c D cI base b H locs ls C I)) (fun h => absurd hc h)
theorem g_if_le_f (n : Nat) {x : Int32} {off : Int} (t : Nat) (hd : decode cc pc = .ok (.ifCond .le off, 3)) (ht : (pc : Int) + off = (t : Int)) (hn : pc + 3 = n) (hc : ¬ x ≤ 0) (k : x_G SC y cc nL rt R QF n L st w nc ns) : x_G SC y cc nL rt R QF pc L (.int x :: st) w nc ns := by
  intro p l e s m args below meth c D cI base b H locs ls C I
  subst hn
  exact lv_if_le (tgt := t) C.1 C.2.1 hd ht (fun h => absurd h hc) (fun _ => (k p l e s m args below meth c D cI base b H locs ls C I))
theorem g_goto (t : Nat) {off : Int} (hd : decode cc pc = .ok (.goto off, 3)) (ht : (pc : Int) + off = (t : Int)) (k : x_G SC y cc nL rt R QF t L st w nc ns) : x_G SC y cc nL rt R QF pc L st w nc ns := by
  intro p l e s m args below meth c D cI base b H locs ls C I
  exact lv_goto (tgt := t) C.1 C.2.1 hd ht (k p l e s m args below meth c D cI base b H locs ls C I)
theorem g_tabIn (t : Nat) {x v : Int32} {dflt lo hi off : Int} {offs : Array Int} {len : Nat} (hd : decode cc pc = .ok (.tableswitch dflt lo hi offs, len)) (hx : x = v) (h1 : ¬ v.toInt < lo) (h2 : ¬ hi < v.toInt) (ho : offs[(v.toInt - lo).toNat]? = some off) (ht : (pc : Int) + off = (t : Int)) (k : x_G SC y cc nL rt R QF t L st w nc ns) : x_G SC y cc nL rt R QF pc L (.int x :: st) w nc ns := by
  intro p l e s m args below meth c D cI base b H locs ls C I
  subst hx
  exact lv_tableIn (tgt := t) C.1 C.2.1 hd h1 h2 ho ht (k p l e s m args below meth c D cI base b H locs ls C I)
theorem g_tabOut (t : Nat) {x : Int32} {dflt lo hi : Int} {offs : Array Int} {len : Nat} (hd : decode cc pc = .ok (.tableswitch dflt lo hi offs, len)) (h : x.toInt < lo ∨ hi < x.toInt) (ht : (pc : Int) + dflt = (t : Int)) (k : x_G SC y cc nL rt R QF t L st w nc ns) : x_G SC y cc nL rt R QF pc L (.int x :: st) w nc ns := by
  intro p l e s m args below meth c D cI base b H locs ls C I
  exact lv_tableOut (tgt := t) C.1 C.2.1 hd h ht (k p l e s m args below meth c D cI base b H locs ls C I)
theorem g_lookup (t : Nat) {x : Int32} {dflt off : Int} {ps : Array (Int × Int)} {len : Nat} (hd : decode cc pc = .ok (.lookupswitch dflt ps, len)) (hp : (ps.toList.zip (ps.toList.drop 1)).all (fun (a, next) => a.1 < next.1) = true) (ho : Op.lookupswitch.offset ps.toList dflt x.toInt = off) (ht : (pc : Int) + off = (t : Int)) (k : x_G SC y cc nL rt R QF t L st w nc ns) : x_G SC y cc nL rt R QF pc L (.int x :: st) w nc ns := by
  intro p l e s m args below meth c D cI base b H locs ls C I
  exact lv_lookup (tgt := t) C.1 C.2.1 hd hp ho ht (k p l e s m args below meth c D cI base b H locs ls C I)
theorem g_less (L' : x_L) (h : x_sub L' L) (k : x_G SC y cc nL rt R QF pc L' st w nc ns) : x_G SC y cc nL rt R QF pc L st w nc ns := by
  intro p l e s m args below meth c D cI base b H locs ls C I
  exact k p l e s m args below meth c D cI base b H locs ls C ⟨I.1, I.2.1, I.2.2.1, I.2.2.2.less (x_sub_get _ _ h)⟩
theorem g_getf (n : Nat) {i idx : Nat} (ci k : Nat) {Cn : String} {T : u_T} {N : Nat} {v : Value} (hd : decode cc pc = .ok (.getfield idx, 3)) (hn : pc + 3 = n) (hin : ∀ w ∈ u_ws Cn T N, w ∈ x_GT) (hlk : Cond.fieldLink y.cls idx (T k).1 (T k).2.1 (T k).2.2.1 ∈ x_GT) (hc : x_cl[ci]? = some (Cn, T, N)) (hk : k < N) (hf : x_fv w i ci k = some v) (kk : x_G SC y cc nL rt R QF n L (v :: st) w nc ns) : x_G SC y cc nL rt R QF pc L (.ref i :: st) w nc ns := by
  intro p l e s m args below meth c D cI base b H locs ls C I
  subst hn
  obtain ⟨fs, h1, h2⟩ := x_fv_some hf
  exact va_get (D := D) (ci := ci) (C := Cn) (T := T) (N := N) (fs := fs.map (x_tr base b)) C.1 C.2.1 C.2.2.2.2.1 hin C.2.2.2.1 C.2.2.2.2.2.1 I.2.1 i (x_cw_at h1) hc k hk (C.2.2.2.2.1 _ hlk) (fun _ h => h) (by rw [List.getElem?_map, h2]; rfl) hd (kk p l e s m args below meth c D cI base b H locs ls C I)
theorem g_getfI (n : Nat) {i idx : Nat} (ci k : Nat) {Cn : String} {T : u_T} {N : Nat} {v : Int32} (hd : decode cc pc = .ok (.getfield idx, 3)) (hn : pc + 3 = n) (hin : ∀ w ∈ u_ws Cn T N, w ∈ x_GT) (hlk : Cond.fieldLink y.cls idx (T k).1 (T k).2.1 (T k).2.2.1 ∈ x_GT) (hc : x_cl[ci]? = some (Cn, T, N)) (hk : k < N) (hf : x_fi w i ci k = some v) (kk : x_G SC y cc nL rt R QF n L (.int v :: st) w nc ns) : x_G SC y cc nL rt R QF pc L (.ref i :: st) w nc ns := g_getf n ci k hd hn hin hlk hc hk (x_fi_some hf) kk
theorem g_getfR (n : Nat) {i idx : Nat} (ci k : Nat) {Cn : String} {T : u_T} {N : Nat} {v : Nat} (hd : decode cc pc = .ok (.getfield idx, 3)) (hn : pc + 3 = n) (hin : ∀ w ∈ u_ws Cn T N, w ∈ x_GT) (hlk : Cond.fieldLink y.cls idx (T k).1 (T k).2.1 (T k).2.2.1 ∈ x_GT) (hc : x_cl[ci]? = some (Cn, T, N)) (hk : k < N) (hf : x_fr w i ci k = some v) (kk : x_G SC y cc nL rt R QF n L (.ref v :: st) w nc ns) : x_G SC y cc nL rt R QF pc L (.ref i :: st) w nc ns := g_getf n ci k hd hn hin hlk hc hk (x_fr_some hf) kk
theorem g_getfN (n : Nat) {i idx : Nat} (ci k : Nat) {Cn : String} {T : u_T} {N : Nat} {host : String} {v : Value} (hd : decode cc pc = .ok (.getfield idx, 3)) (hn : pc + 3 = n) (hin : ∀ w ∈ u_ws Cn T N, w ∈ x_GT) (hlk : Cond.fieldLinkNest y.cls idx (T k).1 (T k).2.1 (T k).2.2.1 host ∈ x_NW) (hc : x_cl[ci]? = some (Cn, T, N)) (hk : k < N) (hf : x_fv w i ci k = some v) (kk : x_G SC y cc nL rt R QF n L (v :: st) w nc ns) : x_G SC y cc nL rt R QF pc L (.ref i :: st) w nc ns := by
  intro p l e s m args below meth c D cI base b H locs ls C I
  subst hn
  obtain ⟨fs, h1, h2⟩ := x_fv_some hf
  exact va_getN (D := D) (ci := ci) (C := Cn) (T := T) (N := N) (fs := fs.map (x_tr base b)) C.1 C.2.1 C.2.2.2.2.1 hin C.2.2.2.1 C.2.2.2.2.2.1 I.2.1 i (x_cw_at h1) hc k hk (va_Nw.use rfl (C.2.2.2.2.2.2.1 _ hlk)) (fun _ h => h) (by rw [List.getElem?_map, h2]; rfl) hd (kk p l e s m args below meth c D cI base b H locs ls C I)
theorem g_getfIN (n : Nat) {i idx : Nat} (ci k : Nat) {Cn : String} {T : u_T} {N : Nat} {host : String} {v : Int32} (hd : decode cc pc = .ok (.getfield idx, 3)) (hn : pc + 3 = n) (hin : ∀ w ∈ u_ws Cn T N, w ∈ x_GT) (hlk : Cond.fieldLinkNest y.cls idx (T k).1 (T k).2.1 (T k).2.2.1 host ∈ x_NW) (hc : x_cl[ci]? = some (Cn, T, N)) (hk : k < N) (hf : x_fi w i ci k = some v) (kk : x_G SC y cc nL rt R QF n L (.int v :: st) w nc ns) : x_G SC y cc nL rt R QF pc L (.ref i :: st) w nc ns := g_getfN n ci k hd hn hin hlk hc hk (x_fi_some hf) kk
theorem g_getfRN (n : Nat) {i idx : Nat} (ci k : Nat) {Cn : String} {T : u_T} {N : Nat} {host : String} {v : Nat} (hd : decode cc pc = .ok (.getfield idx, 3)) (hn : pc + 3 = n) (hin : ∀ w ∈ u_ws Cn T N, w ∈ x_GT) (hlk : Cond.fieldLinkNest y.cls idx (T k).1 (T k).2.1 (T k).2.2.1 host ∈ x_NW) (hc : x_cl[ci]? = some (Cn, T, N)) (hk : k < N) (hf : x_fr w i ci k = some v) (kk : x_G SC y cc nL rt R QF n L (.ref v :: st) w nc ns) : x_G SC y cc nL rt R QF pc L (.ref i :: st) w nc ns := g_getfN n ci k hd hn hin hlk hc hk (x_fr_some hf) kk
theorem g_putf (n : Nat) {i idx : Nat} (ci k : Nat) {Cn : String} {T : u_T} {N : Nat} {v : Value} {w' : x_W} (ty0 : Nat → FieldType) (hty : ∀ k, k < N → parseFieldDescriptor (T k).2.2.1 = some (ty0 k)) (hnm : ∀ a, a < N → ∀ b, b < N → a ≠ b → (T a).2.1 ≠ (T b).2.1) (hd : decode cc pc = .ok (.putfield idx, 3)) (hn : pc + 3 = n) (hin : ∀ w ∈ u_ws Cn T N, w ∈ x_GT) (hlk : Cond.fieldLink y.cls idx (T k).1 (T k).2.1 (T k).2.2.1 ∈ x_GT) (hc : x_cl[ci]? = some (Cn, T, N)) (hk : k < N) (hfin : (T k).2.2.2 = false) (hv : ∀ base b : Nat, narrow (ty0 k) (x_tr base b v) = x_tr base b v ∧ fits (ty0 k) (x_tr base b v) = true) (hf : x_pf w i ci k v = some w') (kk : x_G SC y cc nL rt R QF n L st w' nc ns) : x_G SC y cc nL rt R QF pc L (v :: .ref i :: st) w nc ns := by
  intro p l e s m args below meth c D cI base b H locs ls C I
  subst hn
  obtain ⟨fs, h1, h2, rfl⟩ := x_pf_some hf
  refine va_put (D := D) (ci := ci) (C := Cn) (T := T) (N := N) (fs := fs.map (x_tr base b)) C.1 C.2.1 C.2.2.2.2.1 hin ty0 hty hnm C.2.2.2.1 C.2.2.2.2.2.1 I.2.1 (x_D w) I.2.2.1 i (x_cw_at h1) hc k hk (C.2.2.2.2.1 _ hlk) (fun _ h => h) hfin (hty k hk) (hv base b).1 (hv base b).2 (by rw [List.length_map]; exact h2) hd (fun H1 locs1 hP _ hS => ?_)
  have e9 : ((base + i, Sum.inr (ci, (fs.map (x_tr base b)).set k (x_tr base b v))) : Nat × va_E) = (base + i, x_cc base b cI (.inr (ci, fs.set k v))) := by
    simp [x_cc, List.map_set]
  rw [e9, x_cw_st] at hP
  exact kk p l e s m args below meth c D cI base b H1 locs1 ls C ⟨by rw [List.length_set]; exact I.1, hP, hS, I.2.2.2⟩
theorem g_putfN (n : Nat) {i idx : Nat} (ci k : Nat) {Cn : String} {T : u_T} {N : Nat} {host : String} {v : Value} {w' : x_W} (ty0 : Nat → FieldType) (hty : ∀ k, k < N → parseFieldDescriptor (T k).2.2.1 = some (ty0 k)) (hnm : ∀ a, a < N → ∀ b, b < N → a ≠ b → (T a).2.1 ≠ (T b).2.1) (hd : decode cc pc = .ok (.putfield idx, 3)) (hn : pc + 3 = n) (hin : ∀ w ∈ u_ws Cn T N, w ∈ x_GT) (hlk : Cond.fieldLinkNest y.cls idx (T k).1 (T k).2.1 (T k).2.2.1 host ∈ x_NW) (hc : x_cl[ci]? = some (Cn, T, N)) (hk : k < N) (hfin : (T k).2.2.2 = false) (hv : ∀ base b : Nat, narrow (ty0 k) (x_tr base b v) = x_tr base b v ∧ fits (ty0 k) (x_tr base b v) = true) (hf : x_pf w i ci k v = some w') (kk : x_G SC y cc nL rt R QF n L st w' nc ns) : x_G SC y cc nL rt R QF pc L (v :: .ref i :: st) w nc ns := by
  intro p l e s m args below meth c D cI base b H locs ls C I
  subst hn
  obtain ⟨fs, h1, h2, rfl⟩ := x_pf_some hf
  refine va_putN (D := D) (ci := ci) (C := Cn) (T := T) (N := N) (fs := fs.map (x_tr base b)) C.1 C.2.1 C.2.2.2.2.1 hin ty0 hty hnm C.2.2.2.1 C.2.2.2.2.2.1 I.2.1 (x_D w) I.2.2.1 i (x_cw_at h1) hc k hk (va_Nw.use rfl (C.2.2.2.2.2.2.1 _ hlk)) (fun _ h => h) hfin (hty k hk) (hv base b).1 (hv base b).2 (by rw [List.length_map]; exact h2) hd (fun H1 locs1 hP _ hS => ?_)
  have e9 : ((base + i, Sum.inr (ci, (fs.map (x_tr base b)).set k (x_tr base b v))) : Nat × va_E) = (base + i, x_cc base b cI (.inr (ci, fs.set k v))) := by
    simp [x_cc, List.map_set]
  rw [e9, x_cw_st] at hP
  exact kk p l e s m args below meth c D cI base b H1 locs1 ls C ⟨by rw [List.length_set]; exact I.1, hP, hS, I.2.2.2⟩
theorem g_putfF (n : Nat) {i idx : Nat} (ci k : Nat) {Cn : String} {T : u_T} {N : Nat} {v : Value} {w' : x_W} (ty0 : Nat → FieldType) (hty : ∀ k, k < N → parseFieldDescriptor (T k).2.2.1 = some (ty0 k)) (hnm : ∀ a, a < N → ∀ b, b < N → a ≠ b → (T a).2.1 ≠ (T b).2.1) (hd : decode cc pc = .ok (.putfield idx, 3)) (hn : pc + 3 = n) (hin : ∀ w ∈ u_ws Cn T N, w ∈ x_GT) (hlk : Cond.fieldLink y.cls idx (T k).1 (T k).2.1 (T k).2.2.1 ∈ x_GT) (hc : x_cl[ci]? = some (Cn, T, N)) (hk : k < N) (hfin : (T k).2.2.2 = true) (hin2 : y.name = "<init>") (hdecl : (T k).1 = y.cls) (hv : ∀ base b : Nat, narrow (ty0 k) (x_tr base b v) = x_tr base b v ∧ fits (ty0 k) (x_tr base b v) = true) (hf : x_pf w i ci k v = some w') (kk : x_G SC y cc nL rt R QF n L st w' nc ns) : x_G SC y cc nL rt R QF pc L (v :: .ref i :: st) w nc ns := by
  intro p l e s m args below meth c D cI base b H locs ls C I
  subst hn
  obtain ⟨fs, h1, h2, rfl⟩ := x_pf_some hf
  refine va_putF (D := D) (ci := ci) (C := Cn) (T := T) (N := N) (fs := fs.map (x_tr base b)) C.1 C.2.1 C.2.2.2.2.1 hin ty0 hty hnm C.2.2.2.1 C.2.2.2.2.2.1 I.2.1 (x_D w) I.2.2.1 i (x_cw_at h1) hc k hk (C.2.2.2.2.1 _ hlk) (fun _ h => h) hfin (C.2.2.2.2.2.2.2.2.2.2.2.trans hin2) hdecl (hty k hk) (hv base b).1 (hv base b).2 (by rw [List.length_map]; exact h2) hd (fun H1 locs1 hP _ hS => ?_)
  have e9 : ((base + i, Sum.inr (ci, (fs.map (x_tr base b)).set k (x_tr base b v))) : Nat × va_E) = (base + i, x_cc base b cI (.inr (ci, fs.set k v))) := by
    simp [x_cc, List.map_set]
  rw [e9, x_cw_st] at hP
  exact kk p l e s m args below meth c D cI base b H1 locs1 ls C ⟨by rw [List.length_set]; exact I.1, hP, hS, I.2.2.2⟩
theorem g_iald (n : Nat) {i : Nat} {j x : Int32} (hd : decode cc pc = .ok (.iaload, 1)) (hn : pc + 1 = n) (hf : x_ai w i j = some x) (k : x_G SC y cc nL rt R QF n L (.int x :: st) w nc ns) : x_G SC y cc nL rt R QF pc L (.int j :: .ref i :: st) w nc ns := by
  intro p l e s m args below meth c D cI base b H locs ls C I
  subst hn
  obtain ⟨N, f, h1, h2, rfl⟩ := x_ai_some hf
  exact va_iald C.1 C.2.1 C.2.2.2.2.2.1 I.2.1 i 0 (x_cw_at h1) rfl h2 hd (k p l e s m args below meth c D cI base b H locs ls C I)
theorem g_iast (n : Nat) {i : Nat} {j x : Int32} {w' : x_W} (hd : decode cc pc = .ok (.iastore, 1)) (hn : pc + 1 = n) (hf : x_pa w i j x = some w') (k : x_G SC y cc nL rt R QF n L st w' nc ns) : x_G SC y cc nL rt R QF pc L (.int x :: .int j :: .ref i :: st) w nc ns := by
  intro p l e s m args below meth c D cI base b H locs ls C I
  subst hn
  obtain ⟨N, f, h1, h2, rfl⟩ := x_pa_some hf
  refine va_iast C.1 C.2.1 C.2.2.2.2.2.1 I.2.1 (x_D w) I.2.2.1 i 0 (x_cw_at h1) rfl h2 hd (fun H1 locs1 hP _ hS => ?_)
  have e9 : ((base + i, Sum.inl (cI, N, .inl (upd f j.toNatClampNeg x))) : Nat × va_E) = (base + i, x_cc base b cI (.inl (N, upd f j.toNatClampNeg x))) := rfl
  rw [e9, x_cw_st] at hP
  exact k p l e s m args below meth c D cI base b H1 locs1 ls C ⟨by rw [List.length_set]; exact I.1, hP, hS, I.2.2.2⟩
theorem g_slen (n : Nat) {xl : Nat} {xs : Nat → Int32} {i : Nat} (hd : decode cc pc = .ok (.arraylength, 1)) (hn : pc + 1 = n) (k : x_G (some (xl, xs)) y cc nL rt R QF n L (.int (Int32.ofNat xl) :: st) w nc ns) : x_G (some (xl, xs)) y cc nL rt R QF pc L (.retAddr i :: st) w nc ns := by
  intro p l e s m args below meth c D cI base b H locs ls C I
  subst hn
  obtain ⟨hX, h1, h2, -⟩ := C.2.2.2.2.2.2.2.2.1
  exact va_slen (A := fun q : Nat => base ≤ q) C.1 C.2.1 hX h1 (by show ¬ base ≤ b; omega) I.2.2.1 hd (k p l e s m args below meth c D cI base b H locs ls C I)
theorem g_sld (n : Nat) {xl : Nat} {xs : Nat → Int32} {i : Nat} {j : Int32} (hd : decode cc pc = .ok (.iaload, 1)) (hn : pc + 1 = n) (hj : vp_in j xl) (k : x_G (some (xl, xs)) y cc nL rt R QF n L (.int (xs j.toNatClampNeg) :: st) w nc ns) : x_G (some (xl, xs)) y cc nL rt R QF pc L (.int j :: .retAddr i :: st) w nc ns := by
  intro p l e s m args below meth c D cI base b H locs ls C I
  subst hn
  obtain ⟨hX, h1, h2, -⟩ := C.2.2.2.2.2.2.2.2.1
  exact va_sld (A := fun q : Nat => base ≤ q) C.1 C.2.1 hX h1 (by show ¬ base ≤ b; omega) I.2.2.1 hj hd (k p l e s m args below meth c D cI base b H locs ls C I)
theorem x_lo {D : va_G} {cI : ClassId} {base b : Nat} {H : Heap} {w : x_W} (hP : va_P D x_cl (x_cw base b cI 0 w) H) (hb : base ≤ H.size) : base + w.length ≤ H.size := by
  cases hl : w.length with
  | zero => exact hb
  | succ k =>
    have hk : k < w.length := by omega
    have := (hP k _ (x_cw_at (List.getElem?_eq_getElem hk))).lt
    dsimp only at this
    omega
theorem x_size {p : Program} {l : Launch} {e : Env} {s : State} {m : MethodId} {args : Array Value} {below : List Frame} {meth : Method} {c : Code} {D : va_G} {cI : ClassId} {base b : Nat} {H : Heap} {locs : List Loc} {ls : Array Slot} {Q : State → Prop} {g : JFrame} (C : x_Ctx SC y cc nL rt p s m args meth c D cI base b) (I : x_Inv nL D cI base b s H locs ls L w nc)
    (h : H.size = base + w.length → W p l e R s m args below meth c H locs nc ns Q g) : W p l e R s m args below meth c H locs nc ns Q g := by
  intro T hT X
  refine h ?_ T hT X
  have h1 := X.same.2.2.1
  have h2 : (T.setVm s.vm).heap = H := hT
  rw [h2] at h1
  have h3 := x_lo I.2.1 (Nat.le_trans C.2.2.2.2.2.2.2.1 I.2.2.1.1)
  have h4 := I.1
  omega
theorem g_newa (n : Nat) {j : Int32} (N : Nat) (hd : decode cc pc = .ok (.newarray .int, 2)) (hn : pc + 2 = n) (hw : Cond.arrayClass .int ∈ x_GT) (hj : ¬ j < 0) (hN : j.toNatClampNeg = N) (hB : N * componentBytes .int ≤ 536870912) (hc : nc + 1 ≤ R.cells) (hs : ns + N ≤ R.slots) (k : x_G SC y cc nL rt R QF n L (.ref w.length :: st) (w ++ [.inl (N, fun _ => 0)]) (nc + 1) (ns + N)) : x_G SC y cc nL rt R QF pc L (.int j :: st) w nc ns := by
  intro p l e s m args below meth c D cI base b H locs ls C I
  subst hn
  refine x_size C I fun hz => ?_
  refine va_newaK C.1 C.2.1 (atype := .int) (C.2.2.2.2.1 _ hw) rfl hd rfl hj hN hB hc hs hz fun H1 cA e1 z1 o1 hAr hNm => ?_
  have hcA : cA = cI := Option.some.inj (hNm.symm.trans (C.2.2.2.2.2.1.2 0 _ rfl).2)
  subst hcA
  refine k p l e s m args below meth c D cA base b H1 locs ls C ⟨by rw [List.length_append]; have := I.1; simp; omega, ?_, ⟨by rw [z1]; have := I.2.2.1.1; omega, fun q h1 h2 => ?_, I.2.2.1.2.2⟩, I.2.2.2⟩
  · rw [x_cw_ap]
    refine va_P.app (I.2.1.kept fun i q hq => o1 q.1 ?_) (fun i q hq => ?_)
    · rw [← hz]; exact (I.2.1 i q hq).lt
    · have hi : i < 1 := (List.getElem?_eq_some_iff.mp hq).1
      rw [show i = 0 by omega] at hq
      cases hq
      exact e1
  · rw [o1 q (by have := I.2.2.1.1; omega)]
    exact I.2.2.1.2.1 q h1 h2
theorem g_new (n : Nat) {idx : Nat} (ci : Nat) {Cn : String} {T : u_T} {N : Nat} (ty : Nat → FieldType) (hty : ∀ k, k < N → parseFieldDescriptor (T k).2.2.1 = some (ty k)) (fs : List Value) (hd : decode cc pc = .ok (.new idx, 3)) (hn : pc + 3 = n) (hin : ∀ w ∈ u_ws Cn T N, w ∈ x_GT) (hl : Cond.classLink y.cls idx Cn ∈ x_GT) (hi : Cond.instantiable Cn N ∈ x_GT) (hini : Cond.initialized Cn ∈ x_GT) (hc : x_cl[ci]? = some (Cn, T, N)) (hfs : ∀ j, j < N → defaultValue (ty j) = vp_V fs j) (hfv : ∀ base b : Nat, fs.map (x_tr base b) = fs) (hc1 : nc + 1 ≤ R.cells) (hs1 : ns + N ≤ R.slots) (k : x_G SC y cc nL rt R QF n L (.ref w.length :: st) (w ++ [.inr (ci, fs)]) (nc + 1) (ns + N)) : x_G SC y cc nL rt R QF pc L st w nc ns := by
  intro p l e s m args below meth c D cI base b H locs ls C I
  subst hn
  refine x_size C I fun hz => ?_
  have hKn := C.2.2.2.2.2.1.1 ci _ hc
  refine W.newcK C.1 C.2.1 C.2.2.2.1 (C.2.2.2.2.1 _ hl) (C.2.2.2.2.1 _ hi) (C.2.2.2.2.1 _ hini) rfl hd hc1 hs1 hKn.2.1 hz fun H1 kC hkC e1 z1 o1 => ?_
  refine k p l e s m args below meth c D cI base b H1 locs ls C ⟨by rw [List.length_append]; have := I.1; simp; omega, ?_, ⟨by rw [z1]; have := I.2.2.1.1; omega, fun q h1 h2 => ?_, I.2.2.1.2.2⟩, I.2.2.2⟩
  · rw [x_cw_ap]
    refine va_P.app (I.2.1.kept fun i q hq => o1 q.1 ?_) (fun i q hq => ?_)
    · rw [← hz]; exact (I.2.1 i q hq).lt
    · have hi : i < 1 := (List.getElem?_eq_some_iff.mp hq).1
      rw [show i = 0 by omega] at hq
      cases hq
      refine ⟨_, hc, ?_⟩
      have := (u_born ty C.2.2.2.2.1 hin hKn hkC e1 hty).to hfs
      dsimp only [x_cc]
      rw [hfv base b]
      exact this
  · rw [o1 q (by have := I.2.2.1.1; omega)]
    exact I.2.2.1.2.1 q h1 h2
/-- a method's contract in the picture -/
def x_ws (y : MethodName) (cc : ByteArray) (nL : Nat) (rt : Option FieldType) : List Cond := Cond.code y cc nL rt :: x_GT
def x_pre (D : va_G) (cI : ClassId) (base b : Nat) (w : x_W) (U : State) : Prop := U.heap.size = base + w.length ∧ va_P D x_cl (x_cw base b cI 0 w) U.heap ∧ va_K D x_cl [(cI, .int)] U ∧ ∀ q ∈ x_NW, va_Nw q U
def x_Qc (K : Option Value → x_W → Prop) (mc : Nat) (D : va_G) (cI : ClassId) (base b : Nat) : Array Value → State → Outcome → State → Prop := fun _ st o t => (∃ (r : Option Value) (w' : x_W), K r w' ∧ o = .returned (r.map (x_tr base b)) ∧ st.heap.size + mc ≤ base + w'.length ∧ va_P D x_cl (x_cw base b cI 0 w') t.heap) ∧ va_F (fun q : Nat => base ≤ q) st t
def x_QM (K : Option Value → x_W → Prop) (mc ms : Nat) : x_QF := fun below args s D cI base b => MQ below (x_Qc K mc D cI base b) args s mc ms (fun q : Nat => base ≤ q)
def x_M (y : MethodName) (cc : ByteArray) (nL : Nat) (rt : Option FieldType) (d mc ms : Nat) (av : List Value) (w : x_W) (K : Option Value → x_W → Prop) : Prop :=
  ∀ (l : Launch) (D : va_G) (cI : ClassId) (base b : Nat), Met l y (x_ws y cc nL rt) (x_room d mc ms) (va_Pc (av.map (x_tr base b)) (x_pre D cI base b w)) (x_Qc K mc D cI base b) mc ms (fun q : Nat => base ≤ q)
theorem x_sl (base b : Nat) : ∀ av : List Value, (lg_sl (av.map (x_tr base b))).length = (x_en av).length
  | [] => rfl
  | v :: vs => by
    have ih := x_sl base b vs
    have e : lg_sl (x_tr base b v :: vs.map (x_tr base b)) = (if (x_tr base b v).category = 2 then [Slot.val (x_tr base b v), Slot.second] else [Slot.val (x_tr base b v)]) ++ lg_sl (vs.map (x_tr base b)) := rfl
    rw [List.map_cons, e, x_tr_cat, x_en]
    split <;> simp [ih] <;> omega
theorem x_M.of {d mc ms : Nat} {av : List Value} {K : Option Value → x_W → Prop} (L0 : x_L) (hy : plainName y.cls = true) (hL : x_entry nL av = L0) (hlen : (x_en av).length ≤ nL) (h : x_G none y cc nL rt (x_room d mc ms) (x_QM K mc ms) 0 L0 [] w 0 0) : x_M y cc nL rt d mc ms av w K := by
  intro l D cI base b
  refine Met.ofW (cc := cc) (maxL := nL) (ret := rt) hy rfl ?_
  intro p e s m args below meth c s₁ B hml hv
  obtain ⟨rfl, hsz, hP, hK, hN⟩ := hv
  have hts := atoms_spec (ws := x_ws y cc nL rt) B.pre
  have hown : s.vm.findClass y.cls = some m.cls := findClass_of_methodNamed B.named
  have hl := lv_entry (av.map (x_tr base b)) (n := nL) (by rw [x_sl]; exact hlen)
  rw [lg_entry_eq]
  generalize (lg_sl (av.map (x_tr base b)) ++ List.replicate (nL - (lg_sl (av.map (x_tr base b))).length) Slot.unset).toArray = ls at hl ⊢
  subst hL
  exact h p l e s m _ below meth c D cI base b s.heap [] ls ⟨B.exec, B.bytes, hml, hown, fun w hw => hts w (List.mem_cons_of_mem _ hw), hK, hN, by rw [hsz]; omega, trivial, B.returns, B.notSynchronized, (name_of_methodNamed B.named B.method).1⟩ ⟨by rw [hsz]; omega, hP, va_S.rf, x_R.entry hl⟩
theorem g_iret {K : Option Value → x_W → Prop} {mc ms : Nat} {v : Int32} (hr : rt = some .int) (hd : decode cc pc = .ok (.ireturn, 1)) (hK : K (some (.int v)) w) : x_G SC y cc nL rt R (x_QM K mc ms) pc L [.int v] w mc ms := by
  intro p l e s m args below meth c D cI base b H locs ls C I
  exact W.iret (v := v) C.1 C.2.1 (C.2.2.2.2.2.2.2.2.2.1.trans hr) (fun t ht hW => ⟨⟨some (.int v), w, hK, rfl, I.1, by rw [ht]; exact I.2.1⟩, I.2.2.1.F ht⟩) I.2.2.1.2.2 hd C.2.2.2.2.2.2.2.2.2.2.1
theorem g_zret {K : Option Value → x_W → Prop} {mc ms : Nat} {v : Int32} (hr : rt = some .boolean) (hv : v = 0 ∨ v = 1) (hd : decode cc pc = .ok (.ireturn, 1)) (hK : K (some (.int v)) w) : x_G SC y cc nL rt R (x_QM K mc ms) pc L [.int v] w mc ms := by
  intro p l e s m args below meth c D cI base b H locs ls C I
  exact W.zret (v := v) C.1 C.2.1 (C.2.2.2.2.2.2.2.2.2.1.trans hr) (by rcases hv with rfl | rfl <;> decide +kernel) (fun t ht hW => ⟨⟨some (.int v), w, hK, rfl, I.1, by rw [ht]; exact I.2.1⟩, I.2.2.1.F ht⟩) I.2.2.1.2.2 hd C.2.2.2.2.2.2.2.2.2.2.1
theorem g_lret {K : Option Value → x_W → Prop} {mc ms : Nat} {v : Int64} (hr : rt = some .long) (hd : decode cc pc = .ok (.lreturn, 1)) (hK : K (some (.long v)) w) : x_G SC y cc nL rt R (x_QM K mc ms) pc L [.long v] w mc ms := by
  intro p l e s m args below meth c D cI base b H locs ls C I
  exact W.lret (v := v) C.1 C.2.1 (C.2.2.2.2.2.2.2.2.2.1.trans hr) (fun t ht hW => ⟨⟨some (.long v), w, hK, rfl, I.1, by rw [ht]; exact I.2.1⟩, I.2.2.1.F ht⟩) I.2.2.1.2.2 hd C.2.2.2.2.2.2.2.2.2.2.1
theorem g_vret {K : Option Value → x_W → Prop} {mc ms : Nat} (hr : rt = none) (hd : decode cc pc = .ok (.return_, 1)) (hK : K none w) : x_G SC y cc nL rt R (x_QM K mc ms) pc L [] w mc ms := by
  intro p l e s m args below meth c D cI base b H locs ls C I
  exact W.vret C.1 C.2.1 (C.2.2.2.2.2.2.2.2.2.1.trans hr) (fun t ht hW => ⟨⟨none, w, hK, rfl, I.1, by rw [ht]; exact I.2.1⟩, I.2.2.1.F ht⟩) I.2.2.1.2.2 hd C.2.2.2.2.2.2.2.2.2.2.1
theorem x_blind {D : va_G} {cI : ClassId} {base b : Nat} {w : x_W} {av : List Value} : FrameBlind (va_Pc (av.map (x_tr base b)) (x_pre D cI base b w)) := by
  intro a U g mk q
  obtain ⟨q0, q1, qP, qK, qN⟩ := q
  exact ⟨q0, q1, qP, va_K.moved (u := U) (U := U.calling g mk a) (Vm.Alike.refl U.vm) qK, fun z hz => va_Nw.same (u := U) (x_NWt z hz) rfl (qN z hz)⟩
theorem x_warm {s U : State} (hW : s.WarmedH U.vm) (h : ∀ q ∈ x_NW, va_Nw q s) : ∀ q ∈ x_NW, va_Nw q U := by
  intro q hq
  have h1 := h q hq
  rcases x_NWk q hq with ⟨a, i, r, n, d, h', rfl⟩ | ⟨a, i, x, h', rfl⟩
  · exact va_Nw.warmF hW h1
  · exact va_Nw.warmM hW h1
/-- behind a call -/
theorem x_back {p : Program} {l : Launch} {e : Env} {s : State} {m : MethodId} {args : Array Value} {below : List Frame} {meth : Method} {c : Code} {D : va_G} {cI : ClassId} {base b : Nat} {H : Heap} {locs : List Loc} {ls : Array Slot} {Q : State → Prop} {K2 : Option Value → x_W → Prop} {mc2 ms2 : Nat} {st0 : List Value} {rest : List Value} {a : Array Value} (I : x_Inv nL D cI base b s H locs ls L w nc) (hz : H.size = base + w.length)
    (hr : va_Run p l e R s m args below meth c H locs nc ns mc2 ms2 (F0 m pc ls st0) rest (x_Qc K2 mc2 D cI base b a) (fun q : Nat => base ≤ q))
    (kk : ∀ (r : Option Value) (w' : x_W) (H1 : Heap) (locs1 : List Loc), K2 r w' → x_Inv nL D cI base b s H1 locs1 ls L w' (nc + mc2) → W p l e R s m args below meth c H1 locs1 (nc + mc2) (ns + ms2) Q (F0 m (pc + 3) ls ((r.map (x_tr base b)).toList ++ rest))) : W p l e R s m args below meth c H locs nc ns Q (F0 m pc ls st0) := by
  intro T hT X
  obtain ⟨v, st₀, t, T', L9, h0, X', hL, e1, e2, ⟨⟨r, w', hK, ho, hz2, hP'⟩, hF1, hF2⟩, stp⟩ := hr T hT X
  cases ho
  rw [h0] at hz2 hF1 hF2
  obtain ⟨t2, a1, b1⟩ := kk r w' T'.heap (locs ++ L9) hK ⟨by have := I.1; omega, by rw [e1]; exact hP', ⟨Nat.le_trans I.2.2.1.1 (by rw [e1]; exact hF1), fun q h1 h2 => by
      rw [e1, hF2 q (Nat.lt_of_lt_of_le h1 I.2.2.1.1) h2]
      exact I.2.2.1.2.1 q h1 h2, fun q hq => by
      rcases List.mem_append.mp hq with h | h
      · exact I.2.2.1.2.2 q h
      · exact hL q h⟩, I.2.2.2⟩ T' rfl X'
  exact ⟨t2, stp t2 a1, b1⟩
theorem x_gd {y2 : MethodName} {cc2 : ByteArray} {nL2 : Nat} {rt2 : Option FieldType} (h : Cond.code y2 cc2 nL2 rt2 ∈ x_GT) : GoodIn x_GT (x_ws y2 cc2 nL2 rt2) := by
  intro q hq
  rcases List.mem_cons.mp hq with rfl | hq
  · exact x_good _ h
  · exact x_good _ hq
theorem x_cat (base b : Nat) (st : List Value) : ((st.map (x_tr base b)).map fun v => v.category).sum = (st.map fun v => v.category).sum := by
  congr 1
  rw [List.map_map]
  exact List.map_congr_left fun v _ => x_tr_cat base b v
theorem g_callS (n : Nat) {y2 : MethodName} {cc2 : ByteArray} {nL2 : Nat} {rt2 : Option FieldType} {d mc2 ms2 idx : Nat} {av rest : List Value} {K2 : Option Value → x_W → Prop} (hd : decode cc pc = .ok (.invokestatic idx, 3)) (hn : pc + 3 = n) (hM : x_M y2 cc2 nL2 rt2 d mc2 ms2 av w K2) (hst : Cond.static y2 ∈ x_GT) (hcode : Cond.code y2 cc2 nL2 rt2 ∈ x_GT) (hini : Cond.initialized y2.cls ∈ x_GT) (hlk : Cond.methodLink y.cls idx y2 ∈ x_GT) (hd2 : y2.cls ≠ "java/lang/invoke/MethodHandle" ∧ y2.cls ≠ "java/lang/invoke/VarHandle" ∧ (parseMethodDescriptor y2.desc).map (fun d => d.parameters.length) = some av.length) (hR : d + 1 ≤ R.frames ∧ 8 + (nL2 + 11) + 60 * d ≤ R.locals) (hf : nc + mc2 ≤ R.cells ∧ ns + ms2 ≤ R.slots) (hcat : (rest.map fun v => v.category).sum ≤ 8) (k : ∀ (r : Option Value) (w' : x_W), K2 r w' → x_G SC y cc nL rt R QF n L (r.toList ++ rest) w' (nc + mc2) (ns + ms2)) : x_G SC y cc nL rt R QF pc L (av.reverse ++ rest) w nc ns := by
  intro p l e s m args below meth c D cI base b H locs ls C I
  subst hn
  refine x_size C I fun hz => ?_
  refine x_back I hz (va_runS (As := av.map (x_tr base b)) (rest := rest.map (x_tr base b)) ⟨C.1, C.2.1, C.2.2.1, C.2.2.2.1, C.2.2.2.2.1⟩ (hM l D cI base b) ⟨(callB_of av.length C.2.2.2.2.1 (x_gd hcode) rfl rfl rfl (C.2.2.2.2.1 _ hini) (C.2.2.2.2.1 _ hlk) hd2 hR), C.2.2.2.2.1 _ hst⟩ ⟨x_blind, fun U hU hW => ⟨rfl, by rw [hU]; exact hz, by rw [hU]; exact I.2.1, va_K.moved hW.alike C.2.2.2.2.2.1, x_warm hW C.2.2.2.2.2.2.1⟩⟩ rfl (by rw [List.length_map]) I.2.2.2.1 (by show List.map _ _ = _; rw [List.map_append, List.map_reverse]) (lv_room (by rw [x_cat]; exact hcat)) hd hf) (fun r w' H1 locs1 hK I' => ?_)
  have := k r w' hK p l e s m args below meth c D cI base b H1 locs1 ls C I'
  rw [List.map_append] at this
  rw [show (r.map (x_tr base b)).toList = r.toList.map (x_tr base b) by cases r <;> rfl]
  exact this
theorem g_callV (n : Nat) {y2 : MethodName} {cc2 : ByteArray} {nL2 : Nat} {rt2 : Option FieldType} {d mc2 ms2 idx : Nat} {av rest : List Value} {K2 : Option Value → x_W → Prop} {i ci : Nat} {q2 : vw_C} {fs : List Value} (hd : decode cc pc = .ok (.invokevirtual idx, 3)) (hn : pc + 3 = n) (hM : x_M y2 cc2 nL2 rt2 d mc2 ms2 (.ref i :: av) w K2) (hw : w[i]? = some (.inr (ci, fs))) (hc : x_cl[ci]? = some q2) (hq : q2.1 = y2.cls) (hinst : Cond.instanceMethod y2 ∈ x_GT) (hsel : Cond.selects y2.cls y2 y2 ∈ x_GT) (hcode : Cond.code y2 cc2 nL2 rt2 ∈ x_GT) (hini : Cond.initialized y2.cls ∈ x_GT) (hlk : Cond.methodLink y.cls idx y2 ∈ x_GT) (hd2 : y2.cls ≠ "java/lang/invoke/MethodHandle" ∧ y2.cls ≠ "java/lang/invoke/VarHandle" ∧ (parseMethodDescriptor y2.desc).map (fun d => d.parameters.length) = some av.length) (hR : d + 1 ≤ R.frames ∧ 8 + (nL2 + 11) + 60 * d ≤ R.locals) (hf : nc + mc2 ≤ R.cells ∧ ns + ms2 ≤ R.slots) (hcat : (rest.map fun v => v.category).sum ≤ 8) (k : ∀ (r : Option Value) (w' : x_W), K2 r w' → x_G SC y cc nL rt R QF n L (r.toList ++ rest) w' (nc + mc2) (ns + ms2)) : x_G SC y cc nL rt R QF pc L (av.reverse ++ .ref i :: rest) w nc ns := by
  intro p l e s m args below meth c D cI base b H locs ls C I
  subst hn
  refine x_size C I fun hz => ?_
  refine x_back I hz (va_runV (C := y2.cls) (b := base + i) (As := av.map (x_tr base b)) (rest := rest.map (x_tr base b)) ⟨C.1, C.2.1, C.2.2.1, C.2.2.2.1, C.2.2.2.2.1⟩ (hM l D cI base b) ⟨(callB_of av.length C.2.2.2.2.1 (x_gd hcode) rfl rfl rfl (C.2.2.2.2.1 _ hini) (C.2.2.2.2.1 _ hlk) hd2 hR), C.2.2.2.2.1 _ hinst, C.2.2.2.2.1 _ hsel⟩ ⟨x_blind, by rw [← hq]; exact va_recv C.2.2.2.2.2.1 I.2.1 hc (x_cw_at hw), fun U hU hW => ⟨rfl, by rw [hU]; exact hz, by rw [hU]; exact I.2.1, va_K.moved hW.alike C.2.2.2.2.2.1, x_warm hW C.2.2.2.2.2.2.1⟩⟩ rfl (by rw [List.length_map]) I.2.2.2.1 (by show List.map _ _ = _; rw [List.map_append, List.map_reverse]; rfl) (lv_room (by rw [x_cat]; exact hcat)) hd hf) (fun r w' H1 locs1 hK I' => ?_)
  have := k r w' hK p l e s m args below meth c D cI base b H1 locs1 ls C I'
  rw [List.map_append] at this
  rw [show (r.map (x_tr base b)).toList = r.toList.map (x_tr base b) by cases r <;> rfl]
  exact this
theorem g_callI (n : Nat) {y2 : MethodName} {cc2 : ByteArray} {nL2 : Nat} {d mc2 ms2 idx : Nat} {av rest : List Value} {K2 : Option Value → x_W → Prop} {i : Nat} (hd : decode cc pc = .ok (.invokespecial idx, 3)) (hn : pc + 3 = n) (hM : x_M y2 cc2 nL2 none d mc2 ms2 (.ref i :: av) w K2) (hinit : y2.name = "<init>") (hinst : Cond.instanceMethod y2 ∈ x_GT) (hcode : Cond.code y2 cc2 nL2 none ∈ x_GT) (hini : Cond.initialized y2.cls ∈ x_GT) (hlk : Cond.methodLink y.cls idx y2 ∈ x_GT) (hd2 : y2.cls ≠ "java/lang/invoke/MethodHandle" ∧ y2.cls ≠ "java/lang/invoke/VarHandle" ∧ (parseMethodDescriptor y2.desc).map (fun d => d.parameters.length) = some av.length) (hR : d + 1 ≤ R.frames ∧ 8 + (nL2 + 11) + 60 * d ≤ R.locals) (hf : nc + mc2 ≤ R.cells ∧ ns + ms2 ≤ R.slots) (hcat : (rest.map fun v => v.category).sum ≤ 8) (k : ∀ (r : Option Value) (w' : x_W), K2 r w' → x_G SC y cc nL rt R QF n L (r.toList ++ rest) w' (nc + mc2) (ns + ms2)) : x_G SC y cc nL rt R QF pc L (av.reverse ++ .ref i :: rest) w nc ns := by
  intro p l e s m args below meth c D cI base b H locs ls C I
  subst hn
  refine x_size C I fun hz => ?_
  refine x_back I hz (va_runI (b := base + i) (As := av.map (x_tr base b)) (rest := rest.map (x_tr base b)) ⟨C.1, C.2.1, C.2.2.1, C.2.2.2.1, C.2.2.2.2.1⟩ (hM l D cI base b) ⟨(callB_of av.length C.2.2.2.2.1 (x_gd hcode) rfl rfl rfl (C.2.2.2.2.1 _ hini) (C.2.2.2.2.1 _ hlk) hd2 hR), hinit, C.2.2.2.2.1 _ hinst⟩ ⟨x_blind, fun U hU hW => ⟨rfl, by rw [hU]; exact hz, by rw [hU]; exact I.2.1, va_K.moved hW.alike C.2.2.2.2.2.1, x_warm hW C.2.2.2.2.2.2.1⟩⟩ rfl (by rw [List.length_map]) I.2.2.2.1 (by show List.map _ _ = _; rw [List.map_append, List.map_reverse]; rfl) (lv_room (by rw [x_cat]; exact hcat)) hd hf) (fun r w' H1 locs1 hK I' => ?_)
  have := k r w' hK p l e s m args below meth c D cI base b H1 locs1 ls C I'
  rw [List.map_append] at this
  rw [show (r.map (x_tr base b)).toList = r.toList.map (x_tr base b) by cases r <;> rfl]
  exact this
theorem g_callSN (n : Nat) {y2 : MethodName} {cc2 : ByteArray} {nL2 : Nat} {rt2 : Option FieldType} {d mc2 ms2 idx : Nat} {av rest : List Value} {K2 : Option Value → x_W → Prop} {host : String} (hd : decode cc pc = .ok (.invokestatic idx, 3)) (hn : pc + 3 = n) (hM : x_M y2 cc2 nL2 rt2 d mc2 ms2 av w K2) (hst : Cond.static y2 ∈ x_GT) (hcode : Cond.code y2 cc2 nL2 rt2 ∈ x_GT) (hini : Cond.initialized y2.cls ∈ x_GT) (hlk : Cond.methodLinkNest y.cls idx y2 host ∈ x_NW) (hd2 : y2.cls ≠ "java/lang/invoke/MethodHandle" ∧ y2.cls ≠ "java/lang/invoke/VarHandle" ∧ (parseMethodDescriptor y2.desc).map (fun d => d.parameters.length) = some av.length) (hR : d + 1 ≤ R.frames ∧ 8 + (nL2 + 11) + 60 * d ≤ R.locals) (hf : nc + mc2 ≤ R.cells ∧ ns + ms2 ≤ R.slots) (hcat : (rest.map fun v => v.category).sum ≤ 8) (k : ∀ (r : Option Value) (w' : x_W), K2 r w' → x_G SC y cc nL rt R QF n L (r.toList ++ rest) w' (nc + mc2) (ns + ms2)) : x_G SC y cc nL rt R QF pc L (av.reverse ++ rest) w nc ns := by
  intro p l e s m args below meth c D cI base b H locs ls C I
  subst hn
  refine x_size C I fun hz => ?_
  refine x_back I hz (va_runSN (As := av.map (x_tr base b)) (rest := rest.map (x_tr base b)) ⟨C.1, C.2.1, C.2.2.1, C.2.2.2.1, C.2.2.2.2.1⟩ (hM l D cI base b) ⟨(va_cnB av.length C.2.2.2.2.1 (x_gd hcode) rfl rfl rfl (C.2.2.2.2.2.2.1 _ hlk) (C.2.2.2.2.1 _ hini) hd2 hR), C.2.2.2.2.1 _ hst, trivial⟩ ⟨x_blind, fun U hU hW => ⟨rfl, by rw [hU]; exact hz, by rw [hU]; exact I.2.1, va_K.moved hW.alike C.2.2.2.2.2.1, x_warm hW C.2.2.2.2.2.2.1⟩⟩ rfl (by rw [List.length_map]) I.2.2.2.1 (by show List.map _ _ = _; rw [List.map_append, List.map_reverse]) (lv_room (by rw [x_cat]; exact hcat)) hd hf) (fun r w' H1 locs1 hK I' => ?_)
  have := k r w' hK p l e s m args below meth c D cI base b H1 locs1 ls C I'
  rw [List.map_append] at this
  rw [show (r.map (x_tr base b)).toList = r.toList.map (x_tr base b) by cases r <;> rfl]
  exact this
theorem g_callVN (n : Nat) {y2 : MethodName} {cc2 : ByteArray} {nL2 : Nat} {rt2 : Option FieldType} {d mc2 ms2 idx : Nat} {av rest : List Value} {K2 : Option Value → x_W → Prop} {host : String} {i ci : Nat} {q2 : vw_C} {fs : List Value} (hd : decode cc pc = .ok (.invokevirtual idx, 3)) (hn : pc + 3 = n) (hM : x_M y2 cc2 nL2 rt2 d mc2 ms2 (.ref i :: av) w K2) (hw : w[i]? = some (.inr (ci, fs))) (hc : x_cl[ci]? = some q2) (hq : q2.1 = y2.cls) (hinst : Cond.instanceMethod y2 ∈ x_GT) (hsel : Cond.selects y2.cls y2 y2 ∈ x_GT) (hcode : Cond.code y2 cc2 nL2 rt2 ∈ x_GT) (hini : Cond.initialized y2.cls ∈ x_GT) (hlk : Cond.methodLinkNest y.cls idx y2 host ∈ x_NW) (hd2 : y2.cls ≠ "java/lang/invoke/MethodHandle" ∧ y2.cls ≠ "java/lang/invoke/VarHandle" ∧ (parseMethodDescriptor y2.desc).map (fun d => d.parameters.length) = some av.length) (hR : d + 1 ≤ R.frames ∧ 8 + (nL2 + 11) + 60 * d ≤ R.locals) (hf : nc + mc2 ≤ R.cells ∧ ns + ms2 ≤ R.slots) (hcat : (rest.map fun v => v.category).sum ≤ 8) (k : ∀ (r : Option Value) (w' : x_W), K2 r w' → x_G SC y cc nL rt R QF n L (r.toList ++ rest) w' (nc + mc2) (ns + ms2)) : x_G SC y cc nL rt R QF pc L (av.reverse ++ .ref i :: rest) w nc ns := by
  intro p l e s m args below meth c D cI base b H locs ls C I
  subst hn
  refine x_size C I fun hz => ?_
  refine x_back I hz (va_runVN (C := y2.cls) (b := base + i) (As := av.map (x_tr base b)) (rest := rest.map (x_tr base b)) ⟨C.1, C.2.1, C.2.2.1, C.2.2.2.1, C.2.2.2.2.1⟩ (hM l D cI base b) ⟨(va_cnB av.length C.2.2.2.2.1 (x_gd hcode) rfl rfl rfl (C.2.2.2.2.2.2.1 _ hlk) (C.2.2.2.2.1 _ hini) hd2 hR), C.2.2.2.2.1 _ hinst, C.2.2.2.2.1 _ hsel⟩ ⟨x_blind, by rw [← hq]; exact va_recv C.2.2.2.2.2.1 I.2.1 hc (x_cw_at hw), fun U hU hW => ⟨rfl, by rw [hU]; exact hz, by rw [hU]; exact I.2.1, va_K.moved hW.alike C.2.2.2.2.2.1, x_warm hW C.2.2.2.2.2.2.1⟩⟩ rfl (by rw [List.length_map]) I.2.2.2.1 (by show List.map _ _ = _; rw [List.map_append, List.map_reverse]; rfl) (lv_room (by rw [x_cat]; exact hcat)) hd hf) (fun r w' H1 locs1 hK I' => ?_)
  have := k r w' hK p l e s m args below meth c D cI base b H1 locs1 ls C I'
  rw [List.map_append] at this
  rw [show (r.map (x_tr base b)).toList = r.toList.map (x_tr base b) by cases r <;> rfl]
  exact this
theorem g_callIN (n : Nat) {y2 : MethodName} {cc2 : ByteArray} {nL2 : Nat} {d mc2 ms2 idx : Nat} {av rest : List Value} {K2 : Option Value → x_W → Prop} {host : String} {i : Nat} (hd : decode cc pc = .ok (.invokespecial idx, 3)) (hn : pc + 3 = n) (hM : x_M y2 cc2 nL2 none d mc2 ms2 (.ref i :: av) w K2) (hinit : y2.name = "<init>") (hinst : Cond.instanceMethod y2 ∈ x_GT) (hcode : Cond.code y2 cc2 nL2 none ∈ x_GT) (hini : Cond.initialized y2.cls ∈ x_GT) (hlk : Cond.methodLinkNest y.cls idx y2 host ∈ x_NW) (hd2 : y2.cls ≠ "java/lang/invoke/MethodHandle" ∧ y2.cls ≠ "java/lang/invoke/VarHandle" ∧ (parseMethodDescriptor y2.desc).map (fun d => d.parameters.length) = some av.length) (hR : d + 1 ≤ R.frames ∧ 8 + (nL2 + 11) + 60 * d ≤ R.locals) (hf : nc + mc2 ≤ R.cells ∧ ns + ms2 ≤ R.slots) (hcat : (rest.map fun v => v.category).sum ≤ 8) (k : ∀ (r : Option Value) (w' : x_W), K2 r w' → x_G SC y cc nL rt R QF n L (r.toList ++ rest) w' (nc + mc2) (ns + ms2)) : x_G SC y cc nL rt R QF pc L (av.reverse ++ .ref i :: rest) w nc ns := by
  intro p l e s m args below meth c D cI base b H locs ls C I
  subst hn
  refine x_size C I fun hz => ?_
  refine x_back I hz (va_runIN (b := base + i) (As := av.map (x_tr base b)) (rest := rest.map (x_tr base b)) ⟨C.1, C.2.1, C.2.2.1, C.2.2.2.1, C.2.2.2.2.1⟩ (hM l D cI base b) ⟨(va_cnB av.length C.2.2.2.2.1 (x_gd hcode) rfl rfl rfl (C.2.2.2.2.2.2.1 _ hlk) (C.2.2.2.2.1 _ hini) hd2 hR), hinit, C.2.2.2.2.1 _ hinst⟩ ⟨x_blind, fun U hU hW => ⟨rfl, by rw [hU]; exact hz, by rw [hU]; exact I.2.1, va_K.moved hW.alike C.2.2.2.2.2.1, x_warm hW C.2.2.2.2.2.2.1⟩⟩ rfl (by rw [List.length_map]) I.2.2.2.1 (by show List.map _ _ = _; rw [List.map_append, List.map_reverse]; rfl) (lv_room (by rw [x_cat]; exact hcat)) hd hf) (fun r w' H1 locs1 hK I' => ?_)
  have := k r w' hK p l e s m args below meth c D cI base b H1 locs1 ls C I'
  rw [List.map_append] at this
  rw [show (r.map (x_tr base b)).toList = r.toList.map (x_tr base b) by cases r <;> rfl]
  exact this
theorem g_objInit (n : Nat) {i idx : Nat} (hd : decode cc pc = .ok (.invokespecial idx, 3)) (hn : pc + 3 = n) (hlk : Cond.methodLink y.cls idx Lib.objectInit ∈ x_GT) (hinst : Cond.instanceMethod Lib.objectInit ∈ x_GT) (hcode : Cond.code Lib.objectInit ⟨#[0xb1]⟩ 1 none ∈ x_GT) (h1 : 1 ≤ R.frames) (h2 : 60 ≤ R.locals) (hcat : (st.map fun v => v.category).sum ≤ 8) (k : x_G SC y cc nL rt R QF n L st w nc ns) : x_G SC y cc nL rt R QF pc L (.ref i :: st) w nc ns := by
  intro p l e s m args below meth c D cI base b H locs ls C I
  subst hn
  refine W.objInit C.1 C.2.1 C.2.2.2.1 (C.2.2.2.2.1 _ hlk) (C.2.2.2.2.1 _ hinst) (C.2.2.2.2.1 _ hcode) rfl (by rw [C.2.2.1]; exact I.2.2.2.1) rfl hd h1 (by show 2 * 0 + ((st.map (x_tr base b)).map fun v => v.category).sum + 12 ≤ R.locals; rw [x_cat]; omega) ?_
  exact k p l e s m args below meth c D cI base b H locs ls C I
theorem g_mmax (n : Nat) {idx : Nat} {x z : Int32} (hd : decode cc pc = .ok (.invokestatic idx, 3)) (hn : pc + 3 = n) (hlk : Cond.methodLink y.cls idx Lib.Math.max.name ∈ x_GT) (hst : Cond.static Lib.Math.max.name ∈ x_GT) (hini : Cond.initialized "java/lang/Math" ∈ x_GT) (hcode : Cond.code Lib.Math.max.name Lib.Math.max.code 2 (some .int) ∈ x_GT) (h1 : 1 ≤ R.frames) (h2 : 60 ≤ R.locals) (hc : nc ≤ R.cells) (hs : ns ≤ R.slots) (hcat : (st.map fun v => v.category).sum ≤ 8) (k : x_G SC y cc nL rt R QF n L (.int (if x < z then z else x) :: st) w nc ns) : x_G SC y cc nL rt R QF pc L (.int z :: .int x :: st) w nc ns := by
  intro p l e s m args below meth c D cI base b H locs ls C I
  subst hn
  exact va_mmax C.1 C.2.1 (by rw [C.2.2.1]; exact I.2.2.2.1.symm) C.2.2.2.1 (C.2.2.2.2.1 _ hlk) (C.2.2.2.2.1 _ hst) (C.2.2.2.2.1 _ hini) (C.2.2.2.2.1 _ hcode) h1 (by rw [x_cat]; omega) hc hs hd (k p l e s m args below meth c D cI base b H locs ls C I)
theorem g_mmin (n : Nat) {idx : Nat} {x z : Int32} (hd : decode cc pc = .ok (.invokestatic idx, 3)) (hn : pc + 3 = n) (hlk : Cond.methodLink y.cls idx Lib.Math.min.name ∈ x_GT) (hst : Cond.static Lib.Math.min.name ∈ x_GT) (hini : Cond.initialized "java/lang/Math" ∈ x_GT) (hcode : Cond.code Lib.Math.min.name Lib.Math.min.code 2 (some .int) ∈ x_GT) (h1 : 1 ≤ R.frames) (h2 : 60 ≤ R.locals) (hc : nc ≤ R.cells) (hs : ns ≤ R.slots) (hcat : (st.map fun v => v.category).sum ≤ 8) (k : x_G SC y cc nL rt R QF n L (.int (if z < x then z else x) :: st) w nc ns) : x_G SC y cc nL rt R QF pc L (.int z :: .int x :: st) w nc ns := by
  intro p l e s m args below meth c D cI base b H locs ls C I
  subst hn
  exact va_mmin C.1 C.2.1 (by rw [C.2.2.1]; exact I.2.2.2.1.symm) C.2.2.2.1 (C.2.2.2.2.1 _ hlk) (C.2.2.2.2.1 _ hst) (C.2.2.2.2.1 _ hini) (C.2.2.2.2.1 _ hcode) h1 (by rw [x_cat]; omega) hc hs hd (k p l e s m args below meth c D cI base b H locs ls C I)
theorem x_cp_some {w w' : x_W} {i j : Nat} {sp dp n : Int32} (h : x_cp w i sp j dp n = some w') : ∃ n0 f n1 f1, w[i]? = some (.inl (n0, f)) ∧ w[j]? = some (.inl (n1, f1)) ∧ ¬ sp < 0 ∧ ¬ dp < 0 ∧ ¬ n < 0 ∧ sp.toNatClampNeg + n.toNatClampNeg ≤ n0 ∧ dp.toNatClampNeg + n.toNatClampNeg ≤ n1 ∧ w' = w.set j (.inl (n1, va_cpy f f1 sp.toNatClampNeg dp.toNatClampNeg n.toNatClampNeg)) := by
  unfold x_cp at h
  split at h
  · next a c ha hc =>
    split at h
    · cases h
    · next hn =>
      simp only [not_or, Nat.not_lt] at hn
      exact ⟨a.1, a.2, c.1, c.2, ha, hc, hn.1, hn.2.1, hn.2.2.1, hn.2.2.2.1, hn.2.2.2.2, (Option.some.inj h).symm⟩
  · cases h
def x_kcp (own : String) (idx : Nat) : Prop := Cond.methodLink own idx arraycopyName ∈ x_GT ∧ Cond.native arraycopyName ∈ x_GT ∧ Cond.static arraycopyName ∈ x_GT ∧ Cond.initialized "java/lang/System" ∈ x_GT
theorem g_copy (n : Nat) {idx i j : Nat} {sp dp z : Int32} {w' : x_W} (hd : decode cc pc = .ok (.invokestatic idx, 3)) (hn : pc + 3 = n) (S : x_kcp y.cls idx) (h1 : 1 ≤ R.frames) (h2 : 60 ≤ R.locals) (hcat : (st.map fun v => v.category).sum ≤ 8) (hf : x_cp w i sp j dp z = some w') (k : x_G SC y cc nL rt R QF n L st w' nc ns) : x_G SC y cc nL rt R QF pc L (.int z :: .int dp :: .ref j :: .int sp :: .ref i :: st) w nc ns := by
  intro p l e s m args below meth c D cI base b H locs ls C I
  subst hn
  obtain ⟨n0, f, n1, f1, a1, a2, a3, a4, a5, a6, a7, rfl⟩ := x_cp_some hf
  refine va_copyi C.1 C.2.1 (by rw [C.2.2.1]; exact I.2.2.2.1.symm) C.2.2.2.1 (C.2.2.2.2.1 _ S.1) (C.2.2.2.2.1 _ S.2.1) (C.2.2.2.2.1 _ S.2.2.1) (C.2.2.2.2.1 _ S.2.2.2) C.2.2.2.2.2.1 I.2.1 (x_D w) I.2.2.1 i j 0 0 (ty := .int) (x_cw_at a1) (x_cw_at a2) rfl rfl rfl a3 a4 a5 a6 a7 (fun _ _ => rfl) h1 ?_ hd (fun H1 locs1 hP _ hS => ?_)
  · rw [x_cat]
    have : nativeFrameWords "java/lang/System" "arraycopy" 5 + 11 ≤ 50 := by decide +kernel
    omega
  · have e9 : ((base + j, Sum.inl (cI, n1, .inl (va_cpy f f1 sp.toNatClampNeg dp.toNatClampNeg z.toNatClampNeg))) : Nat × va_E) = (base + j, x_cc base b cI (.inl (n1, va_cpy f f1 sp.toNatClampNeg dp.toNatClampNeg z.toNatClampNeg))) := rfl
    rw [e9, x_cw_st] at hP
    exact k p l e s m args below meth c D cI base b H1 locs1 ls C ⟨by rw [List.length_set]; exact I.1, hP, hS, I.2.2.2⟩
theorem g_ldc (n : Nat) {idx : Nat} (v : Int32) (hd : decode cc pc = .ok (.ldc idx, 2)) (hn : pc + 2 = n) (hc : Cond.constant y.cls idx v ∈ x_GT) (k : x_G SC y cc nL rt R QF n L (.int v :: st) w nc ns) : x_G SC y cc nL rt R QF pc L st w nc ns := by
  intro p l e s m args below meth c D cI base b H locs ls C I
  subst hn
  exact lv_ldc C.1 C.2.1 C.2.2.2.1 (C.2.2.2.2.1 _ hc) hd (k p l e s m args below meth c D cI base b H locs ls C I)
theorem g_ldcw (n : Nat) {idx : Nat} (v : Int32) (hd : decode cc pc = .ok (.ldc_w idx, 3)) (hn : pc + 3 = n) (hc : Cond.constant y.cls idx v ∈ x_GT) (k : x_G SC y cc nL rt R QF n L (.int v :: st) w nc ns) : x_G SC y cc nL rt R QF pc L st w nc ns := by
  intro p l e s m args below meth c D cI base b H locs ls C I
  subst hn
  exact lv_ldcw C.1 C.2.1 C.2.2.2.1 (C.2.2.2.2.1 _ hc) hd (k p l e s m args below meth c D cI base b H locs ls C I)
def x_kS (own : String) (idx : Nat) (y2 : MethodName) (cc2 : ByteArray) (nL2 : Nat) (rt2 : Option FieldType) (n : Nat) : Prop := Cond.static y2 ∈ x_GT ∧ Cond.code y2 cc2 nL2 rt2 ∈ x_GT ∧ Cond.initialized y2.cls ∈ x_GT ∧ Cond.methodLink own idx y2 ∈ x_GT ∧ (y2.cls ≠ "java/lang/invoke/MethodHandle" ∧ y2.cls ≠ "java/lang/invoke/VarHandle" ∧ (parseMethodDescriptor y2.desc).map (fun d => d.parameters.length) = some n)
def x_kV (own : String) (idx : Nat) (y2 : MethodName) (cc2 : ByteArray) (nL2 : Nat) (rt2 : Option FieldType) (n : Nat) (ci : Nat) : Prop := Cond.instanceMethod y2 ∈ x_GT ∧ Cond.selects y2.cls y2 y2 ∈ x_GT ∧ Cond.code y2 cc2 nL2 rt2 ∈ x_GT ∧ Cond.initialized y2.cls ∈ x_GT ∧ Cond.methodLink own idx y2 ∈ x_GT ∧ (y2.cls ≠ "java/lang/invoke/MethodHandle" ∧ y2.cls ≠ "java/lang/invoke/VarHandle" ∧ (parseMethodDescriptor y2.desc).map (fun d => d.parameters.length) = some n) ∧ (x_cl[ci]?).map (fun q => q.1) = some y2.cls
def x_kI (own : String) (idx : Nat) (y2 : MethodName) (cc2 : ByteArray) (nL2 : Nat) (n : Nat) : Prop := y2.name = "<init>" ∧ Cond.instanceMethod y2 ∈ x_GT ∧ Cond.code y2 cc2 nL2 none ∈ x_GT ∧ Cond.initialized y2.cls ∈ x_GT ∧ Cond.methodLink own idx y2 ∈ x_GT ∧ (y2.cls ≠ "java/lang/invoke/MethodHandle" ∧ y2.cls ≠ "java/lang/invoke/VarHandle" ∧ (parseMethodDescriptor y2.desc).map (fun d => d.parameters.length) = some n)
theorem g_cS (n : Nat) (rv : Option Value) (w2 : x_W) (av rest : List Value) {y2 : MethodName} {cc2 : ByteArray} {nL2 : Nat} {rt2 : Option FieldType} {d idx : Nat} (hd : decode cc pc = .ok (.invokestatic idx, 3)) (hn : pc + 3 = n) (hM : ∀ K2 : Option Value → x_W → Prop, K2 rv w2 → x_M y2 cc2 nL2 rt2 d 0 0 av w K2) (S : x_kS y.cls idx y2 cc2 nL2 rt2 av.length) (hR : d + 1 ≤ R.frames ∧ 8 + (nL2 + 11) + 60 * d ≤ R.locals) (hf : nc + 0 ≤ R.cells ∧ ns + 0 ≤ R.slots) (hcat : (rest.map fun v => v.category).sum ≤ 8) (hst : av.reverse ++ rest = st) (k : x_G SC y cc nL rt R QF n L (rv.toList ++ rest) w2 nc ns) : x_G SC y cc nL rt R QF pc L st w nc ns := by
  subst hst
  exact g_callS n hd hn (hM (fun r q => rv = r ∧ w2 = q) ⟨rfl, rfl⟩) S.1 S.2.1 S.2.2.1 S.2.2.2.1 S.2.2.2.2 hR hf hcat (fun r w' hq => by obtain ⟨rfl, rfl⟩ := hq; exact k)
theorem g_cV (n : Nat) (rv : Option Value) (w2 : x_W) (av rest : List Value) {y2 : MethodName} {cc2 : ByteArray} {nL2 : Nat} {rt2 : Option FieldType} {d idx : Nat} {i ci : Nat} (hd : decode cc pc = .ok (.invokevirtual idx, 3)) (hn : pc + 3 = n) (hM : ∀ K2 : Option Value → x_W → Prop, K2 rv w2 → x_M y2 cc2 nL2 rt2 d 0 0 (.ref i :: av) w K2) (hw : ∃ fs, w[i]? = some (.inr (ci, fs))) (S : x_kV y.cls idx y2 cc2 nL2 rt2 av.length ci) (hR : d + 1 ≤ R.frames ∧ 8 + (nL2 + 11) + 60 * d ≤ R.locals) (hf : nc + 0 ≤ R.cells ∧ ns + 0 ≤ R.slots) (hcat : (rest.map fun v => v.category).sum ≤ 8) (hst : av.reverse ++ .ref i :: rest = st) (k : x_G SC y cc nL rt R QF n L (rv.toList ++ rest) w2 nc ns) : x_G SC y cc nL rt R QF pc L st w nc ns := by
  subst hst
  obtain ⟨fs, hw⟩ := hw
  obtain ⟨q2, hc, hq⟩ := Option.map_eq_some_iff.mp S.2.2.2.2.2.2
  exact g_callV n hd hn (hM (fun r q => rv = r ∧ w2 = q) ⟨rfl, rfl⟩) hw hc hq S.1 S.2.1 S.2.2.1 S.2.2.2.1 S.2.2.2.2.1 S.2.2.2.2.2.1 hR hf hcat (fun r w' hq => by obtain ⟨rfl, rfl⟩ := hq; exact k)
theorem g_cI (n : Nat) (rv : Option Value) (w2 : x_W) (av rest : List Value) {y2 : MethodName} {cc2 : ByteArray} {nL2 : Nat} {d idx : Nat} {mc2 ms2 : Nat} {i : Nat} (hd : decode cc pc = .ok (.invokespecial idx, 3)) (hn : pc + 3 = n) (hM : ∀ K2 : Option Value → x_W → Prop, K2 rv w2 → x_M y2 cc2 nL2 none d mc2 ms2 (.ref i :: av) w K2) (S : x_kI y.cls idx y2 cc2 nL2 av.length) (hR : d + 1 ≤ R.frames ∧ 8 + (nL2 + 11) + 60 * d ≤ R.locals) (hf : nc + mc2 ≤ R.cells ∧ ns + ms2 ≤ R.slots) (hcat : (rest.map fun v => v.category).sum ≤ 8) (hst : av.reverse ++ .ref i :: rest = st) (k : x_G SC y cc nL rt R QF n L (rv.toList ++ rest) w2 (nc + mc2) (ns + ms2)) : x_G SC y cc nL rt R QF pc L st w nc ns := by
  subst hst
  exact g_callI n hd hn (hM (fun r q => rv = r ∧ w2 = q) ⟨rfl, rfl⟩) S.1 S.2.1 S.2.2.1 S.2.2.2.1 S.2.2.2.2.1 S.2.2.2.2.2 hR hf hcat (fun r w' hq => by obtain ⟨rfl, rfl⟩ := hq; exact k)
def x_kSN (own : String) (idx : Nat) (y2 : MethodName) (cc2 : ByteArray) (nL2 : Nat) (rt2 : Option FieldType) (n : Nat) (host : String) : Prop := Cond.static y2 ∈ x_GT ∧ Cond.code y2 cc2 nL2 rt2 ∈ x_GT ∧ Cond.initialized y2.cls ∈ x_GT ∧ Cond.methodLinkNest own idx y2 host ∈ x_NW ∧ (y2.cls ≠ "java/lang/invoke/MethodHandle" ∧ y2.cls ≠ "java/lang/invoke/VarHandle" ∧ (parseMethodDescriptor y2.desc).map (fun d => d.parameters.length) = some n)
def x_kVN (own : String) (idx : Nat) (y2 : MethodName) (cc2 : ByteArray) (nL2 : Nat) (rt2 : Option FieldType) (n : Nat) (ci : Nat) (host : String) : Prop := Cond.instanceMethod y2 ∈ x_GT ∧ Cond.selects y2.cls y2 y2 ∈ x_GT ∧ Cond.code y2 cc2 nL2 rt2 ∈ x_GT ∧ Cond.initialized y2.cls ∈ x_GT ∧ Cond.methodLinkNest own idx y2 host ∈ x_NW ∧ (y2.cls ≠ "java/lang/invoke/MethodHandle" ∧ y2.cls ≠ "java/lang/invoke/VarHandle" ∧ (parseMethodDescriptor y2.desc).map (fun d => d.parameters.length) = some n) ∧ (x_cl[ci]?).map (fun q => q.1) = some y2.cls
def x_kIN (own : String) (idx : Nat) (y2 : MethodName) (cc2 : ByteArray) (nL2 : Nat) (n : Nat) (host : String) : Prop := y2.name = "<init>" ∧ Cond.instanceMethod y2 ∈ x_GT ∧ Cond.code y2 cc2 nL2 none ∈ x_GT ∧ Cond.initialized y2.cls ∈ x_GT ∧ Cond.methodLinkNest own idx y2 host ∈ x_NW ∧ (y2.cls ≠ "java/lang/invoke/MethodHandle" ∧ y2.cls ≠ "java/lang/invoke/VarHandle" ∧ (parseMethodDescriptor y2.desc).map (fun d => d.parameters.length) = some n)
theorem g_cSN (n : Nat) (rv : Option Value) (w2 : x_W) (av rest : List Value) {y2 : MethodName} {cc2 : ByteArray} {nL2 : Nat} {rt2 : Option FieldType} {d idx : Nat} {host : String} (hd : decode cc pc = .ok (.invokestatic idx, 3)) (hn : pc + 3 = n) (hM : ∀ K2 : Option Value → x_W → Prop, K2 rv w2 → x_M y2 cc2 nL2 rt2 d 0 0 av w K2) (S : x_kSN y.cls idx y2 cc2 nL2 rt2 av.length host) (hR : d + 1 ≤ R.frames ∧ 8 + (nL2 + 11) + 60 * d ≤ R.locals) (hf : nc + 0 ≤ R.cells ∧ ns + 0 ≤ R.slots) (hcat : (rest.map fun v => v.category).sum ≤ 8) (hst : av.reverse ++ rest = st) (k : x_G SC y cc nL rt R QF n L (rv.toList ++ rest) w2 nc ns) : x_G SC y cc nL rt R QF pc L st w nc ns := by
  subst hst
  exact g_callSN n hd hn (hM (fun r q => rv = r ∧ w2 = q) ⟨rfl, rfl⟩) S.1 S.2.1 S.2.2.1 S.2.2.2.1 S.2.2.2.2 hR hf hcat (fun r w' hq => by obtain ⟨rfl, rfl⟩ := hq; exact k)
theorem g_cVN (n : Nat) (rv : Option Value) (w2 : x_W) (av rest : List Value) {y2 : MethodName} {cc2 : ByteArray} {nL2 : Nat} {rt2 : Option FieldType} {d idx : Nat} {host : String} {i ci : Nat} (hd : decode cc pc = .ok (.invokevirtual idx, 3)) (hn : pc + 3 = n) (hM : ∀ K2 : Option Value → x_W → Prop, K2 rv w2 → x_M y2 cc2 nL2 rt2 d 0 0 (.ref i :: av) w K2) (hw : ∃ fs, w[i]? = some (.inr (ci, fs))) (S : x_kVN y.cls idx y2 cc2 nL2 rt2 av.length ci host) (hR : d + 1 ≤ R.frames ∧ 8 + (nL2 + 11) + 60 * d ≤ R.locals) (hf : nc + 0 ≤ R.cells ∧ ns + 0 ≤ R.slots) (hcat : (rest.map fun v => v.category).sum ≤ 8) (hst : av.reverse ++ .ref i :: rest = st) (k : x_G SC y cc nL rt R QF n L (rv.toList ++ rest) w2 nc ns) : x_G SC y cc nL rt R QF pc L st w nc ns := by
  subst hst
  obtain ⟨fs, hw⟩ := hw
  obtain ⟨q2, hc, hq⟩ := Option.map_eq_some_iff.mp S.2.2.2.2.2.2
  exact g_callVN n hd hn (hM (fun r q => rv = r ∧ w2 = q) ⟨rfl, rfl⟩) hw hc hq S.1 S.2.1 S.2.2.1 S.2.2.2.1 S.2.2.2.2.1 S.2.2.2.2.2.1 hR hf hcat (fun r w' hq => by obtain ⟨rfl, rfl⟩ := hq; exact k)
theorem g_cIN (n : Nat) (rv : Option Value) (w2 : x_W) (av rest : List Value) {y2 : MethodName} {cc2 : ByteArray} {nL2 : Nat} {d idx : Nat} {mc2 ms2 : Nat} {host : String} {i : Nat} (hd : decode cc pc = .ok (.invokespecial idx, 3)) (hn : pc + 3 = n) (hM : ∀ K2 : Option Value → x_W → Prop, K2 rv w2 → x_M y2 cc2 nL2 none d mc2 ms2 (.ref i :: av) w K2) (S : x_kIN y.cls idx y2 cc2 nL2 av.length host) (hR : d + 1 ≤ R.frames ∧ 8 + (nL2 + 11) + 60 * d ≤ R.locals) (hf : nc + mc2 ≤ R.cells ∧ ns + ms2 ≤ R.slots) (hcat : (rest.map fun v => v.category).sum ≤ 8) (hst : av.reverse ++ .ref i :: rest = st) (k : x_G SC y cc nL rt R QF n L (rv.toList ++ rest) w2 (nc + mc2) (ns + ms2)) : x_G SC y cc nL rt R QF pc L st w nc ns := by
  subst hst
  exact g_callIN n hd hn (hM (fun r q => rv = r ∧ w2 = q) ⟨rfl, rfl⟩) S.1 S.2.1 S.2.2.1 S.2.2.2.1 S.2.2.2.2.1 S.2.2.2.2.2 hR hf hcat (fun r w' hq => by obtain ⟨rfl, rfl⟩ := hq; exact k)
theorem x_rm {d mc ms nL2 : Nat} (hd : 1 ≤ d) (hn : nL2 ≤ 41) : (d - 1) + 1 ≤ (x_room d mc ms).frames ∧ 8 + (nL2 + 11) + 60 * (d - 1) ≤ (x_room d mc ms).locals := by
  constructor
  · show (d - 1) + 1 ≤ d
    omega
  · show 8 + (nL2 + 11) + 60 * (d - 1) ≤ 60 * d
    omega
theorem x_r1 {d mc ms : Nat} (hd : 1 ≤ d) : 1 ≤ (x_room d mc ms).frames := hd
theorem x_r60 {d mc ms : Nat} (hd : 1 ≤ d) : 60 ≤ (x_room d mc ms).locals := by
  show 60 ≤ 60 * d
  omega
theorem x_inc {x : Int32} (v : Int32) {j : Int} (h : Int32.ofInt j = v) : x + Int32.ofInt j = x + v := by rw [h]
theorem x_fi_ob {w : x_W} {i ci k : Nat} {x : Int32} (h : x_fi w i ci k = some x) : ∃ fs, w[i]? = some (.inr (ci, fs)) := by
  obtain ⟨fs, h1, -⟩ := x_fv_some (x_fi_some h)
  exact ⟨fs, h1⟩
theorem x_fr_ob {w : x_W} {i ci k : Nat} {x : Nat} (h : x_fr w i ci k = some x) : ∃ fs, w[i]? = some (.inr (ci, fs)) := by
  obtain ⟨fs, h1, -⟩ := x_fv_some (x_fr_some h)
  exact ⟨fs, h1⟩
def x_ob (w : x_W) (i ci : Nat) : Option Unit := match w[i]? with
  | some (.inr o) => if o.1 = ci then some () else none
  | _ => none
theorem x_ob_some {w : x_W} {i ci : Nat} {u : Unit} (h : x_ob w i ci = some u) : ∃ fs, w[i]? = some (.inr (ci, fs)) := by
  unfold x_ob at h
  split at h
  · next o ho =>
    split at h
    · next hc => exact ⟨o.2, by rw [ho, ← hc]⟩
    · cases h
  · cases h
/-- how often a loop may turn: far above what any needs -/
def x_F : Nat := 100000000
end XG
end
