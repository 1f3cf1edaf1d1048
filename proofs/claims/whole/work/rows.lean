section
-- ===== PART A: goes FIRST, ahead of the names: the tables' words, and 'selects' of the private methods out of them =====
/-- a private method of a class that the tables say can be made, by its rows of tables_1 -/
def lw_okq (q : MethodName × Nat) : Prop := (q.1.cls ≠ "java/lang/invoke/MethodHandle" ∧ q.1.cls ≠ "java/lang/invoke/VarHandle") ∧ Cond.instantiable q.1.cls q.2 ∈ tables_1 ∧ Cond.privateMethod q.1 ∈ tables_1 ∧ Cond.instanceMethod q.1 ∈ tables_1
theorem lw_p0 : lw_okq (⟨"FeedMixes", "isStuff", "(I)Z"⟩, 12) := ⟨⟨by decide +kernel, by decide +kernel⟩, List.mem_of_getElem? (i := 11) (by decide +kernel), List.mem_of_getElem? (i := 247) (by decide +kernel), List.mem_of_getElem? (i := 248) (by decide +kernel)⟩
theorem lw_p1 : lw_okq (⟨"FeedMixes$Mixer", "findBest", "(ILFeedMixes$Mix;)Z"⟩, 3) := ⟨⟨by decide +kernel, by decide +kernel⟩, List.mem_of_getElem? (i := 76) (by decide +kernel), List.mem_of_getElem? (i := 281) (by decide +kernel), List.mem_of_getElem? (i := 282) (by decide +kernel)⟩
theorem lw_p2 : lw_okq (⟨"FeedMixes$Mixer", "begin", "(I)V"⟩, 3) := ⟨⟨by decide +kernel, by decide +kernel⟩, List.mem_of_getElem? (i := 76) (by decide +kernel), List.mem_of_getElem? (i := 285) (by decide +kernel), List.mem_of_getElem? (i := 286) (by decide +kernel)⟩
theorem lw_p3 : lw_okq (⟨"FeedMixes$Limits", "keepAll", "(I)V"⟩, 7) := ⟨⟨by decide +kernel, by decide +kernel⟩, List.mem_of_getElem? (i := 82) (by decide +kernel), List.mem_of_getElem? (i := 289) (by decide +kernel), List.mem_of_getElem? (i := 290) (by decide +kernel)⟩
theorem lw_p4 : lw_okq (⟨"FeedMixes$Limits", "widen", "(I)V"⟩, 7) := ⟨⟨by decide +kernel, by decide +kernel⟩, List.mem_of_getElem? (i := 82) (by decide +kernel), List.mem_of_getElem? (i := 293) (by decide +kernel), List.mem_of_getElem? (i := 294) (by decide +kernel)⟩
theorem lw_p5 : lw_okq (⟨"FeedMixes$Limits", "isThere", "(I)Z"⟩, 7) := ⟨⟨by decide +kernel, by decide +kernel⟩, List.mem_of_getElem? (i := 82) (by decide +kernel), List.mem_of_getElem? (i := 297) (by decide +kernel), List.mem_of_getElem? (i := 298) (by decide +kernel)⟩
theorem lw_p6 : lw_okq (⟨"FeedMixes$Limits", "keep", "(I)V"⟩, 7) := ⟨⟨by decide +kernel, by decide +kernel⟩, List.mem_of_getElem? (i := 82) (by decide +kernel), List.mem_of_getElem? (i := 304) (by decide +kernel), List.mem_of_getElem? (i := 305) (by decide +kernel)⟩
theorem lw_p7 : lw_okq (⟨"FeedMixes$Limits", "levelOf", "(I)I"⟩, 7) := ⟨⟨by decide +kernel, by decide +kernel⟩, List.mem_of_getElem? (i := 82) (by decide +kernel), List.mem_of_getElem? (i := 311) (by decide +kernel), List.mem_of_getElem? (i := 312) (by decide +kernel)⟩
theorem lw_p8 : lw_okq (⟨"FeedMixes$Corners", "setSlopes", "()V"⟩, 10) := ⟨⟨by decide +kernel, by decide +kernel⟩, List.mem_of_getElem? (i := 118) (by decide +kernel), List.mem_of_getElem? (i := 324) (by decide +kernel), List.mem_of_getElem? (i := 325) (by decide +kernel)⟩
theorem lw_p9 : lw_okq (⟨"FeedMixes$Corners", "pointsOf", "(II)I"⟩, 10) := ⟨⟨by decide +kernel, by decide +kernel⟩, List.mem_of_getElem? (i := 118) (by decide +kernel), List.mem_of_getElem? (i := 328) (by decide +kernel), List.mem_of_getElem? (i := 329) (by decide +kernel)⟩
theorem lw_p10 : lw_okq (⟨"FeedMixes$Mix", "forget", "()V"⟩, 3) := ⟨⟨by decide +kernel, by decide +kernel⟩, List.mem_of_getElem? (i := 125) (by decide +kernel), List.mem_of_getElem? (i := 332) (by decide +kernel), List.mem_of_getElem? (i := 333) (by decide +kernel)⟩
theorem lw_p11 : lw_okq (⟨"FeedMixes$Corners", "seek", "(LFeedMixes$Mix;)Z"⟩, 10) := ⟨⟨by decide +kernel, by decide +kernel⟩, List.mem_of_getElem? (i := 118) (by decide +kernel), List.mem_of_getElem? (i := 339) (by decide +kernel), List.mem_of_getElem? (i := 340) (by decide +kernel)⟩
theorem lw_p12 : lw_okq (⟨"FeedMixes$Limits", "leaveRoomToStuffs", "()Z"⟩, 7) := ⟨⟨by decide +kernel, by decide +kernel⟩, List.mem_of_getElem? (i := 82) (by decide +kernel), List.mem_of_getElem? (i := 343) (by decide +kernel), List.mem_of_getElem? (i := 344) (by decide +kernel)⟩
theorem lw_p13 : lw_okq (⟨"FeedMixes$Corners", "setPlanes", "()Z"⟩, 10) := ⟨⟨by decide +kernel, by decide +kernel⟩, List.mem_of_getElem? (i := 118) (by decide +kernel), List.mem_of_getElem? (i := 347) (by decide +kernel), List.mem_of_getElem? (i := 348) (by decide +kernel)⟩
theorem lw_p14 : lw_okq (⟨"FeedMixes$Corners", "addPlanesOfOneAmount", "()V"⟩, 10) := ⟨⟨by decide +kernel, by decide +kernel⟩, List.mem_of_getElem? (i := 118) (by decide +kernel), List.mem_of_getElem? (i := 351) (by decide +kernel), List.mem_of_getElem? (i := 352) (by decide +kernel)⟩
theorem lw_p15 : lw_okq (⟨"FeedMixes$Corners", "addPlane", "(II)V"⟩, 10) := ⟨⟨by decide +kernel, by decide +kernel⟩, List.mem_of_getElem? (i := 118) (by decide +kernel), List.mem_of_getElem? (i := 355) (by decide +kernel), List.mem_of_getElem? (i := 356) (by decide +kernel)⟩
def lw_privs_1 : List (MethodName × Nat) := [(⟨"FeedMixes", "isStuff", "(I)Z"⟩, 12), (⟨"FeedMixes$Mixer", "findBest", "(ILFeedMixes$Mix;)Z"⟩, 3), (⟨"FeedMixes$Mixer", "begin", "(I)V"⟩, 3), (⟨"FeedMixes$Limits", "keepAll", "(I)V"⟩, 7), (⟨"FeedMixes$Limits", "widen", "(I)V"⟩, 7), (⟨"FeedMixes$Limits", "isThere", "(I)Z"⟩, 7), (⟨"FeedMixes$Limits", "keep", "(I)V"⟩, 7), (⟨"FeedMixes$Limits", "levelOf", "(I)I"⟩, 7), (⟨"FeedMixes$Corners", "setSlopes", "()V"⟩, 10), (⟨"FeedMixes$Corners", "pointsOf", "(II)I"⟩, 10), (⟨"FeedMixes$Mix", "forget", "()V"⟩, 3), (⟨"FeedMixes$Corners", "seek", "(LFeedMixes$Mix;)Z"⟩, 10), (⟨"FeedMixes$Limits", "leaveRoomToStuffs", "()Z"⟩, 7), (⟨"FeedMixes$Corners", "setPlanes", "()Z"⟩, 10), (⟨"FeedMixes$Corners", "addPlanesOfOneAmount", "()V"⟩, 10), (⟨"FeedMixes$Corners", "addPlane", "(II)V"⟩, 10)]
theorem lw_r1 : ∀ q ∈ lw_privs_1, lw_okq q := List.forall_mem_cons.mpr ⟨lw_p0, List.forall_mem_cons.mpr ⟨lw_p1, List.forall_mem_cons.mpr ⟨lw_p2, List.forall_mem_cons.mpr ⟨lw_p3, List.forall_mem_cons.mpr ⟨lw_p4, List.forall_mem_cons.mpr ⟨lw_p5, List.forall_mem_cons.mpr ⟨lw_p6, List.forall_mem_cons.mpr ⟨lw_p7, List.forall_mem_cons.mpr ⟨lw_p8, List.forall_mem_cons.mpr ⟨lw_p9, List.forall_mem_cons.mpr ⟨lw_p10, List.forall_mem_cons.mpr ⟨lw_p11, List.forall_mem_cons.mpr ⟨lw_p12, List.forall_mem_cons.mpr ⟨lw_p13, List.forall_mem_cons.mpr ⟨lw_p14, List.forall_mem_cons.mpr ⟨lw_p15, fun _ h => absurd h List.not_mem_nil⟩⟩⟩⟩⟩⟩⟩⟩⟩⟩⟩⟩⟩⟩⟩⟩
theorem lw_p16 : lw_okq (⟨"FeedMixes$Corners", "addPlanesOfStuffs", "()V"⟩, 10) := ⟨⟨by decide +kernel, by decide +kernel⟩, List.mem_of_getElem? (i := 118) (by decide +kernel), List.mem_of_getElem? (i := 359) (by decide +kernel), List.mem_of_getElem? (i := 360) (by decide +kernel)⟩
theorem lw_p17 : lw_okq (⟨"FeedMixes$Corners", "addPlanesOfNutrients", "()Z"⟩, 10) := ⟨⟨by decide +kernel, by decide +kernel⟩, List.mem_of_getElem? (i := 118) (by decide +kernel), List.mem_of_getElem? (i := 363) (by decide +kernel), List.mem_of_getElem? (i := 364) (by decide +kernel)⟩
theorem lw_p18 : lw_okq (⟨"FeedMixes$Limits", "extremeOf", "(IZ)I"⟩, 7) := ⟨⟨by decide +kernel, by decide +kernel⟩, List.mem_of_getElem? (i := 82) (by decide +kernel), List.mem_of_getElem? (i := 367) (by decide +kernel), List.mem_of_getElem? (i := 368) (by decide +kernel)⟩
theorem lw_p19 : lw_okq (⟨"FeedMixes$Corners", "setCrossOf", "(II)V"⟩, 10) := ⟨⟨by decide +kernel, by decide +kernel⟩, List.mem_of_getElem? (i := 118) (by decide +kernel), List.mem_of_getElem? (i := 371) (by decide +kernel), List.mem_of_getElem? (i := 372) (by decide +kernel)⟩
theorem lw_p20 : lw_okq (⟨"FeedMixes$Corners", "isCorner", "(III)Z"⟩, 10) := ⟨⟨by decide +kernel, by decide +kernel⟩, List.mem_of_getElem? (i := 118) (by decide +kernel), List.mem_of_getElem? (i := 378) (by decide +kernel), List.mem_of_getElem? (i := 379) (by decide +kernel)⟩
theorem lw_p21 : lw_okq (⟨"FeedMixes$Limits", "allow", "(IJJ)Z"⟩, 7) := ⟨⟨by decide +kernel, by decide +kernel⟩, List.mem_of_getElem? (i := 82) (by decide +kernel), List.mem_of_getElem? (i := 382) (by decide +kernel), List.mem_of_getElem? (i := 383) (by decide +kernel)⟩
theorem lw_p22 : lw_okq (⟨"FeedMixes$Limits", "allOf", "(ILFeedMixes$Mix;)J"⟩, 7) := ⟨⟨by decide +kernel, by decide +kernel⟩, List.mem_of_getElem? (i := 82) (by decide +kernel), List.mem_of_getElem? (i := 386) (by decide +kernel), List.mem_of_getElem? (i := 387) (by decide +kernel)⟩
theorem lw_p23 : lw_okq (⟨"FeedMixes$Mix", "sum", "([I)J"⟩, 3) := ⟨⟨by decide +kernel, by decide +kernel⟩, List.mem_of_getElem? (i := 125) (by decide +kernel), List.mem_of_getElem? (i := 390) (by decide +kernel), List.mem_of_getElem? (i := 391) (by decide +kernel)⟩
theorem lw_p24 : lw_okq (⟨"FeedMixes$Corners", "offer", "(LFeedMixes$Mix;)V"⟩, 10) := ⟨⟨by decide +kernel, by decide +kernel⟩, List.mem_of_getElem? (i := 118) (by decide +kernel), List.mem_of_getElem? (i := 394) (by decide +kernel), List.mem_of_getElem? (i := 395) (by decide +kernel)⟩
theorem lw_p25 : lw_okq (⟨"FeedMixes$Mix", "isBetterThan", "(LFeedMixes$Mix;)Z"⟩, 3) := ⟨⟨by decide +kernel, by decide +kernel⟩, List.mem_of_getElem? (i := 125) (by decide +kernel), List.mem_of_getElem? (i := 399) (by decide +kernel), List.mem_of_getElem? (i := 400) (by decide +kernel)⟩
theorem lw_p26 : lw_okq (⟨"FeedMixes$Mix", "become", "(LFeedMixes$Mix;)V"⟩, 3) := ⟨⟨by decide +kernel, by decide +kernel⟩, List.mem_of_getElem? (i := 125) (by decide +kernel), List.mem_of_getElem? (i := 406) (by decide +kernel), List.mem_of_getElem? (i := 407) (by decide +kernel)⟩
theorem lw_p27 : lw_okq (⟨"FeedMixes$Mix", "isNone", "()Z"⟩, 3) := ⟨⟨by decide +kernel, by decide +kernel⟩, List.mem_of_getElem? (i := 125) (by decide +kernel), List.mem_of_getElem? (i := 410) (by decide +kernel), List.mem_of_getElem? (i := 411) (by decide +kernel)⟩
theorem lw_p28 : lw_okq (⟨"FeedMixes$Mixer", "tightBounds", "(LFeedMixes$Mix;)I"⟩, 3) := ⟨⟨by decide +kernel, by decide +kernel⟩, List.mem_of_getElem? (i := 76) (by decide +kernel), List.mem_of_getElem? (i := 414) (by decide +kernel), List.mem_of_getElem? (i := 415) (by decide +kernel)⟩
theorem lw_p29 : lw_okq (⟨"FeedMixes$Mixer", "canKeepBounds", "(I)Z"⟩, 3) := ⟨⟨by decide +kernel, by decide +kernel⟩, List.mem_of_getElem? (i := 76) (by decide +kernel), List.mem_of_getElem? (i := 422) (by decide +kernel), List.mem_of_getElem? (i := 423) (by decide +kernel)⟩
theorem lw_p30 : lw_okq (⟨"FeedMixes$Mixer", "clashingBounds", "(I)I"⟩, 3) := ⟨⟨by decide +kernel, by decide +kernel⟩, List.mem_of_getElem? (i := 76) (by decide +kernel), List.mem_of_getElem? (i := 426) (by decide +kernel), List.mem_of_getElem? (i := 427) (by decide +kernel)⟩
theorem lw_p31 : lw_okq (⟨"FeedMixes$Limits", "leaveOut", "(I)Z"⟩, 7) := ⟨⟨by decide +kernel, by decide +kernel⟩, List.mem_of_getElem? (i := 82) (by decide +kernel), List.mem_of_getElem? (i := 433) (by decide +kernel), List.mem_of_getElem? (i := 434) (by decide +kernel)⟩
def lw_privs_2 : List (MethodName × Nat) := [(⟨"FeedMixes$Corners", "addPlanesOfStuffs", "()V"⟩, 10), (⟨"FeedMixes$Corners", "addPlanesOfNutrients", "()Z"⟩, 10), (⟨"FeedMixes$Limits", "extremeOf", "(IZ)I"⟩, 7), (⟨"FeedMixes$Corners", "setCrossOf", "(II)V"⟩, 10), (⟨"FeedMixes$Corners", "isCorner", "(III)Z"⟩, 10), (⟨"FeedMixes$Limits", "allow", "(IJJ)Z"⟩, 7), (⟨"FeedMixes$Limits", "allOf", "(ILFeedMixes$Mix;)J"⟩, 7), (⟨"FeedMixes$Mix", "sum", "([I)J"⟩, 3), (⟨"FeedMixes$Corners", "offer", "(LFeedMixes$Mix;)V"⟩, 10), (⟨"FeedMixes$Mix", "isBetterThan", "(LFeedMixes$Mix;)Z"⟩, 3), (⟨"FeedMixes$Mix", "become", "(LFeedMixes$Mix;)V"⟩, 3), (⟨"FeedMixes$Mix", "isNone", "()Z"⟩, 3), (⟨"FeedMixes$Mixer", "tightBounds", "(LFeedMixes$Mix;)I"⟩, 3), (⟨"FeedMixes$Mixer", "canKeepBounds", "(I)Z"⟩, 3), (⟨"FeedMixes$Mixer", "clashingBounds", "(I)I"⟩, 3), (⟨"FeedMixes$Limits", "leaveOut", "(I)Z"⟩, 7)]
theorem lw_r2 : ∀ q ∈ lw_privs_2, lw_okq q := List.forall_mem_cons.mpr ⟨lw_p16, List.forall_mem_cons.mpr ⟨lw_p17, List.forall_mem_cons.mpr ⟨lw_p18, List.forall_mem_cons.mpr ⟨lw_p19, List.forall_mem_cons.mpr ⟨lw_p20, List.forall_mem_cons.mpr ⟨lw_p21, List.forall_mem_cons.mpr ⟨lw_p22, List.forall_mem_cons.mpr ⟨lw_p23, List.forall_mem_cons.mpr ⟨lw_p24, List.forall_mem_cons.mpr ⟨lw_p25, List.forall_mem_cons.mpr ⟨lw_p26, List.forall_mem_cons.mpr ⟨lw_p27, List.forall_mem_cons.mpr ⟨lw_p28, List.forall_mem_cons.mpr ⟨lw_p29, List.forall_mem_cons.mpr ⟨lw_p30, List.forall_mem_cons.mpr ⟨lw_p31, fun _ h => absurd h List.not_mem_nil⟩⟩⟩⟩⟩⟩⟩⟩⟩⟩⟩⟩⟩⟩⟩⟩
theorem lw_p32 : lw_okq (⟨"FeedMixesModel", "isStuff", "(I)Z"⟩, 31) := ⟨⟨by decide +kernel, by decide +kernel⟩, List.mem_of_getElem? (i := 480) (by decide +kernel), List.mem_of_getElem? (i := 592) (by decide +kernel), List.mem_of_getElem? (i := 593) (by decide +kernel)⟩
theorem lw_p33 : lw_okq (⟨"FeedMixesModel", "countAll", "()V"⟩, 31) := ⟨⟨by decide +kernel, by decide +kernel⟩, List.mem_of_getElem? (i := 480) (by decide +kernel), List.mem_of_getElem? (i := 620) (by decide +kernel), List.mem_of_getElem? (i := 621) (by decide +kernel)⟩
theorem lw_p34 : lw_okq (⟨"FeedMixesModel", "isThere", "(I)Z"⟩, 31) := ⟨⟨by decide +kernel, by decide +kernel⟩, List.mem_of_getElem? (i := 480) (by decide +kernel), List.mem_of_getElem? (i := 624) (by decide +kernel), List.mem_of_getElem? (i := 625) (by decide +kernel)⟩
theorem lw_p35 : lw_okq (⟨"FeedMixesModel", "isPossible", "(I)Z"⟩, 31) := ⟨⟨by decide +kernel, by decide +kernel⟩, List.mem_of_getElem? (i := 480) (by decide +kernel), List.mem_of_getElem? (i := 628) (by decide +kernel), List.mem_of_getElem? (i := 629) (by decide +kernel)⟩
theorem lw_p36 : lw_okq (⟨"FeedMixesModel", "freeAll", "()V"⟩, 31) := ⟨⟨by decide +kernel, by decide +kernel⟩, List.mem_of_getElem? (i := 480) (by decide +kernel), List.mem_of_getElem? (i := 632) (by decide +kernel), List.mem_of_getElem? (i := 633) (by decide +kernel)⟩
theorem lw_p37 : lw_okq (⟨"FeedMixesModel", "corners", "(IZ)V"⟩, 31) := ⟨⟨by decide +kernel, by decide +kernel⟩, List.mem_of_getElem? (i := 480) (by decide +kernel), List.mem_of_getElem? (i := 636) (by decide +kernel), List.mem_of_getElem? (i := 637) (by decide +kernel)⟩
theorem lw_p38 : lw_okq (⟨"FeedMixesModel", "look", "(I)Z"⟩, 31) := ⟨⟨by decide +kernel, by decide +kernel⟩, List.mem_of_getElem? (i := 480) (by decide +kernel), List.mem_of_getElem? (i := 640) (by decide +kernel), List.mem_of_getElem? (i := 641) (by decide +kernel)⟩
theorem lw_p39 : lw_okq (⟨"FeedMixesModel", "solve", "(I)Z"⟩, 31) := ⟨⟨by decide +kernel, by decide +kernel⟩, List.mem_of_getElem? (i := 480) (by decide +kernel), List.mem_of_getElem? (i := 644) (by decide +kernel), List.mem_of_getElem? (i := 645) (by decide +kernel)⟩
theorem lw_p40 : lw_okq (⟨"FeedMixesModel", "right", "(II)J"⟩, 31) := ⟨⟨by decide +kernel, by decide +kernel⟩, List.mem_of_getElem? (i := 480) (by decide +kernel), List.mem_of_getElem? (i := 648) (by decide +kernel), List.mem_of_getElem? (i := 649) (by decide +kernel)⟩
theorem lw_p41 : lw_okq (⟨"FeedMixesModel", "factor", "(II)J"⟩, 31) := ⟨⟨by decide +kernel, by decide +kernel⟩, List.mem_of_getElem? (i := 480) (by decide +kernel), List.mem_of_getElem? (i := 652) (by decide +kernel), List.mem_of_getElem? (i := 653) (by decide +kernel)⟩
theorem lw_p42 : lw_okq (⟨"FeedMixesModel", "keepsAll", "(I)Z"⟩, 31) := ⟨⟨by decide +kernel, by decide +kernel⟩, List.mem_of_getElem? (i := 480) (by decide +kernel), List.mem_of_getElem? (i := 658) (by decide +kernel), List.mem_of_getElem? (i := 659) (by decide +kernel)⟩
theorem lw_p43 : lw_okq (⟨"FeedMixesModel", "over", "(II[JJ)J"⟩, 31) := ⟨⟨by decide +kernel, by decide +kernel⟩, List.mem_of_getElem? (i := 480) (by decide +kernel), List.mem_of_getElem? (i := 662) (by decide +kernel), List.mem_of_getElem? (i := 663) (by decide +kernel)⟩
theorem lw_p44 : lw_okq (⟨"FeedMixesModel", "isBetter", "()Z"⟩, 31) := ⟨⟨by decide +kernel, by decide +kernel⟩, List.mem_of_getElem? (i := 480) (by decide +kernel), List.mem_of_getElem? (i := 669) (by decide +kernel), List.mem_of_getElem? (i := 670) (by decide +kernel)⟩
theorem lw_p45 : lw_okq (⟨"FeedMixesModel", "costOf", "([J)J"⟩, 31) := ⟨⟨by decide +kernel, by decide +kernel⟩, List.mem_of_getElem? (i := 480) (by decide +kernel), List.mem_of_getElem? (i := 673) (by decide +kernel), List.mem_of_getElem? (i := 674) (by decide +kernel)⟩
theorem lw_p46 : lw_okq (⟨"FeedMixesModel", "mixes", "(I)Z"⟩, 31) := ⟨⟨by decide +kernel, by decide +kernel⟩, List.mem_of_getElem? (i := 480) (by decide +kernel), List.mem_of_getElem? (i := 677) (by decide +kernel), List.mem_of_getElem? (i := 678) (by decide +kernel)⟩
theorem lw_p47 : lw_okq (⟨"FeedMixesModel", "most", "(I)I"⟩, 31) := ⟨⟨by decide +kernel, by decide +kernel⟩, List.mem_of_getElem? (i := 480) (by decide +kernel), List.mem_of_getElem? (i := 681) (by decide +kernel), List.mem_of_getElem? (i := 682) (by decide +kernel)⟩
def lw_privs_3 : List (MethodName × Nat) := [(⟨"FeedMixesModel", "isStuff", "(I)Z"⟩, 31), (⟨"FeedMixesModel", "countAll", "()V"⟩, 31), (⟨"FeedMixesModel", "isThere", "(I)Z"⟩, 31), (⟨"FeedMixesModel", "isPossible", "(I)Z"⟩, 31), (⟨"FeedMixesModel", "freeAll", "()V"⟩, 31), (⟨"FeedMixesModel", "corners", "(IZ)V"⟩, 31), (⟨"FeedMixesModel", "look", "(I)Z"⟩, 31), (⟨"FeedMixesModel", "solve", "(I)Z"⟩, 31), (⟨"FeedMixesModel", "right", "(II)J"⟩, 31), (⟨"FeedMixesModel", "factor", "(II)J"⟩, 31), (⟨"FeedMixesModel", "keepsAll", "(I)Z"⟩, 31), (⟨"FeedMixesModel", "over", "(II[JJ)J"⟩, 31), (⟨"FeedMixesModel", "isBetter", "()Z"⟩, 31), (⟨"FeedMixesModel", "costOf", "([J)J"⟩, 31), (⟨"FeedMixesModel", "mixes", "(I)Z"⟩, 31), (⟨"FeedMixesModel", "most", "(I)I"⟩, 31)]
theorem lw_r3 : ∀ q ∈ lw_privs_3, lw_okq q := List.forall_mem_cons.mpr ⟨lw_p32, List.forall_mem_cons.mpr ⟨lw_p33, List.forall_mem_cons.mpr ⟨lw_p34, List.forall_mem_cons.mpr ⟨lw_p35, List.forall_mem_cons.mpr ⟨lw_p36, List.forall_mem_cons.mpr ⟨lw_p37, List.forall_mem_cons.mpr ⟨lw_p38, List.forall_mem_cons.mpr ⟨lw_p39, List.forall_mem_cons.mpr ⟨lw_p40, List.forall_mem_cons.mpr ⟨lw_p41, List.forall_mem_cons.mpr ⟨lw_p42, List.forall_mem_cons.mpr ⟨lw_p43, List.forall_mem_cons.mpr ⟨lw_p44, List.forall_mem_cons.mpr ⟨lw_p45, List.forall_mem_cons.mpr ⟨lw_p46, List.forall_mem_cons.mpr ⟨lw_p47, fun _ h => absurd h List.not_mem_nil⟩⟩⟩⟩⟩⟩⟩⟩⟩⟩⟩⟩⟩⟩⟩⟩
theorem lw_p48 : lw_okq (⟨"FeedMixesModel", "fix", "(II)V"⟩, 31) := ⟨⟨by decide +kernel, by decide +kernel⟩, List.mem_of_getElem? (i := 480) (by decide +kernel), List.mem_of_getElem? (i := 685) (by decide +kernel), List.mem_of_getElem? (i := 686) (by decide +kernel)⟩
theorem lw_p49 : lw_okq (⟨"FeedMixesModel", "keepMix", "(I)V"⟩, 31) := ⟨⟨by decide +kernel, by decide +kernel⟩, List.mem_of_getElem? (i := 480) (by decide +kernel), List.mem_of_getElem? (i := 689) (by decide +kernel), List.mem_of_getElem? (i := 690) (by decide +kernel)⟩
def lw_privs_4 : List (MethodName × Nat) := [(⟨"FeedMixesModel", "fix", "(II)V"⟩, 31), (⟨"FeedMixesModel", "keepMix", "(I)V"⟩, 31)]
theorem lw_r4 : ∀ q ∈ lw_privs_4, lw_okq q := List.forall_mem_cons.mpr ⟨lw_p48, List.forall_mem_cons.mpr ⟨lw_p49, fun _ h => absurd h List.not_mem_nil⟩⟩
def lw_privs : List (MethodName × Nat) := lw_privs_1 ++ (lw_privs_2 ++ (lw_privs_3 ++ (lw_privs_4)))
def lw_tbl : List Cond := k2_sels lw_privs ++ tables_1
theorem lw_privs_ok : ∀ q ∈ lw_privs, lw_okq q := by
  show ∀ q ∈ lw_privs_1 ++ (lw_privs_2 ++ (lw_privs_3 ++ (lw_privs_4))), lw_okq q
  exact List.forall_mem_append.mpr ⟨lw_r1, List.forall_mem_append.mpr ⟨lw_r2, List.forall_mem_append.mpr ⟨lw_r3, lw_r4⟩⟩⟩
-- ===== end of PART A; then your names; then what follows =====
end
section
def RK : String := "FeedMixes$Corners"
def RL : String := "FeedMixes$Limits"
def RX : String := "FeedMixes$Mix"
def RE : String := "FeedMixes$Mixer"
def RT : String := "FeedMixes$Told"
def RF : String := "FeedMixes"
def RR : String := "FeedMixesModel"
def RW : String := "FeedMixesLaw"
def RJL : String := "java/lang/Long"
def RJM : String := "java/lang/Math"
def TK : u_T := fun k => match k with
  | 0 => ("FeedMixes$Corners", "told", "LFeedMixes$Told;", true)
  | 1 => ("FeedMixes$Corners", "limits", "LFeedMixes$Limits;", true)
  | 2 => ("FeedMixes$Corners", "ofLast", "[I", true)
  | 3 => ("FeedMixes$Corners", "slope", "[[I", true)
  | 4 => ("FeedMixes$Corners", "planeRow", "[I", true)
  | 5 => ("FeedMixes$Corners", "planeLevel", "[I", true)
  | 6 => ("FeedMixes$Corners", "planes", "I", false)
  | 7 => ("FeedMixes$Corners", "throughAll", "I", false)
  | 8 => ("FeedMixes$Corners", "crossAB", "[J", true)
  | _ => ("FeedMixes$Corners", "corner", "LFeedMixes$Mix;", true)
def tyK : Nat → FieldType := fun k => match k with
  | 0 => .object "FeedMixes$Told"
  | 1 => .object "FeedMixes$Limits"
  | 2 => .array .int
  | 3 => .array (.array .int)
  | 4 => .array .int
  | 5 => .array .int
  | 6 => .int
  | 7 => .int
  | 8 => .array .long
  | _ => .object "FeedMixes$Mix"
theorem nmK : ∀ a, a < 10 → ∀ b, b < 10 → a ≠ b → (TK a).2.1 ≠ (TK b).2.1 := by decide +kernel
theorem okK : ∀ k, k < 10 → parseFieldDescriptor (TK k).2.2.1 = some (tyK k) := by decide +kernel
abbrev uK : List Cond := u_ws RK TK 10
def TL : u_T := fun k => match k with
  | 0 => ("FeedMixes$Limits", "told", "LFeedMixes$Told;", true)
  | 1 => ("FeedMixes$Limits", "weight", "I", false)
  | 2 => ("FeedMixes$Limits", "whole", "I", false)
  | 3 => ("FeedMixes$Limits", "kept", "I", false)
  | 4 => ("FeedMixes$Limits", "low", "[I", true)
  | 5 => ("FeedMixes$Limits", "high", "[I", true)
  | _ => ("FeedMixes$Limits", "leanFirst", "[[I", true)
def tyL : Nat → FieldType := fun k => match k with
  | 0 => .object "FeedMixes$Told"
  | 1 => .int
  | 2 => .int
  | 3 => .int
  | 4 => .array .int
  | 5 => .array .int
  | _ => .array (.array .int)
theorem nmL : ∀ a, a < 7 → ∀ b, b < 7 → a ≠ b → (TL a).2.1 ≠ (TL b).2.1 := by decide +kernel
theorem okL : ∀ k, k < 7 → parseFieldDescriptor (TL k).2.2.1 = some (tyL k) := by decide +kernel
abbrev uL : List Cond := u_ws RL TL 7
def TX : u_T := fun k => match k with
  | 0 => ("FeedMixes$Mix", "amount", "[J", true)
  | 1 => ("FeedMixes$Mix", "price", "J", false)
  | _ => ("FeedMixes$Mix", "under", "J", false)
def tyX : Nat → FieldType := fun k => match k with
  | 0 => .array .long
  | 1 => .long
  | _ => .long
theorem nmX : ∀ a, a < 3 → ∀ b, b < 3 → a ≠ b → (TX a).2.1 ≠ (TX b).2.1 := by decide +kernel
theorem okX : ∀ k, k < 3 → parseFieldDescriptor (TX k).2.2.1 = some (tyX k) := by decide +kernel
abbrev uX : List Cond := u_ws RX TX 3
def TE : u_T := fun k => match k with
  | 0 => ("FeedMixes$Mixer", "told", "LFeedMixes$Told;", true)
  | 1 => ("FeedMixes$Mixer", "limits", "LFeedMixes$Limits;", true)
  | _ => ("FeedMixes$Mixer", "corners", "LFeedMixes$Corners;", true)
def tyE : Nat → FieldType := fun k => match k with
  | 0 => .object "FeedMixes$Told"
  | 1 => .object "FeedMixes$Limits"
  | _ => .object "FeedMixes$Corners"
theorem nmE : ∀ a, a < 3 → ∀ b, b < 3 → a ≠ b → (TE a).2.1 ≠ (TE b).2.1 := by decide +kernel
theorem okE : ∀ k, k < 3 → parseFieldDescriptor (TE k).2.2.1 = some (tyE k) := by decide +kernel
abbrev uE : List Cond := u_ws RE TE 3
def TT : u_T := fun k => match k with
  | 0 => ("FeedMixes$Told", "stuffs", "I", false)
  | 1 => ("FeedMixes$Told", "price", "[I", true)
  | 2 => ("FeedMixes$Told", "stock", "[I", true)
  | 3 => ("FeedMixes$Told", "leastShare", "[I", true)
  | 4 => ("FeedMixes$Told", "mostShare", "[I", true)
  | 5 => ("FeedMixes$Told", "silo", "[I", true)
  | 6 => ("FeedMixes$Told", "points", "[[I", true)
  | 7 => ("FeedMixes$Told", "leastNeed", "[I", true)
  | _ => ("FeedMixes$Told", "mostNeed", "[I", true)
def tyT : Nat → FieldType := fun k => match k with
  | 0 => .int
  | 1 => .array .int
  | 2 => .array .int
  | 3 => .array .int
  | 4 => .array .int
  | 5 => .array .int
  | 6 => .array (.array .int)
  | 7 => .array .int
  | _ => .array .int
theorem nmT : ∀ a, a < 9 → ∀ b, b < 9 → a ≠ b → (TT a).2.1 ≠ (TT b).2.1 := by decide +kernel
theorem okT : ∀ k, k < 9 → parseFieldDescriptor (TT k).2.2.1 = some (tyT k) := by decide +kernel
abbrev uT : List Cond := u_ws RT TT 9
def TF : u_T := fun k => match k with
  | 0 => ("FeedMixes", "told", "LFeedMixes$Told;", true)
  | 1 => ("FeedMixes", "mixer", "LFeedMixes$Mixer;", true)
  | 2 => ("FeedMixes", "lastAnswer", "I", false)
  | 3 => ("FeedMixes", "lastWeight", "I", false)
  | 4 => ("FeedMixes", "lastStuffs", "I", false)
  | 5 => ("FeedMixes", "lastTight", "I", false)
  | 6 => ("FeedMixes", "lastClash", "I", false)
  | 7 => ("FeedMixes", "lastMix", "LFeedMixes$Mix;", true)
  | 8 => ("FeedMixes", "mixNow", "LFeedMixes$Mix;", true)
  | 9 => ("FeedMixes", "mixThen", "LFeedMixes$Mix;", true)
  | 10 => ("FeedMixes", "medicineOnLine", "I", false)
  | _ => ("FeedMixes", "mixesOverLine", "I", false)
def tyF : Nat → FieldType := fun k => match k with
  | 0 => .object "FeedMixes$Told"
  | 1 => .object "FeedMixes$Mixer"
  | 2 => .int
  | 3 => .int
  | 4 => .int
  | 5 => .int
  | 6 => .int
  | 7 => .object "FeedMixes$Mix"
  | 8 => .object "FeedMixes$Mix"
  | 9 => .object "FeedMixes$Mix"
  | 10 => .int
  | _ => .int
theorem nmF : ∀ a, a < 12 → ∀ b, b < 12 → a ≠ b → (TF a).2.1 ≠ (TF b).2.1 := by decide +kernel
theorem okF : ∀ k, k < 12 → parseFieldDescriptor (TF k).2.2.1 = some (tyF k) := by decide +kernel
abbrev uF : List Cond := u_ws RF TF 12
def TR : u_T := fun k => match k with
  | 0 => ("FeedMixesModel", "stuffs", "I", false)
  | 1 => ("FeedMixesModel", "price", "[I", true)
  | 2 => ("FeedMixesModel", "stock", "[I", true)
  | 3 => ("FeedMixesModel", "points", "[I", true)
  | 4 => ("FeedMixesModel", "leastShare", "[I", true)
  | 5 => ("FeedMixesModel", "mostShare", "[I", true)
  | 6 => ("FeedMixesModel", "silo", "[I", true)
  | 7 => ("FeedMixesModel", "leastNeed", "[I", true)
  | 8 => ("FeedMixesModel", "mostNeed", "[I", true)
  | 9 => ("FeedMixesModel", "weight", "I", false)
  | 10 => ("FeedMixesModel", "answer", "I", false)
  | 11 => ("FeedMixesModel", "stuffsThen", "I", false)
  | 12 => ("FeedMixesModel", "amountAbove", "[J", true)
  | 13 => ("FeedMixesModel", "amountBelow", "[J", true)
  | 14 => ("FeedMixesModel", "costAbove", "J", false)
  | 15 => ("FeedMixesModel", "costBelow", "J", false)
  | 16 => ("FeedMixesModel", "justMet", "I", false)
  | 17 => ("FeedMixesModel", "clashing", "I", false)
  | 18 => ("FeedMixesModel", "on", "I", false)
  | 19 => ("FeedMixesModel", "overLine", "I", false)
  | 20 => ("FeedMixesModel", "counts", "[Z", true)
  | 21 => ("FeedMixesModel", "fixed", "[I", true)
  | 22 => ("FeedMixesModel", "free", "[I", true)
  | 23 => ("FeedMixesModel", "freeCount", "I", false)
  | 24 => ("FeedMixesModel", "rows", "[J", true)
  | 25 => ("FeedMixesModel", "x", "[J", true)
  | 26 => ("FeedMixesModel", "below", "J", false)
  | 27 => ("FeedMixesModel", "chosen", "[I", true)
  | 28 => ("FeedMixesModel", "found", "Z", false)
  | 29 => ("FeedMixesModel", "best", "[J", true)
  | _ => ("FeedMixesModel", "bestBelow", "J", false)
def tyR : Nat → FieldType := fun k => match k with
  | 0 => .int
  | 1 => .array .int
  | 2 => .array .int
  | 3 => .array .int
  | 4 => .array .int
  | 5 => .array .int
  | 6 => .array .int
  | 7 => .array .int
  | 8 => .array .int
  | 9 => .int
  | 10 => .int
  | 11 => .int
  | 12 => .array .long
  | 13 => .array .long
  | 14 => .long
  | 15 => .long
  | 16 => .int
  | 17 => .int
  | 18 => .int
  | 19 => .int
  | 20 => .array .boolean
  | 21 => .array .int
  | 22 => .array .int
  | 23 => .int
  | 24 => .array .long
  | 25 => .array .long
  | 26 => .long
  | 27 => .array .int
  | 28 => .boolean
  | 29 => .array .long
  | _ => .long
theorem nmR : ∀ a, a < 31 → ∀ b, b < 31 → a ≠ b → (TR a).2.1 ≠ (TR b).2.1 := by decide +kernel
theorem okR : ∀ k, k < 31 → parseFieldDescriptor (TR k).2.2.1 = some (tyR k) := by decide +kernel
abbrev uR : List Cond := u_ws RR TR 31
abbrev vwCl : List vw_C := [(RK, TK, 10), (RL, TL, 7), (RX, TX, 3), (RE, TE, 3), (RT, TT, 9), (RF, TF, 12), (RR, TR, 31)]
abbrev bF_init : ByteArray := prog_1_method_1_code
def yF_init : MethodName := ⟨RF, "<init>", "()V"⟩
abbrev bT_init : ByteArray := prog_6_method_1_code
def yT_init : MethodName := ⟨RT, "<init>", "()V"⟩
abbrev bE_init : ByteArray := prog_5_method_1_code
def yE_init : MethodName := ⟨RE, "<init>", "(LFeedMixes$Told;)V"⟩
abbrev bL_init : ByteArray := prog_3_method_1_code
def yL_init : MethodName := ⟨RL, "<init>", "(LFeedMixes$Told;)V"⟩
abbrev bK_init : ByteArray := prog_2_method_1_code
def yK_init : MethodName := ⟨RK, "<init>", "(LFeedMixes$Told;LFeedMixes$Limits;)V"⟩
abbrev bX_init : ByteArray := prog_4_method_1_code
def yX_init : MethodName := ⟨RX, "<init>", "()V"⟩
abbrev bF_stuff : ByteArray := prog_1_method_2_code
def yF_stuff : MethodName := ⟨RF, "stuff", "(II)I"⟩
abbrev bF_isPrice : ByteArray := prog_1_method_20_code
def yF_isPrice : MethodName := ⟨RF, "isPrice", "(I)Z"⟩
abbrev bF_isWithin : ByteArray := prog_1_method_23_code
def yF_isWithin : MethodName := ⟨RF, "isWithin", "(III)Z"⟩
abbrev bF_isStock : ByteArray := prog_1_method_21_code
def yF_isStock : MethodName := ⟨RF, "isStock", "(I)Z"⟩
abbrev bF_price : ByteArray := prog_1_method_3_code
def yF_price : MethodName := ⟨RF, "price", "(II)I"⟩
abbrev bF_isStuff : ByteArray := prog_1_method_18_code
def yF_isStuff : MethodName := ⟨RF, "isStuff", "(I)Z"⟩
abbrev bF_stock : ByteArray := prog_1_method_4_code
def yF_stock : MethodName := ⟨RF, "stock", "(II)I"⟩
abbrev bF_holds : ByteArray := prog_1_method_5_code
def yF_holds : MethodName := ⟨RF, "holds", "(III)Z"⟩
abbrev bF_isNutrient : ByteArray := prog_1_method_19_code
def yF_isNutrient : MethodName := ⟨RF, "isNutrient", "(I)Z"⟩
abbrev bF_need : ByteArray := prog_1_method_6_code
def yF_need : MethodName := ⟨RF, "need", "(III)Z"⟩
abbrev bF_isRange : ByteArray := prog_1_method_22_code
def yF_isRange : MethodName := ⟨RF, "isRange", "(III)Z"⟩
abbrev bF_shares : ByteArray := prog_1_method_7_code
def yF_shares : MethodName := ⟨RF, "shares", "(III)Z"⟩
abbrev bF_silo : ByteArray := prog_1_method_8_code
def yF_silo : MethodName := ⟨RF, "silo", "(II)Z"⟩
abbrev bF_run : ByteArray := prog_1_method_9_code
def yF_run : MethodName := ⟨RF, "run", "(I)I"⟩
abbrev bE_findBest : ByteArray := prog_5_method_3_code
def yE_findBest : MethodName := ⟨RE, "findBest", "(ILFeedMixes$Mix;)Z"⟩
abbrev bE_begin : ByteArray := prog_5_method_2_code
def yE_begin : MethodName := ⟨RE, "begin", "(I)V"⟩
abbrev bL_keepAll : ByteArray := prog_3_method_2_code
def yL_keepAll : MethodName := ⟨RL, "keepAll", "(I)V"⟩
abbrev bL_widen : ByteArray := prog_3_method_4_code
def yL_widen : MethodName := ⟨RL, "widen", "(I)V"⟩
abbrev bL_isThere : ByteArray := prog_3_method_7_code
def yL_isThere : MethodName := ⟨RL, "isThere", "(I)Z"⟩
abbrev bF_rowOf : ByteArray := prog_1_method_25_code
def yF_rowOf : MethodName := ⟨RF, "rowOf", "(I)I"⟩
abbrev bL_keep : ByteArray := prog_3_method_5_code
def yL_keep : MethodName := ⟨RL, "keep", "(I)V"⟩
abbrev bF_isLeast : ByteArray := prog_1_method_26_code
def yF_isLeast : MethodName := ⟨RF, "isLeast", "(I)Z"⟩
abbrev bL_levelOf : ByteArray := prog_3_method_8_code
def yL_levelOf : MethodName := ⟨RL, "levelOf", "(I)I"⟩
abbrev bJM_max : ByteArray := prog_10_method_65_code
def yJM_max : MethodName := ⟨RJM, "max", "(II)I"⟩
abbrev bJM_min : ByteArray := prog_10_method_69_code
def yJM_min : MethodName := ⟨RJM, "min", "(II)I"⟩
abbrev bL_sortByPoints : ByteArray := prog_3_method_3_code
def yL_sortByPoints : MethodName := ⟨RL, "sortByPoints", "([I[I)V"⟩
abbrev bK_setSlopes : ByteArray := prog_2_method_2_code
def yK_setSlopes : MethodName := ⟨RK, "setSlopes", "()V"⟩
abbrev bK_pointsOf : ByteArray := prog_2_method_3_code
def yK_pointsOf : MethodName := ⟨RK, "pointsOf", "(II)I"⟩
abbrev bX_forget : ByteArray := prog_4_method_3_code
def yX_forget : MethodName := ⟨RX, "forget", "()V"⟩
abbrev bE_fillFromSilos : ByteArray := prog_5_method_4_code
def yE_fillFromSilos : MethodName := ⟨RE, "fillFromSilos", "(LFeedMixes$Mixer;IILFeedMixes$Mix;)V"⟩
abbrev bK_seek : ByteArray := prog_2_method_4_code
def yK_seek : MethodName := ⟨RK, "seek", "(LFeedMixes$Mix;)Z"⟩
abbrev bL_leaveRoomToStuffs : ByteArray := prog_3_method_9_code
def yL_leaveRoomToStuffs : MethodName := ⟨RL, "leaveRoomToStuffs", "()Z"⟩
abbrev bK_setPlanes : ByteArray := prog_2_method_5_code
def yK_setPlanes : MethodName := ⟨RK, "setPlanes", "()Z"⟩
abbrev bK_addPlanesOfOneAmount : ByteArray := prog_2_method_6_code
def yK_addPlanesOfOneAmount : MethodName := ⟨RK, "addPlanesOfOneAmount", "()V"⟩
abbrev bK_addPlane : ByteArray := prog_2_method_9_code
def yK_addPlane : MethodName := ⟨RK, "addPlane", "(II)V"⟩
abbrev bK_addPlanesOfStuffs : ByteArray := prog_2_method_7_code
def yK_addPlanesOfStuffs : MethodName := ⟨RK, "addPlanesOfStuffs", "()V"⟩
abbrev bK_addPlanesOfNutrients : ByteArray := prog_2_method_8_code
def yK_addPlanesOfNutrients : MethodName := ⟨RK, "addPlanesOfNutrients", "()Z"⟩
abbrev bL_extremeOf : ByteArray := prog_3_method_10_code
def yL_extremeOf : MethodName := ⟨RL, "extremeOf", "(IZ)I"⟩
abbrev bK_setCrossOf : ByteArray := prog_2_method_11_code
def yK_setCrossOf : MethodName := ⟨RK, "setCrossOf", "(II)V"⟩
abbrev bK_cross : ByteArray := prog_2_method_12_code
def yK_cross : MethodName := ⟨RK, "cross", "([I[II)J"⟩
abbrev bK_isCorner : ByteArray := prog_2_method_10_code
def yK_isCorner : MethodName := ⟨RK, "isCorner", "(III)Z"⟩
abbrev bL_allow : ByteArray := prog_3_method_11_code
def yL_allow : MethodName := ⟨RL, "allow", "(IJJ)Z"⟩
abbrev bL_allOf : ByteArray := prog_3_method_12_code
def yL_allOf : MethodName := ⟨RL, "allOf", "(ILFeedMixes$Mix;)J"⟩
abbrev bX_sum : ByteArray := prog_4_method_6_code
def yX_sum : MethodName := ⟨RX, "sum", "([I)J"⟩
abbrev bK_offer : ByteArray := prog_2_method_13_code
def yK_offer : MethodName := ⟨RK, "offer", "(LFeedMixes$Mix;)V"⟩
abbrev bX_isBetterThan : ByteArray := prog_4_method_5_code
def yX_isBetterThan : MethodName := ⟨RX, "isBetterThan", "(LFeedMixes$Mix;)Z"⟩
abbrev bJL_compare : ByteArray := prog_9_method_42_code
def yJL_compare : MethodName := ⟨RJL, "compare", "(JJ)I"⟩
abbrev bX_become : ByteArray := prog_4_method_4_code
def yX_become : MethodName := ⟨RX, "become", "(LFeedMixes$Mix;)V"⟩
abbrev bX_isNone : ByteArray := prog_4_method_2_code
def yX_isNone : MethodName := ⟨RX, "isNone", "()Z"⟩
abbrev bE_tightBounds : ByteArray := prog_5_method_7_code
def yE_tightBounds : MethodName := ⟨RE, "tightBounds", "(LFeedMixes$Mix;)I"⟩
abbrev bE_canKeepBounds : ByteArray := prog_5_method_5_code
def yE_canKeepBounds : MethodName := ⟨RE, "canKeepBounds", "(I)Z"⟩
abbrev bE_clashingBounds : ByteArray := prog_5_method_6_code
def yE_clashingBounds : MethodName := ⟨RE, "clashingBounds", "(I)I"⟩
abbrev bF_hasBound : ByteArray := prog_1_method_24_code
def yF_hasBound : MethodName := ⟨RF, "hasBound", "(II)Z"⟩
abbrev bL_leaveOut : ByteArray := prog_3_method_6_code
def yL_leaveOut : MethodName := ⟨RL, "leaveOut", "(I)Z"⟩
abbrev bF_amount : ByteArray := prog_1_method_10_code
def yF_amount : MethodName := ⟨RF, "amount", "(II)J"⟩
abbrev bF_partOf : ByteArray := prog_1_method_27_code
def yF_partOf : MethodName := ⟨RF, "partOf", "(JJI)J"⟩
abbrev bF_commonDivisor : ByteArray := prog_1_method_28_code
def yF_commonDivisor : MethodName := ⟨RF, "commonDivisor", "(JJ)J"⟩
abbrev bF_cost : ByteArray := prog_1_method_11_code
def yF_cost : MethodName := ⟨RF, "cost", "(I)J"⟩
abbrev bF_tight : ByteArray := prog_1_method_12_code
def yF_tight : MethodName := ⟨RF, "tight", "()I"⟩
abbrev bF_clash : ByteArray := prog_1_method_13_code
def yF_clash : MethodName := ⟨RF, "clash", "(I)I"⟩
abbrev bF_dearer : ByteArray := prog_1_method_14_code
def yF_dearer : MethodName := ⟨RF, "dearer", "(II)J"⟩
abbrev bF_line : ByteArray := prog_1_method_15_code
def yF_line : MethodName := ⟨RF, "line", "(I)I"⟩
abbrev bF_clean : ByteArray := prog_1_method_16_code
def yF_clean : MethodName := ⟨RF, "clean", "()I"⟩
abbrev bF_made : ByteArray := prog_1_method_17_code
def yF_made : MethodName := ⟨RF, "made", "()I"⟩
abbrev bR_init : ByteArray := prog_8_method_1_code
def yR_init : MethodName := ⟨RR, "<init>", "()V"⟩
abbrev bR_stuff : ByteArray := prog_8_method_5_code
def yR_stuff : MethodName := ⟨RR, "stuff", "(II)I"⟩
abbrev bR_in : ByteArray := prog_8_method_3_code
def yR_in : MethodName := ⟨RR, "in", "(III)Z"⟩
abbrev bR_price : ByteArray := prog_8_method_6_code
def yR_price : MethodName := ⟨RR, "price", "(II)I"⟩
abbrev bR_isStuff : ByteArray := prog_8_method_4_code
def yR_isStuff : MethodName := ⟨RR, "isStuff", "(I)Z"⟩
abbrev bR_stock : ByteArray := prog_8_method_7_code
def yR_stock : MethodName := ⟨RR, "stock", "(II)I"⟩
abbrev bR_holds : ByteArray := prog_8_method_8_code
def yR_holds : MethodName := ⟨RR, "holds", "(III)Z"⟩
abbrev bR_need : ByteArray := prog_8_method_9_code
def yR_need : MethodName := ⟨RR, "need", "(III)Z"⟩
abbrev bR_shares : ByteArray := prog_8_method_10_code
def yR_shares : MethodName := ⟨RR, "shares", "(III)Z"⟩
abbrev bR_silo : ByteArray := prog_8_method_11_code
def yR_silo : MethodName := ⟨RR, "silo", "(II)Z"⟩
abbrev bR_run : ByteArray := prog_8_method_31_code
def yR_run : MethodName := ⟨RR, "run", "(I)I"⟩
abbrev bR_countAll : ByteArray := prog_8_method_23_code
def yR_countAll : MethodName := ⟨RR, "countAll", "()V"⟩
abbrev bR_isThere : ByteArray := prog_8_method_12_code
def yR_isThere : MethodName := ⟨RR, "isThere", "(I)Z"⟩
abbrev bR_isPossible : ByteArray := prog_8_method_25_code
def yR_isPossible : MethodName := ⟨RR, "isPossible", "(I)Z"⟩
abbrev bR_freeAll : ByteArray := prog_8_method_24_code
def yR_freeAll : MethodName := ⟨RR, "freeAll", "()V"⟩
abbrev bR_corners : ByteArray := prog_8_method_22_code
def yR_corners : MethodName := ⟨RR, "corners", "(IZ)V"⟩
abbrev bR_look : ByteArray := prog_8_method_21_code
def yR_look : MethodName := ⟨RR, "look", "(I)Z"⟩
abbrev bR_solve : ByteArray := prog_8_method_18_code
def yR_solve : MethodName := ⟨RR, "solve", "(I)Z"⟩
abbrev bR_right : ByteArray := prog_8_method_14_code
def yR_right : MethodName := ⟨RR, "right", "(II)J"⟩
abbrev bR_factor : ByteArray := prog_8_method_13_code
def yR_factor : MethodName := ⟨RR, "factor", "(II)J"⟩
abbrev bR_keepsAll : ByteArray := prog_8_method_17_code
def yR_keepsAll : MethodName := ⟨RR, "keepsAll", "(I)Z"⟩
abbrev bR_over : ByteArray := prog_8_method_16_code
def yR_over : MethodName := ⟨RR, "over", "(II[JJ)J"⟩
abbrev bR_isLeast : ByteArray := prog_8_method_15_code
def yR_isLeast : MethodName := ⟨RR, "isLeast", "(I)Z"⟩
abbrev bR_isBetter : ByteArray := prog_8_method_20_code
def yR_isBetter : MethodName := ⟨RR, "isBetter", "()Z"⟩
abbrev bR_costOf : ByteArray := prog_8_method_19_code
def yR_costOf : MethodName := ⟨RR, "costOf", "([J)J"⟩
abbrev bR_mixes : ByteArray := prog_8_method_28_code
def yR_mixes : MethodName := ⟨RR, "mixes", "(I)Z"⟩
abbrev bR_most : ByteArray := prog_8_method_26_code
def yR_most : MethodName := ⟨RR, "most", "(I)I"⟩
abbrev bR_fix : ByteArray := prog_8_method_27_code
def yR_fix : MethodName := ⟨RR, "fix", "(II)V"⟩
abbrev bR_keepMix : ByteArray := prog_8_method_30_code
def yR_keepMix : MethodName := ⟨RR, "keepMix", "(I)V"⟩
abbrev bR_divisor : ByteArray := prog_8_method_29_code
def yR_divisor : MethodName := ⟨RR, "divisor", "(JJ)J"⟩
abbrev bR_amount : ByteArray := prog_8_method_32_code
def yR_amount : MethodName := ⟨RR, "amount", "(II)J"⟩
abbrev bR_cost : ByteArray := prog_8_method_33_code
def yR_cost : MethodName := ⟨RR, "cost", "(I)J"⟩
abbrev bR_tight : ByteArray := prog_8_method_34_code
def yR_tight : MethodName := ⟨RR, "tight", "()I"⟩
abbrev bR_clash : ByteArray := prog_8_method_35_code
def yR_clash : MethodName := ⟨RR, "clash", "(I)I"⟩
abbrev bR_dearer : ByteArray := prog_8_method_36_code
def yR_dearer : MethodName := ⟨RR, "dearer", "(II)J"⟩
abbrev bR_line : ByteArray := prog_8_method_37_code
def yR_line : MethodName := ⟨RR, "line", "(I)I"⟩
abbrev bR_clean : ByteArray := prog_8_method_38_code
def yR_clean : MethodName := ⟨RR, "clean", "()I"⟩
abbrev bR_made : ByteArray := prog_8_method_39_code
def yR_made : MethodName := ⟨RR, "made", "()I"⟩
/-- the words that a callee may be given: those of the tables that hold on -/
def gtb : List Cond := lw_tbl.filter goodWord
theorem gtb_in {w : Cond} {i : Nat} (h : lw_tbl[i]? = some w) (g : goodWord w = true) : w ∈ gtb := List.mem_filter.mpr ⟨List.mem_of_getElem? h, g⟩
theorem gtb_lw {w : Cond} (h : w ∈ gtb) : w ∈ lw_tbl := (List.mem_filter.mp h).1
theorem gtb_good {c : Cond} (hc : c ∈ gtb) : GoodIn gtb (c :: gtb) := fun w h => by
  have hw : w ∈ gtb := (List.mem_cons.mp h).elim (fun e => e ▸ hc) id
  exact ⟨hw, good_of_word (List.mem_filter.mp hw).2⟩
theorem gtb_goodL {c : Cond} (hc : c ∈ gtb) : GoodIn lw_tbl (c :: gtb) := fun w h => ⟨gtb_lw (gtb_good hc w h).1, (gtb_good hc w h).2⟩
theorem gtb_good1 {w : Cond} (hw : w ∈ gtb) : w ∈ gtb ∧ ((w.onTables && w.keeps) = true ∨ ∃ ty, w = .arrayClass ty) := ⟨hw, good_of_word (List.mem_filter.mp hw).2⟩
end
section
theorem laK_0 : u_lay RK TK 0 ∈ gtb := gtb_in (i := 209) (by decide +kernel) (by decide +kernel)
theorem laK_1 : u_lay RK TK 1 ∈ gtb := gtb_in (i := 211) (by decide +kernel) (by decide +kernel)
theorem laK_2 : u_lay RK TK 2 ∈ gtb := gtb_in (i := 213) (by decide +kernel) (by decide +kernel)
theorem laK_3 : u_lay RK TK 3 ∈ gtb := gtb_in (i := 215) (by decide +kernel) (by decide +kernel)
theorem laK_4 : u_lay RK TK 4 ∈ gtb := gtb_in (i := 217) (by decide +kernel) (by decide +kernel)
theorem laK_5 : u_lay RK TK 5 ∈ gtb := gtb_in (i := 219) (by decide +kernel) (by decide +kernel)
theorem laK_6 : u_lay RK TK 6 ∈ gtb := gtb_in (i := 221) (by decide +kernel) (by decide +kernel)
theorem laK_7 : u_lay RK TK 7 ∈ gtb := gtb_in (i := 223) (by decide +kernel) (by decide +kernel)
theorem laK_8 : u_lay RK TK 8 ∈ gtb := gtb_in (i := 225) (by decide +kernel) (by decide +kernel)
theorem laK_9 : u_lay RK TK 9 ∈ gtb := gtb_in (i := 227) (by decide +kernel) (by decide +kernel)
theorem inK : ∀ w ∈ uK, w ∈ gtb := by
  intro w h
  obtain ⟨k, hk, rfl⟩ := List.mem_map.mp h
  have hk := List.mem_range.mp hk
  match k, hk with
  | 0, _ => exact laK_0
  | 1, _ => exact laK_1
  | 2, _ => exact laK_2
  | 3, _ => exact laK_3
  | 4, _ => exact laK_4
  | 5, _ => exact laK_5
  | 6, _ => exact laK_6
  | 7, _ => exact laK_7
  | 8, _ => exact laK_8
  | 9, _ => exact laK_9
theorem laL_0 : u_lay RL TL 0 ∈ gtb := gtb_in (i := 152) (by decide +kernel) (by decide +kernel)
theorem laL_1 : u_lay RL TL 1 ∈ gtb := gtb_in (i := 154) (by decide +kernel) (by decide +kernel)
theorem laL_2 : u_lay RL TL 2 ∈ gtb := gtb_in (i := 156) (by decide +kernel) (by decide +kernel)
theorem laL_3 : u_lay RL TL 3 ∈ gtb := gtb_in (i := 158) (by decide +kernel) (by decide +kernel)
theorem laL_4 : u_lay RL TL 4 ∈ gtb := gtb_in (i := 160) (by decide +kernel) (by decide +kernel)
theorem laL_5 : u_lay RL TL 5 ∈ gtb := gtb_in (i := 162) (by decide +kernel) (by decide +kernel)
theorem laL_6 : u_lay RL TL 6 ∈ gtb := gtb_in (i := 164) (by decide +kernel) (by decide +kernel)
theorem inL : ∀ w ∈ uL, w ∈ gtb := by
  intro w h
  obtain ⟨k, hk, rfl⟩ := List.mem_map.mp h
  have hk := List.mem_range.mp hk
  match k, hk with
  | 0, _ => exact laL_0
  | 1, _ => exact laL_1
  | 2, _ => exact laL_2
  | 3, _ => exact laL_3
  | 4, _ => exact laL_4
  | 5, _ => exact laL_5
  | 6, _ => exact laL_6
theorem laX_0 : u_lay RX TX 0 ∈ gtb := gtb_in (i := 191) (by decide +kernel) (by decide +kernel)
theorem laX_1 : u_lay RX TX 1 ∈ gtb := gtb_in (i := 193) (by decide +kernel) (by decide +kernel)
theorem laX_2 : u_lay RX TX 2 ∈ gtb := gtb_in (i := 195) (by decide +kernel) (by decide +kernel)
theorem inX : ∀ w ∈ uX, w ∈ gtb := by
  intro w h
  obtain ⟨k, hk, rfl⟩ := List.mem_map.mp h
  have hk := List.mem_range.mp hk
  match k, hk with
  | 0, _ => exact laX_0
  | 1, _ => exact laX_1
  | 2, _ => exact laX_2
theorem laE_0 : u_lay RE TE 0 ∈ gtb := gtb_in (i := 233) (by decide +kernel) (by decide +kernel)
theorem laE_1 : u_lay RE TE 1 ∈ gtb := gtb_in (i := 235) (by decide +kernel) (by decide +kernel)
theorem laE_2 : u_lay RE TE 2 ∈ gtb := gtb_in (i := 237) (by decide +kernel) (by decide +kernel)
theorem inE : ∀ w ∈ uE, w ∈ gtb := by
  intro w h
  obtain ⟨k, hk, rfl⟩ := List.mem_map.mp h
  have hk := List.mem_range.mp hk
  match k, hk with
  | 0, _ => exact laE_0
  | 1, _ => exact laE_1
  | 2, _ => exact laE_2
theorem laT_0 : u_lay RT TT 0 ∈ gtb := gtb_in (i := 105) (by decide +kernel) (by decide +kernel)
theorem laT_1 : u_lay RT TT 1 ∈ gtb := gtb_in (i := 107) (by decide +kernel) (by decide +kernel)
theorem laT_2 : u_lay RT TT 2 ∈ gtb := gtb_in (i := 109) (by decide +kernel) (by decide +kernel)
theorem laT_3 : u_lay RT TT 3 ∈ gtb := gtb_in (i := 111) (by decide +kernel) (by decide +kernel)
theorem laT_4 : u_lay RT TT 4 ∈ gtb := gtb_in (i := 113) (by decide +kernel) (by decide +kernel)
theorem laT_5 : u_lay RT TT 5 ∈ gtb := gtb_in (i := 115) (by decide +kernel) (by decide +kernel)
theorem laT_6 : u_lay RT TT 6 ∈ gtb := gtb_in (i := 117) (by decide +kernel) (by decide +kernel)
theorem laT_7 : u_lay RT TT 7 ∈ gtb := gtb_in (i := 119) (by decide +kernel) (by decide +kernel)
theorem laT_8 : u_lay RT TT 8 ∈ gtb := gtb_in (i := 121) (by decide +kernel) (by decide +kernel)
theorem inT : ∀ w ∈ uT, w ∈ gtb := by
  intro w h
  obtain ⟨k, hk, rfl⟩ := List.mem_map.mp h
  have hk := List.mem_range.mp hk
  match k, hk with
  | 0, _ => exact laT_0
  | 1, _ => exact laT_1
  | 2, _ => exact laT_2
  | 3, _ => exact laT_3
  | 4, _ => exact laT_4
  | 5, _ => exact laT_5
  | 6, _ => exact laT_6
  | 7, _ => exact laT_7
  | 8, _ => exact laT_8
theorem laF_0 : u_lay RF TF 0 ∈ gtb := gtb_in (i := 254) (by decide +kernel) (by decide +kernel)
theorem laF_1 : u_lay RF TF 1 ∈ gtb := gtb_in (i := 256) (by decide +kernel) (by decide +kernel)
theorem laF_2 : u_lay RF TF 2 ∈ gtb := gtb_in (i := 258) (by decide +kernel) (by decide +kernel)
theorem laF_3 : u_lay RF TF 3 ∈ gtb := gtb_in (i := 260) (by decide +kernel) (by decide +kernel)
theorem laF_4 : u_lay RF TF 4 ∈ gtb := gtb_in (i := 262) (by decide +kernel) (by decide +kernel)
theorem laF_5 : u_lay RF TF 5 ∈ gtb := gtb_in (i := 264) (by decide +kernel) (by decide +kernel)
theorem laF_6 : u_lay RF TF 6 ∈ gtb := gtb_in (i := 266) (by decide +kernel) (by decide +kernel)
theorem laF_7 : u_lay RF TF 7 ∈ gtb := gtb_in (i := 268) (by decide +kernel) (by decide +kernel)
theorem laF_8 : u_lay RF TF 8 ∈ gtb := gtb_in (i := 270) (by decide +kernel) (by decide +kernel)
theorem laF_9 : u_lay RF TF 9 ∈ gtb := gtb_in (i := 272) (by decide +kernel) (by decide +kernel)
theorem laF_10 : u_lay RF TF 10 ∈ gtb := gtb_in (i := 274) (by decide +kernel) (by decide +kernel)
theorem laF_11 : u_lay RF TF 11 ∈ gtb := gtb_in (i := 276) (by decide +kernel) (by decide +kernel)
theorem inF : ∀ w ∈ uF, w ∈ gtb := by
  intro w h
  obtain ⟨k, hk, rfl⟩ := List.mem_map.mp h
  have hk := List.mem_range.mp hk
  match k, hk with
  | 0, _ => exact laF_0
  | 1, _ => exact laF_1
  | 2, _ => exact laF_2
  | 3, _ => exact laF_3
  | 4, _ => exact laF_4
  | 5, _ => exact laF_5
  | 6, _ => exact laF_6
  | 7, _ => exact laF_7
  | 8, _ => exact laF_8
  | 9, _ => exact laF_9
  | 10, _ => exact laF_10
  | 11, _ => exact laF_11
theorem laR_0 : u_lay RR TR 0 ∈ gtb := gtb_in (i := 566) (by decide +kernel) (by decide +kernel)
theorem laR_1 : u_lay RR TR 1 ∈ gtb := gtb_in (i := 568) (by decide +kernel) (by decide +kernel)
theorem laR_2 : u_lay RR TR 2 ∈ gtb := gtb_in (i := 570) (by decide +kernel) (by decide +kernel)
theorem laR_3 : u_lay RR TR 3 ∈ gtb := gtb_in (i := 572) (by decide +kernel) (by decide +kernel)
theorem laR_4 : u_lay RR TR 4 ∈ gtb := gtb_in (i := 574) (by decide +kernel) (by decide +kernel)
theorem laR_5 : u_lay RR TR 5 ∈ gtb := gtb_in (i := 576) (by decide +kernel) (by decide +kernel)
theorem laR_6 : u_lay RR TR 6 ∈ gtb := gtb_in (i := 578) (by decide +kernel) (by decide +kernel)
theorem laR_7 : u_lay RR TR 7 ∈ gtb := gtb_in (i := 580) (by decide +kernel) (by decide +kernel)
theorem laR_8 : u_lay RR TR 8 ∈ gtb := gtb_in (i := 582) (by decide +kernel) (by decide +kernel)
theorem laR_9 : u_lay RR TR 9 ∈ gtb := gtb_in (i := 584) (by decide +kernel) (by decide +kernel)
theorem laR_10 : u_lay RR TR 10 ∈ gtb := gtb_in (i := 586) (by decide +kernel) (by decide +kernel)
theorem laR_11 : u_lay RR TR 11 ∈ gtb := gtb_in (i := 588) (by decide +kernel) (by decide +kernel)
theorem laR_12 : u_lay RR TR 12 ∈ gtb := gtb_in (i := 590) (by decide +kernel) (by decide +kernel)
theorem laR_13 : u_lay RR TR 13 ∈ gtb := gtb_in (i := 592) (by decide +kernel) (by decide +kernel)
theorem laR_14 : u_lay RR TR 14 ∈ gtb := gtb_in (i := 594) (by decide +kernel) (by decide +kernel)
theorem laR_15 : u_lay RR TR 15 ∈ gtb := gtb_in (i := 596) (by decide +kernel) (by decide +kernel)
theorem laR_16 : u_lay RR TR 16 ∈ gtb := gtb_in (i := 598) (by decide +kernel) (by decide +kernel)
theorem laR_17 : u_lay RR TR 17 ∈ gtb := gtb_in (i := 600) (by decide +kernel) (by decide +kernel)
theorem laR_18 : u_lay RR TR 18 ∈ gtb := gtb_in (i := 602) (by decide +kernel) (by decide +kernel)
theorem laR_19 : u_lay RR TR 19 ∈ gtb := gtb_in (i := 604) (by decide +kernel) (by decide +kernel)
theorem laR_20 : u_lay RR TR 20 ∈ gtb := gtb_in (i := 606) (by decide +kernel) (by decide +kernel)
theorem laR_21 : u_lay RR TR 21 ∈ gtb := gtb_in (i := 608) (by decide +kernel) (by decide +kernel)
theorem laR_22 : u_lay RR TR 22 ∈ gtb := gtb_in (i := 610) (by decide +kernel) (by decide +kernel)
theorem laR_23 : u_lay RR TR 23 ∈ gtb := gtb_in (i := 612) (by decide +kernel) (by decide +kernel)
theorem laR_24 : u_lay RR TR 24 ∈ gtb := gtb_in (i := 614) (by decide +kernel) (by decide +kernel)
theorem laR_25 : u_lay RR TR 25 ∈ gtb := gtb_in (i := 616) (by decide +kernel) (by decide +kernel)
theorem laR_26 : u_lay RR TR 26 ∈ gtb := gtb_in (i := 618) (by decide +kernel) (by decide +kernel)
theorem laR_27 : u_lay RR TR 27 ∈ gtb := gtb_in (i := 620) (by decide +kernel) (by decide +kernel)
theorem laR_28 : u_lay RR TR 28 ∈ gtb := gtb_in (i := 622) (by decide +kernel) (by decide +kernel)
theorem laR_29 : u_lay RR TR 29 ∈ gtb := gtb_in (i := 624) (by decide +kernel) (by decide +kernel)
theorem laR_30 : u_lay RR TR 30 ∈ gtb := gtb_in (i := 626) (by decide +kernel) (by decide +kernel)
theorem inR : ∀ w ∈ uR, w ∈ gtb := by
  intro w h
  obtain ⟨k, hk, rfl⟩ := List.mem_map.mp h
  have hk := List.mem_range.mp hk
  match k, hk with
  | 0, _ => exact laR_0
  | 1, _ => exact laR_1
  | 2, _ => exact laR_2
  | 3, _ => exact laR_3
  | 4, _ => exact laR_4
  | 5, _ => exact laR_5
  | 6, _ => exact laR_6
  | 7, _ => exact laR_7
  | 8, _ => exact laR_8
  | 9, _ => exact laR_9
  | 10, _ => exact laR_10
  | 11, _ => exact laR_11
  | 12, _ => exact laR_12
  | 13, _ => exact laR_13
  | 14, _ => exact laR_14
  | 15, _ => exact laR_15
  | 16, _ => exact laR_16
  | 17, _ => exact laR_17
  | 18, _ => exact laR_18
  | 19, _ => exact laR_19
  | 20, _ => exact laR_20
  | 21, _ => exact laR_21
  | 22, _ => exact laR_22
  | 23, _ => exact laR_23
  | 24, _ => exact laR_24
  | 25, _ => exact laR_25
  | 26, _ => exact laR_26
  | 27, _ => exact laR_27
  | 28, _ => exact laR_28
  | 29, _ => exact laR_29
  | 30, _ => exact laR_30
  | k + 31, h => exact absurd h (by omega)
end
section
/-! What models are made of, and the rows by which a walk follows a model. -/
abbrev SI : Type := Nat → Nat → Int32
abbrev SJ : Type := Nat → Nat → Int64
/-- a number gets a name -/
def nm {α β : Type} (e : α) (f : α → β) : β := f e
/-- a check: if it fails there is no model -/
def gd {α : Type} (c : Prop) [Decidable c] (x : Option α) : Option α := if c then x else none
/-- a call -/
def cl3 {α β : Type} (x : Option (α × SI × SJ)) (f : α → SI → SJ → Option β) : Option β := match x with
  | some (r, I, J) => f r I J
  | none => none
def cl2 {β : Type} (x : Option (SI × SJ)) (f : SI → SJ → Option β) : Option β := match x with
  | some (I, J) => f I J
  | none => none
def cl1 {α β : Type} (x : Option α) (f : α → Option β) : Option β := match x with
  | some r => f r
  | none => none
theorem nm_to {α β : Type} {e v : α} {f : α → β} {r : β} (h : v = e) (hm : nm e f = r) : f v = r := by subst h; exact hm
theorem gd_to {α : Type} {c : Prop} [Decidable c] {x : Option α} {r : α} (h : gd c x = some r) : c ∧ x = some r := by
  unfold gd at h
  split at h
  · exact ⟨by assumption, h⟩
  · cases h
theorem gd_of {α : Type} {c : Prop} [Decidable c] {x : Option α} (h : c) : gd c x = x := if_pos h
theorem cl3_to {α β : Type} {x : Option (α × SI × SJ)} {f : α → SI → SJ → Option β} {r : β} (h : cl3 x f = some r) : ∃ a I J, x = some (a, I, J) ∧ f a I J = some r := by
  match x, h with
  | some (a, I, J), h => exact ⟨a, I, J, rfl, h⟩
theorem cl2_to {β : Type} {x : Option (SI × SJ)} {f : SI → SJ → Option β} {r : β} (h : cl2 x f = some r) : ∃ I J, x = some (I, J) ∧ f I J = some r := by
  match x, h with
  | some (I, J), h => exact ⟨I, J, rfl, h⟩
theorem cl1_to {α β : Type} {x : Option α} {f : α → Option β} {r : β} (h : cl1 x f = some r) : ∃ a, x = some a ∧ f a = some r := by
  match x, h with
  | some a, h => exact ⟨a, rfl, h⟩
theorem brp {α : Type} {c : Prop} [Decidable c] {a b r : α} (h : (if c then a else b) = r) (hc : c) : a = r := by rw [if_pos hc] at h; exact h
theorem brn {α : Type} {c : Prop} [Decidable c] {a b r : α} (h : (if c then a else b) = r) (hc : ¬ c) : b = r := by rw [if_neg hc] at h; exact h
/-- vp_in, so that it can be decided -/
abbrev vin (i : Int32) (n : Nat) : Prop := ¬ (i < 0 ∨ n ≤ i.toNatClampNeg)
theorem vp_lt {i : Int32} {n : Nat} (h : vp_in i n) : i.toNatClampNeg < n := Nat.not_le.mp fun q => h (Or.inr q)
theorem P_eq {D : va_G} {cl : List vw_C} {ws ws2 : va_W} {H : Heap} (h : va_P D cl ws H) (e : ws = ws2) : va_P D cl ws2 H := e ▸ h
theorem D_eq {A : Nat → Prop} {ws ws2 : va_W} (h : va_D A ws) (e : ws = ws2) : va_D A ws2 := e ▸ h
/-- the words of nest mates: they hold on, but not by goodWord -/
def isNs : Cond → Bool
  | .fieldLinkNest .. => true
  | .methodLinkNest .. => true
  | _ => false
def nwt : List Cond := lw_tbl.filter isNs
theorem nwt_in {w : Cond} {i : Nat} (h : lw_tbl[i]? = some w) (g : isNs w = true) : w ∈ nwt := List.mem_filter.mpr ⟨List.mem_of_getElem? h, g⟩
def NWs (U : State) : Prop := ∀ w ∈ nwt, va_Nw w U
theorem NWs.warm {s U : State} (hW : s.WarmedH U.vm) (h : NWs s) : NWs U := fun w hw => by
  have hi := (List.mem_filter.mp hw).2
  cases w with
  | fieldLinkNest => exact va_Nw.warmF hW (h _ hw)
  | methodLinkNest => exact va_Nw.warmM hW (h _ hw)
  | _ => cases hi
theorem NWs.same {u U : State} (e : u.vm = U.vm) (h : NWs u) : NWs U := fun w hw => by
  have hi := (List.mem_filter.mp hw).2
  cases w with
  | fieldLinkNest => exact va_Nw.same rfl e (h _ hw)
  | methodLinkNest => exact va_Nw.same rfl e (h _ hw)
  | _ => cases hi
theorem NWs.of {args : Array Value} {s : State} (h : ∀ w ∈ lw_tbl, w.before args s = true) : NWs s := fun w hw => by
  have hi := (List.mem_filter.mp hw).2
  have hb := h w (List.mem_filter.mp hw).1
  cases w with
  | fieldLinkNest => exact va_Nw.of rfl hb
  | methodLinkNest => exact va_Nw.of rfl hb
  | _ => cases hi
theorem gV {own : String} {idx : Nat} {C : String} {y : MethodName} {c : Cond} (h1 : .methodLink own idx y ∈ gtb) (h2 : .instanceMethod y ∈ gtb) (h3 : .selects C y y ∈ gtb) (h4 : .initialized C ∈ gtb) (h5 : c ∈ gtb) : GoodIn gtb (wsV own idx C y (c :: gtb)) := fun w h => by
  rcases List.mem_append.mp h with h | h
  · simp only [List.mem_cons, List.not_mem_nil, or_false] at h
    rcases h with rfl | rfl | rfl | rfl
    · exact gtb_good1 h1
    · exact gtb_good1 h2
    · exact gtb_good1 h3
    · exact gtb_good1 h4
  · exact gtb_good h5 w h
theorem gS {own : String} {idx : Nat} {y : MethodName} {c : Cond} (h1 : .methodLink own idx y ∈ gtb) (h2 : .static y ∈ gtb) (h3 : .initialized y.cls ∈ gtb) (h5 : c ∈ gtb) : GoodIn gtb (va_wsS own idx y (c :: gtb)) := fun w h => by
  rcases List.mem_append.mp h with h | h
  · simp only [List.mem_cons, List.not_mem_nil, or_false] at h
    rcases h with rfl | rfl | rfl
    · exact gtb_good1 h1
    · exact gtb_good1 h2
    · exact gtb_good1 h3
  · exact gtb_good h5 w h
theorem pf_I : parseFieldDescriptor "I" = some .int := by decide +kernel
theorem pf_J : parseFieldDescriptor "J" = some .long := by decide +kernel
theorem pf_Z : parseFieldDescriptor "Z" = some .boolean := by decide +kernel
/-- what a method's walk is begun with -/
def Cx (p : Program) (s : State) (m : MethodId) (args : Array Value) (meth : Method) (c : Code) (cc : ByteArray) (ret : Option FieldType) (nL : Nat) (own : String) : Prop :=
  p.tables.exec = Jvm.exec ∧ c.code = cc ∧ meth.sig.returnType = ret ∧ c.maxLocals = nL ∧ s.vm.findClass own = some m.cls ∧ (∀ w ∈ gtb, w.before args s = true) ∧ meth.locks = false
/-- the walk from a place in the code, over a world -/
def WB (p : Program) (l : Launch) (e : Env) (R : Room) (s : State) (m : MethodId) (args : Array Value) (below : List Frame) (meth : Method) (c : Code) (Q : State → Prop) (D : va_G) (cl : List vw_C) (A : Nat → Prop) (nL : Nat) (ws : va_W) (pc : Nat) (lv : List (Nat × Value)) (st : List Value) : Prop :=
  ∀ (H : Heap) (locs : List Loc) (ls : Array Slot), va_P D cl ws H → va_D A ws → va_S A s.heap H locs → lv_has ls nL lv → W p l e R s m args below meth c H locs 0 0 Q (F0 m pc ls st)
/-- the same of a method that touches no cell -/
def WZ (p : Program) (l : Launch) (e : Env) (R : Room) (s : State) (m : MethodId) (args : Array Value) (below : List Frame) (meth : Method) (c : Code) (Q : State → Prop) (nL : Nat) (pc : Nat) (lv : List (Nat × Value)) (st : List Value) : Prop :=
  ∀ (H : Heap) (locs : List Loc) (ls : Array Slot), va_S (fun _ => False) s.heap H locs → lv_has ls nL lv → W p l e R s m args below meth c H locs 0 0 Q (F0 m pc ls st)
abbrev atW (D : va_G) (cl : List vw_C) (tys : List (ClassId × FieldType)) (A : Nat → Prop) (wf : SI → SJ → va_W) (u : SI × SJ) (t : State) : Prop := va_P D cl (wf u.1 u.2) t.heap ∧ va_K D cl tys t ∧ va_D A (wf u.1 u.2)
abbrev preW (D : va_G) (cl : List vw_C) (tys : List (ClassId × FieldType)) (ws : va_W) (sz : Nat) (U : State) : Prop := U.heap.size = sz ∧ va_P D cl ws U.heap ∧ va_K D cl tys U ∧ va_D (fun _ => True) ws ∧ NWs U
theorem preW_fb {D : va_G} {cl : List vw_C} {tys : List (ClassId × FieldType)} {ws : va_W} {sz : Nat} {av : List Value} : FrameBlind (va_Pc av (preW D cl tys ws sz)) := fun a U g mk q => by
  obtain ⟨q0, q1, qP, qK, qD, qN⟩ := q
  exact ⟨q0, q1, qP, va_K.moved (u := U) (U := U.calling g mk a) (Vm.Alike.refl U.vm) qK, qD, NWs.same (u := U) rfl qN⟩
theorem preW_at {s : State} {H : Heap} {D : va_G} {cl : List vw_C} {tys : List (ClassId × FieldType)} {ws : va_W} {A : Nat → Prop} {av : List Value} (hP : va_P D cl ws H) (hK : va_K D cl tys s) (hN : NWs s) (hD : va_D A ws) : ∀ U : State, U.heap = H → s.WarmedH U.vm → va_Pc av (preW D cl tys ws H.size) av.toArray U :=
  fun U hU hW => ⟨rfl, by rw [hU], by rw [hU]; exact hP, va_K.moved hW.alike hK, hD.weaken (fun _ _ _ _ => trivial), NWs.warm hW hN⟩
theorem preZ_fb {av : List Value} : FrameBlind (va_Pc av (fun _ => True)) := fun _ _ _ _ q => q
theorem preZ_at {s : State} {H : Heap} {av : List Value} : ∀ U : State, U.heap = H → s.WarmedH U.vm → va_Pc av (fun _ => True) av.toArray U := fun _ _ _ => ⟨rfl, trivial⟩
theorem keptP {D : va_G} {cl : List vw_C} {ws : va_W} {H H1 : Heap} (hP : va_P D cl ws H) (hq : ∀ q : Nat, q < H.size → H1[q]? = H[q]?) : va_P D cl ws H1 := hP.kept fun k q hk => hq q.1 ((hP k q hk).lt)
theorem inA {A : Nat → Prop} {ws : va_W} {H0 H : Heap} {locs : List Loc} (hD : va_D A ws) (hS : va_S A H0 H locs) (hA : ∀ q, H0.size ≤ q → A q) : ∀ q, va_A ws H.size q → A q := by
  intro q h
  rcases h with ⟨k, e, h⟩ | h
  · exact hD.2 k (q, e) h
  · exact hA q (Nat.le_trans hS.1 h)
section PST
variable {p : Program} {l : Launch} {e : Env} {R : Room} {s : State} {m : MethodId} {args : Array Value} {below : List Frame} {meth : Method} {c : Code} {H : Heap} {locs : List Loc} {Q : State → Prop}
variable {pc : Nat} {ls : Array Slot} {rest st0 : List Value} {a : Array Value} {A : Nat → Prop} {D : va_G} {cl : List vw_C} {tys : List (ClassId × FieldType)} {wf : SI → SJ → va_W} {I I1 : SI} {J J1 : SJ}
theorem pst_i {r1 : Int32} (hD : va_D A (wf I J)) (hS : va_S A s.heap H locs) (hA : ∀ q, s.heap.size ≤ q → A q) (hr : va_Run p l e R s m args below meth c H locs 0 0 0 0 (F0 m pc ls st0) rest (va_Qi (fun (r : Int32) (u : SI × SJ) => (r, u) = (r1, I1, J1)) (atW D cl tys (va_A (wf I J) H.size) wf) (va_A (wf I J) H.size) a) (va_A (wf I J) H.size))
    (kk : ∀ (H1 : Heap) (locs1 : List Loc), va_P D cl (wf I1 J1) H1 → va_D A (wf I1 J1) → va_S A s.heap H1 locs1 → W p l e R s m args below meth c H1 locs1 0 0 Q (F0 m (pc + 3) ls (.int r1 :: rest))) : W p l e R s m args below meth c H locs 0 0 Q (F0 m pc ls st0) :=
  va_calli hr hS (fun q _ h => inA hD hS hA q h) (inA hD hS hA) (fun r u t H1 locs1 ht hvm hw hB hz hk hS1 => by
    cases hw
    exact kk H1 locs1 (ht ▸ hB.1) (hB.2.2.weaken (fun _ q _ h => inA hD hS hA q.1 h)) hS1)
theorem pst_l {r1 : Int64} (hD : va_D A (wf I J)) (hS : va_S A s.heap H locs) (hA : ∀ q, s.heap.size ≤ q → A q) (hr : va_Run p l e R s m args below meth c H locs 0 0 0 0 (F0 m pc ls st0) rest (va_Ql (fun (r : Int64) (u : SI × SJ) => (r, u) = (r1, I1, J1)) (atW D cl tys (va_A (wf I J) H.size) wf) (va_A (wf I J) H.size) a) (va_A (wf I J) H.size))
    (kk : ∀ (H1 : Heap) (locs1 : List Loc), va_P D cl (wf I1 J1) H1 → va_D A (wf I1 J1) → va_S A s.heap H1 locs1 → W p l e R s m args below meth c H1 locs1 0 0 Q (F0 m (pc + 3) ls (.long r1 :: rest))) : W p l e R s m args below meth c H locs 0 0 Q (F0 m pc ls st0) :=
  va_calll hr hS (fun q _ h => inA hD hS hA q h) (inA hD hS hA) (fun r u t H1 locs1 ht hvm hw hB hz hk hS1 => by
    cases hw
    exact kk H1 locs1 (ht ▸ hB.1) (hB.2.2.weaken (fun _ q _ h => inA hD hS hA q.1 h)) hS1)
theorem pst_v (hD : va_D A (wf I J)) (hS : va_S A s.heap H locs) (hA : ∀ q, s.heap.size ≤ q → A q) (hr : va_Run p l e R s m args below meth c H locs 0 0 0 0 (F0 m pc ls st0) rest (va_Qv (fun (u : SI × SJ) => u = (I1, J1)) (atW D cl tys (va_A (wf I J) H.size) wf) (va_A (wf I J) H.size) a) (va_A (wf I J) H.size))
    (kk : ∀ (H1 : Heap) (locs1 : List Loc), va_P D cl (wf I1 J1) H1 → va_D A (wf I1 J1) → va_S A s.heap H1 locs1 → W p l e R s m args below meth c H1 locs1 0 0 Q (F0 m (pc + 3) ls rest)) : W p l e R s m args below meth c H locs 0 0 Q (F0 m pc ls st0) :=
  va_callv hr hS (fun q _ h => inA hD hS hA q h) (inA hD hS hA) (fun u t H1 locs1 ht hvm hw hB hz hk hS1 => by
    cases hw
    exact kk H1 locs1 (ht ▸ hB.1) (hB.2.2.weaken (fun _ q _ h => inA hD hS hA q.1 h)) hS1)
theorem pstZ_i {r1 : Int32} (hS : va_S A s.heap H locs) (hr : va_Run p l e R s m args below meth c H locs 0 0 0 0 (F0 m pc ls st0) rest (va_Qi (fun (r : Int32) (_ : Unit) => r = r1) (fun _ _ => True) (fun _ => False) a) (fun _ => False))
    (kk : ∀ (H1 : Heap) (locs1 : List Loc), (∀ q : Nat, q < H.size → H1[q]? = H[q]?) → va_S A s.heap H1 locs1 → W p l e R s m args below meth c H1 locs1 0 0 Q (F0 m (pc + 3) ls (.int r1 :: rest))) : W p l e R s m args below meth c H locs 0 0 Q (F0 m pc ls st0) :=
  va_calli hr hS (fun _ _ h => h.elim) (fun _ h => h.elim) (fun r u t H1 locs1 ht hvm hw hB hz hk hS1 => by
    cases hw
    exact kk H1 locs1 (fun q hq => hk q hq (fun h => h)) hS1)
theorem pstZ_l {r1 : Int64} (hS : va_S A s.heap H locs) (hr : va_Run p l e R s m args below meth c H locs 0 0 0 0 (F0 m pc ls st0) rest (va_Ql (fun (r : Int64) (_ : Unit) => r = r1) (fun _ _ => True) (fun _ => False) a) (fun _ => False))
    (kk : ∀ (H1 : Heap) (locs1 : List Loc), (∀ q : Nat, q < H.size → H1[q]? = H[q]?) → va_S A s.heap H1 locs1 → W p l e R s m args below meth c H1 locs1 0 0 Q (F0 m (pc + 3) ls (.long r1 :: rest))) : W p l e R s m args below meth c H locs 0 0 Q (F0 m pc ls st0) :=
  va_calll hr hS (fun _ _ h => h.elim) (fun _ h => h.elim) (fun r u t H1 locs1 ht hvm hw hB hz hk hS1 => by
    cases hw
    exact kk H1 locs1 (fun q hq => hk q hq (fun h => h)) hS1)
end PST
section GRD
variable {p : Program} {l : Launch} {e : Env} {R : Room} {s : State} {m : MethodId} {args : Array Value} {below : List Frame} {meth : Method} {c : Code} {H : Heap} {locs : List Loc} {cells slots : Nat} {Q : State → Prop}
variable {cc : ByteArray} {pc : Nat} {ls : Array Slot} {rest : List Value} {D : va_G} {cl : List vw_C} {a : Nat} {tys : List (ClassId × FieldType)} {ws : va_W}
/-- a row of an array of arrays -/
theorem va_aldG (hexec : p.tables.exec = Jvm.exec) (hb : c.code = cc) (hK : va_K D cl tys s) (hP : va_P D cl ws H) (q0 t0 : Nat) {cA : ClassId} {ty : FieldType} {n r : Nat} {f : Nat → Option Nat} (ha : ws[q0]? = some (a, .inl (cA, n, .inr (.inr (.inr (.inr f)))))) (ht : tys[t0]? = some (cA, ty)) (hty : ty.isReference = true) {i : Int32} (hin : vp_in i n) (hf : f i.toNatClampNeg = some r) (hdg : decode cc pc = .ok (.aaload, 1))
    (kk : W p l e R s m args below meth c H locs cells slots Q (F0 m (pc + 1) ls (.ref r :: rest))) : W p l e R s m args below meth c H locs cells slots Q (F0 m pc ls (.int i :: .ref a :: rest)) := by
  have hlt : i.toNatClampNeg < n := Nat.not_le.mp fun q => hin (Or.inr q)
  exact W.aald (v := va_rf (f i.toNatClampNeg)) (ty := ty) hexec hb (hP q0 _ ha) ((hK.2 t0 _ ht).1 n (fun j => va_rf (f j))) hty (fun q => by cases q) (by show ¬ (i < 0 ∨ (arrV _ _ _).slots.size ≤ _); rw [arrV_size]; exact hin) (by show (arrV _ _ _).slots[_]? = _; rw [arrV_read _ _ hlt]) rfl rfl hdg (by rw [hf]; exact kk)
end GRD
end
section
def fuel : Nat := 1000000
theorem wd_32 : Cond.selects RR yR_isStuff yR_isStuff ∈ gtb := gtb_in (i := 32) (by decide +kernel) (by decide +kernel)
theorem wd_33 : Cond.selects RR yR_countAll yR_countAll ∈ gtb := gtb_in (i := 33) (by decide +kernel) (by decide +kernel)
theorem wd_34 : Cond.selects RR yR_isThere yR_isThere ∈ gtb := gtb_in (i := 34) (by decide +kernel) (by decide +kernel)
theorem wd_35 : Cond.selects RR yR_isPossible yR_isPossible ∈ gtb := gtb_in (i := 35) (by decide +kernel) (by decide +kernel)
theorem wd_36 : Cond.selects RR yR_freeAll yR_freeAll ∈ gtb := gtb_in (i := 36) (by decide +kernel) (by decide +kernel)
theorem wd_37 : Cond.selects RR yR_corners yR_corners ∈ gtb := gtb_in (i := 37) (by decide +kernel) (by decide +kernel)
theorem wd_38 : Cond.selects RR yR_look yR_look ∈ gtb := gtb_in (i := 38) (by decide +kernel) (by decide +kernel)
theorem wd_39 : Cond.selects RR yR_solve yR_solve ∈ gtb := gtb_in (i := 39) (by decide +kernel) (by decide +kernel)
theorem wd_40 : Cond.selects RR yR_right yR_right ∈ gtb := gtb_in (i := 40) (by decide +kernel) (by decide +kernel)
theorem wd_41 : Cond.selects RR yR_factor yR_factor ∈ gtb := gtb_in (i := 41) (by decide +kernel) (by decide +kernel)
theorem wd_42 : Cond.selects RR yR_keepsAll yR_keepsAll ∈ gtb := gtb_in (i := 42) (by decide +kernel) (by decide +kernel)
theorem wd_43 : Cond.selects RR yR_over yR_over ∈ gtb := gtb_in (i := 43) (by decide +kernel) (by decide +kernel)
theorem wd_44 : Cond.selects RR yR_isBetter yR_isBetter ∈ gtb := gtb_in (i := 44) (by decide +kernel) (by decide +kernel)
theorem wd_45 : Cond.selects RR yR_costOf yR_costOf ∈ gtb := gtb_in (i := 45) (by decide +kernel) (by decide +kernel)
theorem wd_46 : Cond.selects RR yR_mixes yR_mixes ∈ gtb := gtb_in (i := 46) (by decide +kernel) (by decide +kernel)
theorem wd_47 : Cond.selects RR yR_most yR_most ∈ gtb := gtb_in (i := 47) (by decide +kernel) (by decide +kernel)
theorem wd_48 : Cond.selects RR yR_fix yR_fix ∈ gtb := gtb_in (i := 48) (by decide +kernel) (by decide +kernel)
theorem wd_49 : Cond.selects RR yR_keepMix yR_keepMix ∈ gtb := gtb_in (i := 49) (by decide +kernel) (by decide +kernel)
theorem wd_57 : Cond.initialized RR ∈ gtb := gtb_in (i := 57) (by decide +kernel) (by decide +kernel)
theorem wd_535 : Cond.fieldLink RR 67 "FeedMixesModel" "stuffs" "I" ∈ gtb := gtb_in (i := 535) (by decide +kernel) (by decide +kernel)
theorem wd_536 : Cond.fieldLink RR 7 "FeedMixesModel" "price" "[I" ∈ gtb := gtb_in (i := 536) (by decide +kernel) (by decide +kernel)
theorem wd_537 : Cond.fieldLink RR 13 "FeedMixesModel" "stock" "[I" ∈ gtb := gtb_in (i := 537) (by decide +kernel) (by decide +kernel)
theorem wd_538 : Cond.fieldLink RR 16 "FeedMixesModel" "points" "[I" ∈ gtb := gtb_in (i := 538) (by decide +kernel) (by decide +kernel)
theorem wd_539 : Cond.fieldLink RR 19 "FeedMixesModel" "leastShare" "[I" ∈ gtb := gtb_in (i := 539) (by decide +kernel) (by decide +kernel)
theorem wd_540 : Cond.fieldLink RR 22 "FeedMixesModel" "mostShare" "[I" ∈ gtb := gtb_in (i := 540) (by decide +kernel) (by decide +kernel)
theorem wd_541 : Cond.fieldLink RR 25 "FeedMixesModel" "silo" "[I" ∈ gtb := gtb_in (i := 541) (by decide +kernel) (by decide +kernel)
theorem wd_542 : Cond.fieldLink RR 28 "FeedMixesModel" "leastNeed" "[I" ∈ gtb := gtb_in (i := 542) (by decide +kernel) (by decide +kernel)
theorem wd_543 : Cond.fieldLink RR 31 "FeedMixesModel" "mostNeed" "[I" ∈ gtb := gtb_in (i := 543) (by decide +kernel) (by decide +kernel)
theorem wd_544 : Cond.fieldLink RR 161 "FeedMixesModel" "weight" "I" ∈ gtb := gtb_in (i := 544) (by decide +kernel) (by decide +kernel)
theorem wd_545 : Cond.fieldLink RR 34 "FeedMixesModel" "answer" "I" ∈ gtb := gtb_in (i := 545) (by decide +kernel) (by decide +kernel)
theorem wd_546 : Cond.fieldLink RR 164 "FeedMixesModel" "stuffsThen" "I" ∈ gtb := gtb_in (i := 546) (by decide +kernel) (by decide +kernel)
theorem wd_547 : Cond.fieldLink RR 38 "FeedMixesModel" "amountAbove" "[J" ∈ gtb := gtb_in (i := 547) (by decide +kernel) (by decide +kernel)
theorem wd_548 : Cond.fieldLink RR 42 "FeedMixesModel" "amountBelow" "[J" ∈ gtb := gtb_in (i := 548) (by decide +kernel) (by decide +kernel)
theorem wd_549 : Cond.fieldLink RR 155 "FeedMixesModel" "costAbove" "J" ∈ gtb := gtb_in (i := 549) (by decide +kernel) (by decide +kernel)
theorem wd_550 : Cond.fieldLink RR 158 "FeedMixesModel" "costBelow" "J" ∈ gtb := gtb_in (i := 550) (by decide +kernel) (by decide +kernel)
theorem wd_551 : Cond.fieldLink RR 148 "FeedMixesModel" "justMet" "I" ∈ gtb := gtb_in (i := 551) (by decide +kernel) (by decide +kernel)
theorem wd_552 : Cond.fieldLink RR 170 "FeedMixesModel" "clashing" "I" ∈ gtb := gtb_in (i := 552) (by decide +kernel) (by decide +kernel)
theorem wd_553 : Cond.fieldLink RR 180 "FeedMixesModel" "on" "I" ∈ gtb := gtb_in (i := 553) (by decide +kernel) (by decide +kernel)
theorem wd_554 : Cond.fieldLink RR 183 "FeedMixesModel" "overLine" "I" ∈ gtb := gtb_in (i := 554) (by decide +kernel) (by decide +kernel)
theorem wd_555 : Cond.fieldLink RR 45 "FeedMixesModel" "counts" "[Z" ∈ gtb := gtb_in (i := 555) (by decide +kernel) (by decide +kernel)
theorem wd_556 : Cond.fieldLink RR 49 "FeedMixesModel" "fixed" "[I" ∈ gtb := gtb_in (i := 556) (by decide +kernel) (by decide +kernel)
theorem wd_557 : Cond.fieldLink RR 52 "FeedMixesModel" "free" "[I" ∈ gtb := gtb_in (i := 557) (by decide +kernel) (by decide +kernel)
theorem wd_558 : Cond.fieldLink RR 98 "FeedMixesModel" "freeCount" "I" ∈ gtb := gtb_in (i := 558) (by decide +kernel) (by decide +kernel)
theorem wd_559 : Cond.fieldLink RR 55 "FeedMixesModel" "rows" "[J" ∈ gtb := gtb_in (i := 559) (by decide +kernel) (by decide +kernel)
theorem wd_560 : Cond.fieldLink RR 58 "FeedMixesModel" "x" "[J" ∈ gtb := gtb_in (i := 560) (by decide +kernel) (by decide +kernel)
theorem wd_561 : Cond.fieldLink RR 87 "FeedMixesModel" "below" "J" ∈ gtb := gtb_in (i := 561) (by decide +kernel) (by decide +kernel)
theorem wd_562 : Cond.fieldLink RR 61 "FeedMixesModel" "chosen" "[I" ∈ gtb := gtb_in (i := 562) (by decide +kernel) (by decide +kernel)
theorem wd_563 : Cond.fieldLink RR 116 "FeedMixesModel" "found" "Z" ∈ gtb := gtb_in (i := 563) (by decide +kernel) (by decide +kernel)
theorem wd_564 : Cond.fieldLink RR 64 "FeedMixesModel" "best" "[J" ∈ gtb := gtb_in (i := 564) (by decide +kernel) (by decide +kernel)
theorem wd_565 : Cond.fieldLink RR 107 "FeedMixesModel" "bestBelow" "J" ∈ gtb := gtb_in (i := 565) (by decide +kernel) (by decide +kernel)
theorem wd_634 : Cond.methodLink RR 70 yR_in ∈ gtb := gtb_in (i := 634) (by decide +kernel) (by decide +kernel)
theorem wd_635 : Cond.static yR_in ∈ gtb := gtb_in (i := 635) (by decide +kernel) (by decide +kernel)
set_option maxRecDepth 100000 in
theorem wd_636 : Cond.code yR_in bR_in 3 (some .boolean) ∈ gtb := gtb_in (i := 636) rfl (by decide +kernel)
theorem wd_641 : Cond.methodLink RR 74 yR_isStuff ∈ gtb := gtb_in (i := 641) (by decide +kernel) (by decide +kernel)
theorem wd_643 : Cond.instanceMethod yR_isStuff ∈ gtb := gtb_in (i := 643) (by decide +kernel) (by decide +kernel)
set_option maxRecDepth 100000 in
theorem wd_644 : Cond.code yR_isStuff bR_isStuff 2 (some .boolean) ∈ gtb := gtb_in (i := 644) rfl (by decide +kernel)
theorem wd_669 : Cond.methodLink RR 137 yR_countAll ∈ gtb := gtb_in (i := 669) (by decide +kernel) (by decide +kernel)
theorem wd_671 : Cond.instanceMethod yR_countAll ∈ gtb := gtb_in (i := 671) (by decide +kernel) (by decide +kernel)
set_option maxRecDepth 100000 in
theorem wd_672 : Cond.code yR_countAll bR_countAll 2 none ∈ gtb := gtb_in (i := 672) rfl (by decide +kernel)
theorem wd_673 : Cond.methodLink RR 127 yR_isThere ∈ gtb := gtb_in (i := 673) (by decide +kernel) (by decide +kernel)
theorem wd_675 : Cond.instanceMethod yR_isThere ∈ gtb := gtb_in (i := 675) (by decide +kernel) (by decide +kernel)
set_option maxRecDepth 100000 in
theorem wd_676 : Cond.code yR_isThere bR_isThere 2 (some .boolean) ∈ gtb := gtb_in (i := 676) rfl (by decide +kernel)
theorem wd_677 : Cond.methodLink RR 167 yR_isPossible ∈ gtb := gtb_in (i := 677) (by decide +kernel) (by decide +kernel)
theorem wd_679 : Cond.instanceMethod yR_isPossible ∈ gtb := gtb_in (i := 679) (by decide +kernel) (by decide +kernel)
set_option maxRecDepth 100000 in
theorem wd_680 : Cond.code yR_isPossible bR_isPossible 2 (some .boolean) ∈ gtb := gtb_in (i := 680) rfl (by decide +kernel)
theorem wd_681 : Cond.methodLink RR 130 yR_freeAll ∈ gtb := gtb_in (i := 681) (by decide +kernel) (by decide +kernel)
theorem wd_683 : Cond.instanceMethod yR_freeAll ∈ gtb := gtb_in (i := 683) (by decide +kernel) (by decide +kernel)
set_option maxRecDepth 100000 in
theorem wd_684 : Cond.code yR_freeAll bR_freeAll 2 none ∈ gtb := gtb_in (i := 684) rfl (by decide +kernel)
theorem wd_685 : Cond.methodLink RR 133 yR_corners ∈ gtb := gtb_in (i := 685) (by decide +kernel) (by decide +kernel)
theorem wd_687 : Cond.instanceMethod yR_corners ∈ gtb := gtb_in (i := 687) (by decide +kernel) (by decide +kernel)
set_option maxRecDepth 100000 in
theorem wd_688 : Cond.code yR_corners bR_corners 9 none ∈ gtb := gtb_in (i := 688) rfl (by decide +kernel)
theorem wd_689 : Cond.methodLink RR 124 yR_look ∈ gtb := gtb_in (i := 689) (by decide +kernel) (by decide +kernel)
theorem wd_691 : Cond.instanceMethod yR_look ∈ gtb := gtb_in (i := 691) (by decide +kernel) (by decide +kernel)
set_option maxRecDepth 100000 in
theorem wd_692 : Cond.code yR_look bR_look 3 (some .boolean) ∈ gtb := gtb_in (i := 692) rfl (by decide +kernel)
theorem wd_693 : Cond.methodLink RR 110 yR_solve ∈ gtb := gtb_in (i := 693) (by decide +kernel) (by decide +kernel)
theorem wd_695 : Cond.instanceMethod yR_solve ∈ gtb := gtb_in (i := 695) (by decide +kernel) (by decide +kernel)
set_option maxRecDepth 100000 in
theorem wd_696 : Cond.code yR_solve bR_solve 13 (some .boolean) ∈ gtb := gtb_in (i := 696) rfl (by decide +kernel)
theorem wd_697 : Cond.methodLink RR 80 yR_right ∈ gtb := gtb_in (i := 697) (by decide +kernel) (by decide +kernel)
theorem wd_699 : Cond.instanceMethod yR_right ∈ gtb := gtb_in (i := 699) (by decide +kernel) (by decide +kernel)
set_option maxRecDepth 100000 in
theorem wd_700 : Cond.code yR_right bR_right 3 (some .long) ∈ gtb := gtb_in (i := 700) rfl (by decide +kernel)
theorem wd_701 : Cond.methodLink RR 84 yR_factor ∈ gtb := gtb_in (i := 701) (by decide +kernel) (by decide +kernel)
theorem wd_703 : Cond.instanceMethod yR_factor ∈ gtb := gtb_in (i := 703) (by decide +kernel) (by decide +kernel)
set_option maxRecDepth 100000 in
theorem wd_704 : Cond.code yR_factor bR_factor 3 (some .long) ∈ gtb := gtb_in (i := 704) rfl (by decide +kernel)
theorem wd_705 : Cond.constantLong RR 78 (10) ∈ gtb := gtb_in (i := 705) (by decide +kernel) (by decide +kernel)
theorem wd_706 : Cond.constantLong RR 101 (-1) ∈ gtb := gtb_in (i := 706) (by decide +kernel) (by decide +kernel)
theorem wd_707 : Cond.methodLink RR 113 yR_keepsAll ∈ gtb := gtb_in (i := 707) (by decide +kernel) (by decide +kernel)
theorem wd_709 : Cond.instanceMethod yR_keepsAll ∈ gtb := gtb_in (i := 709) (by decide +kernel) (by decide +kernel)
set_option maxRecDepth 100000 in
theorem wd_710 : Cond.code yR_keepsAll bR_keepsAll 6 (some .boolean) ∈ gtb := gtb_in (i := 710) rfl (by decide +kernel)
theorem wd_711 : Cond.methodLink RR 91 yR_over ∈ gtb := gtb_in (i := 711) (by decide +kernel) (by decide +kernel)
theorem wd_713 : Cond.instanceMethod yR_over ∈ gtb := gtb_in (i := 713) (by decide +kernel) (by decide +kernel)
set_option maxRecDepth 100000 in
theorem wd_714 : Cond.code yR_over bR_over 9 (some .long) ∈ gtb := gtb_in (i := 714) rfl (by decide +kernel)
theorem wd_715 : Cond.methodLink RR 95 yR_isLeast ∈ gtb := gtb_in (i := 715) (by decide +kernel) (by decide +kernel)
theorem wd_716 : Cond.static yR_isLeast ∈ gtb := gtb_in (i := 716) (by decide +kernel) (by decide +kernel)
set_option maxRecDepth 100000 in
theorem wd_717 : Cond.code yR_isLeast bR_isLeast 1 (some .boolean) ∈ gtb := gtb_in (i := 717) rfl (by decide +kernel)
theorem wd_718 : Cond.methodLink RR 120 yR_isBetter ∈ gtb := gtb_in (i := 718) (by decide +kernel) (by decide +kernel)
theorem wd_720 : Cond.instanceMethod yR_isBetter ∈ gtb := gtb_in (i := 720) (by decide +kernel) (by decide +kernel)
set_option maxRecDepth 100000 in
theorem wd_721 : Cond.code yR_isBetter bR_isBetter 6 (some .boolean) ∈ gtb := gtb_in (i := 721) rfl (by decide +kernel)
theorem wd_722 : Cond.methodLink RR 103 yR_costOf ∈ gtb := gtb_in (i := 722) (by decide +kernel) (by decide +kernel)
theorem wd_724 : Cond.instanceMethod yR_costOf ∈ gtb := gtb_in (i := 724) (by decide +kernel) (by decide +kernel)
set_option maxRecDepth 100000 in
theorem wd_725 : Cond.code yR_costOf bR_costOf 5 (some .long) ∈ gtb := gtb_in (i := 725) rfl (by decide +kernel)
theorem wd_726 : Cond.methodLink RR 173 yR_mixes ∈ gtb := gtb_in (i := 726) (by decide +kernel) (by decide +kernel)
theorem wd_728 : Cond.instanceMethod yR_mixes ∈ gtb := gtb_in (i := 728) (by decide +kernel) (by decide +kernel)
set_option maxRecDepth 100000 in
theorem wd_729 : Cond.code yR_mixes bR_mixes 6 (some .boolean) ∈ gtb := gtb_in (i := 729) rfl (by decide +kernel)
theorem wd_730 : Cond.methodLink RR 140 yR_most ∈ gtb := gtb_in (i := 730) (by decide +kernel) (by decide +kernel)
theorem wd_732 : Cond.instanceMethod yR_most ∈ gtb := gtb_in (i := 732) (by decide +kernel) (by decide +kernel)
set_option maxRecDepth 100000 in
theorem wd_733 : Cond.code yR_most bR_most 2 (some .int) ∈ gtb := gtb_in (i := 733) rfl (by decide +kernel)
theorem wd_734 : Cond.methodLink RR 144 yR_fix ∈ gtb := gtb_in (i := 734) (by decide +kernel) (by decide +kernel)
theorem wd_736 : Cond.instanceMethod yR_fix ∈ gtb := gtb_in (i := 736) (by decide +kernel) (by decide +kernel)
set_option maxRecDepth 100000 in
theorem wd_737 : Cond.code yR_fix bR_fix 3 none ∈ gtb := gtb_in (i := 737) rfl (by decide +kernel)
theorem wd_738 : Cond.methodLink RR 176 yR_keepMix ∈ gtb := gtb_in (i := 738) (by decide +kernel) (by decide +kernel)
theorem wd_740 : Cond.instanceMethod yR_keepMix ∈ gtb := gtb_in (i := 740) (by decide +kernel) (by decide +kernel)
set_option maxRecDepth 100000 in
theorem wd_741 : Cond.code yR_keepMix bR_keepMix 7 none ∈ gtb := gtb_in (i := 741) rfl (by decide +kernel)
theorem wd_742 : Cond.methodLink RR 151 yR_divisor ∈ gtb := gtb_in (i := 742) (by decide +kernel) (by decide +kernel)
theorem wd_743 : Cond.static yR_divisor ∈ gtb := gtb_in (i := 743) (by decide +kernel) (by decide +kernel)
set_option maxRecDepth 100000 in
theorem wd_744 : Cond.code yR_divisor bR_divisor 10 (some .long) ∈ gtb := gtb_in (i := 744) rfl (by decide +kernel)
end
section
abbrev tysR (cI cJ cG : ClassId) : List (ClassId × FieldType) := [(cI, .int), (cJ, .long), (cG, .boolean)]
def wsR (ad : Nat → Nat) (cI cJ cG : ClassId) (I : Nat → Nat → Int32) (J : Nat → Nat → Int64) : va_W :=
  [(ad 0, .inr (6, [.int (I 0 0), .ref (ad 1), .ref (ad 2), .ref (ad 3), .ref (ad 4), .ref (ad 5), .ref (ad 6), .ref (ad 7), .ref (ad 8), .int (I 0 9), .int (I 0 10), .int (I 0 11), .ref (ad 9), .ref (ad 10), .long (J 0 14), .long (J 0 15), .int (I 0 16), .int (I 0 17), .int (I 0 18), .int (I 0 19), .ref (ad 11), .ref (ad 12), .ref (ad 13), .int (I 0 23), .ref (ad 14), .ref (ad 15), .long (J 0 26), .ref (ad 16), .int (I 0 28), .ref (ad 17), .long (J 0 30)])),
   (ad 1, .inl (cI, 4, .inl (I 1))),
   (ad 2, .inl (cI, 4, .inl (I 2))),
   (ad 3, .inl (cI, 12, .inl (I 3))),
   (ad 4, .inl (cI, 4, .inl (I 4))),
   (ad 5, .inl (cI, 4, .inl (I 5))),
   (ad 6, .inl (cI, 4, .inl (I 6))),
   (ad 7, .inl (cI, 3, .inl (I 7))),
   (ad 8, .inl (cI, 3, .inl (I 8))),
   (ad 9, .inl (cJ, 4, .inr (.inl (J 9)))),
   (ad 10, .inl (cJ, 4, .inr (.inl (J 10)))),
   (ad 11, .inl (cG, 22, .inl (I 11))),
   (ad 12, .inl (cI, 4, .inl (I 12))),
   (ad 13, .inl (cI, 4, .inl (I 13))),
   (ad 14, .inl (cJ, 20, .inr (.inl (J 14)))),
   (ad 15, .inl (cJ, 4, .inr (.inl (J 15)))),
   (ad 16, .inl (cI, 3, .inl (I 16))),
   (ad 17, .inl (cJ, 4, .inr (.inl (J 17))))]
theorem famR_am {ad : Nat → Nat} {cI cJ cG : ClassId} {I : Nat → Nat → Int32} {J : Nat → Nat → Int64} {a : Nat} (h : a ∈ [15, 17]) : (wsR ad cI cJ cG I J)[a]? = some (ad a, .inl (cJ, 4, .inr (.inl (J a)))) := by
  simp only [List.mem_cons, List.not_mem_nil, or_false] at h
  rcases h with rfl | rfl <;> rfl
theorem dR_init_0 : decode bR_init 0 = .ok (.aload_n 0, 1) := by decide +kernel
theorem dR_init_1 : decode bR_init 1 = .ok (.invokespecial 1, 3) := by decide +kernel
theorem dR_init_4 : decode bR_init 4 = .ok (.aload_n 0, 1) := by decide +kernel
theorem dR_init_5 : decode bR_init 5 = .ok (.iconst 4, 1) := by decide +kernel
theorem dR_init_6 : decode bR_init 6 = .ok (.newarray .int, 2) := by decide +kernel
theorem dR_init_8 : decode bR_init 8 = .ok (.putfield 7, 3) := by decide +kernel
theorem dR_init_11 : decode bR_init 11 = .ok (.aload_n 0, 1) := by decide +kernel
theorem dR_init_12 : decode bR_init 12 = .ok (.iconst 4, 1) := by decide +kernel
theorem dR_init_13 : decode bR_init 13 = .ok (.newarray .int, 2) := by decide +kernel
theorem dR_init_15 : decode bR_init 15 = .ok (.putfield 13, 3) := by decide +kernel
theorem dR_init_18 : decode bR_init 18 = .ok (.aload_n 0, 1) := by decide +kernel
theorem dR_init_19 : decode bR_init 19 = .ok (.bipush 12, 2) := by decide +kernel
theorem dR_init_21 : decode bR_init 21 = .ok (.newarray .int, 2) := by decide +kernel
theorem dR_init_23 : decode bR_init 23 = .ok (.putfield 16, 3) := by decide +kernel
theorem dR_init_26 : decode bR_init 26 = .ok (.aload_n 0, 1) := by decide +kernel
theorem dR_init_27 : decode bR_init 27 = .ok (.iconst 4, 1) := by decide +kernel
theorem dR_init_28 : decode bR_init 28 = .ok (.newarray .int, 2) := by decide +kernel
theorem dR_init_30 : decode bR_init 30 = .ok (.putfield 19, 3) := by decide +kernel
theorem dR_init_33 : decode bR_init 33 = .ok (.aload_n 0, 1) := by decide +kernel
theorem dR_init_34 : decode bR_init 34 = .ok (.iconst 4, 1) := by decide +kernel
theorem dR_init_35 : decode bR_init 35 = .ok (.newarray .int, 2) := by decide +kernel
theorem dR_init_37 : decode bR_init 37 = .ok (.putfield 22, 3) := by decide +kernel
theorem dR_init_40 : decode bR_init 40 = .ok (.aload_n 0, 1) := by decide +kernel
theorem dR_init_41 : decode bR_init 41 = .ok (.iconst 4, 1) := by decide +kernel
theorem dR_init_42 : decode bR_init 42 = .ok (.newarray .int, 2) := by decide +kernel
theorem dR_init_44 : decode bR_init 44 = .ok (.putfield 25, 3) := by decide +kernel
theorem dR_init_47 : decode bR_init 47 = .ok (.aload_n 0, 1) := by decide +kernel
theorem dR_init_48 : decode bR_init 48 = .ok (.iconst 3, 1) := by decide +kernel
theorem dR_init_49 : decode bR_init 49 = .ok (.newarray .int, 2) := by decide +kernel
theorem dR_init_51 : decode bR_init 51 = .ok (.putfield 28, 3) := by decide +kernel
theorem dR_init_54 : decode bR_init 54 = .ok (.aload_n 0, 1) := by decide +kernel
theorem dR_init_55 : decode bR_init 55 = .ok (.iconst 3, 1) := by decide +kernel
theorem dR_init_56 : decode bR_init 56 = .ok (.newarray .int, 2) := by decide +kernel
theorem dR_init_58 : decode bR_init 58 = .ok (.putfield 31, 3) := by decide +kernel
theorem dR_init_61 : decode bR_init 61 = .ok (.aload_n 0, 1) := by decide +kernel
theorem dR_init_62 : decode bR_init 62 = .ok (.iconst (-1), 1) := by decide +kernel
theorem dR_init_63 : decode bR_init 63 = .ok (.putfield 34, 3) := by decide +kernel
theorem dR_init_66 : decode bR_init 66 = .ok (.aload_n 0, 1) := by decide +kernel
theorem dR_init_67 : decode bR_init 67 = .ok (.iconst 4, 1) := by decide +kernel
theorem dR_init_68 : decode bR_init 68 = .ok (.newarray .long, 2) := by decide +kernel
theorem dR_init_70 : decode bR_init 70 = .ok (.putfield 38, 3) := by decide +kernel
theorem dR_init_73 : decode bR_init 73 = .ok (.aload_n 0, 1) := by decide +kernel
theorem dR_init_74 : decode bR_init 74 = .ok (.iconst 4, 1) := by decide +kernel
theorem dR_init_75 : decode bR_init 75 = .ok (.newarray .long, 2) := by decide +kernel
theorem dR_init_77 : decode bR_init 77 = .ok (.putfield 42, 3) := by decide +kernel
theorem dR_init_80 : decode bR_init 80 = .ok (.aload_n 0, 1) := by decide +kernel
theorem dR_init_81 : decode bR_init 81 = .ok (.bipush 22, 2) := by decide +kernel
theorem dR_init_83 : decode bR_init 83 = .ok (.newarray .boolean, 2) := by decide +kernel
theorem dR_init_85 : decode bR_init 85 = .ok (.putfield 45, 3) := by decide +kernel
theorem dR_init_88 : decode bR_init 88 = .ok (.aload_n 0, 1) := by decide +kernel
theorem dR_init_89 : decode bR_init 89 = .ok (.iconst 4, 1) := by decide +kernel
theorem dR_init_90 : decode bR_init 90 = .ok (.newarray .int, 2) := by decide +kernel
theorem dR_init_92 : decode bR_init 92 = .ok (.putfield 49, 3) := by decide +kernel
theorem dR_init_95 : decode bR_init 95 = .ok (.aload_n 0, 1) := by decide +kernel
theorem dR_init_96 : decode bR_init 96 = .ok (.iconst 4, 1) := by decide +kernel
theorem dR_init_97 : decode bR_init 97 = .ok (.newarray .int, 2) := by decide +kernel
theorem dR_init_99 : decode bR_init 99 = .ok (.putfield 52, 3) := by decide +kernel
theorem dR_init_102 : decode bR_init 102 = .ok (.aload_n 0, 1) := by decide +kernel
theorem dR_init_103 : decode bR_init 103 = .ok (.bipush 20, 2) := by decide +kernel
theorem dR_init_105 : decode bR_init 105 = .ok (.newarray .long, 2) := by decide +kernel
theorem dR_init_107 : decode bR_init 107 = .ok (.putfield 55, 3) := by decide +kernel
theorem dR_init_110 : decode bR_init 110 = .ok (.aload_n 0, 1) := by decide +kernel
theorem dR_init_111 : decode bR_init 111 = .ok (.iconst 4, 1) := by decide +kernel
theorem dR_init_112 : decode bR_init 112 = .ok (.newarray .long, 2) := by decide +kernel
theorem dR_init_114 : decode bR_init 114 = .ok (.putfield 58, 3) := by decide +kernel
theorem dR_init_117 : decode bR_init 117 = .ok (.aload_n 0, 1) := by decide +kernel
theorem dR_init_118 : decode bR_init 118 = .ok (.iconst 3, 1) := by decide +kernel
theorem dR_init_119 : decode bR_init 119 = .ok (.newarray .int, 2) := by decide +kernel
theorem dR_init_121 : decode bR_init 121 = .ok (.putfield 61, 3) := by decide +kernel
theorem dR_init_124 : decode bR_init 124 = .ok (.aload_n 0, 1) := by decide +kernel
theorem dR_init_125 : decode bR_init 125 = .ok (.iconst 4, 1) := by decide +kernel
theorem dR_init_126 : decode bR_init 126 = .ok (.newarray .long, 2) := by decide +kernel
theorem dR_init_128 : decode bR_init 128 = .ok (.putfield 64, 3) := by decide +kernel
theorem dR_init_131 : decode bR_init 131 = .ok (.iconst 0, 1) := by decide +kernel
theorem dR_init_132 : decode bR_init 132 = .ok (.istore_n 1, 1) := by decide +kernel
theorem dR_init_133 : decode bR_init 133 = .ok (.iload_n 1, 1) := by decide +kernel
theorem dR_init_134 : decode bR_init 134 = .ok (.iconst 3, 1) := by decide +kernel
theorem dR_init_135 : decode bR_init 135 = .ok (.if_icmp .ge 17, 3) := by decide +kernel
theorem dR_init_138 : decode bR_init 138 = .ok (.aload_n 0, 1) := by decide +kernel
theorem dR_init_139 : decode bR_init 139 = .ok (.getfield 31, 3) := by decide +kernel
theorem dR_init_142 : decode bR_init 142 = .ok (.iload_n 1, 1) := by decide +kernel
theorem dR_init_143 : decode bR_init 143 = .ok (.bipush 40, 2) := by decide +kernel
theorem dR_init_145 : decode bR_init 145 = .ok (.iastore, 1) := by decide +kernel
theorem dR_init_146 : decode bR_init 146 = .ok (.iinc 1 1, 3) := by decide +kernel
theorem dR_init_149 : decode bR_init 149 = .ok (.goto (-16), 3) := by decide +kernel
theorem dR_init_152 : decode bR_init 152 = .ok (.return_, 1) := by decide +kernel
theorem dR_in_0 : decode bR_in 0 = .ok (.iload_n 0, 1) := by decide +kernel
theorem dR_in_1 : decode bR_in 1 = .ok (.iload_n 1, 1) := by decide +kernel
theorem dR_in_2 : decode bR_in 2 = .ok (.if_icmp .lt 12, 3) := by decide +kernel
theorem dR_in_5 : decode bR_in 5 = .ok (.iload_n 0, 1) := by decide +kernel
theorem dR_in_6 : decode bR_in 6 = .ok (.iload_n 2, 1) := by decide +kernel
theorem dR_in_7 : decode bR_in 7 = .ok (.if_icmp .gt 7, 3) := by decide +kernel
theorem dR_in_10 : decode bR_in 10 = .ok (.iconst 1, 1) := by decide +kernel
theorem dR_in_11 : decode bR_in 11 = .ok (.goto 4, 3) := by decide +kernel
theorem dR_in_14 : decode bR_in 14 = .ok (.iconst 0, 1) := by decide +kernel
theorem dR_in_15 : decode bR_in 15 = .ok (.ireturn, 1) := by decide +kernel
theorem dR_isStuff_0 : decode bR_isStuff 0 = .ok (.iload_n 1, 1) := by decide +kernel
theorem dR_isStuff_1 : decode bR_isStuff 1 = .ok (.ifCond .lt 15, 3) := by decide +kernel
theorem dR_isStuff_4 : decode bR_isStuff 4 = .ok (.iload_n 1, 1) := by decide +kernel
theorem dR_isStuff_5 : decode bR_isStuff 5 = .ok (.aload_n 0, 1) := by decide +kernel
theorem dR_isStuff_6 : decode bR_isStuff 6 = .ok (.getfield 67, 3) := by decide +kernel
theorem dR_isStuff_9 : decode bR_isStuff 9 = .ok (.if_icmp .ge 7, 3) := by decide +kernel
theorem dR_isStuff_12 : decode bR_isStuff 12 = .ok (.iconst 1, 1) := by decide +kernel
theorem dR_isStuff_13 : decode bR_isStuff 13 = .ok (.goto 4, 3) := by decide +kernel
theorem dR_isStuff_16 : decode bR_isStuff 16 = .ok (.iconst 0, 1) := by decide +kernel
theorem dR_isStuff_17 : decode bR_isStuff 17 = .ok (.ireturn, 1) := by decide +kernel
theorem dR_stuff_0 : decode bR_stuff 0 = .ok (.aload_n 0, 1) := by decide +kernel
theorem dR_stuff_1 : decode bR_stuff 1 = .ok (.getfield 67, 3) := by decide +kernel
theorem dR_stuff_4 : decode bR_stuff 4 = .ok (.iconst 4, 1) := by decide +kernel
theorem dR_stuff_5 : decode bR_stuff 5 = .ok (.if_icmp .eq 24, 3) := by decide +kernel
theorem dR_stuff_8 : decode bR_stuff 8 = .ok (.iload_n 1, 1) := by decide +kernel
theorem dR_stuff_9 : decode bR_stuff 9 = .ok (.iconst 0, 1) := by decide +kernel
theorem dR_stuff_10 : decode bR_stuff 10 = .ok (.sipush 1000, 3) := by decide +kernel
theorem dR_stuff_13 : decode bR_stuff 13 = .ok (.invokestatic 70, 3) := by decide +kernel
theorem dR_stuff_16 : decode bR_stuff 16 = .ok (.ifCond .eq 13, 3) := by decide +kernel
theorem dR_stuff_19 : decode bR_stuff 19 = .ok (.iload_n 2, 1) := by decide +kernel
theorem dR_stuff_20 : decode bR_stuff 20 = .ok (.iconst 0, 1) := by decide +kernel
theorem dR_stuff_21 : decode bR_stuff 21 = .ok (.bipush 40, 2) := by decide +kernel
theorem dR_stuff_23 : decode bR_stuff 23 = .ok (.invokestatic 70, 3) := by decide +kernel
theorem dR_stuff_26 : decode bR_stuff 26 = .ok (.ifCond .ne 5, 3) := by decide +kernel
theorem dR_stuff_29 : decode bR_stuff 29 = .ok (.iconst (-1), 1) := by decide +kernel
theorem dR_stuff_30 : decode bR_stuff 30 = .ok (.ireturn, 1) := by decide +kernel
theorem dR_stuff_31 : decode bR_stuff 31 = .ok (.aload_n 0, 1) := by decide +kernel
theorem dR_stuff_32 : decode bR_stuff 32 = .ok (.getfield 7, 3) := by decide +kernel
theorem dR_stuff_35 : decode bR_stuff 35 = .ok (.aload_n 0, 1) := by decide +kernel
theorem dR_stuff_36 : decode bR_stuff 36 = .ok (.getfield 67, 3) := by decide +kernel
theorem dR_stuff_39 : decode bR_stuff 39 = .ok (.iload_n 1, 1) := by decide +kernel
theorem dR_stuff_40 : decode bR_stuff 40 = .ok (.iastore, 1) := by decide +kernel
theorem dR_stuff_41 : decode bR_stuff 41 = .ok (.aload_n 0, 1) := by decide +kernel
theorem dR_stuff_42 : decode bR_stuff 42 = .ok (.getfield 13, 3) := by decide +kernel
theorem dR_stuff_45 : decode bR_stuff 45 = .ok (.aload_n 0, 1) := by decide +kernel
theorem dR_stuff_46 : decode bR_stuff 46 = .ok (.getfield 67, 3) := by decide +kernel
theorem dR_stuff_49 : decode bR_stuff 49 = .ok (.iload_n 2, 1) := by decide +kernel
theorem dR_stuff_50 : decode bR_stuff 50 = .ok (.iastore, 1) := by decide +kernel
theorem dR_stuff_51 : decode bR_stuff 51 = .ok (.aload_n 0, 1) := by decide +kernel
theorem dR_stuff_52 : decode bR_stuff 52 = .ok (.getfield 22, 3) := by decide +kernel
theorem dR_stuff_55 : decode bR_stuff 55 = .ok (.aload_n 0, 1) := by decide +kernel
theorem dR_stuff_56 : decode bR_stuff 56 = .ok (.getfield 67, 3) := by decide +kernel
theorem dR_stuff_59 : decode bR_stuff 59 = .ok (.bipush 10, 2) := by decide +kernel
theorem dR_stuff_61 : decode bR_stuff 61 = .ok (.iastore, 1) := by decide +kernel
theorem dR_stuff_62 : decode bR_stuff 62 = .ok (.aload_n 0, 1) := by decide +kernel
theorem dR_stuff_63 : decode bR_stuff 63 = .ok (.dup, 1) := by decide +kernel
theorem dR_stuff_64 : decode bR_stuff 64 = .ok (.getfield 67, 3) := by decide +kernel
theorem dR_stuff_67 : decode bR_stuff 67 = .ok (.iconst 1, 1) := by decide +kernel
theorem dR_stuff_68 : decode bR_stuff 68 = .ok (.iadd, 1) := by decide +kernel
theorem dR_stuff_69 : decode bR_stuff 69 = .ok (.putfield 67, 3) := by decide +kernel
theorem dR_stuff_72 : decode bR_stuff 72 = .ok (.aload_n 0, 1) := by decide +kernel
theorem dR_stuff_73 : decode bR_stuff 73 = .ok (.getfield 67, 3) := by decide +kernel
theorem dR_stuff_76 : decode bR_stuff 76 = .ok (.iconst 1, 1) := by decide +kernel
theorem dR_stuff_77 : decode bR_stuff 77 = .ok (.isub, 1) := by decide +kernel
theorem dR_stuff_78 : decode bR_stuff 78 = .ok (.ireturn, 1) := by decide +kernel
theorem dR_price_0 : decode bR_price 0 = .ok (.aload_n 0, 1) := by decide +kernel
theorem dR_price_1 : decode bR_price 1 = .ok (.iload_n 1, 1) := by decide +kernel
theorem dR_price_2 : decode bR_price 2 = .ok (.invokevirtual 74, 3) := by decide +kernel
theorem dR_price_5 : decode bR_price 5 = .ok (.ifCond .eq 14, 3) := by decide +kernel
theorem dR_price_8 : decode bR_price 8 = .ok (.iload_n 2, 1) := by decide +kernel
theorem dR_price_9 : decode bR_price 9 = .ok (.iconst 0, 1) := by decide +kernel
theorem dR_price_10 : decode bR_price 10 = .ok (.sipush 1000, 3) := by decide +kernel
theorem dR_price_13 : decode bR_price 13 = .ok (.invokestatic 70, 3) := by decide +kernel
theorem dR_price_16 : decode bR_price 16 = .ok (.ifCond .ne 5, 3) := by decide +kernel
theorem dR_price_19 : decode bR_price 19 = .ok (.iconst (-1), 1) := by decide +kernel
theorem dR_price_20 : decode bR_price 20 = .ok (.ireturn, 1) := by decide +kernel
theorem dR_price_21 : decode bR_price 21 = .ok (.aload_n 0, 1) := by decide +kernel
theorem dR_price_22 : decode bR_price 22 = .ok (.getfield 7, 3) := by decide +kernel
theorem dR_price_25 : decode bR_price 25 = .ok (.iload_n 1, 1) := by decide +kernel
theorem dR_price_26 : decode bR_price 26 = .ok (.iaload, 1) := by decide +kernel
theorem dR_price_27 : decode bR_price 27 = .ok (.istore_n 3, 1) := by decide +kernel
theorem dR_price_28 : decode bR_price 28 = .ok (.aload_n 0, 1) := by decide +kernel
theorem dR_price_29 : decode bR_price 29 = .ok (.getfield 7, 3) := by decide +kernel
theorem dR_price_32 : decode bR_price 32 = .ok (.iload_n 1, 1) := by decide +kernel
theorem dR_price_33 : decode bR_price 33 = .ok (.iload_n 2, 1) := by decide +kernel
theorem dR_price_34 : decode bR_price 34 = .ok (.iastore, 1) := by decide +kernel
theorem dR_price_35 : decode bR_price 35 = .ok (.iload_n 3, 1) := by decide +kernel
theorem dR_price_36 : decode bR_price 36 = .ok (.ireturn, 1) := by decide +kernel
theorem dR_stock_0 : decode bR_stock 0 = .ok (.aload_n 0, 1) := by decide +kernel
theorem dR_stock_1 : decode bR_stock 1 = .ok (.iload_n 1, 1) := by decide +kernel
theorem dR_stock_2 : decode bR_stock 2 = .ok (.invokevirtual 74, 3) := by decide +kernel
theorem dR_stock_5 : decode bR_stock 5 = .ok (.ifCond .eq 13, 3) := by decide +kernel
theorem dR_stock_8 : decode bR_stock 8 = .ok (.iload_n 2, 1) := by decide +kernel
theorem dR_stock_9 : decode bR_stock 9 = .ok (.iconst 0, 1) := by decide +kernel
theorem dR_stock_10 : decode bR_stock 10 = .ok (.bipush 40, 2) := by decide +kernel
theorem dR_stock_12 : decode bR_stock 12 = .ok (.invokestatic 70, 3) := by decide +kernel
theorem dR_stock_15 : decode bR_stock 15 = .ok (.ifCond .ne 5, 3) := by decide +kernel
theorem dR_stock_18 : decode bR_stock 18 = .ok (.iconst (-1), 1) := by decide +kernel
theorem dR_stock_19 : decode bR_stock 19 = .ok (.ireturn, 1) := by decide +kernel
theorem dR_stock_20 : decode bR_stock 20 = .ok (.aload_n 0, 1) := by decide +kernel
theorem dR_stock_21 : decode bR_stock 21 = .ok (.getfield 13, 3) := by decide +kernel
theorem dR_stock_24 : decode bR_stock 24 = .ok (.iload_n 1, 1) := by decide +kernel
theorem dR_stock_25 : decode bR_stock 25 = .ok (.iaload, 1) := by decide +kernel
theorem dR_stock_26 : decode bR_stock 26 = .ok (.istore_n 3, 1) := by decide +kernel
theorem dR_stock_27 : decode bR_stock 27 = .ok (.aload_n 0, 1) := by decide +kernel
theorem dR_stock_28 : decode bR_stock 28 = .ok (.getfield 13, 3) := by decide +kernel
theorem dR_stock_31 : decode bR_stock 31 = .ok (.iload_n 1, 1) := by decide +kernel
theorem dR_stock_32 : decode bR_stock 32 = .ok (.iload_n 2, 1) := by decide +kernel
theorem dR_stock_33 : decode bR_stock 33 = .ok (.iastore, 1) := by decide +kernel
theorem dR_stock_34 : decode bR_stock 34 = .ok (.iload_n 3, 1) := by decide +kernel
theorem dR_stock_35 : decode bR_stock 35 = .ok (.ireturn, 1) := by decide +kernel
theorem dR_holds_0 : decode bR_holds 0 = .ok (.aload_n 0, 1) := by decide +kernel
theorem dR_holds_1 : decode bR_holds 1 = .ok (.iload_n 1, 1) := by decide +kernel
theorem dR_holds_2 : decode bR_holds 2 = .ok (.invokevirtual 74, 3) := by decide +kernel
theorem dR_holds_5 : decode bR_holds 5 = .ok (.ifCond .eq 22, 3) := by decide +kernel
theorem dR_holds_8 : decode bR_holds 8 = .ok (.iload_n 2, 1) := by decide +kernel
theorem dR_holds_9 : decode bR_holds 9 = .ok (.iconst 0, 1) := by decide +kernel
theorem dR_holds_10 : decode bR_holds 10 = .ok (.iconst 2, 1) := by decide +kernel
theorem dR_holds_11 : decode bR_holds 11 = .ok (.invokestatic 70, 3) := by decide +kernel
theorem dR_holds_14 : decode bR_holds 14 = .ok (.ifCond .eq 13, 3) := by decide +kernel
theorem dR_holds_17 : decode bR_holds 17 = .ok (.iload_n 3, 1) := by decide +kernel
theorem dR_holds_18 : decode bR_holds 18 = .ok (.iconst 0, 1) := by decide +kernel
theorem dR_holds_19 : decode bR_holds 19 = .ok (.bipush 40, 2) := by decide +kernel
theorem dR_holds_21 : decode bR_holds 21 = .ok (.invokestatic 70, 3) := by decide +kernel
theorem dR_holds_24 : decode bR_holds 24 = .ok (.ifCond .ne 5, 3) := by decide +kernel
theorem dR_holds_27 : decode bR_holds 27 = .ok (.iconst 0, 1) := by decide +kernel
theorem dR_holds_28 : decode bR_holds 28 = .ok (.ireturn, 1) := by decide +kernel
theorem dR_holds_29 : decode bR_holds 29 = .ok (.aload_n 0, 1) := by decide +kernel
theorem dR_holds_30 : decode bR_holds 30 = .ok (.getfield 16, 3) := by decide +kernel
theorem dR_holds_33 : decode bR_holds 33 = .ok (.iconst 4, 1) := by decide +kernel
theorem dR_holds_34 : decode bR_holds 34 = .ok (.iload_n 2, 1) := by decide +kernel
theorem dR_holds_35 : decode bR_holds 35 = .ok (.imul, 1) := by decide +kernel
theorem dR_holds_36 : decode bR_holds 36 = .ok (.iload_n 1, 1) := by decide +kernel
theorem dR_holds_37 : decode bR_holds 37 = .ok (.iadd, 1) := by decide +kernel
theorem dR_holds_38 : decode bR_holds 38 = .ok (.iload_n 3, 1) := by decide +kernel
theorem dR_holds_39 : decode bR_holds 39 = .ok (.iastore, 1) := by decide +kernel
theorem dR_holds_40 : decode bR_holds 40 = .ok (.iconst 1, 1) := by decide +kernel
theorem dR_holds_41 : decode bR_holds 41 = .ok (.ireturn, 1) := by decide +kernel
theorem dR_need_0 : decode bR_need 0 = .ok (.iload_n 1, 1) := by decide +kernel
theorem dR_need_1 : decode bR_need 1 = .ok (.iconst 0, 1) := by decide +kernel
theorem dR_need_2 : decode bR_need 2 = .ok (.iconst 2, 1) := by decide +kernel
theorem dR_need_3 : decode bR_need 3 = .ok (.invokestatic 70, 3) := by decide +kernel
theorem dR_need_6 : decode bR_need 6 = .ok (.ifCond .eq 23, 3) := by decide +kernel
theorem dR_need_9 : decode bR_need 9 = .ok (.iload_n 2, 1) := by decide +kernel
theorem dR_need_10 : decode bR_need 10 = .ok (.iconst 0, 1) := by decide +kernel
theorem dR_need_11 : decode bR_need 11 = .ok (.bipush 40, 2) := by decide +kernel
theorem dR_need_13 : decode bR_need 13 = .ok (.invokestatic 70, 3) := by decide +kernel
theorem dR_need_16 : decode bR_need 16 = .ok (.ifCond .eq 13, 3) := by decide +kernel
theorem dR_need_19 : decode bR_need 19 = .ok (.iload_n 3, 1) := by decide +kernel
theorem dR_need_20 : decode bR_need 20 = .ok (.iload_n 2, 1) := by decide +kernel
theorem dR_need_21 : decode bR_need 21 = .ok (.bipush 40, 2) := by decide +kernel
theorem dR_need_23 : decode bR_need 23 = .ok (.invokestatic 70, 3) := by decide +kernel
theorem dR_need_26 : decode bR_need 26 = .ok (.ifCond .ne 5, 3) := by decide +kernel
theorem dR_need_29 : decode bR_need 29 = .ok (.iconst 0, 1) := by decide +kernel
theorem dR_need_30 : decode bR_need 30 = .ok (.ireturn, 1) := by decide +kernel
theorem dR_need_31 : decode bR_need 31 = .ok (.aload_n 0, 1) := by decide +kernel
theorem dR_need_32 : decode bR_need 32 = .ok (.getfield 28, 3) := by decide +kernel
theorem dR_need_35 : decode bR_need 35 = .ok (.iload_n 1, 1) := by decide +kernel
theorem dR_need_36 : decode bR_need 36 = .ok (.iload_n 2, 1) := by decide +kernel
theorem dR_need_37 : decode bR_need 37 = .ok (.iastore, 1) := by decide +kernel
theorem dR_need_38 : decode bR_need 38 = .ok (.aload_n 0, 1) := by decide +kernel
theorem dR_need_39 : decode bR_need 39 = .ok (.getfield 31, 3) := by decide +kernel
theorem dR_need_42 : decode bR_need 42 = .ok (.iload_n 1, 1) := by decide +kernel
theorem dR_need_43 : decode bR_need 43 = .ok (.iload_n 3, 1) := by decide +kernel
theorem dR_need_44 : decode bR_need 44 = .ok (.iastore, 1) := by decide +kernel
theorem dR_need_45 : decode bR_need 45 = .ok (.iconst 1, 1) := by decide +kernel
theorem dR_need_46 : decode bR_need 46 = .ok (.ireturn, 1) := by decide +kernel
theorem dR_shares_0 : decode bR_shares 0 = .ok (.aload_n 0, 1) := by decide +kernel
theorem dR_shares_1 : decode bR_shares 1 = .ok (.iload_n 1, 1) := by decide +kernel
theorem dR_shares_2 : decode bR_shares 2 = .ok (.invokevirtual 74, 3) := by decide +kernel
theorem dR_shares_5 : decode bR_shares 5 = .ok (.ifCond .eq 23, 3) := by decide +kernel
theorem dR_shares_8 : decode bR_shares 8 = .ok (.iload_n 2, 1) := by decide +kernel
theorem dR_shares_9 : decode bR_shares 9 = .ok (.iconst 0, 1) := by decide +kernel
theorem dR_shares_10 : decode bR_shares 10 = .ok (.bipush 10, 2) := by decide +kernel
theorem dR_shares_12 : decode bR_shares 12 = .ok (.invokestatic 70, 3) := by decide +kernel
theorem dR_shares_15 : decode bR_shares 15 = .ok (.ifCond .eq 13, 3) := by decide +kernel
theorem dR_shares_18 : decode bR_shares 18 = .ok (.iload_n 3, 1) := by decide +kernel
theorem dR_shares_19 : decode bR_shares 19 = .ok (.iload_n 2, 1) := by decide +kernel
theorem dR_shares_20 : decode bR_shares 20 = .ok (.bipush 10, 2) := by decide +kernel
theorem dR_shares_22 : decode bR_shares 22 = .ok (.invokestatic 70, 3) := by decide +kernel
theorem dR_shares_25 : decode bR_shares 25 = .ok (.ifCond .ne 5, 3) := by decide +kernel
theorem dR_shares_28 : decode bR_shares 28 = .ok (.iconst 0, 1) := by decide +kernel
theorem dR_shares_29 : decode bR_shares 29 = .ok (.ireturn, 1) := by decide +kernel
theorem dR_shares_30 : decode bR_shares 30 = .ok (.aload_n 0, 1) := by decide +kernel
theorem dR_shares_31 : decode bR_shares 31 = .ok (.getfield 19, 3) := by decide +kernel
theorem dR_shares_34 : decode bR_shares 34 = .ok (.iload_n 1, 1) := by decide +kernel
theorem dR_shares_35 : decode bR_shares 35 = .ok (.iload_n 2, 1) := by decide +kernel
theorem dR_shares_36 : decode bR_shares 36 = .ok (.iastore, 1) := by decide +kernel
theorem dR_shares_37 : decode bR_shares 37 = .ok (.aload_n 0, 1) := by decide +kernel
theorem dR_shares_38 : decode bR_shares 38 = .ok (.getfield 22, 3) := by decide +kernel
theorem dR_shares_41 : decode bR_shares 41 = .ok (.iload_n 1, 1) := by decide +kernel
theorem dR_shares_42 : decode bR_shares 42 = .ok (.iload_n 3, 1) := by decide +kernel
theorem dR_shares_43 : decode bR_shares 43 = .ok (.iastore, 1) := by decide +kernel
theorem dR_shares_44 : decode bR_shares 44 = .ok (.iconst 1, 1) := by decide +kernel
theorem dR_shares_45 : decode bR_shares 45 = .ok (.ireturn, 1) := by decide +kernel
theorem dR_silo_0 : decode bR_silo 0 = .ok (.aload_n 0, 1) := by decide +kernel
theorem dR_silo_1 : decode bR_silo 1 = .ok (.iload_n 1, 1) := by decide +kernel
theorem dR_silo_2 : decode bR_silo 2 = .ok (.invokevirtual 74, 3) := by decide +kernel
theorem dR_silo_5 : decode bR_silo 5 = .ok (.ifCond .eq 17, 3) := by decide +kernel
theorem dR_silo_8 : decode bR_silo 8 = .ok (.iload_n 2, 1) := by decide +kernel
theorem dR_silo_9 : decode bR_silo 9 = .ok (.ifCond .eq 15, 3) := by decide +kernel
theorem dR_silo_12 : decode bR_silo 12 = .ok (.iload_n 2, 1) := by decide +kernel
theorem dR_silo_13 : decode bR_silo 13 = .ok (.iconst 5, 1) := by decide +kernel
theorem dR_silo_14 : decode bR_silo 14 = .ok (.bipush 40, 2) := by decide +kernel
theorem dR_silo_16 : decode bR_silo 16 = .ok (.invokestatic 70, 3) := by decide +kernel
theorem dR_silo_19 : decode bR_silo 19 = .ok (.ifCond .ne 5, 3) := by decide +kernel
theorem dR_silo_22 : decode bR_silo 22 = .ok (.iconst 0, 1) := by decide +kernel
theorem dR_silo_23 : decode bR_silo 23 = .ok (.ireturn, 1) := by decide +kernel
theorem dR_silo_24 : decode bR_silo 24 = .ok (.aload_n 0, 1) := by decide +kernel
theorem dR_silo_25 : decode bR_silo 25 = .ok (.getfield 25, 3) := by decide +kernel
theorem dR_silo_28 : decode bR_silo 28 = .ok (.iload_n 1, 1) := by decide +kernel
theorem dR_silo_29 : decode bR_silo 29 = .ok (.iload_n 2, 1) := by decide +kernel
theorem dR_silo_30 : decode bR_silo 30 = .ok (.iastore, 1) := by decide +kernel
theorem dR_silo_31 : decode bR_silo 31 = .ok (.iconst 1, 1) := by decide +kernel
theorem dR_silo_32 : decode bR_silo 32 = .ok (.ireturn, 1) := by decide +kernel
theorem dR_isThere_0 : decode bR_isThere 0 = .ok (.iload_n 1, 1) := by decide +kernel
theorem dR_isThere_1 : decode bR_isThere 1 = .ok (.bipush 12, 2) := by decide +kernel
theorem dR_isThere_3 : decode bR_isThere 3 = .ok (.if_icmp .lt 9, 3) := by decide +kernel
theorem dR_isThere_6 : decode bR_isThere 6 = .ok (.iload_n 1, 1) := by decide +kernel
theorem dR_isThere_7 : decode bR_isThere 7 = .ok (.bipush 18, 2) := by decide +kernel
theorem dR_isThere_9 : decode bR_isThere 9 = .ok (.if_icmp .lt 36, 3) := by decide +kernel
theorem dR_isThere_12 : decode bR_isThere 12 = .ok (.iload_n 1, 1) := by decide +kernel
theorem dR_isThere_13 : decode bR_isThere 13 = .ok (.iconst 4, 1) := by decide +kernel
theorem dR_isThere_14 : decode bR_isThere 14 = .ok (.irem, 1) := by decide +kernel
theorem dR_isThere_15 : decode bR_isThere 15 = .ok (.aload_n 0, 1) := by decide +kernel
theorem dR_isThere_16 : decode bR_isThere 16 = .ok (.getfield 67, 3) := by decide +kernel
theorem dR_isThere_19 : decode bR_isThere 19 = .ok (.if_icmp .ge 9, 3) := by decide +kernel
theorem dR_isThere_22 : decode bR_isThere 22 = .ok (.iload_n 1, 1) := by decide +kernel
theorem dR_isThere_23 : decode bR_isThere 23 = .ok (.bipush 12, 2) := by decide +kernel
theorem dR_isThere_25 : decode bR_isThere 25 = .ok (.if_icmp .lt 20, 3) := by decide +kernel
theorem dR_isThere_28 : decode bR_isThere 28 = .ok (.iload_n 1, 1) := by decide +kernel
theorem dR_isThere_29 : decode bR_isThere 29 = .ok (.bipush 18, 2) := by decide +kernel
theorem dR_isThere_31 : decode bR_isThere 31 = .ok (.if_icmp .lt 18, 3) := by decide +kernel
theorem dR_isThere_34 : decode bR_isThere 34 = .ok (.iload_n 1, 1) := by decide +kernel
theorem dR_isThere_35 : decode bR_isThere 35 = .ok (.bipush 18, 2) := by decide +kernel
theorem dR_isThere_37 : decode bR_isThere 37 = .ok (.isub, 1) := by decide +kernel
theorem dR_isThere_38 : decode bR_isThere 38 = .ok (.aload_n 0, 1) := by decide +kernel
theorem dR_isThere_39 : decode bR_isThere 39 = .ok (.getfield 67, 3) := by decide +kernel
theorem dR_isThere_42 : decode bR_isThere 42 = .ok (.if_icmp .ge 7, 3) := by decide +kernel
theorem dR_isThere_45 : decode bR_isThere 45 = .ok (.iconst 1, 1) := by decide +kernel
theorem dR_isThere_46 : decode bR_isThere 46 = .ok (.goto 4, 3) := by decide +kernel
theorem dR_isThere_49 : decode bR_isThere 49 = .ok (.iconst 0, 1) := by decide +kernel
theorem dR_isThere_50 : decode bR_isThere 50 = .ok (.ireturn, 1) := by decide +kernel
theorem dR_factor_0 : decode bR_factor 0 = .ok (.iload_n 1, 1) := by decide +kernel
theorem dR_factor_1 : decode bR_factor 1 = .ok (.bipush 18, 2) := by decide +kernel
theorem dR_factor_3 : decode bR_factor 3 = .ok (.if_icmp .lt 17, 3) := by decide +kernel
theorem dR_factor_6 : decode bR_factor 6 = .ok (.iload_n 1, 1) := by decide +kernel
theorem dR_factor_7 : decode bR_factor 7 = .ok (.bipush 18, 2) := by decide +kernel
theorem dR_factor_9 : decode bR_factor 9 = .ok (.isub, 1) := by decide +kernel
theorem dR_factor_10 : decode bR_factor 10 = .ok (.iload_n 2, 1) := by decide +kernel
theorem dR_factor_11 : decode bR_factor 11 = .ok (.if_icmp .ne 7, 3) := by decide +kernel
theorem dR_factor_14 : decode bR_factor 14 = .ok (.lconst 1, 1) := by decide +kernel
theorem dR_factor_15 : decode bR_factor 15 = .ok (.goto 4, 3) := by decide +kernel
theorem dR_factor_18 : decode bR_factor 18 = .ok (.lconst 0, 1) := by decide +kernel
theorem dR_factor_19 : decode bR_factor 19 = .ok (.lreturn, 1) := by decide +kernel
theorem dR_factor_20 : decode bR_factor 20 = .ok (.iload_n 1, 1) := by decide +kernel
theorem dR_factor_21 : decode bR_factor 21 = .ok (.bipush 12, 2) := by decide +kernel
theorem dR_factor_23 : decode bR_factor 23 = .ok (.if_icmp .lt 20, 3) := by decide +kernel
theorem dR_factor_26 : decode bR_factor 26 = .ok (.aload_n 0, 1) := by decide +kernel
theorem dR_factor_27 : decode bR_factor 27 = .ok (.getfield 16, 3) := by decide +kernel
theorem dR_factor_30 : decode bR_factor 30 = .ok (.iconst 4, 1) := by decide +kernel
theorem dR_factor_31 : decode bR_factor 31 = .ok (.iload_n 1, 1) := by decide +kernel
theorem dR_factor_32 : decode bR_factor 32 = .ok (.bipush 12, 2) := by decide +kernel
theorem dR_factor_34 : decode bR_factor 34 = .ok (.isub, 1) := by decide +kernel
theorem dR_factor_35 : decode bR_factor 35 = .ok (.iconst 3, 1) := by decide +kernel
theorem dR_factor_36 : decode bR_factor 36 = .ok (.irem, 1) := by decide +kernel
theorem dR_factor_37 : decode bR_factor 37 = .ok (.imul, 1) := by decide +kernel
theorem dR_factor_38 : decode bR_factor 38 = .ok (.iload_n 2, 1) := by decide +kernel
theorem dR_factor_39 : decode bR_factor 39 = .ok (.iadd, 1) := by decide +kernel
theorem dR_factor_40 : decode bR_factor 40 = .ok (.iaload, 1) := by decide +kernel
theorem dR_factor_41 : decode bR_factor 41 = .ok (.i2l, 1) := by decide +kernel
theorem dR_factor_42 : decode bR_factor 42 = .ok (.lreturn, 1) := by decide +kernel
theorem dR_factor_43 : decode bR_factor 43 = .ok (.iload_n 1, 1) := by decide +kernel
theorem dR_factor_44 : decode bR_factor 44 = .ok (.iconst 4, 1) := by decide +kernel
theorem dR_factor_45 : decode bR_factor 45 = .ok (.irem, 1) := by decide +kernel
theorem dR_factor_46 : decode bR_factor 46 = .ok (.iload_n 2, 1) := by decide +kernel
theorem dR_factor_47 : decode bR_factor 47 = .ok (.if_icmp .eq 7, 3) := by decide +kernel
theorem dR_factor_50 : decode bR_factor 50 = .ok (.lconst 0, 1) := by decide +kernel
theorem dR_factor_51 : decode bR_factor 51 = .ok (.goto 15, 3) := by decide +kernel
theorem dR_factor_54 : decode bR_factor 54 = .ok (.iload_n 1, 1) := by decide +kernel
theorem dR_factor_55 : decode bR_factor 55 = .ok (.iconst 4, 1) := by decide +kernel
theorem dR_factor_56 : decode bR_factor 56 = .ok (.if_icmp .ge 7, 3) := by decide +kernel
theorem dR_factor_59 : decode bR_factor 59 = .ok (.lconst 1, 1) := by decide +kernel
theorem dR_factor_60 : decode bR_factor 60 = .ok (.goto 6, 3) := by decide +kernel
theorem dR_factor_63 : decode bR_factor 63 = .ok (.ldc2_w 78, 3) := by decide +kernel
theorem dR_factor_66 : decode bR_factor 66 = .ok (.lreturn, 1) := by decide +kernel
theorem dR_right_0 : decode bR_right 0 = .ok (.iload_n 1, 1) := by decide +kernel
theorem dR_right_1 : decode bR_right 1 = .ok (.bipush 18, 2) := by decide +kernel
theorem dR_right_3 : decode bR_right 3 = .ok (.if_icmp .lt 5, 3) := by decide +kernel
theorem dR_right_6 : decode bR_right 6 = .ok (.lconst 0, 1) := by decide +kernel
theorem dR_right_7 : decode bR_right 7 = .ok (.lreturn, 1) := by decide +kernel
theorem dR_right_8 : decode bR_right 8 = .ok (.iload_n 1, 1) := by decide +kernel
theorem dR_right_9 : decode bR_right 9 = .ok (.bipush 12, 2) := by decide +kernel
theorem dR_right_11 : decode bR_right 11 = .ok (.if_icmp .lt 35, 3) := by decide +kernel
theorem dR_right_14 : decode bR_right 14 = .ok (.iload_n 2, 1) := by decide +kernel
theorem dR_right_15 : decode bR_right 15 = .ok (.i2l, 1) := by decide +kernel
theorem dR_right_16 : decode bR_right 16 = .ok (.iload_n 1, 1) := by decide +kernel
theorem dR_right_17 : decode bR_right 17 = .ok (.bipush 15, 2) := by decide +kernel
theorem dR_right_19 : decode bR_right 19 = .ok (.if_icmp .ge 15, 3) := by decide +kernel
theorem dR_right_22 : decode bR_right 22 = .ok (.aload_n 0, 1) := by decide +kernel
theorem dR_right_23 : decode bR_right 23 = .ok (.getfield 28, 3) := by decide +kernel
theorem dR_right_26 : decode bR_right 26 = .ok (.iload_n 1, 1) := by decide +kernel
theorem dR_right_27 : decode bR_right 27 = .ok (.bipush 12, 2) := by decide +kernel
theorem dR_right_29 : decode bR_right 29 = .ok (.isub, 1) := by decide +kernel
theorem dR_right_30 : decode bR_right 30 = .ok (.iaload, 1) := by decide +kernel
theorem dR_right_31 : decode bR_right 31 = .ok (.goto 12, 3) := by decide +kernel
theorem dR_right_34 : decode bR_right 34 = .ok (.aload_n 0, 1) := by decide +kernel
theorem dR_right_35 : decode bR_right 35 = .ok (.getfield 31, 3) := by decide +kernel
theorem dR_right_38 : decode bR_right 38 = .ok (.iload_n 1, 1) := by decide +kernel
theorem dR_right_39 : decode bR_right 39 = .ok (.bipush 15, 2) := by decide +kernel
theorem dR_right_41 : decode bR_right 41 = .ok (.isub, 1) := by decide +kernel
theorem dR_right_42 : decode bR_right 42 = .ok (.iaload, 1) := by decide +kernel
theorem dR_right_43 : decode bR_right 43 = .ok (.i2l, 1) := by decide +kernel
theorem dR_right_44 : decode bR_right 44 = .ok (.lmul, 1) := by decide +kernel
theorem dR_right_45 : decode bR_right 45 = .ok (.lreturn, 1) := by decide +kernel
theorem dR_right_46 : decode bR_right 46 = .ok (.iload_n 1, 1) := by decide +kernel
theorem dR_right_47 : decode bR_right 47 = .ok (.iconst 4, 1) := by decide +kernel
theorem dR_right_48 : decode bR_right 48 = .ok (.if_icmp .ge 13, 3) := by decide +kernel
theorem dR_right_51 : decode bR_right 51 = .ok (.aload_n 0, 1) := by decide +kernel
theorem dR_right_52 : decode bR_right 52 = .ok (.getfield 13, 3) := by decide +kernel
theorem dR_right_55 : decode bR_right 55 = .ok (.iload_n 1, 1) := by decide +kernel
theorem dR_right_56 : decode bR_right 56 = .ok (.iaload, 1) := by decide +kernel
theorem dR_right_57 : decode bR_right 57 = .ok (.i2l, 1) := by decide +kernel
theorem dR_right_58 : decode bR_right 58 = .ok (.goto 33, 3) := by decide +kernel
theorem dR_right_61 : decode bR_right 61 = .ok (.iload_n 2, 1) := by decide +kernel
theorem dR_right_62 : decode bR_right 62 = .ok (.i2l, 1) := by decide +kernel
theorem dR_right_63 : decode bR_right 63 = .ok (.iload_n 1, 1) := by decide +kernel
theorem dR_right_64 : decode bR_right 64 = .ok (.bipush 8, 2) := by decide +kernel
theorem dR_right_66 : decode bR_right 66 = .ok (.if_icmp .ge 14, 3) := by decide +kernel
theorem dR_right_69 : decode bR_right 69 = .ok (.aload_n 0, 1) := by decide +kernel
theorem dR_right_70 : decode bR_right 70 = .ok (.getfield 19, 3) := by decide +kernel
theorem dR_right_73 : decode bR_right 73 = .ok (.iload_n 1, 1) := by decide +kernel
theorem dR_right_74 : decode bR_right 74 = .ok (.iconst 4, 1) := by decide +kernel
theorem dR_right_75 : decode bR_right 75 = .ok (.isub, 1) := by decide +kernel
theorem dR_right_76 : decode bR_right 76 = .ok (.iaload, 1) := by decide +kernel
theorem dR_right_77 : decode bR_right 77 = .ok (.goto 12, 3) := by decide +kernel
theorem dR_right_80 : decode bR_right 80 = .ok (.aload_n 0, 1) := by decide +kernel
theorem dR_right_81 : decode bR_right 81 = .ok (.getfield 22, 3) := by decide +kernel
theorem dR_right_84 : decode bR_right 84 = .ok (.iload_n 1, 1) := by decide +kernel
theorem dR_right_85 : decode bR_right 85 = .ok (.bipush 8, 2) := by decide +kernel
theorem dR_right_87 : decode bR_right 87 = .ok (.isub, 1) := by decide +kernel
theorem dR_right_88 : decode bR_right 88 = .ok (.iaload, 1) := by decide +kernel
theorem dR_right_89 : decode bR_right 89 = .ok (.i2l, 1) := by decide +kernel
theorem dR_right_90 : decode bR_right 90 = .ok (.lmul, 1) := by decide +kernel
theorem dR_right_91 : decode bR_right 91 = .ok (.lreturn, 1) := by decide +kernel
theorem dR_isLeast_0 : decode bR_isLeast 0 = .ok (.iload_n 0, 1) := by decide +kernel
theorem dR_isLeast_1 : decode bR_isLeast 1 = .ok (.bipush 18, 2) := by decide +kernel
theorem dR_isLeast_3 : decode bR_isLeast 3 = .ok (.if_icmp .ge 26, 3) := by decide +kernel
theorem dR_isLeast_6 : decode bR_isLeast 6 = .ok (.iload_n 0, 1) := by decide +kernel
theorem dR_isLeast_7 : decode bR_isLeast 7 = .ok (.bipush 12, 2) := by decide +kernel
theorem dR_isLeast_9 : decode bR_isLeast 9 = .ok (.if_icmp .lt 9, 3) := by decide +kernel
theorem dR_isLeast_12 : decode bR_isLeast 12 = .ok (.iload_n 0, 1) := by decide +kernel
theorem dR_isLeast_13 : decode bR_isLeast 13 = .ok (.bipush 15, 2) := by decide +kernel
theorem dR_isLeast_15 : decode bR_isLeast 15 = .ok (.if_icmp .lt 14, 3) := by decide +kernel
theorem dR_isLeast_18 : decode bR_isLeast 18 = .ok (.iload_n 0, 1) := by decide +kernel
theorem dR_isLeast_19 : decode bR_isLeast 19 = .ok (.iconst 4, 1) := by decide +kernel
theorem dR_isLeast_20 : decode bR_isLeast 20 = .ok (.if_icmp .lt 13, 3) := by decide +kernel
theorem dR_isLeast_23 : decode bR_isLeast 23 = .ok (.iload_n 0, 1) := by decide +kernel
theorem dR_isLeast_24 : decode bR_isLeast 24 = .ok (.bipush 8, 2) := by decide +kernel
theorem dR_isLeast_26 : decode bR_isLeast 26 = .ok (.if_icmp .ge 7, 3) := by decide +kernel
theorem dR_isLeast_29 : decode bR_isLeast 29 = .ok (.iconst 1, 1) := by decide +kernel
theorem dR_isLeast_30 : decode bR_isLeast 30 = .ok (.goto 4, 3) := by decide +kernel
theorem dR_isLeast_33 : decode bR_isLeast 33 = .ok (.iconst 0, 1) := by decide +kernel
theorem dR_isLeast_34 : decode bR_isLeast 34 = .ok (.ireturn, 1) := by decide +kernel
theorem dR_over_0 : decode bR_over 0 = .ok (.aload_n 0, 1) := by decide +kernel
theorem dR_over_1 : decode bR_over 1 = .ok (.iload_n 1, 1) := by decide +kernel
theorem dR_over_2 : decode bR_over 2 = .ok (.iload_n 2, 1) := by decide +kernel
theorem dR_over_3 : decode bR_over 3 = .ok (.invokevirtual 80, 3) := by decide +kernel
theorem dR_over_6 : decode bR_over 6 = .ok (.lneg, 1) := by decide +kernel
theorem dR_over_7 : decode bR_over 7 = .ok (.lload 4, 2) := by decide +kernel
theorem dR_over_9 : decode bR_over 9 = .ok (.lmul, 1) := by decide +kernel
theorem dR_over_10 : decode bR_over 10 = .ok (.lstore 6, 2) := by decide +kernel
theorem dR_over_12 : decode bR_over 12 = .ok (.iconst 0, 1) := by decide +kernel
theorem dR_over_13 : decode bR_over 13 = .ok (.istore 8, 2) := by decide +kernel
theorem dR_over_15 : decode bR_over 15 = .ok (.iload 8, 2) := by decide +kernel
theorem dR_over_17 : decode bR_over 17 = .ok (.aload_n 0, 1) := by decide +kernel
theorem dR_over_18 : decode bR_over 18 = .ok (.getfield 67, 3) := by decide +kernel
theorem dR_over_21 : decode bR_over 21 = .ok (.if_icmp .ge 26, 3) := by decide +kernel
theorem dR_over_24 : decode bR_over 24 = .ok (.lload 6, 2) := by decide +kernel
theorem dR_over_26 : decode bR_over 26 = .ok (.aload_n 0, 1) := by decide +kernel
theorem dR_over_27 : decode bR_over 27 = .ok (.iload_n 1, 1) := by decide +kernel
theorem dR_over_28 : decode bR_over 28 = .ok (.iload 8, 2) := by decide +kernel
theorem dR_over_30 : decode bR_over 30 = .ok (.invokevirtual 84, 3) := by decide +kernel
theorem dR_over_33 : decode bR_over 33 = .ok (.aload_n 3, 1) := by decide +kernel
theorem dR_over_34 : decode bR_over 34 = .ok (.iload 8, 2) := by decide +kernel
theorem dR_over_36 : decode bR_over 36 = .ok (.laload, 1) := by decide +kernel
theorem dR_over_37 : decode bR_over 37 = .ok (.lmul, 1) := by decide +kernel
theorem dR_over_38 : decode bR_over 38 = .ok (.ladd, 1) := by decide +kernel
theorem dR_over_39 : decode bR_over 39 = .ok (.lstore 6, 2) := by decide +kernel
theorem dR_over_41 : decode bR_over 41 = .ok (.iinc 8 1, 3) := by decide +kernel
theorem dR_over_44 : decode bR_over 44 = .ok (.goto (-29), 3) := by decide +kernel
theorem dR_over_47 : decode bR_over 47 = .ok (.lload 6, 2) := by decide +kernel
theorem dR_over_49 : decode bR_over 49 = .ok (.lreturn, 1) := by decide +kernel
theorem dR_keepsAll_0 : decode bR_keepsAll 0 = .ok (.iconst 1, 1) := by decide +kernel
theorem dR_keepsAll_1 : decode bR_keepsAll 1 = .ok (.istore_n 2, 1) := by decide +kernel
theorem dR_keepsAll_2 : decode bR_keepsAll 2 = .ok (.iconst 0, 1) := by decide +kernel
theorem dR_keepsAll_3 : decode bR_keepsAll 3 = .ok (.istore_n 3, 1) := by decide +kernel
theorem dR_keepsAll_4 : decode bR_keepsAll 4 = .ok (.iload_n 3, 1) := by decide +kernel
theorem dR_keepsAll_5 : decode bR_keepsAll 5 = .ok (.bipush 22, 2) := by decide +kernel
theorem dR_keepsAll_7 : decode bR_keepsAll 7 = .ok (.if_icmp .ge 73, 3) := by decide +kernel
theorem dR_keepsAll_10 : decode bR_keepsAll 10 = .ok (.iload_n 2, 1) := by decide +kernel
theorem dR_keepsAll_11 : decode bR_keepsAll 11 = .ok (.ifCond .eq 69, 3) := by decide +kernel
theorem dR_keepsAll_14 : decode bR_keepsAll 14 = .ok (.aload_n 0, 1) := by decide +kernel
theorem dR_keepsAll_15 : decode bR_keepsAll 15 = .ok (.getfield 45, 3) := by decide +kernel
theorem dR_keepsAll_18 : decode bR_keepsAll 18 = .ok (.iload_n 3, 1) := by decide +kernel
theorem dR_keepsAll_19 : decode bR_keepsAll 19 = .ok (.baload, 1) := by decide +kernel
theorem dR_keepsAll_20 : decode bR_keepsAll 20 = .ok (.ifCond .eq 54, 3) := by decide +kernel
theorem dR_keepsAll_23 : decode bR_keepsAll 23 = .ok (.aload_n 0, 1) := by decide +kernel
theorem dR_keepsAll_24 : decode bR_keepsAll 24 = .ok (.iload_n 3, 1) := by decide +kernel
theorem dR_keepsAll_25 : decode bR_keepsAll 25 = .ok (.iload_n 1, 1) := by decide +kernel
theorem dR_keepsAll_26 : decode bR_keepsAll 26 = .ok (.aload_n 0, 1) := by decide +kernel
theorem dR_keepsAll_27 : decode bR_keepsAll 27 = .ok (.getfield 58, 3) := by decide +kernel
theorem dR_keepsAll_30 : decode bR_keepsAll 30 = .ok (.aload_n 0, 1) := by decide +kernel
theorem dR_keepsAll_31 : decode bR_keepsAll 31 = .ok (.getfield 87, 3) := by decide +kernel
theorem dR_keepsAll_34 : decode bR_keepsAll 34 = .ok (.invokevirtual 91, 3) := by decide +kernel
theorem dR_keepsAll_37 : decode bR_keepsAll 37 = .ok (.lstore 4, 2) := by decide +kernel
theorem dR_keepsAll_39 : decode bR_keepsAll 39 = .ok (.iload_n 3, 1) := by decide +kernel
theorem dR_keepsAll_40 : decode bR_keepsAll 40 = .ok (.invokestatic 95, 3) := by decide +kernel
theorem dR_keepsAll_43 : decode bR_keepsAll 43 = .ok (.ifCond .eq 18, 3) := by decide +kernel
theorem dR_keepsAll_46 : decode bR_keepsAll 46 = .ok (.lload 4, 2) := by decide +kernel
theorem dR_keepsAll_48 : decode bR_keepsAll 48 = .ok (.lconst 0, 1) := by decide +kernel
theorem dR_keepsAll_49 : decode bR_keepsAll 49 = .ok (.lcmp, 1) := by decide +kernel
theorem dR_keepsAll_50 : decode bR_keepsAll 50 = .ok (.ifCond .lt 7, 3) := by decide +kernel
theorem dR_keepsAll_53 : decode bR_keepsAll 53 = .ok (.iconst 1, 1) := by decide +kernel
theorem dR_keepsAll_54 : decode bR_keepsAll 54 = .ok (.goto 19, 3) := by decide +kernel
theorem dR_keepsAll_57 : decode bR_keepsAll 57 = .ok (.iconst 0, 1) := by decide +kernel
theorem dR_keepsAll_58 : decode bR_keepsAll 58 = .ok (.goto 15, 3) := by decide +kernel
theorem dR_keepsAll_61 : decode bR_keepsAll 61 = .ok (.lload 4, 2) := by decide +kernel
theorem dR_keepsAll_63 : decode bR_keepsAll 63 = .ok (.lconst 0, 1) := by decide +kernel
theorem dR_keepsAll_64 : decode bR_keepsAll 64 = .ok (.lcmp, 1) := by decide +kernel
theorem dR_keepsAll_65 : decode bR_keepsAll 65 = .ok (.ifCond .gt 7, 3) := by decide +kernel
theorem dR_keepsAll_68 : decode bR_keepsAll 68 = .ok (.iconst 1, 1) := by decide +kernel
theorem dR_keepsAll_69 : decode bR_keepsAll 69 = .ok (.goto 4, 3) := by decide +kernel
theorem dR_keepsAll_72 : decode bR_keepsAll 72 = .ok (.iconst 0, 1) := by decide +kernel
theorem dR_keepsAll_73 : decode bR_keepsAll 73 = .ok (.istore_n 2, 1) := by decide +kernel
theorem dR_keepsAll_74 : decode bR_keepsAll 74 = .ok (.iinc 3 1, 3) := by decide +kernel
theorem dR_keepsAll_77 : decode bR_keepsAll 77 = .ok (.goto (-73), 3) := by decide +kernel
theorem dR_keepsAll_80 : decode bR_keepsAll 80 = .ok (.iload_n 2, 1) := by decide +kernel
theorem dR_keepsAll_81 : decode bR_keepsAll 81 = .ok (.ireturn, 1) := by decide +kernel
theorem dR_solve_0 : decode bR_solve 0 = .ok (.aload_n 0, 1) := by decide +kernel
theorem dR_solve_1 : decode bR_solve 1 = .ok (.getfield 98, 3) := by decide +kernel
theorem dR_solve_4 : decode bR_solve 4 = .ok (.istore_n 2, 1) := by decide +kernel
theorem dR_solve_5 : decode bR_solve 5 = .ok (.iconst 0, 1) := by decide +kernel
theorem dR_solve_6 : decode bR_solve 6 = .ok (.istore_n 3, 1) := by decide +kernel
theorem dR_solve_7 : decode bR_solve 7 = .ok (.iload_n 3, 1) := by decide +kernel
theorem dR_solve_8 : decode bR_solve 8 = .ok (.iload_n 2, 1) := by decide +kernel
theorem dR_solve_9 : decode bR_solve 9 = .ok (.if_icmp .ge 166, 3) := by decide +kernel
theorem dR_solve_12 : decode bR_solve 12 = .ok (.iload_n 3, 1) := by decide +kernel
theorem dR_solve_13 : decode bR_solve 13 = .ok (.ifCond .ne 8, 3) := by decide +kernel
theorem dR_solve_16 : decode bR_solve 16 = .ok (.iload_n 1, 1) := by decide +kernel
theorem dR_solve_17 : decode bR_solve 17 = .ok (.i2l, 1) := by decide +kernel
theorem dR_solve_18 : decode bR_solve 18 = .ok (.goto 16, 3) := by decide +kernel
theorem dR_solve_21 : decode bR_solve 21 = .ok (.aload_n 0, 1) := by decide +kernel
theorem dR_solve_22 : decode bR_solve 22 = .ok (.aload_n 0, 1) := by decide +kernel
theorem dR_solve_23 : decode bR_solve 23 = .ok (.getfield 61, 3) := by decide +kernel
theorem dR_solve_26 : decode bR_solve 26 = .ok (.iload_n 3, 1) := by decide +kernel
theorem dR_solve_27 : decode bR_solve 27 = .ok (.iconst 1, 1) := by decide +kernel
theorem dR_solve_28 : decode bR_solve 28 = .ok (.isub, 1) := by decide +kernel
theorem dR_solve_29 : decode bR_solve 29 = .ok (.iaload, 1) := by decide +kernel
theorem dR_solve_30 : decode bR_solve 30 = .ok (.iload_n 1, 1) := by decide +kernel
theorem dR_solve_31 : decode bR_solve 31 = .ok (.invokevirtual 80, 3) := by decide +kernel
theorem dR_solve_34 : decode bR_solve 34 = .ok (.lstore 4, 2) := by decide +kernel
theorem dR_solve_36 : decode bR_solve 36 = .ok (.iconst 0, 1) := by decide +kernel
theorem dR_solve_37 : decode bR_solve 37 = .ok (.istore 6, 2) := by decide +kernel
theorem dR_solve_39 : decode bR_solve 39 = .ok (.iload 6, 2) := by decide +kernel
theorem dR_solve_41 : decode bR_solve 41 = .ok (.aload_n 0, 1) := by decide +kernel
theorem dR_solve_42 : decode bR_solve 42 = .ok (.getfield 67, 3) := by decide +kernel
theorem dR_solve_45 : decode bR_solve 45 = .ok (.if_icmp .ge 59, 3) := by decide +kernel
theorem dR_solve_48 : decode bR_solve 48 = .ok (.lload 4, 2) := by decide +kernel
theorem dR_solve_50 : decode bR_solve 50 = .ok (.aload_n 0, 1) := by decide +kernel
theorem dR_solve_51 : decode bR_solve 51 = .ok (.getfield 49, 3) := by decide +kernel
theorem dR_solve_54 : decode bR_solve 54 = .ok (.iload 6, 2) := by decide +kernel
theorem dR_solve_56 : decode bR_solve 56 = .ok (.iaload, 1) := by decide +kernel
theorem dR_solve_57 : decode bR_solve 57 = .ok (.ifCond .ge 7, 3) := by decide +kernel
theorem dR_solve_60 : decode bR_solve 60 = .ok (.lconst 0, 1) := by decide +kernel
theorem dR_solve_61 : decode bR_solve 61 = .ok (.goto 34, 3) := by decide +kernel
theorem dR_solve_64 : decode bR_solve 64 = .ok (.iload_n 3, 1) := by decide +kernel
theorem dR_solve_65 : decode bR_solve 65 = .ok (.ifCond .ne 7, 3) := by decide +kernel
theorem dR_solve_68 : decode bR_solve 68 = .ok (.lconst 1, 1) := by decide +kernel
theorem dR_solve_69 : decode bR_solve 69 = .ok (.goto 17, 3) := by decide +kernel
theorem dR_solve_72 : decode bR_solve 72 = .ok (.aload_n 0, 1) := by decide +kernel
theorem dR_solve_73 : decode bR_solve 73 = .ok (.aload_n 0, 1) := by decide +kernel
theorem dR_solve_74 : decode bR_solve 74 = .ok (.getfield 61, 3) := by decide +kernel
theorem dR_solve_77 : decode bR_solve 77 = .ok (.iload_n 3, 1) := by decide +kernel
theorem dR_solve_78 : decode bR_solve 78 = .ok (.iconst 1, 1) := by decide +kernel
theorem dR_solve_79 : decode bR_solve 79 = .ok (.isub, 1) := by decide +kernel
theorem dR_solve_80 : decode bR_solve 80 = .ok (.iaload, 1) := by decide +kernel
theorem dR_solve_81 : decode bR_solve 81 = .ok (.iload 6, 2) := by decide +kernel
theorem dR_solve_83 : decode bR_solve 83 = .ok (.invokevirtual 84, 3) := by decide +kernel
theorem dR_solve_86 : decode bR_solve 86 = .ok (.aload_n 0, 1) := by decide +kernel
theorem dR_solve_87 : decode bR_solve 87 = .ok (.getfield 49, 3) := by decide +kernel
theorem dR_solve_90 : decode bR_solve 90 = .ok (.iload 6, 2) := by decide +kernel
theorem dR_solve_92 : decode bR_solve 92 = .ok (.iaload, 1) := by decide +kernel
theorem dR_solve_93 : decode bR_solve 93 = .ok (.i2l, 1) := by decide +kernel
theorem dR_solve_94 : decode bR_solve 94 = .ok (.lmul, 1) := by decide +kernel
theorem dR_solve_95 : decode bR_solve 95 = .ok (.lsub, 1) := by decide +kernel
theorem dR_solve_96 : decode bR_solve 96 = .ok (.lstore 4, 2) := by decide +kernel
theorem dR_solve_98 : decode bR_solve 98 = .ok (.iinc 6 1, 3) := by decide +kernel
theorem dR_solve_101 : decode bR_solve 101 = .ok (.goto (-62), 3) := by decide +kernel
theorem dR_solve_104 : decode bR_solve 104 = .ok (.iconst 0, 1) := by decide +kernel
theorem dR_solve_105 : decode bR_solve 105 = .ok (.istore 6, 2) := by decide +kernel
theorem dR_solve_107 : decode bR_solve 107 = .ok (.iload 6, 2) := by decide +kernel
theorem dR_solve_109 : decode bR_solve 109 = .ok (.iload_n 2, 1) := by decide +kernel
theorem dR_solve_110 : decode bR_solve 110 = .ok (.if_icmp .ge 47, 3) := by decide +kernel
theorem dR_solve_113 : decode bR_solve 113 = .ok (.aload_n 0, 1) := by decide +kernel
theorem dR_solve_114 : decode bR_solve 114 = .ok (.getfield 55, 3) := by decide +kernel
theorem dR_solve_117 : decode bR_solve 117 = .ok (.iconst 5, 1) := by decide +kernel
theorem dR_solve_118 : decode bR_solve 118 = .ok (.iload_n 3, 1) := by decide +kernel
theorem dR_solve_119 : decode bR_solve 119 = .ok (.imul, 1) := by decide +kernel
theorem dR_solve_120 : decode bR_solve 120 = .ok (.iload 6, 2) := by decide +kernel
theorem dR_solve_122 : decode bR_solve 122 = .ok (.iadd, 1) := by decide +kernel
theorem dR_solve_123 : decode bR_solve 123 = .ok (.iload_n 3, 1) := by decide +kernel
theorem dR_solve_124 : decode bR_solve 124 = .ok (.ifCond .ne 7, 3) := by decide +kernel
theorem dR_solve_127 : decode bR_solve 127 = .ok (.lconst 1, 1) := by decide +kernel
theorem dR_solve_128 : decode bR_solve 128 = .ok (.goto 22, 3) := by decide +kernel
theorem dR_solve_131 : decode bR_solve 131 = .ok (.aload_n 0, 1) := by decide +kernel
theorem dR_solve_132 : decode bR_solve 132 = .ok (.aload_n 0, 1) := by decide +kernel
theorem dR_solve_133 : decode bR_solve 133 = .ok (.getfield 61, 3) := by decide +kernel
theorem dR_solve_136 : decode bR_solve 136 = .ok (.iload_n 3, 1) := by decide +kernel
theorem dR_solve_137 : decode bR_solve 137 = .ok (.iconst 1, 1) := by decide +kernel
theorem dR_solve_138 : decode bR_solve 138 = .ok (.isub, 1) := by decide +kernel
theorem dR_solve_139 : decode bR_solve 139 = .ok (.iaload, 1) := by decide +kernel
theorem dR_solve_140 : decode bR_solve 140 = .ok (.aload_n 0, 1) := by decide +kernel
theorem dR_solve_141 : decode bR_solve 141 = .ok (.getfield 52, 3) := by decide +kernel
theorem dR_solve_144 : decode bR_solve 144 = .ok (.iload 6, 2) := by decide +kernel
theorem dR_solve_146 : decode bR_solve 146 = .ok (.iaload, 1) := by decide +kernel
theorem dR_solve_147 : decode bR_solve 147 = .ok (.invokevirtual 84, 3) := by decide +kernel
theorem dR_solve_150 : decode bR_solve 150 = .ok (.lastore, 1) := by decide +kernel
theorem dR_solve_151 : decode bR_solve 151 = .ok (.iinc 6 1, 3) := by decide +kernel
theorem dR_solve_154 : decode bR_solve 154 = .ok (.goto (-47), 3) := by decide +kernel
theorem dR_solve_157 : decode bR_solve 157 = .ok (.aload_n 0, 1) := by decide +kernel
theorem dR_solve_158 : decode bR_solve 158 = .ok (.getfield 55, 3) := by decide +kernel
theorem dR_solve_161 : decode bR_solve 161 = .ok (.iconst 5, 1) := by decide +kernel
theorem dR_solve_162 : decode bR_solve 162 = .ok (.iload_n 3, 1) := by decide +kernel
theorem dR_solve_163 : decode bR_solve 163 = .ok (.imul, 1) := by decide +kernel
theorem dR_solve_164 : decode bR_solve 164 = .ok (.iconst 4, 1) := by decide +kernel
theorem dR_solve_165 : decode bR_solve 165 = .ok (.iadd, 1) := by decide +kernel
theorem dR_solve_166 : decode bR_solve 166 = .ok (.lload 4, 2) := by decide +kernel
theorem dR_solve_168 : decode bR_solve 168 = .ok (.lastore, 1) := by decide +kernel
theorem dR_solve_169 : decode bR_solve 169 = .ok (.iinc 3 1, 3) := by decide +kernel
theorem dR_solve_172 : decode bR_solve 172 = .ok (.goto (-165), 3) := by decide +kernel
theorem dR_solve_175 : decode bR_solve 175 = .ok (.lconst 1, 1) := by decide +kernel
theorem dR_solve_176 : decode bR_solve 176 = .ok (.lstore_n 3, 1) := by decide +kernel
theorem dR_solve_177 : decode bR_solve 177 = .ok (.iconst 0, 1) := by decide +kernel
theorem dR_solve_178 : decode bR_solve 178 = .ok (.istore 5, 2) := by decide +kernel
theorem dR_solve_180 : decode bR_solve 180 = .ok (.iload 5, 2) := by decide +kernel
theorem dR_solve_182 : decode bR_solve 182 = .ok (.iload_n 2, 1) := by decide +kernel
theorem dR_solve_183 : decode bR_solve 183 = .ok (.if_icmp .ge 238, 3) := by decide +kernel
theorem dR_solve_186 : decode bR_solve 186 = .ok (.iload 5, 2) := by decide +kernel
theorem dR_solve_188 : decode bR_solve 188 = .ok (.istore 6, 2) := by decide +kernel
theorem dR_solve_190 : decode bR_solve 190 = .ok (.iload 6, 2) := by decide +kernel
theorem dR_solve_192 : decode bR_solve 192 = .ok (.iload_n 2, 1) := by decide +kernel
theorem dR_solve_193 : decode bR_solve 193 = .ok (.if_icmp .ge 26, 3) := by decide +kernel
theorem dR_solve_196 : decode bR_solve 196 = .ok (.aload_n 0, 1) := by decide +kernel
theorem dR_solve_197 : decode bR_solve 197 = .ok (.getfield 55, 3) := by decide +kernel
theorem dR_solve_200 : decode bR_solve 200 = .ok (.iconst 5, 1) := by decide +kernel
theorem dR_solve_201 : decode bR_solve 201 = .ok (.iload 6, 2) := by decide +kernel
theorem dR_solve_203 : decode bR_solve 203 = .ok (.imul, 1) := by decide +kernel
theorem dR_solve_204 : decode bR_solve 204 = .ok (.iload 5, 2) := by decide +kernel
theorem dR_solve_206 : decode bR_solve 206 = .ok (.iadd, 1) := by decide +kernel
theorem dR_solve_207 : decode bR_solve 207 = .ok (.laload, 1) := by decide +kernel
theorem dR_solve_208 : decode bR_solve 208 = .ok (.lconst 0, 1) := by decide +kernel
theorem dR_solve_209 : decode bR_solve 209 = .ok (.lcmp, 1) := by decide +kernel
theorem dR_solve_210 : decode bR_solve 210 = .ok (.ifCond .ne 9, 3) := by decide +kernel
theorem dR_solve_213 : decode bR_solve 213 = .ok (.iinc 6 1, 3) := by decide +kernel
theorem dR_solve_216 : decode bR_solve 216 = .ok (.goto (-26), 3) := by decide +kernel
theorem dR_solve_219 : decode bR_solve 219 = .ok (.iload 6, 2) := by decide +kernel
theorem dR_solve_221 : decode bR_solve 221 = .ok (.iload_n 2, 1) := by decide +kernel
theorem dR_solve_222 : decode bR_solve 222 = .ok (.if_icmp .ne 5, 3) := by decide +kernel
theorem dR_solve_225 : decode bR_solve 225 = .ok (.iconst 0, 1) := by decide +kernel
theorem dR_solve_226 : decode bR_solve 226 = .ok (.ireturn, 1) := by decide +kernel
theorem dR_solve_227 : decode bR_solve 227 = .ok (.iconst 0, 1) := by decide +kernel
theorem dR_solve_228 : decode bR_solve 228 = .ok (.istore 7, 2) := by decide +kernel
theorem dR_solve_230 : decode bR_solve 230 = .ok (.iload 7, 2) := by decide +kernel
theorem dR_solve_232 : decode bR_solve 232 = .ok (.iconst 5, 1) := by decide +kernel
theorem dR_solve_233 : decode bR_solve 233 = .ok (.if_icmp .ge 69, 3) := by decide +kernel
theorem dR_solve_236 : decode bR_solve 236 = .ok (.iload 6, 2) := by decide +kernel
theorem dR_solve_238 : decode bR_solve 238 = .ok (.iload 5, 2) := by decide +kernel
theorem dR_solve_240 : decode bR_solve 240 = .ok (.if_icmp .eq 62, 3) := by decide +kernel
theorem dR_solve_243 : decode bR_solve 243 = .ok (.aload_n 0, 1) := by decide +kernel
theorem dR_solve_244 : decode bR_solve 244 = .ok (.getfield 55, 3) := by decide +kernel
theorem dR_solve_247 : decode bR_solve 247 = .ok (.iconst 5, 1) := by decide +kernel
theorem dR_solve_248 : decode bR_solve 248 = .ok (.iload 6, 2) := by decide +kernel
theorem dR_solve_250 : decode bR_solve 250 = .ok (.imul, 1) := by decide +kernel
theorem dR_solve_251 : decode bR_solve 251 = .ok (.iload 7, 2) := by decide +kernel
theorem dR_solve_253 : decode bR_solve 253 = .ok (.iadd, 1) := by decide +kernel
theorem dR_solve_254 : decode bR_solve 254 = .ok (.laload, 1) := by decide +kernel
theorem dR_solve_255 : decode bR_solve 255 = .ok (.lstore 8, 2) := by decide +kernel
theorem dR_solve_257 : decode bR_solve 257 = .ok (.aload_n 0, 1) := by decide +kernel
theorem dR_solve_258 : decode bR_solve 258 = .ok (.getfield 55, 3) := by decide +kernel
theorem dR_solve_261 : decode bR_solve 261 = .ok (.iconst 5, 1) := by decide +kernel
theorem dR_solve_262 : decode bR_solve 262 = .ok (.iload 6, 2) := by decide +kernel
theorem dR_solve_264 : decode bR_solve 264 = .ok (.imul, 1) := by decide +kernel
theorem dR_solve_265 : decode bR_solve 265 = .ok (.iload 7, 2) := by decide +kernel
theorem dR_solve_267 : decode bR_solve 267 = .ok (.iadd, 1) := by decide +kernel
theorem dR_solve_268 : decode bR_solve 268 = .ok (.aload_n 0, 1) := by decide +kernel
theorem dR_solve_269 : decode bR_solve 269 = .ok (.getfield 55, 3) := by decide +kernel
theorem dR_solve_272 : decode bR_solve 272 = .ok (.iconst 5, 1) := by decide +kernel
theorem dR_solve_273 : decode bR_solve 273 = .ok (.iload 5, 2) := by decide +kernel
theorem dR_solve_275 : decode bR_solve 275 = .ok (.imul, 1) := by decide +kernel
theorem dR_solve_276 : decode bR_solve 276 = .ok (.iload 7, 2) := by decide +kernel
theorem dR_solve_278 : decode bR_solve 278 = .ok (.iadd, 1) := by decide +kernel
theorem dR_solve_279 : decode bR_solve 279 = .ok (.laload, 1) := by decide +kernel
theorem dR_solve_280 : decode bR_solve 280 = .ok (.lastore, 1) := by decide +kernel
theorem dR_solve_281 : decode bR_solve 281 = .ok (.aload_n 0, 1) := by decide +kernel
theorem dR_solve_282 : decode bR_solve 282 = .ok (.getfield 55, 3) := by decide +kernel
theorem dR_solve_285 : decode bR_solve 285 = .ok (.iconst 5, 1) := by decide +kernel
theorem dR_solve_286 : decode bR_solve 286 = .ok (.iload 5, 2) := by decide +kernel
theorem dR_solve_288 : decode bR_solve 288 = .ok (.imul, 1) := by decide +kernel
theorem dR_solve_289 : decode bR_solve 289 = .ok (.iload 7, 2) := by decide +kernel
theorem dR_solve_291 : decode bR_solve 291 = .ok (.iadd, 1) := by decide +kernel
theorem dR_solve_292 : decode bR_solve 292 = .ok (.lload 8, 2) := by decide +kernel
theorem dR_solve_294 : decode bR_solve 294 = .ok (.lneg, 1) := by decide +kernel
theorem dR_solve_295 : decode bR_solve 295 = .ok (.lastore, 1) := by decide +kernel
theorem dR_solve_296 : decode bR_solve 296 = .ok (.iinc 7 1, 3) := by decide +kernel
theorem dR_solve_299 : decode bR_solve 299 = .ok (.goto (-69), 3) := by decide +kernel
theorem dR_solve_302 : decode bR_solve 302 = .ok (.aload_n 0, 1) := by decide +kernel
theorem dR_solve_303 : decode bR_solve 303 = .ok (.getfield 55, 3) := by decide +kernel
theorem dR_solve_306 : decode bR_solve 306 = .ok (.iconst 5, 1) := by decide +kernel
theorem dR_solve_307 : decode bR_solve 307 = .ok (.iload 5, 2) := by decide +kernel
theorem dR_solve_309 : decode bR_solve 309 = .ok (.imul, 1) := by decide +kernel
theorem dR_solve_310 : decode bR_solve 310 = .ok (.iload 5, 2) := by decide +kernel
theorem dR_solve_312 : decode bR_solve 312 = .ok (.iadd, 1) := by decide +kernel
theorem dR_solve_313 : decode bR_solve 313 = .ok (.laload, 1) := by decide +kernel
theorem dR_solve_314 : decode bR_solve 314 = .ok (.lstore 7, 2) := by decide +kernel
theorem dR_solve_316 : decode bR_solve 316 = .ok (.iconst 0, 1) := by decide +kernel
theorem dR_solve_317 : decode bR_solve 317 = .ok (.istore 9, 2) := by decide +kernel
theorem dR_solve_319 : decode bR_solve 319 = .ok (.iload 9, 2) := by decide +kernel
theorem dR_solve_321 : decode bR_solve 321 = .ok (.iload_n 2, 1) := by decide +kernel
theorem dR_solve_322 : decode bR_solve 322 = .ok (.if_icmp .ge 90, 3) := by decide +kernel
theorem dR_solve_325 : decode bR_solve 325 = .ok (.iload 9, 2) := by decide +kernel
theorem dR_solve_327 : decode bR_solve 327 = .ok (.iload 5, 2) := by decide +kernel
theorem dR_solve_329 : decode bR_solve 329 = .ok (.if_icmp .eq 77, 3) := by decide +kernel
theorem dR_solve_332 : decode bR_solve 332 = .ok (.aload_n 0, 1) := by decide +kernel
theorem dR_solve_333 : decode bR_solve 333 = .ok (.getfield 55, 3) := by decide +kernel
theorem dR_solve_336 : decode bR_solve 336 = .ok (.iconst 5, 1) := by decide +kernel
theorem dR_solve_337 : decode bR_solve 337 = .ok (.iload 9, 2) := by decide +kernel
theorem dR_solve_339 : decode bR_solve 339 = .ok (.imul, 1) := by decide +kernel
theorem dR_solve_340 : decode bR_solve 340 = .ok (.iload 5, 2) := by decide +kernel
theorem dR_solve_342 : decode bR_solve 342 = .ok (.iadd, 1) := by decide +kernel
theorem dR_solve_343 : decode bR_solve 343 = .ok (.laload, 1) := by decide +kernel
theorem dR_solve_344 : decode bR_solve 344 = .ok (.lstore 10, 2) := by decide +kernel
theorem dR_solve_346 : decode bR_solve 346 = .ok (.iconst 0, 1) := by decide +kernel
theorem dR_solve_347 : decode bR_solve 347 = .ok (.istore 12, 2) := by decide +kernel
theorem dR_solve_349 : decode bR_solve 349 = .ok (.iload 12, 2) := by decide +kernel
theorem dR_solve_351 : decode bR_solve 351 = .ok (.iconst 5, 1) := by decide +kernel
theorem dR_solve_352 : decode bR_solve 352 = .ok (.if_icmp .ge 54, 3) := by decide +kernel
theorem dR_solve_355 : decode bR_solve 355 = .ok (.aload_n 0, 1) := by decide +kernel
theorem dR_solve_356 : decode bR_solve 356 = .ok (.getfield 55, 3) := by decide +kernel
theorem dR_solve_359 : decode bR_solve 359 = .ok (.iconst 5, 1) := by decide +kernel
theorem dR_solve_360 : decode bR_solve 360 = .ok (.iload 9, 2) := by decide +kernel
theorem dR_solve_362 : decode bR_solve 362 = .ok (.imul, 1) := by decide +kernel
theorem dR_solve_363 : decode bR_solve 363 = .ok (.iload 12, 2) := by decide +kernel
theorem dR_solve_365 : decode bR_solve 365 = .ok (.iadd, 1) := by decide +kernel
theorem dR_solve_366 : decode bR_solve 366 = .ok (.aload_n 0, 1) := by decide +kernel
theorem dR_solve_367 : decode bR_solve 367 = .ok (.getfield 55, 3) := by decide +kernel
theorem dR_solve_370 : decode bR_solve 370 = .ok (.iconst 5, 1) := by decide +kernel
theorem dR_solve_371 : decode bR_solve 371 = .ok (.iload 9, 2) := by decide +kernel
theorem dR_solve_373 : decode bR_solve 373 = .ok (.imul, 1) := by decide +kernel
theorem dR_solve_374 : decode bR_solve 374 = .ok (.iload 12, 2) := by decide +kernel
theorem dR_solve_376 : decode bR_solve 376 = .ok (.iadd, 1) := by decide +kernel
theorem dR_solve_377 : decode bR_solve 377 = .ok (.laload, 1) := by decide +kernel
theorem dR_solve_378 : decode bR_solve 378 = .ok (.lload 7, 2) := by decide +kernel
theorem dR_solve_380 : decode bR_solve 380 = .ok (.lmul, 1) := by decide +kernel
theorem dR_solve_381 : decode bR_solve 381 = .ok (.lload 10, 2) := by decide +kernel
theorem dR_solve_383 : decode bR_solve 383 = .ok (.aload_n 0, 1) := by decide +kernel
theorem dR_solve_384 : decode bR_solve 384 = .ok (.getfield 55, 3) := by decide +kernel
theorem dR_solve_387 : decode bR_solve 387 = .ok (.iconst 5, 1) := by decide +kernel
theorem dR_solve_388 : decode bR_solve 388 = .ok (.iload 5, 2) := by decide +kernel
theorem dR_solve_390 : decode bR_solve 390 = .ok (.imul, 1) := by decide +kernel
theorem dR_solve_391 : decode bR_solve 391 = .ok (.iload 12, 2) := by decide +kernel
theorem dR_solve_393 : decode bR_solve 393 = .ok (.iadd, 1) := by decide +kernel
theorem dR_solve_394 : decode bR_solve 394 = .ok (.laload, 1) := by decide +kernel
theorem dR_solve_395 : decode bR_solve 395 = .ok (.lmul, 1) := by decide +kernel
theorem dR_solve_396 : decode bR_solve 396 = .ok (.lsub, 1) := by decide +kernel
theorem dR_solve_397 : decode bR_solve 397 = .ok (.lload_n 3, 1) := by decide +kernel
theorem dR_solve_398 : decode bR_solve 398 = .ok (.ldiv, 1) := by decide +kernel
theorem dR_solve_399 : decode bR_solve 399 = .ok (.lastore, 1) := by decide +kernel
theorem dR_solve_400 : decode bR_solve 400 = .ok (.iinc 12 1, 3) := by decide +kernel
theorem dR_solve_403 : decode bR_solve 403 = .ok (.goto (-54), 3) := by decide +kernel
theorem dR_solve_406 : decode bR_solve 406 = .ok (.iinc 9 1, 3) := by decide +kernel
theorem dR_solve_409 : decode bR_solve 409 = .ok (.goto (-90), 3) := by decide +kernel
theorem dR_solve_412 : decode bR_solve 412 = .ok (.lload 7, 2) := by decide +kernel
theorem dR_solve_414 : decode bR_solve 414 = .ok (.lstore_n 3, 1) := by decide +kernel
theorem dR_solve_415 : decode bR_solve 415 = .ok (.iinc 5 1, 3) := by decide +kernel
theorem dR_solve_418 : decode bR_solve 418 = .ok (.goto (-238), 3) := by decide +kernel
theorem dR_solve_421 : decode bR_solve 421 = .ok (.aload_n 0, 1) := by decide +kernel
theorem dR_solve_422 : decode bR_solve 422 = .ok (.iload_n 2, 1) := by decide +kernel
theorem dR_solve_423 : decode bR_solve 423 = .ok (.ifCond .ne 7, 3) := by decide +kernel
theorem dR_solve_426 : decode bR_solve 426 = .ok (.lconst 1, 1) := by decide +kernel
theorem dR_solve_427 : decode bR_solve 427 = .ok (.goto 4, 3) := by decide +kernel
theorem dR_solve_430 : decode bR_solve 430 = .ok (.lload_n 3, 1) := by decide +kernel
theorem dR_solve_431 : decode bR_solve 431 = .ok (.putfield 87, 3) := by decide +kernel
theorem dR_solve_434 : decode bR_solve 434 = .ok (.aload_n 0, 1) := by decide +kernel
theorem dR_solve_435 : decode bR_solve 435 = .ok (.getfield 87, 3) := by decide +kernel
theorem dR_solve_438 : decode bR_solve 438 = .ok (.lconst 0, 1) := by decide +kernel
theorem dR_solve_439 : decode bR_solve 439 = .ok (.lcmp, 1) := by decide +kernel
theorem dR_solve_440 : decode bR_solve 440 = .ok (.ifCond .ge 9, 3) := by decide +kernel
theorem dR_solve_443 : decode bR_solve 443 = .ok (.ldc2_w 101, 3) := by decide +kernel
theorem dR_solve_446 : decode bR_solve 446 = .ok (.goto 4, 3) := by decide +kernel
theorem dR_solve_449 : decode bR_solve 449 = .ok (.lconst 1, 1) := by decide +kernel
theorem dR_solve_450 : decode bR_solve 450 = .ok (.lstore 5, 2) := by decide +kernel
theorem dR_solve_452 : decode bR_solve 452 = .ok (.aload_n 0, 1) := by decide +kernel
theorem dR_solve_453 : decode bR_solve 453 = .ok (.aload_n 0, 1) := by decide +kernel
theorem dR_solve_454 : decode bR_solve 454 = .ok (.getfield 87, 3) := by decide +kernel
theorem dR_solve_457 : decode bR_solve 457 = .ok (.lload 5, 2) := by decide +kernel
theorem dR_solve_459 : decode bR_solve 459 = .ok (.lmul, 1) := by decide +kernel
theorem dR_solve_460 : decode bR_solve 460 = .ok (.putfield 87, 3) := by decide +kernel
theorem dR_solve_463 : decode bR_solve 463 = .ok (.iconst 0, 1) := by decide +kernel
theorem dR_solve_464 : decode bR_solve 464 = .ok (.istore 7, 2) := by decide +kernel
theorem dR_solve_466 : decode bR_solve 466 = .ok (.iload 7, 2) := by decide +kernel
theorem dR_solve_468 : decode bR_solve 468 = .ok (.iload_n 2, 1) := by decide +kernel
theorem dR_solve_469 : decode bR_solve 469 = .ok (.if_icmp .ge 35, 3) := by decide +kernel
theorem dR_solve_472 : decode bR_solve 472 = .ok (.aload_n 0, 1) := by decide +kernel
theorem dR_solve_473 : decode bR_solve 473 = .ok (.getfield 58, 3) := by decide +kernel
theorem dR_solve_476 : decode bR_solve 476 = .ok (.aload_n 0, 1) := by decide +kernel
theorem dR_solve_477 : decode bR_solve 477 = .ok (.getfield 52, 3) := by decide +kernel
theorem dR_solve_480 : decode bR_solve 480 = .ok (.iload 7, 2) := by decide +kernel
theorem dR_solve_482 : decode bR_solve 482 = .ok (.iaload, 1) := by decide +kernel
theorem dR_solve_483 : decode bR_solve 483 = .ok (.aload_n 0, 1) := by decide +kernel
theorem dR_solve_484 : decode bR_solve 484 = .ok (.getfield 55, 3) := by decide +kernel
theorem dR_solve_487 : decode bR_solve 487 = .ok (.iconst 5, 1) := by decide +kernel
theorem dR_solve_488 : decode bR_solve 488 = .ok (.iload 7, 2) := by decide +kernel
theorem dR_solve_490 : decode bR_solve 490 = .ok (.imul, 1) := by decide +kernel
theorem dR_solve_491 : decode bR_solve 491 = .ok (.iconst 4, 1) := by decide +kernel
theorem dR_solve_492 : decode bR_solve 492 = .ok (.iadd, 1) := by decide +kernel
theorem dR_solve_493 : decode bR_solve 493 = .ok (.laload, 1) := by decide +kernel
theorem dR_solve_494 : decode bR_solve 494 = .ok (.lload 5, 2) := by decide +kernel
theorem dR_solve_496 : decode bR_solve 496 = .ok (.lmul, 1) := by decide +kernel
theorem dR_solve_497 : decode bR_solve 497 = .ok (.lastore, 1) := by decide +kernel
theorem dR_solve_498 : decode bR_solve 498 = .ok (.iinc 7 1, 3) := by decide +kernel
theorem dR_solve_501 : decode bR_solve 501 = .ok (.goto (-35), 3) := by decide +kernel
theorem dR_solve_504 : decode bR_solve 504 = .ok (.lconst 0, 1) := by decide +kernel
theorem dR_solve_505 : decode bR_solve 505 = .ok (.lstore 7, 2) := by decide +kernel
theorem dR_solve_507 : decode bR_solve 507 = .ok (.iconst 0, 1) := by decide +kernel
theorem dR_solve_508 : decode bR_solve 508 = .ok (.istore 9, 2) := by decide +kernel
theorem dR_solve_510 : decode bR_solve 510 = .ok (.iload 9, 2) := by decide +kernel
theorem dR_solve_512 : decode bR_solve 512 = .ok (.aload_n 0, 1) := by decide +kernel
theorem dR_solve_513 : decode bR_solve 513 = .ok (.getfield 67, 3) := by decide +kernel
theorem dR_solve_516 : decode bR_solve 516 = .ok (.if_icmp .ge 61, 3) := by decide +kernel
theorem dR_solve_519 : decode bR_solve 519 = .ok (.aload_n 0, 1) := by decide +kernel
theorem dR_solve_520 : decode bR_solve 520 = .ok (.getfield 58, 3) := by decide +kernel
theorem dR_solve_523 : decode bR_solve 523 = .ok (.iload 9, 2) := by decide +kernel
theorem dR_solve_525 : decode bR_solve 525 = .ok (.aload_n 0, 1) := by decide +kernel
theorem dR_solve_526 : decode bR_solve 526 = .ok (.getfield 49, 3) := by decide +kernel
theorem dR_solve_529 : decode bR_solve 529 = .ok (.iload 9, 2) := by decide +kernel
theorem dR_solve_531 : decode bR_solve 531 = .ok (.iaload, 1) := by decide +kernel
theorem dR_solve_532 : decode bR_solve 532 = .ok (.ifCond .ge 13, 3) := by decide +kernel
theorem dR_solve_535 : decode bR_solve 535 = .ok (.aload_n 0, 1) := by decide +kernel
theorem dR_solve_536 : decode bR_solve 536 = .ok (.getfield 58, 3) := by decide +kernel
theorem dR_solve_539 : decode bR_solve 539 = .ok (.iload 9, 2) := by decide +kernel
theorem dR_solve_541 : decode bR_solve 541 = .ok (.laload, 1) := by decide +kernel
theorem dR_solve_542 : decode bR_solve 542 = .ok (.goto 16, 3) := by decide +kernel
theorem dR_solve_545 : decode bR_solve 545 = .ok (.aload_n 0, 1) := by decide +kernel
theorem dR_solve_546 : decode bR_solve 546 = .ok (.getfield 49, 3) := by decide +kernel
theorem dR_solve_549 : decode bR_solve 549 = .ok (.iload 9, 2) := by decide +kernel
theorem dR_solve_551 : decode bR_solve 551 = .ok (.iaload, 1) := by decide +kernel
theorem dR_solve_552 : decode bR_solve 552 = .ok (.i2l, 1) := by decide +kernel
theorem dR_solve_553 : decode bR_solve 553 = .ok (.aload_n 0, 1) := by decide +kernel
theorem dR_solve_554 : decode bR_solve 554 = .ok (.getfield 87, 3) := by decide +kernel
theorem dR_solve_557 : decode bR_solve 557 = .ok (.lmul, 1) := by decide +kernel
theorem dR_solve_558 : decode bR_solve 558 = .ok (.lastore, 1) := by decide +kernel
theorem dR_solve_559 : decode bR_solve 559 = .ok (.lload 7, 2) := by decide +kernel
theorem dR_solve_561 : decode bR_solve 561 = .ok (.aload_n 0, 1) := by decide +kernel
theorem dR_solve_562 : decode bR_solve 562 = .ok (.getfield 58, 3) := by decide +kernel
theorem dR_solve_565 : decode bR_solve 565 = .ok (.iload 9, 2) := by decide +kernel
theorem dR_solve_567 : decode bR_solve 567 = .ok (.laload, 1) := by decide +kernel
theorem dR_solve_568 : decode bR_solve 568 = .ok (.ladd, 1) := by decide +kernel
theorem dR_solve_569 : decode bR_solve 569 = .ok (.lstore 7, 2) := by decide +kernel
theorem dR_solve_571 : decode bR_solve 571 = .ok (.iinc 9 1, 3) := by decide +kernel
theorem dR_solve_574 : decode bR_solve 574 = .ok (.goto (-64), 3) := by decide +kernel
theorem dR_solve_577 : decode bR_solve 577 = .ok (.lload 7, 2) := by decide +kernel
theorem dR_solve_579 : decode bR_solve 579 = .ok (.iload_n 1, 1) := by decide +kernel
theorem dR_solve_580 : decode bR_solve 580 = .ok (.i2l, 1) := by decide +kernel
theorem dR_solve_581 : decode bR_solve 581 = .ok (.aload_n 0, 1) := by decide +kernel
theorem dR_solve_582 : decode bR_solve 582 = .ok (.getfield 87, 3) := by decide +kernel
theorem dR_solve_585 : decode bR_solve 585 = .ok (.lmul, 1) := by decide +kernel
theorem dR_solve_586 : decode bR_solve 586 = .ok (.lcmp, 1) := by decide +kernel
theorem dR_solve_587 : decode bR_solve 587 = .ok (.ifCond .ne 7, 3) := by decide +kernel
theorem dR_solve_590 : decode bR_solve 590 = .ok (.iconst 1, 1) := by decide +kernel
theorem dR_solve_591 : decode bR_solve 591 = .ok (.goto 4, 3) := by decide +kernel
theorem dR_solve_594 : decode bR_solve 594 = .ok (.iconst 0, 1) := by decide +kernel
theorem dR_solve_595 : decode bR_solve 595 = .ok (.ireturn, 1) := by decide +kernel
theorem dR_costOf_0 : decode bR_costOf 0 = .ok (.lconst 0, 1) := by decide +kernel
theorem dR_costOf_1 : decode bR_costOf 1 = .ok (.lstore_n 2, 1) := by decide +kernel
theorem dR_costOf_2 : decode bR_costOf 2 = .ok (.iconst 0, 1) := by decide +kernel
theorem dR_costOf_3 : decode bR_costOf 3 = .ok (.istore 4, 2) := by decide +kernel
theorem dR_costOf_5 : decode bR_costOf 5 = .ok (.iload 4, 2) := by decide +kernel
theorem dR_costOf_7 : decode bR_costOf 7 = .ok (.aload_n 0, 1) := by decide +kernel
theorem dR_costOf_8 : decode bR_costOf 8 = .ok (.getfield 67, 3) := by decide +kernel
theorem dR_costOf_11 : decode bR_costOf 11 = .ok (.if_icmp .ge 25, 3) := by decide +kernel
theorem dR_costOf_14 : decode bR_costOf 14 = .ok (.lload_n 2, 1) := by decide +kernel
theorem dR_costOf_15 : decode bR_costOf 15 = .ok (.aload_n 0, 1) := by decide +kernel
theorem dR_costOf_16 : decode bR_costOf 16 = .ok (.getfield 7, 3) := by decide +kernel
theorem dR_costOf_19 : decode bR_costOf 19 = .ok (.iload 4, 2) := by decide +kernel
theorem dR_costOf_21 : decode bR_costOf 21 = .ok (.iaload, 1) := by decide +kernel
theorem dR_costOf_22 : decode bR_costOf 22 = .ok (.i2l, 1) := by decide +kernel
theorem dR_costOf_23 : decode bR_costOf 23 = .ok (.aload_n 1, 1) := by decide +kernel
theorem dR_costOf_24 : decode bR_costOf 24 = .ok (.iload 4, 2) := by decide +kernel
theorem dR_costOf_26 : decode bR_costOf 26 = .ok (.laload, 1) := by decide +kernel
theorem dR_costOf_27 : decode bR_costOf 27 = .ok (.lmul, 1) := by decide +kernel
theorem dR_costOf_28 : decode bR_costOf 28 = .ok (.ladd, 1) := by decide +kernel
theorem dR_costOf_29 : decode bR_costOf 29 = .ok (.lstore_n 2, 1) := by decide +kernel
theorem dR_costOf_30 : decode bR_costOf 30 = .ok (.iinc 4 1, 3) := by decide +kernel
theorem dR_costOf_33 : decode bR_costOf 33 = .ok (.goto (-28), 3) := by decide +kernel
theorem dR_costOf_36 : decode bR_costOf 36 = .ok (.lload_n 2, 1) := by decide +kernel
theorem dR_costOf_37 : decode bR_costOf 37 = .ok (.lreturn, 1) := by decide +kernel
theorem dR_isBetter_0 : decode bR_isBetter 0 = .ok (.aload_n 0, 1) := by decide +kernel
theorem dR_isBetter_1 : decode bR_isBetter 1 = .ok (.aload_n 0, 1) := by decide +kernel
theorem dR_isBetter_2 : decode bR_isBetter 2 = .ok (.getfield 58, 3) := by decide +kernel
theorem dR_isBetter_5 : decode bR_isBetter 5 = .ok (.invokevirtual 103, 3) := by decide +kernel
theorem dR_isBetter_8 : decode bR_isBetter 8 = .ok (.aload_n 0, 1) := by decide +kernel
theorem dR_isBetter_9 : decode bR_isBetter 9 = .ok (.getfield 107, 3) := by decide +kernel
theorem dR_isBetter_12 : decode bR_isBetter 12 = .ok (.lmul, 1) := by decide +kernel
theorem dR_isBetter_13 : decode bR_isBetter 13 = .ok (.lstore_n 1, 1) := by decide +kernel
theorem dR_isBetter_14 : decode bR_isBetter 14 = .ok (.aload_n 0, 1) := by decide +kernel
theorem dR_isBetter_15 : decode bR_isBetter 15 = .ok (.aload_n 0, 1) := by decide +kernel
theorem dR_isBetter_16 : decode bR_isBetter 16 = .ok (.getfield 64, 3) := by decide +kernel
theorem dR_isBetter_19 : decode bR_isBetter 19 = .ok (.invokevirtual 103, 3) := by decide +kernel
theorem dR_isBetter_22 : decode bR_isBetter 22 = .ok (.aload_n 0, 1) := by decide +kernel
theorem dR_isBetter_23 : decode bR_isBetter 23 = .ok (.getfield 87, 3) := by decide +kernel
theorem dR_isBetter_26 : decode bR_isBetter 26 = .ok (.lmul, 1) := by decide +kernel
theorem dR_isBetter_27 : decode bR_isBetter 27 = .ok (.lstore_n 3, 1) := by decide +kernel
theorem dR_isBetter_28 : decode bR_isBetter 28 = .ok (.iconst 0, 1) := by decide +kernel
theorem dR_isBetter_29 : decode bR_isBetter 29 = .ok (.istore 5, 2) := by decide +kernel
theorem dR_isBetter_31 : decode bR_isBetter 31 = .ok (.iload 5, 2) := by decide +kernel
theorem dR_isBetter_33 : decode bR_isBetter 33 = .ok (.aload_n 0, 1) := by decide +kernel
theorem dR_isBetter_34 : decode bR_isBetter 34 = .ok (.getfield 67, 3) := by decide +kernel
theorem dR_isBetter_37 : decode bR_isBetter 37 = .ok (.if_icmp .ge 41, 3) := by decide +kernel
theorem dR_isBetter_40 : decode bR_isBetter 40 = .ok (.lload_n 1, 1) := by decide +kernel
theorem dR_isBetter_41 : decode bR_isBetter 41 = .ok (.lload_n 3, 1) := by decide +kernel
theorem dR_isBetter_42 : decode bR_isBetter 42 = .ok (.lcmp, 1) := by decide +kernel
theorem dR_isBetter_43 : decode bR_isBetter 43 = .ok (.ifCond .ne 35, 3) := by decide +kernel
theorem dR_isBetter_46 : decode bR_isBetter 46 = .ok (.aload_n 0, 1) := by decide +kernel
theorem dR_isBetter_47 : decode bR_isBetter 47 = .ok (.getfield 58, 3) := by decide +kernel
theorem dR_isBetter_50 : decode bR_isBetter 50 = .ok (.iload 5, 2) := by decide +kernel
theorem dR_isBetter_52 : decode bR_isBetter 52 = .ok (.laload, 1) := by decide +kernel
theorem dR_isBetter_53 : decode bR_isBetter 53 = .ok (.aload_n 0, 1) := by decide +kernel
theorem dR_isBetter_54 : decode bR_isBetter 54 = .ok (.getfield 107, 3) := by decide +kernel
theorem dR_isBetter_57 : decode bR_isBetter 57 = .ok (.lmul, 1) := by decide +kernel
theorem dR_isBetter_58 : decode bR_isBetter 58 = .ok (.lstore_n 1, 1) := by decide +kernel
theorem dR_isBetter_59 : decode bR_isBetter 59 = .ok (.aload_n 0, 1) := by decide +kernel
theorem dR_isBetter_60 : decode bR_isBetter 60 = .ok (.getfield 64, 3) := by decide +kernel
theorem dR_isBetter_63 : decode bR_isBetter 63 = .ok (.iload 5, 2) := by decide +kernel
theorem dR_isBetter_65 : decode bR_isBetter 65 = .ok (.laload, 1) := by decide +kernel
theorem dR_isBetter_66 : decode bR_isBetter 66 = .ok (.aload_n 0, 1) := by decide +kernel
theorem dR_isBetter_67 : decode bR_isBetter 67 = .ok (.getfield 87, 3) := by decide +kernel
theorem dR_isBetter_70 : decode bR_isBetter 70 = .ok (.lmul, 1) := by decide +kernel
theorem dR_isBetter_71 : decode bR_isBetter 71 = .ok (.lstore_n 3, 1) := by decide +kernel
theorem dR_isBetter_72 : decode bR_isBetter 72 = .ok (.iinc 5 1, 3) := by decide +kernel
theorem dR_isBetter_75 : decode bR_isBetter 75 = .ok (.goto (-44), 3) := by decide +kernel
theorem dR_isBetter_78 : decode bR_isBetter 78 = .ok (.lload_n 1, 1) := by decide +kernel
theorem dR_isBetter_79 : decode bR_isBetter 79 = .ok (.lload_n 3, 1) := by decide +kernel
theorem dR_isBetter_80 : decode bR_isBetter 80 = .ok (.lcmp, 1) := by decide +kernel
theorem dR_isBetter_81 : decode bR_isBetter 81 = .ok (.ifCond .ge 7, 3) := by decide +kernel
theorem dR_isBetter_84 : decode bR_isBetter 84 = .ok (.iconst 1, 1) := by decide +kernel
theorem dR_isBetter_85 : decode bR_isBetter 85 = .ok (.goto 4, 3) := by decide +kernel
theorem dR_isBetter_88 : decode bR_isBetter 88 = .ok (.iconst 0, 1) := by decide +kernel
theorem dR_isBetter_89 : decode bR_isBetter 89 = .ok (.ireturn, 1) := by decide +kernel
theorem dR_look_0 : decode bR_look 0 = .ok (.aload_n 0, 1) := by decide +kernel
theorem dR_look_1 : decode bR_look 1 = .ok (.iload_n 1, 1) := by decide +kernel
theorem dR_look_2 : decode bR_look 2 = .ok (.invokevirtual 110, 3) := by decide +kernel
theorem dR_look_5 : decode bR_look 5 = .ok (.ifCond .eq 11, 3) := by decide +kernel
theorem dR_look_8 : decode bR_look 8 = .ok (.aload_n 0, 1) := by decide +kernel
theorem dR_look_9 : decode bR_look 9 = .ok (.iload_n 1, 1) := by decide +kernel
theorem dR_look_10 : decode bR_look 10 = .ok (.invokevirtual 113, 3) := by decide +kernel
theorem dR_look_13 : decode bR_look 13 = .ok (.ifCond .ne 5, 3) := by decide +kernel
theorem dR_look_16 : decode bR_look 16 = .ok (.iconst 0, 1) := by decide +kernel
theorem dR_look_17 : decode bR_look 17 = .ok (.ireturn, 1) := by decide +kernel
theorem dR_look_18 : decode bR_look 18 = .ok (.aload_n 0, 1) := by decide +kernel
theorem dR_look_19 : decode bR_look 19 = .ok (.getfield 116, 3) := by decide +kernel
theorem dR_look_22 : decode bR_look 22 = .ok (.ifCond .eq 10, 3) := by decide +kernel
theorem dR_look_25 : decode bR_look 25 = .ok (.aload_n 0, 1) := by decide +kernel
theorem dR_look_26 : decode bR_look 26 = .ok (.invokevirtual 120, 3) := by decide +kernel
theorem dR_look_29 : decode bR_look 29 = .ok (.ifCond .eq 39, 3) := by decide +kernel
theorem dR_look_32 : decode bR_look 32 = .ok (.iconst 0, 1) := by decide +kernel
theorem dR_look_33 : decode bR_look 33 = .ok (.istore_n 2, 1) := by decide +kernel
theorem dR_look_34 : decode bR_look 34 = .ok (.iload_n 2, 1) := by decide +kernel
theorem dR_look_35 : decode bR_look 35 = .ok (.aload_n 0, 1) := by decide +kernel
theorem dR_look_36 : decode bR_look 36 = .ok (.getfield 67, 3) := by decide +kernel
theorem dR_look_39 : decode bR_look 39 = .ok (.if_icmp .ge 21, 3) := by decide +kernel
theorem dR_look_42 : decode bR_look 42 = .ok (.aload_n 0, 1) := by decide +kernel
theorem dR_look_43 : decode bR_look 43 = .ok (.getfield 64, 3) := by decide +kernel
theorem dR_look_46 : decode bR_look 46 = .ok (.iload_n 2, 1) := by decide +kernel
theorem dR_look_47 : decode bR_look 47 = .ok (.aload_n 0, 1) := by decide +kernel
theorem dR_look_48 : decode bR_look 48 = .ok (.getfield 58, 3) := by decide +kernel
theorem dR_look_51 : decode bR_look 51 = .ok (.iload_n 2, 1) := by decide +kernel
theorem dR_look_52 : decode bR_look 52 = .ok (.laload, 1) := by decide +kernel
theorem dR_look_53 : decode bR_look 53 = .ok (.lastore, 1) := by decide +kernel
theorem dR_look_54 : decode bR_look 54 = .ok (.iinc 2 1, 3) := by decide +kernel
theorem dR_look_57 : decode bR_look 57 = .ok (.goto (-23), 3) := by decide +kernel
theorem dR_look_60 : decode bR_look 60 = .ok (.aload_n 0, 1) := by decide +kernel
theorem dR_look_61 : decode bR_look 61 = .ok (.aload_n 0, 1) := by decide +kernel
theorem dR_look_62 : decode bR_look 62 = .ok (.getfield 87, 3) := by decide +kernel
theorem dR_look_65 : decode bR_look 65 = .ok (.putfield 107, 3) := by decide +kernel
theorem dR_look_68 : decode bR_look 68 = .ok (.aload_n 0, 1) := by decide +kernel
theorem dR_look_69 : decode bR_look 69 = .ok (.iconst 1, 1) := by decide +kernel
theorem dR_look_70 : decode bR_look 70 = .ok (.putfield 116, 3) := by decide +kernel
theorem dR_look_73 : decode bR_look 73 = .ok (.iconst 1, 1) := by decide +kernel
theorem dR_look_74 : decode bR_look 74 = .ok (.ireturn, 1) := by decide +kernel
theorem dR_corners_0 : decode bR_corners 0 = .ok (.aload_n 0, 1) := by decide +kernel
theorem dR_corners_1 : decode bR_corners 1 = .ok (.iconst 0, 1) := by decide +kernel
theorem dR_corners_2 : decode bR_corners 2 = .ok (.putfield 98, 3) := by decide +kernel
theorem dR_corners_5 : decode bR_corners 5 = .ok (.iconst 0, 1) := by decide +kernel
theorem dR_corners_6 : decode bR_corners 6 = .ok (.istore_n 3, 1) := by decide +kernel
theorem dR_corners_7 : decode bR_corners 7 = .ok (.iload_n 3, 1) := by decide +kernel
theorem dR_corners_8 : decode bR_corners 8 = .ok (.aload_n 0, 1) := by decide +kernel
theorem dR_corners_9 : decode bR_corners 9 = .ok (.getfield 67, 3) := by decide +kernel
theorem dR_corners_12 : decode bR_corners 12 = .ok (.if_icmp .ge 38, 3) := by decide +kernel
theorem dR_corners_15 : decode bR_corners 15 = .ok (.aload_n 0, 1) := by decide +kernel
theorem dR_corners_16 : decode bR_corners 16 = .ok (.getfield 49, 3) := by decide +kernel
theorem dR_corners_19 : decode bR_corners 19 = .ok (.iload_n 3, 1) := by decide +kernel
theorem dR_corners_20 : decode bR_corners 20 = .ok (.iaload, 1) := by decide +kernel
theorem dR_corners_21 : decode bR_corners 21 = .ok (.ifCond .ge 23, 3) := by decide +kernel
theorem dR_corners_24 : decode bR_corners 24 = .ok (.aload_n 0, 1) := by decide +kernel
theorem dR_corners_25 : decode bR_corners 25 = .ok (.getfield 52, 3) := by decide +kernel
theorem dR_corners_28 : decode bR_corners 28 = .ok (.aload_n 0, 1) := by decide +kernel
theorem dR_corners_29 : decode bR_corners 29 = .ok (.getfield 98, 3) := by decide +kernel
theorem dR_corners_32 : decode bR_corners 32 = .ok (.iload_n 3, 1) := by decide +kernel
theorem dR_corners_33 : decode bR_corners 33 = .ok (.iastore, 1) := by decide +kernel
theorem dR_corners_34 : decode bR_corners 34 = .ok (.aload_n 0, 1) := by decide +kernel
theorem dR_corners_35 : decode bR_corners 35 = .ok (.dup, 1) := by decide +kernel
theorem dR_corners_36 : decode bR_corners 36 = .ok (.getfield 98, 3) := by decide +kernel
theorem dR_corners_39 : decode bR_corners 39 = .ok (.iconst 1, 1) := by decide +kernel
theorem dR_corners_40 : decode bR_corners 40 = .ok (.iadd, 1) := by decide +kernel
theorem dR_corners_41 : decode bR_corners 41 = .ok (.putfield 98, 3) := by decide +kernel
theorem dR_corners_44 : decode bR_corners 44 = .ok (.iinc 3 1, 3) := by decide +kernel
theorem dR_corners_47 : decode bR_corners 47 = .ok (.goto (-40), 3) := by decide +kernel
theorem dR_corners_50 : decode bR_corners 50 = .ok (.aload_n 0, 1) := by decide +kernel
theorem dR_corners_51 : decode bR_corners 51 = .ok (.getfield 98, 3) := by decide +kernel
theorem dR_corners_54 : decode bR_corners 54 = .ok (.iconst 1, 1) := by decide +kernel
theorem dR_corners_55 : decode bR_corners 55 = .ok (.isub, 1) := by decide +kernel
theorem dR_corners_56 : decode bR_corners 56 = .ok (.istore_n 3, 1) := by decide +kernel
theorem dR_corners_57 : decode bR_corners 57 = .ok (.iconst 1, 1) := by decide +kernel
theorem dR_corners_58 : decode bR_corners 58 = .ok (.istore 4, 2) := by decide +kernel
theorem dR_corners_60 : decode bR_corners 60 = .ok (.iload_n 3, 1) := by decide +kernel
theorem dR_corners_61 : decode bR_corners 61 = .ok (.ifCond .le 7, 3) := by decide +kernel
theorem dR_corners_64 : decode bR_corners 64 = .ok (.iconst 0, 1) := by decide +kernel
theorem dR_corners_65 : decode bR_corners 65 = .ok (.goto 5, 3) := by decide +kernel
theorem dR_corners_68 : decode bR_corners 68 = .ok (.bipush 21, 2) := by decide +kernel
theorem dR_corners_70 : decode bR_corners 70 = .ok (.istore 5, 2) := by decide +kernel
theorem dR_corners_72 : decode bR_corners 72 = .ok (.iload 5, 2) := by decide +kernel
theorem dR_corners_74 : decode bR_corners 74 = .ok (.bipush 22, 2) := by decide +kernel
theorem dR_corners_76 : decode bR_corners 76 = .ok (.if_icmp .ge 179, 3) := by decide +kernel
theorem dR_corners_79 : decode bR_corners 79 = .ok (.iload 4, 2) := by decide +kernel
theorem dR_corners_81 : decode bR_corners 81 = .ok (.ifCond .eq 174, 3) := by decide +kernel
theorem dR_corners_84 : decode bR_corners 84 = .ok (.iload_n 3, 1) := by decide +kernel
theorem dR_corners_85 : decode bR_corners 85 = .ok (.ifCond .le 16, 3) := by decide +kernel
theorem dR_corners_88 : decode bR_corners 88 = .ok (.aload_n 0, 1) := by decide +kernel
theorem dR_corners_89 : decode bR_corners 89 = .ok (.getfield 45, 3) := by decide +kernel
theorem dR_corners_92 : decode bR_corners 92 = .ok (.iload 5, 2) := by decide +kernel
theorem dR_corners_94 : decode bR_corners 94 = .ok (.baload, 1) := by decide +kernel
theorem dR_corners_95 : decode bR_corners 95 = .ok (.ifCond .ne 6, 3) := by decide +kernel
theorem dR_corners_98 : decode bR_corners 98 = .ok (.goto 151, 3) := by decide +kernel
theorem dR_corners_101 : decode bR_corners 101 = .ok (.iload_n 3, 1) := by decide +kernel
theorem dR_corners_102 : decode bR_corners 102 = .ok (.iconst 1, 1) := by decide +kernel
theorem dR_corners_103 : decode bR_corners 103 = .ok (.if_icmp .le 10, 3) := by decide +kernel
theorem dR_corners_106 : decode bR_corners 106 = .ok (.iload 5, 2) := by decide +kernel
theorem dR_corners_108 : decode bR_corners 108 = .ok (.iconst 1, 1) := by decide +kernel
theorem dR_corners_109 : decode bR_corners 109 = .ok (.iadd, 1) := by decide +kernel
theorem dR_corners_110 : decode bR_corners 110 = .ok (.goto 5, 3) := by decide +kernel
theorem dR_corners_113 : decode bR_corners 113 = .ok (.bipush 21, 2) := by decide +kernel
theorem dR_corners_115 : decode bR_corners 115 = .ok (.istore 6, 2) := by decide +kernel
theorem dR_corners_117 : decode bR_corners 117 = .ok (.iload 6, 2) := by decide +kernel
theorem dR_corners_119 : decode bR_corners 119 = .ok (.bipush 22, 2) := by decide +kernel
theorem dR_corners_121 : decode bR_corners 121 = .ok (.if_icmp .ge 128, 3) := by decide +kernel
theorem dR_corners_124 : decode bR_corners 124 = .ok (.iload 4, 2) := by decide +kernel
theorem dR_corners_126 : decode bR_corners 126 = .ok (.ifCond .eq 123, 3) := by decide +kernel
theorem dR_corners_129 : decode bR_corners 129 = .ok (.iload_n 3, 1) := by decide +kernel
theorem dR_corners_130 : decode bR_corners 130 = .ok (.iconst 1, 1) := by decide +kernel
theorem dR_corners_131 : decode bR_corners 131 = .ok (.if_icmp .le 16, 3) := by decide +kernel
theorem dR_corners_134 : decode bR_corners 134 = .ok (.aload_n 0, 1) := by decide +kernel
theorem dR_corners_135 : decode bR_corners 135 = .ok (.getfield 45, 3) := by decide +kernel
theorem dR_corners_138 : decode bR_corners 138 = .ok (.iload 6, 2) := by decide +kernel
theorem dR_corners_140 : decode bR_corners 140 = .ok (.baload, 1) := by decide +kernel
theorem dR_corners_141 : decode bR_corners 141 = .ok (.ifCond .ne 6, 3) := by decide +kernel
theorem dR_corners_144 : decode bR_corners 144 = .ok (.goto 99, 3) := by decide +kernel
theorem dR_corners_147 : decode bR_corners 147 = .ok (.iload_n 3, 1) := by decide +kernel
theorem dR_corners_148 : decode bR_corners 148 = .ok (.iconst 2, 1) := by decide +kernel
theorem dR_corners_149 : decode bR_corners 149 = .ok (.if_icmp .le 10, 3) := by decide +kernel
theorem dR_corners_152 : decode bR_corners 152 = .ok (.iload 6, 2) := by decide +kernel
theorem dR_corners_154 : decode bR_corners 154 = .ok (.iconst 1, 1) := by decide +kernel
theorem dR_corners_155 : decode bR_corners 155 = .ok (.iadd, 1) := by decide +kernel
theorem dR_corners_156 : decode bR_corners 156 = .ok (.goto 5, 3) := by decide +kernel
theorem dR_corners_159 : decode bR_corners 159 = .ok (.bipush 21, 2) := by decide +kernel
theorem dR_corners_161 : decode bR_corners 161 = .ok (.istore 7, 2) := by decide +kernel
theorem dR_corners_163 : decode bR_corners 163 = .ok (.iload 7, 2) := by decide +kernel
theorem dR_corners_165 : decode bR_corners 165 = .ok (.bipush 22, 2) := by decide +kernel
theorem dR_corners_167 : decode bR_corners 167 = .ok (.if_icmp .ge 76, 3) := by decide +kernel
theorem dR_corners_170 : decode bR_corners 170 = .ok (.iload 4, 2) := by decide +kernel
theorem dR_corners_172 : decode bR_corners 172 = .ok (.ifCond .eq 71, 3) := by decide +kernel
theorem dR_corners_175 : decode bR_corners 175 = .ok (.iload_n 3, 1) := by decide +kernel
theorem dR_corners_176 : decode bR_corners 176 = .ok (.iconst 2, 1) := by decide +kernel
theorem dR_corners_177 : decode bR_corners 177 = .ok (.if_icmp .le 13, 3) := by decide +kernel
theorem dR_corners_180 : decode bR_corners 180 = .ok (.aload_n 0, 1) := by decide +kernel
theorem dR_corners_181 : decode bR_corners 181 = .ok (.getfield 45, 3) := by decide +kernel
theorem dR_corners_184 : decode bR_corners 184 = .ok (.iload 7, 2) := by decide +kernel
theorem dR_corners_186 : decode bR_corners 186 = .ok (.baload, 1) := by decide +kernel
theorem dR_corners_187 : decode bR_corners 187 = .ok (.ifCond .eq 50, 3) := by decide +kernel
theorem dR_corners_190 : decode bR_corners 190 = .ok (.aload_n 0, 1) := by decide +kernel
theorem dR_corners_191 : decode bR_corners 191 = .ok (.getfield 61, 3) := by decide +kernel
theorem dR_corners_194 : decode bR_corners 194 = .ok (.iconst 0, 1) := by decide +kernel
theorem dR_corners_195 : decode bR_corners 195 = .ok (.iload 5, 2) := by decide +kernel
theorem dR_corners_197 : decode bR_corners 197 = .ok (.iastore, 1) := by decide +kernel
theorem dR_corners_198 : decode bR_corners 198 = .ok (.aload_n 0, 1) := by decide +kernel
theorem dR_corners_199 : decode bR_corners 199 = .ok (.getfield 61, 3) := by decide +kernel
theorem dR_corners_202 : decode bR_corners 202 = .ok (.iconst 1, 1) := by decide +kernel
theorem dR_corners_203 : decode bR_corners 203 = .ok (.iload 6, 2) := by decide +kernel
theorem dR_corners_205 : decode bR_corners 205 = .ok (.iastore, 1) := by decide +kernel
theorem dR_corners_206 : decode bR_corners 206 = .ok (.aload_n 0, 1) := by decide +kernel
theorem dR_corners_207 : decode bR_corners 207 = .ok (.getfield 61, 3) := by decide +kernel
theorem dR_corners_210 : decode bR_corners 210 = .ok (.iconst 2, 1) := by decide +kernel
theorem dR_corners_211 : decode bR_corners 211 = .ok (.iload 7, 2) := by decide +kernel
theorem dR_corners_213 : decode bR_corners 213 = .ok (.iastore, 1) := by decide +kernel
theorem dR_corners_214 : decode bR_corners 214 = .ok (.aload_n 0, 1) := by decide +kernel
theorem dR_corners_215 : decode bR_corners 215 = .ok (.iload_n 1, 1) := by decide +kernel
theorem dR_corners_216 : decode bR_corners 216 = .ok (.invokevirtual 124, 3) := by decide +kernel
theorem dR_corners_219 : decode bR_corners 219 = .ok (.istore 8, 2) := by decide +kernel
theorem dR_corners_221 : decode bR_corners 221 = .ok (.iload 8, 2) := by decide +kernel
theorem dR_corners_223 : decode bR_corners 223 = .ok (.ifCond .eq 7, 3) := by decide +kernel
theorem dR_corners_226 : decode bR_corners 226 = .ok (.iload_n 2, 1) := by decide +kernel
theorem dR_corners_227 : decode bR_corners 227 = .ok (.ifCond .ne 7, 3) := by decide +kernel
theorem dR_corners_230 : decode bR_corners 230 = .ok (.iconst 1, 1) := by decide +kernel
theorem dR_corners_231 : decode bR_corners 231 = .ok (.goto 4, 3) := by decide +kernel
theorem dR_corners_234 : decode bR_corners 234 = .ok (.iconst 0, 1) := by decide +kernel
theorem dR_corners_235 : decode bR_corners 235 = .ok (.istore 4, 2) := by decide +kernel
theorem dR_corners_237 : decode bR_corners 237 = .ok (.iinc 7 1, 3) := by decide +kernel
theorem dR_corners_240 : decode bR_corners 240 = .ok (.goto (-77), 3) := by decide +kernel
theorem dR_corners_243 : decode bR_corners 243 = .ok (.iinc 6 1, 3) := by decide +kernel
theorem dR_corners_246 : decode bR_corners 246 = .ok (.goto (-129), 3) := by decide +kernel
theorem dR_corners_249 : decode bR_corners 249 = .ok (.iinc 5 1, 3) := by decide +kernel
theorem dR_corners_252 : decode bR_corners 252 = .ok (.goto (-180), 3) := by decide +kernel
theorem dR_corners_255 : decode bR_corners 255 = .ok (.return_, 1) := by decide +kernel
theorem dR_countAll_0 : decode bR_countAll 0 = .ok (.iconst 0, 1) := by decide +kernel
theorem dR_countAll_1 : decode bR_countAll 1 = .ok (.istore_n 1, 1) := by decide +kernel
theorem dR_countAll_2 : decode bR_countAll 2 = .ok (.iload_n 1, 1) := by decide +kernel
theorem dR_countAll_3 : decode bR_countAll 3 = .ok (.bipush 22, 2) := by decide +kernel
theorem dR_countAll_5 : decode bR_countAll 5 = .ok (.if_icmp .ge 20, 3) := by decide +kernel
theorem dR_countAll_8 : decode bR_countAll 8 = .ok (.aload_n 0, 1) := by decide +kernel
theorem dR_countAll_9 : decode bR_countAll 9 = .ok (.getfield 45, 3) := by decide +kernel
theorem dR_countAll_12 : decode bR_countAll 12 = .ok (.iload_n 1, 1) := by decide +kernel
theorem dR_countAll_13 : decode bR_countAll 13 = .ok (.aload_n 0, 1) := by decide +kernel
theorem dR_countAll_14 : decode bR_countAll 14 = .ok (.iload_n 1, 1) := by decide +kernel
theorem dR_countAll_15 : decode bR_countAll 15 = .ok (.invokevirtual 127, 3) := by decide +kernel
theorem dR_countAll_18 : decode bR_countAll 18 = .ok (.bastore, 1) := by decide +kernel
theorem dR_countAll_19 : decode bR_countAll 19 = .ok (.iinc 1 1, 3) := by decide +kernel
theorem dR_countAll_22 : decode bR_countAll 22 = .ok (.goto (-20), 3) := by decide +kernel
theorem dR_countAll_25 : decode bR_countAll 25 = .ok (.return_, 1) := by decide +kernel
theorem dR_freeAll_0 : decode bR_freeAll 0 = .ok (.iconst 0, 1) := by decide +kernel
theorem dR_freeAll_1 : decode bR_freeAll 1 = .ok (.istore_n 1, 1) := by decide +kernel
theorem dR_freeAll_2 : decode bR_freeAll 2 = .ok (.iload_n 1, 1) := by decide +kernel
theorem dR_freeAll_3 : decode bR_freeAll 3 = .ok (.iconst 4, 1) := by decide +kernel
theorem dR_freeAll_4 : decode bR_freeAll 4 = .ok (.if_icmp .ge 16, 3) := by decide +kernel
theorem dR_freeAll_7 : decode bR_freeAll 7 = .ok (.aload_n 0, 1) := by decide +kernel
theorem dR_freeAll_8 : decode bR_freeAll 8 = .ok (.getfield 49, 3) := by decide +kernel
theorem dR_freeAll_11 : decode bR_freeAll 11 = .ok (.iload_n 1, 1) := by decide +kernel
theorem dR_freeAll_12 : decode bR_freeAll 12 = .ok (.iconst (-1), 1) := by decide +kernel
theorem dR_freeAll_13 : decode bR_freeAll 13 = .ok (.iastore, 1) := by decide +kernel
theorem dR_freeAll_14 : decode bR_freeAll 14 = .ok (.iinc 1 1, 3) := by decide +kernel
theorem dR_freeAll_17 : decode bR_freeAll 17 = .ok (.goto (-15), 3) := by decide +kernel
theorem dR_freeAll_20 : decode bR_freeAll 20 = .ok (.return_, 1) := by decide +kernel
theorem dR_isPossible_0 : decode bR_isPossible 0 = .ok (.aload_n 0, 1) := by decide +kernel
theorem dR_isPossible_1 : decode bR_isPossible 1 = .ok (.iconst 0, 1) := by decide +kernel
theorem dR_isPossible_2 : decode bR_isPossible 2 = .ok (.putfield 116, 3) := by decide +kernel
theorem dR_isPossible_5 : decode bR_isPossible 5 = .ok (.aload_n 0, 1) := by decide +kernel
theorem dR_isPossible_6 : decode bR_isPossible 6 = .ok (.invokevirtual 130, 3) := by decide +kernel
theorem dR_isPossible_9 : decode bR_isPossible 9 = .ok (.aload_n 0, 1) := by decide +kernel
theorem dR_isPossible_10 : decode bR_isPossible 10 = .ok (.iload_n 1, 1) := by decide +kernel
theorem dR_isPossible_11 : decode bR_isPossible 11 = .ok (.iconst 1, 1) := by decide +kernel
theorem dR_isPossible_12 : decode bR_isPossible 12 = .ok (.invokevirtual 133, 3) := by decide +kernel
theorem dR_isPossible_15 : decode bR_isPossible 15 = .ok (.aload_n 0, 1) := by decide +kernel
theorem dR_isPossible_16 : decode bR_isPossible 16 = .ok (.getfield 116, 3) := by decide +kernel
theorem dR_isPossible_19 : decode bR_isPossible 19 = .ok (.ireturn, 1) := by decide +kernel
theorem dR_most_0 : decode bR_most 0 = .ok (.iload_n 1, 1) := by decide +kernel
theorem dR_most_1 : decode bR_most 1 = .ok (.aload_n 0, 1) := by decide +kernel
theorem dR_most_2 : decode bR_most 2 = .ok (.getfield 67, 3) := by decide +kernel
theorem dR_most_5 : decode bR_most 5 = .ok (.if_icmp .ge 28, 3) := by decide +kernel
theorem dR_most_8 : decode bR_most 8 = .ok (.aload_n 0, 1) := by decide +kernel
theorem dR_most_9 : decode bR_most 9 = .ok (.getfield 25, 3) := by decide +kernel
theorem dR_most_12 : decode bR_most 12 = .ok (.iload_n 1, 1) := by decide +kernel
theorem dR_most_13 : decode bR_most 13 = .ok (.iaload, 1) := by decide +kernel
theorem dR_most_14 : decode bR_most 14 = .ok (.ifCond .le 19, 3) := by decide +kernel
theorem dR_most_17 : decode bR_most 17 = .ok (.aload_n 0, 1) := by decide +kernel
theorem dR_most_18 : decode bR_most 18 = .ok (.getfield 13, 3) := by decide +kernel
theorem dR_most_21 : decode bR_most 21 = .ok (.iload_n 1, 1) := by decide +kernel
theorem dR_most_22 : decode bR_most 22 = .ok (.iaload, 1) := by decide +kernel
theorem dR_most_23 : decode bR_most 23 = .ok (.aload_n 0, 1) := by decide +kernel
theorem dR_most_24 : decode bR_most 24 = .ok (.getfield 25, 3) := by decide +kernel
theorem dR_most_27 : decode bR_most 27 = .ok (.iload_n 1, 1) := by decide +kernel
theorem dR_most_28 : decode bR_most 28 = .ok (.iaload, 1) := by decide +kernel
theorem dR_most_29 : decode bR_most 29 = .ok (.idiv, 1) := by decide +kernel
theorem dR_most_30 : decode bR_most 30 = .ok (.goto 4, 3) := by decide +kernel
theorem dR_most_33 : decode bR_most 33 = .ok (.iconst 0, 1) := by decide +kernel
theorem dR_most_34 : decode bR_most 34 = .ok (.ireturn, 1) := by decide +kernel
theorem dR_fix_0 : decode bR_fix 0 = .ok (.aload_n 0, 1) := by decide +kernel
theorem dR_fix_1 : decode bR_fix 1 = .ok (.getfield 49, 3) := by decide +kernel
theorem dR_fix_4 : decode bR_fix 4 = .ok (.iload_n 1, 1) := by decide +kernel
theorem dR_fix_5 : decode bR_fix 5 = .ok (.iload_n 1, 1) := by decide +kernel
theorem dR_fix_6 : decode bR_fix 6 = .ok (.aload_n 0, 1) := by decide +kernel
theorem dR_fix_7 : decode bR_fix 7 = .ok (.getfield 67, 3) := by decide +kernel
theorem dR_fix_10 : decode bR_fix 10 = .ok (.if_icmp .ge 23, 3) := by decide +kernel
theorem dR_fix_13 : decode bR_fix 13 = .ok (.aload_n 0, 1) := by decide +kernel
theorem dR_fix_14 : decode bR_fix 14 = .ok (.getfield 25, 3) := by decide +kernel
theorem dR_fix_17 : decode bR_fix 17 = .ok (.iload_n 1, 1) := by decide +kernel
theorem dR_fix_18 : decode bR_fix 18 = .ok (.iaload, 1) := by decide +kernel
theorem dR_fix_19 : decode bR_fix 19 = .ok (.ifCond .le 14, 3) := by decide +kernel
theorem dR_fix_22 : decode bR_fix 22 = .ok (.iload_n 2, 1) := by decide +kernel
theorem dR_fix_23 : decode bR_fix 23 = .ok (.aload_n 0, 1) := by decide +kernel
theorem dR_fix_24 : decode bR_fix 24 = .ok (.getfield 25, 3) := by decide +kernel
theorem dR_fix_27 : decode bR_fix 27 = .ok (.iload_n 1, 1) := by decide +kernel
theorem dR_fix_28 : decode bR_fix 28 = .ok (.iaload, 1) := by decide +kernel
theorem dR_fix_29 : decode bR_fix 29 = .ok (.imul, 1) := by decide +kernel
theorem dR_fix_30 : decode bR_fix 30 = .ok (.goto 4, 3) := by decide +kernel
theorem dR_fix_33 : decode bR_fix 33 = .ok (.iconst (-1), 1) := by decide +kernel
theorem dR_fix_34 : decode bR_fix 34 = .ok (.iastore, 1) := by decide +kernel
theorem dR_fix_35 : decode bR_fix 35 = .ok (.return_, 1) := by decide +kernel
theorem dR_mixes_0 : decode bR_mixes 0 = .ok (.aload_n 0, 1) := by decide +kernel
theorem dR_mixes_1 : decode bR_mixes 1 = .ok (.invokevirtual 137, 3) := by decide +kernel
theorem dR_mixes_4 : decode bR_mixes 4 = .ok (.aload_n 0, 1) := by decide +kernel
theorem dR_mixes_5 : decode bR_mixes 5 = .ok (.iconst 0, 1) := by decide +kernel
theorem dR_mixes_6 : decode bR_mixes 6 = .ok (.putfield 116, 3) := by decide +kernel
theorem dR_mixes_9 : decode bR_mixes 9 = .ok (.iconst 0, 1) := by decide +kernel
theorem dR_mixes_10 : decode bR_mixes 10 = .ok (.istore_n 2, 1) := by decide +kernel
theorem dR_mixes_11 : decode bR_mixes 11 = .ok (.iload_n 2, 1) := by decide +kernel
theorem dR_mixes_12 : decode bR_mixes 12 = .ok (.aload_n 0, 1) := by decide +kernel
theorem dR_mixes_13 : decode bR_mixes 13 = .ok (.iconst 0, 1) := by decide +kernel
theorem dR_mixes_14 : decode bR_mixes 14 = .ok (.invokevirtual 140, 3) := by decide +kernel
theorem dR_mixes_17 : decode bR_mixes 17 = .ok (.if_icmp .gt 96, 3) := by decide +kernel
theorem dR_mixes_20 : decode bR_mixes 20 = .ok (.iconst 0, 1) := by decide +kernel
theorem dR_mixes_21 : decode bR_mixes 21 = .ok (.istore_n 3, 1) := by decide +kernel
theorem dR_mixes_22 : decode bR_mixes 22 = .ok (.iload_n 3, 1) := by decide +kernel
theorem dR_mixes_23 : decode bR_mixes 23 = .ok (.aload_n 0, 1) := by decide +kernel
theorem dR_mixes_24 : decode bR_mixes 24 = .ok (.iconst 1, 1) := by decide +kernel
theorem dR_mixes_25 : decode bR_mixes 25 = .ok (.invokevirtual 140, 3) := by decide +kernel
theorem dR_mixes_28 : decode bR_mixes 28 = .ok (.if_icmp .gt 79, 3) := by decide +kernel
theorem dR_mixes_31 : decode bR_mixes 31 = .ok (.iconst 0, 1) := by decide +kernel
theorem dR_mixes_32 : decode bR_mixes 32 = .ok (.istore 4, 2) := by decide +kernel
theorem dR_mixes_34 : decode bR_mixes 34 = .ok (.iload 4, 2) := by decide +kernel
theorem dR_mixes_36 : decode bR_mixes 36 = .ok (.aload_n 0, 1) := by decide +kernel
theorem dR_mixes_37 : decode bR_mixes 37 = .ok (.iconst 2, 1) := by decide +kernel
theorem dR_mixes_38 : decode bR_mixes 38 = .ok (.invokevirtual 140, 3) := by decide +kernel
theorem dR_mixes_41 : decode bR_mixes 41 = .ok (.if_icmp .gt 60, 3) := by decide +kernel
theorem dR_mixes_44 : decode bR_mixes 44 = .ok (.iconst 0, 1) := by decide +kernel
theorem dR_mixes_45 : decode bR_mixes 45 = .ok (.istore 5, 2) := by decide +kernel
theorem dR_mixes_47 : decode bR_mixes 47 = .ok (.iload 5, 2) := by decide +kernel
theorem dR_mixes_49 : decode bR_mixes 49 = .ok (.aload_n 0, 1) := by decide +kernel
theorem dR_mixes_50 : decode bR_mixes 50 = .ok (.iconst 3, 1) := by decide +kernel
theorem dR_mixes_51 : decode bR_mixes 51 = .ok (.invokevirtual 140, 3) := by decide +kernel
theorem dR_mixes_54 : decode bR_mixes 54 = .ok (.if_icmp .gt 41, 3) := by decide +kernel
theorem dR_mixes_57 : decode bR_mixes 57 = .ok (.aload_n 0, 1) := by decide +kernel
theorem dR_mixes_58 : decode bR_mixes 58 = .ok (.iconst 0, 1) := by decide +kernel
theorem dR_mixes_59 : decode bR_mixes 59 = .ok (.iload_n 2, 1) := by decide +kernel
theorem dR_mixes_60 : decode bR_mixes 60 = .ok (.invokevirtual 144, 3) := by decide +kernel
theorem dR_mixes_63 : decode bR_mixes 63 = .ok (.aload_n 0, 1) := by decide +kernel
theorem dR_mixes_64 : decode bR_mixes 64 = .ok (.iconst 1, 1) := by decide +kernel
theorem dR_mixes_65 : decode bR_mixes 65 = .ok (.iload_n 3, 1) := by decide +kernel
theorem dR_mixes_66 : decode bR_mixes 66 = .ok (.invokevirtual 144, 3) := by decide +kernel
theorem dR_mixes_69 : decode bR_mixes 69 = .ok (.aload_n 0, 1) := by decide +kernel
theorem dR_mixes_70 : decode bR_mixes 70 = .ok (.iconst 2, 1) := by decide +kernel
theorem dR_mixes_71 : decode bR_mixes 71 = .ok (.iload 4, 2) := by decide +kernel
theorem dR_mixes_73 : decode bR_mixes 73 = .ok (.invokevirtual 144, 3) := by decide +kernel
theorem dR_mixes_76 : decode bR_mixes 76 = .ok (.aload_n 0, 1) := by decide +kernel
theorem dR_mixes_77 : decode bR_mixes 77 = .ok (.iconst 3, 1) := by decide +kernel
theorem dR_mixes_78 : decode bR_mixes 78 = .ok (.iload 5, 2) := by decide +kernel
theorem dR_mixes_80 : decode bR_mixes 80 = .ok (.invokevirtual 144, 3) := by decide +kernel
theorem dR_mixes_83 : decode bR_mixes 83 = .ok (.aload_n 0, 1) := by decide +kernel
theorem dR_mixes_84 : decode bR_mixes 84 = .ok (.iload_n 1, 1) := by decide +kernel
theorem dR_mixes_85 : decode bR_mixes 85 = .ok (.iconst 0, 1) := by decide +kernel
theorem dR_mixes_86 : decode bR_mixes 86 = .ok (.invokevirtual 133, 3) := by decide +kernel
theorem dR_mixes_89 : decode bR_mixes 89 = .ok (.iinc 5 1, 3) := by decide +kernel
theorem dR_mixes_92 : decode bR_mixes 92 = .ok (.goto (-45), 3) := by decide +kernel
theorem dR_mixes_95 : decode bR_mixes 95 = .ok (.iinc 4 1, 3) := by decide +kernel
theorem dR_mixes_98 : decode bR_mixes 98 = .ok (.goto (-64), 3) := by decide +kernel
theorem dR_mixes_101 : decode bR_mixes 101 = .ok (.iinc 3 1, 3) := by decide +kernel
theorem dR_mixes_104 : decode bR_mixes 104 = .ok (.goto (-82), 3) := by decide +kernel
theorem dR_mixes_107 : decode bR_mixes 107 = .ok (.iinc 2 1, 3) := by decide +kernel
theorem dR_mixes_110 : decode bR_mixes 110 = .ok (.goto (-99), 3) := by decide +kernel
theorem dR_mixes_113 : decode bR_mixes 113 = .ok (.aload_n 0, 1) := by decide +kernel
theorem dR_mixes_114 : decode bR_mixes 114 = .ok (.getfield 116, 3) := by decide +kernel
theorem dR_mixes_117 : decode bR_mixes 117 = .ok (.ireturn, 1) := by decide +kernel
theorem dR_divisor_0 : decode bR_divisor 0 = .ok (.lload_n 0, 1) := by decide +kernel
theorem dR_divisor_1 : decode bR_divisor 1 = .ok (.lconst 0, 1) := by decide +kernel
theorem dR_divisor_2 : decode bR_divisor 2 = .ok (.lcmp, 1) := by decide +kernel
theorem dR_divisor_3 : decode bR_divisor 3 = .ok (.ifCond .ge 8, 3) := by decide +kernel
theorem dR_divisor_6 : decode bR_divisor 6 = .ok (.lload_n 0, 1) := by decide +kernel
theorem dR_divisor_7 : decode bR_divisor 7 = .ok (.lneg, 1) := by decide +kernel
theorem dR_divisor_8 : decode bR_divisor 8 = .ok (.goto 4, 3) := by decide +kernel
theorem dR_divisor_11 : decode bR_divisor 11 = .ok (.lload_n 0, 1) := by decide +kernel
theorem dR_divisor_12 : decode bR_divisor 12 = .ok (.lstore 4, 2) := by decide +kernel
theorem dR_divisor_14 : decode bR_divisor 14 = .ok (.lload_n 2, 1) := by decide +kernel
theorem dR_divisor_15 : decode bR_divisor 15 = .ok (.lstore 6, 2) := by decide +kernel
theorem dR_divisor_17 : decode bR_divisor 17 = .ok (.lload 6, 2) := by decide +kernel
theorem dR_divisor_19 : decode bR_divisor 19 = .ok (.lconst 0, 1) := by decide +kernel
theorem dR_divisor_20 : decode bR_divisor 20 = .ok (.lcmp, 1) := by decide +kernel
theorem dR_divisor_21 : decode bR_divisor 21 = .ok (.ifCond .eq 21, 3) := by decide +kernel
theorem dR_divisor_24 : decode bR_divisor 24 = .ok (.lload 4, 2) := by decide +kernel
theorem dR_divisor_26 : decode bR_divisor 26 = .ok (.lload 6, 2) := by decide +kernel
theorem dR_divisor_28 : decode bR_divisor 28 = .ok (.lrem, 1) := by decide +kernel
theorem dR_divisor_29 : decode bR_divisor 29 = .ok (.lstore 8, 2) := by decide +kernel
theorem dR_divisor_31 : decode bR_divisor 31 = .ok (.lload 6, 2) := by decide +kernel
theorem dR_divisor_33 : decode bR_divisor 33 = .ok (.lstore 4, 2) := by decide +kernel
theorem dR_divisor_35 : decode bR_divisor 35 = .ok (.lload 8, 2) := by decide +kernel
theorem dR_divisor_37 : decode bR_divisor 37 = .ok (.lstore 6, 2) := by decide +kernel
theorem dR_divisor_39 : decode bR_divisor 39 = .ok (.goto (-22), 3) := by decide +kernel
theorem dR_divisor_42 : decode bR_divisor 42 = .ok (.lload 4, 2) := by decide +kernel
theorem dR_divisor_44 : decode bR_divisor 44 = .ok (.lreturn, 1) := by decide +kernel
theorem dR_keepMix_0 : decode bR_keepMix 0 = .ok (.aload_n 0, 1) := by decide +kernel
theorem dR_keepMix_1 : decode bR_keepMix 1 = .ok (.iconst 0, 1) := by decide +kernel
theorem dR_keepMix_2 : decode bR_keepMix 2 = .ok (.putfield 34, 3) := by decide +kernel
theorem dR_keepMix_5 : decode bR_keepMix 5 = .ok (.aload_n 0, 1) := by decide +kernel
theorem dR_keepMix_6 : decode bR_keepMix 6 = .ok (.iconst 0, 1) := by decide +kernel
theorem dR_keepMix_7 : decode bR_keepMix 7 = .ok (.putfield 148, 3) := by decide +kernel
theorem dR_keepMix_10 : decode bR_keepMix 10 = .ok (.iconst 0, 1) := by decide +kernel
theorem dR_keepMix_11 : decode bR_keepMix 11 = .ok (.istore_n 2, 1) := by decide +kernel
theorem dR_keepMix_12 : decode bR_keepMix 12 = .ok (.iload_n 2, 1) := by decide +kernel
theorem dR_keepMix_13 : decode bR_keepMix 13 = .ok (.aload_n 0, 1) := by decide +kernel
theorem dR_keepMix_14 : decode bR_keepMix 14 = .ok (.getfield 67, 3) := by decide +kernel
theorem dR_keepMix_17 : decode bR_keepMix 17 = .ok (.if_icmp .ge 49, 3) := by decide +kernel
theorem dR_keepMix_20 : decode bR_keepMix 20 = .ok (.aload_n 0, 1) := by decide +kernel
theorem dR_keepMix_21 : decode bR_keepMix 21 = .ok (.getfield 64, 3) := by decide +kernel
theorem dR_keepMix_24 : decode bR_keepMix 24 = .ok (.iload_n 2, 1) := by decide +kernel
theorem dR_keepMix_25 : decode bR_keepMix 25 = .ok (.laload, 1) := by decide +kernel
theorem dR_keepMix_26 : decode bR_keepMix 26 = .ok (.aload_n 0, 1) := by decide +kernel
theorem dR_keepMix_27 : decode bR_keepMix 27 = .ok (.getfield 107, 3) := by decide +kernel
theorem dR_keepMix_30 : decode bR_keepMix 30 = .ok (.invokestatic 151, 3) := by decide +kernel
theorem dR_keepMix_33 : decode bR_keepMix 33 = .ok (.lstore_n 3, 1) := by decide +kernel
theorem dR_keepMix_34 : decode bR_keepMix 34 = .ok (.aload_n 0, 1) := by decide +kernel
theorem dR_keepMix_35 : decode bR_keepMix 35 = .ok (.getfield 38, 3) := by decide +kernel
theorem dR_keepMix_38 : decode bR_keepMix 38 = .ok (.iload_n 2, 1) := by decide +kernel
theorem dR_keepMix_39 : decode bR_keepMix 39 = .ok (.aload_n 0, 1) := by decide +kernel
theorem dR_keepMix_40 : decode bR_keepMix 40 = .ok (.getfield 64, 3) := by decide +kernel
theorem dR_keepMix_43 : decode bR_keepMix 43 = .ok (.iload_n 2, 1) := by decide +kernel
theorem dR_keepMix_44 : decode bR_keepMix 44 = .ok (.laload, 1) := by decide +kernel
theorem dR_keepMix_45 : decode bR_keepMix 45 = .ok (.lload_n 3, 1) := by decide +kernel
theorem dR_keepMix_46 : decode bR_keepMix 46 = .ok (.ldiv, 1) := by decide +kernel
theorem dR_keepMix_47 : decode bR_keepMix 47 = .ok (.lastore, 1) := by decide +kernel
theorem dR_keepMix_48 : decode bR_keepMix 48 = .ok (.aload_n 0, 1) := by decide +kernel
theorem dR_keepMix_49 : decode bR_keepMix 49 = .ok (.getfield 42, 3) := by decide +kernel
theorem dR_keepMix_52 : decode bR_keepMix 52 = .ok (.iload_n 2, 1) := by decide +kernel
theorem dR_keepMix_53 : decode bR_keepMix 53 = .ok (.aload_n 0, 1) := by decide +kernel
theorem dR_keepMix_54 : decode bR_keepMix 54 = .ok (.getfield 107, 3) := by decide +kernel
theorem dR_keepMix_57 : decode bR_keepMix 57 = .ok (.lload_n 3, 1) := by decide +kernel
theorem dR_keepMix_58 : decode bR_keepMix 58 = .ok (.ldiv, 1) := by decide +kernel
theorem dR_keepMix_59 : decode bR_keepMix 59 = .ok (.lastore, 1) := by decide +kernel
theorem dR_keepMix_60 : decode bR_keepMix 60 = .ok (.iinc 2 1, 3) := by decide +kernel
theorem dR_keepMix_63 : decode bR_keepMix 63 = .ok (.goto (-51), 3) := by decide +kernel
theorem dR_keepMix_66 : decode bR_keepMix 66 = .ok (.aload_n 0, 1) := by decide +kernel
theorem dR_keepMix_67 : decode bR_keepMix 67 = .ok (.aload_n 0, 1) := by decide +kernel
theorem dR_keepMix_68 : decode bR_keepMix 68 = .ok (.getfield 64, 3) := by decide +kernel
theorem dR_keepMix_71 : decode bR_keepMix 71 = .ok (.invokevirtual 103, 3) := by decide +kernel
theorem dR_keepMix_74 : decode bR_keepMix 74 = .ok (.lstore_n 2, 1) := by decide +kernel
theorem dR_keepMix_75 : decode bR_keepMix 75 = .ok (.lload_n 2, 1) := by decide +kernel
theorem dR_keepMix_76 : decode bR_keepMix 76 = .ok (.aload_n 0, 1) := by decide +kernel
theorem dR_keepMix_77 : decode bR_keepMix 77 = .ok (.getfield 107, 3) := by decide +kernel
theorem dR_keepMix_80 : decode bR_keepMix 80 = .ok (.invokestatic 151, 3) := by decide +kernel
theorem dR_keepMix_83 : decode bR_keepMix 83 = .ok (.lstore 4, 2) := by decide +kernel
theorem dR_keepMix_85 : decode bR_keepMix 85 = .ok (.aload_n 0, 1) := by decide +kernel
theorem dR_keepMix_86 : decode bR_keepMix 86 = .ok (.lload_n 2, 1) := by decide +kernel
theorem dR_keepMix_87 : decode bR_keepMix 87 = .ok (.lload 4, 2) := by decide +kernel
theorem dR_keepMix_89 : decode bR_keepMix 89 = .ok (.ldiv, 1) := by decide +kernel
theorem dR_keepMix_90 : decode bR_keepMix 90 = .ok (.putfield 155, 3) := by decide +kernel
theorem dR_keepMix_93 : decode bR_keepMix 93 = .ok (.aload_n 0, 1) := by decide +kernel
theorem dR_keepMix_94 : decode bR_keepMix 94 = .ok (.aload_n 0, 1) := by decide +kernel
theorem dR_keepMix_95 : decode bR_keepMix 95 = .ok (.getfield 107, 3) := by decide +kernel
theorem dR_keepMix_98 : decode bR_keepMix 98 = .ok (.lload 4, 2) := by decide +kernel
theorem dR_keepMix_100 : decode bR_keepMix 100 = .ok (.ldiv, 1) := by decide +kernel
theorem dR_keepMix_101 : decode bR_keepMix 101 = .ok (.putfield 158, 3) := by decide +kernel
theorem dR_keepMix_104 : decode bR_keepMix 104 = .ok (.iconst 0, 1) := by decide +kernel
theorem dR_keepMix_105 : decode bR_keepMix 105 = .ok (.istore 6, 2) := by decide +kernel
theorem dR_keepMix_107 : decode bR_keepMix 107 = .ok (.iload 6, 2) := by decide +kernel
theorem dR_keepMix_109 : decode bR_keepMix 109 = .ok (.bipush 18, 2) := by decide +kernel
theorem dR_keepMix_111 : decode bR_keepMix 111 = .ok (.if_icmp .ge 55, 3) := by decide +kernel
theorem dR_keepMix_114 : decode bR_keepMix 114 = .ok (.aload_n 0, 1) := by decide +kernel
theorem dR_keepMix_115 : decode bR_keepMix 115 = .ok (.dup, 1) := by decide +kernel
theorem dR_keepMix_116 : decode bR_keepMix 116 = .ok (.getfield 148, 3) := by decide +kernel
theorem dR_keepMix_119 : decode bR_keepMix 119 = .ok (.aload_n 0, 1) := by decide +kernel
theorem dR_keepMix_120 : decode bR_keepMix 120 = .ok (.iload 6, 2) := by decide +kernel
theorem dR_keepMix_122 : decode bR_keepMix 122 = .ok (.invokevirtual 127, 3) := by decide +kernel
theorem dR_keepMix_125 : decode bR_keepMix 125 = .ok (.ifCond .eq 30, 3) := by decide +kernel
theorem dR_keepMix_128 : decode bR_keepMix 128 = .ok (.aload_n 0, 1) := by decide +kernel
theorem dR_keepMix_129 : decode bR_keepMix 129 = .ok (.iload 6, 2) := by decide +kernel
theorem dR_keepMix_131 : decode bR_keepMix 131 = .ok (.iload_n 1, 1) := by decide +kernel
theorem dR_keepMix_132 : decode bR_keepMix 132 = .ok (.aload_n 0, 1) := by decide +kernel
theorem dR_keepMix_133 : decode bR_keepMix 133 = .ok (.getfield 64, 3) := by decide +kernel
theorem dR_keepMix_136 : decode bR_keepMix 136 = .ok (.aload_n 0, 1) := by decide +kernel
theorem dR_keepMix_137 : decode bR_keepMix 137 = .ok (.getfield 107, 3) := by decide +kernel
theorem dR_keepMix_140 : decode bR_keepMix 140 = .ok (.invokevirtual 91, 3) := by decide +kernel
theorem dR_keepMix_143 : decode bR_keepMix 143 = .ok (.lconst 0, 1) := by decide +kernel
theorem dR_keepMix_144 : decode bR_keepMix 144 = .ok (.lcmp, 1) := by decide +kernel
theorem dR_keepMix_145 : decode bR_keepMix 145 = .ok (.ifCond .ne 10, 3) := by decide +kernel
theorem dR_keepMix_148 : decode bR_keepMix 148 = .ok (.iconst 1, 1) := by decide +kernel
theorem dR_keepMix_149 : decode bR_keepMix 149 = .ok (.iload 6, 2) := by decide +kernel
theorem dR_keepMix_151 : decode bR_keepMix 151 = .ok (.ishl, 1) := by decide +kernel
theorem dR_keepMix_152 : decode bR_keepMix 152 = .ok (.goto 4, 3) := by decide +kernel
theorem dR_keepMix_155 : decode bR_keepMix 155 = .ok (.iconst 0, 1) := by decide +kernel
theorem dR_keepMix_156 : decode bR_keepMix 156 = .ok (.ior, 1) := by decide +kernel
theorem dR_keepMix_157 : decode bR_keepMix 157 = .ok (.putfield 148, 3) := by decide +kernel
theorem dR_keepMix_160 : decode bR_keepMix 160 = .ok (.iinc 6 1, 3) := by decide +kernel
theorem dR_keepMix_163 : decode bR_keepMix 163 = .ok (.goto (-56), 3) := by decide +kernel
theorem dR_keepMix_166 : decode bR_keepMix 166 = .ok (.return_, 1) := by decide +kernel
theorem dR_run_0 : decode bR_run 0 = .ok (.iload_n 1, 1) := by decide +kernel
theorem dR_run_1 : decode bR_run 1 = .ok (.iconst 1, 1) := by decide +kernel
theorem dR_run_2 : decode bR_run 2 = .ok (.bipush 40, 2) := by decide +kernel
theorem dR_run_4 : decode bR_run 4 = .ok (.invokestatic 70, 3) := by decide +kernel
theorem dR_run_7 : decode bR_run 7 = .ok (.ifCond .eq 10, 3) := by decide +kernel
theorem dR_run_10 : decode bR_run 10 = .ok (.aload_n 0, 1) := by decide +kernel
theorem dR_run_11 : decode bR_run 11 = .ok (.getfield 67, 3) := by decide +kernel
theorem dR_run_14 : decode bR_run 14 = .ok (.ifCond .ne 5, 3) := by decide +kernel
theorem dR_run_17 : decode bR_run 17 = .ok (.iconst (-1), 1) := by decide +kernel
theorem dR_run_18 : decode bR_run 18 = .ok (.ireturn, 1) := by decide +kernel
theorem dR_run_19 : decode bR_run 19 = .ok (.aload_n 0, 1) := by decide +kernel
theorem dR_run_20 : decode bR_run 20 = .ok (.iload_n 1, 1) := by decide +kernel
theorem dR_run_21 : decode bR_run 21 = .ok (.putfield 161, 3) := by decide +kernel
theorem dR_run_24 : decode bR_run 24 = .ok (.aload_n 0, 1) := by decide +kernel
theorem dR_run_25 : decode bR_run 25 = .ok (.aload_n 0, 1) := by decide +kernel
theorem dR_run_26 : decode bR_run 26 = .ok (.getfield 67, 3) := by decide +kernel
theorem dR_run_29 : decode bR_run 29 = .ok (.putfield 164, 3) := by decide +kernel
theorem dR_run_32 : decode bR_run 32 = .ok (.aload_n 0, 1) := by decide +kernel
theorem dR_run_33 : decode bR_run 33 = .ok (.invokevirtual 137, 3) := by decide +kernel
theorem dR_run_36 : decode bR_run 36 = .ok (.aload_n 0, 1) := by decide +kernel
theorem dR_run_37 : decode bR_run 37 = .ok (.iload_n 1, 1) := by decide +kernel
theorem dR_run_38 : decode bR_run 38 = .ok (.invokevirtual 167, 3) := by decide +kernel
theorem dR_run_41 : decode bR_run 41 = .ok (.ifCond .ne 72, 3) := by decide +kernel
theorem dR_run_44 : decode bR_run 44 = .ok (.aload_n 0, 1) := by decide +kernel
theorem dR_run_45 : decode bR_run 45 = .ok (.iconst 1, 1) := by decide +kernel
theorem dR_run_46 : decode bR_run 46 = .ok (.putfield 34, 3) := by decide +kernel
theorem dR_run_49 : decode bR_run 49 = .ok (.aload_n 0, 1) := by decide +kernel
theorem dR_run_50 : decode bR_run 50 = .ok (.iconst 0, 1) := by decide +kernel
theorem dR_run_51 : decode bR_run 51 = .ok (.putfield 170, 3) := by decide +kernel
theorem dR_run_54 : decode bR_run 54 = .ok (.iconst 0, 1) := by decide +kernel
theorem dR_run_55 : decode bR_run 55 = .ok (.istore_n 2, 1) := by decide +kernel
theorem dR_run_56 : decode bR_run 56 = .ok (.iload_n 2, 1) := by decide +kernel
theorem dR_run_57 : decode bR_run 57 = .ok (.bipush 18, 2) := by decide +kernel
theorem dR_run_59 : decode bR_run 59 = .ok (.if_icmp .ge 52, 3) := by decide +kernel
theorem dR_run_62 : decode bR_run 62 = .ok (.aload_n 0, 1) := by decide +kernel
theorem dR_run_63 : decode bR_run 63 = .ok (.getfield 45, 3) := by decide +kernel
theorem dR_run_66 : decode bR_run 66 = .ok (.iload_n 2, 1) := by decide +kernel
theorem dR_run_67 : decode bR_run 67 = .ok (.baload, 1) := by decide +kernel
theorem dR_run_68 : decode bR_run 68 = .ok (.ifCond .eq 37, 3) := by decide +kernel
theorem dR_run_71 : decode bR_run 71 = .ok (.aload_n 0, 1) := by decide +kernel
theorem dR_run_72 : decode bR_run 72 = .ok (.getfield 45, 3) := by decide +kernel
theorem dR_run_75 : decode bR_run 75 = .ok (.iload_n 2, 1) := by decide +kernel
theorem dR_run_76 : decode bR_run 76 = .ok (.iconst 0, 1) := by decide +kernel
theorem dR_run_77 : decode bR_run 77 = .ok (.bastore, 1) := by decide +kernel
theorem dR_run_78 : decode bR_run 78 = .ok (.aload_n 0, 1) := by decide +kernel
theorem dR_run_79 : decode bR_run 79 = .ok (.iload_n 1, 1) := by decide +kernel
theorem dR_run_80 : decode bR_run 80 = .ok (.invokevirtual 167, 3) := by decide +kernel
theorem dR_run_83 : decode bR_run 83 = .ok (.ifCond .eq 22, 3) := by decide +kernel
theorem dR_run_86 : decode bR_run 86 = .ok (.aload_n 0, 1) := by decide +kernel
theorem dR_run_87 : decode bR_run 87 = .ok (.getfield 45, 3) := by decide +kernel
theorem dR_run_90 : decode bR_run 90 = .ok (.iload_n 2, 1) := by decide +kernel
theorem dR_run_91 : decode bR_run 91 = .ok (.iconst 1, 1) := by decide +kernel
theorem dR_run_92 : decode bR_run 92 = .ok (.bastore, 1) := by decide +kernel
theorem dR_run_93 : decode bR_run 93 = .ok (.aload_n 0, 1) := by decide +kernel
theorem dR_run_94 : decode bR_run 94 = .ok (.dup, 1) := by decide +kernel
theorem dR_run_95 : decode bR_run 95 = .ok (.getfield 170, 3) := by decide +kernel
theorem dR_run_98 : decode bR_run 98 = .ok (.iconst 1, 1) := by decide +kernel
theorem dR_run_99 : decode bR_run 99 = .ok (.iload_n 2, 1) := by decide +kernel
theorem dR_run_100 : decode bR_run 100 = .ok (.ishl, 1) := by decide +kernel
theorem dR_run_101 : decode bR_run 101 = .ok (.ior, 1) := by decide +kernel
theorem dR_run_102 : decode bR_run 102 = .ok (.putfield 170, 3) := by decide +kernel
theorem dR_run_105 : decode bR_run 105 = .ok (.iinc 2 1, 3) := by decide +kernel
theorem dR_run_108 : decode bR_run 108 = .ok (.goto (-52), 3) := by decide +kernel
theorem dR_run_111 : decode bR_run 111 = .ok (.iconst 1, 1) := by decide +kernel
theorem dR_run_112 : decode bR_run 112 = .ok (.ireturn, 1) := by decide +kernel
theorem dR_run_113 : decode bR_run 113 = .ok (.aload_n 0, 1) := by decide +kernel
theorem dR_run_114 : decode bR_run 114 = .ok (.iload_n 1, 1) := by decide +kernel
theorem dR_run_115 : decode bR_run 115 = .ok (.invokevirtual 173, 3) := by decide +kernel
theorem dR_run_118 : decode bR_run 118 = .ok (.ifCond .eq 11, 3) := by decide +kernel
theorem dR_run_121 : decode bR_run 121 = .ok (.aload_n 0, 1) := by decide +kernel
theorem dR_run_122 : decode bR_run 122 = .ok (.iload_n 1, 1) := by decide +kernel
theorem dR_run_123 : decode bR_run 123 = .ok (.invokevirtual 176, 3) := by decide +kernel
theorem dR_run_126 : decode bR_run 126 = .ok (.goto 8, 3) := by decide +kernel
theorem dR_run_129 : decode bR_run 129 = .ok (.aload_n 0, 1) := by decide +kernel
theorem dR_run_130 : decode bR_run 130 = .ok (.iconst 2, 1) := by decide +kernel
theorem dR_run_131 : decode bR_run 131 = .ok (.putfield 34, 3) := by decide +kernel
theorem dR_run_134 : decode bR_run 134 = .ok (.aload_n 0, 1) := by decide +kernel
theorem dR_run_135 : decode bR_run 135 = .ok (.getfield 34, 3) := by decide +kernel
theorem dR_run_138 : decode bR_run 138 = .ok (.ireturn, 1) := by decide +kernel
theorem dR_amount_0 : decode bR_amount 0 = .ok (.aload_n 0, 1) := by decide +kernel
theorem dR_amount_1 : decode bR_amount 1 = .ok (.getfield 34, 3) := by decide +kernel
theorem dR_amount_4 : decode bR_amount 4 = .ok (.ifCond .ne 24, 3) := by decide +kernel
theorem dR_amount_7 : decode bR_amount 7 = .ok (.iload_n 1, 1) := by decide +kernel
theorem dR_amount_8 : decode bR_amount 8 = .ok (.ifCond .lt 20, 3) := by decide +kernel
theorem dR_amount_11 : decode bR_amount 11 = .ok (.iload_n 1, 1) := by decide +kernel
theorem dR_amount_12 : decode bR_amount 12 = .ok (.aload_n 0, 1) := by decide +kernel
theorem dR_amount_13 : decode bR_amount 13 = .ok (.getfield 164, 3) := by decide +kernel
theorem dR_amount_16 : decode bR_amount 16 = .ok (.if_icmp .ge 12, 3) := by decide +kernel
theorem dR_amount_19 : decode bR_amount 19 = .ok (.iload_n 2, 1) := by decide +kernel
theorem dR_amount_20 : decode bR_amount 20 = .ok (.iconst 0, 1) := by decide +kernel
theorem dR_amount_21 : decode bR_amount 21 = .ok (.iconst 1, 1) := by decide +kernel
theorem dR_amount_22 : decode bR_amount 22 = .ok (.invokestatic 70, 3) := by decide +kernel
theorem dR_amount_25 : decode bR_amount 25 = .ok (.ifCond .ne 9, 3) := by decide +kernel
theorem dR_amount_28 : decode bR_amount 28 = .ok (.ldc2_w 101, 3) := by decide +kernel
theorem dR_amount_31 : decode bR_amount 31 = .ok (.goto 22, 3) := by decide +kernel
theorem dR_amount_34 : decode bR_amount 34 = .ok (.iload_n 2, 1) := by decide +kernel
theorem dR_amount_35 : decode bR_amount 35 = .ok (.ifCond .ne 12, 3) := by decide +kernel
theorem dR_amount_38 : decode bR_amount 38 = .ok (.aload_n 0, 1) := by decide +kernel
theorem dR_amount_39 : decode bR_amount 39 = .ok (.getfield 38, 3) := by decide +kernel
theorem dR_amount_42 : decode bR_amount 42 = .ok (.iload_n 1, 1) := by decide +kernel
theorem dR_amount_43 : decode bR_amount 43 = .ok (.laload, 1) := by decide +kernel
theorem dR_amount_44 : decode bR_amount 44 = .ok (.goto 9, 3) := by decide +kernel
theorem dR_amount_47 : decode bR_amount 47 = .ok (.aload_n 0, 1) := by decide +kernel
theorem dR_amount_48 : decode bR_amount 48 = .ok (.getfield 42, 3) := by decide +kernel
theorem dR_amount_51 : decode bR_amount 51 = .ok (.iload_n 1, 1) := by decide +kernel
theorem dR_amount_52 : decode bR_amount 52 = .ok (.laload, 1) := by decide +kernel
theorem dR_amount_53 : decode bR_amount 53 = .ok (.lreturn, 1) := by decide +kernel
theorem dR_cost_0 : decode bR_cost 0 = .ok (.aload_n 0, 1) := by decide +kernel
theorem dR_cost_1 : decode bR_cost 1 = .ok (.getfield 34, 3) := by decide +kernel
theorem dR_cost_4 : decode bR_cost 4 = .ok (.ifCond .ne 12, 3) := by decide +kernel
theorem dR_cost_7 : decode bR_cost 7 = .ok (.iload_n 1, 1) := by decide +kernel
theorem dR_cost_8 : decode bR_cost 8 = .ok (.iconst 0, 1) := by decide +kernel
theorem dR_cost_9 : decode bR_cost 9 = .ok (.iconst 1, 1) := by decide +kernel
theorem dR_cost_10 : decode bR_cost 10 = .ok (.invokestatic 70, 3) := by decide +kernel
theorem dR_cost_13 : decode bR_cost 13 = .ok (.ifCond .ne 9, 3) := by decide +kernel
theorem dR_cost_16 : decode bR_cost 16 = .ok (.ldc2_w 101, 3) := by decide +kernel
theorem dR_cost_19 : decode bR_cost 19 = .ok (.goto 18, 3) := by decide +kernel
theorem dR_cost_22 : decode bR_cost 22 = .ok (.iload_n 1, 1) := by decide +kernel
theorem dR_cost_23 : decode bR_cost 23 = .ok (.ifCond .ne 10, 3) := by decide +kernel
theorem dR_cost_26 : decode bR_cost 26 = .ok (.aload_n 0, 1) := by decide +kernel
theorem dR_cost_27 : decode bR_cost 27 = .ok (.getfield 155, 3) := by decide +kernel
theorem dR_cost_30 : decode bR_cost 30 = .ok (.goto 7, 3) := by decide +kernel
theorem dR_cost_33 : decode bR_cost 33 = .ok (.aload_n 0, 1) := by decide +kernel
theorem dR_cost_34 : decode bR_cost 34 = .ok (.getfield 158, 3) := by decide +kernel
theorem dR_cost_37 : decode bR_cost 37 = .ok (.lreturn, 1) := by decide +kernel
theorem dR_tight_0 : decode bR_tight 0 = .ok (.aload_n 0, 1) := by decide +kernel
theorem dR_tight_1 : decode bR_tight 1 = .ok (.getfield 34, 3) := by decide +kernel
theorem dR_tight_4 : decode bR_tight 4 = .ok (.ifCond .eq 7, 3) := by decide +kernel
theorem dR_tight_7 : decode bR_tight 7 = .ok (.iconst (-1), 1) := by decide +kernel
theorem dR_tight_8 : decode bR_tight 8 = .ok (.goto 7, 3) := by decide +kernel
theorem dR_tight_11 : decode bR_tight 11 = .ok (.aload_n 0, 1) := by decide +kernel
theorem dR_tight_12 : decode bR_tight 12 = .ok (.getfield 148, 3) := by decide +kernel
theorem dR_tight_15 : decode bR_tight 15 = .ok (.ireturn, 1) := by decide +kernel
theorem dR_clash_0 : decode bR_clash 0 = .ok (.aload_n 0, 1) := by decide +kernel
theorem dR_clash_1 : decode bR_clash 1 = .ok (.getfield 34, 3) := by decide +kernel
theorem dR_clash_4 : decode bR_clash 4 = .ok (.iconst 1, 1) := by decide +kernel
theorem dR_clash_5 : decode bR_clash 5 = .ok (.if_icmp .ne 7, 3) := by decide +kernel
theorem dR_clash_8 : decode bR_clash 8 = .ok (.iload_n 1, 1) := by decide +kernel
theorem dR_clash_9 : decode bR_clash 9 = .ok (.ifCond .ge 5, 3) := by decide +kernel
theorem dR_clash_12 : decode bR_clash 12 = .ok (.iconst (-1), 1) := by decide +kernel
theorem dR_clash_13 : decode bR_clash 13 = .ok (.ireturn, 1) := by decide +kernel
theorem dR_clash_14 : decode bR_clash 14 = .ok (.iconst 0, 1) := by decide +kernel
theorem dR_clash_15 : decode bR_clash 15 = .ok (.istore_n 2, 1) := by decide +kernel
theorem dR_clash_16 : decode bR_clash 16 = .ok (.iconst 0, 1) := by decide +kernel
theorem dR_clash_17 : decode bR_clash 17 = .ok (.istore_n 3, 1) := by decide +kernel
theorem dR_clash_18 : decode bR_clash 18 = .ok (.iload_n 3, 1) := by decide +kernel
theorem dR_clash_19 : decode bR_clash 19 = .ok (.bipush 18, 2) := by decide +kernel
theorem dR_clash_21 : decode bR_clash 21 = .ok (.if_icmp .ge 31, 3) := by decide +kernel
theorem dR_clash_24 : decode bR_clash 24 = .ok (.aload_n 0, 1) := by decide +kernel
theorem dR_clash_25 : decode bR_clash 25 = .ok (.getfield 170, 3) := by decide +kernel
theorem dR_clash_28 : decode bR_clash 28 = .ok (.iload_n 3, 1) := by decide +kernel
theorem dR_clash_29 : decode bR_clash 29 = .ok (.ishr, 1) := by decide +kernel
theorem dR_clash_30 : decode bR_clash 30 = .ok (.iconst 1, 1) := by decide +kernel
theorem dR_clash_31 : decode bR_clash 31 = .ok (.iand, 1) := by decide +kernel
theorem dR_clash_32 : decode bR_clash 32 = .ok (.iconst 1, 1) := by decide +kernel
theorem dR_clash_33 : decode bR_clash 33 = .ok (.if_icmp .ne 13, 3) := by decide +kernel
theorem dR_clash_36 : decode bR_clash 36 = .ok (.iload_n 2, 1) := by decide +kernel
theorem dR_clash_37 : decode bR_clash 37 = .ok (.iload_n 1, 1) := by decide +kernel
theorem dR_clash_38 : decode bR_clash 38 = .ok (.if_icmp .ne 5, 3) := by decide +kernel
theorem dR_clash_41 : decode bR_clash 41 = .ok (.iload_n 3, 1) := by decide +kernel
theorem dR_clash_42 : decode bR_clash 42 = .ok (.ireturn, 1) := by decide +kernel
theorem dR_clash_43 : decode bR_clash 43 = .ok (.iinc 2 1, 3) := by decide +kernel
theorem dR_clash_46 : decode bR_clash 46 = .ok (.iinc 3 1, 3) := by decide +kernel
theorem dR_clash_49 : decode bR_clash 49 = .ok (.goto (-31), 3) := by decide +kernel
theorem dR_clash_52 : decode bR_clash 52 = .ok (.iconst (-1), 1) := by decide +kernel
theorem dR_clash_53 : decode bR_clash 53 = .ok (.ireturn, 1) := by decide +kernel
theorem dR_dearer_0 : decode bR_dearer 0 = .ok (.aload_n 0, 1) := by decide +kernel
theorem dR_dearer_1 : decode bR_dearer 1 = .ok (.getfield 34, 3) := by decide +kernel
theorem dR_dearer_4 : decode bR_dearer 4 = .ok (.ifCond .lt 47, 3) := by decide +kernel
theorem dR_dearer_7 : decode bR_dearer 7 = .ok (.iload_n 1, 1) := by decide +kernel
theorem dR_dearer_8 : decode bR_dearer 8 = .ok (.iconst 0, 1) := by decide +kernel
theorem dR_dearer_9 : decode bR_dearer 9 = .ok (.iconst 2, 1) := by decide +kernel
theorem dR_dearer_10 : decode bR_dearer 10 = .ok (.invokestatic 70, 3) := by decide +kernel
theorem dR_dearer_13 : decode bR_dearer 13 = .ok (.ifCond .eq 38, 3) := by decide +kernel
theorem dR_dearer_16 : decode bR_dearer 16 = .ok (.iload_n 2, 1) := by decide +kernel
theorem dR_dearer_17 : decode bR_dearer 17 = .ok (.iconst 0, 1) := by decide +kernel
theorem dR_dearer_18 : decode bR_dearer 18 = .ok (.iconst 1, 1) := by decide +kernel
theorem dR_dearer_19 : decode bR_dearer 19 = .ok (.invokestatic 70, 3) := by decide +kernel
theorem dR_dearer_22 : decode bR_dearer 22 = .ok (.ifCond .eq 29, 3) := by decide +kernel
theorem dR_dearer_25 : decode bR_dearer 25 = .ok (.aload_n 0, 1) := by decide +kernel
theorem dR_dearer_26 : decode bR_dearer 26 = .ok (.getfield 28, 3) := by decide +kernel
theorem dR_dearer_29 : decode bR_dearer 29 = .ok (.iload_n 1, 1) := by decide +kernel
theorem dR_dearer_30 : decode bR_dearer 30 = .ok (.iaload, 1) := by decide +kernel
theorem dR_dearer_31 : decode bR_dearer 31 = .ok (.aload_n 0, 1) := by decide +kernel
theorem dR_dearer_32 : decode bR_dearer 32 = .ok (.getfield 31, 3) := by decide +kernel
theorem dR_dearer_35 : decode bR_dearer 35 = .ok (.iload_n 1, 1) := by decide +kernel
theorem dR_dearer_36 : decode bR_dearer 36 = .ok (.iaload, 1) := by decide +kernel
theorem dR_dearer_37 : decode bR_dearer 37 = .ok (.if_icmp .eq 14, 3) := by decide +kernel
theorem dR_dearer_40 : decode bR_dearer 40 = .ok (.aload_n 0, 1) := by decide +kernel
theorem dR_dearer_41 : decode bR_dearer 41 = .ok (.aload_n 0, 1) := by decide +kernel
theorem dR_dearer_42 : decode bR_dearer 42 = .ok (.getfield 161, 3) := by decide +kernel
theorem dR_dearer_45 : decode bR_dearer 45 = .ok (.invokevirtual 173, 3) := by decide +kernel
theorem dR_dearer_48 : decode bR_dearer 48 = .ok (.ifCond .ne 7, 3) := by decide +kernel
theorem dR_dearer_51 : decode bR_dearer 51 = .ok (.ldc2_w 101, 3) := by decide +kernel
theorem dR_dearer_54 : decode bR_dearer 54 = .ok (.lreturn, 1) := by decide +kernel
theorem dR_dearer_55 : decode bR_dearer 55 = .ok (.aload_n 0, 1) := by decide +kernel
theorem dR_dearer_56 : decode bR_dearer 56 = .ok (.aload_n 0, 1) := by decide +kernel
theorem dR_dearer_57 : decode bR_dearer 57 = .ok (.getfield 64, 3) := by decide +kernel
theorem dR_dearer_60 : decode bR_dearer 60 = .ok (.invokevirtual 103, 3) := by decide +kernel
theorem dR_dearer_63 : decode bR_dearer 63 = .ok (.lstore_n 3, 1) := by decide +kernel
theorem dR_dearer_64 : decode bR_dearer 64 = .ok (.aload_n 0, 1) := by decide +kernel
theorem dR_dearer_65 : decode bR_dearer 65 = .ok (.getfield 107, 3) := by decide +kernel
theorem dR_dearer_68 : decode bR_dearer 68 = .ok (.lstore 5, 2) := by decide +kernel
theorem dR_dearer_70 : decode bR_dearer 70 = .ok (.aload_n 0, 1) := by decide +kernel
theorem dR_dearer_71 : decode bR_dearer 71 = .ok (.getfield 28, 3) := by decide +kernel
theorem dR_dearer_74 : decode bR_dearer 74 = .ok (.iload_n 1, 1) := by decide +kernel
theorem dR_dearer_75 : decode bR_dearer 75 = .ok (.dup2, 1) := by decide +kernel
theorem dR_dearer_76 : decode bR_dearer 76 = .ok (.iaload, 1) := by decide +kernel
theorem dR_dearer_77 : decode bR_dearer 77 = .ok (.iconst 1, 1) := by decide +kernel
theorem dR_dearer_78 : decode bR_dearer 78 = .ok (.iadd, 1) := by decide +kernel
theorem dR_dearer_79 : decode bR_dearer 79 = .ok (.iastore, 1) := by decide +kernel
theorem dR_dearer_80 : decode bR_dearer 80 = .ok (.aload_n 0, 1) := by decide +kernel
theorem dR_dearer_81 : decode bR_dearer 81 = .ok (.aload_n 0, 1) := by decide +kernel
theorem dR_dearer_82 : decode bR_dearer 82 = .ok (.getfield 161, 3) := by decide +kernel
theorem dR_dearer_85 : decode bR_dearer 85 = .ok (.invokevirtual 173, 3) := by decide +kernel
theorem dR_dearer_88 : decode bR_dearer 88 = .ok (.istore 7, 2) := by decide +kernel
theorem dR_dearer_90 : decode bR_dearer 90 = .ok (.aload_n 0, 1) := by decide +kernel
theorem dR_dearer_91 : decode bR_dearer 91 = .ok (.getfield 28, 3) := by decide +kernel
theorem dR_dearer_94 : decode bR_dearer 94 = .ok (.iload_n 1, 1) := by decide +kernel
theorem dR_dearer_95 : decode bR_dearer 95 = .ok (.dup2, 1) := by decide +kernel
theorem dR_dearer_96 : decode bR_dearer 96 = .ok (.iaload, 1) := by decide +kernel
theorem dR_dearer_97 : decode bR_dearer 97 = .ok (.iconst 1, 1) := by decide +kernel
theorem dR_dearer_98 : decode bR_dearer 98 = .ok (.isub, 1) := by decide +kernel
theorem dR_dearer_99 : decode bR_dearer 99 = .ok (.iastore, 1) := by decide +kernel
theorem dR_dearer_100 : decode bR_dearer 100 = .ok (.iload 7, 2) := by decide +kernel
theorem dR_dearer_102 : decode bR_dearer 102 = .ok (.ifCond .ne 7, 3) := by decide +kernel
theorem dR_dearer_105 : decode bR_dearer 105 = .ok (.ldc2_w 101, 3) := by decide +kernel
theorem dR_dearer_108 : decode bR_dearer 108 = .ok (.lreturn, 1) := by decide +kernel
theorem dR_dearer_109 : decode bR_dearer 109 = .ok (.aload_n 0, 1) := by decide +kernel
theorem dR_dearer_110 : decode bR_dearer 110 = .ok (.aload_n 0, 1) := by decide +kernel
theorem dR_dearer_111 : decode bR_dearer 111 = .ok (.getfield 64, 3) := by decide +kernel
theorem dR_dearer_114 : decode bR_dearer 114 = .ok (.invokevirtual 103, 3) := by decide +kernel
theorem dR_dearer_117 : decode bR_dearer 117 = .ok (.lload 5, 2) := by decide +kernel
theorem dR_dearer_119 : decode bR_dearer 119 = .ok (.lmul, 1) := by decide +kernel
theorem dR_dearer_120 : decode bR_dearer 120 = .ok (.lload_n 3, 1) := by decide +kernel
theorem dR_dearer_121 : decode bR_dearer 121 = .ok (.aload_n 0, 1) := by decide +kernel
theorem dR_dearer_122 : decode bR_dearer 122 = .ok (.getfield 107, 3) := by decide +kernel
theorem dR_dearer_125 : decode bR_dearer 125 = .ok (.lmul, 1) := by decide +kernel
theorem dR_dearer_126 : decode bR_dearer 126 = .ok (.lsub, 1) := by decide +kernel
theorem dR_dearer_127 : decode bR_dearer 127 = .ok (.lstore 8, 2) := by decide +kernel
theorem dR_dearer_129 : decode bR_dearer 129 = .ok (.lload 5, 2) := by decide +kernel
theorem dR_dearer_131 : decode bR_dearer 131 = .ok (.aload_n 0, 1) := by decide +kernel
theorem dR_dearer_132 : decode bR_dearer 132 = .ok (.getfield 107, 3) := by decide +kernel
theorem dR_dearer_135 : decode bR_dearer 135 = .ok (.lmul, 1) := by decide +kernel
theorem dR_dearer_136 : decode bR_dearer 136 = .ok (.lstore 10, 2) := by decide +kernel
theorem dR_dearer_138 : decode bR_dearer 138 = .ok (.lload 8, 2) := by decide +kernel
theorem dR_dearer_140 : decode bR_dearer 140 = .ok (.lload 10, 2) := by decide +kernel
theorem dR_dearer_142 : decode bR_dearer 142 = .ok (.invokestatic 151, 3) := by decide +kernel
theorem dR_dearer_145 : decode bR_dearer 145 = .ok (.lstore 12, 2) := by decide +kernel
theorem dR_dearer_147 : decode bR_dearer 147 = .ok (.iload_n 2, 1) := by decide +kernel
theorem dR_dearer_148 : decode bR_dearer 148 = .ok (.ifCond .ne 11, 3) := by decide +kernel
theorem dR_dearer_151 : decode bR_dearer 151 = .ok (.lload 8, 2) := by decide +kernel
theorem dR_dearer_153 : decode bR_dearer 153 = .ok (.lload 12, 2) := by decide +kernel
theorem dR_dearer_155 : decode bR_dearer 155 = .ok (.ldiv, 1) := by decide +kernel
theorem dR_dearer_156 : decode bR_dearer 156 = .ok (.goto 8, 3) := by decide +kernel
theorem dR_dearer_159 : decode bR_dearer 159 = .ok (.lload 10, 2) := by decide +kernel
theorem dR_dearer_161 : decode bR_dearer 161 = .ok (.lload 12, 2) := by decide +kernel
theorem dR_dearer_163 : decode bR_dearer 163 = .ok (.ldiv, 1) := by decide +kernel
theorem dR_dearer_164 : decode bR_dearer 164 = .ok (.lreturn, 1) := by decide +kernel
theorem dR_line_0 : decode bR_line 0 = .ok (.iload_n 1, 1) := by decide +kernel
theorem dR_line_1 : decode bR_line 1 = .ok (.iconst 0, 1) := by decide +kernel
theorem dR_line_2 : decode bR_line 2 = .ok (.iconst 3, 1) := by decide +kernel
theorem dR_line_3 : decode bR_line 3 = .ok (.invokestatic 70, 3) := by decide +kernel
theorem dR_line_6 : decode bR_line 6 = .ok (.ifCond .eq 10, 3) := by decide +kernel
theorem dR_line_9 : decode bR_line 9 = .ok (.aload_n 0, 1) := by decide +kernel
theorem dR_line_10 : decode bR_line 10 = .ok (.getfield 34, 3) := by decide +kernel
theorem dR_line_13 : decode bR_line 13 = .ok (.ifCond .eq 5, 3) := by decide +kernel
theorem dR_line_16 : decode bR_line 16 = .ok (.iconst (-1), 1) := by decide +kernel
theorem dR_line_17 : decode bR_line 17 = .ok (.ireturn, 1) := by decide +kernel
theorem dR_line_18 : decode bR_line 18 = .ok (.aload_n 0, 1) := by decide +kernel
theorem dR_line_19 : decode bR_line 19 = .ok (.getfield 180, 3) := by decide +kernel
theorem dR_line_22 : decode bR_line 22 = .ok (.ifCond .eq 13, 3) := by decide +kernel
theorem dR_line_25 : decode bR_line 25 = .ok (.aload_n 0, 1) := by decide +kernel
theorem dR_line_26 : decode bR_line 26 = .ok (.getfield 180, 3) := by decide +kernel
theorem dR_line_29 : decode bR_line 29 = .ok (.iload_n 1, 1) := by decide +kernel
theorem dR_line_30 : decode bR_line 30 = .ok (.if_icmp .eq 5, 3) := by decide +kernel
theorem dR_line_33 : decode bR_line 33 = .ok (.iconst 1, 1) := by decide +kernel
theorem dR_line_34 : decode bR_line 34 = .ok (.ireturn, 1) := by decide +kernel
theorem dR_line_35 : decode bR_line 35 = .ok (.aload_n 0, 1) := by decide +kernel
theorem dR_line_36 : decode bR_line 36 = .ok (.iload_n 1, 1) := by decide +kernel
theorem dR_line_37 : decode bR_line 37 = .ok (.putfield 180, 3) := by decide +kernel
theorem dR_line_40 : decode bR_line 40 = .ok (.aload_n 0, 1) := by decide +kernel
theorem dR_line_41 : decode bR_line 41 = .ok (.dup, 1) := by decide +kernel
theorem dR_line_42 : decode bR_line 42 = .ok (.getfield 183, 3) := by decide +kernel
theorem dR_line_45 : decode bR_line 45 = .ok (.iconst 1, 1) := by decide +kernel
theorem dR_line_46 : decode bR_line 46 = .ok (.iadd, 1) := by decide +kernel
theorem dR_line_47 : decode bR_line 47 = .ok (.putfield 183, 3) := by decide +kernel
theorem dR_line_50 : decode bR_line 50 = .ok (.iconst 0, 1) := by decide +kernel
theorem dR_line_51 : decode bR_line 51 = .ok (.ireturn, 1) := by decide +kernel
theorem dR_clean_0 : decode bR_clean 0 = .ok (.aload_n 0, 1) := by decide +kernel
theorem dR_clean_1 : decode bR_clean 1 = .ok (.getfield 180, 3) := by decide +kernel
theorem dR_clean_4 : decode bR_clean 4 = .ok (.istore_n 1, 1) := by decide +kernel
theorem dR_clean_5 : decode bR_clean 5 = .ok (.aload_n 0, 1) := by decide +kernel
theorem dR_clean_6 : decode bR_clean 6 = .ok (.iconst 0, 1) := by decide +kernel
theorem dR_clean_7 : decode bR_clean 7 = .ok (.putfield 180, 3) := by decide +kernel
theorem dR_clean_10 : decode bR_clean 10 = .ok (.iload_n 1, 1) := by decide +kernel
theorem dR_clean_11 : decode bR_clean 11 = .ok (.ireturn, 1) := by decide +kernel
theorem dR_made_0 : decode bR_made 0 = .ok (.aload_n 0, 1) := by decide +kernel
theorem dR_made_1 : decode bR_made 1 = .ok (.getfield 183, 3) := by decide +kernel
theorem dR_made_4 : decode bR_made 4 = .ok (.ireturn, 1) := by decide +kernel
end
section
def b_R_in_0 (x0 : Int32) (x1 : Int32) (x2 : Int32) : Option (Int32) :=
  if x0 < x1 then
    some (0)
  else
    if x2 < x0 then
      some (0)
    else
      some (1)
def m_R_in (x0 : Int32) (x1 : Int32) (x2 : Int32) : Option (Int32) := b_R_in_0 x0 x1 x2
def rm_R_in : Room := { frames := 0, cells := 0, slots := 0, locals := 0 }
set_option maxHeartbeats 4000000 in
set_option maxRecDepth 100000 in
theorem w_R_in_0 {p : Program} {l : Launch} {e : Env} {s : State} {m : MethodId} {args : Array Value} {below : List Frame} {meth : Method} {c : Code} {res : Int32} (X : Cx p s m args meth c bR_in (some .boolean) 3 RR)
     (x0 : Int32) (x1 : Int32) (x2 : Int32) (hm : b_R_in_0  x0 x1 x2 = some res) : WZ p l e (headSpec (Cond.code yR_in bR_in 3 (some .boolean) :: gtb) rm_R_in).room s m args below meth c (MQ below (va_Qi (fun (r : Int32) (_ : Unit) => r = res) (fun _ _ => True) (fun _ => False)) args s 0 0 (fun _ => False)) 3 0 [(0, .int x0), (1, .int x1), (2, .int x2)] [] := by
  obtain ⟨hx, hb, hr, hml, hown, hT, hlk⟩ := X
  intro H locs ls hS hl
  unfold b_R_in_0 at hm
  refine lv_iload_n hx hb dR_in_0 rfl (lv_at hl 0 rfl) ?_
  refine lv_iload_n hx hb dR_in_1 rfl (lv_at hl 1 rfl) ?_
  refine lv_icmp_lt (tgt := 14) hx hb dR_in_2 (by decide) (fun c1 => ?_) (fun c1 => ?_)
  · have hm := brp hm c1
    refine lv_iconst (v := 0) hx hb dR_in_14 (by decide) ?_
    exact W.zret hx hb hr rfl (fun t ht hW => ⟨⟨0, (), rfl, Option.some.inj hm, trivial⟩, hS.F ht⟩) hS.2.2 dR_in_15 hlk
  · have hm := brn hm c1
    refine lv_iload_n hx hb dR_in_5 rfl (lv_at hl 0 rfl) ?_
    refine lv_iload_n hx hb dR_in_6 rfl (lv_at hl 2 rfl) ?_
    refine lv_icmp_gt (tgt := 14) hx hb dR_in_7 (by decide) (fun c2 => ?_) (fun c2 => ?_)
    · have hm := brp hm c2
      refine lv_iconst (v := 0) hx hb dR_in_14 (by decide) ?_
      exact W.zret hx hb hr rfl (fun t ht hW => ⟨⟨0, (), rfl, Option.some.inj hm, trivial⟩, hS.F ht⟩) hS.2.2 dR_in_15 hlk
    · have hm := brn hm c2
      refine lv_iconst (v := 1) hx hb dR_in_10 (by decide) ?_
      refine lv_goto (tgt := 15) hx hb dR_in_11 (by decide) ?_
      exact W.zret hx hb hr rfl (fun t ht hW => ⟨⟨1, (), rfl, Option.some.inj hm, trivial⟩, hS.F ht⟩) hS.2.2 dR_in_15 hlk
set_option maxHeartbeats 4000000 in
set_option maxRecDepth 100000 in
theorem c_R_in (l : Launch) (x0 : Int32) (x1 : Int32) (x2 : Int32) (res : Int32) (hm : m_R_in x0 x1 x2 = some res) : Met l yR_in (Cond.code yR_in bR_in 3 (some .boolean) :: gtb) rm_R_in (va_Pc [.int x0, .int x1, .int x2] (fun _ => True)) (va_Qi (fun (r : Int32) (_ : Unit) => r = res) (fun _ _ => True) (fun _ => False)) 0 0 (fun _ => False) := by
  refine Met.ofW (cc := bR_in) (maxL := 3) (ret := (some .boolean)) (by decide) rfl ?_
  intro p e s m args below meth c s₁ B hml hv
  obtain ⟨rfl, -⟩ := hv
  have X : Cx p s m [.int x0, .int x1, .int x2].toArray meth c bR_in (some .boolean) 3 RR := ⟨B.exec, B.bytes, B.returns, hml, findClass_of_methodNamed B.named, fun w h => atoms_spec (ws := (Cond.code yR_in bR_in 3 (some .boolean) :: gtb)) B.pre w (List.mem_cons_of_mem _ h), B.notSynchronized⟩
  have hl := lv_entry ([.int x0, .int x1, .int x2]) (n := 3) (Nat.le_of_ble_eq_true rfl)
  rw [lg_entry_eq]
  generalize (lg_sl ([.int x0, .int x1, .int x2]) ++ List.replicate (3 - (lg_sl ([.int x0, .int x1, .int x2])).length) Slot.unset).toArray = ls at hl ⊢
  have hl : lv_has ls 3 [(0, .int x0), (1, .int x1), (2, .int x2)] := hl
  exact w_R_in_0 X  x0 x1 x2 hm _ _ _ va_S.rf hl
def b_R_isLeast_18 (x0 : Int32) : Option (Int32) :=
  if x0 < 4 then
    some (0)
  else
    if 8 ≤ x0 then
      some (0)
    else
      some (1)
def b_R_isLeast_0 (k18 : Int32 → Option (Int32)) (x0 : Int32) : Option (Int32) :=
  if 18 ≤ x0 then
    some (1)
  else
    if x0 < 12 then
      k18 x0
    else
      if x0 < 15 then
        some (1)
      else
        k18 x0
def g_R_isLeast : Nat → (Int32 → Option (Int32))
  | 0 => (fun _ => none)
  | n + 1 => (fun x0 => b_R_isLeast_18  x0)
def m_R_isLeast (x0 : Int32) : Option (Int32) := b_R_isLeast_0 (g_R_isLeast fuel) x0
def rm_R_isLeast : Room := { frames := 0, cells := 0, slots := 0, locals := 0 }
set_option maxHeartbeats 4000000 in
set_option maxRecDepth 100000 in
theorem w_R_isLeast_18 {p : Program} {l : Launch} {e : Env} {s : State} {m : MethodId} {args : Array Value} {below : List Frame} {meth : Method} {c : Code} {res : Int32} (X : Cx p s m args meth c bR_isLeast (some .boolean) 1 RR)
     (x0 : Int32) (hm : b_R_isLeast_18  x0 = some res) : WZ p l e (headSpec (Cond.code yR_isLeast bR_isLeast 1 (some .boolean) :: gtb) rm_R_isLeast).room s m args below meth c (MQ below (va_Qi (fun (r : Int32) (_ : Unit) => r = res) (fun _ _ => True) (fun _ => False)) args s 0 0 (fun _ => False)) 1 18 [(0, .int x0)] [] := by
  obtain ⟨hx, hb, hr, hml, hown, hT, hlk⟩ := X
  intro H locs ls hS hl
  unfold b_R_isLeast_18 at hm
  refine lv_iload_n hx hb dR_isLeast_18 rfl (lv_at hl 0 rfl) ?_
  refine lv_iconst (v := 4) hx hb dR_isLeast_19 (by decide) ?_
  refine lv_icmp_lt (tgt := 33) hx hb dR_isLeast_20 (by decide) (fun c1 => ?_) (fun c1 => ?_)
  · have hm := brp hm c1
    refine lv_iconst (v := 0) hx hb dR_isLeast_33 (by decide) ?_
    exact W.zret hx hb hr rfl (fun t ht hW => ⟨⟨0, (), rfl, Option.some.inj hm, trivial⟩, hS.F ht⟩) hS.2.2 dR_isLeast_34 hlk
  · have hm := brn hm c1
    refine lv_iload_n hx hb dR_isLeast_23 rfl (lv_at hl 0 rfl) ?_
    refine lv_bipush (v := 8) hx hb dR_isLeast_24 (by decide) ?_
    refine lv_icmp_ge (tgt := 33) hx hb dR_isLeast_26 (by decide) (fun c2 => ?_) (fun c2 => ?_)
    · have hm := brp hm c2
      refine lv_iconst (v := 0) hx hb dR_isLeast_33 (by decide) ?_
      exact W.zret hx hb hr rfl (fun t ht hW => ⟨⟨0, (), rfl, Option.some.inj hm, trivial⟩, hS.F ht⟩) hS.2.2 dR_isLeast_34 hlk
    · have hm := brn hm c2
      refine lv_iconst (v := 1) hx hb dR_isLeast_29 (by decide) ?_
      refine lv_goto (tgt := 34) hx hb dR_isLeast_30 (by decide) ?_
      exact W.zret hx hb hr rfl (fun t ht hW => ⟨⟨1, (), rfl, Option.some.inj hm, trivial⟩, hS.F ht⟩) hS.2.2 dR_isLeast_34 hlk
set_option maxHeartbeats 4000000 in
set_option maxRecDepth 100000 in
theorem w_R_isLeast_0 {p : Program} {l : Launch} {e : Env} {s : State} {m : MethodId} {args : Array Value} {below : List Frame} {meth : Method} {c : Code} {res : Int32} (X : Cx p s m args meth c bR_isLeast (some .boolean) 1 RR)
    {k18 : Int32 → Option (Int32)} (hk18 : ∀ (x0 : Int32), k18 x0 = some res → WZ p l e (headSpec (Cond.code yR_isLeast bR_isLeast 1 (some .boolean) :: gtb) rm_R_isLeast).room s m args below meth c (MQ below (va_Qi (fun (r : Int32) (_ : Unit) => r = res) (fun _ _ => True) (fun _ => False)) args s 0 0 (fun _ => False)) 1 18 [(0, .int x0)] [])
     (x0 : Int32) (hm : b_R_isLeast_0 k18 x0 = some res) : WZ p l e (headSpec (Cond.code yR_isLeast bR_isLeast 1 (some .boolean) :: gtb) rm_R_isLeast).room s m args below meth c (MQ below (va_Qi (fun (r : Int32) (_ : Unit) => r = res) (fun _ _ => True) (fun _ => False)) args s 0 0 (fun _ => False)) 1 0 [(0, .int x0)] [] := by
  obtain ⟨hx, hb, hr, hml, hown, hT, hlk⟩ := X
  intro H locs ls hS hl
  unfold b_R_isLeast_0 at hm
  refine lv_iload_n hx hb dR_isLeast_0 rfl (lv_at hl 0 rfl) ?_
  refine lv_bipush (v := 18) hx hb dR_isLeast_1 (by decide) ?_
  refine lv_icmp_ge (tgt := 29) hx hb dR_isLeast_3 (by decide) (fun c1 => ?_) (fun c1 => ?_)
  · have hm := brp hm c1
    refine lv_iconst (v := 1) hx hb dR_isLeast_29 (by decide) ?_
    refine lv_goto (tgt := 34) hx hb dR_isLeast_30 (by decide) ?_
    exact W.zret hx hb hr rfl (fun t ht hW => ⟨⟨1, (), rfl, Option.some.inj hm, trivial⟩, hS.F ht⟩) hS.2.2 dR_isLeast_34 hlk
  · have hm := brn hm c1
    refine lv_iload_n hx hb dR_isLeast_6 rfl (lv_at hl 0 rfl) ?_
    refine lv_bipush (v := 12) hx hb dR_isLeast_7 (by decide) ?_
    refine lv_icmp_lt (tgt := 18) hx hb dR_isLeast_9 (by decide) (fun c2 => ?_) (fun c2 => ?_)
    · have hm := brp hm c2
      exact hk18 x0 hm _ _ _ hS (lv_sub hl [0] rfl)
    · have hm := brn hm c2
      refine lv_iload_n hx hb dR_isLeast_12 rfl (lv_at hl 0 rfl) ?_
      refine lv_bipush (v := 15) hx hb dR_isLeast_13 (by decide) ?_
      refine lv_icmp_lt (tgt := 29) hx hb dR_isLeast_15 (by decide) (fun c3 => ?_) (fun c3 => ?_)
      · have hm := brp hm c3
        refine lv_iconst (v := 1) hx hb dR_isLeast_29 (by decide) ?_
        refine lv_goto (tgt := 34) hx hb dR_isLeast_30 (by decide) ?_
        exact W.zret hx hb hr rfl (fun t ht hW => ⟨⟨1, (), rfl, Option.some.inj hm, trivial⟩, hS.F ht⟩) hS.2.2 dR_isLeast_34 hlk
      · have hm := brn hm c3
        exact hk18 x0 hm _ _ _ hS (lv_sub hl [0] rfl)
set_option maxHeartbeats 4000000 in
theorem gw_R_isLeast {p : Program} {l : Launch} {e : Env} {s : State} {m : MethodId} {args : Array Value} {below : List Frame} {meth : Method} {c : Code} {res : Int32} (X : Cx p s m args meth c bR_isLeast (some .boolean) 1 RR) : ∀ n : Nat, (∀ (x0 : Int32), (g_R_isLeast n) x0 = some res → WZ p l e (headSpec (Cond.code yR_isLeast bR_isLeast 1 (some .boolean) :: gtb) rm_R_isLeast).room s m args below meth c (MQ below (va_Qi (fun (r : Int32) (_ : Unit) => r = res) (fun _ _ => True) (fun _ => False)) args s 0 0 (fun _ => False)) 1 18 [(0, .int x0)] []) := by
  intro n
  induction n with
  | zero => exact fun _ h => by cases h
  | succ n ih =>
    have ih18 := ih
    exact fun x0 h => w_R_isLeast_18 X  x0 h
set_option maxHeartbeats 4000000 in
set_option maxRecDepth 100000 in
theorem c_R_isLeast (l : Launch) (x0 : Int32) (res : Int32) (hm : m_R_isLeast x0 = some res) : Met l yR_isLeast (Cond.code yR_isLeast bR_isLeast 1 (some .boolean) :: gtb) rm_R_isLeast (va_Pc [.int x0] (fun _ => True)) (va_Qi (fun (r : Int32) (_ : Unit) => r = res) (fun _ _ => True) (fun _ => False)) 0 0 (fun _ => False) := by
  refine Met.ofW (cc := bR_isLeast) (maxL := 1) (ret := (some .boolean)) (by decide) rfl ?_
  intro p e s m args below meth c s₁ B hml hv
  obtain ⟨rfl, -⟩ := hv
  have X : Cx p s m [.int x0].toArray meth c bR_isLeast (some .boolean) 1 RR := ⟨B.exec, B.bytes, B.returns, hml, findClass_of_methodNamed B.named, fun w h => atoms_spec (ws := (Cond.code yR_isLeast bR_isLeast 1 (some .boolean) :: gtb)) B.pre w (List.mem_cons_of_mem _ h), B.notSynchronized⟩
  have hl := lv_entry ([.int x0]) (n := 1) (Nat.le_of_ble_eq_true rfl)
  rw [lg_entry_eq]
  generalize (lg_sl ([.int x0]) ++ List.replicate (1 - (lg_sl ([.int x0])).length) Slot.unset).toArray = ls at hl ⊢
  have hl : lv_has ls 1 [(0, .int x0)] := hl
  exact w_R_isLeast_0 X (gw_R_isLeast X fuel) x0 hm _ _ _ va_S.rf hl
def b_R_divisor_17 (k17 : Int64 → Int64 → Option (Int64)) (x4 : Int64) (x6 : Int64) : Option (Int64) :=
  nm (lg_cmp x6 0) fun v1 =>
  if v1 = 0 then
    some (x4)
  else
    gd (¬ x6 = 0) <|
    nm (x4 - x4 / x6 * x6) fun v4 =>
    k17 x6 v4
def b_R_divisor_0 (k17 : Int64 → Int64 → Option (Int64)) (x0 : Int64) (x2 : Int64) : Option (Int64) :=
  nm (lg_cmp x0 0) fun v1 =>
  if 0 ≤ v1 then
    k17 x0 x2
  else
    nm (-x0) fun v3 =>
    k17 v3 x2
def g_R_divisor : Nat → (Int64 → Int64 → Option (Int64))
  | 0 => (fun _ _ => none)
  | n + 1 => (fun x4 x6 => b_R_divisor_17 (g_R_divisor n) x4 x6)
def m_R_divisor (x0 : Int64) (x2 : Int64) : Option (Int64) := b_R_divisor_0 (g_R_divisor fuel) x0 x2
def rm_R_divisor : Room := { frames := 0, cells := 0, slots := 0, locals := 0 }
set_option maxHeartbeats 4000000 in
set_option maxRecDepth 100000 in
theorem w_R_divisor_17 {p : Program} {l : Launch} {e : Env} {s : State} {m : MethodId} {args : Array Value} {below : List Frame} {meth : Method} {c : Code} {res : Int64} (X : Cx p s m args meth c bR_divisor (some .long) 10 RR)
    {k17 : Int64 → Int64 → Option (Int64)} (hk17 : ∀ (x4 : Int64) (x6 : Int64), k17 x4 x6 = some res → WZ p l e (headSpec (Cond.code yR_divisor bR_divisor 10 (some .long) :: gtb) rm_R_divisor).room s m args below meth c (MQ below (va_Ql (fun (r : Int64) (_ : Unit) => r = res) (fun _ _ => True) (fun _ => False)) args s 0 0 (fun _ => False)) 10 17 [(4, .long x4), (6, .long x6)] [])
     (x4 : Int64) (x6 : Int64) (hm : b_R_divisor_17 k17 x4 x6 = some res) : WZ p l e (headSpec (Cond.code yR_divisor bR_divisor 10 (some .long) :: gtb) rm_R_divisor).room s m args below meth c (MQ below (va_Ql (fun (r : Int64) (_ : Unit) => r = res) (fun _ _ => True) (fun _ => False)) args s 0 0 (fun _ => False)) 10 17 [(4, .long x4), (6, .long x6)] [] := by
  obtain ⟨hx, hb, hr, hml, hown, hT, hlk⟩ := X
  intro H locs ls hS hl
  unfold b_R_divisor_17 at hm
  refine lv_lload hx hb dR_divisor_17 (lv_at hl 1 rfl) ?_
  refine lv_lconst (v := 0) hx hb dR_divisor_19 (by decide) ?_
  refine W.lcmp hx hb dR_divisor_20 ?_
  refine lv_topi (fun v1 ev1 => ?_)
  have hm := nm_to ev1 hm
  refine lv_if_eq (tgt := 42) hx hb dR_divisor_21 (by decide) (fun c2 => ?_) (fun c2 => ?_)
  · have hm := brp hm c2
    refine lv_lload hx hb dR_divisor_42 (lv_at hl 0 rfl) ?_
    exact W.lret hx hb hr (fun t ht hW => ⟨⟨x4, (), rfl, Option.some.inj hm, trivial⟩, hS.F ht⟩) hS.2.2 dR_divisor_44 hlk
  · have hm := brn hm c2
    refine lv_lload hx hb dR_divisor_24 (lv_at hl 0 rfl) ?_
    refine lv_lload hx hb dR_divisor_26 (lv_at hl 1 rfl) ?_
    obtain ⟨g3, hm⟩ := gd_to hm
    refine lv_lrem hx hb dR_divisor_28 g3 ?_
    refine lv_topl (fun v4 ev4 => ?_)
    have hm := nm_to ev4 hm
    refine lv_lstore (lv' := [(8, .long v4), (4, .long x4), (6, .long x6)]) hx hb dR_divisor_29 hl (by decide) rfl (fun ls hl => ?_)
    refine lv_lload hx hb dR_divisor_31 (lv_at hl 2 rfl) ?_
    refine lv_lstore (lv' := [(4, .long x6), (8, .long v4), (6, .long x6)]) hx hb dR_divisor_33 hl (by decide) rfl (fun ls hl => ?_)
    refine lv_lload hx hb dR_divisor_35 (lv_at hl 1 rfl) ?_
    refine lv_lstore (lv' := [(6, .long v4), (4, .long x6), (8, .long v4)]) hx hb dR_divisor_37 hl (by decide) rfl (fun ls hl => ?_)
    refine lv_goto (tgt := 17) hx hb dR_divisor_39 (by decide) ?_
    exact hk17 x6 v4 hm _ _ _ hS (lv_sub hl [1, 0] rfl)
set_option maxHeartbeats 4000000 in
set_option maxRecDepth 100000 in
theorem w_R_divisor_0 {p : Program} {l : Launch} {e : Env} {s : State} {m : MethodId} {args : Array Value} {below : List Frame} {meth : Method} {c : Code} {res : Int64} (X : Cx p s m args meth c bR_divisor (some .long) 10 RR)
    {k17 : Int64 → Int64 → Option (Int64)} (hk17 : ∀ (x4 : Int64) (x6 : Int64), k17 x4 x6 = some res → WZ p l e (headSpec (Cond.code yR_divisor bR_divisor 10 (some .long) :: gtb) rm_R_divisor).room s m args below meth c (MQ below (va_Ql (fun (r : Int64) (_ : Unit) => r = res) (fun _ _ => True) (fun _ => False)) args s 0 0 (fun _ => False)) 10 17 [(4, .long x4), (6, .long x6)] [])
     (x0 : Int64) (x2 : Int64) (hm : b_R_divisor_0 k17 x0 x2 = some res) : WZ p l e (headSpec (Cond.code yR_divisor bR_divisor 10 (some .long) :: gtb) rm_R_divisor).room s m args below meth c (MQ below (va_Ql (fun (r : Int64) (_ : Unit) => r = res) (fun _ _ => True) (fun _ => False)) args s 0 0 (fun _ => False)) 10 0 [(0, .long x0), (2, .long x2)] [] := by
  obtain ⟨hx, hb, hr, hml, hown, hT, hlk⟩ := X
  intro H locs ls hS hl
  unfold b_R_divisor_0 at hm
  refine lv_lload_n hx hb dR_divisor_0 rfl (lv_at hl 0 rfl) ?_
  refine lv_lconst (v := 0) hx hb dR_divisor_1 (by decide) ?_
  refine W.lcmp hx hb dR_divisor_2 ?_
  refine lv_topi (fun v1 ev1 => ?_)
  have hm := nm_to ev1 hm
  refine lv_if_ge (tgt := 11) hx hb dR_divisor_3 (by decide) (fun c2 => ?_) (fun c2 => ?_)
  · have hm := brp hm c2
    refine lv_lload_n hx hb dR_divisor_11 rfl (lv_at hl 0 rfl) ?_
    refine lv_lstore (lv' := [(4, .long x0), (0, .long x0), (2, .long x2)]) hx hb dR_divisor_12 hl (by decide) rfl (fun ls hl => ?_)
    refine lv_lload_n hx hb dR_divisor_14 rfl (lv_at hl 2 rfl) ?_
    refine lv_lstore (lv' := [(6, .long x2), (4, .long x0), (0, .long x0), (2, .long x2)]) hx hb dR_divisor_15 hl (by decide) rfl (fun ls hl => ?_)
    exact hk17 x0 x2 hm _ _ _ hS (lv_sub hl [1, 0] rfl)
  · have hm := brn hm c2
    refine lv_lload_n hx hb dR_divisor_6 rfl (lv_at hl 0 rfl) ?_
    refine lv_lneg hx hb dR_divisor_7 ?_
    refine lv_topl (fun v3 ev3 => ?_)
    have hm := nm_to ev3 hm
    refine lv_goto (tgt := 12) hx hb dR_divisor_8 (by decide) ?_
    refine lv_lstore (lv' := [(4, .long v3), (0, .long x0), (2, .long x2)]) hx hb dR_divisor_12 hl (by decide) rfl (fun ls hl => ?_)
    refine lv_lload_n hx hb dR_divisor_14 rfl (lv_at hl 2 rfl) ?_
    refine lv_lstore (lv' := [(6, .long x2), (4, .long v3), (0, .long x0), (2, .long x2)]) hx hb dR_divisor_15 hl (by decide) rfl (fun ls hl => ?_)
    exact hk17 v3 x2 hm _ _ _ hS (lv_sub hl [1, 0] rfl)
set_option maxHeartbeats 4000000 in
theorem gw_R_divisor {p : Program} {l : Launch} {e : Env} {s : State} {m : MethodId} {args : Array Value} {below : List Frame} {meth : Method} {c : Code} {res : Int64} (X : Cx p s m args meth c bR_divisor (some .long) 10 RR) : ∀ n : Nat, (∀ (x4 : Int64) (x6 : Int64), (g_R_divisor n) x4 x6 = some res → WZ p l e (headSpec (Cond.code yR_divisor bR_divisor 10 (some .long) :: gtb) rm_R_divisor).room s m args below meth c (MQ below (va_Ql (fun (r : Int64) (_ : Unit) => r = res) (fun _ _ => True) (fun _ => False)) args s 0 0 (fun _ => False)) 10 17 [(4, .long x4), (6, .long x6)] []) := by
  intro n
  induction n with
  | zero => exact fun _ _ h => by cases h
  | succ n ih =>
    have ih17 := ih
    exact fun x4 x6 h => w_R_divisor_17 X ih17 x4 x6 h
set_option maxHeartbeats 4000000 in
set_option maxRecDepth 100000 in
theorem c_R_divisor (l : Launch) (x0 : Int64) (x2 : Int64) (res : Int64) (hm : m_R_divisor x0 x2 = some res) : Met l yR_divisor (Cond.code yR_divisor bR_divisor 10 (some .long) :: gtb) rm_R_divisor (va_Pc [.long x0, .long x2] (fun _ => True)) (va_Ql (fun (r : Int64) (_ : Unit) => r = res) (fun _ _ => True) (fun _ => False)) 0 0 (fun _ => False) := by
  refine Met.ofW (cc := bR_divisor) (maxL := 10) (ret := (some .long)) (by decide) rfl ?_
  intro p e s m args below meth c s₁ B hml hv
  obtain ⟨rfl, -⟩ := hv
  have X : Cx p s m [.long x0, .long x2].toArray meth c bR_divisor (some .long) 10 RR := ⟨B.exec, B.bytes, B.returns, hml, findClass_of_methodNamed B.named, fun w h => atoms_spec (ws := (Cond.code yR_divisor bR_divisor 10 (some .long) :: gtb)) B.pre w (List.mem_cons_of_mem _ h), B.notSynchronized⟩
  have hl := lv_entry ([.long x0, .long x2]) (n := 10) (Nat.le_of_ble_eq_true rfl)
  rw [lg_entry_eq]
  generalize (lg_sl ([.long x0, .long x2]) ++ List.replicate (10 - (lg_sl ([.long x0, .long x2])).length) Slot.unset).toArray = ls at hl ⊢
  have hl : lv_has ls 10 [(0, .long x0), (2, .long x2)] := hl
  exact w_R_divisor_0 X (gw_R_divisor X fuel) x0 x2 hm _ _ _ va_S.rf hl
def b_R_isStuff_0 (x1 : Int32) (I : SI) (J : SJ) : Option (Int32 × SI × SJ) :=
  if x1 < 0 then
    some (0, I, J)
  else
    if (I 0 0) ≤ x1 then
      some (0, I, J)
    else
      some (1, I, J)
def m_R_isStuff (x1 : Int32) (I : SI) (J : SJ) : Option (Int32 × SI × SJ) := b_R_isStuff_0 x1 I J
def rm_R_isStuff : Room := { frames := 0, cells := 0, slots := 0, locals := 0 }
set_option maxHeartbeats 4000000 in
set_option maxRecDepth 100000 in
theorem w_R_isStuff_0 {p : Program} {l : Launch} {e : Env} {s : State} {m : MethodId} {args : Array Value} {below : List Frame} {meth : Method} {c : Code} {D : va_G} {A : Nat → Prop} {ad : Nat → Nat} {cI cJ cG : ClassId} {res : Int32 × SI × SJ} (X : Cx p s m args meth c bR_isStuff (some .boolean) 2 RR) (hK : va_K D vwCl (tysR cI cJ cG) s) (hN : NWs s) (hA : ∀ q, s.heap.size ≤ q → A q)
     (x1 : Int32) (I : SI) (J : SJ) (hm : b_R_isStuff_0  x1 I J = some res) : WB p l e (headSpec (Cond.code yR_isStuff bR_isStuff 2 (some .boolean) :: gtb) rm_R_isStuff).room s m args below meth c (MQ below (va_Qi (fun (r : Int32) (u : SI × SJ) => (r, u) = res) (atW D vwCl (tysR cI cJ cG) A (wsR ad cI cJ cG)) A) args s 0 0 A) D vwCl A 2 (wsR ad cI cJ cG I J) 0 [(0, .ref (ad 0)), (1, .int x1)] [] := by
  obtain ⟨hx, hb, hr, hml, hown, hT, hlk⟩ := X
  intro H locs ls hP hD hS hl
  unfold b_R_isStuff_0 at hm
  refine lv_iload_n hx hb dR_isStuff_0 rfl (lv_at hl 1 rfl) ?_
  refine lv_if_lt (tgt := 16) hx hb dR_isStuff_1 (by decide) (fun c1 => ?_) (fun c1 => ?_)
  · have hm := brp hm c1
    refine lv_iconst (v := 0) hx hb dR_isStuff_16 (by decide) ?_
    exact W.zret hx hb hr rfl (fun t ht hW => ⟨⟨0, (I, J), rfl, Option.some.inj hm, ht ▸ hP, va_K.moved hW.alike hK, hD⟩, hS.F ht⟩) hS.2.2 dR_isStuff_17 hlk
  · have hm := brn hm c1
    refine lv_iload_n hx hb dR_isStuff_4 rfl (lv_at hl 1 rfl) ?_
    refine lv_aload_n hx hb dR_isStuff_5 rfl (lv_at hl 0 rfl) ?_
    refine va_get (D := D) (ci := 6) (v := .int (I 0 0)) (C := RR) (T := TR) (N := 31) hx hb hT inR hown hK hP 0 rfl rfl 0 (by decide) (hT _ wd_535) (fun _ h9 => h9) rfl dR_isStuff_6 ?_
    refine lv_icmp_ge (tgt := 16) hx hb dR_isStuff_9 (by decide) (fun c2 => ?_) (fun c2 => ?_)
    · have hm := brp hm c2
      refine lv_iconst (v := 0) hx hb dR_isStuff_16 (by decide) ?_
      exact W.zret hx hb hr rfl (fun t ht hW => ⟨⟨0, (I, J), rfl, Option.some.inj hm, ht ▸ hP, va_K.moved hW.alike hK, hD⟩, hS.F ht⟩) hS.2.2 dR_isStuff_17 hlk
    · have hm := brn hm c2
      refine lv_iconst (v := 1) hx hb dR_isStuff_12 (by decide) ?_
      refine lv_goto (tgt := 17) hx hb dR_isStuff_13 (by decide) ?_
      exact W.zret hx hb hr rfl (fun t ht hW => ⟨⟨1, (I, J), rfl, Option.some.inj hm, ht ▸ hP, va_K.moved hW.alike hK, hD⟩, hS.F ht⟩) hS.2.2 dR_isStuff_17 hlk
set_option maxHeartbeats 4000000 in
set_option maxRecDepth 100000 in
theorem c_R_isStuff (l : Launch) (D : va_G) (ad : Nat → Nat) (cI cJ cG : ClassId) (sz : Nat) (x1 : Int32) (I : SI) (J : SJ) (res : Int32 × SI × SJ) (hm : m_R_isStuff x1 I J = some res) : Met l yR_isStuff (Cond.code yR_isStuff bR_isStuff 2 (some .boolean) :: gtb) rm_R_isStuff (va_Pc [.ref (ad 0), .int x1] (preW D vwCl (tysR cI cJ cG) (wsR ad cI cJ cG I J) sz)) (va_Qi (fun (r : Int32) (u : SI × SJ) => (r, u) = res) (atW D vwCl (tysR cI cJ cG) (va_A (wsR ad cI cJ cG I J) sz) (wsR ad cI cJ cG)) (va_A (wsR ad cI cJ cG I J) sz)) 0 0 (va_A (wsR ad cI cJ cG I J) sz) := by
  refine Met.ofW (cc := bR_isStuff) (maxL := 2) (ret := (some .boolean)) (by decide) rfl ?_
  intro p e s m args below meth c s₁ B hml hv
  obtain ⟨rfl, hsz, hP, hK, hD0, hN⟩ := hv
  subst hsz
  have X : Cx p s m [.ref (ad 0), .int x1].toArray meth c bR_isStuff (some .boolean) 2 RR := ⟨B.exec, B.bytes, B.returns, hml, findClass_of_methodNamed B.named, fun w h => atoms_spec (ws := (Cond.code yR_isStuff bR_isStuff 2 (some .boolean) :: gtb)) B.pre w (List.mem_cons_of_mem _ h), B.notSynchronized⟩
  have hl := lv_entry ([.ref (ad 0), .int x1]) (n := 2) (Nat.le_of_ble_eq_true rfl)
  rw [lg_entry_eq]
  generalize (lg_sl ([.ref (ad 0), .int x1]) ++ List.replicate (2 - (lg_sl ([.ref (ad 0), .int x1])).length) Slot.unset).toArray = ls at hl ⊢
  have hl : lv_has ls 2 [(0, .ref (ad 0)), (1, .int x1)] := hl
  have hA : ∀ q, s.heap.size ≤ q → va_A (wsR ad cI cJ cG I J) s.heap.size q := fun q h => Or.inr h
  exact w_R_isStuff_0 X hK hN hA  x1 I J hm _ _ _ hP hD0.self va_S.rf hl
def b_R_isThere_28 (x1 : Int32) (I : SI) (J : SJ) : Option (Int32 × SI × SJ) :=
  if x1 < 18 then
    some (0, I, J)
  else
    nm (x1 - 18) fun v2 =>
    if (I 0 0) ≤ v2 then
      some (0, I, J)
    else
      some (1, I, J)
def b_R_isThere_0 (k28 : Int32 → SI → SJ → Option (Int32 × SI × SJ)) (x1 : Int32) (I : SI) (J : SJ) : Option (Int32 × SI × SJ) :=
  if x1 < 12 then
    nm (x1 - x1 / 4 * 4) fun v2 =>
    if (I 0 0) ≤ v2 then
      k28 x1 I J
    else
      if x1 < 12 then
        some (1, I, J)
      else
        k28 x1 I J
  else
    if x1 < 18 then
      some (1, I, J)
    else
      nm (x1 - x1 / 4 * 4) fun v6 =>
      if (I 0 0) ≤ v6 then
        k28 x1 I J
      else
        if x1 < 12 then
          some (1, I, J)
        else
          k28 x1 I J
def g_R_isThere : Nat → (Int32 → SI → SJ → Option (Int32 × SI × SJ))
  | 0 => (fun _ _ _ => none)
  | n + 1 => (fun x1 I J => b_R_isThere_28  x1 I J)
def m_R_isThere (x1 : Int32) (I : SI) (J : SJ) : Option (Int32 × SI × SJ) := b_R_isThere_0 (g_R_isThere fuel) x1 I J
def rm_R_isThere : Room := { frames := 0, cells := 0, slots := 0, locals := 0 }
set_option maxHeartbeats 4000000 in
set_option maxRecDepth 100000 in
theorem w_R_isThere_28 {p : Program} {l : Launch} {e : Env} {s : State} {m : MethodId} {args : Array Value} {below : List Frame} {meth : Method} {c : Code} {D : va_G} {A : Nat → Prop} {ad : Nat → Nat} {cI cJ cG : ClassId} {res : Int32 × SI × SJ} (X : Cx p s m args meth c bR_isThere (some .boolean) 2 RR) (hK : va_K D vwCl (tysR cI cJ cG) s) (hN : NWs s) (hA : ∀ q, s.heap.size ≤ q → A q)
     (x1 : Int32) (I : SI) (J : SJ) (hm : b_R_isThere_28  x1 I J = some res) : WB p l e (headSpec (Cond.code yR_isThere bR_isThere 2 (some .boolean) :: gtb) rm_R_isThere).room s m args below meth c (MQ below (va_Qi (fun (r : Int32) (u : SI × SJ) => (r, u) = res) (atW D vwCl (tysR cI cJ cG) A (wsR ad cI cJ cG)) A) args s 0 0 A) D vwCl A 2 (wsR ad cI cJ cG I J) 28 [(0, .ref (ad 0)), (1, .int x1)] [] := by
  obtain ⟨hx, hb, hr, hml, hown, hT, hlk⟩ := X
  intro H locs ls hP hD hS hl
  unfold b_R_isThere_28 at hm
  refine lv_iload_n hx hb dR_isThere_28 rfl (lv_at hl 1 rfl) ?_
  refine lv_bipush (v := 18) hx hb dR_isThere_29 (by decide) ?_
  refine lv_icmp_lt (tgt := 49) hx hb dR_isThere_31 (by decide) (fun c1 => ?_) (fun c1 => ?_)
  · have hm := brp hm c1
    refine lv_iconst (v := 0) hx hb dR_isThere_49 (by decide) ?_
    exact W.zret hx hb hr rfl (fun t ht hW => ⟨⟨0, (I, J), rfl, Option.some.inj hm, ht ▸ hP, va_K.moved hW.alike hK, hD⟩, hS.F ht⟩) hS.2.2 dR_isThere_50 hlk
  · have hm := brn hm c1
    refine lv_iload_n hx hb dR_isThere_34 rfl (lv_at hl 1 rfl) ?_
    refine lv_bipush (v := 18) hx hb dR_isThere_35 (by decide) ?_
    refine lv_isub hx hb dR_isThere_37 ?_
    refine lv_topi (fun v2 ev2 => ?_)
    have hm := nm_to ev2 hm
    refine lv_aload_n hx hb dR_isThere_38 rfl (lv_at hl 0 rfl) ?_
    refine va_get (D := D) (ci := 6) (v := .int (I 0 0)) (C := RR) (T := TR) (N := 31) hx hb hT inR hown hK hP 0 rfl rfl 0 (by decide) (hT _ wd_535) (fun _ h9 => h9) rfl dR_isThere_39 ?_
    refine lv_icmp_ge (tgt := 49) hx hb dR_isThere_42 (by decide) (fun c3 => ?_) (fun c3 => ?_)
    · have hm := brp hm c3
      refine lv_iconst (v := 0) hx hb dR_isThere_49 (by decide) ?_
      exact W.zret hx hb hr rfl (fun t ht hW => ⟨⟨0, (I, J), rfl, Option.some.inj hm, ht ▸ hP, va_K.moved hW.alike hK, hD⟩, hS.F ht⟩) hS.2.2 dR_isThere_50 hlk
    · have hm := brn hm c3
      refine lv_iconst (v := 1) hx hb dR_isThere_45 (by decide) ?_
      refine lv_goto (tgt := 50) hx hb dR_isThere_46 (by decide) ?_
      exact W.zret hx hb hr rfl (fun t ht hW => ⟨⟨1, (I, J), rfl, Option.some.inj hm, ht ▸ hP, va_K.moved hW.alike hK, hD⟩, hS.F ht⟩) hS.2.2 dR_isThere_50 hlk
set_option maxHeartbeats 4000000 in
set_option maxRecDepth 100000 in
theorem w_R_isThere_0 {p : Program} {l : Launch} {e : Env} {s : State} {m : MethodId} {args : Array Value} {below : List Frame} {meth : Method} {c : Code} {D : va_G} {A : Nat → Prop} {ad : Nat → Nat} {cI cJ cG : ClassId} {res : Int32 × SI × SJ} (X : Cx p s m args meth c bR_isThere (some .boolean) 2 RR) (hK : va_K D vwCl (tysR cI cJ cG) s) (hN : NWs s) (hA : ∀ q, s.heap.size ≤ q → A q)
    {k28 : Int32 → SI → SJ → Option (Int32 × SI × SJ)} (hk28 : ∀ (x1 : Int32) (I : SI) (J : SJ), k28 x1 I J = some res → WB p l e (headSpec (Cond.code yR_isThere bR_isThere 2 (some .boolean) :: gtb) rm_R_isThere).room s m args below meth c (MQ below (va_Qi (fun (r : Int32) (u : SI × SJ) => (r, u) = res) (atW D vwCl (tysR cI cJ cG) A (wsR ad cI cJ cG)) A) args s 0 0 A) D vwCl A 2 (wsR ad cI cJ cG I J) 28 [(0, .ref (ad 0)), (1, .int x1)] [])
     (x1 : Int32) (I : SI) (J : SJ) (hm : b_R_isThere_0 k28 x1 I J = some res) : WB p l e (headSpec (Cond.code yR_isThere bR_isThere 2 (some .boolean) :: gtb) rm_R_isThere).room s m args below meth c (MQ below (va_Qi (fun (r : Int32) (u : SI × SJ) => (r, u) = res) (atW D vwCl (tysR cI cJ cG) A (wsR ad cI cJ cG)) A) args s 0 0 A) D vwCl A 2 (wsR ad cI cJ cG I J) 0 [(0, .ref (ad 0)), (1, .int x1)] [] := by
  obtain ⟨hx, hb, hr, hml, hown, hT, hlk⟩ := X
  intro H locs ls hP hD hS hl
  unfold b_R_isThere_0 at hm
  refine lv_iload_n hx hb dR_isThere_0 rfl (lv_at hl 1 rfl) ?_
  refine lv_bipush (v := 12) hx hb dR_isThere_1 (by decide) ?_
  refine lv_icmp_lt (tgt := 12) hx hb dR_isThere_3 (by decide) (fun c1 => ?_) (fun c1 => ?_)
  · have hm := brp hm c1
    refine lv_iload_n hx hb dR_isThere_12 rfl (lv_at hl 1 rfl) ?_
    refine lv_iconst (v := 4) hx hb dR_isThere_13 (by decide) ?_
    refine lv_irem hx hb dR_isThere_14 (by decide) ?_
    refine lv_topi (fun v2 ev2 => ?_)
    have hm := nm_to ev2 hm
    refine lv_aload_n hx hb dR_isThere_15 rfl (lv_at hl 0 rfl) ?_
    refine va_get (D := D) (ci := 6) (v := .int (I 0 0)) (C := RR) (T := TR) (N := 31) hx hb hT inR hown hK hP 0 rfl rfl 0 (by decide) (hT _ wd_535) (fun _ h9 => h9) rfl dR_isThere_16 ?_
    refine lv_icmp_ge (tgt := 28) hx hb dR_isThere_19 (by decide) (fun c3 => ?_) (fun c3 => ?_)
    · have hm := brp hm c3
      exact hk28 x1 I J hm _ _ _ hP hD hS (lv_sub hl [0, 1] rfl)
    · have hm := brn hm c3
      refine lv_iload_n hx hb dR_isThere_22 rfl (lv_at hl 1 rfl) ?_
      refine lv_bipush (v := 12) hx hb dR_isThere_23 (by decide) ?_
      refine lv_icmp_lt (tgt := 45) hx hb dR_isThere_25 (by decide) (fun c4 => ?_) (fun c4 => ?_)
      · have hm := brp hm c4
        refine lv_iconst (v := 1) hx hb dR_isThere_45 (by decide) ?_
        refine lv_goto (tgt := 50) hx hb dR_isThere_46 (by decide) ?_
        exact W.zret hx hb hr rfl (fun t ht hW => ⟨⟨1, (I, J), rfl, Option.some.inj hm, ht ▸ hP, va_K.moved hW.alike hK, hD⟩, hS.F ht⟩) hS.2.2 dR_isThere_50 hlk
      · have hm := brn hm c4
        exact hk28 x1 I J hm _ _ _ hP hD hS (lv_sub hl [0, 1] rfl)
  · have hm := brn hm c1
    refine lv_iload_n hx hb dR_isThere_6 rfl (lv_at hl 1 rfl) ?_
    refine lv_bipush (v := 18) hx hb dR_isThere_7 (by decide) ?_
    refine lv_icmp_lt (tgt := 45) hx hb dR_isThere_9 (by decide) (fun c5 => ?_) (fun c5 => ?_)
    · have hm := brp hm c5
      refine lv_iconst (v := 1) hx hb dR_isThere_45 (by decide) ?_
      refine lv_goto (tgt := 50) hx hb dR_isThere_46 (by decide) ?_
      exact W.zret hx hb hr rfl (fun t ht hW => ⟨⟨1, (I, J), rfl, Option.some.inj hm, ht ▸ hP, va_K.moved hW.alike hK, hD⟩, hS.F ht⟩) hS.2.2 dR_isThere_50 hlk
    · have hm := brn hm c5
      refine lv_iload_n hx hb dR_isThere_12 rfl (lv_at hl 1 rfl) ?_
      refine lv_iconst (v := 4) hx hb dR_isThere_13 (by decide) ?_
      refine lv_irem hx hb dR_isThere_14 (by decide) ?_
      refine lv_topi (fun v6 ev6 => ?_)
      have hm := nm_to ev6 hm
      refine lv_aload_n hx hb dR_isThere_15 rfl (lv_at hl 0 rfl) ?_
      refine va_get (D := D) (ci := 6) (v := .int (I 0 0)) (C := RR) (T := TR) (N := 31) hx hb hT inR hown hK hP 0 rfl rfl 0 (by decide) (hT _ wd_535) (fun _ h9 => h9) rfl dR_isThere_16 ?_
      refine lv_icmp_ge (tgt := 28) hx hb dR_isThere_19 (by decide) (fun c7 => ?_) (fun c7 => ?_)
      · have hm := brp hm c7
        exact hk28 x1 I J hm _ _ _ hP hD hS (lv_sub hl [0, 1] rfl)
      · have hm := brn hm c7
        refine lv_iload_n hx hb dR_isThere_22 rfl (lv_at hl 1 rfl) ?_
        refine lv_bipush (v := 12) hx hb dR_isThere_23 (by decide) ?_
        refine lv_icmp_lt (tgt := 45) hx hb dR_isThere_25 (by decide) (fun c8 => ?_) (fun c8 => ?_)
        · have hm := brp hm c8
          refine lv_iconst (v := 1) hx hb dR_isThere_45 (by decide) ?_
          refine lv_goto (tgt := 50) hx hb dR_isThere_46 (by decide) ?_
          exact W.zret hx hb hr rfl (fun t ht hW => ⟨⟨1, (I, J), rfl, Option.some.inj hm, ht ▸ hP, va_K.moved hW.alike hK, hD⟩, hS.F ht⟩) hS.2.2 dR_isThere_50 hlk
        · have hm := brn hm c8
          exact hk28 x1 I J hm _ _ _ hP hD hS (lv_sub hl [0, 1] rfl)
set_option maxHeartbeats 4000000 in
theorem gw_R_isThere {p : Program} {l : Launch} {e : Env} {s : State} {m : MethodId} {args : Array Value} {below : List Frame} {meth : Method} {c : Code} {D : va_G} {A : Nat → Prop} {ad : Nat → Nat} {cI cJ cG : ClassId} {res : Int32 × SI × SJ} (X : Cx p s m args meth c bR_isThere (some .boolean) 2 RR) (hK : va_K D vwCl (tysR cI cJ cG) s) (hN : NWs s) (hA : ∀ q, s.heap.size ≤ q → A q) : ∀ n : Nat, (∀ (x1 : Int32) (I : SI) (J : SJ), (g_R_isThere n) x1 I J = some res → WB p l e (headSpec (Cond.code yR_isThere bR_isThere 2 (some .boolean) :: gtb) rm_R_isThere).room s m args below meth c (MQ below (va_Qi (fun (r : Int32) (u : SI × SJ) => (r, u) = res) (atW D vwCl (tysR cI cJ cG) A (wsR ad cI cJ cG)) A) args s 0 0 A) D vwCl A 2 (wsR ad cI cJ cG I J) 28 [(0, .ref (ad 0)), (1, .int x1)] []) := by
  intro n
  induction n with
  | zero => exact fun _ _ _ h => by cases h
  | succ n ih =>
    have ih28 := ih
    exact fun x1 I J h => w_R_isThere_28 X hK hN hA  x1 I J h
set_option maxHeartbeats 4000000 in
set_option maxRecDepth 100000 in
theorem c_R_isThere (l : Launch) (D : va_G) (ad : Nat → Nat) (cI cJ cG : ClassId) (sz : Nat) (x1 : Int32) (I : SI) (J : SJ) (res : Int32 × SI × SJ) (hm : m_R_isThere x1 I J = some res) : Met l yR_isThere (Cond.code yR_isThere bR_isThere 2 (some .boolean) :: gtb) rm_R_isThere (va_Pc [.ref (ad 0), .int x1] (preW D vwCl (tysR cI cJ cG) (wsR ad cI cJ cG I J) sz)) (va_Qi (fun (r : Int32) (u : SI × SJ) => (r, u) = res) (atW D vwCl (tysR cI cJ cG) (va_A (wsR ad cI cJ cG I J) sz) (wsR ad cI cJ cG)) (va_A (wsR ad cI cJ cG I J) sz)) 0 0 (va_A (wsR ad cI cJ cG I J) sz) := by
  refine Met.ofW (cc := bR_isThere) (maxL := 2) (ret := (some .boolean)) (by decide) rfl ?_
  intro p e s m args below meth c s₁ B hml hv
  obtain ⟨rfl, hsz, hP, hK, hD0, hN⟩ := hv
  subst hsz
  have X : Cx p s m [.ref (ad 0), .int x1].toArray meth c bR_isThere (some .boolean) 2 RR := ⟨B.exec, B.bytes, B.returns, hml, findClass_of_methodNamed B.named, fun w h => atoms_spec (ws := (Cond.code yR_isThere bR_isThere 2 (some .boolean) :: gtb)) B.pre w (List.mem_cons_of_mem _ h), B.notSynchronized⟩
  have hl := lv_entry ([.ref (ad 0), .int x1]) (n := 2) (Nat.le_of_ble_eq_true rfl)
  rw [lg_entry_eq]
  generalize (lg_sl ([.ref (ad 0), .int x1]) ++ List.replicate (2 - (lg_sl ([.ref (ad 0), .int x1])).length) Slot.unset).toArray = ls at hl ⊢
  have hl : lv_has ls 2 [(0, .ref (ad 0)), (1, .int x1)] := hl
  have hA : ∀ q, s.heap.size ≤ q → va_A (wsR ad cI cJ cG I J) s.heap.size q := fun q h => Or.inr h
  exact w_R_isThere_0 X hK hN hA (gw_R_isThere X hK hN hA fuel) x1 I J hm _ _ _ hP hD0.self va_S.rf hl
def b_R_factor_0 (x1 : Int32) (x2 : Int32) (I : SI) (J : SJ) : Option (Int64 × SI × SJ) :=
  if x1 < 18 then
    if x1 < 12 then
      nm (x1 - x1 / 4 * 4) fun v3 =>
      if v3 = x2 then
        if 4 ≤ x1 then
          some (10, I, J)
        else
          some (1, I, J)
      else
        some (0, I, J)
    else
      nm (x1 - 12) fun v6 =>
      nm (v6 - v6 / 3 * 3) fun v7 =>
      nm (4 * v7) fun v8 =>
      nm (v8 + x2) fun v9 =>
      gd (vin v9 12) <|
      nm (I 3 v9.toNatClampNeg) fun v11 =>
      nm (Int32.toInt64 v11) fun v12 =>
      some (v12, I, J)
  else
    nm (x1 - 18) fun v13 =>
    if v13 = x2 then
      some (1, I, J)
    else
      some (0, I, J)
def m_R_factor (x1 : Int32) (x2 : Int32) (I : SI) (J : SJ) : Option (Int64 × SI × SJ) := b_R_factor_0 x1 x2 I J
def rm_R_factor : Room := { frames := 0, cells := 0, slots := 0, locals := 0 }
set_option maxHeartbeats 4000000 in
set_option maxRecDepth 100000 in
theorem w_R_factor_0 {p : Program} {l : Launch} {e : Env} {s : State} {m : MethodId} {args : Array Value} {below : List Frame} {meth : Method} {c : Code} {D : va_G} {A : Nat → Prop} {ad : Nat → Nat} {cI cJ cG : ClassId} {res : Int64 × SI × SJ} (X : Cx p s m args meth c bR_factor (some .long) 3 RR) (hK : va_K D vwCl (tysR cI cJ cG) s) (hN : NWs s) (hA : ∀ q, s.heap.size ≤ q → A q)
     (x1 : Int32) (x2 : Int32) (I : SI) (J : SJ) (hm : b_R_factor_0  x1 x2 I J = some res) : WB p l e (headSpec (Cond.code yR_factor bR_factor 3 (some .long) :: gtb) rm_R_factor).room s m args below meth c (MQ below (va_Ql (fun (r : Int64) (u : SI × SJ) => (r, u) = res) (atW D vwCl (tysR cI cJ cG) A (wsR ad cI cJ cG)) A) args s 0 0 A) D vwCl A 3 (wsR ad cI cJ cG I J) 0 [(0, .ref (ad 0)), (1, .int x1), (2, .int x2)] [] := by
  obtain ⟨hx, hb, hr, hml, hown, hT, hlk⟩ := X
  intro H locs ls hP hD hS hl
  unfold b_R_factor_0 at hm
  refine lv_iload_n hx hb dR_factor_0 rfl (lv_at hl 1 rfl) ?_
  refine lv_bipush (v := 18) hx hb dR_factor_1 (by decide) ?_
  refine lv_icmp_lt (tgt := 20) hx hb dR_factor_3 (by decide) (fun c1 => ?_) (fun c1 => ?_)
  · have hm := brp hm c1
    refine lv_iload_n hx hb dR_factor_20 rfl (lv_at hl 1 rfl) ?_
    refine lv_bipush (v := 12) hx hb dR_factor_21 (by decide) ?_
    refine lv_icmp_lt (tgt := 43) hx hb dR_factor_23 (by decide) (fun c2 => ?_) (fun c2 => ?_)
    · have hm := brp hm c2
      refine lv_iload_n hx hb dR_factor_43 rfl (lv_at hl 1 rfl) ?_
      refine lv_iconst (v := 4) hx hb dR_factor_44 (by decide) ?_
      refine lv_irem hx hb dR_factor_45 (by decide) ?_
      refine lv_topi (fun v3 ev3 => ?_)
      have hm := nm_to ev3 hm
      refine lv_iload_n hx hb dR_factor_46 rfl (lv_at hl 2 rfl) ?_
      refine lv_icmp_eq (tgt := 54) hx hb dR_factor_47 (by decide) (fun c4 => ?_) (fun c4 => ?_)
      · have hm := brp hm c4
        refine lv_iload_n hx hb dR_factor_54 rfl (lv_at hl 1 rfl) ?_
        refine lv_iconst (v := 4) hx hb dR_factor_55 (by decide) ?_
        refine lv_icmp_ge (tgt := 63) hx hb dR_factor_56 (by decide) (fun c5 => ?_) (fun c5 => ?_)
        · have hm := brp hm c5
          refine lv_ldc2 (v := 10) hx hb hown (hT _ wd_705) dR_factor_63 ?_
          exact W.lret hx hb hr (fun t ht hW => ⟨⟨10, (I, J), rfl, Option.some.inj hm, ht ▸ hP, va_K.moved hW.alike hK, hD⟩, hS.F ht⟩) hS.2.2 dR_factor_66 hlk
        · have hm := brn hm c5
          refine lv_lconst (v := 1) hx hb dR_factor_59 (by decide) ?_
          refine lv_goto (tgt := 66) hx hb dR_factor_60 (by decide) ?_
          exact W.lret hx hb hr (fun t ht hW => ⟨⟨1, (I, J), rfl, Option.some.inj hm, ht ▸ hP, va_K.moved hW.alike hK, hD⟩, hS.F ht⟩) hS.2.2 dR_factor_66 hlk
      · have hm := brn hm c4
        refine lv_lconst (v := 0) hx hb dR_factor_50 (by decide) ?_
        refine lv_goto (tgt := 66) hx hb dR_factor_51 (by decide) ?_
        exact W.lret hx hb hr (fun t ht hW => ⟨⟨0, (I, J), rfl, Option.some.inj hm, ht ▸ hP, va_K.moved hW.alike hK, hD⟩, hS.F ht⟩) hS.2.2 dR_factor_66 hlk
    · have hm := brn hm c2
      refine lv_aload_n hx hb dR_factor_26 rfl (lv_at hl 0 rfl) ?_
      refine va_get (D := D) (ci := 6) (v := .ref (ad 3)) (C := RR) (T := TR) (N := 31) hx hb hT inR hown hK hP 0 rfl rfl 3 (by decide) (hT _ wd_538) (fun _ h9 => h9) rfl dR_factor_27 ?_
      refine lv_iconst (v := 4) hx hb dR_factor_30 (by decide) ?_
      refine lv_iload_n hx hb dR_factor_31 rfl (lv_at hl 1 rfl) ?_
      refine lv_bipush (v := 12) hx hb dR_factor_32 (by decide) ?_
      refine lv_isub hx hb dR_factor_34 ?_
      refine lv_topi (fun v6 ev6 => ?_)
      have hm := nm_to ev6 hm
      refine lv_iconst (v := 3) hx hb dR_factor_35 (by decide) ?_
      refine lv_irem hx hb dR_factor_36 (by decide) ?_
      refine lv_topi (fun v7 ev7 => ?_)
      have hm := nm_to ev7 hm
      refine lv_imul hx hb dR_factor_37 ?_
      refine lv_topi (fun v8 ev8 => ?_)
      have hm := nm_to ev8 hm
      refine lv_iload_n hx hb dR_factor_38 rfl (lv_at hl 2 rfl) ?_
      refine lv_iadd hx hb dR_factor_39 ?_
      refine lv_topi (fun v9 ev9 => ?_)
      have hm := nm_to ev9 hm
      obtain ⟨g10, hm⟩ := gd_to hm
      refine va_iald hx hb hK hP 3 0 rfl rfl g10 dR_factor_40 ?_
      refine lv_topi (fun v11 ev11 => ?_)
      have hm := nm_to ev11 hm
      refine lv_i2l hx hb dR_factor_41 rfl ?_
      refine lv_topl (fun v12 ev12 => ?_)
      have hm := nm_to ev12 hm
      exact W.lret hx hb hr (fun t ht hW => ⟨⟨v12, (I, J), rfl, Option.some.inj hm, ht ▸ hP, va_K.moved hW.alike hK, hD⟩, hS.F ht⟩) hS.2.2 dR_factor_42 hlk
  · have hm := brn hm c1
    refine lv_iload_n hx hb dR_factor_6 rfl (lv_at hl 1 rfl) ?_
    refine lv_bipush (v := 18) hx hb dR_factor_7 (by decide) ?_
    refine lv_isub hx hb dR_factor_9 ?_
    refine lv_topi (fun v13 ev13 => ?_)
    have hm := nm_to ev13 hm
    refine lv_iload_n hx hb dR_factor_10 rfl (lv_at hl 2 rfl) ?_
    refine lv_icmp_ne (tgt := 18) hx hb dR_factor_11 (by decide) (fun c14 => ?_) (fun c14 => ?_)
    · have hm := brn hm c14
      refine lv_lconst (v := 0) hx hb dR_factor_18 (by decide) ?_
      exact W.lret hx hb hr (fun t ht hW => ⟨⟨0, (I, J), rfl, Option.some.inj hm, ht ▸ hP, va_K.moved hW.alike hK, hD⟩, hS.F ht⟩) hS.2.2 dR_factor_19 hlk
    · have hm := brp hm c14
      refine lv_lconst (v := 1) hx hb dR_factor_14 (by decide) ?_
      refine lv_goto (tgt := 19) hx hb dR_factor_15 (by decide) ?_
      exact W.lret hx hb hr (fun t ht hW => ⟨⟨1, (I, J), rfl, Option.some.inj hm, ht ▸ hP, va_K.moved hW.alike hK, hD⟩, hS.F ht⟩) hS.2.2 dR_factor_19 hlk
set_option maxHeartbeats 4000000 in
set_option maxRecDepth 100000 in
theorem c_R_factor (l : Launch) (D : va_G) (ad : Nat → Nat) (cI cJ cG : ClassId) (sz : Nat) (x1 : Int32) (x2 : Int32) (I : SI) (J : SJ) (res : Int64 × SI × SJ) (hm : m_R_factor x1 x2 I J = some res) : Met l yR_factor (Cond.code yR_factor bR_factor 3 (some .long) :: gtb) rm_R_factor (va_Pc [.ref (ad 0), .int x1, .int x2] (preW D vwCl (tysR cI cJ cG) (wsR ad cI cJ cG I J) sz)) (va_Ql (fun (r : Int64) (u : SI × SJ) => (r, u) = res) (atW D vwCl (tysR cI cJ cG) (va_A (wsR ad cI cJ cG I J) sz) (wsR ad cI cJ cG)) (va_A (wsR ad cI cJ cG I J) sz)) 0 0 (va_A (wsR ad cI cJ cG I J) sz) := by
  refine Met.ofW (cc := bR_factor) (maxL := 3) (ret := (some .long)) (by decide) rfl ?_
  intro p e s m args below meth c s₁ B hml hv
  obtain ⟨rfl, hsz, hP, hK, hD0, hN⟩ := hv
  subst hsz
  have X : Cx p s m [.ref (ad 0), .int x1, .int x2].toArray meth c bR_factor (some .long) 3 RR := ⟨B.exec, B.bytes, B.returns, hml, findClass_of_methodNamed B.named, fun w h => atoms_spec (ws := (Cond.code yR_factor bR_factor 3 (some .long) :: gtb)) B.pre w (List.mem_cons_of_mem _ h), B.notSynchronized⟩
  have hl := lv_entry ([.ref (ad 0), .int x1, .int x2]) (n := 3) (Nat.le_of_ble_eq_true rfl)
  rw [lg_entry_eq]
  generalize (lg_sl ([.ref (ad 0), .int x1, .int x2]) ++ List.replicate (3 - (lg_sl ([.ref (ad 0), .int x1, .int x2])).length) Slot.unset).toArray = ls at hl ⊢
  have hl : lv_has ls 3 [(0, .ref (ad 0)), (1, .int x1), (2, .int x2)] := hl
  have hA : ∀ q, s.heap.size ≤ q → va_A (wsR ad cI cJ cG I J) s.heap.size q := fun q h => Or.inr h
  exact w_R_factor_0 X hK hN hA  x1 x2 I J hm _ _ _ hP hD0.self va_S.rf hl
def b_R_right_0 (x1 : Int32) (x2 : Int32) (I : SI) (J : SJ) : Option (Int64 × SI × SJ) :=
  if x1 < 18 then
    if x1 < 12 then
      if 4 ≤ x1 then
        nm (Int32.toInt64 x2) fun v4 =>
        if 8 ≤ x1 then
          nm (x1 - 8) fun v6 =>
          gd (vin v6 4) <|
          nm (I 5 v6.toNatClampNeg) fun v8 =>
          nm (Int32.toInt64 v8) fun v9 =>
          nm (v4 * v9) fun v10 =>
          some (v10, I, J)
        else
          nm (x1 - 4) fun v11 =>
          gd (vin v11 4) <|
          nm (I 4 v11.toNatClampNeg) fun v13 =>
          nm (Int32.toInt64 v13) fun v14 =>
          nm (v4 * v14) fun v15 =>
          some (v15, I, J)
      else
        gd (vin x1 4) <|
        nm (I 2 x1.toNatClampNeg) fun v17 =>
        nm (Int32.toInt64 v17) fun v18 =>
        some (v18, I, J)
    else
      nm (Int32.toInt64 x2) fun v19 =>
      if 15 ≤ x1 then
        nm (x1 - 15) fun v21 =>
        gd (vin v21 3) <|
        nm (I 8 v21.toNatClampNeg) fun v23 =>
        nm (Int32.toInt64 v23) fun v24 =>
        nm (v19 * v24) fun v25 =>
        some (v25, I, J)
      else
        nm (x1 - 12) fun v26 =>
        gd (vin v26 3) <|
        nm (I 7 v26.toNatClampNeg) fun v28 =>
        nm (Int32.toInt64 v28) fun v29 =>
        nm (v19 * v29) fun v30 =>
        some (v30, I, J)
  else
    some (0, I, J)
def m_R_right (x1 : Int32) (x2 : Int32) (I : SI) (J : SJ) : Option (Int64 × SI × SJ) := b_R_right_0 x1 x2 I J
def rm_R_right : Room := { frames := 0, cells := 0, slots := 0, locals := 0 }
set_option maxHeartbeats 4000000 in
set_option maxRecDepth 100000 in
theorem w_R_right_0 {p : Program} {l : Launch} {e : Env} {s : State} {m : MethodId} {args : Array Value} {below : List Frame} {meth : Method} {c : Code} {D : va_G} {A : Nat → Prop} {ad : Nat → Nat} {cI cJ cG : ClassId} {res : Int64 × SI × SJ} (X : Cx p s m args meth c bR_right (some .long) 3 RR) (hK : va_K D vwCl (tysR cI cJ cG) s) (hN : NWs s) (hA : ∀ q, s.heap.size ≤ q → A q)
     (x1 : Int32) (x2 : Int32) (I : SI) (J : SJ) (hm : b_R_right_0  x1 x2 I J = some res) : WB p l e (headSpec (Cond.code yR_right bR_right 3 (some .long) :: gtb) rm_R_right).room s m args below meth c (MQ below (va_Ql (fun (r : Int64) (u : SI × SJ) => (r, u) = res) (atW D vwCl (tysR cI cJ cG) A (wsR ad cI cJ cG)) A) args s 0 0 A) D vwCl A 3 (wsR ad cI cJ cG I J) 0 [(0, .ref (ad 0)), (1, .int x1), (2, .int x2)] [] := by
  obtain ⟨hx, hb, hr, hml, hown, hT, hlk⟩ := X
  intro H locs ls hP hD hS hl
  unfold b_R_right_0 at hm
  refine lv_iload_n hx hb dR_right_0 rfl (lv_at hl 1 rfl) ?_
  refine lv_bipush (v := 18) hx hb dR_right_1 (by decide) ?_
  refine lv_icmp_lt (tgt := 8) hx hb dR_right_3 (by decide) (fun c1 => ?_) (fun c1 => ?_)
  · have hm := brp hm c1
    refine lv_iload_n hx hb dR_right_8 rfl (lv_at hl 1 rfl) ?_
    refine lv_bipush (v := 12) hx hb dR_right_9 (by decide) ?_
    refine lv_icmp_lt (tgt := 46) hx hb dR_right_11 (by decide) (fun c2 => ?_) (fun c2 => ?_)
    · have hm := brp hm c2
      refine lv_iload_n hx hb dR_right_46 rfl (lv_at hl 1 rfl) ?_
      refine lv_iconst (v := 4) hx hb dR_right_47 (by decide) ?_
      refine lv_icmp_ge (tgt := 61) hx hb dR_right_48 (by decide) (fun c3 => ?_) (fun c3 => ?_)
      · have hm := brp hm c3
        refine lv_iload_n hx hb dR_right_61 rfl (lv_at hl 2 rfl) ?_
        refine lv_i2l hx hb dR_right_62 rfl ?_
        refine lv_topl (fun v4 ev4 => ?_)
        have hm := nm_to ev4 hm
        refine lv_iload_n hx hb dR_right_63 rfl (lv_at hl 1 rfl) ?_
        refine lv_bipush (v := 8) hx hb dR_right_64 (by decide) ?_
        refine lv_icmp_ge (tgt := 80) hx hb dR_right_66 (by decide) (fun c5 => ?_) (fun c5 => ?_)
        · have hm := brp hm c5
          refine lv_aload_n hx hb dR_right_80 rfl (lv_at hl 0 rfl) ?_
          refine va_get (D := D) (ci := 6) (v := .ref (ad 5)) (C := RR) (T := TR) (N := 31) hx hb hT inR hown hK hP 0 rfl rfl 5 (by decide) (hT _ wd_540) (fun _ h9 => h9) rfl dR_right_81 ?_
          refine lv_iload_n hx hb dR_right_84 rfl (lv_at hl 1 rfl) ?_
          refine lv_bipush (v := 8) hx hb dR_right_85 (by decide) ?_
          refine lv_isub hx hb dR_right_87 ?_
          refine lv_topi (fun v6 ev6 => ?_)
          have hm := nm_to ev6 hm
          obtain ⟨g7, hm⟩ := gd_to hm
          refine va_iald hx hb hK hP 5 0 rfl rfl g7 dR_right_88 ?_
          refine lv_topi (fun v8 ev8 => ?_)
          have hm := nm_to ev8 hm
          refine lv_i2l hx hb dR_right_89 rfl ?_
          refine lv_topl (fun v9 ev9 => ?_)
          have hm := nm_to ev9 hm
          refine lv_lmul hx hb dR_right_90 ?_
          refine lv_topl (fun v10 ev10 => ?_)
          have hm := nm_to ev10 hm
          exact W.lret hx hb hr (fun t ht hW => ⟨⟨v10, (I, J), rfl, Option.some.inj hm, ht ▸ hP, va_K.moved hW.alike hK, hD⟩, hS.F ht⟩) hS.2.2 dR_right_91 hlk
        · have hm := brn hm c5
          refine lv_aload_n hx hb dR_right_69 rfl (lv_at hl 0 rfl) ?_
          refine va_get (D := D) (ci := 6) (v := .ref (ad 4)) (C := RR) (T := TR) (N := 31) hx hb hT inR hown hK hP 0 rfl rfl 4 (by decide) (hT _ wd_539) (fun _ h9 => h9) rfl dR_right_70 ?_
          refine lv_iload_n hx hb dR_right_73 rfl (lv_at hl 1 rfl) ?_
          refine lv_iconst (v := 4) hx hb dR_right_74 (by decide) ?_
          refine lv_isub hx hb dR_right_75 ?_
          refine lv_topi (fun v11 ev11 => ?_)
          have hm := nm_to ev11 hm
          obtain ⟨g12, hm⟩ := gd_to hm
          refine va_iald hx hb hK hP 4 0 rfl rfl g12 dR_right_76 ?_
          refine lv_topi (fun v13 ev13 => ?_)
          have hm := nm_to ev13 hm
          refine lv_goto (tgt := 89) hx hb dR_right_77 (by decide) ?_
          refine lv_i2l hx hb dR_right_89 rfl ?_
          refine lv_topl (fun v14 ev14 => ?_)
          have hm := nm_to ev14 hm
          refine lv_lmul hx hb dR_right_90 ?_
          refine lv_topl (fun v15 ev15 => ?_)
          have hm := nm_to ev15 hm
          exact W.lret hx hb hr (fun t ht hW => ⟨⟨v15, (I, J), rfl, Option.some.inj hm, ht ▸ hP, va_K.moved hW.alike hK, hD⟩, hS.F ht⟩) hS.2.2 dR_right_91 hlk
      · have hm := brn hm c3
        refine lv_aload_n hx hb dR_right_51 rfl (lv_at hl 0 rfl) ?_
        refine va_get (D := D) (ci := 6) (v := .ref (ad 2)) (C := RR) (T := TR) (N := 31) hx hb hT inR hown hK hP 0 rfl rfl 2 (by decide) (hT _ wd_537) (fun _ h9 => h9) rfl dR_right_52 ?_
        refine lv_iload_n hx hb dR_right_55 rfl (lv_at hl 1 rfl) ?_
        obtain ⟨g16, hm⟩ := gd_to hm
        refine va_iald hx hb hK hP 2 0 rfl rfl g16 dR_right_56 ?_
        refine lv_topi (fun v17 ev17 => ?_)
        have hm := nm_to ev17 hm
        refine lv_i2l hx hb dR_right_57 rfl ?_
        refine lv_topl (fun v18 ev18 => ?_)
        have hm := nm_to ev18 hm
        refine lv_goto (tgt := 91) hx hb dR_right_58 (by decide) ?_
        exact W.lret hx hb hr (fun t ht hW => ⟨⟨v18, (I, J), rfl, Option.some.inj hm, ht ▸ hP, va_K.moved hW.alike hK, hD⟩, hS.F ht⟩) hS.2.2 dR_right_91 hlk
    · have hm := brn hm c2
      refine lv_iload_n hx hb dR_right_14 rfl (lv_at hl 2 rfl) ?_
      refine lv_i2l hx hb dR_right_15 rfl ?_
      refine lv_topl (fun v19 ev19 => ?_)
      have hm := nm_to ev19 hm
      refine lv_iload_n hx hb dR_right_16 rfl (lv_at hl 1 rfl) ?_
      refine lv_bipush (v := 15) hx hb dR_right_17 (by decide) ?_
      refine lv_icmp_ge (tgt := 34) hx hb dR_right_19 (by decide) (fun c20 => ?_) (fun c20 => ?_)
      · have hm := brp hm c20
        refine lv_aload_n hx hb dR_right_34 rfl (lv_at hl 0 rfl) ?_
        refine va_get (D := D) (ci := 6) (v := .ref (ad 8)) (C := RR) (T := TR) (N := 31) hx hb hT inR hown hK hP 0 rfl rfl 8 (by decide) (hT _ wd_543) (fun _ h9 => h9) rfl dR_right_35 ?_
        refine lv_iload_n hx hb dR_right_38 rfl (lv_at hl 1 rfl) ?_
        refine lv_bipush (v := 15) hx hb dR_right_39 (by decide) ?_
        refine lv_isub hx hb dR_right_41 ?_
        refine lv_topi (fun v21 ev21 => ?_)
        have hm := nm_to ev21 hm
        obtain ⟨g22, hm⟩ := gd_to hm
        refine va_iald hx hb hK hP 8 0 rfl rfl g22 dR_right_42 ?_
        refine lv_topi (fun v23 ev23 => ?_)
        have hm := nm_to ev23 hm
        refine lv_i2l hx hb dR_right_43 rfl ?_
        refine lv_topl (fun v24 ev24 => ?_)
        have hm := nm_to ev24 hm
        refine lv_lmul hx hb dR_right_44 ?_
        refine lv_topl (fun v25 ev25 => ?_)
        have hm := nm_to ev25 hm
        exact W.lret hx hb hr (fun t ht hW => ⟨⟨v25, (I, J), rfl, Option.some.inj hm, ht ▸ hP, va_K.moved hW.alike hK, hD⟩, hS.F ht⟩) hS.2.2 dR_right_45 hlk
      · have hm := brn hm c20
        refine lv_aload_n hx hb dR_right_22 rfl (lv_at hl 0 rfl) ?_
        refine va_get (D := D) (ci := 6) (v := .ref (ad 7)) (C := RR) (T := TR) (N := 31) hx hb hT inR hown hK hP 0 rfl rfl 7 (by decide) (hT _ wd_542) (fun _ h9 => h9) rfl dR_right_23 ?_
        refine lv_iload_n hx hb dR_right_26 rfl (lv_at hl 1 rfl) ?_
        refine lv_bipush (v := 12) hx hb dR_right_27 (by decide) ?_
        refine lv_isub hx hb dR_right_29 ?_
        refine lv_topi (fun v26 ev26 => ?_)
        have hm := nm_to ev26 hm
        obtain ⟨g27, hm⟩ := gd_to hm
        refine va_iald hx hb hK hP 7 0 rfl rfl g27 dR_right_30 ?_
        refine lv_topi (fun v28 ev28 => ?_)
        have hm := nm_to ev28 hm
        refine lv_goto (tgt := 43) hx hb dR_right_31 (by decide) ?_
        refine lv_i2l hx hb dR_right_43 rfl ?_
        refine lv_topl (fun v29 ev29 => ?_)
        have hm := nm_to ev29 hm
        refine lv_lmul hx hb dR_right_44 ?_
        refine lv_topl (fun v30 ev30 => ?_)
        have hm := nm_to ev30 hm
        exact W.lret hx hb hr (fun t ht hW => ⟨⟨v30, (I, J), rfl, Option.some.inj hm, ht ▸ hP, va_K.moved hW.alike hK, hD⟩, hS.F ht⟩) hS.2.2 dR_right_45 hlk
  · have hm := brn hm c1
    refine lv_lconst (v := 0) hx hb dR_right_6 (by decide) ?_
    exact W.lret hx hb hr (fun t ht hW => ⟨⟨0, (I, J), rfl, Option.some.inj hm, ht ▸ hP, va_K.moved hW.alike hK, hD⟩, hS.F ht⟩) hS.2.2 dR_right_7 hlk
set_option maxHeartbeats 4000000 in
set_option maxRecDepth 100000 in
theorem c_R_right (l : Launch) (D : va_G) (ad : Nat → Nat) (cI cJ cG : ClassId) (sz : Nat) (x1 : Int32) (x2 : Int32) (I : SI) (J : SJ) (res : Int64 × SI × SJ) (hm : m_R_right x1 x2 I J = some res) : Met l yR_right (Cond.code yR_right bR_right 3 (some .long) :: gtb) rm_R_right (va_Pc [.ref (ad 0), .int x1, .int x2] (preW D vwCl (tysR cI cJ cG) (wsR ad cI cJ cG I J) sz)) (va_Ql (fun (r : Int64) (u : SI × SJ) => (r, u) = res) (atW D vwCl (tysR cI cJ cG) (va_A (wsR ad cI cJ cG I J) sz) (wsR ad cI cJ cG)) (va_A (wsR ad cI cJ cG I J) sz)) 0 0 (va_A (wsR ad cI cJ cG I J) sz) := by
  refine Met.ofW (cc := bR_right) (maxL := 3) (ret := (some .long)) (by decide) rfl ?_
  intro p e s m args below meth c s₁ B hml hv
  obtain ⟨rfl, hsz, hP, hK, hD0, hN⟩ := hv
  subst hsz
  have X : Cx p s m [.ref (ad 0), .int x1, .int x2].toArray meth c bR_right (some .long) 3 RR := ⟨B.exec, B.bytes, B.returns, hml, findClass_of_methodNamed B.named, fun w h => atoms_spec (ws := (Cond.code yR_right bR_right 3 (some .long) :: gtb)) B.pre w (List.mem_cons_of_mem _ h), B.notSynchronized⟩
  have hl := lv_entry ([.ref (ad 0), .int x1, .int x2]) (n := 3) (Nat.le_of_ble_eq_true rfl)
  rw [lg_entry_eq]
  generalize (lg_sl ([.ref (ad 0), .int x1, .int x2]) ++ List.replicate (3 - (lg_sl ([.ref (ad 0), .int x1, .int x2])).length) Slot.unset).toArray = ls at hl ⊢
  have hl : lv_has ls 3 [(0, .ref (ad 0)), (1, .int x1), (2, .int x2)] := hl
  have hA : ∀ q, s.heap.size ≤ q → va_A (wsR ad cI cJ cG I J) s.heap.size q := fun q h => Or.inr h
  exact w_R_right_0 X hK hN hA  x1 x2 I J hm _ _ _ hP hD0.self va_S.rf hl
def b_R_stuff_0 (x1 : Int32) (x2 : Int32) (I : SI) (J : SJ) : Option (Int32 × SI × SJ) :=
  if (I 0 0) = 4 then
    some (-1, I, J)
  else
    cl1 (m_R_in x1 0 1000) fun r2 =>
    if r2 = 0 then
      some (-1, I, J)
    else
      cl1 (m_R_in x2 0 40) fun r5 =>
      if r5 = 0 then
        some (-1, I, J)
      else
        gd (vin (I 0 0) 4) <|
        nm (va_up I 1 (upd (I 1) (I 0 0).toNatClampNeg x1)) fun I9 =>
        gd (vin (I9 0 0) 4) <|
        nm (va_up I9 2 (upd (I9 2) (I9 0 0).toNatClampNeg x2)) fun I11 =>
        gd (vin (I11 0 0) 4) <|
        nm (va_up I11 5 (upd (I11 5) (I11 0 0).toNatClampNeg 10)) fun I13 =>
        nm ((I13 0 0) + 1) fun v14 =>
        nm (va_up I13 0 (upd (I13 0) 0 v14)) fun I15 =>
        nm ((I15 0 0) - 1) fun v16 =>
        some (v16, I15, J)
def m_R_stuff (x1 : Int32) (x2 : Int32) (I : SI) (J : SJ) : Option (Int32 × SI × SJ) := b_R_stuff_0 x1 x2 I J
def rm_R_stuff : Room := { frames := 1, cells := 0, slots := 0, locals := 22 }
set_option maxHeartbeats 4000000 in
set_option maxRecDepth 100000 in
theorem w_R_stuff_0 {p : Program} {l : Launch} {e : Env} {s : State} {m : MethodId} {args : Array Value} {below : List Frame} {meth : Method} {c : Code} {D : va_G} {A : Nat → Prop} {ad : Nat → Nat} {cI cJ cG : ClassId} {res : Int32 × SI × SJ} (X : Cx p s m args meth c bR_stuff (some .int) 3 RR) (hK : va_K D vwCl (tysR cI cJ cG) s) (hN : NWs s) (hA : ∀ q, s.heap.size ≤ q → A q)
     (x1 : Int32) (x2 : Int32) (I : SI) (J : SJ) (hm : b_R_stuff_0  x1 x2 I J = some res) : WB p l e (headSpec (Cond.code yR_stuff bR_stuff 3 (some .int) :: gtb) rm_R_stuff).room s m args below meth c (MQ below (va_Qi (fun (r : Int32) (u : SI × SJ) => (r, u) = res) (atW D vwCl (tysR cI cJ cG) A (wsR ad cI cJ cG)) A) args s 0 0 A) D vwCl A 3 (wsR ad cI cJ cG I J) 0 [(0, .ref (ad 0)), (1, .int x1), (2, .int x2)] [] := by
  obtain ⟨hx, hb, hr, hml, hown, hT, hlk⟩ := X
  intro H locs ls hP hD hS hl
  unfold b_R_stuff_0 at hm
  refine lv_aload_n hx hb dR_stuff_0 rfl (lv_at hl 0 rfl) ?_
  refine va_get (D := D) (ci := 6) (v := .int (I 0 0)) (C := RR) (T := TR) (N := 31) hx hb hT inR hown hK hP 0 rfl rfl 0 (by decide) (hT _ wd_535) (fun _ h9 => h9) rfl dR_stuff_1 ?_
  refine lv_iconst (v := 4) hx hb dR_stuff_4 (by decide) ?_
  refine lv_icmp_eq (tgt := 29) hx hb dR_stuff_5 (by decide) (fun c1 => ?_) (fun c1 => ?_)
  · have hm := brp hm c1
    refine lv_iconst (v := (-1)) hx hb dR_stuff_29 (by decide) ?_
    exact W.iret hx hb hr (fun t ht hW => ⟨⟨-1, (I, J), rfl, Option.some.inj hm, ht ▸ hP, va_K.moved hW.alike hK, hD⟩, hS.F ht⟩) hS.2.2 dR_stuff_30 hlk
  · have hm := brn hm c1
    refine lv_iload_n hx hb dR_stuff_8 rfl (lv_at hl 1 rfl) ?_
    refine lv_iconst (v := 0) hx hb dR_stuff_9 (by decide) ?_
    refine lv_sipush (v := 1000) hx hb dR_stuff_10 (by decide) ?_
    obtain ⟨r2, hc3, hm⟩ := cl1_to hm
    refine pstZ_i hS (va_runS (As := [.int x1, .int 0, .int 1000]) (rest := []) ⟨hx, hb, hml, hown, hT⟩ (c_R_in l x1 0 1000 _ hc3) (va_cwS 3 hT (gS wd_634 wd_635 wd_57 wd_636) rfl rfl rfl (by decide +kernel) ⟨Nat.le_of_ble_eq_true rfl, Nat.le_of_ble_eq_true rfl⟩) ⟨preZ_fb, preZ_at⟩ rfl rfl hl.1 rfl (lv_room (Nat.le_of_ble_eq_true rfl)) dR_stuff_13 ⟨Nat.zero_le _, Nat.zero_le _⟩) (fun H1 locs hq hS => ?_)
    have hP := keptP hP hq
    refine lv_if_eq (tgt := 29) hx hb dR_stuff_16 (by decide) (fun c4 => ?_) (fun c4 => ?_)
    · have hm := brp hm c4
      refine lv_iconst (v := (-1)) hx hb dR_stuff_29 (by decide) ?_
      exact W.iret hx hb hr (fun t ht hW => ⟨⟨-1, (I, J), rfl, Option.some.inj hm, ht ▸ hP, va_K.moved hW.alike hK, hD⟩, hS.F ht⟩) hS.2.2 dR_stuff_30 hlk
    · have hm := brn hm c4
      refine lv_iload_n hx hb dR_stuff_19 rfl (lv_at hl 2 rfl) ?_
      refine lv_iconst (v := 0) hx hb dR_stuff_20 (by decide) ?_
      refine lv_bipush (v := 40) hx hb dR_stuff_21 (by decide) ?_
      obtain ⟨r5, hc6, hm⟩ := cl1_to hm
      refine pstZ_i hS (va_runS (As := [.int x2, .int 0, .int 40]) (rest := []) ⟨hx, hb, hml, hown, hT⟩ (c_R_in l x2 0 40 _ hc6) (va_cwS 3 hT (gS wd_634 wd_635 wd_57 wd_636) rfl rfl rfl (by decide +kernel) ⟨Nat.le_of_ble_eq_true rfl, Nat.le_of_ble_eq_true rfl⟩) ⟨preZ_fb, preZ_at⟩ rfl rfl hl.1 rfl (lv_room (Nat.le_of_ble_eq_true rfl)) dR_stuff_23 ⟨Nat.zero_le _, Nat.zero_le _⟩) (fun H1 locs hq hS => ?_)
      have hP := keptP hP hq
      refine lv_if_ne (tgt := 31) hx hb dR_stuff_26 (by decide) (fun c7 => ?_) (fun c7 => ?_)
      · have hm := brn hm c7
        refine lv_aload_n hx hb dR_stuff_31 rfl (lv_at hl 0 rfl) ?_
        refine va_get (D := D) (ci := 6) (v := .ref (ad 1)) (C := RR) (T := TR) (N := 31) hx hb hT inR hown hK hP 0 rfl rfl 1 (by decide) (hT _ wd_536) (fun _ h9 => h9) rfl dR_stuff_32 ?_
        refine lv_aload_n hx hb dR_stuff_35 rfl (lv_at hl 0 rfl) ?_
        refine va_get (D := D) (ci := 6) (v := .int (I 0 0)) (C := RR) (T := TR) (N := 31) hx hb hT inR hown hK hP 0 rfl rfl 0 (by decide) (hT _ wd_535) (fun _ h9 => h9) rfl dR_stuff_36 ?_
        refine lv_iload_n hx hb dR_stuff_39 rfl (lv_at hl 1 rfl) ?_
        obtain ⟨g8, hm⟩ := gd_to hm
        refine va_iast hx hb hK hP hD hS 1 0 rfl rfl g8 dR_stuff_40 (fun H locs hP hD hS => ?_)
        obtain ⟨I9, eI9⟩ : ∃ z : SI, z = va_up I 1 (upd (I 1) (I 0 0).toNatClampNeg x1) := ⟨_, rfl⟩
        have hm := nm_to eI9 hm
        have hP := P_eq (ws2 := wsR ad cI cJ cG I9 J) hP (by rw [eI9]; rfl)
        have hD := D_eq (ws2 := wsR ad cI cJ cG I9 J) hD (by rw [eI9]; rfl)
        refine lv_aload_n hx hb dR_stuff_41 rfl (lv_at hl 0 rfl) ?_
        refine va_get (D := D) (ci := 6) (v := .ref (ad 2)) (C := RR) (T := TR) (N := 31) hx hb hT inR hown hK hP 0 rfl rfl 2 (by decide) (hT _ wd_537) (fun _ h9 => h9) rfl dR_stuff_42 ?_
        refine lv_aload_n hx hb dR_stuff_45 rfl (lv_at hl 0 rfl) ?_
        refine va_get (D := D) (ci := 6) (v := .int (I9 0 0)) (C := RR) (T := TR) (N := 31) hx hb hT inR hown hK hP 0 rfl rfl 0 (by decide) (hT _ wd_535) (fun _ h9 => h9) rfl dR_stuff_46 ?_
        refine lv_iload_n hx hb dR_stuff_49 rfl (lv_at hl 2 rfl) ?_
        obtain ⟨g10, hm⟩ := gd_to hm
        refine va_iast hx hb hK hP hD hS 2 0 rfl rfl g10 dR_stuff_50 (fun H locs hP hD hS => ?_)
        obtain ⟨I11, eI11⟩ : ∃ z : SI, z = va_up I9 2 (upd (I9 2) (I9 0 0).toNatClampNeg x2) := ⟨_, rfl⟩
        have hm := nm_to eI11 hm
        have hP := P_eq (ws2 := wsR ad cI cJ cG I11 J) hP (by rw [eI11]; rfl)
        have hD := D_eq (ws2 := wsR ad cI cJ cG I11 J) hD (by rw [eI11]; rfl)
        refine lv_aload_n hx hb dR_stuff_51 rfl (lv_at hl 0 rfl) ?_
        refine va_get (D := D) (ci := 6) (v := .ref (ad 5)) (C := RR) (T := TR) (N := 31) hx hb hT inR hown hK hP 0 rfl rfl 5 (by decide) (hT _ wd_540) (fun _ h9 => h9) rfl dR_stuff_52 ?_
        refine lv_aload_n hx hb dR_stuff_55 rfl (lv_at hl 0 rfl) ?_
        refine va_get (D := D) (ci := 6) (v := .int (I11 0 0)) (C := RR) (T := TR) (N := 31) hx hb hT inR hown hK hP 0 rfl rfl 0 (by decide) (hT _ wd_535) (fun _ h9 => h9) rfl dR_stuff_56 ?_
        refine lv_bipush (v := 10) hx hb dR_stuff_59 (by decide) ?_
        obtain ⟨g12, hm⟩ := gd_to hm
        refine va_iast hx hb hK hP hD hS 5 0 rfl rfl g12 dR_stuff_61 (fun H locs hP hD hS => ?_)
        obtain ⟨I13, eI13⟩ : ∃ z : SI, z = va_up I11 5 (upd (I11 5) (I11 0 0).toNatClampNeg 10) := ⟨_, rfl⟩
        have hm := nm_to eI13 hm
        have hP := P_eq (ws2 := wsR ad cI cJ cG I13 J) hP (by rw [eI13]; rfl)
        have hD := D_eq (ws2 := wsR ad cI cJ cG I13 J) hD (by rw [eI13]; rfl)
        refine lv_aload_n hx hb dR_stuff_62 rfl (lv_at hl 0 rfl) ?_
        refine lv_dup hx hb dR_stuff_63 rfl ?_
        refine va_get (D := D) (ci := 6) (v := .int (I13 0 0)) (C := RR) (T := TR) (N := 31) hx hb hT inR hown hK hP 0 rfl rfl 0 (by decide) (hT _ wd_535) (fun _ h9 => h9) rfl dR_stuff_64 ?_
        refine lv_iconst (v := 1) hx hb dR_stuff_67 (by decide) ?_
        refine lv_iadd hx hb dR_stuff_68 ?_
        refine lv_topi (fun v14 ev14 => ?_)
        have hm := nm_to ev14 hm
        refine va_put (D := D) (ci := 6) (v := .int v14) (ty := .int) (C := RR) (T := TR) (N := 31) hx hb hT inR tyR okR nmR hown hK hP hD hS 0 rfl rfl 0 (by decide) (hT _ wd_535) (fun _ h9 => h9) rfl pf_I rfl rfl (Nat.le_of_ble_eq_true rfl) dR_stuff_69 (fun H locs hP hD hS => ?_)
        obtain ⟨I15, eI15⟩ : ∃ z : SI, z = va_up I13 0 (upd (I13 0) 0 v14) := ⟨_, rfl⟩
        have hm := nm_to eI15 hm
        have hP := P_eq (ws2 := wsR ad cI cJ cG I15 J) hP (by rw [eI15]; rfl)
        have hD := D_eq (ws2 := wsR ad cI cJ cG I15 J) hD (by rw [eI15]; rfl)
        refine lv_aload_n hx hb dR_stuff_72 rfl (lv_at hl 0 rfl) ?_
        refine va_get (D := D) (ci := 6) (v := .int (I15 0 0)) (C := RR) (T := TR) (N := 31) hx hb hT inR hown hK hP 0 rfl rfl 0 (by decide) (hT _ wd_535) (fun _ h9 => h9) rfl dR_stuff_73 ?_
        refine lv_iconst (v := 1) hx hb dR_stuff_76 (by decide) ?_
        refine lv_isub hx hb dR_stuff_77 ?_
        refine lv_topi (fun v16 ev16 => ?_)
        have hm := nm_to ev16 hm
        exact W.iret hx hb hr (fun t ht hW => ⟨⟨v16, (I15, J), rfl, Option.some.inj hm, ht ▸ hP, va_K.moved hW.alike hK, hD⟩, hS.F ht⟩) hS.2.2 dR_stuff_78 hlk
      · have hm := brp hm c7
        refine lv_iconst (v := (-1)) hx hb dR_stuff_29 (by decide) ?_
        exact W.iret hx hb hr (fun t ht hW => ⟨⟨-1, (I, J), rfl, Option.some.inj hm, ht ▸ hP, va_K.moved hW.alike hK, hD⟩, hS.F ht⟩) hS.2.2 dR_stuff_30 hlk
set_option maxHeartbeats 4000000 in
set_option maxRecDepth 100000 in
theorem c_R_stuff (l : Launch) (D : va_G) (ad : Nat → Nat) (cI cJ cG : ClassId) (sz : Nat) (x1 : Int32) (x2 : Int32) (I : SI) (J : SJ) (res : Int32 × SI × SJ) (hm : m_R_stuff x1 x2 I J = some res) : Met l yR_stuff (Cond.code yR_stuff bR_stuff 3 (some .int) :: gtb) rm_R_stuff (va_Pc [.ref (ad 0), .int x1, .int x2] (preW D vwCl (tysR cI cJ cG) (wsR ad cI cJ cG I J) sz)) (va_Qi (fun (r : Int32) (u : SI × SJ) => (r, u) = res) (atW D vwCl (tysR cI cJ cG) (va_A (wsR ad cI cJ cG I J) sz) (wsR ad cI cJ cG)) (va_A (wsR ad cI cJ cG I J) sz)) 0 0 (va_A (wsR ad cI cJ cG I J) sz) := by
  refine Met.ofW (cc := bR_stuff) (maxL := 3) (ret := (some .int)) (by decide) rfl ?_
  intro p e s m args below meth c s₁ B hml hv
  obtain ⟨rfl, hsz, hP, hK, hD0, hN⟩ := hv
  subst hsz
  have X : Cx p s m [.ref (ad 0), .int x1, .int x2].toArray meth c bR_stuff (some .int) 3 RR := ⟨B.exec, B.bytes, B.returns, hml, findClass_of_methodNamed B.named, fun w h => atoms_spec (ws := (Cond.code yR_stuff bR_stuff 3 (some .int) :: gtb)) B.pre w (List.mem_cons_of_mem _ h), B.notSynchronized⟩
  have hl := lv_entry ([.ref (ad 0), .int x1, .int x2]) (n := 3) (Nat.le_of_ble_eq_true rfl)
  rw [lg_entry_eq]
  generalize (lg_sl ([.ref (ad 0), .int x1, .int x2]) ++ List.replicate (3 - (lg_sl ([.ref (ad 0), .int x1, .int x2])).length) Slot.unset).toArray = ls at hl ⊢
  have hl : lv_has ls 3 [(0, .ref (ad 0)), (1, .int x1), (2, .int x2)] := hl
  have hA : ∀ q, s.heap.size ≤ q → va_A (wsR ad cI cJ cG I J) s.heap.size q := fun q h => Or.inr h
  exact w_R_stuff_0 X hK hN hA  x1 x2 I J hm _ _ _ hP hD0.self va_S.rf hl
def b_R_price_0 (x1 : Int32) (x2 : Int32) (I : SI) (J : SJ) : Option (Int32 × SI × SJ) :=
  cl3 (m_R_isStuff x1 I J) fun r1 I2 J3 =>
  if r1 = 0 then
    some (-1, I2, J3)
  else
    cl1 (m_R_in x2 0 1000) fun r6 =>
    if r6 = 0 then
      some (-1, I2, J3)
    else
      gd (vin x1 4) <|
      nm (I2 1 x1.toNatClampNeg) fun v10 =>
      gd (vin x1 4) <|
      nm (va_up I2 1 (upd (I2 1) x1.toNatClampNeg x2)) fun I12 =>
      some (v10, I12, J3)
def m_R_price (x1 : Int32) (x2 : Int32) (I : SI) (J : SJ) : Option (Int32 × SI × SJ) := b_R_price_0 x1 x2 I J
def rm_R_price : Room := { frames := 1, cells := 0, slots := 0, locals := 22 }
set_option maxHeartbeats 4000000 in
set_option maxRecDepth 100000 in
theorem w_R_price_0 {p : Program} {l : Launch} {e : Env} {s : State} {m : MethodId} {args : Array Value} {below : List Frame} {meth : Method} {c : Code} {D : va_G} {A : Nat → Prop} {ad : Nat → Nat} {cI cJ cG : ClassId} {res : Int32 × SI × SJ} (X : Cx p s m args meth c bR_price (some .int) 4 RR) (hK : va_K D vwCl (tysR cI cJ cG) s) (hN : NWs s) (hA : ∀ q, s.heap.size ≤ q → A q)
     (x1 : Int32) (x2 : Int32) (I : SI) (J : SJ) (hm : b_R_price_0  x1 x2 I J = some res) : WB p l e (headSpec (Cond.code yR_price bR_price 4 (some .int) :: gtb) rm_R_price).room s m args below meth c (MQ below (va_Qi (fun (r : Int32) (u : SI × SJ) => (r, u) = res) (atW D vwCl (tysR cI cJ cG) A (wsR ad cI cJ cG)) A) args s 0 0 A) D vwCl A 4 (wsR ad cI cJ cG I J) 0 [(0, .ref (ad 0)), (1, .int x1), (2, .int x2)] [] := by
  obtain ⟨hx, hb, hr, hml, hown, hT, hlk⟩ := X
  intro H locs ls hP hD hS hl
  unfold b_R_price_0 at hm
  refine lv_aload_n hx hb dR_price_0 rfl (lv_at hl 0 rfl) ?_
  refine lv_iload_n hx hb dR_price_1 rfl (lv_at hl 1 rfl) ?_
  obtain ⟨r1, I2, J3, hc4, hm⟩ := cl3_to hm
  refine pst_i (wf := wsR ad cI cJ cG) hD hS hA (va_runV (As := [.int x1]) (rest := []) ⟨hx, hb, hml, hown, hT⟩ (c_R_isStuff l D ad cI cJ cG _ x1 I J _ hc4) (cwV 1 hT (gV wd_641 wd_643 wd_32 wd_57 wd_644) rfl rfl rfl (by decide +kernel) ⟨Nat.le_of_ble_eq_true rfl, Nat.le_of_ble_eq_true rfl⟩) ⟨preW_fb, va_recv hK hP (ci := 6) (q0 := 0) rfl rfl, preW_at hP hK hN hD⟩ rfl rfl hl.1 rfl (lv_room (Nat.le_of_ble_eq_true rfl)) dR_price_2 ⟨Nat.zero_le _, Nat.zero_le _⟩) (fun H locs hP hD hS => ?_)
  refine lv_if_eq (tgt := 19) hx hb dR_price_5 (by decide) (fun c5 => ?_) (fun c5 => ?_)
  · have hm := brp hm c5
    refine lv_iconst (v := (-1)) hx hb dR_price_19 (by decide) ?_
    exact W.iret hx hb hr (fun t ht hW => ⟨⟨-1, (I2, J3), rfl, Option.some.inj hm, ht ▸ hP, va_K.moved hW.alike hK, hD⟩, hS.F ht⟩) hS.2.2 dR_price_20 hlk
  · have hm := brn hm c5
    refine lv_iload_n hx hb dR_price_8 rfl (lv_at hl 2 rfl) ?_
    refine lv_iconst (v := 0) hx hb dR_price_9 (by decide) ?_
    refine lv_sipush (v := 1000) hx hb dR_price_10 (by decide) ?_
    obtain ⟨r6, hc7, hm⟩ := cl1_to hm
    refine pstZ_i hS (va_runS (As := [.int x2, .int 0, .int 1000]) (rest := []) ⟨hx, hb, hml, hown, hT⟩ (c_R_in l x2 0 1000 _ hc7) (va_cwS 3 hT (gS wd_634 wd_635 wd_57 wd_636) rfl rfl rfl (by decide +kernel) ⟨Nat.le_of_ble_eq_true rfl, Nat.le_of_ble_eq_true rfl⟩) ⟨preZ_fb, preZ_at⟩ rfl rfl hl.1 rfl (lv_room (Nat.le_of_ble_eq_true rfl)) dR_price_13 ⟨Nat.zero_le _, Nat.zero_le _⟩) (fun H1 locs hq hS => ?_)
    have hP := keptP hP hq
    refine lv_if_ne (tgt := 21) hx hb dR_price_16 (by decide) (fun c8 => ?_) (fun c8 => ?_)
    · have hm := brn hm c8
      refine lv_aload_n hx hb dR_price_21 rfl (lv_at hl 0 rfl) ?_
      refine va_get (D := D) (ci := 6) (v := .ref (ad 1)) (C := RR) (T := TR) (N := 31) hx hb hT inR hown hK hP 0 rfl rfl 1 (by decide) (hT _ wd_536) (fun _ h9 => h9) rfl dR_price_22 ?_
      refine lv_iload_n hx hb dR_price_25 rfl (lv_at hl 1 rfl) ?_
      obtain ⟨g9, hm⟩ := gd_to hm
      refine va_iald hx hb hK hP 1 0 rfl rfl g9 dR_price_26 ?_
      refine lv_topi (fun v10 ev10 => ?_)
      have hm := nm_to ev10 hm
      refine lv_istore_n (lv' := [(3, .int v10), (0, .ref (ad 0)), (1, .int x1), (2, .int x2)]) hx hb dR_price_27 rfl hl (by decide) rfl (fun ls hl => ?_)
      refine lv_aload_n hx hb dR_price_28 rfl (lv_at hl 1 rfl) ?_
      refine va_get (D := D) (ci := 6) (v := .ref (ad 1)) (C := RR) (T := TR) (N := 31) hx hb hT inR hown hK hP 0 rfl rfl 1 (by decide) (hT _ wd_536) (fun _ h9 => h9) rfl dR_price_29 ?_
      refine lv_iload_n hx hb dR_price_32 rfl (lv_at hl 2 rfl) ?_
      refine lv_iload_n hx hb dR_price_33 rfl (lv_at hl 3 rfl) ?_
      obtain ⟨g11, hm⟩ := gd_to hm
      refine va_iast hx hb hK hP hD hS 1 0 rfl rfl g11 dR_price_34 (fun H locs hP hD hS => ?_)
      obtain ⟨I12, eI12⟩ : ∃ z : SI, z = va_up I2 1 (upd (I2 1) x1.toNatClampNeg x2) := ⟨_, rfl⟩
      have hm := nm_to eI12 hm
      have hP := P_eq (ws2 := wsR ad cI cJ cG I12 J3) hP (by rw [eI12]; rfl)
      have hD := D_eq (ws2 := wsR ad cI cJ cG I12 J3) hD (by rw [eI12]; rfl)
      refine lv_iload_n hx hb dR_price_35 rfl (lv_at hl 0 rfl) ?_
      exact W.iret hx hb hr (fun t ht hW => ⟨⟨v10, (I12, J3), rfl, Option.some.inj hm, ht ▸ hP, va_K.moved hW.alike hK, hD⟩, hS.F ht⟩) hS.2.2 dR_price_36 hlk
    · have hm := brp hm c8
      refine lv_iconst (v := (-1)) hx hb dR_price_19 (by decide) ?_
      exact W.iret hx hb hr (fun t ht hW => ⟨⟨-1, (I2, J3), rfl, Option.some.inj hm, ht ▸ hP, va_K.moved hW.alike hK, hD⟩, hS.F ht⟩) hS.2.2 dR_price_20 hlk
set_option maxHeartbeats 4000000 in
set_option maxRecDepth 100000 in
theorem c_R_price (l : Launch) (D : va_G) (ad : Nat → Nat) (cI cJ cG : ClassId) (sz : Nat) (x1 : Int32) (x2 : Int32) (I : SI) (J : SJ) (res : Int32 × SI × SJ) (hm : m_R_price x1 x2 I J = some res) : Met l yR_price (Cond.code yR_price bR_price 4 (some .int) :: gtb) rm_R_price (va_Pc [.ref (ad 0), .int x1, .int x2] (preW D vwCl (tysR cI cJ cG) (wsR ad cI cJ cG I J) sz)) (va_Qi (fun (r : Int32) (u : SI × SJ) => (r, u) = res) (atW D vwCl (tysR cI cJ cG) (va_A (wsR ad cI cJ cG I J) sz) (wsR ad cI cJ cG)) (va_A (wsR ad cI cJ cG I J) sz)) 0 0 (va_A (wsR ad cI cJ cG I J) sz) := by
  refine Met.ofW (cc := bR_price) (maxL := 4) (ret := (some .int)) (by decide) rfl ?_
  intro p e s m args below meth c s₁ B hml hv
  obtain ⟨rfl, hsz, hP, hK, hD0, hN⟩ := hv
  subst hsz
  have X : Cx p s m [.ref (ad 0), .int x1, .int x2].toArray meth c bR_price (some .int) 4 RR := ⟨B.exec, B.bytes, B.returns, hml, findClass_of_methodNamed B.named, fun w h => atoms_spec (ws := (Cond.code yR_price bR_price 4 (some .int) :: gtb)) B.pre w (List.mem_cons_of_mem _ h), B.notSynchronized⟩
  have hl := lv_entry ([.ref (ad 0), .int x1, .int x2]) (n := 4) (Nat.le_of_ble_eq_true rfl)
  rw [lg_entry_eq]
  generalize (lg_sl ([.ref (ad 0), .int x1, .int x2]) ++ List.replicate (4 - (lg_sl ([.ref (ad 0), .int x1, .int x2])).length) Slot.unset).toArray = ls at hl ⊢
  have hl : lv_has ls 4 [(0, .ref (ad 0)), (1, .int x1), (2, .int x2)] := hl
  have hA : ∀ q, s.heap.size ≤ q → va_A (wsR ad cI cJ cG I J) s.heap.size q := fun q h => Or.inr h
  exact w_R_price_0 X hK hN hA  x1 x2 I J hm _ _ _ hP hD0.self va_S.rf hl
def b_R_stock_0 (x1 : Int32) (x2 : Int32) (I : SI) (J : SJ) : Option (Int32 × SI × SJ) :=
  cl3 (m_R_isStuff x1 I J) fun r1 I2 J3 =>
  if r1 = 0 then
    some (-1, I2, J3)
  else
    cl1 (m_R_in x2 0 40) fun r6 =>
    if r6 = 0 then
      some (-1, I2, J3)
    else
      gd (vin x1 4) <|
      nm (I2 2 x1.toNatClampNeg) fun v10 =>
      gd (vin x1 4) <|
      nm (va_up I2 2 (upd (I2 2) x1.toNatClampNeg x2)) fun I12 =>
      some (v10, I12, J3)
def m_R_stock (x1 : Int32) (x2 : Int32) (I : SI) (J : SJ) : Option (Int32 × SI × SJ) := b_R_stock_0 x1 x2 I J
def rm_R_stock : Room := { frames := 1, cells := 0, slots := 0, locals := 22 }
set_option maxHeartbeats 4000000 in
set_option maxRecDepth 100000 in
theorem w_R_stock_0 {p : Program} {l : Launch} {e : Env} {s : State} {m : MethodId} {args : Array Value} {below : List Frame} {meth : Method} {c : Code} {D : va_G} {A : Nat → Prop} {ad : Nat → Nat} {cI cJ cG : ClassId} {res : Int32 × SI × SJ} (X : Cx p s m args meth c bR_stock (some .int) 4 RR) (hK : va_K D vwCl (tysR cI cJ cG) s) (hN : NWs s) (hA : ∀ q, s.heap.size ≤ q → A q)
     (x1 : Int32) (x2 : Int32) (I : SI) (J : SJ) (hm : b_R_stock_0  x1 x2 I J = some res) : WB p l e (headSpec (Cond.code yR_stock bR_stock 4 (some .int) :: gtb) rm_R_stock).room s m args below meth c (MQ below (va_Qi (fun (r : Int32) (u : SI × SJ) => (r, u) = res) (atW D vwCl (tysR cI cJ cG) A (wsR ad cI cJ cG)) A) args s 0 0 A) D vwCl A 4 (wsR ad cI cJ cG I J) 0 [(0, .ref (ad 0)), (1, .int x1), (2, .int x2)] [] := by
  obtain ⟨hx, hb, hr, hml, hown, hT, hlk⟩ := X
  intro H locs ls hP hD hS hl
  unfold b_R_stock_0 at hm
  refine lv_aload_n hx hb dR_stock_0 rfl (lv_at hl 0 rfl) ?_
  refine lv_iload_n hx hb dR_stock_1 rfl (lv_at hl 1 rfl) ?_
  obtain ⟨r1, I2, J3, hc4, hm⟩ := cl3_to hm
  refine pst_i (wf := wsR ad cI cJ cG) hD hS hA (va_runV (As := [.int x1]) (rest := []) ⟨hx, hb, hml, hown, hT⟩ (c_R_isStuff l D ad cI cJ cG _ x1 I J _ hc4) (cwV 1 hT (gV wd_641 wd_643 wd_32 wd_57 wd_644) rfl rfl rfl (by decide +kernel) ⟨Nat.le_of_ble_eq_true rfl, Nat.le_of_ble_eq_true rfl⟩) ⟨preW_fb, va_recv hK hP (ci := 6) (q0 := 0) rfl rfl, preW_at hP hK hN hD⟩ rfl rfl hl.1 rfl (lv_room (Nat.le_of_ble_eq_true rfl)) dR_stock_2 ⟨Nat.zero_le _, Nat.zero_le _⟩) (fun H locs hP hD hS => ?_)
  refine lv_if_eq (tgt := 18) hx hb dR_stock_5 (by decide) (fun c5 => ?_) (fun c5 => ?_)
  · have hm := brp hm c5
    refine lv_iconst (v := (-1)) hx hb dR_stock_18 (by decide) ?_
    exact W.iret hx hb hr (fun t ht hW => ⟨⟨-1, (I2, J3), rfl, Option.some.inj hm, ht ▸ hP, va_K.moved hW.alike hK, hD⟩, hS.F ht⟩) hS.2.2 dR_stock_19 hlk
  · have hm := brn hm c5
    refine lv_iload_n hx hb dR_stock_8 rfl (lv_at hl 2 rfl) ?_
    refine lv_iconst (v := 0) hx hb dR_stock_9 (by decide) ?_
    refine lv_bipush (v := 40) hx hb dR_stock_10 (by decide) ?_
    obtain ⟨r6, hc7, hm⟩ := cl1_to hm
    refine pstZ_i hS (va_runS (As := [.int x2, .int 0, .int 40]) (rest := []) ⟨hx, hb, hml, hown, hT⟩ (c_R_in l x2 0 40 _ hc7) (va_cwS 3 hT (gS wd_634 wd_635 wd_57 wd_636) rfl rfl rfl (by decide +kernel) ⟨Nat.le_of_ble_eq_true rfl, Nat.le_of_ble_eq_true rfl⟩) ⟨preZ_fb, preZ_at⟩ rfl rfl hl.1 rfl (lv_room (Nat.le_of_ble_eq_true rfl)) dR_stock_12 ⟨Nat.zero_le _, Nat.zero_le _⟩) (fun H1 locs hq hS => ?_)
    have hP := keptP hP hq
    refine lv_if_ne (tgt := 20) hx hb dR_stock_15 (by decide) (fun c8 => ?_) (fun c8 => ?_)
    · have hm := brn hm c8
      refine lv_aload_n hx hb dR_stock_20 rfl (lv_at hl 0 rfl) ?_
      refine va_get (D := D) (ci := 6) (v := .ref (ad 2)) (C := RR) (T := TR) (N := 31) hx hb hT inR hown hK hP 0 rfl rfl 2 (by decide) (hT _ wd_537) (fun _ h9 => h9) rfl dR_stock_21 ?_
      refine lv_iload_n hx hb dR_stock_24 rfl (lv_at hl 1 rfl) ?_
      obtain ⟨g9, hm⟩ := gd_to hm
      refine va_iald hx hb hK hP 2 0 rfl rfl g9 dR_stock_25 ?_
      refine lv_topi (fun v10 ev10 => ?_)
      have hm := nm_to ev10 hm
      refine lv_istore_n (lv' := [(3, .int v10), (0, .ref (ad 0)), (1, .int x1), (2, .int x2)]) hx hb dR_stock_26 rfl hl (by decide) rfl (fun ls hl => ?_)
      refine lv_aload_n hx hb dR_stock_27 rfl (lv_at hl 1 rfl) ?_
      refine va_get (D := D) (ci := 6) (v := .ref (ad 2)) (C := RR) (T := TR) (N := 31) hx hb hT inR hown hK hP 0 rfl rfl 2 (by decide) (hT _ wd_537) (fun _ h9 => h9) rfl dR_stock_28 ?_
      refine lv_iload_n hx hb dR_stock_31 rfl (lv_at hl 2 rfl) ?_
      refine lv_iload_n hx hb dR_stock_32 rfl (lv_at hl 3 rfl) ?_
      obtain ⟨g11, hm⟩ := gd_to hm
      refine va_iast hx hb hK hP hD hS 2 0 rfl rfl g11 dR_stock_33 (fun H locs hP hD hS => ?_)
      obtain ⟨I12, eI12⟩ : ∃ z : SI, z = va_up I2 2 (upd (I2 2) x1.toNatClampNeg x2) := ⟨_, rfl⟩
      have hm := nm_to eI12 hm
      have hP := P_eq (ws2 := wsR ad cI cJ cG I12 J3) hP (by rw [eI12]; rfl)
      have hD := D_eq (ws2 := wsR ad cI cJ cG I12 J3) hD (by rw [eI12]; rfl)
      refine lv_iload_n hx hb dR_stock_34 rfl (lv_at hl 0 rfl) ?_
      exact W.iret hx hb hr (fun t ht hW => ⟨⟨v10, (I12, J3), rfl, Option.some.inj hm, ht ▸ hP, va_K.moved hW.alike hK, hD⟩, hS.F ht⟩) hS.2.2 dR_stock_35 hlk
    · have hm := brp hm c8
      refine lv_iconst (v := (-1)) hx hb dR_stock_18 (by decide) ?_
      exact W.iret hx hb hr (fun t ht hW => ⟨⟨-1, (I2, J3), rfl, Option.some.inj hm, ht ▸ hP, va_K.moved hW.alike hK, hD⟩, hS.F ht⟩) hS.2.2 dR_stock_19 hlk
set_option maxHeartbeats 4000000 in
set_option maxRecDepth 100000 in
theorem c_R_stock (l : Launch) (D : va_G) (ad : Nat → Nat) (cI cJ cG : ClassId) (sz : Nat) (x1 : Int32) (x2 : Int32) (I : SI) (J : SJ) (res : Int32 × SI × SJ) (hm : m_R_stock x1 x2 I J = some res) : Met l yR_stock (Cond.code yR_stock bR_stock 4 (some .int) :: gtb) rm_R_stock (va_Pc [.ref (ad 0), .int x1, .int x2] (preW D vwCl (tysR cI cJ cG) (wsR ad cI cJ cG I J) sz)) (va_Qi (fun (r : Int32) (u : SI × SJ) => (r, u) = res) (atW D vwCl (tysR cI cJ cG) (va_A (wsR ad cI cJ cG I J) sz) (wsR ad cI cJ cG)) (va_A (wsR ad cI cJ cG I J) sz)) 0 0 (va_A (wsR ad cI cJ cG I J) sz) := by
  refine Met.ofW (cc := bR_stock) (maxL := 4) (ret := (some .int)) (by decide) rfl ?_
  intro p e s m args below meth c s₁ B hml hv
  obtain ⟨rfl, hsz, hP, hK, hD0, hN⟩ := hv
  subst hsz
  have X : Cx p s m [.ref (ad 0), .int x1, .int x2].toArray meth c bR_stock (some .int) 4 RR := ⟨B.exec, B.bytes, B.returns, hml, findClass_of_methodNamed B.named, fun w h => atoms_spec (ws := (Cond.code yR_stock bR_stock 4 (some .int) :: gtb)) B.pre w (List.mem_cons_of_mem _ h), B.notSynchronized⟩
  have hl := lv_entry ([.ref (ad 0), .int x1, .int x2]) (n := 4) (Nat.le_of_ble_eq_true rfl)
  rw [lg_entry_eq]
  generalize (lg_sl ([.ref (ad 0), .int x1, .int x2]) ++ List.replicate (4 - (lg_sl ([.ref (ad 0), .int x1, .int x2])).length) Slot.unset).toArray = ls at hl ⊢
  have hl : lv_has ls 4 [(0, .ref (ad 0)), (1, .int x1), (2, .int x2)] := hl
  have hA : ∀ q, s.heap.size ≤ q → va_A (wsR ad cI cJ cG I J) s.heap.size q := fun q h => Or.inr h
  exact w_R_stock_0 X hK hN hA  x1 x2 I J hm _ _ _ hP hD0.self va_S.rf hl
def b_R_holds_0 (x1 : Int32) (x2 : Int32) (x3 : Int32) (I : SI) (J : SJ) : Option (Int32 × SI × SJ) :=
  cl3 (m_R_isStuff x1 I J) fun r1 I2 J3 =>
  if r1 = 0 then
    some (0, I2, J3)
  else
    cl1 (m_R_in x2 0 2) fun r6 =>
    if r6 = 0 then
      some (0, I2, J3)
    else
      cl1 (m_R_in x3 0 40) fun r9 =>
      if r9 = 0 then
        some (0, I2, J3)
      else
        nm (4 * x2) fun v12 =>
        nm (v12 + x1) fun v13 =>
        gd (vin v13 12) <|
        nm (va_up I2 3 (upd (I2 3) v13.toNatClampNeg x3)) fun I15 =>
        some (1, I15, J3)
def m_R_holds (x1 : Int32) (x2 : Int32) (x3 : Int32) (I : SI) (J : SJ) : Option (Int32 × SI × SJ) := b_R_holds_0 x1 x2 x3 I J
def rm_R_holds : Room := { frames := 1, cells := 0, slots := 0, locals := 22 }
set_option maxHeartbeats 4000000 in
set_option maxRecDepth 100000 in
theorem w_R_holds_0 {p : Program} {l : Launch} {e : Env} {s : State} {m : MethodId} {args : Array Value} {below : List Frame} {meth : Method} {c : Code} {D : va_G} {A : Nat → Prop} {ad : Nat → Nat} {cI cJ cG : ClassId} {res : Int32 × SI × SJ} (X : Cx p s m args meth c bR_holds (some .boolean) 4 RR) (hK : va_K D vwCl (tysR cI cJ cG) s) (hN : NWs s) (hA : ∀ q, s.heap.size ≤ q → A q)
     (x1 : Int32) (x2 : Int32) (x3 : Int32) (I : SI) (J : SJ) (hm : b_R_holds_0  x1 x2 x3 I J = some res) : WB p l e (headSpec (Cond.code yR_holds bR_holds 4 (some .boolean) :: gtb) rm_R_holds).room s m args below meth c (MQ below (va_Qi (fun (r : Int32) (u : SI × SJ) => (r, u) = res) (atW D vwCl (tysR cI cJ cG) A (wsR ad cI cJ cG)) A) args s 0 0 A) D vwCl A 4 (wsR ad cI cJ cG I J) 0 [(0, .ref (ad 0)), (1, .int x1), (2, .int x2), (3, .int x3)] [] := by
  obtain ⟨hx, hb, hr, hml, hown, hT, hlk⟩ := X
  intro H locs ls hP hD hS hl
  unfold b_R_holds_0 at hm
  refine lv_aload_n hx hb dR_holds_0 rfl (lv_at hl 0 rfl) ?_
  refine lv_iload_n hx hb dR_holds_1 rfl (lv_at hl 1 rfl) ?_
  obtain ⟨r1, I2, J3, hc4, hm⟩ := cl3_to hm
  refine pst_i (wf := wsR ad cI cJ cG) hD hS hA (va_runV (As := [.int x1]) (rest := []) ⟨hx, hb, hml, hown, hT⟩ (c_R_isStuff l D ad cI cJ cG _ x1 I J _ hc4) (cwV 1 hT (gV wd_641 wd_643 wd_32 wd_57 wd_644) rfl rfl rfl (by decide +kernel) ⟨Nat.le_of_ble_eq_true rfl, Nat.le_of_ble_eq_true rfl⟩) ⟨preW_fb, va_recv hK hP (ci := 6) (q0 := 0) rfl rfl, preW_at hP hK hN hD⟩ rfl rfl hl.1 rfl (lv_room (Nat.le_of_ble_eq_true rfl)) dR_holds_2 ⟨Nat.zero_le _, Nat.zero_le _⟩) (fun H locs hP hD hS => ?_)
  refine lv_if_eq (tgt := 27) hx hb dR_holds_5 (by decide) (fun c5 => ?_) (fun c5 => ?_)
  · have hm := brp hm c5
    refine lv_iconst (v := 0) hx hb dR_holds_27 (by decide) ?_
    exact W.zret hx hb hr rfl (fun t ht hW => ⟨⟨0, (I2, J3), rfl, Option.some.inj hm, ht ▸ hP, va_K.moved hW.alike hK, hD⟩, hS.F ht⟩) hS.2.2 dR_holds_28 hlk
  · have hm := brn hm c5
    refine lv_iload_n hx hb dR_holds_8 rfl (lv_at hl 2 rfl) ?_
    refine lv_iconst (v := 0) hx hb dR_holds_9 (by decide) ?_
    refine lv_iconst (v := 2) hx hb dR_holds_10 (by decide) ?_
    obtain ⟨r6, hc7, hm⟩ := cl1_to hm
    refine pstZ_i hS (va_runS (As := [.int x2, .int 0, .int 2]) (rest := []) ⟨hx, hb, hml, hown, hT⟩ (c_R_in l x2 0 2 _ hc7) (va_cwS 3 hT (gS wd_634 wd_635 wd_57 wd_636) rfl rfl rfl (by decide +kernel) ⟨Nat.le_of_ble_eq_true rfl, Nat.le_of_ble_eq_true rfl⟩) ⟨preZ_fb, preZ_at⟩ rfl rfl hl.1 rfl (lv_room (Nat.le_of_ble_eq_true rfl)) dR_holds_11 ⟨Nat.zero_le _, Nat.zero_le _⟩) (fun H1 locs hq hS => ?_)
    have hP := keptP hP hq
    refine lv_if_eq (tgt := 27) hx hb dR_holds_14 (by decide) (fun c8 => ?_) (fun c8 => ?_)
    · have hm := brp hm c8
      refine lv_iconst (v := 0) hx hb dR_holds_27 (by decide) ?_
      exact W.zret hx hb hr rfl (fun t ht hW => ⟨⟨0, (I2, J3), rfl, Option.some.inj hm, ht ▸ hP, va_K.moved hW.alike hK, hD⟩, hS.F ht⟩) hS.2.2 dR_holds_28 hlk
    · have hm := brn hm c8
      refine lv_iload_n hx hb dR_holds_17 rfl (lv_at hl 3 rfl) ?_
      refine lv_iconst (v := 0) hx hb dR_holds_18 (by decide) ?_
      refine lv_bipush (v := 40) hx hb dR_holds_19 (by decide) ?_
      obtain ⟨r9, hc10, hm⟩ := cl1_to hm
      refine pstZ_i hS (va_runS (As := [.int x3, .int 0, .int 40]) (rest := []) ⟨hx, hb, hml, hown, hT⟩ (c_R_in l x3 0 40 _ hc10) (va_cwS 3 hT (gS wd_634 wd_635 wd_57 wd_636) rfl rfl rfl (by decide +kernel) ⟨Nat.le_of_ble_eq_true rfl, Nat.le_of_ble_eq_true rfl⟩) ⟨preZ_fb, preZ_at⟩ rfl rfl hl.1 rfl (lv_room (Nat.le_of_ble_eq_true rfl)) dR_holds_21 ⟨Nat.zero_le _, Nat.zero_le _⟩) (fun H1 locs hq hS => ?_)
      have hP := keptP hP hq
      refine lv_if_ne (tgt := 29) hx hb dR_holds_24 (by decide) (fun c11 => ?_) (fun c11 => ?_)
      · have hm := brn hm c11
        refine lv_aload_n hx hb dR_holds_29 rfl (lv_at hl 0 rfl) ?_
        refine va_get (D := D) (ci := 6) (v := .ref (ad 3)) (C := RR) (T := TR) (N := 31) hx hb hT inR hown hK hP 0 rfl rfl 3 (by decide) (hT _ wd_538) (fun _ h9 => h9) rfl dR_holds_30 ?_
        refine lv_iconst (v := 4) hx hb dR_holds_33 (by decide) ?_
        refine lv_iload_n hx hb dR_holds_34 rfl (lv_at hl 2 rfl) ?_
        refine lv_imul hx hb dR_holds_35 ?_
        refine lv_topi (fun v12 ev12 => ?_)
        have hm := nm_to ev12 hm
        refine lv_iload_n hx hb dR_holds_36 rfl (lv_at hl 1 rfl) ?_
        refine lv_iadd hx hb dR_holds_37 ?_
        refine lv_topi (fun v13 ev13 => ?_)
        have hm := nm_to ev13 hm
        refine lv_iload_n hx hb dR_holds_38 rfl (lv_at hl 3 rfl) ?_
        obtain ⟨g14, hm⟩ := gd_to hm
        refine va_iast hx hb hK hP hD hS 3 0 rfl rfl g14 dR_holds_39 (fun H locs hP hD hS => ?_)
        obtain ⟨I15, eI15⟩ : ∃ z : SI, z = va_up I2 3 (upd (I2 3) v13.toNatClampNeg x3) := ⟨_, rfl⟩
        have hm := nm_to eI15 hm
        have hP := P_eq (ws2 := wsR ad cI cJ cG I15 J3) hP (by rw [eI15]; rfl)
        have hD := D_eq (ws2 := wsR ad cI cJ cG I15 J3) hD (by rw [eI15]; rfl)
        refine lv_iconst (v := 1) hx hb dR_holds_40 (by decide) ?_
        exact W.zret hx hb hr rfl (fun t ht hW => ⟨⟨1, (I15, J3), rfl, Option.some.inj hm, ht ▸ hP, va_K.moved hW.alike hK, hD⟩, hS.F ht⟩) hS.2.2 dR_holds_41 hlk
      · have hm := brp hm c11
        refine lv_iconst (v := 0) hx hb dR_holds_27 (by decide) ?_
        exact W.zret hx hb hr rfl (fun t ht hW => ⟨⟨0, (I2, J3), rfl, Option.some.inj hm, ht ▸ hP, va_K.moved hW.alike hK, hD⟩, hS.F ht⟩) hS.2.2 dR_holds_28 hlk
set_option maxHeartbeats 4000000 in
set_option maxRecDepth 100000 in
theorem c_R_holds (l : Launch) (D : va_G) (ad : Nat → Nat) (cI cJ cG : ClassId) (sz : Nat) (x1 : Int32) (x2 : Int32) (x3 : Int32) (I : SI) (J : SJ) (res : Int32 × SI × SJ) (hm : m_R_holds x1 x2 x3 I J = some res) : Met l yR_holds (Cond.code yR_holds bR_holds 4 (some .boolean) :: gtb) rm_R_holds (va_Pc [.ref (ad 0), .int x1, .int x2, .int x3] (preW D vwCl (tysR cI cJ cG) (wsR ad cI cJ cG I J) sz)) (va_Qi (fun (r : Int32) (u : SI × SJ) => (r, u) = res) (atW D vwCl (tysR cI cJ cG) (va_A (wsR ad cI cJ cG I J) sz) (wsR ad cI cJ cG)) (va_A (wsR ad cI cJ cG I J) sz)) 0 0 (va_A (wsR ad cI cJ cG I J) sz) := by
  refine Met.ofW (cc := bR_holds) (maxL := 4) (ret := (some .boolean)) (by decide) rfl ?_
  intro p e s m args below meth c s₁ B hml hv
  obtain ⟨rfl, hsz, hP, hK, hD0, hN⟩ := hv
  subst hsz
  have X : Cx p s m [.ref (ad 0), .int x1, .int x2, .int x3].toArray meth c bR_holds (some .boolean) 4 RR := ⟨B.exec, B.bytes, B.returns, hml, findClass_of_methodNamed B.named, fun w h => atoms_spec (ws := (Cond.code yR_holds bR_holds 4 (some .boolean) :: gtb)) B.pre w (List.mem_cons_of_mem _ h), B.notSynchronized⟩
  have hl := lv_entry ([.ref (ad 0), .int x1, .int x2, .int x3]) (n := 4) (Nat.le_of_ble_eq_true rfl)
  rw [lg_entry_eq]
  generalize (lg_sl ([.ref (ad 0), .int x1, .int x2, .int x3]) ++ List.replicate (4 - (lg_sl ([.ref (ad 0), .int x1, .int x2, .int x3])).length) Slot.unset).toArray = ls at hl ⊢
  have hl : lv_has ls 4 [(0, .ref (ad 0)), (1, .int x1), (2, .int x2), (3, .int x3)] := hl
  have hA : ∀ q, s.heap.size ≤ q → va_A (wsR ad cI cJ cG I J) s.heap.size q := fun q h => Or.inr h
  exact w_R_holds_0 X hK hN hA  x1 x2 x3 I J hm _ _ _ hP hD0.self va_S.rf hl
def b_R_need_0 (x1 : Int32) (x2 : Int32) (x3 : Int32) (I : SI) (J : SJ) : Option (Int32 × SI × SJ) :=
  cl1 (m_R_in x1 0 2) fun r1 =>
  if r1 = 0 then
    some (0, I, J)
  else
    cl1 (m_R_in x2 0 40) fun r4 =>
    if r4 = 0 then
      some (0, I, J)
    else
      cl1 (m_R_in x3 x2 40) fun r7 =>
      if r7 = 0 then
        some (0, I, J)
      else
        gd (vin x1 3) <|
        nm (va_up I 7 (upd (I 7) x1.toNatClampNeg x2)) fun I11 =>
        gd (vin x1 3) <|
        nm (va_up I11 8 (upd (I11 8) x1.toNatClampNeg x3)) fun I13 =>
        some (1, I13, J)
def m_R_need (x1 : Int32) (x2 : Int32) (x3 : Int32) (I : SI) (J : SJ) : Option (Int32 × SI × SJ) := b_R_need_0 x1 x2 x3 I J
def rm_R_need : Room := { frames := 1, cells := 0, slots := 0, locals := 22 }
set_option maxHeartbeats 4000000 in
set_option maxRecDepth 100000 in
theorem w_R_need_0 {p : Program} {l : Launch} {e : Env} {s : State} {m : MethodId} {args : Array Value} {below : List Frame} {meth : Method} {c : Code} {D : va_G} {A : Nat → Prop} {ad : Nat → Nat} {cI cJ cG : ClassId} {res : Int32 × SI × SJ} (X : Cx p s m args meth c bR_need (some .boolean) 4 RR) (hK : va_K D vwCl (tysR cI cJ cG) s) (hN : NWs s) (hA : ∀ q, s.heap.size ≤ q → A q)
     (x1 : Int32) (x2 : Int32) (x3 : Int32) (I : SI) (J : SJ) (hm : b_R_need_0  x1 x2 x3 I J = some res) : WB p l e (headSpec (Cond.code yR_need bR_need 4 (some .boolean) :: gtb) rm_R_need).room s m args below meth c (MQ below (va_Qi (fun (r : Int32) (u : SI × SJ) => (r, u) = res) (atW D vwCl (tysR cI cJ cG) A (wsR ad cI cJ cG)) A) args s 0 0 A) D vwCl A 4 (wsR ad cI cJ cG I J) 0 [(0, .ref (ad 0)), (1, .int x1), (2, .int x2), (3, .int x3)] [] := by
  obtain ⟨hx, hb, hr, hml, hown, hT, hlk⟩ := X
  intro H locs ls hP hD hS hl
  unfold b_R_need_0 at hm
  refine lv_iload_n hx hb dR_need_0 rfl (lv_at hl 1 rfl) ?_
  refine lv_iconst (v := 0) hx hb dR_need_1 (by decide) ?_
  refine lv_iconst (v := 2) hx hb dR_need_2 (by decide) ?_
  obtain ⟨r1, hc2, hm⟩ := cl1_to hm
  refine pstZ_i hS (va_runS (As := [.int x1, .int 0, .int 2]) (rest := []) ⟨hx, hb, hml, hown, hT⟩ (c_R_in l x1 0 2 _ hc2) (va_cwS 3 hT (gS wd_634 wd_635 wd_57 wd_636) rfl rfl rfl (by decide +kernel) ⟨Nat.le_of_ble_eq_true rfl, Nat.le_of_ble_eq_true rfl⟩) ⟨preZ_fb, preZ_at⟩ rfl rfl hl.1 rfl (lv_room (Nat.le_of_ble_eq_true rfl)) dR_need_3 ⟨Nat.zero_le _, Nat.zero_le _⟩) (fun H1 locs hq hS => ?_)
  have hP := keptP hP hq
  refine lv_if_eq (tgt := 29) hx hb dR_need_6 (by decide) (fun c3 => ?_) (fun c3 => ?_)
  · have hm := brp hm c3
    refine lv_iconst (v := 0) hx hb dR_need_29 (by decide) ?_
    exact W.zret hx hb hr rfl (fun t ht hW => ⟨⟨0, (I, J), rfl, Option.some.inj hm, ht ▸ hP, va_K.moved hW.alike hK, hD⟩, hS.F ht⟩) hS.2.2 dR_need_30 hlk
  · have hm := brn hm c3
    refine lv_iload_n hx hb dR_need_9 rfl (lv_at hl 2 rfl) ?_
    refine lv_iconst (v := 0) hx hb dR_need_10 (by decide) ?_
    refine lv_bipush (v := 40) hx hb dR_need_11 (by decide) ?_
    obtain ⟨r4, hc5, hm⟩ := cl1_to hm
    refine pstZ_i hS (va_runS (As := [.int x2, .int 0, .int 40]) (rest := []) ⟨hx, hb, hml, hown, hT⟩ (c_R_in l x2 0 40 _ hc5) (va_cwS 3 hT (gS wd_634 wd_635 wd_57 wd_636) rfl rfl rfl (by decide +kernel) ⟨Nat.le_of_ble_eq_true rfl, Nat.le_of_ble_eq_true rfl⟩) ⟨preZ_fb, preZ_at⟩ rfl rfl hl.1 rfl (lv_room (Nat.le_of_ble_eq_true rfl)) dR_need_13 ⟨Nat.zero_le _, Nat.zero_le _⟩) (fun H1 locs hq hS => ?_)
    have hP := keptP hP hq
    refine lv_if_eq (tgt := 29) hx hb dR_need_16 (by decide) (fun c6 => ?_) (fun c6 => ?_)
    · have hm := brp hm c6
      refine lv_iconst (v := 0) hx hb dR_need_29 (by decide) ?_
      exact W.zret hx hb hr rfl (fun t ht hW => ⟨⟨0, (I, J), rfl, Option.some.inj hm, ht ▸ hP, va_K.moved hW.alike hK, hD⟩, hS.F ht⟩) hS.2.2 dR_need_30 hlk
    · have hm := brn hm c6
      refine lv_iload_n hx hb dR_need_19 rfl (lv_at hl 3 rfl) ?_
      refine lv_iload_n hx hb dR_need_20 rfl (lv_at hl 2 rfl) ?_
      refine lv_bipush (v := 40) hx hb dR_need_21 (by decide) ?_
      obtain ⟨r7, hc8, hm⟩ := cl1_to hm
      refine pstZ_i hS (va_runS (As := [.int x3, .int x2, .int 40]) (rest := []) ⟨hx, hb, hml, hown, hT⟩ (c_R_in l x3 x2 40 _ hc8) (va_cwS 3 hT (gS wd_634 wd_635 wd_57 wd_636) rfl rfl rfl (by decide +kernel) ⟨Nat.le_of_ble_eq_true rfl, Nat.le_of_ble_eq_true rfl⟩) ⟨preZ_fb, preZ_at⟩ rfl rfl hl.1 rfl (lv_room (Nat.le_of_ble_eq_true rfl)) dR_need_23 ⟨Nat.zero_le _, Nat.zero_le _⟩) (fun H1 locs hq hS => ?_)
      have hP := keptP hP hq
      refine lv_if_ne (tgt := 31) hx hb dR_need_26 (by decide) (fun c9 => ?_) (fun c9 => ?_)
      · have hm := brn hm c9
        refine lv_aload_n hx hb dR_need_31 rfl (lv_at hl 0 rfl) ?_
        refine va_get (D := D) (ci := 6) (v := .ref (ad 7)) (C := RR) (T := TR) (N := 31) hx hb hT inR hown hK hP 0 rfl rfl 7 (by decide) (hT _ wd_542) (fun _ h9 => h9) rfl dR_need_32 ?_
        refine lv_iload_n hx hb dR_need_35 rfl (lv_at hl 1 rfl) ?_
        refine lv_iload_n hx hb dR_need_36 rfl (lv_at hl 2 rfl) ?_
        obtain ⟨g10, hm⟩ := gd_to hm
        refine va_iast hx hb hK hP hD hS 7 0 rfl rfl g10 dR_need_37 (fun H locs hP hD hS => ?_)
        obtain ⟨I11, eI11⟩ : ∃ z : SI, z = va_up I 7 (upd (I 7) x1.toNatClampNeg x2) := ⟨_, rfl⟩
        have hm := nm_to eI11 hm
        have hP := P_eq (ws2 := wsR ad cI cJ cG I11 J) hP (by rw [eI11]; rfl)
        have hD := D_eq (ws2 := wsR ad cI cJ cG I11 J) hD (by rw [eI11]; rfl)
        refine lv_aload_n hx hb dR_need_38 rfl (lv_at hl 0 rfl) ?_
        refine va_get (D := D) (ci := 6) (v := .ref (ad 8)) (C := RR) (T := TR) (N := 31) hx hb hT inR hown hK hP 0 rfl rfl 8 (by decide) (hT _ wd_543) (fun _ h9 => h9) rfl dR_need_39 ?_
        refine lv_iload_n hx hb dR_need_42 rfl (lv_at hl 1 rfl) ?_
        refine lv_iload_n hx hb dR_need_43 rfl (lv_at hl 3 rfl) ?_
        obtain ⟨g12, hm⟩ := gd_to hm
        refine va_iast hx hb hK hP hD hS 8 0 rfl rfl g12 dR_need_44 (fun H locs hP hD hS => ?_)
        obtain ⟨I13, eI13⟩ : ∃ z : SI, z = va_up I11 8 (upd (I11 8) x1.toNatClampNeg x3) := ⟨_, rfl⟩
        have hm := nm_to eI13 hm
        have hP := P_eq (ws2 := wsR ad cI cJ cG I13 J) hP (by rw [eI13]; rfl)
        have hD := D_eq (ws2 := wsR ad cI cJ cG I13 J) hD (by rw [eI13]; rfl)
        refine lv_iconst (v := 1) hx hb dR_need_45 (by decide) ?_
        exact W.zret hx hb hr rfl (fun t ht hW => ⟨⟨1, (I13, J), rfl, Option.some.inj hm, ht ▸ hP, va_K.moved hW.alike hK, hD⟩, hS.F ht⟩) hS.2.2 dR_need_46 hlk
      · have hm := brp hm c9
        refine lv_iconst (v := 0) hx hb dR_need_29 (by decide) ?_
        exact W.zret hx hb hr rfl (fun t ht hW => ⟨⟨0, (I, J), rfl, Option.some.inj hm, ht ▸ hP, va_K.moved hW.alike hK, hD⟩, hS.F ht⟩) hS.2.2 dR_need_30 hlk
set_option maxHeartbeats 4000000 in
set_option maxRecDepth 100000 in
theorem c_R_need (l : Launch) (D : va_G) (ad : Nat → Nat) (cI cJ cG : ClassId) (sz : Nat) (x1 : Int32) (x2 : Int32) (x3 : Int32) (I : SI) (J : SJ) (res : Int32 × SI × SJ) (hm : m_R_need x1 x2 x3 I J = some res) : Met l yR_need (Cond.code yR_need bR_need 4 (some .boolean) :: gtb) rm_R_need (va_Pc [.ref (ad 0), .int x1, .int x2, .int x3] (preW D vwCl (tysR cI cJ cG) (wsR ad cI cJ cG I J) sz)) (va_Qi (fun (r : Int32) (u : SI × SJ) => (r, u) = res) (atW D vwCl (tysR cI cJ cG) (va_A (wsR ad cI cJ cG I J) sz) (wsR ad cI cJ cG)) (va_A (wsR ad cI cJ cG I J) sz)) 0 0 (va_A (wsR ad cI cJ cG I J) sz) := by
  refine Met.ofW (cc := bR_need) (maxL := 4) (ret := (some .boolean)) (by decide) rfl ?_
  intro p e s m args below meth c s₁ B hml hv
  obtain ⟨rfl, hsz, hP, hK, hD0, hN⟩ := hv
  subst hsz
  have X : Cx p s m [.ref (ad 0), .int x1, .int x2, .int x3].toArray meth c bR_need (some .boolean) 4 RR := ⟨B.exec, B.bytes, B.returns, hml, findClass_of_methodNamed B.named, fun w h => atoms_spec (ws := (Cond.code yR_need bR_need 4 (some .boolean) :: gtb)) B.pre w (List.mem_cons_of_mem _ h), B.notSynchronized⟩
  have hl := lv_entry ([.ref (ad 0), .int x1, .int x2, .int x3]) (n := 4) (Nat.le_of_ble_eq_true rfl)
  rw [lg_entry_eq]
  generalize (lg_sl ([.ref (ad 0), .int x1, .int x2, .int x3]) ++ List.replicate (4 - (lg_sl ([.ref (ad 0), .int x1, .int x2, .int x3])).length) Slot.unset).toArray = ls at hl ⊢
  have hl : lv_has ls 4 [(0, .ref (ad 0)), (1, .int x1), (2, .int x2), (3, .int x3)] := hl
  have hA : ∀ q, s.heap.size ≤ q → va_A (wsR ad cI cJ cG I J) s.heap.size q := fun q h => Or.inr h
  exact w_R_need_0 X hK hN hA  x1 x2 x3 I J hm _ _ _ hP hD0.self va_S.rf hl
def b_R_shares_0 (x1 : Int32) (x2 : Int32) (x3 : Int32) (I : SI) (J : SJ) : Option (Int32 × SI × SJ) :=
  cl3 (m_R_isStuff x1 I J) fun r1 I2 J3 =>
  if r1 = 0 then
    some (0, I2, J3)
  else
    cl1 (m_R_in x2 0 10) fun r6 =>
    if r6 = 0 then
      some (0, I2, J3)
    else
      cl1 (m_R_in x3 x2 10) fun r9 =>
      if r9 = 0 then
        some (0, I2, J3)
      else
        gd (vin x1 4) <|
        nm (va_up I2 4 (upd (I2 4) x1.toNatClampNeg x2)) fun I13 =>
        gd (vin x1 4) <|
        nm (va_up I13 5 (upd (I13 5) x1.toNatClampNeg x3)) fun I15 =>
        some (1, I15, J3)
def m_R_shares (x1 : Int32) (x2 : Int32) (x3 : Int32) (I : SI) (J : SJ) : Option (Int32 × SI × SJ) := b_R_shares_0 x1 x2 x3 I J
def rm_R_shares : Room := { frames := 1, cells := 0, slots := 0, locals := 22 }
set_option maxHeartbeats 4000000 in
set_option maxRecDepth 100000 in
theorem w_R_shares_0 {p : Program} {l : Launch} {e : Env} {s : State} {m : MethodId} {args : Array Value} {below : List Frame} {meth : Method} {c : Code} {D : va_G} {A : Nat → Prop} {ad : Nat → Nat} {cI cJ cG : ClassId} {res : Int32 × SI × SJ} (X : Cx p s m args meth c bR_shares (some .boolean) 4 RR) (hK : va_K D vwCl (tysR cI cJ cG) s) (hN : NWs s) (hA : ∀ q, s.heap.size ≤ q → A q)
     (x1 : Int32) (x2 : Int32) (x3 : Int32) (I : SI) (J : SJ) (hm : b_R_shares_0  x1 x2 x3 I J = some res) : WB p l e (headSpec (Cond.code yR_shares bR_shares 4 (some .boolean) :: gtb) rm_R_shares).room s m args below meth c (MQ below (va_Qi (fun (r : Int32) (u : SI × SJ) => (r, u) = res) (atW D vwCl (tysR cI cJ cG) A (wsR ad cI cJ cG)) A) args s 0 0 A) D vwCl A 4 (wsR ad cI cJ cG I J) 0 [(0, .ref (ad 0)), (1, .int x1), (2, .int x2), (3, .int x3)] [] := by
  obtain ⟨hx, hb, hr, hml, hown, hT, hlk⟩ := X
  intro H locs ls hP hD hS hl
  unfold b_R_shares_0 at hm
  refine lv_aload_n hx hb dR_shares_0 rfl (lv_at hl 0 rfl) ?_
  refine lv_iload_n hx hb dR_shares_1 rfl (lv_at hl 1 rfl) ?_
  obtain ⟨r1, I2, J3, hc4, hm⟩ := cl3_to hm
  refine pst_i (wf := wsR ad cI cJ cG) hD hS hA (va_runV (As := [.int x1]) (rest := []) ⟨hx, hb, hml, hown, hT⟩ (c_R_isStuff l D ad cI cJ cG _ x1 I J _ hc4) (cwV 1 hT (gV wd_641 wd_643 wd_32 wd_57 wd_644) rfl rfl rfl (by decide +kernel) ⟨Nat.le_of_ble_eq_true rfl, Nat.le_of_ble_eq_true rfl⟩) ⟨preW_fb, va_recv hK hP (ci := 6) (q0 := 0) rfl rfl, preW_at hP hK hN hD⟩ rfl rfl hl.1 rfl (lv_room (Nat.le_of_ble_eq_true rfl)) dR_shares_2 ⟨Nat.zero_le _, Nat.zero_le _⟩) (fun H locs hP hD hS => ?_)
  refine lv_if_eq (tgt := 28) hx hb dR_shares_5 (by decide) (fun c5 => ?_) (fun c5 => ?_)
  · have hm := brp hm c5
    refine lv_iconst (v := 0) hx hb dR_shares_28 (by decide) ?_
    exact W.zret hx hb hr rfl (fun t ht hW => ⟨⟨0, (I2, J3), rfl, Option.some.inj hm, ht ▸ hP, va_K.moved hW.alike hK, hD⟩, hS.F ht⟩) hS.2.2 dR_shares_29 hlk
  · have hm := brn hm c5
    refine lv_iload_n hx hb dR_shares_8 rfl (lv_at hl 2 rfl) ?_
    refine lv_iconst (v := 0) hx hb dR_shares_9 (by decide) ?_
    refine lv_bipush (v := 10) hx hb dR_shares_10 (by decide) ?_
    obtain ⟨r6, hc7, hm⟩ := cl1_to hm
    refine pstZ_i hS (va_runS (As := [.int x2, .int 0, .int 10]) (rest := []) ⟨hx, hb, hml, hown, hT⟩ (c_R_in l x2 0 10 _ hc7) (va_cwS 3 hT (gS wd_634 wd_635 wd_57 wd_636) rfl rfl rfl (by decide +kernel) ⟨Nat.le_of_ble_eq_true rfl, Nat.le_of_ble_eq_true rfl⟩) ⟨preZ_fb, preZ_at⟩ rfl rfl hl.1 rfl (lv_room (Nat.le_of_ble_eq_true rfl)) dR_shares_12 ⟨Nat.zero_le _, Nat.zero_le _⟩) (fun H1 locs hq hS => ?_)
    have hP := keptP hP hq
    refine lv_if_eq (tgt := 28) hx hb dR_shares_15 (by decide) (fun c8 => ?_) (fun c8 => ?_)
    · have hm := brp hm c8
      refine lv_iconst (v := 0) hx hb dR_shares_28 (by decide) ?_
      exact W.zret hx hb hr rfl (fun t ht hW => ⟨⟨0, (I2, J3), rfl, Option.some.inj hm, ht ▸ hP, va_K.moved hW.alike hK, hD⟩, hS.F ht⟩) hS.2.2 dR_shares_29 hlk
    · have hm := brn hm c8
      refine lv_iload_n hx hb dR_shares_18 rfl (lv_at hl 3 rfl) ?_
      refine lv_iload_n hx hb dR_shares_19 rfl (lv_at hl 2 rfl) ?_
      refine lv_bipush (v := 10) hx hb dR_shares_20 (by decide) ?_
      obtain ⟨r9, hc10, hm⟩ := cl1_to hm
      refine pstZ_i hS (va_runS (As := [.int x3, .int x2, .int 10]) (rest := []) ⟨hx, hb, hml, hown, hT⟩ (c_R_in l x3 x2 10 _ hc10) (va_cwS 3 hT (gS wd_634 wd_635 wd_57 wd_636) rfl rfl rfl (by decide +kernel) ⟨Nat.le_of_ble_eq_true rfl, Nat.le_of_ble_eq_true rfl⟩) ⟨preZ_fb, preZ_at⟩ rfl rfl hl.1 rfl (lv_room (Nat.le_of_ble_eq_true rfl)) dR_shares_22 ⟨Nat.zero_le _, Nat.zero_le _⟩) (fun H1 locs hq hS => ?_)
      have hP := keptP hP hq
      refine lv_if_ne (tgt := 30) hx hb dR_shares_25 (by decide) (fun c11 => ?_) (fun c11 => ?_)
      · have hm := brn hm c11
        refine lv_aload_n hx hb dR_shares_30 rfl (lv_at hl 0 rfl) ?_
        refine va_get (D := D) (ci := 6) (v := .ref (ad 4)) (C := RR) (T := TR) (N := 31) hx hb hT inR hown hK hP 0 rfl rfl 4 (by decide) (hT _ wd_539) (fun _ h9 => h9) rfl dR_shares_31 ?_
        refine lv_iload_n hx hb dR_shares_34 rfl (lv_at hl 1 rfl) ?_
        refine lv_iload_n hx hb dR_shares_35 rfl (lv_at hl 2 rfl) ?_
        obtain ⟨g12, hm⟩ := gd_to hm
        refine va_iast hx hb hK hP hD hS 4 0 rfl rfl g12 dR_shares_36 (fun H locs hP hD hS => ?_)
        obtain ⟨I13, eI13⟩ : ∃ z : SI, z = va_up I2 4 (upd (I2 4) x1.toNatClampNeg x2) := ⟨_, rfl⟩
        have hm := nm_to eI13 hm
        have hP := P_eq (ws2 := wsR ad cI cJ cG I13 J3) hP (by rw [eI13]; rfl)
        have hD := D_eq (ws2 := wsR ad cI cJ cG I13 J3) hD (by rw [eI13]; rfl)
        refine lv_aload_n hx hb dR_shares_37 rfl (lv_at hl 0 rfl) ?_
        refine va_get (D := D) (ci := 6) (v := .ref (ad 5)) (C := RR) (T := TR) (N := 31) hx hb hT inR hown hK hP 0 rfl rfl 5 (by decide) (hT _ wd_540) (fun _ h9 => h9) rfl dR_shares_38 ?_
        refine lv_iload_n hx hb dR_shares_41 rfl (lv_at hl 1 rfl) ?_
        refine lv_iload_n hx hb dR_shares_42 rfl (lv_at hl 3 rfl) ?_
        obtain ⟨g14, hm⟩ := gd_to hm
        refine va_iast hx hb hK hP hD hS 5 0 rfl rfl g14 dR_shares_43 (fun H locs hP hD hS => ?_)
        obtain ⟨I15, eI15⟩ : ∃ z : SI, z = va_up I13 5 (upd (I13 5) x1.toNatClampNeg x3) := ⟨_, rfl⟩
        have hm := nm_to eI15 hm
        have hP := P_eq (ws2 := wsR ad cI cJ cG I15 J3) hP (by rw [eI15]; rfl)
        have hD := D_eq (ws2 := wsR ad cI cJ cG I15 J3) hD (by rw [eI15]; rfl)
        refine lv_iconst (v := 1) hx hb dR_shares_44 (by decide) ?_
        exact W.zret hx hb hr rfl (fun t ht hW => ⟨⟨1, (I15, J3), rfl, Option.some.inj hm, ht ▸ hP, va_K.moved hW.alike hK, hD⟩, hS.F ht⟩) hS.2.2 dR_shares_45 hlk
      · have hm := brp hm c11
        refine lv_iconst (v := 0) hx hb dR_shares_28 (by decide) ?_
        exact W.zret hx hb hr rfl (fun t ht hW => ⟨⟨0, (I2, J3), rfl, Option.some.inj hm, ht ▸ hP, va_K.moved hW.alike hK, hD⟩, hS.F ht⟩) hS.2.2 dR_shares_29 hlk
set_option maxHeartbeats 4000000 in
set_option maxRecDepth 100000 in
theorem c_R_shares (l : Launch) (D : va_G) (ad : Nat → Nat) (cI cJ cG : ClassId) (sz : Nat) (x1 : Int32) (x2 : Int32) (x3 : Int32) (I : SI) (J : SJ) (res : Int32 × SI × SJ) (hm : m_R_shares x1 x2 x3 I J = some res) : Met l yR_shares (Cond.code yR_shares bR_shares 4 (some .boolean) :: gtb) rm_R_shares (va_Pc [.ref (ad 0), .int x1, .int x2, .int x3] (preW D vwCl (tysR cI cJ cG) (wsR ad cI cJ cG I J) sz)) (va_Qi (fun (r : Int32) (u : SI × SJ) => (r, u) = res) (atW D vwCl (tysR cI cJ cG) (va_A (wsR ad cI cJ cG I J) sz) (wsR ad cI cJ cG)) (va_A (wsR ad cI cJ cG I J) sz)) 0 0 (va_A (wsR ad cI cJ cG I J) sz) := by
  refine Met.ofW (cc := bR_shares) (maxL := 4) (ret := (some .boolean)) (by decide) rfl ?_
  intro p e s m args below meth c s₁ B hml hv
  obtain ⟨rfl, hsz, hP, hK, hD0, hN⟩ := hv
  subst hsz
  have X : Cx p s m [.ref (ad 0), .int x1, .int x2, .int x3].toArray meth c bR_shares (some .boolean) 4 RR := ⟨B.exec, B.bytes, B.returns, hml, findClass_of_methodNamed B.named, fun w h => atoms_spec (ws := (Cond.code yR_shares bR_shares 4 (some .boolean) :: gtb)) B.pre w (List.mem_cons_of_mem _ h), B.notSynchronized⟩
  have hl := lv_entry ([.ref (ad 0), .int x1, .int x2, .int x3]) (n := 4) (Nat.le_of_ble_eq_true rfl)
  rw [lg_entry_eq]
  generalize (lg_sl ([.ref (ad 0), .int x1, .int x2, .int x3]) ++ List.replicate (4 - (lg_sl ([.ref (ad 0), .int x1, .int x2, .int x3])).length) Slot.unset).toArray = ls at hl ⊢
  have hl : lv_has ls 4 [(0, .ref (ad 0)), (1, .int x1), (2, .int x2), (3, .int x3)] := hl
  have hA : ∀ q, s.heap.size ≤ q → va_A (wsR ad cI cJ cG I J) s.heap.size q := fun q h => Or.inr h
  exact w_R_shares_0 X hK hN hA  x1 x2 x3 I J hm _ _ _ hP hD0.self va_S.rf hl
def b_R_silo_0 (x1 : Int32) (x2 : Int32) (I : SI) (J : SJ) : Option (Int32 × SI × SJ) :=
  cl3 (m_R_isStuff x1 I J) fun r1 I2 J3 =>
  if r1 = 0 then
    some (0, I2, J3)
  else
    if x2 = 0 then
      gd (vin x1 4) <|
      nm (va_up I2 6 (upd (I2 6) x1.toNatClampNeg x2)) fun I8 =>
      some (1, I8, J3)
    else
      cl1 (m_R_in x2 5 40) fun r9 =>
      if r9 = 0 then
        some (0, I2, J3)
      else
        gd (vin x1 4) <|
        nm (va_up I2 6 (upd (I2 6) x1.toNatClampNeg x2)) fun I13 =>
        some (1, I13, J3)
def m_R_silo (x1 : Int32) (x2 : Int32) (I : SI) (J : SJ) : Option (Int32 × SI × SJ) := b_R_silo_0 x1 x2 I J
def rm_R_silo : Room := { frames := 1, cells := 0, slots := 0, locals := 22 }
set_option maxHeartbeats 4000000 in
set_option maxRecDepth 100000 in
theorem w_R_silo_0 {p : Program} {l : Launch} {e : Env} {s : State} {m : MethodId} {args : Array Value} {below : List Frame} {meth : Method} {c : Code} {D : va_G} {A : Nat → Prop} {ad : Nat → Nat} {cI cJ cG : ClassId} {res : Int32 × SI × SJ} (X : Cx p s m args meth c bR_silo (some .boolean) 3 RR) (hK : va_K D vwCl (tysR cI cJ cG) s) (hN : NWs s) (hA : ∀ q, s.heap.size ≤ q → A q)
     (x1 : Int32) (x2 : Int32) (I : SI) (J : SJ) (hm : b_R_silo_0  x1 x2 I J = some res) : WB p l e (headSpec (Cond.code yR_silo bR_silo 3 (some .boolean) :: gtb) rm_R_silo).room s m args below meth c (MQ below (va_Qi (fun (r : Int32) (u : SI × SJ) => (r, u) = res) (atW D vwCl (tysR cI cJ cG) A (wsR ad cI cJ cG)) A) args s 0 0 A) D vwCl A 3 (wsR ad cI cJ cG I J) 0 [(0, .ref (ad 0)), (1, .int x1), (2, .int x2)] [] := by
  obtain ⟨hx, hb, hr, hml, hown, hT, hlk⟩ := X
  intro H locs ls hP hD hS hl
  unfold b_R_silo_0 at hm
  refine lv_aload_n hx hb dR_silo_0 rfl (lv_at hl 0 rfl) ?_
  refine lv_iload_n hx hb dR_silo_1 rfl (lv_at hl 1 rfl) ?_
  obtain ⟨r1, I2, J3, hc4, hm⟩ := cl3_to hm
  refine pst_i (wf := wsR ad cI cJ cG) hD hS hA (va_runV (As := [.int x1]) (rest := []) ⟨hx, hb, hml, hown, hT⟩ (c_R_isStuff l D ad cI cJ cG _ x1 I J _ hc4) (cwV 1 hT (gV wd_641 wd_643 wd_32 wd_57 wd_644) rfl rfl rfl (by decide +kernel) ⟨Nat.le_of_ble_eq_true rfl, Nat.le_of_ble_eq_true rfl⟩) ⟨preW_fb, va_recv hK hP (ci := 6) (q0 := 0) rfl rfl, preW_at hP hK hN hD⟩ rfl rfl hl.1 rfl (lv_room (Nat.le_of_ble_eq_true rfl)) dR_silo_2 ⟨Nat.zero_le _, Nat.zero_le _⟩) (fun H locs hP hD hS => ?_)
  refine lv_if_eq (tgt := 22) hx hb dR_silo_5 (by decide) (fun c5 => ?_) (fun c5 => ?_)
  · have hm := brp hm c5
    refine lv_iconst (v := 0) hx hb dR_silo_22 (by decide) ?_
    exact W.zret hx hb hr rfl (fun t ht hW => ⟨⟨0, (I2, J3), rfl, Option.some.inj hm, ht ▸ hP, va_K.moved hW.alike hK, hD⟩, hS.F ht⟩) hS.2.2 dR_silo_23 hlk
  · have hm := brn hm c5
    refine lv_iload_n hx hb dR_silo_8 rfl (lv_at hl 2 rfl) ?_
    refine lv_if_eq (tgt := 24) hx hb dR_silo_9 (by decide) (fun c6 => ?_) (fun c6 => ?_)
    · have hm := brp hm c6
      refine lv_aload_n hx hb dR_silo_24 rfl (lv_at hl 0 rfl) ?_
      refine va_get (D := D) (ci := 6) (v := .ref (ad 6)) (C := RR) (T := TR) (N := 31) hx hb hT inR hown hK hP 0 rfl rfl 6 (by decide) (hT _ wd_541) (fun _ h9 => h9) rfl dR_silo_25 ?_
      refine lv_iload_n hx hb dR_silo_28 rfl (lv_at hl 1 rfl) ?_
      refine lv_iload_n hx hb dR_silo_29 rfl (lv_at hl 2 rfl) ?_
      obtain ⟨g7, hm⟩ := gd_to hm
      refine va_iast hx hb hK hP hD hS 6 0 rfl rfl g7 dR_silo_30 (fun H locs hP hD hS => ?_)
      obtain ⟨I8, eI8⟩ : ∃ z : SI, z = va_up I2 6 (upd (I2 6) x1.toNatClampNeg x2) := ⟨_, rfl⟩
      have hm := nm_to eI8 hm
      have hP := P_eq (ws2 := wsR ad cI cJ cG I8 J3) hP (by rw [eI8]; rfl)
      have hD := D_eq (ws2 := wsR ad cI cJ cG I8 J3) hD (by rw [eI8]; rfl)
      refine lv_iconst (v := 1) hx hb dR_silo_31 (by decide) ?_
      exact W.zret hx hb hr rfl (fun t ht hW => ⟨⟨1, (I8, J3), rfl, Option.some.inj hm, ht ▸ hP, va_K.moved hW.alike hK, hD⟩, hS.F ht⟩) hS.2.2 dR_silo_32 hlk
    · have hm := brn hm c6
      refine lv_iload_n hx hb dR_silo_12 rfl (lv_at hl 2 rfl) ?_
      refine lv_iconst (v := 5) hx hb dR_silo_13 (by decide) ?_
      refine lv_bipush (v := 40) hx hb dR_silo_14 (by decide) ?_
      obtain ⟨r9, hc10, hm⟩ := cl1_to hm
      refine pstZ_i hS (va_runS (As := [.int x2, .int 5, .int 40]) (rest := []) ⟨hx, hb, hml, hown, hT⟩ (c_R_in l x2 5 40 _ hc10) (va_cwS 3 hT (gS wd_634 wd_635 wd_57 wd_636) rfl rfl rfl (by decide +kernel) ⟨Nat.le_of_ble_eq_true rfl, Nat.le_of_ble_eq_true rfl⟩) ⟨preZ_fb, preZ_at⟩ rfl rfl hl.1 rfl (lv_room (Nat.le_of_ble_eq_true rfl)) dR_silo_16 ⟨Nat.zero_le _, Nat.zero_le _⟩) (fun H1 locs hq hS => ?_)
      have hP := keptP hP hq
      refine lv_if_ne (tgt := 24) hx hb dR_silo_19 (by decide) (fun c11 => ?_) (fun c11 => ?_)
      · have hm := brn hm c11
        refine lv_aload_n hx hb dR_silo_24 rfl (lv_at hl 0 rfl) ?_
        refine va_get (D := D) (ci := 6) (v := .ref (ad 6)) (C := RR) (T := TR) (N := 31) hx hb hT inR hown hK hP 0 rfl rfl 6 (by decide) (hT _ wd_541) (fun _ h9 => h9) rfl dR_silo_25 ?_
        refine lv_iload_n hx hb dR_silo_28 rfl (lv_at hl 1 rfl) ?_
        refine lv_iload_n hx hb dR_silo_29 rfl (lv_at hl 2 rfl) ?_
        obtain ⟨g12, hm⟩ := gd_to hm
        refine va_iast hx hb hK hP hD hS 6 0 rfl rfl g12 dR_silo_30 (fun H locs hP hD hS => ?_)
        obtain ⟨I13, eI13⟩ : ∃ z : SI, z = va_up I2 6 (upd (I2 6) x1.toNatClampNeg x2) := ⟨_, rfl⟩
        have hm := nm_to eI13 hm
        have hP := P_eq (ws2 := wsR ad cI cJ cG I13 J3) hP (by rw [eI13]; rfl)
        have hD := D_eq (ws2 := wsR ad cI cJ cG I13 J3) hD (by rw [eI13]; rfl)
        refine lv_iconst (v := 1) hx hb dR_silo_31 (by decide) ?_
        exact W.zret hx hb hr rfl (fun t ht hW => ⟨⟨1, (I13, J3), rfl, Option.some.inj hm, ht ▸ hP, va_K.moved hW.alike hK, hD⟩, hS.F ht⟩) hS.2.2 dR_silo_32 hlk
      · have hm := brp hm c11
        refine lv_iconst (v := 0) hx hb dR_silo_22 (by decide) ?_
        exact W.zret hx hb hr rfl (fun t ht hW => ⟨⟨0, (I2, J3), rfl, Option.some.inj hm, ht ▸ hP, va_K.moved hW.alike hK, hD⟩, hS.F ht⟩) hS.2.2 dR_silo_23 hlk
set_option maxHeartbeats 4000000 in
set_option maxRecDepth 100000 in
theorem c_R_silo (l : Launch) (D : va_G) (ad : Nat → Nat) (cI cJ cG : ClassId) (sz : Nat) (x1 : Int32) (x2 : Int32) (I : SI) (J : SJ) (res : Int32 × SI × SJ) (hm : m_R_silo x1 x2 I J = some res) : Met l yR_silo (Cond.code yR_silo bR_silo 3 (some .boolean) :: gtb) rm_R_silo (va_Pc [.ref (ad 0), .int x1, .int x2] (preW D vwCl (tysR cI cJ cG) (wsR ad cI cJ cG I J) sz)) (va_Qi (fun (r : Int32) (u : SI × SJ) => (r, u) = res) (atW D vwCl (tysR cI cJ cG) (va_A (wsR ad cI cJ cG I J) sz) (wsR ad cI cJ cG)) (va_A (wsR ad cI cJ cG I J) sz)) 0 0 (va_A (wsR ad cI cJ cG I J) sz) := by
  refine Met.ofW (cc := bR_silo) (maxL := 3) (ret := (some .boolean)) (by decide) rfl ?_
  intro p e s m args below meth c s₁ B hml hv
  obtain ⟨rfl, hsz, hP, hK, hD0, hN⟩ := hv
  subst hsz
  have X : Cx p s m [.ref (ad 0), .int x1, .int x2].toArray meth c bR_silo (some .boolean) 3 RR := ⟨B.exec, B.bytes, B.returns, hml, findClass_of_methodNamed B.named, fun w h => atoms_spec (ws := (Cond.code yR_silo bR_silo 3 (some .boolean) :: gtb)) B.pre w (List.mem_cons_of_mem _ h), B.notSynchronized⟩
  have hl := lv_entry ([.ref (ad 0), .int x1, .int x2]) (n := 3) (Nat.le_of_ble_eq_true rfl)
  rw [lg_entry_eq]
  generalize (lg_sl ([.ref (ad 0), .int x1, .int x2]) ++ List.replicate (3 - (lg_sl ([.ref (ad 0), .int x1, .int x2])).length) Slot.unset).toArray = ls at hl ⊢
  have hl : lv_has ls 3 [(0, .ref (ad 0)), (1, .int x1), (2, .int x2)] := hl
  have hA : ∀ q, s.heap.size ≤ q → va_A (wsR ad cI cJ cG I J) s.heap.size q := fun q h => Or.inr h
  exact w_R_silo_0 X hK hN hA  x1 x2 I J hm _ _ _ hP hD0.self va_S.rf hl
end
