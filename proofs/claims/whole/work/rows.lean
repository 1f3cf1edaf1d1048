section
-- ===== PART A: goes FIRST, ahead of the names: the tables' words, and 'selects' of the private methods out of them =====
/-- a private method of a class that the tables say can be made, by its rows of tables_1 -/
def lw_okq (q : MethodName × Nat) : Prop := (q.1.cls ≠ "java/lang/invoke/MethodHandle" ∧ q.1.cls ≠ "java/lang/invoke/VarHandle") ∧ Cond.instantiable q.1.cls q.2 ∈ tables_1 ∧ Cond.privateMethod q.1 ∈ tables_1 ∧ Cond.instanceMethod q.1 ∈ tables_1
theorem lw_p0 : lw_okq (⟨"FeedMixes", "isStuff", "(I)Z"⟩, 12) := ⟨⟨by decide +kernel, by decide +kernel⟩, List.mem_of_getElem? (i := 11) (by decide +kernel), List.mem_of_getElem? (i := 247) (by decide +kernel), List.mem_of_getElem? (i := 248) (by decide +kernel)⟩
theorem lw_p1 : lw_okq (⟨"FeedMixes$Mixer", "findBest", "(ILFeedMixes$Mix;)Z"⟩, 3) := ⟨⟨by decide +kernel, by decide +kernel⟩, List.mem_of_getElem? (i := 76) (by decide +kernel), List.mem_of_getElem? (i := 281) (by decide +kernel), List.mem_of_getElem? (i := 282) (by decide +kernel)⟩
theorem lw_p2 : lw_okq (⟨"FeedMixes$Mixer", "begin", "(I)V"⟩, 3) := ⟨⟨by decide +kernel, by decide +kernel⟩, List.mem_of_getElem? (i := 76) (by decide +kernel), List.mem_of_getElem? (i := 285) (by decide +kernel), List.mem_of_getElem? (i := 286) (by decide +kernel)⟩
theorem lw_p3 : lw_okq (⟨"FeedMixes$Limits", "keepAll", "(I)V"⟩, 7) := ⟨⟨by decide +kernel, by decide +kernel⟩, List.mem_of_getElem? (i := 82) (by decide +kernel), List.mem_of_getElem? (i := 289) (by decide +kernel), List.mem_of_getElem? (i := 290) (by decide +kernel)⟩
theorem lw_p4 : lw_okq (⟨"FeedMixes$Limits", "widen", "(I)V"⟩, 7) := ⟨⟨by decide +kernel, by decide +kernel⟩, List.mem_of_getElem? (i := 82) (by decide +kernel), List.mem_of_getElem? (i := 293) (by decide +kernel), List.mem_of_getElem? (i := 294) (by decide +kernel)⟩
theorem lw_p5 : lw_okq (⟨"FeedMixes$Limits", "isThere", "(I)Z"⟩, 7) := ⟨⟨by decide +kernel, by decide +kernel⟩, List.mem_of_getElem? (i := 82) (by decide +kernel), List.mem_of_getElem? (i := 297) (by decide +kernel), List.mem_of_getElem? (i := 298) (by decide +kernel)⟩
theorem lw_p6 : lw_okq (⟨"FeedMixes$Limits", "keep", "(I)V"⟩, 7) := ⟨⟨by decide +kernel, by decide +kernel⟩, List.mem_of_getElem? (i := 82) (by decide +kernel), List.mem_of_getElem? (i := 304) (by decide +kernel), List.mem_of_getElem? (i := 305) (by decide +kernel)⟩
theorem lw_p7 : lw_okq (⟨"FeedMixes$Limits", "levelOf", "(I)I"⟩, 7) := ⟨⟨by decide +kernel, by decide +kernel⟩, List.mem_of_getElem? (i := 82) (by decide +kernel), List.mem_of_getElem? (i := 311) (by decide +kernel), List.mem_of_getElem? (i := 312) (by decide +kernel)⟩
theorem lw_p8 : lw_okq (⟨"FeedMixes$Corners", "setSlopes", "()V"⟩, 10) := ⟨⟨by decide +kernel, by decide +kernel⟩, List.mem_of_getElem? (i := 118) (by decide +kernel), List.mem_of_getElem? (i := 324) (by decide +kernel), List.mem_of_getElem? (i := 325) (by decide +kernel)⟩
theorem lw_p9 : lw_okq (⟨"FeedMixes$Corners", "pointsOf", "(II)I"⟩, 10) := ⟨⟨by decide +kernel, by decide +kernel⟩, List.mem_of_getElem? (i := 118) (by decide +kernel), List.mem_of_getElem? (i := 328) (by decide +kernel), List.mem_of_getElem? (i := 329) (by decide +kernel)⟩
theorem lw_p10 : lw_okq (⟨"FeedMixes$Mix", "forget", "()V"⟩, 3) := ⟨⟨by decide +kernel, by decide +kernel⟩, List.mem_of_getElem? (i := 125) (by decide +kernel), List.mem_of_getElem? (i := 332) (by decide +kernel), List.mem_of_getElem? (i := 333) (by decide +kernel)⟩
theorem lw_p11 : lw_okq (⟨"FeedMixes$Corners", "seek", "(LFeedMixes$Mix;)Z"⟩, 10) := ⟨⟨by decide +kernel, by decide +kernel⟩, List.mem_of_getElem? (i := 118) (by decide +kernel), List.mem_of_getElem? (i := 339) (by decide +kernel), List.mem_of_getElem? (i := 340) (by decide +kernel)⟩
theorem lw_p12 : lw_okq (⟨"FeedMixes$Limits", "leaveRoomToStuffs", "()Z"⟩, 7) := ⟨⟨by decide +kernel, by decide +kernel⟩, List.mem_of_getElem? (i := 82) (by decide +kernel), List.mem_of_getElem? (i := 343) (by decide +kernel), List.mem_of_getElem? (i := 344) (by decide +kernel)⟩
theorem lw_p13 : lw_okq (⟨"FeedMixes$Corners", "setPlanes", "()Z"⟩, 10) := ⟨⟨by decide +kernel, by decide +kernel⟩, List.mem_of_getElem? (i := 118) (by decide +kernel), List.mem_of_getElem? (i := 347) (by decide +kernel), List.mem_of_getElem? (i := 348) (by decide +kernel)⟩
theorem lw_p14 : lw_okq (⟨"FeedMixes$Corners", "addPlanesOfOneAmount", "()V"⟩, 10) := ⟨⟨by decide +kernel, by decide +kernel⟩, List.mem_of_getElem? (i := 118) (by decide +kernel), List.mem_of_getElem? (i := 351) (by decide +kernel), List.mem_of_getElem? (i := 352) (by decide +kernel)⟩
theorem lw_p15 : lw_okq (⟨"FeedMixes$Corners", "addPlane", "(II)V"⟩, 10) := ⟨⟨by decide +kernel, by decide +kernel⟩, List.mem_of_getElem? (i := 118) (by decide +kernel), List.mem_of_getElem? (i := 355) (by decide +kernel), List.mem_of_getElem? (i := 356) (by decide +kernel)⟩
def lw_privs_1 : List (MethodName × Nat) := [(⟨"FeedMixes", "isStuff", "(I)Z"⟩, 12), (⟨"FeedMixes$Mixer", "findBest", "(ILFeedMixes$Mix;)Z"⟩, 3), (⟨"FeedMixes$Mixer", "begin", "(I)V"⟩, 3), (⟨"FeedMixes$Limits", "keepAll", "(I)V"⟩, 7), (⟨"FeedMixes$Limits", "widen", "(I)V"⟩, 7), (⟨"FeedMixes$Limits", "isThere", "(I)Z"⟩, 7), (⟨"FeedMixes$Limits", "keep", "(I)V"⟩, 7), (⟨"FeedMixes$Limits", "levelOf", "(I)I"⟩, 7), (⟨"FeedMixes$Corners", "setSlopes", "()V"⟩, 10), (⟨"FeedMixes$Corners", "pointsOf", "(II)I"⟩, 10), (⟨"FeedMixes$Mix", "forget", "()V"⟩, 3), (⟨"FeedMixes$Corners", "seek", "(LFeedMixes$Mix;)Z"⟩, 10), (⟨"FeedMixes$Limits", "leaveRoomToStuffs", "()Z"⟩, 7), (⟨"FeedMixes$Corners", "setPlanes", "()Z"⟩, 10), (⟨"FeedMixes$Corners", "addPlanesOfOneAmount", "()V"⟩, 10), (⟨"FeedMixes$Corners", "addPlane", "(II)V"⟩, 10)]
theorem lw_r1 : ∀ q ∈ lw_privs_1, lw_okq q := List.forall_mem_cons.mpr ⟨lw_p0, List.forall_mem_cons.mpr ⟨lw_p1, List.forall_mem_cons.mpr ⟨lw_p2, List.forall_mem_cons.mpr ⟨lw_p3, List.forall_mem_cons.mpr ⟨lw_p4, List.forall_mem_cons.mpr ⟨lw_p5, List.forall_mem_cons.mpr ⟨lw_p6, List.forall_mem_cons.mpr ⟨lw_p7, List.forall_mem_cons.mpr ⟨lw_p8, List.forall_mem_cons.mpr ⟨lw_p9, List.forall_mem_cons.mpr ⟨lw_p10, List.forall_mem_cons.mpr ⟨lw_p11, List.forall_mem_cons.mpr ⟨lw_p12, List.forall_mem_cons.mpr ⟨lw_p13, List.forall_mem_cons.mpr ⟨lw_p14, List.forall_mem_cons.mpr ⟨lw_p15, fun _ h => absurd h List.not_mem_nil⟩⟩⟩⟩⟩⟩⟩⟩⟩⟩⟩⟩⟩⟩⟩⟩
theorem lw_p16 : lw_okq (⟨"FeedMixes$Corners", "addPlanesOfStuffs", "()V"⟩, 10) := ⟨⟨by decide +kernel, by decide +kernel⟩, List.mem_of_getElem? (i := 118) (by decide +kernel), List.mem_of_getElem? (i := 359) (by decide +kernel), List.mem_of_getElem? (i := 360) (by decide +kernel)⟩
theorem lw_p17 : lw_okq (⟨"FeedMixes$Corners", "addPlanesOfNutrients", "()Z"⟩, 10) := ⟨⟨by decide +kernel, by decide +kernel⟩, List.mem_of_getElem? (i := 118) (by decide +kernel), List.mem_of_getElem? (i := 363) (by decide +kernel), List.mem_of_getElem? (i := 364) (by decide +kernel)⟩
theorem lw_p18 : lw_okq (⟨"FeedMixes$Limits", "extremeOf", "(IZ)I"⟩, 7) := ⟨⟨by decide +kernel, by decide +kernel⟩, List.mem_of_getElem? (i := 82) (by decide +kernel), List.mem_of_getElem? (i := 367) (by decide +kernel), List.mem_of_getElem? (i := 368) (by decide +kernel)⟩
theorem lw_p19 : lw_okq (⟨"FeedMixes$Corners", "setCrossOf", "(II)V"⟩, 10) := ⟨⟨by decide +kernel, by decide +kernel⟩, List.mem_of_getElem? (i := 118) (by decide +kernel), List.mem_of_getElem? (i := 371) (by decide +kernel), List.mem_of_getElem? (i := 372) (by decide +kernel)⟩
theorem lw_p20 : lw_okq (⟨"FeedMixes$Corners", "isCorner", "(III)Z"⟩, 10) := ⟨⟨by decide +kernel, by decide +kernel⟩, List.mem_of_getElem? (i := 118) (by decide +kernel), List.mem_of_getElem? (i := 378) (by decide +kernel), List.mem_of_getElem? (i := 379) (by decide +kernel)⟩
theorem lw_p21 : lw_okq (⟨"FeedMixes$Limits", "allow", "(IJJ)Z"⟩, 7) := ⟨⟨by decide +kernel, by decide +kernel⟩, List.mem_of_getElem? (i := 82) (by decide +kernel), List.mem_of_getElem? (i := 382) (by decide +kernel), List.mem_of_getElem? (i := 383) (by decide +kernel)⟩
theorem lw_p22 : lw_okq (⟨"FeedMixes$Limits", "allOf", "(ILFeedMixes$Mix;)J"⟩, 7) := ⟨⟨by decide +kernel, by decide +kernel⟩, List.mem_of_getElem? (i := 82) (by decide +kernel), List.mem_of_getElem? (i := 386) (by decide +kernel), List.mem_of_getElem? (i := 387) (by decide +kernel)⟩
theorem lw_p23 : lw_okq (⟨"FeedMixes$Mix", "sum", "([I)J"⟩, 3) := ⟨⟨by decide +kernel, by decide +kernel⟩, List.mem_of_getElem? (i := 125) (by decide +kernel), List.mem_of_getElem? (i := 390) (by decide +kernel), List.mem_of_getElem? (i := 391) (by decide +kernel)⟩
theorem lw_p24 : lw_okq (⟨"FeedMixes$Corners", "offer", "(LFeedMixes$Mix;)V"⟩, 10) := ⟨⟨by decide +kernel, by decide +kernel⟩, List.mem_of_getElem? (i := 118) (by decide +kernel), List.mem_of_getElem? (i := 394) (by decide +kernel), List.mem_of_getElem? (i := 395) (by decide +kernel)⟩
theorem lw_p25 : lw_okq (⟨"FeedMixes$Mix", "isBetterThan", "(LFeedMixes$Mix;)Z"⟩, 3) := ⟨⟨by decide +kernel, by decide +kernel⟩, List.mem_of_getElem? (i := 125) (by decide +kernel), List.mem_of_getElem? (i := 399) (by decide +kernel), List.mem_of_getElem? (i := 400) (by decide +kernel)⟩
theorem lw_p26 : lw_okq (⟨"FeedMixes$Mix", "become", "(LFeedMixes$Mix;)V"⟩, 3) := ⟨⟨by decide +kernel, by decide +kernel⟩, List.mem_of_getElem? (i := 125) (by decide +kernel), List.mem_of_getElem? (i := 406) (by decide +kernel), List.mem_of_getElem? (i := 407) (by decide +kernel)⟩
theorem lw_p27 : lw_okq (⟨"FeedMixes$Mix", "isNone", "()Z"⟩, 3) := ⟨⟨by decide +kernel, by decide +kernel⟩, List.mem_of_getElem? (i := 125) (by decide +kernel), List.mem_of_getElem? (i := 410) (by decide +kernel), List.mem_of_getElem? (i := 411) (by decide +kernel)⟩
theorem lw_p28 : lw_okq (⟨"FeedMixes$Mixer", "tightBounds", "(LFeedMixes$Mix;)I"⟩, 3) := ⟨⟨by decide +kernel, by decide +kernel⟩, List.mem_of_getElem? (i := 76) (by decide +kernel), List.mem_of_getElem? (i := 414) (by decide +kernel), List.mem_of_getElem? (i := 415) (by decide +kernel)⟩
theorem lw_p29 : lw_okq (⟨"FeedMixes$Mixer", "canKeepBounds", "(I)Z"⟩, 3) := ⟨⟨by decide +kernel, by decide +kernel⟩, List.mem_of_getElem? (i := 76) (by decide +kernel), List.mem_of_getElem? (i := 422) (by decide +kernel), List.mem_of_getElem? (i := 423) (by decide +kernel)⟩
theorem lw_p30 : lw_okq (⟨"FeedMixes$Mixer", "clashingBounds", "(I)I"⟩, 3) := ⟨⟨by decide +kernel, by decide +kernel⟩, List.mem_of_getElem? (i := 76) (by decide +kernel), List.mem_of_getElem? (i := 426) (by decide +kernel), List.mem_of_getElem? (i := 427) (by decide +kernel)⟩
theorem lw_p31 : lw_okq (⟨"FeedMixes$Limits", "leaveOut", "(I)Z"⟩, 7) := ⟨⟨by decide +kernel, by decide +kernel⟩, List.mem_of_getElem? (i := 82) (by decide +kernel), List.mem_of_getElem? (i := 433) (by decide +kernel), List.mem_of_getElem? (i := 434) (by decide +kernel)⟩
def lw_privs_2 : List (MethodName × Nat) := [(⟨"FeedMixes$Corners", "addPlanesOfStuffs", "()V"⟩, 10), (⟨"FeedMixes$Corners", "addPlanesOfNutrients", "()Z"⟩, 10), (⟨"FeedMixes$Limits", "extremeOf", "(IZ)I"⟩, 7), (⟨"FeedMixes$Corners", "setCrossOf", "(II)V"⟩, 10), (⟨"FeedMixes$Corners", "isCorner", "(III)Z"⟩, 10), (⟨"FeedMixes$Limits", "allow", "(IJJ)Z"⟩, 7), (⟨"FeedMixes$Limits", "allOf", "(ILFeedMixes$Mix;)J"⟩, 7), (⟨"FeedMixes$Mix", "sum", "([I)J"⟩, 3), (⟨"FeedMixes$Corners", "offer", "(LFeedMixes$Mix;)V"⟩, 10), (⟨"FeedMixes$Mix", "isBetterThan", "(LFeedMixes$Mix;)Z"⟩, 3), (⟨"FeedMixes$Mix", "become", "(LFeedMixes$Mix;)V"⟩, 3), (⟨"FeedMixes$Mix", "isNone", "()Z"⟩, 3), (⟨"FeedMixes$Mixer", "tightBounds", "(LFeedMixes$Mix;)I"⟩, 3), (⟨"FeedMixes$Mixer", "canKeepBounds", "(I)Z"⟩, 3), (⟨"FeedMixes$Mixer", "clashingBounds", "(I)I"⟩, 3), (⟨"FeedMixes$Limits", "leaveOut", "(I)Z"⟩, 7)]
theorem lw_r2 : ∀ q ∈ lw_privs_2, lw_okq q := List.forall_mem_cons.mpr ⟨lw_p16, List.forall_mem_cons.mpr ⟨lw_p17, List.forall_mem_cons.mpr ⟨lw_p18, List.forall_mem_cons.mpr ⟨lw_p19, List.forall_mem_cons.mpr ⟨lw_p20, List.forall_mem_cons.mpr ⟨lw_p21, List.forall_mem_cons.mpr ⟨lw_p22, List.forall_mem_cons.mpr ⟨lw_p23, List.forall_mem_cons.mpr ⟨lw_p24, List.forall_mem_cons.mpr ⟨lw_p25, List.forall_mem_cons.mpr ⟨lw_p26, List.forall_mem_cons.mpr ⟨lw_p27, List.forall_mem_cons.mpr ⟨lw_p28, List.forall_mem_cons.mpr ⟨lw_p29, List.forall_mem_cons.mpr ⟨lw_p30, List.forall_mem_cons.mpr ⟨lw_p31, fun _ h => absurd h List.not_mem_nil⟩⟩⟩⟩⟩⟩⟩⟩⟩⟩⟩⟩⟩⟩⟩⟩
theorem lw_p32 : lw_okq (⟨"FeedMixesModel", "isStuff", "(I)Z"⟩, 31) := ⟨⟨by decide +kernel, by decide +kernel⟩, List.mem_of_getElem? (i := 480) (by decide +kernel), List.mem_of_getElem? (i := 592) (by decide +kernel), List.mem_of_getElem? (i := 593) (by decide +kernel)⟩
theorem lw_p33 : lw_okq (⟨"FeedMixesModel", "countAll", "()V"⟩, 31) := ⟨⟨by decide +kernel, by decide +kernel⟩, List.mem_of_getElem? (i := 480) (by decide +kernel), List.mem_of_getElem? (i := 620) (by decide +kernel), List.mem_of_getElem? (i := 621) (by decide +kernel)⟩
theorem lw_p34 : lw_okq (⟨"FeedMixesModel", "isThere", "(I)Z"⟩, 31) := ⟨⟨by decide +kernel, by decide +kernel⟩, List.mem_of_getElem? (i := 480) (by decide +kernel), List.mem_of_getElem? (i := 624) (by decide +kernel), List.mem_of_getElem? (i := 625) (by decide +kernel)⟩
theorem lw_p35 : lw_okq (⟨"FeedMixesModel", "isPossible", "(I)Z"⟩, 31) := ⟨⟨by decide +kernel, by decide +kernel⟩, List.mem_of_getElem? (i := 480) (by decide +kernel), List.mem_of_getElem? (i := 628) (by decide +kernel), List.mem_of_getElem? (i := 629) (by decide +kernel)⟩
theorem lw_p36 : lw_okq (⟨"FeedMixesModel", "freeAll", "()V"⟩, 31) := ⟨⟨by decide +kernel, by decide +kernel⟩, List.mem_of_getElem? (i := 480) (by decide +kernel), List.mem_of_getElem? (i := 632) (by decide +kernel), List.mem_of_getElem? (i := 633) (by decide +kernel)⟩
theorem lw_p37 : lw_okq (⟨"FeedMixesModel", "corners", "(IZ)V"⟩, 31) := ⟨⟨by decide +kernel, by decide +kernel⟩, List.mem_of_getElem? (i := 480) (by decide +kernel), List.mem_of_getElem? (i := 636) (by decide +kernel), List.mem_of_getElem? (i := 637) (by decide +kernel)⟩
theorem lw_p38 : lw_okq (⟨"FeedMixesModel", "look", "(I)Z"⟩, 31) := ⟨⟨by decide +kernel, by decide +kernel⟩, List.mem_of_getElem? (i := 480) (by decide +kernel), List.mem_of_getElem? (i := 640) (by decide +kernel), List.mem_of_getElem? (i := 641) (by decide +kernel)⟩
theorem lw_p39 : lw_okq (⟨"FeedMixesModel", "solve", "(I)Z"⟩, 31) := ⟨⟨by decide +kernel, by decide +kernel⟩, List.mem_of_getElem? (i := 480) (by decide +kernel), List.mem_of_getElem? (i := 644) (by decide +kernel), List.mem_of_getElem? (i := 645) (by decide +kernel)⟩
theorem lw_p40 : lw_okq (⟨"FeedMixesModel", "right", "(II)J"⟩, 31) := ⟨⟨by decide +kernel, by decide +kernel⟩, List.mem_of_getElem? (i := 480) (by decide +kernel), List.mem_of_getElem? (i := 648) (by decide +kernel), List.mem_of_getElem? (i := 649) (by decide +kernel)⟩
theorem lw_p41 : lw_okq (⟨"FeedMixesModel", "factor", "(II)J"⟩, 31) := ⟨⟨by decide +kernel, by decide +kernel⟩, List.mem_of_getElem? (i := 480) (by decide +kernel), List.mem_of_getElem? (i := 652) (by decide +kernel), List.mem_of_getElem? (i := 653) (by decide +kernel)⟩
theorem lw_p42 : lw_okq (⟨"FeedMixesModel", "keepsAll", "(I)Z"⟩, 31) := ⟨⟨by decide +kernel, by decide +kernel⟩, List.mem_of_getElem? (i := 480) (by decide +kernel), List.mem_of_getElem? (i := 658) (by decide +kernel), List.mem_of_getElem? (i := 659) (by decide +kernel)⟩
theorem lw_p43 : lw_okq (⟨"FeedMixesModel", "over", "(II[JJ)J"⟩, 31) := ⟨⟨by decide +kernel, by decide +kernel⟩, List.mem_of_getElem? (i := 480) (by decide +kernel), List.mem_of_getElem? (i := 662) (by decide +kernel), List.mem_of_getElem? (i := 663) (by decide +kernel)⟩
theorem lw_p44 : lw_okq (⟨"FeedMixesModel", "isBetter", "()Z"⟩, 31) := ⟨⟨by decide +kernel, by decide +kernel⟩, List.mem_of_getElem? (i := 480) (by decide +kernel), List.mem_of_getElem? (i := 669) (by decide +kernel), List.mem_of_getElem? (i := 670) (by decide +kernel)⟩
theorem lw_p45 : lw_okq (⟨"FeedMixesModel", "costOf", "([J)J"⟩, 31) := ⟨⟨by decide +kernel, by decide +kernel⟩, List.mem_of_getElem? (i := 480) (by decide +kernel), List.mem_of_getElem? (i := 673) (by decide +kernel), List.mem_of_getElem? (i := 674) (by decide +kernel)⟩
theorem lw_p46 : lw_okq (⟨"FeedMixesModel", "mixes", "(I)Z"⟩, 31) := ⟨⟨by decide +kernel, by decide +kernel⟩, List.mem_of_getElem? (i := 480) (by decide +kernel), List.mem_of_getElem? (i := 677) (by decide +kernel), List.mem_of_getElem? (i := 678) (by decide +kernel)⟩
theorem lw_p47 : lw_okq (⟨"FeedMixesModel", "most", "(I)I"⟩, 31) := ⟨⟨by decide +kernel, by decide +kernel⟩, List.mem_of_getElem? (i := 480) (by decide +kernel), List.mem_of_getElem? (i := 681) (by decide +kernel), List.mem_of_getElem? (i := 682) (by decide +kernel)⟩
def lw_privs_3 : List (MethodName × Nat) := [(⟨"FeedMixesModel", "isStuff", "(I)Z"⟩, 31), (⟨"FeedMixesModel", "countAll", "()V"⟩, 31), (⟨"FeedMixesModel", "isThere", "(I)Z"⟩, 31), (⟨"FeedMixesModel", "isPossible", "(I)Z"⟩, 31), (⟨"FeedMixesModel", "freeAll", "()V"⟩, 31), (⟨"FeedMixesModel", "corners", "(IZ)V"⟩, 31), (⟨"FeedMixesModel", "look", "(I)Z"⟩, 31), (⟨"FeedMixesModel", "solve", "(I)Z"⟩, 31), (⟨"FeedMixesModel", "right", "(II)J"⟩, 31), (⟨"FeedMixesModel", "factor", "(II)J"⟩, 31), (⟨"FeedMixesModel", "keepsAll", "(I)Z"⟩, 31), (⟨"FeedMixesModel", "over", "(II[JJ)J"⟩, 31), (⟨"FeedMixesModel", "isBetter", "()Z"⟩, 31), (⟨"FeedMixesModel", "costOf", "([J)J"⟩, 31), (⟨"FeedMixesModel", "mixes", "(I)Z"⟩, 31), (⟨"FeedMixesModel", "most", "(I)I"⟩, 31)]
theorem lw_r3 : ∀ q ∈ lw_privs_3, lw_okq q := List.forall_mem_cons.mpr ⟨lw_p32, List.forall_mem_cons.mpr ⟨lw_p33, List.forall_mem_cons.mpr ⟨lw_p34, List.forall_mem_cons.mpr ⟨lw_p35, List.forall_mem_cons.mpr ⟨lw_p36, List.forall_mem_cons.mpr ⟨lw_p37, List.forall_mem_cons.mpr ⟨lw_p38, List.forall_mem_cons.mpr ⟨lw_p39, List.forall_mem_cons.mpr ⟨lw_p40, List.forall_mem_cons.mpr ⟨lw_p41, List.forall_mem_cons.mpr ⟨lw_p42, List.forall_mem_cons.mpr ⟨lw_p43, List.forall_mem_cons.mpr ⟨lw_p44, List.forall_mem_cons.mpr ⟨lw_p45, List.forall_mem_cons.mpr ⟨lw_p46, List.forall_mem_cons.mpr ⟨lw_p47, fun _ h => absurd h List.not_mem_nil⟩⟩⟩⟩⟩⟩⟩⟩⟩⟩⟩⟩⟩⟩⟩⟩
theorem lw_p48 : lw_okq (⟨"FeedMixesModel", "fix", "(II)V"⟩, 31) := ⟨⟨by decide +kernel, by decide +kernel⟩, List.mem_of_getElem? (i := 480) (by decide +kernel), List.mem_of_getElem? (i := 685) (by decide +kernel), List.mem_of_getElem? (i := 686) (by decide +kernel)⟩
theorem lw_p49 : lw_okq (⟨"FeedMixesModel", "keepMix", "(I)V"⟩, 31) := ⟨⟨by decide +kernel, by decide +kernel⟩, List.mem_of_getElem? (i := 480) (by decide +kernel), List.mem_of_getElem? (i := 689) (by decide +kernel), List.mem_of_getElem? (i := 690) (by decide +kernel)⟩
def lw_privs_4 : List (MethodName × Nat) := [(⟨"FeedMixesModel", "fix", "(II)V"⟩, 31), (⟨"FeedMixesModel", "keepMix", "(I)V"⟩, 31)]
theorem lw_r4 : ∀ q ∈ lw_privs_4, lw_okq q := List.forall_mem_cons.mpr ⟨lw_p48, List.forall_mem_cons.mpr ⟨lw_p49, fun _ h => absurd h List.not_mem_nil⟩⟩
def lw_privs : List (MethodName × Nat) := lw_privs_1 ++ (lw_privs_2 ++ (lw_privs_3 ++ (lw_privs_4)))
def lw_tbl : List Cond := k2_sels lw_privs ++ tables_1
theorem lw_privs_ok : ∀ q ∈ lw_privs, lw_okq q := by
  show ∀ q ∈ lw_privs_1 ++ (lw_privs_2 ++ (lw_privs_3 ++ (lw_privs_4))), lw_okq q
  exact List.forall_mem_append.mpr ⟨lw_r1, List.forall_mem_append.mpr ⟨lw_r2, List.forall_mem_append.mpr ⟨lw_r3, lw_r4⟩⟩⟩
-- ===== end of PART A; then your names; then what follows =====
end
section
def RK : String := "FeedMixes$Corners"
def RL : String := "FeedMixes$Limits"
def RX : String := "FeedMixes$Mix"
def RE : String := "FeedMixes$Mixer"
def RT : String := "FeedMixes$Told"
def RF : String := "FeedMixes"
def RR : String := "FeedMixesModel"
def RW : String := "FeedMixesLaw"
def RJL : String := "java/lang/Long"
def RJM : String := "java/lang/Math"
def TK : u_T := fun k => match k with
  | 0 => ("FeedMixes$Corners", "told", "LFeedMixes$Told;", true)
  | 1 => ("FeedMixes$Corners", "limits", "LFeedMixes$Limits;", true)
  | 2 => ("FeedMixes$Corners", "ofLast", "[I", true)
  | 3 => ("FeedMixes$Corners", "slope", "[[I", true)
  | 4 => ("FeedMixes$Corners", "planeRow", "[I", true)
  | 5 => ("FeedMixes$Corners", "planeLevel", "[I", true)
  | 6 => ("FeedMixes$Corners", "planes", "I", false)
  | 7 => ("FeedMixes$Corners", "throughAll", "I", false)
  | 8 => ("FeedMixes$Corners", "crossAB", "[J", true)
  | _ => ("FeedMixes$Corners", "corner", "LFeedMixes$Mix;", true)
def tyK : Nat → FieldType := fun k => match k with
  | 0 => .object "FeedMixes$Told"
  | 1 => .object "FeedMixes$Limits"
  | 2 => .array .int
  | 3 => .array (.array .int)
  | 4 => .array .int
  | 5 => .array .int
  | 6 => .int
  | 7 => .int
  | 8 => .array .long
  | _ => .object "FeedMixes$Mix"
theorem nmK : ∀ a, a < 10 → ∀ b, b < 10 → a ≠ b → (TK a).2.1 ≠ (TK b).2.1 := by decide +kernel
theorem okK : ∀ k, k < 10 → parseFieldDescriptor (TK k).2.2.1 = some (tyK k) := by decide +kernel
abbrev uK : List Cond := u_ws RK TK 10
def TL : u_T := fun k => match k with
  | 0 => ("FeedMixes$Limits", "told", "LFeedMixes$Told;", true)
  | 1 => ("FeedMixes$Limits", "weight", "I", false)
  | 2 => ("FeedMixes$Limits", "whole", "I", false)
  | 3 => ("FeedMixes$Limits", "kept", "I", false)
  | 4 => ("FeedMixes$Limits", "low", "[I", true)
  | 5 => ("FeedMixes$Limits", "high", "[I", true)
  | _ => ("FeedMixes$Limits", "leanFirst", "[[I", true)
def tyL : Nat → FieldType := fun k => match k with
  | 0 => .object "FeedMixes$Told"
  | 1 => .int
  | 2 => .int
  | 3 => .int
  | 4 => .array .int
  | 5 => .array .int
  | _ => .array (.array .int)
theorem nmL : ∀ a, a < 7 → ∀ b, b < 7 → a ≠ b → (TL a).2.1 ≠ (TL b).2.1 := by decide +kernel
theorem okL : ∀ k, k < 7 → parseFieldDescriptor (TL k).2.2.1 = some (tyL k) := by decide +kernel
abbrev uL : List Cond := u_ws RL TL 7
def TX : u_T := fun k => match k with
  | 0 => ("FeedMixes$Mix", "amount", "[J", true)
  | 1 => ("FeedMixes$Mix", "price", "J", false)
  | _ => ("FeedMixes$Mix", "under", "J", false)
def tyX : Nat → FieldType := fun k => match k with
  | 0 => .array .long
  | 1 => .long
  | _ => .long
theorem nmX : ∀ a, a < 3 → ∀ b, b < 3 → a ≠ b → (TX a).2.1 ≠ (TX b).2.1 := by decide +kernel
theorem okX : ∀ k, k < 3 → parseFieldDescriptor (TX k).2.2.1 = some (tyX k) := by decide +kernel
abbrev uX : List Cond := u_ws RX TX 3
def TE : u_T := fun k => match k with
  | 0 => ("FeedMixes$Mixer", "told", "LFeedMixes$Told;", true)
  | 1 => ("FeedMixes$Mixer", "limits", "LFeedMixes$Limits;", true)
  | _ => ("FeedMixes$Mixer", "corners", "LFeedMixes$Corners;", true)
def tyE : Nat → FieldType := fun k => match k with
  | 0 => .object "FeedMixes$Told"
  | 1 => .object "FeedMixes$Limits"
  | _ => .object "FeedMixes$Corners"
theorem nmE : ∀ a, a < 3 → ∀ b, b < 3 → a ≠ b → (TE a).2.1 ≠ (TE b).2.1 := by decide +kernel
theorem okE : ∀ k, k < 3 → parseFieldDescriptor (TE k).2.2.1 = some (tyE k) := by decide +kernel
abbrev uE : List Cond := u_ws RE TE 3
def TT : u_T := fun k => match k with
  | 0 => ("FeedMixes$Told", "stuffs", "I", false)
  | 1 => ("FeedMixes$Told", "price", "[I", true)
  | 2 => ("FeedMixes$Told", "stock", "[I", true)
  | 3 => ("FeedMixes$Told", "leastShare", "[I", true)
  | 4 => ("FeedMixes$Told", "mostShare", "[I", true)
  | 5 => ("FeedMixes$Told", "silo", "[I", true)
  | 6 => ("FeedMixes$Told", "points", "[[I", true)
  | 7 => ("FeedMixes$Told", "leastNeed", "[I", true)
  | _ => ("FeedMixes$Told", "mostNeed", "[I", true)
def tyT : Nat → FieldType := fun k => match k with
  | 0 => .int
  | 1 => .array .int
  | 2 => .array .int
  | 3 => .array .int
  | 4 => .array .int
  | 5 => .array .int
  | 6 => .array (.array .int)
  | 7 => .array .int
  | _ => .array .int
theorem nmT : ∀ a, a < 9 → ∀ b, b < 9 → a ≠ b → (TT a).2.1 ≠ (TT b).2.1 := by decide +kernel
theorem okT : ∀ k, k < 9 → parseFieldDescriptor (TT k).2.2.1 = some (tyT k) := by decide +kernel
abbrev uT : List Cond := u_ws RT TT 9
def TF : u_T := fun k => match k with
  | 0 => ("FeedMixes", "told", "LFeedMixes$Told;", true)
  | 1 => ("FeedMixes", "mixer", "LFeedMixes$Mixer;", true)
  | 2 => ("FeedMixes", "lastAnswer", "I", false)
  | 3 => ("FeedMixes", "lastWeight", "I", false)
  | 4 => ("FeedMixes", "lastStuffs", "I", false)
  | 5 => ("FeedMixes", "lastTight", "I", false)
  | 6 => ("FeedMixes", "lastClash", "I", false)
  | 7 => ("FeedMixes", "lastMix", "LFeedMixes$Mix;", true)
  | 8 => ("FeedMixes", "mixNow", "LFeedMixes$Mix;", true)
  | 9 => ("FeedMixes", "mixThen", "LFeedMixes$Mix;", true)
  | 10 => ("FeedMixes", "medicineOnLine", "I", false)
  | _ => ("FeedMixes", "mixesOverLine", "I", false)
def tyF : Nat → FieldType := fun k => match k with
  | 0 => .object "FeedMixes$Told"
  | 1 => .object "FeedMixes$Mixer"
  | 2 => .int
  | 3 => .int
  | 4 => .int
  | 5 => .int
  | 6 => .int
  | 7 => .object "FeedMixes$Mix"
  | 8 => .object "FeedMixes$Mix"
  | 9 => .object "FeedMixes$Mix"
  | 10 => .int
  | _ => .int
theorem nmF : ∀ a, a < 12 → ∀ b, b < 12 → a ≠ b → (TF a).2.1 ≠ (TF b).2.1 := by decide +kernel
theorem okF : ∀ k, k < 12 → parseFieldDescriptor (TF k).2.2.1 = some (tyF k) := by decide +kernel
abbrev uF : List Cond := u_ws RF TF 12
def TR : u_T := fun k => match k with
  | 0 => ("FeedMixesModel", "stuffs", "I", false)
  | 1 => ("FeedMixesModel", "price", "[I", true)
  | 2 => ("FeedMixesModel", "stock", "[I", true)
  | 3 => ("FeedMixesModel", "points", "[I", true)
  | 4 => ("FeedMixesModel", "leastShare", "[I", true)
  | 5 => ("FeedMixesModel", "mostShare", "[I", true)
  | 6 => ("FeedMixesModel", "silo", "[I", true)
  | 7 => ("FeedMixesModel", "leastNeed", "[I", true)
  | 8 => ("FeedMixesModel", "mostNeed", "[I", true)
  | 9 => ("FeedMixesModel", "weight", "I", false)
  | 10 => ("FeedMixesModel", "answer", "I", false)
  | 11 => ("FeedMixesModel", "stuffsThen", "I", false)
  | 12 => ("FeedMixesModel", "amountAbove", "[J", true)
  | 13 => ("FeedMixesModel", "amountBelow", "[J", true)
  | 14 => ("FeedMixesModel", "costAbove", "J", false)
  | 15 => ("FeedMixesModel", "costBelow", "J", false)
  | 16 => ("FeedMixesModel", "justMet", "I", false)
  | 17 => ("FeedMixesModel", "clashing", "I", false)
  | 18 => ("FeedMixesModel", "on", "I", false)
  | 19 => ("FeedMixesModel", "overLine", "I", false)
  | 20 => ("FeedMixesModel", "counts", "[Z", true)
  | 21 => ("FeedMixesModel", "fixed", "[I", true)
  | 22 => ("FeedMixesModel", "free", "[I", true)
  | 23 => ("FeedMixesModel", "freeCount", "I", false)
  | 24 => ("FeedMixesModel", "rows", "[J", true)
  | 25 => ("FeedMixesModel", "x", "[J", true)
  | 26 => ("FeedMixesModel", "below", "J", false)
  | 27 => ("FeedMixesModel", "chosen", "[I", true)
  | 28 => ("FeedMixesModel", "found", "Z", false)
  | 29 => ("FeedMixesModel", "best", "[J", true)
  | _ => ("FeedMixesModel", "bestBelow", "J", false)
def tyR : Nat → FieldType := fun k => match k with
  | 0 => .int
  | 1 => .array .int
  | 2 => .array .int
  | 3 => .array .int
  | 4 => .array .int
  | 5 => .array .int
  | 6 => .array .int
  | 7 => .array .int
  | 8 => .array .int
  | 9 => .int
  | 10 => .int
  | 11 => .int
  | 12 => .array .long
  | 13 => .array .long
  | 14 => .long
  | 15 => .long
  | 16 => .int
  | 17 => .int
  | 18 => .int
  | 19 => .int
  | 20 => .array .boolean
  | 21 => .array .int
  | 22 => .array .int
  | 23 => .int
  | 24 => .array .long
  | 25 => .array .long
  | 26 => .long
  | 27 => .array .int
  | 28 => .boolean
  | 29 => .array .long
  | _ => .long
theorem nmR : ∀ a, a < 31 → ∀ b, b < 31 → a ≠ b → (TR a).2.1 ≠ (TR b).2.1 := by decide +kernel
theorem okR : ∀ k, k < 31 → parseFieldDescriptor (TR k).2.2.1 = some (tyR k) := by decide +kernel
abbrev uR : List Cond := u_ws RR TR 31
abbrev vwCl : List vw_C := [(RK, TK, 10), (RL, TL, 7), (RX, TX, 3), (RE, TE, 3), (RT, TT, 9), (RF, TF, 12), (RR, TR, 31)]
abbrev bF_init : ByteArray := prog_1_method_1_code
def yF_init : MethodName := ⟨RF, "<init>", "()V"⟩
abbrev bT_init : ByteArray := prog_6_method_1_code
def yT_init : MethodName := ⟨RT, "<init>", "()V"⟩
abbrev bE_init : ByteArray := prog_5_method_1_code
def yE_init : MethodName := ⟨RE, "<init>", "(LFeedMixes$Told;)V"⟩
abbrev bL_init : ByteArray := prog_3_method_1_code
def yL_init : MethodName := ⟨RL, "<init>", "(LFeedMixes$Told;)V"⟩
abbrev bK_init : ByteArray := prog_2_method_1_code
def yK_init : MethodName := ⟨RK, "<init>", "(LFeedMixes$Told;LFeedMixes$Limits;)V"⟩
abbrev bX_init : ByteArray := prog_4_method_1_code
def yX_init : MethodName := ⟨RX, "<init>", "()V"⟩
abbrev bF_stuff : ByteArray := prog_1_method_2_code
def yF_stuff : MethodName := ⟨RF, "stuff", "(II)I"⟩
abbrev bF_isPrice : ByteArray := prog_1_method_20_code
def yF_isPrice : MethodName := ⟨RF, "isPrice", "(I)Z"⟩
abbrev bF_isWithin : ByteArray := prog_1_method_23_code
def yF_isWithin : MethodName := ⟨RF, "isWithin", "(III)Z"⟩
abbrev bF_isStock : ByteArray := prog_1_method_21_code
def yF_isStock : MethodName := ⟨RF, "isStock", "(I)Z"⟩
abbrev bF_price : ByteArray := prog_1_method_3_code
def yF_price : MethodName := ⟨RF, "price", "(II)I"⟩
abbrev bF_isStuff : ByteArray := prog_1_method_18_code
def yF_isStuff : MethodName := ⟨RF, "isStuff", "(I)Z"⟩
abbrev bF_stock : ByteArray := prog_1_method_4_code
def yF_stock : MethodName := ⟨RF, "stock", "(II)I"⟩
abbrev bF_holds : ByteArray := prog_1_method_5_code
def yF_holds : MethodName := ⟨RF, "holds", "(III)Z"⟩
abbrev bF_isNutrient : ByteArray := prog_1_method_19_code
def yF_isNutrient : MethodName := ⟨RF, "isNutrient", "(I)Z"⟩
abbrev bF_need : ByteArray := prog_1_method_6_code
def yF_need : MethodName := ⟨RF, "need", "(III)Z"⟩
abbrev bF_isRange : ByteArray := prog_1_method_22_code
def yF_isRange : MethodName := ⟨RF, "isRange", "(III)Z"⟩
abbrev bF_shares : ByteArray := prog_1_method_7_code
def yF_shares : MethodName := ⟨RF, "shares", "(III)Z"⟩
abbrev bF_silo : ByteArray := prog_1_method_8_code
def yF_silo : MethodName := ⟨RF, "silo", "(II)Z"⟩
abbrev bF_run : ByteArray := prog_1_method_9_code
def yF_run : MethodName := ⟨RF, "run", "(I)I"⟩
abbrev bE_findBest : ByteArray := prog_5_method_3_code
def yE_findBest : MethodName := ⟨RE, "findBest", "(ILFeedMixes$Mix;)Z"⟩
abbrev bE_begin : ByteArray := prog_5_method_2_code
def yE_begin : MethodName := ⟨RE, "begin", "(I)V"⟩
abbrev bL_keepAll : ByteArray := prog_3_method_2_code
def yL_keepAll : MethodName := ⟨RL, "keepAll", "(I)V"⟩
abbrev bL_widen : ByteArray := prog_3_method_4_code
def yL_widen : MethodName := ⟨RL, "widen", "(I)V"⟩
abbrev bL_isThere : ByteArray := prog_3_method_7_code
def yL_isThere : MethodName := ⟨RL, "isThere", "(I)Z"⟩
abbrev bF_rowOf : ByteArray := prog_1_method_25_code
def yF_rowOf : MethodName := ⟨RF, "rowOf", "(I)I"⟩
abbrev bL_keep : ByteArray := prog_3_method_5_code
def yL_keep : MethodName := ⟨RL, "keep", "(I)V"⟩
abbrev bF_isLeast : ByteArray := prog_1_method_26_code
def yF_isLeast : MethodName := ⟨RF, "isLeast", "(I)Z"⟩
abbrev bL_levelOf : ByteArray := prog_3_method_8_code
def yL_levelOf : MethodName := ⟨RL, "levelOf", "(I)I"⟩
abbrev bJM_max : ByteArray := prog_10_method_65_code
def yJM_max : MethodName := ⟨RJM, "max", "(II)I"⟩
abbrev bJM_min : ByteArray := prog_10_method_69_code
def yJM_min : MethodName := ⟨RJM, "min", "(II)I"⟩
abbrev bL_sortByPoints : ByteArray := prog_3_method_3_code
def yL_sortByPoints : MethodName := ⟨RL, "sortByPoints", "([I[I)V"⟩
abbrev bK_setSlopes : ByteArray := prog_2_method_2_code
def yK_setSlopes : MethodName := ⟨RK, "setSlopes", "()V"⟩
abbrev bK_pointsOf : ByteArray := prog_2_method_3_code
def yK_pointsOf : MethodName := ⟨RK, "pointsOf", "(II)I"⟩
abbrev bX_forget : ByteArray := prog_4_method_3_code
def yX_forget : MethodName := ⟨RX, "forget", "()V"⟩
abbrev bE_fillFromSilos : ByteArray := prog_5_method_4_code
def yE_fillFromSilos : MethodName := ⟨RE, "fillFromSilos", "(LFeedMixes$Mixer;IILFeedMixes$Mix;)V"⟩
abbrev bK_seek : ByteArray := prog_2_method_4_code
def yK_seek : MethodName := ⟨RK, "seek", "(LFeedMixes$Mix;)Z"⟩
abbrev bL_leaveRoomToStuffs : ByteArray := prog_3_method_9_code
def yL_leaveRoomToStuffs : MethodName := ⟨RL, "leaveRoomToStuffs", "()Z"⟩
abbrev bK_setPlanes : ByteArray := prog_2_method_5_code
def yK_setPlanes : MethodName := ⟨RK, "setPlanes", "()Z"⟩
abbrev bK_addPlanesOfOneAmount : ByteArray := prog_2_method_6_code
def yK_addPlanesOfOneAmount : MethodName := ⟨RK, "addPlanesOfOneAmount", "()V"⟩
abbrev bK_addPlane : ByteArray := prog_2_method_9_code
def yK_addPlane : MethodName := ⟨RK, "addPlane", "(II)V"⟩
abbrev bK_addPlanesOfStuffs : ByteArray := prog_2_method_7_code
def yK_addPlanesOfStuffs : MethodName := ⟨RK, "addPlanesOfStuffs", "()V"⟩
abbrev bK_addPlanesOfNutrients : ByteArray := prog_2_method_8_code
def yK_addPlanesOfNutrients : MethodName := ⟨RK, "addPlanesOfNutrients", "()Z"⟩
abbrev bL_extremeOf : ByteArray := prog_3_method_10_code
def yL_extremeOf : MethodName := ⟨RL, "extremeOf", "(IZ)I"⟩
abbrev bK_setCrossOf : ByteArray := prog_2_method_11_code
def yK_setCrossOf : MethodName := ⟨RK, "setCrossOf", "(II)V"⟩
abbrev bK_cross : ByteArray := prog_2_method_12_code
def yK_cross : MethodName := ⟨RK, "cross", "([I[II)J"⟩
abbrev bK_isCorner : ByteArray := prog_2_method_10_code
def yK_isCorner : MethodName := ⟨RK, "isCorner", "(III)Z"⟩
abbrev bL_allow : ByteArray := prog_3_method_11_code
def yL_allow : MethodName := ⟨RL, "allow", "(IJJ)Z"⟩
abbrev bL_allOf : ByteArray := prog_3_method_12_code
def yL_allOf : MethodName := ⟨RL, "allOf", "(ILFeedMixes$Mix;)J"⟩
abbrev bX_sum : ByteArray := prog_4_method_6_code
def yX_sum : MethodName := ⟨RX, "sum", "([I)J"⟩
abbrev bK_offer : ByteArray := prog_2_method_13_code
def yK_offer : MethodName := ⟨RK, "offer", "(LFeedMixes$Mix;)V"⟩
abbrev bX_isBetterThan : ByteArray := prog_4_method_5_code
def yX_isBetterThan : MethodName := ⟨RX, "isBetterThan", "(LFeedMixes$Mix;)Z"⟩
abbrev bJL_compare : ByteArray := prog_9_method_42_code
def yJL_compare : MethodName := ⟨RJL, "compare", "(JJ)I"⟩
abbrev bX_become : ByteArray := prog_4_method_4_code
def yX_become : MethodName := ⟨RX, "become", "(LFeedMixes$Mix;)V"⟩
abbrev bX_isNone : ByteArray := prog_4_method_2_code
def yX_isNone : MethodName := ⟨RX, "isNone", "()Z"⟩
abbrev bE_tightBounds : ByteArray := prog_5_method_7_code
def yE_tightBounds : MethodName := ⟨RE, "tightBounds", "(LFeedMixes$Mix;)I"⟩
abbrev bE_canKeepBounds : ByteArray := prog_5_method_5_code
def yE_canKeepBounds : MethodName := ⟨RE, "canKeepBounds", "(I)Z"⟩
abbrev bE_clashingBounds : ByteArray := prog_5_method_6_code
def yE_clashingBounds : MethodName := ⟨RE, "clashingBounds", "(I)I"⟩
abbrev bF_hasBound : ByteArray := prog_1_method_24_code
def yF_hasBound : MethodName := ⟨RF, "hasBound", "(II)Z"⟩
abbrev bL_leaveOut : ByteArray := prog_3_method_6_code
def yL_leaveOut : MethodName := ⟨RL, "leaveOut", "(I)Z"⟩
abbrev bF_amount : ByteArray := prog_1_method_10_code
def yF_amount : MethodName := ⟨RF, "amount", "(II)J"⟩
abbrev bF_partOf : ByteArray := prog_1_method_27_code
def yF_partOf : MethodName := ⟨RF, "partOf", "(JJI)J"⟩
abbrev bF_commonDivisor : ByteArray := prog_1_method_28_code
def yF_commonDivisor : MethodName := ⟨RF, "commonDivisor", "(JJ)J"⟩
abbrev bF_cost : ByteArray := prog_1_method_11_code
def yF_cost : MethodName := ⟨RF, "cost", "(I)J"⟩
abbrev bF_tight : ByteArray := prog_1_method_12_code
def yF_tight : MethodName := ⟨RF, "tight", "()I"⟩
abbrev bF_clash : ByteArray := prog_1_method_13_code
def yF_clash : MethodName := ⟨RF, "clash", "(I)I"⟩
abbrev bF_dearer : ByteArray := prog_1_method_14_code
def yF_dearer : MethodName := ⟨RF, "dearer", "(II)J"⟩
abbrev bF_line : ByteArray := prog_1_method_15_code
def yF_line : MethodName := ⟨RF, "line", "(I)I"⟩
abbrev bF_clean : ByteArray := prog_1_method_16_code
def yF_clean : MethodName := ⟨RF, "clean", "()I"⟩
abbrev bF_made : ByteArray := prog_1_method_17_code
def yF_made : MethodName := ⟨RF, "made", "()I"⟩
abbrev bR_init : ByteArray := prog_8_method_1_code
def yR_init : MethodName := ⟨RR, "<init>", "()V"⟩
abbrev bR_stuff : ByteArray := prog_8_method_5_code
def yR_stuff : MethodName := ⟨RR, "stuff", "(II)I"⟩
abbrev bR_in : ByteArray := prog_8_method_3_code
def yR_in : MethodName := ⟨RR, "in", "(III)Z"⟩
abbrev bR_price : ByteArray := prog_8_method_6_code
def yR_price : MethodName := ⟨RR, "price", "(II)I"⟩
abbrev bR_isStuff : ByteArray := prog_8_method_4_code
def yR_isStuff : MethodName := ⟨RR, "isStuff", "(I)Z"⟩
abbrev bR_stock : ByteArray := prog_8_method_7_code
def yR_stock : MethodName := ⟨RR, "stock", "(II)I"⟩
abbrev bR_holds : ByteArray := prog_8_method_8_code
def yR_holds : MethodName := ⟨RR, "holds", "(III)Z"⟩
abbrev bR_need : ByteArray := prog_8_method_9_code
def yR_need : MethodName := ⟨RR, "need", "(III)Z"⟩
abbrev bR_shares : ByteArray := prog_8_method_10_code
def yR_shares : MethodName := ⟨RR, "shares", "(III)Z"⟩
abbrev bR_silo : ByteArray := prog_8_method_11_code
def yR_silo : MethodName := ⟨RR, "silo", "(II)Z"⟩
abbrev bR_run : ByteArray := prog_8_method_31_code
def yR_run : MethodName := ⟨RR, "run", "(I)I"⟩
abbrev bR_countAll : ByteArray := prog_8_method_23_code
def yR_countAll : MethodName := ⟨RR, "countAll", "()V"⟩
abbrev bR_isThere : ByteArray := prog_8_method_12_code
def yR_isThere : MethodName := ⟨RR, "isThere", "(I)Z"⟩
abbrev bR_isPossible : ByteArray := prog_8_method_25_code
def yR_isPossible : MethodName := ⟨RR, "isPossible", "(I)Z"⟩
abbrev bR_freeAll : ByteArray := prog_8_method_24_code
def yR_freeAll : MethodName := ⟨RR, "freeAll", "()V"⟩
abbrev bR_corners : ByteArray := prog_8_method_22_code
def yR_corners : MethodName := ⟨RR, "corners", "(IZ)V"⟩
abbrev bR_look : ByteArray := prog_8_method_21_code
def yR_look : MethodName := ⟨RR, "look", "(I)Z"⟩
abbrev bR_solve : ByteArray := prog_8_method_18_code
def yR_solve : MethodName := ⟨RR, "solve", "(I)Z"⟩
abbrev bR_right : ByteArray := prog_8_method_14_code
def yR_right : MethodName := ⟨RR, "right", "(II)J"⟩
abbrev bR_factor : ByteArray := prog_8_method_13_code
def yR_factor : MethodName := ⟨RR, "factor", "(II)J"⟩
abbrev bR_keepsAll : ByteArray := prog_8_method_17_code
def yR_keepsAll : MethodName := ⟨RR, "keepsAll", "(I)Z"⟩
abbrev bR_over : ByteArray := prog_8_method_16_code
def yR_over : MethodName := ⟨RR, "over", "(II[JJ)J"⟩
abbrev bR_isLeast : ByteArray := prog_8_method_15_code
def yR_isLeast : MethodName := ⟨RR, "isLeast", "(I)Z"⟩
abbrev bR_isBetter : ByteArray := prog_8_method_20_code
def yR_isBetter : MethodName := ⟨RR, "isBetter", "()Z"⟩
abbrev bR_costOf : ByteArray := prog_8_method_19_code
def yR_costOf : MethodName := ⟨RR, "costOf", "([J)J"⟩
abbrev bR_mixes : ByteArray := prog_8_method_28_code
def yR_mixes : MethodName := ⟨RR, "mixes", "(I)Z"⟩
abbrev bR_most : ByteArray := prog_8_method_26_code
def yR_most : MethodName := ⟨RR, "most", "(I)I"⟩
abbrev bR_fix : ByteArray := prog_8_method_27_code
def yR_fix : MethodName := ⟨RR, "fix", "(II)V"⟩
abbrev bR_keepMix : ByteArray := prog_8_method_30_code
def yR_keepMix : MethodName := ⟨RR, "keepMix", "(I)V"⟩
abbrev bR_divisor : ByteArray := prog_8_method_29_code
def yR_divisor : MethodName := ⟨RR, "divisor", "(JJ)J"⟩
abbrev bR_amount : ByteArray := prog_8_method_32_code
def yR_amount : MethodName := ⟨RR, "amount", "(II)J"⟩
abbrev bR_cost : ByteArray := prog_8_method_33_code
def yR_cost : MethodName := ⟨RR, "cost", "(I)J"⟩
abbrev bR_tight : ByteArray := prog_8_method_34_code
def yR_tight : MethodName := ⟨RR, "tight", "()I"⟩
abbrev bR_clash : ByteArray := prog_8_method_35_code
def yR_clash : MethodName := ⟨RR, "clash", "(I)I"⟩
abbrev bR_dearer : ByteArray := prog_8_method_36_code
def yR_dearer : MethodName := ⟨RR, "dearer", "(II)J"⟩
abbrev bR_line : ByteArray := prog_8_method_37_code
def yR_line : MethodName := ⟨RR, "line", "(I)I"⟩
abbrev bR_clean : ByteArray := prog_8_method_38_code
def yR_clean : MethodName := ⟨RR, "clean", "()I"⟩
abbrev bR_made : ByteArray := prog_8_method_39_code
def yR_made : MethodName := ⟨RR, "made", "()I"⟩
/-- the words that a callee may be given: those of the tables that hold on -/
def gtb : List Cond := lw_tbl.filter goodWord
theorem gtb_in {w : Cond} {i : Nat} (h : lw_tbl[i]? = some w) (g : goodWord w = true) : w ∈ gtb := List.mem_filter.mpr ⟨List.mem_of_getElem? h, g⟩
theorem gtb_lw {w : Cond} (h : w ∈ gtb) : w ∈ lw_tbl := (List.mem_filter.mp h).1
theorem gtb_good {c : Cond} (hc : c ∈ gtb) : GoodIn gtb (c :: gtb) := fun w h => by
  have hw : w ∈ gtb := (List.mem_cons.mp h).elim (fun e => e ▸ hc) id
  exact ⟨hw, good_of_word (List.mem_filter.mp hw).2⟩
theorem gtb_goodL {c : Cond} (hc : c ∈ gtb) : GoodIn lw_tbl (c :: gtb) := fun w h => ⟨gtb_lw (gtb_good hc w h).1, (gtb_good hc w h).2⟩
theorem gtb_good1 {w : Cond} (hw : w ∈ gtb) : w ∈ gtb ∧ ((w.onTables && w.keeps) = true ∨ ∃ ty, w = .arrayClass ty) := ⟨hw, good_of_word (List.mem_filter.mp hw).2⟩
end
section
theorem laK_0 : u_lay RK TK 0 ∈ gtb := gtb_in (i := 209) (by decide +kernel) (by decide +kernel)
theorem laK_1 : u_lay RK TK 1 ∈ gtb := gtb_in (i := 211) (by decide +kernel) (by decide +kernel)
theorem laK_2 : u_lay RK TK 2 ∈ gtb := gtb_in (i := 213) (by decide +kernel) (by decide +kernel)
theorem laK_3 : u_lay RK TK 3 ∈ gtb := gtb_in (i := 215) (by decide +kernel) (by decide +kernel)
theorem laK_4 : u_lay RK TK 4 ∈ gtb := gtb_in (i := 217) (by decide +kernel) (by decide +kernel)
theorem laK_5 : u_lay RK TK 5 ∈ gtb := gtb_in (i := 219) (by decide +kernel) (by decide +kernel)
theorem laK_6 : u_lay RK TK 6 ∈ gtb := gtb_in (i := 221) (by decide +kernel) (by decide +kernel)
theorem laK_7 : u_lay RK TK 7 ∈ gtb := gtb_in (i := 223) (by decide +kernel) (by decide +kernel)
theorem laK_8 : u_lay RK TK 8 ∈ gtb := gtb_in (i := 225) (by decide +kernel) (by decide +kernel)
theorem laK_9 : u_lay RK TK 9 ∈ gtb := gtb_in (i := 227) (by decide +kernel) (by decide +kernel)
theorem inK : ∀ w ∈ uK, w ∈ gtb := by
  intro w h
  obtain ⟨k, hk, rfl⟩ := List.mem_map.mp h
  have hk := List.mem_range.mp hk
  match k, hk with
  | 0, _ => exact laK_0
  | 1, _ => exact laK_1
  | 2, _ => exact laK_2
  | 3, _ => exact laK_3
  | 4, _ => exact laK_4
  | 5, _ => exact laK_5
  | 6, _ => exact laK_6
  | 7, _ => exact laK_7
  | 8, _ => exact laK_8
  | 9, _ => exact laK_9
theorem laL_0 : u_lay RL TL 0 ∈ gtb := gtb_in (i := 152) (by decide +kernel) (by decide +kernel)
theorem laL_1 : u_lay RL TL 1 ∈ gtb := gtb_in (i := 154) (by decide +kernel) (by decide +kernel)
theorem laL_2 : u_lay RL TL 2 ∈ gtb := gtb_in (i := 156) (by decide +kernel) (by decide +kernel)
theorem laL_3 : u_lay RL TL 3 ∈ gtb := gtb_in (i := 158) (by decide +kernel) (by decide +kernel)
theorem laL_4 : u_lay RL TL 4 ∈ gtb := gtb_in (i := 160) (by decide +kernel) (by decide +kernel)
theorem laL_5 : u_lay RL TL 5 ∈ gtb := gtb_in (i := 162) (by decide +kernel) (by decide +kernel)
theorem laL_6 : u_lay RL TL 6 ∈ gtb := gtb_in (i := 164) (by decide +kernel) (by decide +kernel)
theorem inL : ∀ w ∈ uL, w ∈ gtb := by
  intro w h
  obtain ⟨k, hk, rfl⟩ := List.mem_map.mp h
  have hk := List.mem_range.mp hk
  match k, hk with
  | 0, _ => exact laL_0
  | 1, _ => exact laL_1
  | 2, _ => exact laL_2
  | 3, _ => exact laL_3
  | 4, _ => exact laL_4
  | 5, _ => exact laL_5
  | 6, _ => exact laL_6
theorem laX_0 : u_lay RX TX 0 ∈ gtb := gtb_in (i := 191) (by decide +kernel) (by decide +kernel)
theorem laX_1 : u_lay RX TX 1 ∈ gtb := gtb_in (i := 193) (by decide +kernel) (by decide +kernel)
theorem laX_2 : u_lay RX TX 2 ∈ gtb := gtb_in (i := 195) (by decide +kernel) (by decide +kernel)
theorem inX : ∀ w ∈ uX, w ∈ gtb := by
  intro w h
  obtain ⟨k, hk, rfl⟩ := List.mem_map.mp h
  have hk := List.mem_range.mp hk
  match k, hk with
  | 0, _ => exact laX_0
  | 1, _ => exact laX_1
  | 2, _ => exact laX_2
theorem laE_0 : u_lay RE TE 0 ∈ gtb := gtb_in (i := 233) (by decide +kernel) (by decide +kernel)
theorem laE_1 : u_lay RE TE 1 ∈ gtb := gtb_in (i := 235) (by decide +kernel) (by decide +kernel)
theorem laE_2 : u_lay RE TE 2 ∈ gtb := gtb_in (i := 237) (by decide +kernel) (by decide +kernel)
theorem inE : ∀ w ∈ uE, w ∈ gtb := by
  intro w h
  obtain ⟨k, hk, rfl⟩ := List.mem_map.mp h
  have hk := List.mem_range.mp hk
  match k, hk with
  | 0, _ => exact laE_0
  | 1, _ => exact laE_1
  | 2, _ => exact laE_2
theorem laT_0 : u_lay RT TT 0 ∈ gtb := gtb_in (i := 105) (by decide +kernel) (by decide +kernel)
theorem laT_1 : u_lay RT TT 1 ∈ gtb := gtb_in (i := 107) (by decide +kernel) (by decide +kernel)
theorem laT_2 : u_lay RT TT 2 ∈ gtb := gtb_in (i := 109) (by decide +kernel) (by decide +kernel)
theorem laT_3 : u_lay RT TT 3 ∈ gtb := gtb_in (i := 111) (by decide +kernel) (by decide +kernel)
theorem laT_4 : u_lay RT TT 4 ∈ gtb := gtb_in (i := 113) (by decide +kernel) (by decide +kernel)
theorem laT_5 : u_lay RT TT 5 ∈ gtb := gtb_in (i := 115) (by decide +kernel) (by decide +kernel)
theorem laT_6 : u_lay RT TT 6 ∈ gtb := gtb_in (i := 117) (by decide +kernel) (by decide +kernel)
theorem laT_7 : u_lay RT TT 7 ∈ gtb := gtb_in (i := 119) (by decide +kernel) (by decide +kernel)
theorem laT_8 : u_lay RT TT 8 ∈ gtb := gtb_in (i := 121) (by decide +kernel) (by decide +kernel)
theorem inT : ∀ w ∈ uT, w ∈ gtb := by
  intro w h
  obtain ⟨k, hk, rfl⟩ := List.mem_map.mp h
  have hk := List.mem_range.mp hk
  match k, hk with
  | 0, _ => exact laT_0
  | 1, _ => exact laT_1
  | 2, _ => exact laT_2
  | 3, _ => exact laT_3
  | 4, _ => exact laT_4
  | 5, _ => exact laT_5
  | 6, _ => exact laT_6
  | 7, _ => exact laT_7
  | 8, _ => exact laT_8
theorem laF_0 : u_lay RF TF 0 ∈ gtb := gtb_in (i := 254) (by decide +kernel) (by decide +kernel)
theorem laF_1 : u_lay RF TF 1 ∈ gtb := gtb_in (i := 256) (by decide +kernel) (by decide +kernel)
theorem laF_2 : u_lay RF TF 2 ∈ gtb := gtb_in (i := 258) (by decide +kernel) (by decide +kernel)
theorem laF_3 : u_lay RF TF 3 ∈ gtb := gtb_in (i := 260) (by decide +kernel) (by decide +kernel)
theorem laF_4 : u_lay RF TF 4 ∈ gtb := gtb_in (i := 262) (by decide +kernel) (by decide +kernel)
theorem laF_5 : u_lay RF TF 5 ∈ gtb := gtb_in (i := 264) (by decide +kernel) (by decide +kernel)
theorem laF_6 : u_lay RF TF 6 ∈ gtb := gtb_in (i := 266) (by decide +kernel) (by decide +kernel)
theorem laF_7 : u_lay RF TF 7 ∈ gtb := gtb_in (i := 268) (by decide +kernel) (by decide +kernel)
theorem laF_8 : u_lay RF TF 8 ∈ gtb := gtb_in (i := 270) (by decide +kernel) (by decide +kernel)
theorem laF_9 : u_lay RF TF 9 ∈ gtb := gtb_in (i := 272) (by decide +kernel) (by decide +kernel)
theorem laF_10 : u_lay RF TF 10 ∈ gtb := gtb_in (i := 274) (by decide +kernel) (by decide +kernel)
theorem laF_11 : u_lay RF TF 11 ∈ gtb := gtb_in (i := 276) (by decide +kernel) (by decide +kernel)
theorem inF : ∀ w ∈ uF, w ∈ gtb := by
  intro w h
  obtain ⟨k, hk, rfl⟩ := List.mem_map.mp h
  have hk := List.mem_range.mp hk
  match k, hk with
  | 0, _ => exact laF_0
  | 1, _ => exact laF_1
  | 2, _ => exact laF_2
  | 3, _ => exact laF_3
  | 4, _ => exact laF_4
  | 5, _ => exact laF_5
  | 6, _ => exact laF_6
  | 7, _ => exact laF_7
  | 8, _ => exact laF_8
  | 9, _ => exact laF_9
  | 10, _ => exact laF_10
  | 11, _ => exact laF_11
theorem laR_0 : u_lay RR TR 0 ∈ gtb := gtb_in (i := 566) (by decide +kernel) (by decide +kernel)
theorem laR_1 : u_lay RR TR 1 ∈ gtb := gtb_in (i := 568) (by decide +kernel) (by decide +kernel)
theorem laR_2 : u_lay RR TR 2 ∈ gtb := gtb_in (i := 570) (by decide +kernel) (by decide +kernel)
theorem laR_3 : u_lay RR TR 3 ∈ gtb := gtb_in (i := 572) (by decide +kernel) (by decide +kernel)
theorem laR_4 : u_lay RR TR 4 ∈ gtb := gtb_in (i := 574) (by decide +kernel) (by decide +kernel)
theorem laR_5 : u_lay RR TR 5 ∈ gtb := gtb_in (i := 576) (by decide +kernel) (by decide +kernel)
theorem laR_6 : u_lay RR TR 6 ∈ gtb := gtb_in (i := 578) (by decide +kernel) (by decide +kernel)
theorem laR_7 : u_lay RR TR 7 ∈ gtb := gtb_in (i := 580) (by decide +kernel) (by decide +kernel)
theorem laR_8 : u_lay RR TR 8 ∈ gtb := gtb_in (i := 582) (by decide +kernel) (by decide +kernel)
theorem laR_9 : u_lay RR TR 9 ∈ gtb := gtb_in (i := 584) (by decide +kernel) (by decide +kernel)
theorem laR_10 : u_lay RR TR 10 ∈ gtb := gtb_in (i := 586) (by decide +kernel) (by decide +kernel)
theorem laR_11 : u_lay RR TR 11 ∈ gtb := gtb_in (i := 588) (by decide +kernel) (by decide +kernel)
theorem laR_12 : u_lay RR TR 12 ∈ gtb := gtb_in (i := 590) (by decide +kernel) (by decide +kernel)
theorem laR_13 : u_lay RR TR 13 ∈ gtb := gtb_in (i := 592) (by decide +kernel) (by decide +kernel)
theorem laR_14 : u_lay RR TR 14 ∈ gtb := gtb_in (i := 594) (by decide +kernel) (by decide +kernel)
theorem laR_15 : u_lay RR TR 15 ∈ gtb := gtb_in (i := 596) (by decide +kernel) (by decide +kernel)
theorem laR_16 : u_lay RR TR 16 ∈ gtb := gtb_in (i := 598) (by decide +kernel) (by decide +kernel)
theorem laR_17 : u_lay RR TR 17 ∈ gtb := gtb_in (i := 600) (by decide +kernel) (by decide +kernel)
theorem laR_18 : u_lay RR TR 18 ∈ gtb := gtb_in (i := 602) (by decide +kernel) (by decide +kernel)
theorem laR_19 : u_lay RR TR 19 ∈ gtb := gtb_in (i := 604) (by decide +kernel) (by decide +kernel)
theorem laR_20 : u_lay RR TR 20 ∈ gtb := gtb_in (i := 606) (by decide +kernel) (by decide +kernel)
theorem laR_21 : u_lay RR TR 21 ∈ gtb := gtb_in (i := 608) (by decide +kernel) (by decide +kernel)
theorem laR_22 : u_lay RR TR 22 ∈ gtb := gtb_in (i := 610) (by decide +kernel) (by decide +kernel)
theorem laR_23 : u_lay RR TR 23 ∈ gtb := gtb_in (i := 612) (by decide +kernel) (by decide +kernel)
theorem laR_24 : u_lay RR TR 24 ∈ gtb := gtb_in (i := 614) (by decide +kernel) (by decide +kernel)
theorem laR_25 : u_lay RR TR 25 ∈ gtb := gtb_in (i := 616) (by decide +kernel) (by decide +kernel)
theorem laR_26 : u_lay RR TR 26 ∈ gtb := gtb_in (i := 618) (by decide +kernel) (by decide +kernel)
theorem laR_27 : u_lay RR TR 27 ∈ gtb := gtb_in (i := 620) (by decide +kernel) (by decide +kernel)
theorem laR_28 : u_lay RR TR 28 ∈ gtb := gtb_in (i := 622) (by decide +kernel) (by decide +kernel)
theorem laR_29 : u_lay RR TR 29 ∈ gtb := gtb_in (i := 624) (by decide +kernel) (by decide +kernel)
theorem laR_30 : u_lay RR TR 30 ∈ gtb := gtb_in (i := 626) (by decide +kernel) (by decide +kernel)
theorem inR : ∀ w ∈ uR, w ∈ gtb := by
  intro w h
  obtain ⟨k, hk, rfl⟩ := List.mem_map.mp h
  have hk := List.mem_range.mp hk
  match k, hk with
  | 0, _ => exact laR_0
  | 1, _ => exact laR_1
  | 2, _ => exact laR_2
  | 3, _ => exact laR_3
  | 4, _ => exact laR_4
  | 5, _ => exact laR_5
  | 6, _ => exact laR_6
  | 7, _ => exact laR_7
  | 8, _ => exact laR_8
  | 9, _ => exact laR_9
  | 10, _ => exact laR_10
  | 11, _ => exact laR_11
  | 12, _ => exact laR_12
  | 13, _ => exact laR_13
  | 14, _ => exact laR_14
  | 15, _ => exact laR_15
  | 16, _ => exact laR_16
  | 17, _ => exact laR_17
  | 18, _ => exact laR_18
  | 19, _ => exact laR_19
  | 20, _ => exact laR_20
  | 21, _ => exact laR_21
  | 22, _ => exact laR_22
  | 23, _ => exact laR_23
  | 24, _ => exact laR_24
  | 25, _ => exact laR_25
  | 26, _ => exact laR_26
  | 27, _ => exact laR_27
  | 28, _ => exact laR_28
  | 29, _ => exact laR_29
  | 30, _ => exact laR_30
  | k + 31, h => exact absurd h (by omega)
end
section
/-! What models are made of, and the rows by which a walk follows a model. -/
abbrev SI : Type := Nat → Nat → Int32
abbrev SJ : Type := Nat → Nat → Int64
/-- a number gets a name -/
def nm {α β : Type} (e : α) (f : α → β) : β := f e
/-- a check: if it fails there is no model -/
def gd {α : Type} (c : Prop) [Decidable c] (x : Option α) : Option α := if c then x else none
/-- a call -/
def cl3 {α β : Type} (x : Option (α × SI × SJ)) (f : α → SI → SJ → Option β) : Option β := match x with
  | some (r, I, J) => f r I J
  | none => none
def cl2 {β : Type} (x : Option (SI × SJ)) (f : SI → SJ → Option β) : Option β := match x with
  | some (I, J) => f I J
  | none => none
def cl1 {α β : Type} (x : Option α) (f : α → Option β) : Option β := match x with
  | some r => f r
  | none => none
theorem nm_to {α β : Type} {e v : α} {f : α → β} {r : β} (h : v = e) (hm : nm e f = r) : f v = r := by subst h; exact hm
theorem gd_to {α : Type} {c : Prop} [Decidable c] {x : Option α} {r : α} (h : gd c x = some r) : c ∧ x = some r := by
  unfold gd at h
  split at h
  · exact ⟨by assumption, h⟩
  · cases h
theorem gd_of {α : Type} {c : Prop} [Decidable c] {x : Option α} (h : c) : gd c x = x := if_pos h
theorem cl3_to {α β : Type} {x : Option (α × SI × SJ)} {f : α → SI → SJ → Option β} {r : β} (h : cl3 x f = some r) : ∃ a I J, x = some (a, I, J) ∧ f a I J = some r := by
  match x, h with
  | some (a, I, J), h => exact ⟨a, I, J, rfl, h⟩
theorem cl2_to {β : Type} {x : Option (SI × SJ)} {f : SI → SJ → Option β} {r : β} (h : cl2 x f = some r) : ∃ I J, x = some (I, J) ∧ f I J = some r := by
  match x, h with
  | some (I, J), h => exact ⟨I, J, rfl, h⟩
theorem cl1_to {α β : Type} {x : Option α} {f : α → Option β} {r : β} (h : cl1 x f = some r) : ∃ a, x = some a ∧ f a = some r := by
  match x, h with
  | some a, h => exact ⟨a, rfl, h⟩
theorem brp {α : Type} {c : Prop} [Decidable c] {a b r : α} (h : (if c then a else b) = r) (hc : c) : a = r := by rw [if_pos hc] at h; exact h
theorem brn {α : Type} {c : Prop} [Decidable c] {a b r : α} (h : (if c then a else b) = r) (hc : ¬ c) : b = r := by rw [if_neg hc] at h; exact h
theorem vp_lt {i : Int32} {n : Nat} (h : vp_in i n) : i.toNatClampNeg < n := Nat.not_le.mp fun q => h (Or.inr q)
theorem P_eq {D : va_G} {cl : List vw_C} {ws ws2 : va_W} {H : Heap} (h : va_P D cl ws H) (e : ws = ws2) : va_P D cl ws2 H := e ▸ h
theorem D_eq {A : Nat → Prop} {ws ws2 : va_W} (h : va_D A ws) (e : ws = ws2) : va_D A ws2 := e ▸ h
/-- the words of nest mates: they hold on, but not by goodWord -/
def isNs : Cond → Bool
  | .fieldLinkNest .. => true
  | .methodLinkNest .. => true
  | _ => false
def nwt : List Cond := lw_tbl.filter isNs
theorem nwt_in {w : Cond} {i : Nat} (h : lw_tbl[i]? = some w) (g : isNs w = true) : w ∈ nwt := List.mem_filter.mpr ⟨List.mem_of_getElem? h, g⟩
def NWs (U : State) : Prop := ∀ w ∈ nwt, va_Nw w U
theorem NWs.warm {s U : State} (hW : s.WarmedH U.vm) (h : NWs s) : NWs U := fun w hw => by
  have hi := (List.mem_filter.mp hw).2
  cases w with
  | fieldLinkNest => exact va_Nw.warmF hW (h _ hw)
  | methodLinkNest => exact va_Nw.warmM hW (h _ hw)
  | _ => cases hi
theorem NWs.same {u U : State} (e : u.vm = U.vm) (h : NWs u) : NWs U := fun w hw => by
  have hi := (List.mem_filter.mp hw).2
  cases w with
  | fieldLinkNest => exact va_Nw.same rfl e (h _ hw)
  | methodLinkNest => exact va_Nw.same rfl e (h _ hw)
  | _ => cases hi
theorem NWs.of {args : Array Value} {s : State} (h : ∀ w ∈ lw_tbl, w.before args s = true) : NWs s := fun w hw => by
  have hi := (List.mem_filter.mp hw).2
  have hb := h w (List.mem_filter.mp hw).1
  cases w with
  | fieldLinkNest => exact va_Nw.of rfl hb
  | methodLinkNest => exact va_Nw.of rfl hb
  | _ => cases hi
theorem gV {own : String} {idx : Nat} {C : String} {y : MethodName} {c : Cond} (h1 : .methodLink own idx y ∈ gtb) (h2 : .instanceMethod y ∈ gtb) (h3 : .selects C y y ∈ gtb) (h4 : .initialized C ∈ gtb) (h5 : c ∈ gtb) : GoodIn gtb (wsV own idx C y (c :: gtb)) := fun w h => by
  rcases List.mem_append.mp h with h | h
  · simp only [List.mem_cons, List.not_mem_nil, or_false] at h
    rcases h with rfl | rfl | rfl | rfl
    · exact gtb_good1 h1
    · exact gtb_good1 h2
    · exact gtb_good1 h3
    · exact gtb_good1 h4
  · exact gtb_good h5 w h
theorem gS {own : String} {idx : Nat} {y : MethodName} {c : Cond} (h1 : .methodLink own idx y ∈ gtb) (h2 : .static y ∈ gtb) (h3 : .initialized y.cls ∈ gtb) (h5 : c ∈ gtb) : GoodIn gtb (va_wsS own idx y (c :: gtb)) := fun w h => by
  rcases List.mem_append.mp h with h | h
  · simp only [List.mem_cons, List.not_mem_nil, or_false] at h
    rcases h with rfl | rfl | rfl
    · exact gtb_good1 h1
    · exact gtb_good1 h2
    · exact gtb_good1 h3
  · exact gtb_good h5 w h
theorem pf_I : parseFieldDescriptor "I" = some .int := by decide +kernel
theorem pf_J : parseFieldDescriptor "J" = some .long := by decide +kernel
theorem pf_Z : parseFieldDescriptor "Z" = some .boolean := by decide +kernel
/-- what a method's walk is begun with -/
def Cx (p : Program) (s : State) (m : MethodId) (args : Array Value) (meth : Method) (c : Code) (cc : ByteArray) (ret : Option FieldType) (nL : Nat) (own : String) : Prop :=
  p.tables.exec = Jvm.exec ∧ c.code = cc ∧ meth.sig.returnType = ret ∧ c.maxLocals = nL ∧ s.vm.findClass own = some m.cls ∧ (∀ w ∈ gtb, w.before args s = true) ∧ meth.locks = false
/-- the walk from a place in the code, over a world -/
def WB (p : Program) (l : Launch) (e : Env) (R : Room) (s : State) (m : MethodId) (args : Array Value) (below : List Frame) (meth : Method) (c : Code) (Q : State → Prop) (D : va_G) (cl : List vw_C) (A : Nat → Prop) (nL : Nat) (ws : va_W) (pc : Nat) (lv : List (Nat × Value)) (st : List Value) : Prop :=
  ∀ (H : Heap) (locs : List Loc) (ls : Array Slot), va_P D cl ws H → va_D A ws → va_S A s.heap H locs → lv_has ls nL lv → W p l e R s m args below meth c H locs 0 0 Q (F0 m pc ls st)
/-- the same of a method that touches no cell -/
def WZ (p : Program) (l : Launch) (e : Env) (R : Room) (s : State) (m : MethodId) (args : Array Value) (below : List Frame) (meth : Method) (c : Code) (Q : State → Prop) (nL : Nat) (pc : Nat) (lv : List (Nat × Value)) (st : List Value) : Prop :=
  ∀ (H : Heap) (locs : List Loc) (ls : Array Slot), va_S (fun _ => False) s.heap H locs → lv_has ls nL lv → W p l e R s m args below meth c H locs 0 0 Q (F0 m pc ls st)
abbrev atW (D : va_G) (cl : List vw_C) (tys : List (ClassId × FieldType)) (A : Nat → Prop) (wf : SI → SJ → va_W) (u : SI × SJ) (t : State) : Prop := va_P D cl (wf u.1 u.2) t.heap ∧ va_K D cl tys t ∧ va_D A (wf u.1 u.2)
abbrev preW (D : va_G) (cl : List vw_C) (tys : List (ClassId × FieldType)) (ws : va_W) (sz : Nat) (U : State) : Prop := U.heap.size = sz ∧ va_P D cl ws U.heap ∧ va_K D cl tys U ∧ va_D (fun _ => True) ws ∧ NWs U
theorem preW_fb {D : va_G} {cl : List vw_C} {tys : List (ClassId × FieldType)} {ws : va_W} {sz : Nat} {av : List Value} : FrameBlind (va_Pc av (preW D cl tys ws sz)) := fun a U g mk q => by
  obtain ⟨q0, q1, qP, qK, qD, qN⟩ := q
  exact ⟨q0, q1, qP, va_K.moved (u := U) (U := U.calling g mk a) (Vm.Alike.refl U.vm) qK, qD, NWs.same (u := U) rfl qN⟩
theorem preW_at {s : State} {H : Heap} {D : va_G} {cl : List vw_C} {tys : List (ClassId × FieldType)} {ws : va_W} {A : Nat → Prop} {av : List Value} (hP : va_P D cl ws H) (hK : va_K D cl tys s) (hN : NWs s) (hD : va_D A ws) : ∀ U : State, U.heap = H → s.WarmedH U.vm → va_Pc av (preW D cl tys ws H.size) av.toArray U :=
  fun U hU hW => ⟨rfl, by rw [hU], by rw [hU]; exact hP, va_K.moved hW.alike hK, hD.weaken (fun _ _ _ _ => trivial), NWs.warm hW hN⟩
theorem preZ_fb {av : List Value} : FrameBlind (va_Pc av (fun _ => True)) := fun _ _ _ _ q => q
theorem preZ_at {s : State} {H : Heap} {av : List Value} : ∀ U : State, U.heap = H → s.WarmedH U.vm → va_Pc av (fun _ => True) av.toArray U := fun _ _ _ => ⟨rfl, trivial⟩
theorem keptP {D : va_G} {cl : List vw_C} {ws : va_W} {H H1 : Heap} (hP : va_P D cl ws H) (hq : ∀ q : Nat, q < H.size → H1[q]? = H[q]?) : va_P D cl ws H1 := hP.kept fun k q hk => hq q.1 ((hP k q hk).lt)
theorem inA {A : Nat → Prop} {ws : va_W} {H0 H : Heap} {locs : List Loc} (hD : va_D A ws) (hS : va_S A H0 H locs) (hA : ∀ q, H0.size ≤ q → A q) : ∀ q, va_A ws H.size q → A q := by
  intro q h
  rcases h with ⟨k, e, h⟩ | h
  · exact hD.2 k (q, e) h
  · exact hA q (Nat.le_trans hS.1 h)
section PST
variable {p : Program} {l : Launch} {e : Env} {R : Room} {s : State} {m : MethodId} {args : Array Value} {below : List Frame} {meth : Method} {c : Code} {H : Heap} {locs : List Loc} {Q : State → Prop}
variable {pc : Nat} {ls : Array Slot} {rest st0 : List Value} {a : Array Value} {A : Nat → Prop} {D : va_G} {cl : List vw_C} {tys : List (ClassId × FieldType)} {wf : SI → SJ → va_W} {I I1 : SI} {J J1 : SJ}
theorem pst_i {r1 : Int32} (hD : va_D A (wf I J)) (hS : va_S A s.heap H locs) (hA : ∀ q, s.heap.size ≤ q → A q) (hr : va_Run p l e R s m args below meth c H locs 0 0 0 0 (F0 m pc ls st0) rest (va_Qi (fun (r : Int32) (u : SI × SJ) => (r, u) = (r1, I1, J1)) (atW D cl tys (va_A (wf I J) H.size) wf) (va_A (wf I J) H.size) a) (va_A (wf I J) H.size))
    (kk : ∀ (H1 : Heap) (locs1 : List Loc), va_P D cl (wf I1 J1) H1 → va_D A (wf I1 J1) → va_S A s.heap H1 locs1 → W p l e R s m args below meth c H1 locs1 0 0 Q (F0 m (pc + 3) ls (.int r1 :: rest))) : W p l e R s m args below meth c H locs 0 0 Q (F0 m pc ls st0) :=
  va_calli hr hS (fun q _ h => inA hD hS hA q h) (inA hD hS hA) (fun r u t H1 locs1 ht hvm hw hB hz hk hS1 => by
    cases hw
    exact kk H1 locs1 (ht ▸ hB.1) (hB.2.2.weaken (fun _ q _ h => inA hD hS hA q.1 h)) hS1)
theorem pst_l {r1 : Int64} (hD : va_D A (wf I J)) (hS : va_S A s.heap H locs) (hA : ∀ q, s.heap.size ≤ q → A q) (hr : va_Run p l e R s m args below meth c H locs 0 0 0 0 (F0 m pc ls st0) rest (va_Ql (fun (r : Int64) (u : SI × SJ) => (r, u) = (r1, I1, J1)) (atW D cl tys (va_A (wf I J) H.size) wf) (va_A (wf I J) H.size) a) (va_A (wf I J) H.size))
    (kk : ∀ (H1 : Heap) (locs1 : List Loc), va_P D cl (wf I1 J1) H1 → va_D A (wf I1 J1) → va_S A s.heap H1 locs1 → W p l e R s m args below meth c H1 locs1 0 0 Q (F0 m (pc + 3) ls (.long r1 :: rest))) : W p l e R s m args below meth c H locs 0 0 Q (F0 m pc ls st0) :=
  va_calll hr hS (fun q _ h => inA hD hS hA q h) (inA hD hS hA) (fun r u t H1 locs1 ht hvm hw hB hz hk hS1 => by
    cases hw
    exact kk H1 locs1 (ht ▸ hB.1) (hB.2.2.weaken (fun _ q _ h => inA hD hS hA q.1 h)) hS1)
theorem pst_v (hD : va_D A (wf I J)) (hS : va_S A s.heap H locs) (hA : ∀ q, s.heap.size ≤ q → A q) (hr : va_Run p l e R s m args below meth c H locs 0 0 0 0 (F0 m pc ls st0) rest (va_Qv (fun (u : SI × SJ) => u = (I1, J1)) (atW D cl tys (va_A (wf I J) H.size) wf) (va_A (wf I J) H.size) a) (va_A (wf I J) H.size))
    (kk : ∀ (H1 : Heap) (locs1 : List Loc), va_P D cl (wf I1 J1) H1 → va_D A (wf I1 J1) → va_S A s.heap H1 locs1 → W p l e R s m args below meth c H1 locs1 0 0 Q (F0 m (pc + 3) ls rest)) : W p l e R s m args below meth c H locs 0 0 Q (F0 m pc ls st0) :=
  va_callv hr hS (fun q _ h => inA hD hS hA q h) (inA hD hS hA) (fun u t H1 locs1 ht hvm hw hB hz hk hS1 => by
    cases hw
    exact kk H1 locs1 (ht ▸ hB.1) (hB.2.2.weaken (fun _ q _ h => inA hD hS hA q.1 h)) hS1)
theorem pstZ_i {r1 : Int32} (hS : va_S A s.heap H locs) (hr : va_Run p l e R s m args below meth c H locs 0 0 0 0 (F0 m pc ls st0) rest (va_Qi (fun (r : Int32) (_ : Unit) => r = r1) (fun _ _ => True) (fun _ => False) a) (fun _ => False))
    (kk : ∀ (H1 : Heap) (locs1 : List Loc), (∀ q : Nat, q < H.size → H1[q]? = H[q]?) → va_S A s.heap H1 locs1 → W p l e R s m args below meth c H1 locs1 0 0 Q (F0 m (pc + 3) ls (.int r1 :: rest))) : W p l e R s m args below meth c H locs 0 0 Q (F0 m pc ls st0) :=
  va_calli hr hS (fun _ _ h => h.elim) (fun _ h => h.elim) (fun r u t H1 locs1 ht hvm hw hB hz hk hS1 => by
    cases hw
    exact kk H1 locs1 (fun q hq => hk q hq (fun h => h)) hS1)
theorem pstZ_l {r1 : Int64} (hS : va_S A s.heap H locs) (hr : va_Run p l e R s m args below meth c H locs 0 0 0 0 (F0 m pc ls st0) rest (va_Ql (fun (r : Int64) (_ : Unit) => r = r1) (fun _ _ => True) (fun _ => False) a) (fun _ => False))
    (kk : ∀ (H1 : Heap) (locs1 : List Loc), (∀ q : Nat, q < H.size → H1[q]? = H[q]?) → va_S A s.heap H1 locs1 → W p l e R s m args below meth c H1 locs1 0 0 Q (F0 m (pc + 3) ls (.long r1 :: rest))) : W p l e R s m args below meth c H locs 0 0 Q (F0 m pc ls st0) :=
  va_calll hr hS (fun _ _ h => h.elim) (fun _ h => h.elim) (fun r u t H1 locs1 ht hvm hw hB hz hk hS1 => by
    cases hw
    exact kk H1 locs1 (fun q hq => hk q hq (fun h => h)) hS1)
end PST
section GRD
variable {p : Program} {l : Launch} {e : Env} {R : Room} {s : State} {m : MethodId} {args : Array Value} {below : List Frame} {meth : Method} {c : Code} {H : Heap} {locs : List Loc} {cells slots : Nat} {Q : State → Prop}
variable {cc : ByteArray} {pc : Nat} {ls : Array Slot} {rest : List Value} {D : va_G} {cl : List vw_C} {a : Nat} {tys : List (ClassId × FieldType)} {ws : va_W}
/-- a row of an array of arrays -/
theorem va_aldG (hexec : p.tables.exec = Jvm.exec) (hb : c.code = cc) (hK : va_K D cl tys s) (hP : va_P D cl ws H) (q0 t0 : Nat) {cA : ClassId} {ty : FieldType} {n r : Nat} {f : Nat → Option Nat} (ha : ws[q0]? = some (a, .inl (cA, n, .inr (.inr (.inr (.inr f)))))) (ht : tys[t0]? = some (cA, ty)) (hty : ty.isReference = true) {i : Int32} (hin : vp_in i n) (hf : f i.toNatClampNeg = some r) (hdg : decode cc pc = .ok (.aaload, 1))
    (kk : W p l e R s m args below meth c H locs cells slots Q (F0 m (pc + 1) ls (.ref r :: rest))) : W p l e R s m args below meth c H locs cells slots Q (F0 m pc ls (.int i :: .ref a :: rest)) := by
  have hlt : i.toNatClampNeg < n := Nat.not_le.mp fun q => hin (Or.inr q)
  exact W.aald (v := va_rf (f i.toNatClampNeg)) (ty := ty) hexec hb (hP q0 _ ha) ((hK.2 t0 _ ht).1 n (fun j => va_rf (f j))) hty (fun q => by cases q) (by show ¬ (i < 0 ∨ (arrV _ _ _).slots.size ≤ _); rw [arrV_size]; exact hin) (by show (arrV _ _ _).slots[_]? = _; rw [arrV_read _ _ hlt]) rfl rfl hdg (by rw [hf]; exact kk)
end GRD
end
