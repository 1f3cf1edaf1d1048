section
-- ===== PART A: goes FIRST, ahead of the names: the tables' words, and 'selects' of the private methods out of them =====
/-- a private method of a class that the tables say can be made, by its rows of tables_1 -/
def lw_okq (q : MethodName × Nat) : Prop := (q.1.cls ≠ "java/lang/invoke/MethodHandle" ∧ q.1.cls ≠ "java/lang/invoke/VarHandle") ∧ Cond.instantiable q.1.cls q.2 ∈ tables_1 ∧ Cond.privateMethod q.1 ∈ tables_1 ∧ Cond.instanceMethod q.1 ∈ tables_1
theorem lw_p0 : lw_okq (⟨"FeedMixes", "isStuff", "(I)Z"⟩, 12) := ⟨⟨by decide +kernel, by decide +kernel⟩, List.mem_of_getElem? (i := 11) (by decide +kernel), List.mem_of_getElem? (i := 247) (by decide +kernel), List.mem_of_getElem? (i := 248) (by decide +kernel)⟩
theorem lw_p1 : lw_okq (⟨"FeedMixes$Mixer", "findBest", "(ILFeedMixes$Mix;)Z"⟩, 3) := ⟨⟨by decide +kernel, by decide +kernel⟩, List.mem_of_getElem? (i := 76) (by decide +kernel), List.mem_of_getElem? (i := 281) (by decide +kernel), List.mem_of_getElem? (i := 282) (by decide +kernel)⟩
theorem lw_p2 : lw_okq (⟨"FeedMixes$Mixer", "begin", "(I)V"⟩, 3) := ⟨⟨by decide +kernel, by decide +kernel⟩, List.mem_of_getElem? (i := 76) (by decide +kernel), List.mem_of_getElem? (i := 285) (by decide +kernel), List.mem_of_getElem? (i := 286) (by decide +kernel)⟩
theorem lw_p3 : lw_okq (⟨"FeedMixes$Limits", "keepAll", "(I)V"⟩, 7) := ⟨⟨by decide +kernel, by decide +kernel⟩, List.mem_of_getElem? (i := 82) (by decide +kernel), List.mem_of_getElem? (i := 289) (by decide +kernel), List.mem_of_getElem? (i := 290) (by decide +kernel)⟩
theorem lw_p4 : lw_okq (⟨"FeedMixes$Limits", "widen", "(I)V"⟩, 7) := ⟨⟨by decide +kernel, by decide +kernel⟩, List.mem_of_getElem? (i := 82) (by decide +kernel), List.mem_of_getElem? (i := 293) (by decide +kernel), List.mem_of_getElem? (i := 294) (by decide +kernel)⟩
theorem lw_p5 : lw_okq (⟨"FeedMixes$Limits", "isThere", "(I)Z"⟩, 7) := ⟨⟨by decide +kernel, by decide +kernel⟩, List.mem_of_getElem? (i := 82) (by decide +kernel), List.mem_of_getElem? (i := 297) (by decide +kernel), List.mem_of_getElem? (i := 298) (by decide +kernel)⟩
theorem lw_p6 : lw_okq (⟨"FeedMixes$Limits", "keep", "(I)V"⟩, 7) := ⟨⟨by decide +kernel, by decide +kernel⟩, List.mem_of_getElem? (i := 82) (by decide +kernel), List.mem_of_getElem? (i := 304) (by decide +kernel), List.mem_of_getElem? (i := 305) (by decide +kernel)⟩
theorem lw_p7 : lw_okq (⟨"FeedMixes$Limits", "levelOf", "(I)I"⟩, 7) := ⟨⟨by decide +kernel, by decide +kernel⟩, List.mem_of_getElem? (i := 82) (by decide +kernel), List.mem_of_getElem? (i := 311) (by decide +kernel), List.mem_of_getElem? (i := 312) (by decide +kernel)⟩
theorem lw_p8 : lw_okq (⟨"FeedMixes$Corners", "setSlopes", "()V"⟩, 10) := ⟨⟨by decide +kernel, by decide +kernel⟩, List.mem_of_getElem? (i := 118) (by decide +kernel), List.mem_of_getElem? (i := 324) (by decide +kernel), List.mem_of_getElem? (i := 325) (by decide +kernel)⟩
theorem lw_p9 : lw_okq (⟨"FeedMixes$Corners", "pointsOf", "(II)I"⟩, 10) := ⟨⟨by decide +kernel, by decide +kernel⟩, List.mem_of_getElem? (i := 118) (by decide +kernel), List.mem_of_getElem? (i := 328) (by decide +kernel), List.mem_of_getElem? (i := 329) (by decide +kernel)⟩
theorem lw_p10 : lw_okq (⟨"FeedMixes$Mix", "forget", "()V"⟩, 3) := ⟨⟨by decide +kernel, by decide +kernel⟩, List.mem_of_getElem? (i := 125) (by decide +kernel), List.mem_of_getElem? (i := 332) (by decide +kernel), List.mem_of_getElem? (i := 333) (by decide +kernel)⟩
theorem lw_p11 : lw_okq (⟨"FeedMixes$Corners", "seek", "(LFeedMixes$Mix;)Z"⟩, 10) := ⟨⟨by decide +kernel, by decide +kernel⟩, List.mem_of_getElem? (i := 118) (by decide +kernel), List.mem_of_getElem? (i := 339) (by decide +kernel), List.mem_of_getElem? (i := 340) (by decide +kernel)⟩
theorem lw_p12 : lw_okq (⟨"FeedMixes$Limits", "leaveRoomToStuffs", "()Z"⟩, 7) := ⟨⟨by decide +kernel, by decide +kernel⟩, List.mem_of_getElem? (i := 82) (by decide +kernel), List.mem_of_getElem? (i := 343) (by decide +kernel), List.mem_of_getElem? (i := 344) (by decide +kernel)⟩
theorem lw_p13 : lw_okq (⟨"FeedMixes$Corners", "setPlanes", "()Z"⟩, 10) := ⟨⟨by decide +kernel, by decide +kernel⟩, List.mem_of_getElem? (i := 118) (by decide +kernel), List.mem_of_getElem? (i := 347) (by decide +kernel), List.mem_of_getElem? (i := 348) (by decide +kernel)⟩
theorem lw_p14 : lw_okq (⟨"FeedMixes$Corners", "addPlanesOfOneAmount", "()V"⟩, 10) := ⟨⟨by decide +kernel, by decide +kernel⟩, List.mem_of_getElem? (i := 118) (by decide +kernel), List.mem_of_getElem? (i := 351) (by decide +kernel), List.mem_of_getElem? (i := 352) (by decide +kernel)⟩
theorem lw_p15 : lw_okq (⟨"FeedMixes$Corners", "addPlane", "(II)V"⟩, 10) := ⟨⟨by decide +kernel, by decide +kernel⟩, List.mem_of_getElem? (i := 118) (by decide +kernel), List.mem_of_getElem? (i := 355) (by decide +kernel), List.mem_of_getElem? (i := 356) (by decide +kernel)⟩
def lw_privs_1 : List (MethodName × Nat) := [(⟨"FeedMixes", "isStuff", "(I)Z"⟩, 12), (⟨"FeedMixes$Mixer", "findBest", "(ILFeedMixes$Mix;)Z"⟩, 3), (⟨"FeedMixes$Mixer", "begin", "(I)V"⟩, 3), (⟨"FeedMixes$Limits", "keepAll", "(I)V"⟩, 7), (⟨"FeedMixes$Limits", "widen", "(I)V"⟩, 7), (⟨"FeedMixes$Limits", "isThere", "(I)Z"⟩, 7), (⟨"FeedMixes$Limits", "keep", "(I)V"⟩, 7), (⟨"FeedMixes$Limits", "levelOf", "(I)I"⟩, 7), (⟨"FeedMixes$Corners", "setSlopes", "()V"⟩, 10), (⟨"FeedMixes$Corners", "pointsOf", "(II)I"⟩, 10), (⟨"FeedMixes$Mix", "forget", "()V"⟩, 3), (⟨"FeedMixes$Corners", "seek", "(LFeedMixes$Mix;)Z"⟩, 10), (⟨"FeedMixes$Limits", "leaveRoomToStuffs", "()Z"⟩, 7), (⟨"FeedMixes$Corners", "setPlanes", "()Z"⟩, 10), (⟨"FeedMixes$Corners", "addPlanesOfOneAmount", "()V"⟩, 10), (⟨"FeedMixes$Corners", "addPlane", "(II)V"⟩, 10)]
theorem lw_r1 : ∀ q ∈ lw_privs_1, lw_okq q := List.forall_mem_cons.mpr ⟨lw_p0, List.forall_mem_cons.mpr ⟨lw_p1, List.forall_mem_cons.mpr ⟨lw_p2, List.forall_mem_cons.mpr ⟨lw_p3, List.forall_mem_cons.mpr ⟨lw_p4, List.forall_mem_cons.mpr ⟨lw_p5, List.forall_mem_cons.mpr ⟨lw_p6, List.forall_mem_cons.mpr ⟨lw_p7, List.forall_mem_cons.mpr ⟨lw_p8, List.forall_mem_cons.mpr ⟨lw_p9, List.forall_mem_cons.mpr ⟨lw_p10, List.forall_mem_cons.mpr ⟨lw_p11, List.forall_mem_cons.mpr ⟨lw_p12, List.forall_mem_cons.mpr ⟨lw_p13, List.forall_mem_cons.mpr ⟨lw_p14, List.forall_mem_cons.mpr ⟨lw_p15, fun _ h => absurd h List.not_mem_nil⟩⟩⟩⟩⟩⟩⟩⟩⟩⟩⟩⟩⟩⟩⟩⟩
theorem lw_p16 : lw_okq (⟨"FeedMixes$Corners", "addPlanesOfStuffs", "()V"⟩, 10) := ⟨⟨by decide +kernel, by decide +kernel⟩, List.mem_of_getElem? (i := 118) (by decide +kernel), List.mem_of_getElem? (i := 359) (by decide +kernel), List.mem_of_getElem? (i := 360) (by decide +kernel)⟩
theorem lw_p17 : lw_okq (⟨"FeedMixes$Corners", "addPlanesOfNutrients", "()Z"⟩, 10) := ⟨⟨by decide +kernel, by decide +kernel⟩, List.mem_of_getElem? (i := 118) (by decide +kernel), List.mem_of_getElem? (i := 363) (by decide +kernel), List.mem_of_getElem? (i := 364) (by decide +kernel)⟩
theorem lw_p18 : lw_okq (⟨"FeedMixes$Limits", "extremeOf", "(IZ)I"⟩, 7) := ⟨⟨by decide +kernel, by decide +kernel⟩, List.mem_of_getElem? (i := 82) (by decide +kernel), List.mem_of_getElem? (i := 367) (by decide +kernel), List.mem_of_getElem? (i := 368) (by decide +kernel)⟩
theorem lw_p19 : lw_okq (⟨"FeedMixes$Corners", "setCrossOf", "(II)V"⟩, 10) := ⟨⟨by decide +kernel, by decide +kernel⟩, List.mem_of_getElem? (i := 118) (by decide +kernel), List.mem_of_getElem? (i := 371) (by decide +kernel), List.mem_of_getElem? (i := 372) (by decide +kernel)⟩
theorem lw_p20 : lw_okq (⟨"FeedMixes$Corners", "isCorner", "(III)Z"⟩, 10) := ⟨⟨by decide +kernel, by decide +kernel⟩, List.mem_of_getElem? (i := 118) (by decide +kernel), List.mem_of_getElem? (i := 378) (by decide +kernel), List.mem_of_getElem? (i := 379) (by decide +kernel)⟩
theorem lw_p21 : lw_okq (⟨"FeedMixes$Limits", "allow", "(IJJ)Z"⟩, 7) := ⟨⟨by decide +kernel, by decide +kernel⟩, List.mem_of_getElem? (i := 82) (by decide +kernel), List.mem_of_getElem? (i := 382) (by decide +kernel), List.mem_of_getElem? (i := 383) (by decide +kernel)⟩
theorem lw_p22 : lw_okq (⟨"FeedMixes$Limits", "allOf", "(ILFeedMixes$Mix;)J"⟩, 7) := ⟨⟨by decide +kernel, by decide +kernel⟩, List.mem_of_getElem? (i := 82) (by decide +kernel), List.mem_of_getElem? (i := 386) (by decide +kernel), List.mem_of_getElem? (i := 387) (by decide +kernel)⟩
theorem lw_p23 : lw_okq (⟨"FeedMixes$Mix", "sum", "([I)J"⟩, 3) := ⟨⟨by decide +kernel, by decide +kernel⟩, List.mem_of_getElem? (i := 125) (by decide +kernel), List.mem_of_getElem? (i := 390) (by decide +kernel), List.mem_of_getElem? (i := 391) (by decide +kernel)⟩
theorem lw_p24 : lw_okq (⟨"FeedMixes$Corners", "offer", "(LFeedMixes$Mix;)V"⟩, 10) := ⟨⟨by decide +kernel, by decide +kernel⟩, List.mem_of_getElem? (i := 118) (by decide +kernel), List.mem_of_getElem? (i := 394) (by decide +kernel), List.mem_of_getElem? (i := 395) (by decide +kernel)⟩
theorem lw_p25 : lw_okq (⟨"FeedMixes$Mix", "isBetterThan", "(LFeedMixes$Mix;)Z"⟩, 3) := ⟨⟨by decide +kernel, by decide +kernel⟩, List.mem_of_getElem? (i := 125) (by decide +kernel), List.mem_of_getElem? (i := 399) (by decide +kernel), List.mem_of_getElem? (i := 400) (by decide +kernel)⟩
theorem lw_p26 : lw_okq (⟨"FeedMixes$Mix", "become", "(LFeedMixes$Mix;)V"⟩, 3) := ⟨⟨by decide +kernel, by decide +kernel⟩, List.mem_of_getElem? (i := 125) (by decide +kernel), List.mem_of_getElem? (i := 406) (by decide +kernel), List.mem_of_getElem? (i := 407) (by decide +kernel)⟩
theorem lw_p27 : lw_okq (⟨"FeedMixes$Mix", "isNone", "()Z"⟩, 3) := ⟨⟨by decide +kernel, by decide +kernel⟩, List.mem_of_getElem? (i := 125) (by decide +kernel), List.mem_of_getElem? (i := 410) (by decide +kernel), List.mem_of_getElem? (i := 411) (by decide +kernel)⟩
theorem lw_p28 : lw_okq (⟨"FeedMixes$Mixer", "tightBounds", "(LFeedMixes$Mix;)I"⟩, 3) := ⟨⟨by decide +kernel, by decide +kernel⟩, List.mem_of_getElem? (i := 76) (by decide +kernel), List.mem_of_getElem? (i := 414) (by decide +kernel), List.mem_of_getElem? (i := 415) (by decide +kernel)⟩
theorem lw_p29 : lw_okq (⟨"FeedMixes$Mixer", "canKeepBounds", "(I)Z"⟩, 3) := ⟨⟨by decide +kernel, by decide +kernel⟩, List.mem_of_getElem? (i := 76) (by decide +kernel), List.mem_of_getElem? (i := 422) (by decide +kernel), List.mem_of_getElem? (i := 423) (by decide +kernel)⟩
theorem lw_p30 : lw_okq (⟨"FeedMixes$Mixer", "clashingBounds", "(I)I"⟩, 3) := ⟨⟨by decide +kernel, by decide +kernel⟩, List.mem_of_getElem? (i := 76) (by decide +kernel), List.mem_of_getElem? (i := 426) (by decide +kernel), List.mem_of_getElem? (i := 427) (by decide +kernel)⟩
theorem lw_p31 : lw_okq (⟨"FeedMixes$Limits", "leaveOut", "(I)Z"⟩, 7) := ⟨⟨by decide +kernel, by decide +kernel⟩, List.mem_of_getElem? (i := 82) (by decide +kernel), List.mem_of_getElem? (i := 433) (by decide +kernel), List.mem_of_getElem? (i := 434) (by decide +kernel)⟩
def lw_privs_2 : List (MethodName × Nat) := [(⟨"FeedMixes$Corners", "addPlanesOfStuffs", "()V"⟩, 10), (⟨"FeedMixes$Corners", "addPlanesOfNutrients", "()Z"⟩, 10), (⟨"FeedMixes$Limits", "extremeOf", "(IZ)I"⟩, 7), (⟨"FeedMixes$Corners", "setCrossOf", "(II)V"⟩, 10), (⟨"FeedMixes$Corners", "isCorner", "(III)Z"⟩, 10), (⟨"FeedMixes$Limits", "allow", "(IJJ)Z"⟩, 7), (⟨"FeedMixes$Limits", "allOf", "(ILFeedMixes$Mix;)J"⟩, 7), (⟨"FeedMixes$Mix", "sum", "([I)J"⟩, 3), (⟨"FeedMixes$Corners", "offer", "(LFeedMixes$Mix;)V"⟩, 10), (⟨"FeedMixes$Mix", "isBetterThan", "(LFeedMixes$Mix;)Z"⟩, 3), (⟨"FeedMixes$Mix", "become", "(LFeedMixes$Mix;)V"⟩, 3), (⟨"FeedMixes$Mix", "isNone", "()Z"⟩, 3), (⟨"FeedMixes$Mixer", "tightBounds", "(LFeedMixes$Mix;)I"⟩, 3), (⟨"FeedMixes$Mixer", "canKeepBounds", "(I)Z"⟩, 3), (⟨"FeedMixes$Mixer", "clashingBounds", "(I)I"⟩, 3), (⟨"FeedMixes$Limits", "leaveOut", "(I)Z"⟩, 7)]
theorem lw_r2 : ∀ q ∈ lw_privs_2, lw_okq q := List.forall_mem_cons.mpr ⟨lw_p16, List.forall_mem_cons.mpr ⟨lw_p17, List.forall_mem_cons.mpr ⟨lw_p18, List.forall_mem_cons.mpr ⟨lw_p19, List.forall_mem_cons.mpr ⟨lw_p20, List.forall_mem_cons.mpr ⟨lw_p21, List.forall_mem_cons.mpr ⟨lw_p22, List.forall_mem_cons.mpr ⟨lw_p23, List.forall_mem_cons.mpr ⟨lw_p24, List.forall_mem_cons.mpr ⟨lw_p25, List.forall_mem_cons.mpr ⟨lw_p26, List.forall_mem_cons.mpr ⟨lw_p27, List.forall_mem_cons.mpr ⟨lw_p28, List.forall_mem_cons.mpr ⟨lw_p29, List.forall_mem_cons.mpr ⟨lw_p30, List.forall_mem_cons.mpr ⟨lw_p31, fun _ h => absurd h List.not_mem_nil⟩⟩⟩⟩⟩⟩⟩⟩⟩⟩⟩⟩⟩⟩⟩⟩
theorem lw_p32 : lw_okq (⟨"FeedMixesModel", "isStuff", "(I)Z"⟩, 31) := ⟨⟨by decide +kernel, by decide +kernel⟩, List.mem_of_getElem? (i := 480) (by decide +kernel), List.mem_of_getElem? (i := 592) (by decide +kernel), List.mem_of_getElem? (i := 593) (by decide +kernel)⟩
theorem lw_p33 : lw_okq (⟨"FeedMixesModel", "countAll", "()V"⟩, 31) := ⟨⟨by decide +kernel, by decide +kernel⟩, List.mem_of_getElem? (i := 480) (by decide +kernel), List.mem_of_getElem? (i := 620) (by decide +kernel), List.mem_of_getElem? (i := 621) (by decide +kernel)⟩
theorem lw_p34 : lw_okq (⟨"FeedMixesModel", "isThere", "(I)Z"⟩, 31) := ⟨⟨by decide +kernel, by decide +kernel⟩, List.mem_of_getElem? (i := 480) (by decide +kernel), List.mem_of_getElem? (i := 624) (by decide +kernel), List.mem_of_getElem? (i := 625) (by decide +kernel)⟩
theorem lw_p35 : lw_okq (⟨"FeedMixesModel", "isPossible", "(I)Z"⟩, 31) := ⟨⟨by decide +kernel, by decide +kernel⟩, List.mem_of_getElem? (i := 480) (by decide +kernel), List.mem_of_getElem? (i := 628) (by decide +kernel), List.mem_of_getElem? (i := 629) (by decide +kernel)⟩
theorem lw_p36 : lw_okq (⟨"FeedMixesModel", "freeAll", "()V"⟩, 31) := ⟨⟨by decide +kernel, by decide +kernel⟩, List.mem_of_getElem? (i := 480) (by decide +kernel), List.mem_of_getElem? (i := 632) (by decide +kernel), List.mem_of_getElem? (i := 633) (by decide +kernel)⟩
theorem lw_p37 : lw_okq (⟨"FeedMixesModel", "corners", "(IZ)V"⟩, 31) := ⟨⟨by decide +kernel, by decide +kernel⟩, List.mem_of_getElem? (i := 480) (by decide +kernel), List.mem_of_getElem? (i := 636) (by decide +kernel), List.mem_of_getElem? (i := 637) (by decide +kernel)⟩
theorem lw_p38 : lw_okq (⟨"FeedMixesModel", "look", "(I)Z"⟩, 31) := ⟨⟨by decide +kernel, by decide +kernel⟩, List.mem_of_getElem? (i := 480) (by decide +kernel), List.mem_of_getElem? (i := 640) (by decide +kernel), List.mem_of_getElem? (i := 641) (by decide +kernel)⟩
theorem lw_p39 : lw_okq (⟨"FeedMixesModel", "solve", "(I)Z"⟩, 31) := ⟨⟨by decide +kernel, by decide +kernel⟩, List.mem_of_getElem? (i := 480) (by decide +kernel), List.mem_of_getElem? (i := 644) (by decide +kernel), List.mem_of_getElem? (i := 645) (by decide +kernel)⟩
theorem lw_p40 : lw_okq (⟨"FeedMixesModel", "right", "(II)J"⟩, 31) := ⟨⟨by decide +kernel, by decide +kernel⟩, List.mem_of_getElem? (i := 480) (by decide +kernel), List.mem_of_getElem? (i := 648) (by decide +kernel), List.mem_of_getElem? (i := 649) (by decide +kernel)⟩
theorem lw_p41 : lw_okq (⟨"FeedMixesModel", "factor", "(II)J"⟩, 31) := ⟨⟨by decide +kernel, by decide +kernel⟩, List.mem_of_getElem? (i := 480) (by decide +kernel), List.mem_of_getElem? (i := 652) (by decide +kernel), List.mem_of_getElem? (i := 653) (by decide +kernel)⟩
theorem lw_p42 : lw_okq (⟨"FeedMixesModel", "keepsAll", "(I)Z"⟩, 31) := ⟨⟨by decide +kernel, by decide +kernel⟩, List.mem_of_getElem? (i := 480) (by decide +kernel), List.mem_of_getElem? (i := 658) (by decide +kernel), List.mem_of_getElem? (i := 659) (by decide +kernel)⟩
theorem lw_p43 : lw_okq (⟨"FeedMixesModel", "over", "(II[JJ)J"⟩, 31) := ⟨⟨by decide +kernel, by decide +kernel⟩, List.mem_of_getElem? (i := 480) (by decide +kernel), List.mem_of_getElem? (i := 662) (by decide +kernel), List.mem_of_getElem? (i := 663) (by decide +kernel)⟩
theorem lw_p44 : lw_okq (⟨"FeedMixesModel", "isBetter", "()Z"⟩, 31) := ⟨⟨by decide +kernel, by decide +kernel⟩, List.mem_of_getElem? (i := 480) (by decide +kernel), List.mem_of_getElem? (i := 669) (by decide +kernel), List.mem_of_getElem? (i := 670) (by decide +kernel)⟩
theorem lw_p45 : lw_okq (⟨"FeedMixesModel", "costOf", "([J)J"⟩, 31) := ⟨⟨by decide +kernel, by decide +kernel⟩, List.mem_of_getElem? (i := 480) (by decide +kernel), List.mem_of_getElem? (i := 673) (by decide +kernel), List.mem_of_getElem? (i := 674) (by decide +kernel)⟩
theorem lw_p46 : lw_okq (⟨"FeedMixesModel", "mixes", "(I)Z"⟩, 31) := ⟨⟨by decide +kernel, by decide +kernel⟩, List.mem_of_getElem? (i := 480) (by decide +kernel), List.mem_of_getElem? (i := 677) (by decide +kernel), List.mem_of_getElem? (i := 678) (by decide +kernel)⟩
theorem lw_p47 : lw_okq (⟨"FeedMixesModel", "most", "(I)I"⟩, 31) := ⟨⟨by decide +kernel, by decide +kernel⟩, List.mem_of_getElem? (i := 480) (by decide +kernel), List.mem_of_getElem? (i := 681) (by decide +kernel), List.mem_of_getElem? (i := 682) (by decide +kernel)⟩
def lw_privs_3 : List (MethodName × Nat) := [(⟨"FeedMixesModel", "isStuff", "(I)Z"⟩, 31), (⟨"FeedMixesModel", "countAll", "()V"⟩, 31), (⟨"FeedMixesModel", "isThere", "(I)Z"⟩, 31), (⟨"FeedMixesModel", "isPossible", "(I)Z"⟩, 31), (⟨"FeedMixesModel", "freeAll", "()V"⟩, 31), (⟨"FeedMixesModel", "corners", "(IZ)V"⟩, 31), (⟨"FeedMixesModel", "look", "(I)Z"⟩, 31), (⟨"FeedMixesModel", "solve", "(I)Z"⟩, 31), (⟨"FeedMixesModel", "right", "(II)J"⟩, 31), (⟨"FeedMixesModel", "factor", "(II)J"⟩, 31), (⟨"FeedMixesModel", "keepsAll", "(I)Z"⟩, 31), (⟨"FeedMixesModel", "over", "(II[JJ)J"⟩, 31), (⟨"FeedMixesModel", "isBetter", "()Z"⟩, 31), (⟨"FeedMixesModel", "costOf", "([J)J"⟩, 31), (⟨"FeedMixesModel", "mixes", "(I)Z"⟩, 31), (⟨"FeedMixesModel", "most", "(I)I"⟩, 31)]
theorem lw_r3 : ∀ q ∈ lw_privs_3, lw_okq q := List.forall_mem_cons.mpr ⟨lw_p32, List.forall_mem_cons.mpr ⟨lw_p33, List.forall_mem_cons.mpr ⟨lw_p34, List.forall_mem_cons.mpr ⟨lw_p35, List.forall_mem_cons.mpr ⟨lw_p36, List.forall_mem_cons.mpr ⟨lw_p37, List.forall_mem_cons.mpr ⟨lw_p38, List.forall_mem_cons.mpr ⟨lw_p39, List.forall_mem_cons.mpr ⟨lw_p40, List.forall_mem_cons.mpr ⟨lw_p41, List.forall_mem_cons.mpr ⟨lw_p42, List.forall_mem_cons.mpr ⟨lw_p43, List.forall_mem_cons.mpr ⟨lw_p44, List.forall_mem_cons.mpr ⟨lw_p45, List.forall_mem_cons.mpr ⟨lw_p46, List.forall_mem_cons.mpr ⟨lw_p47, fun _ h => absurd h List.not_mem_nil⟩⟩⟩⟩⟩⟩⟩⟩⟩⟩⟩⟩⟩⟩⟩⟩
theorem lw_p48 : lw_okq (⟨"FeedMixesModel", "fix", "(II)V"⟩, 31) := ⟨⟨by decide +kernel, by decide +kernel⟩, List.mem_of_getElem? (i := 480) (by decide +kernel), List.mem_of_getElem? (i := 685) (by decide +kernel), List.mem_of_getElem? (i := 686) (by decide +kernel)⟩
theorem lw_p49 : lw_okq (⟨"FeedMixesModel", "keepMix", "(I)V"⟩, 31) := ⟨⟨by decide +kernel, by decide +kernel⟩, List.mem_of_getElem? (i := 480) (by decide +kernel), List.mem_of_getElem? (i := 689) (by decide +kernel), List.mem_of_getElem? (i := 690) (by decide +kernel)⟩
def lw_privs_4 : List (MethodName × Nat) := [(⟨"FeedMixesModel", "fix", "(II)V"⟩, 31), (⟨"FeedMixesModel", "keepMix", "(I)V"⟩, 31)]
theorem lw_r4 : ∀ q ∈ lw_privs_4, lw_okq q := List.forall_mem_cons.mpr ⟨lw_p48, List.forall_mem_cons.mpr ⟨lw_p49, fun _ h => absurd h List.not_mem_nil⟩⟩
def lw_privs : List (MethodName × Nat) := lw_privs_1 ++ (lw_privs_2 ++ (lw_privs_3 ++ (lw_privs_4)))
def lw_tbl : List Cond := k2_sels lw_privs ++ tables_1
theorem lw_privs_ok : ∀ q ∈ lw_privs, lw_okq q := by
  show ∀ q ∈ lw_privs_1 ++ (lw_privs_2 ++ (lw_privs_3 ++ (lw_privs_4))), lw_okq q
  exact List.forall_mem_append.mpr ⟨lw_r1, List.forall_mem_append.mpr ⟨lw_r2, List.forall_mem_append.mpr ⟨lw_r3, lw_r4⟩⟩⟩
-- ===== end of PART A; then your names; then what follows =====
end
section
/-! Corners of a bounded space in three dimensions: from every point of it one comes, without a worse key, to a point at which three planes meet. -/
def dt (a b c x y z : Rat) : Rat := a * x + b * y + c * z
abbrev Con3 : Type := (Rat × Rat × Rat) × Rat
def co_d (c : Con3) (x y z : Rat) : Rat := c.1.1 * x + c.1.2.1 * y + c.1.2.2 * z
def Fe3 (cs : List Con3) (x y z : Rat) : Prop := ∀ c ∈ cs, co_d c x y z ≤ c.2
/-- a direction in which the key falls: the price w, then each amount -/
def kneg (w : Rat × Rat × Rat) (x y z : Rat) : Prop := w.1 * x + w.2.1 * y + w.2.2 * z < 0 ∨ (w.1 * x + w.2.1 * y + w.2.2 * z = 0 ∧ (x < 0 ∨ (x = 0 ∧ (y < 0 ∨ (y = 0 ∧ z < 0)))))
def kle (w : Rat × Rat × Rat) (x y z x' y' z' : Rat) : Prop := kneg w (x - x') (y - y') (z - z') ∨ (x = x' ∧ y = y' ∧ z = z')
theorem kneg_or (w : Rat × Rat × Rat) (x y z : Rat) (h : ¬ (x = 0 ∧ y = 0 ∧ z = 0)) : kneg w x y z ∨ kneg w (-x) (-y) (-z) := by
  unfold kneg
  grind
theorem mul_neg_of {t x : Rat} (ht : 0 < t) (hx : x < 0) : t * x < 0 := by
  have h := Rat.mul_pos ht (show 0 < -x by grind)
  grind
theorem kneg_mul {w : Rat × Rat × Rat} {x y z t : Rat} (h : kneg w x y z) (ht : 0 < t) : kneg w (t * x) (t * y) (t * z) := by
  unfold kneg at h ⊢
  have e : w.1 * (t * x) + w.2.1 * (t * y) + w.2.2 * (t * z) = t * (w.1 * x + w.2.1 * y + w.2.2 * z) := by grind
  rw [e]
  rcases h with h | ⟨h0, h | ⟨h1, h | ⟨h2, h⟩⟩⟩
  · exact Or.inl (mul_neg_of ht h)
  · exact Or.inr ⟨by rw [h0, Rat.mul_zero], Or.inl (mul_neg_of ht h)⟩
  · exact Or.inr ⟨by rw [h0, Rat.mul_zero], Or.inr ⟨by rw [h1, Rat.mul_zero], Or.inl (mul_neg_of ht h)⟩⟩
  · exact Or.inr ⟨by rw [h0, Rat.mul_zero], Or.inr ⟨by rw [h1, Rat.mul_zero], Or.inr ⟨by rw [h2, Rat.mul_zero], mul_neg_of ht h⟩⟩⟩
theorem kneg_add {w : Rat × Rat × Rat} {x y z x' y' z' : Rat} (h : kneg w x y z) (h' : kneg w x' y' z') : kneg w (x + x') (y + y') (z + z') := by
  unfold kneg at h h' ⊢
  grind
theorem kle_refl {w : Rat × Rat × Rat} {x y z : Rat} : kle w x y z x y z := Or.inr ⟨rfl, rfl, rfl⟩
theorem kle_trans {w : Rat × Rat × Rat} {x y z x' y' z' x2 y2 z2 : Rat} (h : kle w x y z x' y' z') (h' : kle w x' y' z' x2 y2 z2) : kle w x y z x2 y2 z2 := by
  rcases h with h | ⟨rfl, rfl, rfl⟩
  · rcases h' with h' | ⟨rfl, rfl, rfl⟩
    · have h3 := kneg_add h h'
      have e1 : x - x' + (x' - x2) = x - x2 := by grind
      have e2 : y - y' + (y' - y2) = y - y2 := by grind
      have e3 : z - z' + (z' - z2) = z - z2 := by grind
      rw [e1, e2, e3] at h3
      exact Or.inl h3
    · exact Or.inl h
  · exact h'
/-- the key is a total order, and no two points have one key -/
theorem kle_total (w : Rat × Rat × Rat) (x y z x' y' z' : Rat) : kle w x y z x' y' z' ∨ kle w x' y' z' x y z := by
  by_cases h : x - x' = 0 ∧ y - y' = 0 ∧ z - z' = 0
  · exact Or.inl (Or.inr (by grind))
  · rcases kneg_or w _ _ _ h with h | h
    · exact Or.inl (Or.inl h)
    · refine Or.inr (Or.inl ?_)
      have e1 : -(x - x') = x' - x := by grind
      have e2 : -(y - y') = y' - y := by grind
      have e3 : -(z - z') = z' - z := by grind
      rw [e1, e2, e3] at h
      exact h
theorem kle_anti {w : Rat × Rat × Rat} {x y z x' y' z' : Rat} (h : kle w x y z x' y' z') (h' : kle w x' y' z' x y z) : x = x' ∧ y = y' ∧ z = z' := by
  rcases h with h | h
  · rcases h' with h' | h'
    · have h3 := kneg_add h h'
      unfold kneg at h3
      grind
    · grind
  · exact h
/-- along a direction that some bound stops: one comes to a bound -/
theorem blk3 (x y z u v q : Rat) : ∀ (cs : List Con3), Fe3 cs x y z → (∃ c ∈ cs, 0 < co_d c u v q) →
    ∃ t : Rat, 0 ≤ t ∧ (∀ c ∈ cs, 0 < co_d c u v q → co_d c x y z + t * co_d c u v q ≤ c.2) ∧ ∃ c ∈ cs, 0 < co_d c u v q ∧ co_d c x y z + t * co_d c u v q = c.2
  | [], _, h => by obtain ⟨c, hc, -⟩ := h; cases hc
  | c0 :: cs, hF, h => by
    have hF' : Fe3 cs x y z := fun c hc => hF c (List.mem_cons_of_mem _ hc)
    have h0 := hF c0 List.mem_cons_self
    by_cases hc : ∃ c ∈ cs, 0 < co_d c u v q
    · obtain ⟨t, ht, h1, c1, hc1, hp1, he1⟩ := blk3 x y z u v q cs hF' hc
      by_cases hp : 0 < co_d c0 u v q
      · by_cases hle : co_d c0 x y z + t * co_d c0 u v q ≤ c0.2
        · refine ⟨t, ht, fun c hm hq => ?_, c1, List.mem_cons_of_mem _ hc1, hp1, he1⟩
          rcases List.mem_cons.mp hm with rfl | hm
          · exact hle
          · exact h1 c hm hq
        · have hne : co_d c0 u v q ≠ 0 := by grind
          have e : (c0.2 - co_d c0 x y z) / co_d c0 u v q * co_d c0 u v q = c0.2 - co_d c0 x y z := Rat.div_mul_cancel hne
          have hlt : (c0.2 - co_d c0 x y z) / co_d c0 u v q < t := by
            rw [Rat.div_lt_iff hp]
            grind
          have hnn : 0 ≤ (c0.2 - co_d c0 x y z) / co_d c0 u v q := Rat.le_of_mul_le_mul_right (c := co_d c0 u v q) (by rw [e]; grind) hp
          refine ⟨(c0.2 - co_d c0 x y z) / co_d c0 u v q, hnn, fun c hm hq => ?_, c0, List.mem_cons_self, hp, by rw [e]; grind⟩
          rcases List.mem_cons.mp hm with rfl | hm
          · rw [e]; grind
          · have h2 := h1 c hm hq
            have h3 : (c0.2 - co_d c0 x y z) / co_d c0 u v q * co_d c u v q ≤ t * co_d c u v q := Rat.mul_le_mul_of_nonneg_right (by grind) (by grind)
            grind
      · refine ⟨t, ht, fun c hm hq => ?_, c1, List.mem_cons_of_mem _ hc1, hp1, he1⟩
        rcases List.mem_cons.mp hm with rfl | hm
        · exact absurd hq hp
        · exact h1 c hm hq
    · obtain ⟨c, hm, hp⟩ := h
      rcases List.mem_cons.mp hm with rfl | hm
      · have hne : co_d c u v q ≠ 0 := by grind
        have e : (c.2 - co_d c x y z) / co_d c u v q * co_d c u v q = c.2 - co_d c x y z := Rat.div_mul_cancel hne
        have hnn : 0 ≤ (c.2 - co_d c x y z) / co_d c u v q := Rat.le_of_mul_le_mul_right (c := co_d c u v q) (by rw [e]; grind) hp
        refine ⟨(c.2 - co_d c x y z) / co_d c u v q, hnn, fun c' hm' hq => ?_, c, List.mem_cons_self, hp, by rw [e]; grind⟩
        rcases List.mem_cons.mp hm' with rfl | hm'
        · rw [e]; grind
        · exact absurd ⟨c', hm', hq⟩ hc
      · exact absurd ⟨c, hm, hp⟩ hc
/-- a move: along u v q, in which the key falls, up to a bound c; bounds that are met and whose plane the direction keeps to are still met -/
theorem mov3 {cs : List Con3} {w : Rat × Rat × Rat} {x y z u v q : Rat} (hF : Fe3 cs x y z) (hb : ∃ c ∈ cs, 0 < co_d c u v q) (hk : kneg w u v q) :
    ∃ x' y' z' : Rat, Fe3 cs x' y' z' ∧ kle w x' y' z' x y z ∧ (∃ c ∈ cs, 0 < co_d c u v q ∧ co_d c x' y' z' = c.2) ∧ ∀ c : Con3, co_d c u v q = 0 → co_d c x' y' z' = co_d c x y z := by
  obtain ⟨t, ht, h1, c1, hc1, hp1, he1⟩ := blk3 x y z u v q cs hF hb
  have lin : ∀ c : Con3, co_d c (x + t * u) (y + t * v) (z + t * q) = co_d c x y z + t * co_d c u v q := by
    intro c
    unfold co_d
    grind
  refine ⟨x + t * u, y + t * v, z + t * q, fun c hc => ?_, ?_, ⟨c1, hc1, hp1, by rw [lin]; exact he1⟩, fun c hc => by rw [lin, hc]; grind⟩
  · rw [lin]
    by_cases hp : 0 < co_d c u v q
    · exact h1 c hc hp
    · have h2 := hF c hc
      have h3 : 0 ≤ t * -(co_d c u v q) := Rat.mul_nonneg ht (by grind)
      grind
  · by_cases h0 : t = 0
    · subst h0
      exact Or.inr ⟨by grind, by grind, by grind⟩
    · have h2 := kneg_mul hk (show 0 < t by grind)
      have e1 : x + t * u - x = t * u := by grind
      have e2 : y + t * v - y = t * v := by grind
      have e3 : z + t * q - z = t * q := by grind
      exact Or.inl (by rw [e1, e2, e3]; exact h2)
/-- the same, in a direction or its reverse -/
theorem mov3' {cs : List Con3} {w : Rat × Rat × Rat} {x y z u v q : Rat} (hF : Fe3 cs x y z) (hb : ∀ a b c : Rat, ¬ (a = 0 ∧ b = 0 ∧ c = 0) → ∃ k ∈ cs, 0 < co_d k a b c) (hn : ¬ (u = 0 ∧ v = 0 ∧ q = 0)) :
    ∃ x' y' z' : Rat, Fe3 cs x' y' z' ∧ kle w x' y' z' x y z ∧ (∃ c ∈ cs, co_d c u v q ≠ 0 ∧ co_d c x' y' z' = c.2) ∧ ∀ c : Con3, co_d c u v q = 0 → co_d c x' y' z' = co_d c x y z := by
  have neg : ∀ c : Con3, co_d c (-u) (-v) (-q) = -(co_d c u v q) := by
    intro c
    unfold co_d
    grind
  rcases kneg_or w u v q hn with h | h
  · obtain ⟨x', y', z', h1, h2, ⟨c, hc, hp, he⟩, h3⟩ := mov3 hF (hb u v q hn) h
    exact ⟨x', y', z', h1, h2, ⟨c, hc, by grind, he⟩, h3⟩
  · obtain ⟨x', y', z', h1, h2, ⟨c, hc, hp, he⟩, h3⟩ := mov3 hF (hb (-u) (-v) (-q) (by grind)) h
    rw [neg] at hp
    exact ⟨x', y', z', h1, h2, ⟨c, hc, by grind, he⟩, fun c h0 => h3 c (by rw [neg, h0]; grind)⟩
def det3 (a b c : Con3) : Rat :=
  (a.1.2.1 * b.1.2.2 - a.1.2.2 * b.1.2.1) * c.1.1 + (a.1.2.2 * b.1.1 - a.1.1 * b.1.2.2) * c.1.2.1 + (a.1.1 * b.1.2.1 - a.1.2.1 * b.1.1) * c.1.2.2
def crs0 (a b : Con3) : Prop := a.1.2.1 * b.1.2.2 - a.1.2.2 * b.1.2.1 = 0 ∧ a.1.2.2 * b.1.1 - a.1.1 * b.1.2.2 = 0 ∧ a.1.1 * b.1.2.1 - a.1.2.1 * b.1.1 = 0
section VTX
variable {cs : List Con3} {w : Rat × Rat × Rat} {x y z : Rat}
theorem vtx2 (hF : Fe3 cs x y z) (hb : ∀ a b c : Rat, ¬ (a = 0 ∧ b = 0 ∧ c = 0) → ∃ k ∈ cs, 0 < co_d k a b c) {a b : Con3} (ha : co_d a x y z = a.2) (hb2 : co_d b x y z = b.2) (hn : ¬ crs0 a b) :
    ∃ c ∈ cs, det3 a b c ≠ 0 ∧ ∃ x' y' z' : Rat, Fe3 cs x' y' z' ∧ kle w x' y' z' x y z ∧ co_d a x' y' z' = a.2 ∧ co_d b x' y' z' = b.2 ∧ co_d c x' y' z' = c.2 := by
  obtain ⟨x', y', z', h1, h2, ⟨c, hc, hp, he⟩, h3⟩ := mov3' (w := w) hF hb hn
  refine ⟨c, hc, ?_, x', y', z', h1, h2, ?_, ?_, he⟩
  · unfold co_d at hp
    unfold det3
    grind
  · rw [h3 a (by unfold co_d; grind)]; exact ha
  · rw [h3 b (by unfold co_d; grind)]; exact hb2
theorem vtx1 (hF : Fe3 cs x y z) (hb : ∀ a b c : Rat, ¬ (a = 0 ∧ b = 0 ∧ c = 0) → ∃ k ∈ cs, 0 < co_d k a b c) {a : Con3} (ha : co_d a x y z = a.2) (hn : ¬ (a.1.1 = 0 ∧ a.1.2.1 = 0 ∧ a.1.2.2 = 0)) :
    ∃ b ∈ cs, ∃ c ∈ cs, det3 a b c ≠ 0 ∧ ∃ x' y' z' : Rat, Fe3 cs x' y' z' ∧ kle w x' y' z' x y z ∧ co_d a x' y' z' = a.2 ∧ co_d b x' y' z' = b.2 ∧ co_d c x' y' z' = c.2 := by
  by_cases h0 : a.1.1 = 0
  · obtain ⟨x', y', z', h1, h2, ⟨b, hm, hp, he⟩, h3⟩ := mov3' (w := w) (u := 1) (v := 0) (q := 0) hF hb (by grind)
    have ha' : co_d a x' y' z' = a.2 := by rw [h3 a (by unfold co_d; grind)]; exact ha
    have hn2 : ¬ crs0 a b := by
      unfold co_d at hp
      unfold crs0
      grind
    obtain ⟨c, hc, hd, x2, y2, z2, g1, g2, g3⟩ := vtx2 (w := w) h1 hb ha' he hn2
    exact ⟨b, hm, c, hc, hd, x2, y2, z2, g1, kle_trans g2 h2, g3⟩
  · obtain ⟨x', y', z', h1, h2, ⟨b, hm, hp, he⟩, h3⟩ := mov3' (w := w) (u := a.1.2.1) (v := -a.1.1) (q := 0) hF hb (by grind)
    have ha' : co_d a x' y' z' = a.2 := by rw [h3 a (by unfold co_d; grind)]; exact ha
    have hn2 : ¬ crs0 a b := by
      unfold co_d at hp
      unfold crs0
      grind
    obtain ⟨c, hc, hd, x2, y2, z2, g1, g2, g3⟩ := vtx2 (w := w) h1 hb ha' he hn2
    exact ⟨b, hm, c, hc, hd, x2, y2, z2, g1, kle_trans g2 h2, g3⟩
theorem vtx0 (hF : Fe3 cs x y z) (hb : ∀ a b c : Rat, ¬ (a = 0 ∧ b = 0 ∧ c = 0) → ∃ k ∈ cs, 0 < co_d k a b c) :
    ∃ a ∈ cs, ∃ b ∈ cs, ∃ c ∈ cs, det3 a b c ≠ 0 ∧ ∃ x' y' z' : Rat, Fe3 cs x' y' z' ∧ kle w x' y' z' x y z ∧ co_d a x' y' z' = a.2 ∧ co_d b x' y' z' = b.2 ∧ co_d c x' y' z' = c.2 := by
  obtain ⟨x', y', z', h1, h2, ⟨a, hm, hp, he⟩, h3⟩ := mov3' (w := w) (u := 1) (v := 0) (q := 0) hF hb (by grind)
  obtain ⟨b, hb1, c, hc, hd, x2, y2, z2, g1, g2, g3⟩ := vtx1 (w := w) h1 hb he (by unfold co_d at hp; grind)
  exact ⟨a, hm, b, hb1, c, hc, hd, x2, y2, z2, g1, kle_trans g2 h2, g3⟩
end VTX
end
