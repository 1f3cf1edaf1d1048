section
-- ===== PART A: goes FIRST, ahead of the names: the tables' words, and 'selects' of the private methods out of them =====
/-- a private method of a class that the tables say can be made, by its rows of tables_1 -/
def lw_okq (q : MethodName × Nat) : Prop := (q.1.cls ≠ "java/lang/invoke/MethodHandle" ∧ q.1.cls ≠ "java/lang/invoke/VarHandle") ∧ Cond.instantiable q.1.cls q.2 ∈ tables_1 ∧ Cond.privateMethod q.1 ∈ tables_1 ∧ Cond.instanceMethod q.1 ∈ tables_1
theorem lw_p0 : lw_okq (⟨"FeedMixes", "isStuff", "(I)Z"⟩, 12) := ⟨⟨by decide +kernel, by decide +kernel⟩, List.mem_of_getElem? (i := 11) (by decide +kernel), List.mem_of_getElem? (i := 247) (by decide +kernel), List.mem_of_getElem? (i := 248) (by decide +kernel)⟩
theorem lw_p1 : lw_okq (⟨"FeedMixes$Mixer", "findBest", "(ILFeedMixes$Mix;)Z"⟩, 3) := ⟨⟨by decide +kernel, by decide +kernel⟩, List.mem_of_getElem? (i := 76) (by decide +kernel), List.mem_of_getElem? (i := 281) (by decide +kernel), List.mem_of_getElem? (i := 282) (by decide +kernel)⟩
theorem lw_p2 : lw_okq (⟨"FeedMixes$Mixer", "begin", "(I)V"⟩, 3) := ⟨⟨by decide +kernel, by decide +kernel⟩, List.mem_of_getElem? (i := 76) (by decide +kernel), List.mem_of_getElem? (i := 285) (by decide +kernel), List.mem_of_getElem? (i := 286) (by decide +kernel)⟩
theorem lw_p3 : lw_okq (⟨"FeedMixes$Limits", "keepAll", "(I)V"⟩, 7) := ⟨⟨by decide +kernel, by decide +kernel⟩, List.mem_of_getElem? (i := 82) (by decide +kernel), List.mem_of_getElem? (i := 289) (by decide +kernel), List.mem_of_getElem? (i := 290) (by decide +kernel)⟩
theorem lw_p4 : lw_okq (⟨"FeedMixes$Limits", "widen", "(I)V"⟩, 7) := ⟨⟨by decide +kernel, by decide +kernel⟩, List.mem_of_getElem? (i := 82) (by decide +kernel), List.mem_of_getElem? (i := 293) (by decide +kernel), List.mem_of_getElem? (i := 294) (by decide +kernel)⟩
theorem lw_p5 : lw_okq (⟨"FeedMixes$Limits", "isThere", "(I)Z"⟩, 7) := ⟨⟨by decide +kernel, by decide +kernel⟩, List.mem_of_getElem? (i := 82) (by decide +kernel), List.mem_of_getElem? (i := 297) (by decide +kernel), List.mem_of_getElem? (i := 298) (by decide +kernel)⟩
theorem lw_p6 : lw_okq (⟨"FeedMixes$Limits", "keep", "(I)V"⟩, 7) := ⟨⟨by decide +kernel, by decide +kernel⟩, List.mem_of_getElem? (i := 82) (by decide +kernel), List.mem_of_getElem? (i := 304) (by decide +kernel), List.mem_of_getElem? (i := 305) (by decide +kernel)⟩
theorem lw_p7 : lw_okq (⟨"FeedMixes$Limits", "levelOf", "(I)I"⟩, 7) := ⟨⟨by decide +kernel, by decide +kernel⟩, List.mem_of_getElem? (i := 82) (by decide +kernel), List.mem_of_getElem? (i := 311) (by decide +kernel), List.mem_of_getElem? (i := 312) (by decide +kernel)⟩
theorem lw_p8 : lw_okq (⟨"FeedMixes$Corners", "setSlopes", "()V"⟩, 10) := ⟨⟨by decide +kernel, by decide +kernel⟩, List.mem_of_getElem? (i := 118) (by decide +kernel), List.mem_of_getElem? (i := 324) (by decide +kernel), List.mem_of_getElem? (i := 325) (by decide +kernel)⟩
theorem lw_p9 : lw_okq (⟨"FeedMixes$Corners", "pointsOf", "(II)I"⟩, 10) := ⟨⟨by decide +kernel, by decide +kernel⟩, List.mem_of_getElem? (i := 118) (by decide +kernel), List.mem_of_getElem? (i := 328) (by decide +kernel), List.mem_of_getElem? (i := 329) (by decide +kernel)⟩
theorem lw_p10 : lw_okq (⟨"FeedMixes$Mix", "forget", "()V"⟩, 3) := ⟨⟨by decide +kernel, by decide +kernel⟩, List.mem_of_getElem? (i := 125) (by decide +kernel), List.mem_of_getElem? (i := 332) (by decide +kernel), List.mem_of_getElem? (i := 333) (by decide +kernel)⟩
theorem lw_p11 : lw_okq (⟨"FeedMixes$Corners", "seek", "(LFeedMixes$Mix;)Z"⟩, 10) := ⟨⟨by decide +kernel, by decide +kernel⟩, List.mem_of_getElem? (i := 118) (by decide +kernel), List.mem_of_getElem? (i := 339) (by decide +kernel), List.mem_of_getElem? (i := 340) (by decide +kernel)⟩
theorem lw_p12 : lw_okq (⟨"FeedMixes$Limits", "leaveRoomToStuffs", "()Z"⟩, 7) := ⟨⟨by decide +kernel, by decide +kernel⟩, List.mem_of_getElem? (i := 82) (by decide +kernel), List.mem_of_getElem? (i := 343) (by decide +kernel), List.mem_of_getElem? (i := 344) (by decide +kernel)⟩
theorem lw_p13 : lw_okq (⟨"FeedMixes$Corners", "setPlanes", "()Z"⟩, 10) := ⟨⟨by decide +kernel, by decide +kernel⟩, List.mem_of_getElem? (i := 118) (by decide +kernel), List.mem_of_getElem? (i := 347) (by decide +kernel), List.mem_of_getElem? (i := 348) (by decide +kernel)⟩
theorem lw_p14 : lw_okq (⟨"FeedMixes$Corners", "addPlanesOfOneAmount", "()V"⟩, 10) := ⟨⟨by decide +kernel, by decide +kernel⟩, List.mem_of_getElem? (i := 118) (by decide +kernel), List.mem_of_getElem? (i := 351) (by decide +kernel), List.mem_of_getElem? (i := 352) (by decide +kernel)⟩
theorem lw_p15 : lw_okq (⟨"FeedMixes$Corners", "addPlane", "(II)V"⟩, 10) := ⟨⟨by decide +kernel, by decide +kernel⟩, List.mem_of_getElem? (i := 118) (by decide +kernel), List.mem_of_getElem? (i := 355) (by decide +kernel), List.mem_of_getElem? (i := 356) (by decide +kernel)⟩
def lw_privs_1 : List (MethodName × Nat) := [(⟨"FeedMixes", "isStuff", "(I)Z"⟩, 12), (⟨"FeedMixes$Mixer", "findBest", "(ILFeedMixes$Mix;)Z"⟩, 3), (⟨"FeedMixes$Mixer", "begin", "(I)V"⟩, 3), (⟨"FeedMixes$Limits", "keepAll", "(I)V"⟩, 7), (⟨"FeedMixes$Limits", "widen", "(I)V"⟩, 7), (⟨"FeedMixes$Limits", "isThere", "(I)Z"⟩, 7), (⟨"FeedMixes$Limits", "keep", "(I)V"⟩, 7), (⟨"FeedMixes$Limits", "levelOf", "(I)I"⟩, 7), (⟨"FeedMixes$Corners", "setSlopes", "()V"⟩, 10), (⟨"FeedMixes$Corners", "pointsOf", "(II)I"⟩, 10), (⟨"FeedMixes$Mix", "forget", "()V"⟩, 3), (⟨"FeedMixes$Corners", "seek", "(LFeedMixes$Mix;)Z"⟩, 10), (⟨"FeedMixes$Limits", "leaveRoomToStuffs", "()Z"⟩, 7), (⟨"FeedMixes$Corners", "setPlanes", "()Z"⟩, 10), (⟨"FeedMixes$Corners", "addPlanesOfOneAmount", "()V"⟩, 10), (⟨"FeedMixes$Corners", "addPlane", "(II)V"⟩, 10)]
theorem lw_r1 : ∀ q ∈ lw_privs_1, lw_okq q := List.forall_mem_cons.mpr ⟨lw_p0, List.forall_mem_cons.mpr ⟨lw_p1, List.forall_mem_cons.mpr ⟨lw_p2, List.forall_mem_cons.mpr ⟨lw_p3, List.forall_mem_cons.mpr ⟨lw_p4, List.forall_mem_cons.mpr ⟨lw_p5, List.forall_mem_cons.mpr ⟨lw_p6, List.forall_mem_cons.mpr ⟨lw_p7, List.forall_mem_cons.mpr ⟨lw_p8, List.forall_mem_cons.mpr ⟨lw_p9, List.forall_mem_cons.mpr ⟨lw_p10, List.forall_mem_cons.mpr ⟨lw_p11, List.forall_mem_cons.mpr ⟨lw_p12, List.forall_mem_cons.mpr ⟨lw_p13, List.forall_mem_cons.mpr ⟨lw_p14, List.forall_mem_cons.mpr ⟨lw_p15, fun _ h => absurd h List.not_mem_nil⟩⟩⟩⟩⟩⟩⟩⟩⟩⟩⟩⟩⟩⟩⟩⟩
theorem lw_p16 : lw_okq (⟨"FeedMixes$Corners", "addPlanesOfStuffs", "()V"⟩, 10) := ⟨⟨by decide +kernel, by decide +kernel⟩, List.mem_of_getElem? (i := 118) (by decide +kernel), List.mem_of_getElem? (i := 359) (by decide +kernel), List.mem_of_getElem? (i := 360) (by decide +kernel)⟩
theorem lw_p17 : lw_okq (⟨"FeedMixes$Corners", "addPlanesOfNutrients", "()Z"⟩, 10) := ⟨⟨by decide +kernel, by decide +kernel⟩, List.mem_of_getElem? (i := 118) (by decide +kernel), List.mem_of_getElem? (i := 363) (by decide +kernel), List.mem_of_getElem? (i := 364) (by decide +kernel)⟩
theorem lw_p18 : lw_okq (⟨"FeedMixes$Limits", "extremeOf", "(IZ)I"⟩, 7) := ⟨⟨by decide +kernel, by decide +kernel⟩, List.mem_of_getElem? (i := 82) (by decide +kernel), List.mem_of_getElem? (i := 367) (by decide +kernel), List.mem_of_getElem? (i := 368) (by decide +kernel)⟩
theorem lw_p19 : lw_okq (⟨"FeedMixes$Corners", "setCrossOf", "(II)V"⟩, 10) := ⟨⟨by decide +kernel, by decide +kernel⟩, List.mem_of_getElem? (i := 118) (by decide +kernel), List.mem_of_getElem? (i := 371) (by decide +kernel), List.mem_of_getElem? (i := 372) (by decide +kernel)⟩
theorem lw_p20 : lw_okq (⟨"FeedMixes$Corners", "isCorner", "(III)Z"⟩, 10) := ⟨⟨by decide +kernel, by decide +kernel⟩, List.mem_of_getElem? (i := 118) (by decide +kernel), List.mem_of_getElem? (i := 378) (by decide +kernel), List.mem_of_getElem? (i := 379) (by decide +kernel)⟩
theorem lw_p21 : lw_okq (⟨"FeedMixes$Limits", "allow", "(IJJ)Z"⟩, 7) := ⟨⟨by decide +kernel, by decide +kernel⟩, List.mem_of_getElem? (i := 82) (by decide +kernel), List.mem_of_getElem? (i := 382) (by decide +kernel), List.mem_of_getElem? (i := 383) (by decide +kernel)⟩
theorem lw_p22 : lw_okq (⟨"FeedMixes$Limits", "allOf", "(ILFeedMixes$Mix;)J"⟩, 7) := ⟨⟨by decide +kernel, by decide +kernel⟩, List.mem_of_getElem? (i := 82) (by decide +kernel), List.mem_of_getElem? (i := 386) (by decide +kernel), List.mem_of_getElem? (i := 387) (by decide +kernel)⟩
theorem lw_p23 : lw_okq (⟨"FeedMixes$Mix", "sum", "([I)J"⟩, 3) := ⟨⟨by decide +kernel, by decide +kernel⟩, List.mem_of_getElem? (i := 125) (by decide +kernel), List.mem_of_getElem? (i := 390) (by decide +kernel), List.mem_of_getElem? (i := 391) (by decide +kernel)⟩
theorem lw_p24 : lw_okq (⟨"FeedMixes$Corners", "offer", "(LFeedMixes$Mix;)V"⟩, 10) := ⟨⟨by decide +kernel, by decide +kernel⟩, List.mem_of_getElem? (i := 118) (by decide +kernel), List.mem_of_getElem? (i := 394) (by decide +kernel), List.mem_of_getElem? (i := 395) (by decide +kernel)⟩
theorem lw_p25 : lw_okq (⟨"FeedMixes$Mix", "isBetterThan", "(LFeedMixes$Mix;)Z"⟩, 3) := ⟨⟨by decide +kernel, by decide +kernel⟩, List.mem_of_getElem? (i := 125) (by decide +kernel), List.mem_of_getElem? (i := 399) (by decide +kernel), List.mem_of_getElem? (i := 400) (by decide +kernel)⟩
theorem lw_p26 : lw_okq (⟨"FeedMixes$Mix", "become", "(LFeedMixes$Mix;)V"⟩, 3) := ⟨⟨by decide +kernel, by decide +kernel⟩, List.mem_of_getElem? (i := 125) (by decide +kernel), List.mem_of_getElem? (i := 406) (by decide +kernel), List.mem_of_getElem? (i := 407) (by decide +kernel)⟩
theorem lw_p27 : lw_okq (⟨"FeedMixes$Mix", "isNone", "()Z"⟩, 3) := ⟨⟨by decide +kernel, by decide +kernel⟩, List.mem_of_getElem? (i := 125) (by decide +kernel), List.mem_of_getElem? (i := 410) (by decide +kernel), List.mem_of_getElem? (i := 411) (by decide +kernel)⟩
theorem lw_p28 : lw_okq (⟨"FeedMixes$Mixer", "tightBounds", "(LFeedMixes$Mix;)I"⟩, 3) := ⟨⟨by decide +kernel, by decide +kernel⟩, List.mem_of_getElem? (i := 76) (by decide +kernel), List.mem_of_getElem? (i := 414) (by decide +kernel), List.mem_of_getElem? (i := 415) (by decide +kernel)⟩
theorem lw_p29 : lw_okq (⟨"FeedMixes$Mixer", "canKeepBounds", "(I)Z"⟩, 3) := ⟨⟨by decide +kernel, by decide +kernel⟩, List.mem_of_getElem? (i := 76) (by decide +kernel), List.mem_of_getElem? (i := 422) (by decide +kernel), List.mem_of_getElem? (i := 423) (by decide +kernel)⟩
theorem lw_p30 : lw_okq (⟨"FeedMixes$Mixer", "clashingBounds", "(I)I"⟩, 3) := ⟨⟨by decide +kernel, by decide +kernel⟩, List.mem_of_getElem? (i := 76) (by decide +kernel), List.mem_of_getElem? (i := 426) (by decide +kernel), List.mem_of_getElem? (i := 427) (by decide +kernel)⟩
theorem lw_p31 : lw_okq (⟨"FeedMixes$Limits", "leaveOut", "(I)Z"⟩, 7) := ⟨⟨by decide +kernel, by decide +kernel⟩, List.mem_of_getElem? (i := 82) (by decide +kernel), List.mem_of_getElem? (i := 433) (by decide +kernel), List.mem_of_getElem? (i := 434) (by decide +kernel)⟩
def lw_privs_2 : List (MethodName × Nat) := [(⟨"FeedMixes$Corners", "addPlanesOfStuffs", "()V"⟩, 10), (⟨"FeedMixes$Corners", "addPlanesOfNutrients", "()Z"⟩, 10), (⟨"FeedMixes$Limits", "extremeOf", "(IZ)I"⟩, 7), (⟨"FeedMixes$Corners", "setCrossOf", "(II)V"⟩, 10), (⟨"FeedMixes$Corners", "isCorner", "(III)Z"⟩, 10), (⟨"FeedMixes$Limits", "allow", "(IJJ)Z"⟩, 7), (⟨"FeedMixes$Limits", "allOf", "(ILFeedMixes$Mix;)J"⟩, 7), (⟨"FeedMixes$Mix", "sum", "([I)J"⟩, 3), (⟨"FeedMixes$Corners", "offer", "(LFeedMixes$Mix;)V"⟩, 10), (⟨"FeedMixes$Mix", "isBetterThan", "(LFeedMixes$Mix;)Z"⟩, 3), (⟨"FeedMixes$Mix", "become", "(LFeedMixes$Mix;)V"⟩, 3), (⟨"FeedMixes$Mix", "isNone", "()Z"⟩, 3), (⟨"FeedMixes$Mixer", "tightBounds", "(LFeedMixes$Mix;)I"⟩, 3), (⟨"FeedMixes$Mixer", "canKeepBounds", "(I)Z"⟩, 3), (⟨"FeedMixes$Mixer", "clashingBounds", "(I)I"⟩, 3), (⟨"FeedMixes$Limits", "leaveOut", "(I)Z"⟩, 7)]
theorem lw_r2 : ∀ q ∈ lw_privs_2, lw_okq q := List.forall_mem_cons.mpr ⟨lw_p16, List.forall_mem_cons.mpr ⟨lw_p17, List.forall_mem_cons.mpr ⟨lw_p18, List.forall_mem_cons.mpr ⟨lw_p19, List.forall_mem_cons.mpr ⟨lw_p20, List.forall_mem_cons.mpr ⟨lw_p21, List.forall_mem_cons.mpr ⟨lw_p22, List.forall_mem_cons.mpr ⟨lw_p23, List.forall_mem_cons.mpr ⟨lw_p24, List.forall_mem_cons.mpr ⟨lw_p25, List.forall_mem_cons.mpr ⟨lw_p26, List.forall_mem_cons.mpr ⟨lw_p27, List.forall_mem_cons.mpr ⟨lw_p28, List.forall_mem_cons.mpr ⟨lw_p29, List.forall_mem_cons.mpr ⟨lw_p30, List.forall_mem_cons.mpr ⟨lw_p31, fun _ h => absurd h List.not_mem_nil⟩⟩⟩⟩⟩⟩⟩⟩⟩⟩⟩⟩⟩⟩⟩⟩
theorem lw_p32 : lw_okq (⟨"FeedMixesModel", "isStuff", "(I)Z"⟩, 31) := ⟨⟨by decide +kernel, by decide +kernel⟩, List.mem_of_getElem? (i := 480) (by decide +kernel), List.mem_of_getElem? (i := 592) (by decide +kernel), List.mem_of_getElem? (i := 593) (by decide +kernel)⟩
theorem lw_p33 : lw_okq (⟨"FeedMixesModel", "countAll", "()V"⟩, 31) := ⟨⟨by decide +kernel, by decide +kernel⟩, List.mem_of_getElem? (i := 480) (by decide +kernel), List.mem_of_getElem? (i := 620) (by decide +kernel), List.mem_of_getElem? (i := 621) (by decide +kernel)⟩
theorem lw_p34 : lw_okq (⟨"FeedMixesModel", "isThere", "(I)Z"⟩, 31) := ⟨⟨by decide +kernel, by decide +kernel⟩, List.mem_of_getElem? (i := 480) (by decide +kernel), List.mem_of_getElem? (i := 624) (by decide +kernel), List.mem_of_getElem? (i := 625) (by decide +kernel)⟩
theorem lw_p35 : lw_okq (⟨"FeedMixesModel", "isPossible", "(I)Z"⟩, 31) := ⟨⟨by decide +kernel, by decide +kernel⟩, List.mem_of_getElem? (i := 480) (by decide +kernel), List.mem_of_getElem? (i := 628) (by decide +kernel), List.mem_of_getElem? (i := 629) (by decide +kernel)⟩
theorem lw_p36 : lw_okq (⟨"FeedMixesModel", "freeAll", "()V"⟩, 31) := ⟨⟨by decide +kernel, by decide +kernel⟩, List.mem_of_getElem? (i := 480) (by decide +kernel), List.mem_of_getElem? (i := 632) (by decide +kernel), List.mem_of_getElem? (i := 633) (by decide +kernel)⟩
theorem lw_p37 : lw_okq (⟨"FeedMixesModel", "corners", "(IZ)V"⟩, 31) := ⟨⟨by decide +kernel, by decide +kernel⟩, List.mem_of_getElem? (i := 480) (by decide +kernel), List.mem_of_getElem? (i := 636) (by decide +kernel), List.mem_of_getElem? (i := 637) (by decide +kernel)⟩
theorem lw_p38 : lw_okq (⟨"FeedMixesModel", "look", "(I)Z"⟩, 31) := ⟨⟨by decide +kernel, by decide +kernel⟩, List.mem_of_getElem? (i := 480) (by decide +kernel), List.mem_of_getElem? (i := 640) (by decide +kernel), List.mem_of_getElem? (i := 641) (by decide +kernel)⟩
theorem lw_p39 : lw_okq (⟨"FeedMixesModel", "solve", "(I)Z"⟩, 31) := ⟨⟨by decide +kernel, by decide +kernel⟩, List.mem_of_getElem? (i := 480) (by decide +kernel), List.mem_of_getElem? (i := 644) (by decide +kernel), List.mem_of_getElem? (i := 645) (by decide +kernel)⟩
theorem lw_p40 : lw_okq (⟨"FeedMixesModel", "right", "(II)J"⟩, 31) := ⟨⟨by decide +kernel, by decide +kernel⟩, List.mem_of_getElem? (i := 480) (by decide +kernel), List.mem_of_getElem? (i := 648) (by decide +kernel), List.mem_of_getElem? (i := 649) (by decide +kernel)⟩
theorem lw_p41 : lw_okq (⟨"FeedMixesModel", "factor", "(II)J"⟩, 31) := ⟨⟨by decide +kernel, by decide +kernel⟩, List.mem_of_getElem? (i := 480) (by decide +kernel), List.mem_of_getElem? (i := 652) (by decide +kernel), List.mem_of_getElem? (i := 653) (by decide +kernel)⟩
theorem lw_p42 : lw_okq (⟨"FeedMixesModel", "keepsAll", "(I)Z"⟩, 31) := ⟨⟨by decide +kernel, by decide +kernel⟩, List.mem_of_getElem? (i := 480) (by decide +kernel), List.mem_of_getElem? (i := 658) (by decide +kernel), List.mem_of_getElem? (i := 659) (by decide +kernel)⟩
theorem lw_p43 : lw_okq (⟨"FeedMixesModel", "over", "(II[JJ)J"⟩, 31) := ⟨⟨by decide +kernel, by decide +kernel⟩, List.mem_of_getElem? (i := 480) (by decide +kernel), List.mem_of_getElem? (i := 662) (by decide +kernel), List.mem_of_getElem? (i := 663) (by decide +kernel)⟩
theorem lw_p44 : lw_okq (⟨"FeedMixesModel", "isBetter", "()Z"⟩, 31) := ⟨⟨by decide +kernel, by decide +kernel⟩, List.mem_of_getElem? (i := 480) (by decide +kernel), List.mem_of_getElem? (i := 669) (by decide +kernel), List.mem_of_getElem? (i := 670) (by decide +kernel)⟩
theorem lw_p45 : lw_okq (⟨"FeedMixesModel", "costOf", "([J)J"⟩, 31) := ⟨⟨by decide +kernel, by decide +kernel⟩, List.mem_of_getElem? (i := 480) (by decide +kernel), List.mem_of_getElem? (i := 673) (by decide +kernel), List.mem_of_getElem? (i := 674) (by decide +kernel)⟩
theorem lw_p46 : lw_okq (⟨"FeedMixesModel", "mixes", "(I)Z"⟩, 31) := ⟨⟨by decide +kernel, by decide +kernel⟩, List.mem_of_getElem? (i := 480) (by decide +kernel), List.mem_of_getElem? (i := 677) (by decide +kernel), List.mem_of_getElem? (i := 678) (by decide +kernel)⟩
theorem lw_p47 : lw_okq (⟨"FeedMixesModel", "most", "(I)I"⟩, 31) := ⟨⟨by decide +kernel, by decide +kernel⟩, List.mem_of_getElem? (i := 480) (by decide +kernel), List.mem_of_getElem? (i := 681) (by decide +kernel), List.mem_of_getElem? (i := 682) (by decide +kernel)⟩
def lw_privs_3 : List (MethodName × Nat) := [(⟨"FeedMixesModel", "isStuff", "(I)Z"⟩, 31), (⟨"FeedMixesModel", "countAll", "()V"⟩, 31), (⟨"FeedMixesModel", "isThere", "(I)Z"⟩, 31), (⟨"FeedMixesModel", "isPossible", "(I)Z"⟩, 31), (⟨"FeedMixesModel", "freeAll", "()V"⟩, 31), (⟨"FeedMixesModel", "corners", "(IZ)V"⟩, 31), (⟨"FeedMixesModel", "look", "(I)Z"⟩, 31), (⟨"FeedMixesModel", "solve", "(I)Z"⟩, 31), (⟨"FeedMixesModel", "right", "(II)J"⟩, 31), (⟨"FeedMixesModel", "factor", "(II)J"⟩, 31), (⟨"FeedMixesModel", "keepsAll", "(I)Z"⟩, 31), (⟨"FeedMixesModel", "over", "(II[JJ)J"⟩, 31), (⟨"FeedMixesModel", "isBetter", "()Z"⟩, 31), (⟨"FeedMixesModel", "costOf", "([J)J"⟩, 31), (⟨"FeedMixesModel", "mixes", "(I)Z"⟩, 31), (⟨"FeedMixesModel", "most", "(I)I"⟩, 31)]
theorem lw_r3 : ∀ q ∈ lw_privs_3, lw_okq q := List.forall_mem_cons.mpr ⟨lw_p32, List.forall_mem_cons.mpr ⟨lw_p33, List.forall_mem_cons.mpr ⟨lw_p34, List.forall_mem_cons.mpr ⟨lw_p35, List.forall_mem_cons.mpr ⟨lw_p36, List.forall_mem_cons.mpr ⟨lw_p37, List.forall_mem_cons.mpr ⟨lw_p38, List.forall_mem_cons.mpr ⟨lw_p39, List.forall_mem_cons.mpr ⟨lw_p40, List.forall_mem_cons.mpr ⟨lw_p41, List.forall_mem_cons.mpr ⟨lw_p42, List.forall_mem_cons.mpr ⟨lw_p43, List.forall_mem_cons.mpr ⟨lw_p44, List.forall_mem_cons.mpr ⟨lw_p45, List.forall_mem_cons.mpr ⟨lw_p46, List.forall_mem_cons.mpr ⟨lw_p47, fun _ h => absurd h List.not_mem_nil⟩⟩⟩⟩⟩⟩⟩⟩⟩⟩⟩⟩⟩⟩⟩⟩
theorem lw_p48 : lw_okq (⟨"FeedMixesModel", "fix", "(II)V"⟩, 31) := ⟨⟨by decide +kernel, by decide +kernel⟩, List.mem_of_getElem? (i := 480) (by decide +kernel), List.mem_of_getElem? (i := 685) (by decide +kernel), List.mem_of_getElem? (i := 686) (by decide +kernel)⟩
theorem lw_p49 : lw_okq (⟨"FeedMixesModel", "keepMix", "(I)V"⟩, 31) := ⟨⟨by decide +kernel, by decide +kernel⟩, List.mem_of_getElem? (i := 480) (by decide +kernel), List.mem_of_getElem? (i := 689) (by decide +kernel), List.mem_of_getElem? (i := 690) (by decide +kernel)⟩
def lw_privs_4 : List (MethodName × Nat) := [(⟨"FeedMixesModel", "fix", "(II)V"⟩, 31), (⟨"FeedMixesModel", "keepMix", "(I)V"⟩, 31)]
theorem lw_r4 : ∀ q ∈ lw_privs_4, lw_okq q := List.forall_mem_cons.mpr ⟨lw_p48, List.forall_mem_cons.mpr ⟨lw_p49, fun _ h => absurd h List.not_mem_nil⟩⟩
def lw_privs : List (MethodName × Nat) := lw_privs_1 ++ (lw_privs_2 ++ (lw_privs_3 ++ (lw_privs_4)))
def lw_tbl : List Cond := k2_sels lw_privs ++ tables_1
theorem lw_privs_ok : ∀ q ∈ lw_privs, lw_okq q := by
  show ∀ q ∈ lw_privs_1 ++ (lw_privs_2 ++ (lw_privs_3 ++ (lw_privs_4))), lw_okq q
  exact List.forall_mem_append.mpr ⟨lw_r1, List.forall_mem_append.mpr ⟨lw_r2, List.forall_mem_append.mpr ⟨lw_r3, lw_r4⟩⟩⟩
-- ===== end of PART A; then your names; then what follows =====
end
section
def RK : String := "FeedMixes$Corners"
def RL : String := "FeedMixes$Limits"
def RX : String := "FeedMixes$Mix"
def RE : String := "FeedMixes$Mixer"
def RT : String := "FeedMixes$Told"
def RF : String := "FeedMixes"
def RR : String := "FeedMixesModel"
def RW : String := "FeedMixesLaw"
def RJL : String := "java/lang/Long"
def RJM : String := "java/lang/Math"
def TK : u_T := fun k => match k with
  | 0 => ("FeedMixes$Corners", "told", "LFeedMixes$Told;", true)
  | 1 => ("FeedMixes$Corners", "limits", "LFeedMixes$Limits;", true)
  | 2 => ("FeedMixes$Corners", "ofLast", "[I", true)
  | 3 => ("FeedMixes$Corners", "slope", "[[I", true)
  | 4 => ("FeedMixes$Corners", "planeRow", "[I", true)
  | 5 => ("FeedMixes$Corners", "planeLevel", "[I", true)
  | 6 => ("FeedMixes$Corners", "planes", "I", false)
  | 7 => ("FeedMixes$Corners", "throughAll", "I", false)
  | 8 => ("FeedMixes$Corners", "crossAB", "[J", true)
  | _ => ("FeedMixes$Corners", "corner", "LFeedMixes$Mix;", true)
def tyK : Nat → FieldType := fun k => match k with
  | 0 => .object "FeedMixes$Told"
  | 1 => .object "FeedMixes$Limits"
  | 2 => .array .int
  | 3 => .array (.array .int)
  | 4 => .array .int
  | 5 => .array .int
  | 6 => .int
  | 7 => .int
  | 8 => .array .long
  | _ => .object "FeedMixes$Mix"
theorem nmK : ∀ a, a < 10 → ∀ b, b < 10 → a ≠ b → (TK a).2.1 ≠ (TK b).2.1 := by decide +kernel
theorem okK : ∀ k, k < 10 → parseFieldDescriptor (TK k).2.2.1 = some (tyK k) := by decide +kernel
abbrev uK : List Cond := u_ws RK TK 10
def TL : u_T := fun k => match k with
  | 0 => ("FeedMixes$Limits", "told", "LFeedMixes$Told;", true)
  | 1 => ("FeedMixes$Limits", "weight", "I", false)
  | 2 => ("FeedMixes$Limits", "whole", "I", false)
  | 3 => ("FeedMixes$Limits", "kept", "I", false)
  | 4 => ("FeedMixes$Limits", "low", "[I", true)
  | 5 => ("FeedMixes$Limits", "high", "[I", true)
  | _ => ("FeedMixes$Limits", "leanFirst", "[[I", true)
def tyL : Nat → FieldType := fun k => match k with
  | 0 => .object "FeedMixes$Told"
  | 1 => .int
  | 2 => .int
  | 3 => .int
  | 4 => .array .int
  | 5 => .array .int
  | _ => .array (.array .int)
theorem nmL : ∀ a, a < 7 → ∀ b, b < 7 → a ≠ b → (TL a).2.1 ≠ (TL b).2.1 := by decide +kernel
theorem okL : ∀ k, k < 7 → parseFieldDescriptor (TL k).2.2.1 = some (tyL k) := by decide +kernel
abbrev uL : List Cond := u_ws RL TL 7
def TX : u_T := fun k => match k with
  | 0 => ("FeedMixes$Mix", "amount", "[J", true)
  | 1 => ("FeedMixes$Mix", "price", "J", false)
  | _ => ("FeedMixes$Mix", "under", "J", false)
def tyX : Nat → FieldType := fun k => match k with
  | 0 => .array .long
  | 1 => .long
  | _ => .long
theorem nmX : ∀ a, a < 3 → ∀ b, b < 3 → a ≠ b → (TX a).2.1 ≠ (TX b).2.1 := by decide +kernel
theorem okX : ∀ k, k < 3 → parseFieldDescriptor (TX k).2.2.1 = some (tyX k) := by decide +kernel
abbrev uX : List Cond := u_ws RX TX 3
def TE : u_T := fun k => match k with
  | 0 => ("FeedMixes$Mixer", "told", "LFeedMixes$Told;", true)
  | 1 => ("FeedMixes$Mixer", "limits", "LFeedMixes$Limits;", true)
  | _ => ("FeedMixes$Mixer", "corners", "LFeedMixes$Corners;", true)
def tyE : Nat → FieldType := fun k => match k with
  | 0 => .object "FeedMixes$Told"
  | 1 => .object "FeedMixes$Limits"
  | _ => .object "FeedMixes$Corners"
theorem nmE : ∀ a, a < 3 → ∀ b, b < 3 → a ≠ b → (TE a).2.1 ≠ (TE b).2.1 := by decide +kernel
theorem okE : ∀ k, k < 3 → parseFieldDescriptor (TE k).2.2.1 = some (tyE k) := by decide +kernel
abbrev uE : List Cond := u_ws RE TE 3
def TT : u_T := fun k => match k with
  | 0 => ("FeedMixes$Told", "stuffs", "I", false)
  | 1 => ("FeedMixes$Told", "price", "[I", true)
  | 2 => ("FeedMixes$Told", "stock", "[I", true)
  | 3 => ("FeedMixes$Told", "leastShare", "[I", true)
  | 4 => ("FeedMixes$Told", "mostShare", "[I", true)
  | 5 => ("FeedMixes$Told", "silo", "[I", true)
  | 6 => ("FeedMixes$Told", "points", "[[I", true)
  | 7 => ("FeedMixes$Told", "leastNeed", "[I", true)
  | _ => ("FeedMixes$Told", "mostNeed", "[I", true)
def tyT : Nat → FieldType := fun k => match k with
  | 0 => .int
  | 1 => .array .int
  | 2 => .array .int
  | 3 => .array .int
  | 4 => .array .int
  | 5 => .array .int
  | 6 => .array (.array .int)
  | 7 => .array .int
  | _ => .array .int
theorem nmT : ∀ a, a < 9 → ∀ b, b < 9 → a ≠ b → (TT a).2.1 ≠ (TT b).2.1 := by decide +kernel
theorem okT : ∀ k, k < 9 → parseFieldDescriptor (TT k).2.2.1 = some (tyT k) := by decide +kernel
abbrev uT : List Cond := u_ws RT TT 9
def TF : u_T := fun k => match k with
  | 0 => ("FeedMixes", "told", "LFeedMixes$Told;", true)
  | 1 => ("FeedMixes", "mixer", "LFeedMixes$Mixer;", true)
  | 2 => ("FeedMixes", "lastAnswer", "I", false)
  | 3 => ("FeedMixes", "lastWeight", "I", false)
  | 4 => ("FeedMixes", "lastStuffs", "I", false)
  | 5 => ("FeedMixes", "lastTight", "I", false)
  | 6 => ("FeedMixes", "lastClash", "I", false)
  | 7 => ("FeedMixes", "lastMix", "LFeedMixes$Mix;", true)
  | 8 => ("FeedMixes", "mixNow", "LFeedMixes$Mix;", true)
  | 9 => ("FeedMixes", "mixThen", "LFeedMixes$Mix;", true)
  | 10 => ("FeedMixes", "medicineOnLine", "I", false)
  | _ => ("FeedMixes", "mixesOverLine", "I", false)
def tyF : Nat → FieldType := fun k => match k with
  | 0 => .object "FeedMixes$Told"
  | 1 => .object "FeedMixes$Mixer"
  | 2 => .int
  | 3 => .int
  | 4 => .int
  | 5 => .int
  | 6 => .int
  | 7 => .object "FeedMixes$Mix"
  | 8 => .object "FeedMixes$Mix"
  | 9 => .object "FeedMixes$Mix"
  | 10 => .int
  | _ => .int
theorem nmF : ∀ a, a < 12 → ∀ b, b < 12 → a ≠ b → (TF a).2.1 ≠ (TF b).2.1 := by decide +kernel
theorem okF : ∀ k, k < 12 → parseFieldDescriptor (TF k).2.2.1 = some (tyF k) := by decide +kernel
abbrev uF : List Cond := u_ws RF TF 12
def TR : u_T := fun k => match k with
  | 0 => ("FeedMixesModel", "stuffs", "I", false)
  | 1 => ("FeedMixesModel", "price", "[I", true)
  | 2 => ("FeedMixesModel", "stock", "[I", true)
  | 3 => ("FeedMixesModel", "points", "[I", true)
  | 4 => ("FeedMixesModel", "leastShare", "[I", true)
  | 5 => ("FeedMixesModel", "mostShare", "[I", true)
  | 6 => ("FeedMixesModel", "silo", "[I", true)
  | 7 => ("FeedMixesModel", "leastNeed", "[I", true)
  | 8 => ("FeedMixesModel", "mostNeed", "[I", true)
  | 9 => ("FeedMixesModel", "weight", "I", false)
  | 10 => ("FeedMixesModel", "answer", "I", false)
  | 11 => ("FeedMixesModel", "stuffsThen", "I", false)
  | 12 => ("FeedMixesModel", "amountAbove", "[J", true)
  | 13 => ("FeedMixesModel", "amountBelow", "[J", true)
  | 14 => ("FeedMixesModel", "costAbove", "J", false)
  | 15 => ("FeedMixesModel", "costBelow", "J", false)
  | 16 => ("FeedMixesModel", "justMet", "I", false)
  | 17 => ("FeedMixesModel", "clashing", "I", false)
  | 18 => ("FeedMixesModel", "on", "I", false)
  | 19 => ("FeedMixesModel", "overLine", "I", false)
  | 20 => ("FeedMixesModel", "counts", "[Z", true)
  | 21 => ("FeedMixesModel", "fixed", "[I", true)
  | 22 => ("FeedMixesModel", "free", "[I", true)
  | 23 => ("FeedMixesModel", "freeCount", "I", false)
  | 24 => ("FeedMixesModel", "rows", "[J", true)
  | 25 => ("FeedMixesModel", "x", "[J", true)
  | 26 => ("FeedMixesModel", "below", "J", false)
  | 27 => ("FeedMixesModel", "chosen", "[I", true)
  | 28 => ("FeedMixesModel", "found", "Z", false)
  | 29 => ("FeedMixesModel", "best", "[J", true)
  | _ => ("FeedMixesModel", "bestBelow", "J", false)
def tyR : Nat → FieldType := fun k => match k with
  | 0 => .int
  | 1 => .array .int
  | 2 => .array .int
  | 3 => .array .int
  | 4 => .array .int
  | 5 => .array .int
  | 6 => .array .int
  | 7 => .array .int
  | 8 => .array .int
  | 9 => .int
  | 10 => .int
  | 11 => .int
  | 12 => .array .long
  | 13 => .array .long
  | 14 => .long
  | 15 => .long
  | 16 => .int
  | 17 => .int
  | 18 => .int
  | 19 => .int
  | 20 => .array .boolean
  | 21 => .array .int
  | 22 => .array .int
  | 23 => .int
  | 24 => .array .long
  | 25 => .array .long
  | 26 => .long
  | 27 => .array .int
  | 28 => .boolean
  | 29 => .array .long
  | _ => .long
theorem nmR : ∀ a, a < 31 → ∀ b, b < 31 → a ≠ b → (TR a).2.1 ≠ (TR b).2.1 := by decide +kernel
theorem okR : ∀ k, k < 31 → parseFieldDescriptor (TR k).2.2.1 = some (tyR k) := by decide +kernel
abbrev uR : List Cond := u_ws RR TR 31
abbrev vwCl : List vw_C := [(RK, TK, 10), (RL, TL, 7), (RX, TX, 3), (RE, TE, 3), (RT, TT, 9), (RF, TF, 12), (RR, TR, 31)]
abbrev bF_init : ByteArray := prog_1_method_1_code
def yF_init : MethodName := ⟨RF, "<init>", "()V"⟩
abbrev bT_init : ByteArray := prog_6_method_1_code
def yT_init : MethodName := ⟨RT, "<init>", "()V"⟩
abbrev bE_init : ByteArray := prog_5_method_1_code
def yE_init : MethodName := ⟨RE, "<init>", "(LFeedMixes$Told;)V"⟩
abbrev bL_init : ByteArray := prog_3_method_1_code
def yL_init : MethodName := ⟨RL, "<init>", "(LFeedMixes$Told;)V"⟩
abbrev bK_init : ByteArray := prog_2_method_1_code
def yK_init : MethodName := ⟨RK, "<init>", "(LFeedMixes$Told;LFeedMixes$Limits;)V"⟩
abbrev bX_init : ByteArray := prog_4_method_1_code
def yX_init : MethodName := ⟨RX, "<init>", "()V"⟩
abbrev bF_stuff : ByteArray := prog_1_method_2_code
def yF_stuff : MethodName := ⟨RF, "stuff", "(II)I"⟩
abbrev bF_isPrice : ByteArray := prog_1_method_20_code
def yF_isPrice : MethodName := ⟨RF, "isPrice", "(I)Z"⟩
abbrev bF_isWithin : ByteArray := prog_1_method_23_code
def yF_isWithin : MethodName := ⟨RF, "isWithin", "(III)Z"⟩
abbrev bF_isStock : ByteArray := prog_1_method_21_code
def yF_isStock : MethodName := ⟨RF, "isStock", "(I)Z"⟩
abbrev bF_price : ByteArray := prog_1_method_3_code
def yF_price : MethodName := ⟨RF, "price", "(II)I"⟩
abbrev bF_isStuff : ByteArray := prog_1_method_18_code
def yF_isStuff : MethodName := ⟨RF, "isStuff", "(I)Z"⟩
abbrev bF_stock : ByteArray := prog_1_method_4_code
def yF_stock : MethodName := ⟨RF, "stock", "(II)I"⟩
abbrev bF_holds : ByteArray := prog_1_method_5_code
def yF_holds : MethodName := ⟨RF, "holds", "(III)Z"⟩
abbrev bF_isNutrient : ByteArray := prog_1_method_19_code
def yF_isNutrient : MethodName := ⟨RF, "isNutrient", "(I)Z"⟩
abbrev bF_need : ByteArray := prog_1_method_6_code
def yF_need : MethodName := ⟨RF, "need", "(III)Z"⟩
abbrev bF_isRange : ByteArray := prog_1_method_22_code
def yF_isRange : MethodName := ⟨RF, "isRange", "(III)Z"⟩
abbrev bF_shares : ByteArray := prog_1_method_7_code
def yF_shares : MethodName := ⟨RF, "shares", "(III)Z"⟩
abbrev bF_silo : ByteArray := prog_1_method_8_code
def yF_silo : MethodName := ⟨RF, "silo", "(II)Z"⟩
abbrev bF_run : ByteArray := prog_1_method_9_code
def yF_run : MethodName := ⟨RF, "run", "(I)I"⟩
abbrev bE_findBest : ByteArray := prog_5_method_3_code
def yE_findBest : MethodName := ⟨RE, "findBest", "(ILFeedMixes$Mix;)Z"⟩
abbrev bE_begin : ByteArray := prog_5_method_2_code
def yE_begin : MethodName := ⟨RE, "begin", "(I)V"⟩
abbrev bL_keepAll : ByteArray := prog_3_method_2_code
def yL_keepAll : MethodName := ⟨RL, "keepAll", "(I)V"⟩
abbrev bL_widen : ByteArray := prog_3_method_4_code
def yL_widen : MethodName := ⟨RL, "widen", "(I)V"⟩
abbrev bL_isThere : ByteArray := prog_3_method_7_code
def yL_isThere : MethodName := ⟨RL, "isThere", "(I)Z"⟩
abbrev bF_rowOf : ByteArray := prog_1_method_25_code
def yF_rowOf : MethodName := ⟨RF, "rowOf", "(I)I"⟩
abbrev bL_keep : ByteArray := prog_3_method_5_code
def yL_keep : MethodName := ⟨RL, "keep", "(I)V"⟩
abbrev bF_isLeast : ByteArray := prog_1_method_26_code
def yF_isLeast : MethodName := ⟨RF, "isLeast", "(I)Z"⟩
abbrev bL_levelOf : ByteArray := prog_3_method_8_code
def yL_levelOf : MethodName := ⟨RL, "levelOf", "(I)I"⟩
abbrev bJM_max : ByteArray := prog_10_method_65_code
def yJM_max : MethodName := ⟨RJM, "max", "(II)I"⟩
abbrev bJM_min : ByteArray := prog_10_method_69_code
def yJM_min : MethodName := ⟨RJM, "min", "(II)I"⟩
abbrev bL_sortByPoints : ByteArray := prog_3_method_3_code
def yL_sortByPoints : MethodName := ⟨RL, "sortByPoints", "([I[I)V"⟩
abbrev bK_setSlopes : ByteArray := prog_2_method_2_code
def yK_setSlopes : MethodName := ⟨RK, "setSlopes", "()V"⟩
abbrev bK_pointsOf : ByteArray := prog_2_method_3_code
def yK_pointsOf : MethodName := ⟨RK, "pointsOf", "(II)I"⟩
abbrev bX_forget : ByteArray := prog_4_method_3_code
def yX_forget : MethodName := ⟨RX, "forget", "()V"⟩
abbrev bE_fillFromSilos : ByteArray := prog_5_method_4_code
def yE_fillFromSilos : MethodName := ⟨RE, "fillFromSilos", "(LFeedMixes$Mixer;IILFeedMixes$Mix;)V"⟩
abbrev bK_seek : ByteArray := prog_2_method_4_code
def yK_seek : MethodName := ⟨RK, "seek", "(LFeedMixes$Mix;)Z"⟩
abbrev bL_leaveRoomToStuffs : ByteArray := prog_3_method_9_code
def yL_leaveRoomToStuffs : MethodName := ⟨RL, "leaveRoomToStuffs", "()Z"⟩
abbrev bK_setPlanes : ByteArray := prog_2_method_5_code
def yK_setPlanes : MethodName := ⟨RK, "setPlanes", "()Z"⟩
abbrev bK_addPlanesOfOneAmount : ByteArray := prog_2_method_6_code
def yK_addPlanesOfOneAmount : MethodName := ⟨RK, "addPlanesOfOneAmount", "()V"⟩
abbrev bK_addPlane : ByteArray := prog_2_method_9_code
def yK_addPlane : MethodName := ⟨RK, "addPlane", "(II)V"⟩
abbrev bK_addPlanesOfStuffs : ByteArray := prog_2_method_7_code
def yK_addPlanesOfStuffs : MethodName := ⟨RK, "addPlanesOfStuffs", "()V"⟩
abbrev bK_addPlanesOfNutrients : ByteArray := prog_2_method_8_code
def yK_addPlanesOfNutrients : MethodName := ⟨RK, "addPlanesOfNutrients", "()Z"⟩
abbrev bL_extremeOf : ByteArray := prog_3_method_10_code
def yL_extremeOf : MethodName := ⟨RL, "extremeOf", "(IZ)I"⟩
abbrev bK_setCrossOf : ByteArray := prog_2_method_11_code
def yK_setCrossOf : MethodName := ⟨RK, "setCrossOf", "(II)V"⟩
abbrev bK_cross : ByteArray := prog_2_method_12_code
def yK_cross : MethodName := ⟨RK, "cross", "([I[II)J"⟩
abbrev bK_isCorner : ByteArray := prog_2_method_10_code
def yK_isCorner : MethodName := ⟨RK, "isCorner", "(III)Z"⟩
abbrev bL_allow : ByteArray := prog_3_method_11_code
def yL_allow : MethodName := ⟨RL, "allow", "(IJJ)Z"⟩
abbrev bL_allOf : ByteArray := prog_3_method_12_code
def yL_allOf : MethodName := ⟨RL, "allOf", "(ILFeedMixes$Mix;)J"⟩
abbrev bX_sum : ByteArray := prog_4_method_6_code
def yX_sum : MethodName := ⟨RX, "sum", "([I)J"⟩
abbrev bK_offer : ByteArray := prog_2_method_13_code
def yK_offer : MethodName := ⟨RK, "offer", "(LFeedMixes$Mix;)V"⟩
abbrev bX_isBetterThan : ByteArray := prog_4_method_5_code
def yX_isBetterThan : MethodName := ⟨RX, "isBetterThan", "(LFeedMixes$Mix;)Z"⟩
abbrev bJL_compare : ByteArray := prog_9_method_42_code
def yJL_compare : MethodName := ⟨RJL, "compare", "(JJ)I"⟩
abbrev bX_become : ByteArray := prog_4_method_4_code
def yX_become : MethodName := ⟨RX, "become", "(LFeedMixes$Mix;)V"⟩
abbrev bX_isNone : ByteArray := prog_4_method_2_code
def yX_isNone : MethodName := ⟨RX, "isNone", "()Z"⟩
abbrev bE_tightBounds : ByteArray := prog_5_method_7_code
def yE_tightBounds : MethodName := ⟨RE, "tightBounds", "(LFeedMixes$Mix;)I"⟩
abbrev bE_canKeepBounds : ByteArray := prog_5_method_5_code
def yE_canKeepBounds : MethodName := ⟨RE, "canKeepBounds", "(I)Z"⟩
abbrev bE_clashingBounds : ByteArray := prog_5_method_6_code
def yE_clashingBounds : MethodName := ⟨RE, "clashingBounds", "(I)I"⟩
abbrev bF_hasBound : ByteArray := prog_1_method_24_code
def yF_hasBound : MethodName := ⟨RF, "hasBound", "(II)Z"⟩
abbrev bL_leaveOut : ByteArray := prog_3_method_6_code
def yL_leaveOut : MethodName := ⟨RL, "leaveOut", "(I)Z"⟩
abbrev bF_amount : ByteArray := prog_1_method_10_code
def yF_amount : MethodName := ⟨RF, "amount", "(II)J"⟩
abbrev bF_partOf : ByteArray := prog_1_method_27_code
def yF_partOf : MethodName := ⟨RF, "partOf", "(JJI)J"⟩
abbrev bF_commonDivisor : ByteArray := prog_1_method_28_code
def yF_commonDivisor : MethodName := ⟨RF, "commonDivisor", "(JJ)J"⟩
abbrev bF_cost : ByteArray := prog_1_method_11_code
def yF_cost : MethodName := ⟨RF, "cost", "(I)J"⟩
abbrev bF_tight : ByteArray := prog_1_method_12_code
def yF_tight : MethodName := ⟨RF, "tight", "()I"⟩
abbrev bF_clash : ByteArray := prog_1_method_13_code
def yF_clash : MethodName := ⟨RF, "clash", "(I)I"⟩
abbrev bF_dearer : ByteArray := prog_1_method_14_code
def yF_dearer : MethodName := ⟨RF, "dearer", "(II)J"⟩
abbrev bF_line : ByteArray := prog_1_method_15_code
def yF_line : MethodName := ⟨RF, "line", "(I)I"⟩
abbrev bF_clean : ByteArray := prog_1_method_16_code
def yF_clean : MethodName := ⟨RF, "clean", "()I"⟩
abbrev bF_made : ByteArray := prog_1_method_17_code
def yF_made : MethodName := ⟨RF, "made", "()I"⟩
abbrev bR_init : ByteArray := prog_8_method_1_code
def yR_init : MethodName := ⟨RR, "<init>", "()V"⟩
abbrev bR_stuff : ByteArray := prog_8_method_5_code
def yR_stuff : MethodName := ⟨RR, "stuff", "(II)I"⟩
abbrev bR_in : ByteArray := prog_8_method_3_code
def yR_in : MethodName := ⟨RR, "in", "(III)Z"⟩
abbrev bR_price : ByteArray := prog_8_method_6_code
def yR_price : MethodName := ⟨RR, "price", "(II)I"⟩
abbrev bR_isStuff : ByteArray := prog_8_method_4_code
def yR_isStuff : MethodName := ⟨RR, "isStuff", "(I)Z"⟩
abbrev bR_stock : ByteArray := prog_8_method_7_code
def yR_stock : MethodName := ⟨RR, "stock", "(II)I"⟩
abbrev bR_holds : ByteArray := prog_8_method_8_code
def yR_holds : MethodName := ⟨RR, "holds", "(III)Z"⟩
abbrev bR_need : ByteArray := prog_8_method_9_code
def yR_need : MethodName := ⟨RR, "need", "(III)Z"⟩
abbrev bR_shares : ByteArray := prog_8_method_10_code
def yR_shares : MethodName := ⟨RR, "shares", "(III)Z"⟩
abbrev bR_silo : ByteArray := prog_8_method_11_code
def yR_silo : MethodName := ⟨RR, "silo", "(II)Z"⟩
abbrev bR_run : ByteArray := prog_8_method_31_code
def yR_run : MethodName := ⟨RR, "run", "(I)I"⟩
abbrev bR_countAll : ByteArray := prog_8_method_23_code
def yR_countAll : MethodName := ⟨RR, "countAll", "()V"⟩
abbrev bR_isThere : ByteArray := prog_8_method_12_code
def yR_isThere : MethodName := ⟨RR, "isThere", "(I)Z"⟩
abbrev bR_isPossible : ByteArray := prog_8_method_25_code
def yR_isPossible : MethodName := ⟨RR, "isPossible", "(I)Z"⟩
abbrev bR_freeAll : ByteArray := prog_8_method_24_code
def yR_freeAll : MethodName := ⟨RR, "freeAll", "()V"⟩
abbrev bR_corners : ByteArray := prog_8_method_22_code
def yR_corners : MethodName := ⟨RR, "corners", "(IZ)V"⟩
abbrev bR_look : ByteArray := prog_8_method_21_code
def yR_look : MethodName := ⟨RR, "look", "(I)Z"⟩
abbrev bR_solve : ByteArray := prog_8_method_18_code
def yR_solve : MethodName := ⟨RR, "solve", "(I)Z"⟩
abbrev bR_right : ByteArray := prog_8_method_14_code
def yR_right : MethodName := ⟨RR, "right", "(II)J"⟩
abbrev bR_factor : ByteArray := prog_8_method_13_code
def yR_factor : MethodName := ⟨RR, "factor", "(II)J"⟩
abbrev bR_keepsAll : ByteArray := prog_8_method_17_code
def yR_keepsAll : MethodName := ⟨RR, "keepsAll", "(I)Z"⟩
abbrev bR_over : ByteArray := prog_8_method_16_code
def yR_over : MethodName := ⟨RR, "over", "(II[JJ)J"⟩
abbrev bR_isLeast : ByteArray := prog_8_method_15_code
def yR_isLeast : MethodName := ⟨RR, "isLeast", "(I)Z"⟩
abbrev bR_isBetter : ByteArray := prog_8_method_20_code
def yR_isBetter : MethodName := ⟨RR, "isBetter", "()Z"⟩
abbrev bR_costOf : ByteArray := prog_8_method_19_code
def yR_costOf : MethodName := ⟨RR, "costOf", "([J)J"⟩
abbrev bR_mixes : ByteArray := prog_8_method_28_code
def yR_mixes : MethodName := ⟨RR, "mixes", "(I)Z"⟩
abbrev bR_most : ByteArray := prog_8_method_26_code
def yR_most : MethodName := ⟨RR, "most", "(I)I"⟩
abbrev bR_fix : ByteArray := prog_8_method_27_code
def yR_fix : MethodName := ⟨RR, "fix", "(II)V"⟩
abbrev bR_keepMix : ByteArray := prog_8_method_30_code
def yR_keepMix : MethodName := ⟨RR, "keepMix", "(I)V"⟩
abbrev bR_divisor : ByteArray := prog_8_method_29_code
def yR_divisor : MethodName := ⟨RR, "divisor", "(JJ)J"⟩
abbrev bR_amount : ByteArray := prog_8_method_32_code
def yR_amount : MethodName := ⟨RR, "amount", "(II)J"⟩
abbrev bR_cost : ByteArray := prog_8_method_33_code
def yR_cost : MethodName := ⟨RR, "cost", "(I)J"⟩
abbrev bR_tight : ByteArray := prog_8_method_34_code
def yR_tight : MethodName := ⟨RR, "tight", "()I"⟩
abbrev bR_clash : ByteArray := prog_8_method_35_code
def yR_clash : MethodName := ⟨RR, "clash", "(I)I"⟩
abbrev bR_dearer : ByteArray := prog_8_method_36_code
def yR_dearer : MethodName := ⟨RR, "dearer", "(II)J"⟩
abbrev bR_line : ByteArray := prog_8_method_37_code
def yR_line : MethodName := ⟨RR, "line", "(I)I"⟩
abbrev bR_clean : ByteArray := prog_8_method_38_code
def yR_clean : MethodName := ⟨RR, "clean", "()I"⟩
abbrev bR_made : ByteArray := prog_8_method_39_code
def yR_made : MethodName := ⟨RR, "made", "()I"⟩
/-- the words that a callee may be given: those of the tables that hold on -/
def gtb : List Cond := lw_tbl.filter goodWord
theorem gtb_in {w : Cond} {i : Nat} (h : lw_tbl[i]? = some w) (g : goodWord w = true) : w ∈ gtb := List.mem_filter.mpr ⟨List.mem_of_getElem? h, g⟩
theorem gtb_lw {w : Cond} (h : w ∈ gtb) : w ∈ lw_tbl := (List.mem_filter.mp h).1
theorem gtb_good {c : Cond} (hc : c ∈ gtb) : GoodIn gtb (c :: gtb) := fun w h => by
  have hw : w ∈ gtb := (List.mem_cons.mp h).elim (fun e => e ▸ hc) id
  exact ⟨hw, good_of_word (List.mem_filter.mp hw).2⟩
theorem gtb_goodL {c : Cond} (hc : c ∈ gtb) : GoodIn lw_tbl (c :: gtb) := fun w h => ⟨gtb_lw (gtb_good hc w h).1, (gtb_good hc w h).2⟩
theorem gtb_good1 {w : Cond} (hw : w ∈ gtb) : w ∈ gtb ∧ ((w.onTables && w.keeps) = true ∨ ∃ ty, w = .arrayClass ty) := ⟨hw, good_of_word (List.mem_filter.mp hw).2⟩
end
section
theorem laK_0 : u_lay RK TK 0 ∈ gtb := gtb_in (i := 209) (by decide +kernel) (by decide +kernel)
theorem laK_1 : u_lay RK TK 1 ∈ gtb := gtb_in (i := 211) (by decide +kernel) (by decide +kernel)
theorem laK_2 : u_lay RK TK 2 ∈ gtb := gtb_in (i := 213) (by decide +kernel) (by decide +kernel)
theorem laK_3 : u_lay RK TK 3 ∈ gtb := gtb_in (i := 215) (by decide +kernel) (by decide +kernel)
theorem laK_4 : u_lay RK TK 4 ∈ gtb := gtb_in (i := 217) (by decide +kernel) (by decide +kernel)
theorem laK_5 : u_lay RK TK 5 ∈ gtb := gtb_in (i := 219) (by decide +kernel) (by decide +kernel)
theorem laK_6 : u_lay RK TK 6 ∈ gtb := gtb_in (i := 221) (by decide +kernel) (by decide +kernel)
theorem laK_7 : u_lay RK TK 7 ∈ gtb := gtb_in (i := 223) (by decide +kernel) (by decide +kernel)
theorem laK_8 : u_lay RK TK 8 ∈ gtb := gtb_in (i := 225) (by decide +kernel) (by decide +kernel)
theorem laK_9 : u_lay RK TK 9 ∈ gtb := gtb_in (i := 227) (by decide +kernel) (by decide +kernel)
theorem inK : ∀ w ∈ uK, w ∈ gtb := by
  intro w h
  obtain ⟨k, hk, rfl⟩ := List.mem_map.mp h
  have hk := List.mem_range.mp hk
  match k, hk with
  | 0, _ => exact laK_0
  | 1, _ => exact laK_1
  | 2, _ => exact laK_2
  | 3, _ => exact laK_3
  | 4, _ => exact laK_4
  | 5, _ => exact laK_5
  | 6, _ => exact laK_6
  | 7, _ => exact laK_7
  | 8, _ => exact laK_8
  | 9, _ => exact laK_9
theorem laL_0 : u_lay RL TL 0 ∈ gtb := gtb_in (i := 152) (by decide +kernel) (by decide +kernel)
theorem laL_1 : u_lay RL TL 1 ∈ gtb := gtb_in (i := 154) (by decide +kernel) (by decide +kernel)
theorem laL_2 : u_lay RL TL 2 ∈ gtb := gtb_in (i := 156) (by decide +kernel) (by decide +kernel)
theorem laL_3 : u_lay RL TL 3 ∈ gtb := gtb_in (i := 158) (by decide +kernel) (by decide +kernel)
theorem laL_4 : u_lay RL TL 4 ∈ gtb := gtb_in (i := 160) (by decide +kernel) (by decide +kernel)
theorem laL_5 : u_lay RL TL 5 ∈ gtb := gtb_in (i := 162) (by decide +kernel) (by decide +kernel)
theorem laL_6 : u_lay RL TL 6 ∈ gtb := gtb_in (i := 164) (by decide +kernel) (by decide +kernel)
theorem inL : ∀ w ∈ uL, w ∈ gtb := by
  intro w h
  obtain ⟨k, hk, rfl⟩ := List.mem_map.mp h
  have hk := List.mem_range.mp hk
  match k, hk with
  | 0, _ => exact laL_0
  | 1, _ => exact laL_1
  | 2, _ => exact laL_2
  | 3, _ => exact laL_3
  | 4, _ => exact laL_4
  | 5, _ => exact laL_5
  | 6, _ => exact laL_6
theorem laX_0 : u_lay RX TX 0 ∈ gtb := gtb_in (i := 191) (by decide +kernel) (by decide +kernel)
theorem laX_1 : u_lay RX TX 1 ∈ gtb := gtb_in (i := 193) (by decide +kernel) (by decide +kernel)
theorem laX_2 : u_lay RX TX 2 ∈ gtb := gtb_in (i := 195) (by decide +kernel) (by decide +kernel)
theorem inX : ∀ w ∈ uX, w ∈ gtb := by
  intro w h
  obtain ⟨k, hk, rfl⟩ := List.mem_map.mp h
  have hk := List.mem_range.mp hk
  match k, hk with
  | 0, _ => exact laX_0
  | 1, _ => exact laX_1
  | 2, _ => exact laX_2
theorem laE_0 : u_lay RE TE 0 ∈ gtb := gtb_in (i := 233) (by decide +kernel) (by decide +kernel)
theorem laE_1 : u_lay RE TE 1 ∈ gtb := gtb_in (i := 235) (by decide +kernel) (by decide +kernel)
theorem laE_2 : u_lay RE TE 2 ∈ gtb := gtb_in (i := 237) (by decide +kernel) (by decide +kernel)
theorem inE : ∀ w ∈ uE, w ∈ gtb := by
  intro w h
  obtain ⟨k, hk, rfl⟩ := List.mem_map.mp h
  have hk := List.mem_range.mp hk
  match k, hk with
  | 0, _ => exact laE_0
  | 1, _ => exact laE_1
  | 2, _ => exact laE_2
theorem laT_0 : u_lay RT TT 0 ∈ gtb := gtb_in (i := 105) (by decide +kernel) (by decide +kernel)
theorem laT_1 : u_lay RT TT 1 ∈ gtb := gtb_in (i := 107) (by decide +kernel) (by decide +kernel)
theorem laT_2 : u_lay RT TT 2 ∈ gtb := gtb_in (i := 109) (by decide +kernel) (by decide +kernel)
theorem laT_3 : u_lay RT TT 3 ∈ gtb := gtb_in (i := 111) (by decide +kernel) (by decide +kernel)
theorem laT_4 : u_lay RT TT 4 ∈ gtb := gtb_in (i := 113) (by decide +kernel) (by decide +kernel)
theorem laT_5 : u_lay RT TT 5 ∈ gtb := gtb_in (i := 115) (by decide +kernel) (by decide +kernel)
theorem laT_6 : u_lay RT TT 6 ∈ gtb := gtb_in (i := 117) (by decide +kernel) (by decide +kernel)
theorem laT_7 : u_lay RT TT 7 ∈ gtb := gtb_in (i := 119) (by decide +kernel) (by decide +kernel)
theorem laT_8 : u_lay RT TT 8 ∈ gtb := gtb_in (i := 121) (by decide +kernel) (by decide +kernel)
theorem inT : ∀ w ∈ uT, w ∈ gtb := by
  intro w h
  obtain ⟨k, hk, rfl⟩ := List.mem_map.mp h
  have hk := List.mem_range.mp hk
  match k, hk with
  | 0, _ => exact laT_0
  | 1, _ => exact laT_1
  | 2, _ => exact laT_2
  | 3, _ => exact laT_3
  | 4, _ => exact laT_4
  | 5, _ => exact laT_5
  | 6, _ => exact laT_6
  | 7, _ => exact laT_7
  | 8, _ => exact laT_8
theorem laF_0 : u_lay RF TF 0 ∈ gtb := gtb_in (i := 254) (by decide +kernel) (by decide +kernel)
theorem laF_1 : u_lay RF TF 1 ∈ gtb := gtb_in (i := 256) (by decide +kernel) (by decide +kernel)
theorem laF_2 : u_lay RF TF 2 ∈ gtb := gtb_in (i := 258) (by decide +kernel) (by decide +kernel)
theorem laF_3 : u_lay RF TF 3 ∈ gtb := gtb_in (i := 260) (by decide +kernel) (by decide +kernel)
theorem laF_4 : u_lay RF TF 4 ∈ gtb := gtb_in (i := 262) (by decide +kernel) (by decide +kernel)
theorem laF_5 : u_lay RF TF 5 ∈ gtb := gtb_in (i := 264) (by decide +kernel) (by decide +kernel)
theorem laF_6 : u_lay RF TF 6 ∈ gtb := gtb_in (i := 266) (by decide +kernel) (by decide +kernel)
theorem laF_7 : u_lay RF TF 7 ∈ gtb := gtb_in (i := 268) (by decide +kernel) (by decide +kernel)
theorem laF_8 : u_lay RF TF 8 ∈ gtb := gtb_in (i := 270) (by decide +kernel) (by decide +kernel)
theorem laF_9 : u_lay RF TF 9 ∈ gtb := gtb_in (i := 272) (by decide +kernel) (by decide +kernel)
theorem laF_10 : u_lay RF TF 10 ∈ gtb := gtb_in (i := 274) (by decide +kernel) (by decide +kernel)
theorem laF_11 : u_lay RF TF 11 ∈ gtb := gtb_in (i := 276) (by decide +kernel) (by decide +kernel)
theorem inF : ∀ w ∈ uF, w ∈ gtb := by
  intro w h
  obtain ⟨k, hk, rfl⟩ := List.mem_map.mp h
  have hk := List.mem_range.mp hk
  match k, hk with
  | 0, _ => exact laF_0
  | 1, _ => exact laF_1
  | 2, _ => exact laF_2
  | 3, _ => exact laF_3
  | 4, _ => exact laF_4
  | 5, _ => exact laF_5
  | 6, _ => exact laF_6
  | 7, _ => exact laF_7
  | 8, _ => exact laF_8
  | 9, _ => exact laF_9
  | 10, _ => exact laF_10
  | 11, _ => exact laF_11
theorem laR_0 : u_lay RR TR 0 ∈ gtb := gtb_in (i := 566) (by decide +kernel) (by decide +kernel)
theorem laR_1 : u_lay RR TR 1 ∈ gtb := gtb_in (i := 568) (by decide +kernel) (by decide +kernel)
theorem laR_2 : u_lay RR TR 2 ∈ gtb := gtb_in (i := 570) (by decide +kernel) (by decide +kernel)
theorem laR_3 : u_lay RR TR 3 ∈ gtb := gtb_in (i := 572) (by decide +kernel) (by decide +kernel)
theorem laR_4 : u_lay RR TR 4 ∈ gtb := gtb_in (i := 574) (by decide +kernel) (by decide +kernel)
theorem laR_5 : u_lay RR TR 5 ∈ gtb := gtb_in (i := 576) (by decide +kernel) (by decide +kernel)
theorem laR_6 : u_lay RR TR 6 ∈ gtb := gtb_in (i := 578) (by decide +kernel) (by decide +kernel)
theorem laR_7 : u_lay RR TR 7 ∈ gtb := gtb_in (i := 580) (by decide +kernel) (by decide +kernel)
theorem laR_8 : u_lay RR TR 8 ∈ gtb := gtb_in (i := 582) (by decide +kernel) (by decide +kernel)
theorem laR_9 : u_lay RR TR 9 ∈ gtb := gtb_in (i := 584) (by decide +kernel) (by decide +kernel)
theorem laR_10 : u_lay RR TR 10 ∈ gtb := gtb_in (i := 586) (by decide +kernel) (by decide +kernel)
theorem laR_11 : u_lay RR TR 11 ∈ gtb := gtb_in (i := 588) (by decide +kernel) (by decide +kernel)
theorem laR_12 : u_lay RR TR 12 ∈ gtb := gtb_in (i := 590) (by decide +kernel) (by decide +kernel)
theorem laR_13 : u_lay RR TR 13 ∈ gtb := gtb_in (i := 592) (by decide +kernel) (by decide +kernel)
theorem laR_14 : u_lay RR TR 14 ∈ gtb := gtb_in (i := 594) (by decide +kernel) (by decide +kernel)
theorem laR_15 : u_lay RR TR 15 ∈ gtb := gtb_in (i := 596) (by decide +kernel) (by decide +kernel)
theorem laR_16 : u_lay RR TR 16 ∈ gtb := gtb_in (i := 598) (by decide +kernel) (by decide +kernel)
theorem laR_17 : u_lay RR TR 17 ∈ gtb := gtb_in (i := 600) (by decide +kernel) (by decide +kernel)
theorem laR_18 : u_lay RR TR 18 ∈ gtb := gtb_in (i := 602) (by decide +kernel) (by decide +kernel)
theorem laR_19 : u_lay RR TR 19 ∈ gtb := gtb_in (i := 604) (by decide +kernel) (by decide +kernel)
theorem laR_20 : u_lay RR TR 20 ∈ gtb := gtb_in (i := 606) (by decide +kernel) (by decide +kernel)
theorem laR_21 : u_lay RR TR 21 ∈ gtb := gtb_in (i := 608) (by decide +kernel) (by decide +kernel)
theorem laR_22 : u_lay RR TR 22 ∈ gtb := gtb_in (i := 610) (by decide +kernel) (by decide +kernel)
theorem laR_23 : u_lay RR TR 23 ∈ gtb := gtb_in (i := 612) (by decide +kernel) (by decide +kernel)
theorem laR_24 : u_lay RR TR 24 ∈ gtb := gtb_in (i := 614) (by decide +kernel) (by decide +kernel)
theorem laR_25 : u_lay RR TR 25 ∈ gtb := gtb_in (i := 616) (by decide +kernel) (by decide +kernel)
theorem laR_26 : u_lay RR TR 26 ∈ gtb := gtb_in (i := 618) (by decide +kernel) (by decide +kernel)
theorem laR_27 : u_lay RR TR 27 ∈ gtb := gtb_in (i := 620) (by decide +kernel) (by decide +kernel)
theorem laR_28 : u_lay RR TR 28 ∈ gtb := gtb_in (i := 622) (by decide +kernel) (by decide +kernel)
theorem laR_29 : u_lay RR TR 29 ∈ gtb := gtb_in (i := 624) (by decide +kernel) (by decide +kernel)
theorem laR_30 : u_lay RR TR 30 ∈ gtb := gtb_in (i := 626) (by decide +kernel) (by decide +kernel)
theorem inR : ∀ w ∈ uR, w ∈ gtb := by
  intro w h
  obtain ⟨k, hk, rfl⟩ := List.mem_map.mp h
  have hk := List.mem_range.mp hk
  match k, hk with
  | 0, _ => exact laR_0
  | 1, _ => exact laR_1
  | 2, _ => exact laR_2
  | 3, _ => exact laR_3
  | 4, _ => exact laR_4
  | 5, _ => exact laR_5
  | 6, _ => exact laR_6
  | 7, _ => exact laR_7
  | 8, _ => exact laR_8
  | 9, _ => exact laR_9
  | 10, _ => exact laR_10
  | 11, _ => exact laR_11
  | 12, _ => exact laR_12
  | 13, _ => exact laR_13
  | 14, _ => exact laR_14
  | 15, _ => exact laR_15
  | 16, _ => exact laR_16
  | 17, _ => exact laR_17
  | 18, _ => exact laR_18
  | 19, _ => exact laR_19
  | 20, _ => exact laR_20
  | 21, _ => exact laR_21
  | 22, _ => exact laR_22
  | 23, _ => exact laR_23
  | 24, _ => exact laR_24
  | 25, _ => exact laR_25
  | 26, _ => exact laR_26
  | 27, _ => exact laR_27
  | 28, _ => exact laR_28
  | 29, _ => exact laR_29
  | 30, _ => exact laR_30
  | k + 31, h => exact absurd h (by omega)
end
section
/-! What models are made of, and the rows by which a walk follows a model. -/
abbrev SI : Type := Nat → Nat → Int32
abbrev SJ : Type := Nat → Nat → Int64
/-- a number gets a name -/
def nm {α β : Type} (e : α) (f : α → β) : β := f e
/-- a check: if it fails there is no model -/
def gd {α : Type} (c : Prop) [Decidable c] (x : Option α) : Option α := if c then x else none
/-- a call -/
def cl3 {α β : Type} (x : Option (α × SI × SJ)) (f : α → SI → SJ → Option β) : Option β := match x with
  | some (r, I, J) => f r I J
  | none => none
def cl2 {β : Type} (x : Option (SI × SJ)) (f : SI → SJ → Option β) : Option β := match x with
  | some (I, J) => f I J
  | none => none
def cl1 {α β : Type} (x : Option α) (f : α → Option β) : Option β := match x with
  | some r => f r
  | none => none
theorem nm_to {α β : Type} {e v : α} {f : α → β} {r : β} (h : v = e) (hm : nm e f = r) : f v = r := by subst h; exact hm
theorem gd_to {α : Type} {c : Prop} [Decidable c] {x : Option α} {r : α} (h : gd c x = some r) : c ∧ x = some r := by
  unfold gd at h
  split at h
  · exact ⟨by assumption, h⟩
  · cases h
theorem gd_of {α : Type} {c : Prop} [Decidable c] {x : Option α} (h : c) : gd c x = x := if_pos h
theorem cl3_to {α β : Type} {x : Option (α × SI × SJ)} {f : α → SI → SJ → Option β} {r : β} (h : cl3 x f = some r) : ∃ a I J, x = some (a, I, J) ∧ f a I J = some r := by
  match x, h with
  | some (a, I, J), h => exact ⟨a, I, J, rfl, h⟩
theorem cl2_to {β : Type} {x : Option (SI × SJ)} {f : SI → SJ → Option β} {r : β} (h : cl2 x f = some r) : ∃ I J, x = some (I, J) ∧ f I J = some r := by
  match x, h with
  | some (I, J), h => exact ⟨I, J, rfl, h⟩
theorem cl1_to {α β : Type} {x : Option α} {f : α → Option β} {r : β} (h : cl1 x f = some r) : ∃ a, x = some a ∧ f a = some r := by
  match x, h with
  | some a, h => exact ⟨a, rfl, h⟩
theorem brp {α : Type} {c : Prop} [Decidable c] {a b r : α} (h : (if c then a else b) = r) (hc : c) : a = r := by rw [if_pos hc] at h; exact h
theorem brn {α : Type} {c : Prop} [Decidable c] {a b r : α} (h : (if c then a else b) = r) (hc : ¬ c) : b = r := by rw [if_neg hc] at h; exact h
/-- vp_in, so that it can be decided -/
abbrev vin (i : Int32) (n : Nat) : Prop := ¬ (i < 0 ∨ n ≤ i.toNatClampNeg)
theorem vp_lt {i : Int32} {n : Nat} (h : vp_in i n) : i.toNatClampNeg < n := Nat.not_le.mp fun q => h (Or.inr q)
theorem P_eq {D : va_G} {cl : List vw_C} {ws ws2 : va_W} {H : Heap} (h : va_P D cl ws H) (e : ws = ws2) : va_P D cl ws2 H := e ▸ h
theorem D_eq {A : Nat → Prop} {ws ws2 : va_W} (h : va_D A ws) (e : ws = ws2) : va_D A ws2 := e ▸ h
/-- the words of nest mates: they hold on, but not by goodWord -/
def isNs : Cond → Bool
  | .fieldLinkNest .. => true
  | .methodLinkNest .. => true
  | _ => false
def nwt : List Cond := lw_tbl.filter isNs
theorem nwt_in {w : Cond} {i : Nat} (h : lw_tbl[i]? = some w) (g : isNs w = true) : w ∈ nwt := List.mem_filter.mpr ⟨List.mem_of_getElem? h, g⟩
def NWs (U : State) : Prop := ∀ w ∈ nwt, va_Nw w U
theorem NWs.warm {s U : State} (hW : s.WarmedH U.vm) (h : NWs s) : NWs U := fun w hw => by
  have hi := (List.mem_filter.mp hw).2
  cases w with
  | fieldLinkNest => exact va_Nw.warmF hW (h _ hw)
  | methodLinkNest => exact va_Nw.warmM hW (h _ hw)
  | _ => cases hi
theorem NWs.same {u U : State} (e : u.vm = U.vm) (h : NWs u) : NWs U := fun w hw => by
  have hi := (List.mem_filter.mp hw).2
  cases w with
  | fieldLinkNest => exact va_Nw.same rfl e (h _ hw)
  | methodLinkNest => exact va_Nw.same rfl e (h _ hw)
  | _ => cases hi
theorem NWs.of {args : Array Value} {s : State} (h : ∀ w ∈ lw_tbl, w.before args s = true) : NWs s := fun w hw => by
  have hi := (List.mem_filter.mp hw).2
  have hb := h w (List.mem_filter.mp hw).1
  cases w with
  | fieldLinkNest => exact va_Nw.of rfl hb
  | methodLinkNest => exact va_Nw.of rfl hb
  | _ => cases hi
theorem gV {own : String} {idx : Nat} {C : String} {y : MethodName} {c : Cond} (h1 : .methodLink own idx y ∈ gtb) (h2 : .instanceMethod y ∈ gtb) (h3 : .selects C y y ∈ gtb) (h4 : .initialized C ∈ gtb) (h5 : c ∈ gtb) : GoodIn gtb (wsV own idx C y (c :: gtb)) := fun w h => by
  rcases List.mem_append.mp h with h | h
  · simp only [List.mem_cons, List.not_mem_nil, or_false] at h
    rcases h with rfl | rfl | rfl | rfl
    · exact gtb_good1 h1
    · exact gtb_good1 h2
    · exact gtb_good1 h3
    · exact gtb_good1 h4
  · exact gtb_good h5 w h
theorem gS {own : String} {idx : Nat} {y : MethodName} {c : Cond} (h1 : .methodLink own idx y ∈ gtb) (h2 : .static y ∈ gtb) (h3 : .initialized y.cls ∈ gtb) (h5 : c ∈ gtb) : GoodIn gtb (va_wsS own idx y (c :: gtb)) := fun w h => by
  rcases List.mem_append.mp h with h | h
  · simp only [List.mem_cons, List.not_mem_nil, or_false] at h
    rcases h with rfl | rfl | rfl
    · exact gtb_good1 h1
    · exact gtb_good1 h2
    · exact gtb_good1 h3
  · exact gtb_good h5 w h
theorem pf_I : parseFieldDescriptor "I" = some .int := by decide +kernel
theorem pf_J : parseFieldDescriptor "J" = some .long := by decide +kernel
theorem pf_Z : parseFieldDescriptor "Z" = some .boolean := by decide +kernel
/-- what a method's walk is begun with -/
def Cx (p : Program) (s : State) (m : MethodId) (args : Array Value) (meth : Method) (c : Code) (cc : ByteArray) (ret : Option FieldType) (nL : Nat) (own : String) : Prop :=
  p.tables.exec = Jvm.exec ∧ c.code = cc ∧ meth.sig.returnType = ret ∧ c.maxLocals = nL ∧ s.vm.findClass own = some m.cls ∧ (∀ w ∈ gtb, w.before args s = true) ∧ meth.locks = false
/-- the walk from a place in the code, over a world -/
def WB (p : Program) (l : Launch) (e : Env) (R : Room) (s : State) (m : MethodId) (args : Array Value) (below : List Frame) (meth : Method) (c : Code) (Q : State → Prop) (D : va_G) (cl : List vw_C) (A : Nat → Prop) (nL : Nat) (ws : va_W) (pc : Nat) (lv : List (Nat × Value)) (st : List Value) : Prop :=
  ∀ (H : Heap) (locs : List Loc) (ls : Array Slot), va_P D cl ws H → va_D A ws → va_S A s.heap H locs → lv_has ls nL lv → W p l e R s m args below meth c H locs 0 0 Q (F0 m pc ls st)
/-- the same of a method that touches no cell -/
def WZ (p : Program) (l : Launch) (e : Env) (R : Room) (s : State) (m : MethodId) (args : Array Value) (below : List Frame) (meth : Method) (c : Code) (Q : State → Prop) (nL : Nat) (pc : Nat) (lv : List (Nat × Value)) (st : List Value) : Prop :=
  ∀ (H : Heap) (locs : List Loc) (ls : Array Slot), va_S (fun _ => False) s.heap H locs → lv_has ls nL lv → W p l e R s m args below meth c H locs 0 0 Q (F0 m pc ls st)
abbrev atW (D : va_G) (cl : List vw_C) (tys : List (ClassId × FieldType)) (A : Nat → Prop) (wf : SI → SJ → va_W) (u : SI × SJ) (t : State) : Prop := va_P D cl (wf u.1 u.2) t.heap ∧ va_K D cl tys t ∧ va_D A (wf u.1 u.2)
abbrev preW (D : va_G) (cl : List vw_C) (tys : List (ClassId × FieldType)) (ws : va_W) (sz : Nat) (U : State) : Prop := U.heap.size = sz ∧ va_P D cl ws U.heap ∧ va_K D cl tys U ∧ va_D (fun _ => True) ws ∧ NWs U
theorem preW_fb {D : va_G} {cl : List vw_C} {tys : List (ClassId × FieldType)} {ws : va_W} {sz : Nat} {av : List Value} : FrameBlind (va_Pc av (preW D cl tys ws sz)) := fun a U g mk q => by
  obtain ⟨q0, q1, qP, qK, qD, qN⟩ := q
  exact ⟨q0, q1, qP, va_K.moved (u := U) (U := U.calling g mk a) (Vm.Alike.refl U.vm) qK, qD, NWs.same (u := U) rfl qN⟩
theorem preW_at {s : State} {H : Heap} {D : va_G} {cl : List vw_C} {tys : List (ClassId × FieldType)} {ws : va_W} {A : Nat → Prop} {av : List Value} (hP : va_P D cl ws H) (hK : va_K D cl tys s) (hN : NWs s) (hD : va_D A ws) : ∀ U : State, U.heap = H → s.WarmedH U.vm → va_Pc av (preW D cl tys ws H.size) av.toArray U :=
  fun U hU hW => ⟨rfl, by rw [hU], by rw [hU]; exact hP, va_K.moved hW.alike hK, hD.weaken (fun _ _ _ _ => trivial), NWs.warm hW hN⟩
theorem preZ_fb {av : List Value} : FrameBlind (va_Pc av (fun _ => True)) := fun _ _ _ _ q => q
theorem preZ_at {s : State} {H : Heap} {av : List Value} : ∀ U : State, U.heap = H → s.WarmedH U.vm → va_Pc av (fun _ => True) av.toArray U := fun _ _ _ => ⟨rfl, trivial⟩
theorem keptP {D : va_G} {cl : List vw_C} {ws : va_W} {H H1 : Heap} (hP : va_P D cl ws H) (hq : ∀ q : Nat, q < H.size → H1[q]? = H[q]?) : va_P D cl ws H1 := hP.kept fun k q hk => hq q.1 ((hP k q hk).lt)
theorem inA {A : Nat → Prop} {ws : va_W} {H0 H : Heap} {locs : List Loc} (hD : va_D A ws) (hS : va_S A H0 H locs) (hA : ∀ q, H0.size ≤ q → A q) : ∀ q, va_A ws H.size q → A q := by
  intro q h
  rcases h with ⟨k, e, h⟩ | h
  · exact hD.2 k (q, e) h
  · exact hA q (Nat.le_trans hS.1 h)
section PST
variable {p : Program} {l : Launch} {e : Env} {R : Room} {s : State} {m : MethodId} {args : Array Value} {below : List Frame} {meth : Method} {c : Code} {H : Heap} {locs : List Loc} {Q : State → Prop}
variable {pc : Nat} {ls : Array Slot} {rest st0 : List Value} {a : Array Value} {A : Nat → Prop} {D : va_G} {cl : List vw_C} {tys : List (ClassId × FieldType)} {wf : SI → SJ → va_W} {I I1 : SI} {J J1 : SJ}
theorem pst_i {r1 : Int32} (hD : va_D A (wf I J)) (hS : va_S A s.heap H locs) (hA : ∀ q, s.heap.size ≤ q → A q) (hr : va_Run p l e R s m args below meth c H locs 0 0 0 0 (F0 m pc ls st0) rest (va_Qi (fun (r : Int32) (u : SI × SJ) => (r, u) = (r1, I1, J1)) (atW D cl tys (va_A (wf I J) H.size) wf) (va_A (wf I J) H.size) a) (va_A (wf I J) H.size))
    (kk : ∀ (H1 : Heap) (locs1 : List Loc), va_P D cl (wf I1 J1) H1 → va_D A (wf I1 J1) → va_S A s.heap H1 locs1 → W p l e R s m args below meth c H1 locs1 0 0 Q (F0 m (pc + 3) ls (.int r1 :: rest))) : W p l e R s m args below meth c H locs 0 0 Q (F0 m pc ls st0) :=
  va_calli hr hS (fun q _ h => inA hD hS hA q h) (inA hD hS hA) (fun r u t H1 locs1 ht hvm hw hB hz hk hS1 => by
    cases hw
    exact kk H1 locs1 (ht ▸ hB.1) (hB.2.2.weaken (fun _ q _ h => inA hD hS hA q.1 h)) hS1)
theorem pst_l {r1 : Int64} (hD : va_D A (wf I J)) (hS : va_S A s.heap H locs) (hA : ∀ q, s.heap.size ≤ q → A q) (hr : va_Run p l e R s m args below meth c H locs 0 0 0 0 (F0 m pc ls st0) rest (va_Ql (fun (r : Int64) (u : SI × SJ) => (r, u) = (r1, I1, J1)) (atW D cl tys (va_A (wf I J) H.size) wf) (va_A (wf I J) H.size) a) (va_A (wf I J) H.size))
    (kk : ∀ (H1 : Heap) (locs1 : List Loc), va_P D cl (wf I1 J1) H1 → va_D A (wf I1 J1) → va_S A s.heap H1 locs1 → W p l e R s m args below meth c H1 locs1 0 0 Q (F0 m (pc + 3) ls (.long r1 :: rest))) : W p l e R s m args below meth c H locs 0 0 Q (F0 m pc ls st0) :=
  va_calll hr hS (fun q _ h => inA hD hS hA q h) (inA hD hS hA) (fun r u t H1 locs1 ht hvm hw hB hz hk hS1 => by
    cases hw
    exact kk H1 locs1 (ht ▸ hB.1) (hB.2.2.weaken (fun _ q _ h => inA hD hS hA q.1 h)) hS1)
theorem pst_v (hD : va_D A (wf I J)) (hS : va_S A s.heap H locs) (hA : ∀ q, s.heap.size ≤ q → A q) (hr : va_Run p l e R s m args below meth c H locs 0 0 0 0 (F0 m pc ls st0) rest (va_Qv (fun (u : SI × SJ) => u = (I1, J1)) (atW D cl tys (va_A (wf I J) H.size) wf) (va_A (wf I J) H.size) a) (va_A (wf I J) H.size))
    (kk : ∀ (H1 : Heap) (locs1 : List Loc), va_P D cl (wf I1 J1) H1 → va_D A (wf I1 J1) → va_S A s.heap H1 locs1 → W p l e R s m args below meth c H1 locs1 0 0 Q (F0 m (pc + 3) ls rest)) : W p l e R s m args below meth c H locs 0 0 Q (F0 m pc ls st0) :=
  va_callv hr hS (fun q _ h => inA hD hS hA q h) (inA hD hS hA) (fun u t H1 locs1 ht hvm hw hB hz hk hS1 => by
    cases hw
    exact kk H1 locs1 (ht ▸ hB.1) (hB.2.2.weaken (fun _ q _ h => inA hD hS hA q.1 h)) hS1)
theorem pstZ_i {r1 : Int32} (hS : va_S A s.heap H locs) (hr : va_Run p l e R s m args below meth c H locs 0 0 0 0 (F0 m pc ls st0) rest (va_Qi (fun (r : Int32) (_ : Unit) => r = r1) (fun _ _ => True) (fun _ => False) a) (fun _ => False))
    (kk : ∀ (H1 : Heap) (locs1 : List Loc), (∀ q : Nat, q < H.size → H1[q]? = H[q]?) → va_S A s.heap H1 locs1 → W p l e R s m args below meth c H1 locs1 0 0 Q (F0 m (pc + 3) ls (.int r1 :: rest))) : W p l e R s m args below meth c H locs 0 0 Q (F0 m pc ls st0) :=
  va_calli hr hS (fun _ _ h => h.elim) (fun _ h => h.elim) (fun r u t H1 locs1 ht hvm hw hB hz hk hS1 => by
    cases hw
    exact kk H1 locs1 (fun q hq => hk q hq (fun h => h)) hS1)
theorem pstZ_l {r1 : Int64} (hS : va_S A s.heap H locs) (hr : va_Run p l e R s m args below meth c H locs 0 0 0 0 (F0 m pc ls st0) rest (va_Ql (fun (r : Int64) (_ : Unit) => r = r1) (fun _ _ => True) (fun _ => False) a) (fun _ => False))
    (kk : ∀ (H1 : Heap) (locs1 : List Loc), (∀ q : Nat, q < H.size → H1[q]? = H[q]?) → va_S A s.heap H1 locs1 → W p l e R s m args below meth c H1 locs1 0 0 Q (F0 m (pc + 3) ls (.long r1 :: rest))) : W p l e R s m args below meth c H locs 0 0 Q (F0 m pc ls st0) :=
  va_calll hr hS (fun _ _ h => h.elim) (fun _ h => h.elim) (fun r u t H1 locs1 ht hvm hw hB hz hk hS1 => by
    cases hw
    exact kk H1 locs1 (fun q hq => hk q hq (fun h => h)) hS1)
end PST
section GRD
variable {p : Program} {l : Launch} {e : Env} {R : Room} {s : State} {m : MethodId} {args : Array Value} {below : List Frame} {meth : Method} {c : Code} {H : Heap} {locs : List Loc} {cells slots : Nat} {Q : State → Prop}
variable {cc : ByteArray} {pc : Nat} {ls : Array Slot} {rest : List Value} {D : va_G} {cl : List vw_C} {a : Nat} {tys : List (ClassId × FieldType)} {ws : va_W}
/-- a row of an array of arrays -/
theorem va_aldG (hexec : p.tables.exec = Jvm.exec) (hb : c.code = cc) (hK : va_K D cl tys s) (hP : va_P D cl ws H) (q0 t0 : Nat) {cA : ClassId} {ty : FieldType} {n r : Nat} {f : Nat → Option Nat} (ha : ws[q0]? = some (a, .inl (cA, n, .inr (.inr (.inr (.inr f)))))) (ht : tys[t0]? = some (cA, ty)) (hty : ty.isReference = true) {i : Int32} (hin : vp_in i n) (hf : f i.toNatClampNeg = some r) (hdg : decode cc pc = .ok (.aaload, 1))
    (kk : W p l e R s m args below meth c H locs cells slots Q (F0 m (pc + 1) ls (.ref r :: rest))) : W p l e R s m args below meth c H locs cells slots Q (F0 m pc ls (.int i :: .ref a :: rest)) := by
  have hlt : i.toNatClampNeg < n := Nat.not_le.mp fun q => hin (Or.inr q)
  exact W.aald (v := va_rf (f i.toNatClampNeg)) (ty := ty) hexec hb (hP q0 _ ha) ((hK.2 t0 _ ht).1 n (fun j => va_rf (f j))) hty (fun q => by cases q) (by show ¬ (i < 0 ∨ (arrV _ _ _).slots.size ≤ _); rw [arrV_size]; exact hin) (by show (arrV _ _ _).slots[_]? = _; rw [arrV_read _ _ hlt]) rfl rfl hdg (by rw [hf]; exact kk)
end GRD
end
section
def fuel : Nat := 1000000
theorem wd_32 : Cond.selects RR yR_isStuff yR_isStuff ∈ gtb := gtb_in (i := 32) (by decide +kernel) (by decide +kernel)
theorem wd_33 : Cond.selects RR yR_countAll yR_countAll ∈ gtb := gtb_in (i := 33) (by decide +kernel) (by decide +kernel)
theorem wd_34 : Cond.selects RR yR_isThere yR_isThere ∈ gtb := gtb_in (i := 34) (by decide +kernel) (by decide +kernel)
theorem wd_35 : Cond.selects RR yR_isPossible yR_isPossible ∈ gtb := gtb_in (i := 35) (by decide +kernel) (by decide +kernel)
theorem wd_36 : Cond.selects RR yR_freeAll yR_freeAll ∈ gtb := gtb_in (i := 36) (by decide +kernel) (by decide +kernel)
theorem wd_37 : Cond.selects RR yR_corners yR_corners ∈ gtb := gtb_in (i := 37) (by decide +kernel) (by decide +kernel)
theorem wd_38 : Cond.selects RR yR_look yR_look ∈ gtb := gtb_in (i := 38) (by decide +kernel) (by decide +kernel)
theorem wd_39 : Cond.selects RR yR_solve yR_solve ∈ gtb := gtb_in (i := 39) (by decide +kernel) (by decide +kernel)
theorem wd_40 : Cond.selects RR yR_right yR_right ∈ gtb := gtb_in (i := 40) (by decide +kernel) (by decide +kernel)
theorem wd_41 : Cond.selects RR yR_factor yR_factor ∈ gtb := gtb_in (i := 41) (by decide +kernel) (by decide +kernel)
theorem wd_42 : Cond.selects RR yR_keepsAll yR_keepsAll ∈ gtb := gtb_in (i := 42) (by decide +kernel) (by decide +kernel)
theorem wd_43 : Cond.selects RR yR_over yR_over ∈ gtb := gtb_in (i := 43) (by decide +kernel) (by decide +kernel)
theorem wd_44 : Cond.selects RR yR_isBetter yR_isBetter ∈ gtb := gtb_in (i := 44) (by decide +kernel) (by decide +kernel)
theorem wd_45 : Cond.selects RR yR_costOf yR_costOf ∈ gtb := gtb_in (i := 45) (by decide +kernel) (by decide +kernel)
theorem wd_46 : Cond.selects RR yR_mixes yR_mixes ∈ gtb := gtb_in (i := 46) (by decide +kernel) (by decide +kernel)
theorem wd_47 : Cond.selects RR yR_most yR_most ∈ gtb := gtb_in (i := 47) (by decide +kernel) (by decide +kernel)
theorem wd_48 : Cond.selects RR yR_fix yR_fix ∈ gtb := gtb_in (i := 48) (by decide +kernel) (by decide +kernel)
theorem wd_49 : Cond.selects RR yR_keepMix yR_keepMix ∈ gtb := gtb_in (i := 49) (by decide +kernel) (by decide +kernel)
theorem wd_57 : Cond.initialized RR ∈ gtb := gtb_in (i := 57) (by decide +kernel) (by decide +kernel)
theorem wd_535 : Cond.fieldLink RR 67 "FeedMixesModel" "stuffs" "I" ∈ gtb := gtb_in (i := 535) (by decide +kernel) (by decide +kernel)
theorem wd_536 : Cond.fieldLink RR 7 "FeedMixesModel" "price" "[I" ∈ gtb := gtb_in (i := 536) (by decide +kernel) (by decide +kernel)
theorem wd_537 : Cond.fieldLink RR 13 "FeedMixesModel" "stock" "[I" ∈ gtb := gtb_in (i := 537) (by decide +kernel) (by decide +kernel)
theorem wd_538 : Cond.fieldLink RR 16 "FeedMixesModel" "points" "[I" ∈ gtb := gtb_in (i := 538) (by decide +kernel) (by decide +kernel)
theorem wd_539 : Cond.fieldLink RR 19 "FeedMixesModel" "leastShare" "[I" ∈ gtb := gtb_in (i := 539) (by decide +kernel) (by decide +kernel)
theorem wd_540 : Cond.fieldLink RR 22 "FeedMixesModel" "mostShare" "[I" ∈ gtb := gtb_in (i := 540) (by decide +kernel) (by decide +kernel)
theorem wd_541 : Cond.fieldLink RR 25 "FeedMixesModel" "silo" "[I" ∈ gtb := gtb_in (i := 541) (by decide +kernel) (by decide +kernel)
theorem wd_542 : Cond.fieldLink RR 28 "FeedMixesModel" "leastNeed" "[I" ∈ gtb := gtb_in (i := 542) (by decide +kernel) (by decide +kernel)
theorem wd_543 : Cond.fieldLink RR 31 "FeedMixesModel" "mostNeed" "[I" ∈ gtb := gtb_in (i := 543) (by decide +kernel) (by decide +kernel)
theorem wd_544 : Cond.fieldLink RR 161 "FeedMixesModel" "weight" "I" ∈ gtb := gtb_in (i := 544) (by decide +kernel) (by decide +kernel)
theorem wd_545 : Cond.fieldLink RR 34 "FeedMixesModel" "answer" "I" ∈ gtb := gtb_in (i := 545) (by decide +kernel) (by decide +kernel)
theorem wd_546 : Cond.fieldLink RR 164 "FeedMixesModel" "stuffsThen" "I" ∈ gtb := gtb_in (i := 546) (by decide +kernel) (by decide +kernel)
theorem wd_547 : Cond.fieldLink RR 38 "FeedMixesModel" "amountAbove" "[J" ∈ gtb := gtb_in (i := 547) (by decide +kernel) (by decide +kernel)
theorem wd_548 : Cond.fieldLink RR 42 "FeedMixesModel" "amountBelow" "[J" ∈ gtb := gtb_in (i := 548) (by decide +kernel) (by decide +kernel)
theorem wd_549 : Cond.fieldLink RR 155 "FeedMixesModel" "costAbove" "J" ∈ gtb := gtb_in (i := 549) (by decide +kernel) (by decide +kernel)
theorem wd_550 : Cond.fieldLink RR 158 "FeedMixesModel" "costBelow" "J" ∈ gtb := gtb_in (i := 550) (by decide +kernel) (by decide +kernel)
theorem wd_551 : Cond.fieldLink RR 148 "FeedMixesModel" "justMet" "I" ∈ gtb := gtb_in (i := 551) (by decide +kernel) (by decide +kernel)
theorem wd_552 : Cond.fieldLink RR 170 "FeedMixesModel" "clashing" "I" ∈ gtb := gtb_in (i := 552) (by decide +kernel) (by decide +kernel)
theorem wd_553 : Cond.fieldLink RR 180 "FeedMixesModel" "on" "I" ∈ gtb := gtb_in (i := 553) (by decide +kernel) (by decide +kernel)
theorem wd_554 : Cond.fieldLink RR 183 "FeedMixesModel" "overLine" "I" ∈ gtb := gtb_in (i := 554) (by decide +kernel) (by decide +kernel)
theorem wd_555 : Cond.fieldLink RR 45 "FeedMixesModel" "counts" "[Z" ∈ gtb := gtb_in (i := 555) (by decide +kernel) (by decide +kernel)
theorem wd_556 : Cond.fieldLink RR 49 "FeedMixesModel" "fixed" "[I" ∈ gtb := gtb_in (i := 556) (by decide +kernel) (by decide +kernel)
theorem wd_557 : Cond.fieldLink RR 52 "FeedMixesModel" "free" "[I" ∈ gtb := gtb_in (i := 557) (by decide +kernel) (by decide +kernel)
theorem wd_558 : Cond.fieldLink RR 98 "FeedMixesModel" "freeCount" "I" ∈ gtb := gtb_in (i := 558) (by decide +kernel) (by decide +kernel)
theorem wd_559 : Cond.fieldLink RR 55 "FeedMixesModel" "rows" "[J" ∈ gtb := gtb_in (i := 559) (by decide +kernel) (by decide +kernel)
theorem wd_560 : Cond.fieldLink RR 58 "FeedMixesModel" "x" "[J" ∈ gtb := gtb_in (i := 560) (by decide +kernel) (by decide +kernel)
theorem wd_561 : Cond.fieldLink RR 87 "FeedMixesModel" "below" "J" ∈ gtb := gtb_in (i := 561) (by decide +kernel) (by decide +kernel)
theorem wd_562 : Cond.fieldLink RR 61 "FeedMixesModel" "chosen" "[I" ∈ gtb := gtb_in (i := 562) (by decide +kernel) (by decide +kernel)
theorem wd_563 : Cond.fieldLink RR 116 "FeedMixesModel" "found" "Z" ∈ gtb := gtb_in (i := 563) (by decide +kernel) (by decide +kernel)
theorem wd_564 : Cond.fieldLink RR 64 "FeedMixesModel" "best" "[J" ∈ gtb := gtb_in (i := 564) (by decide +kernel) (by decide +kernel)
theorem wd_565 : Cond.fieldLink RR 107 "FeedMixesModel" "bestBelow" "J" ∈ gtb := gtb_in (i := 565) (by decide +kernel) (by decide +kernel)
theorem wd_634 : Cond.methodLink RR 70 yR_in ∈ gtb := gtb_in (i := 634) (by decide +kernel) (by decide +kernel)
theorem wd_635 : Cond.static yR_in ∈ gtb := gtb_in (i := 635) (by decide +kernel) (by decide +kernel)
set_option maxRecDepth 100000 in
theorem wd_636 : Cond.code yR_in bR_in 3 (some .boolean) ∈ gtb := gtb_in (i := 636) rfl (by decide +kernel)
theorem wd_641 : Cond.methodLink RR 74 yR_isStuff ∈ gtb := gtb_in (i := 641) (by decide +kernel) (by decide +kernel)
theorem wd_643 : Cond.instanceMethod yR_isStuff ∈ gtb := gtb_in (i := 643) (by decide +kernel) (by decide +kernel)
set_option maxRecDepth 100000 in
theorem wd_644 : Cond.code yR_isStuff bR_isStuff 2 (some .boolean) ∈ gtb := gtb_in (i := 644) rfl (by decide +kernel)
theorem wd_669 : Cond.methodLink RR 137 yR_countAll ∈ gtb := gtb_in (i := 669) (by decide +kernel) (by decide +kernel)
theorem wd_671 : Cond.instanceMethod yR_countAll ∈ gtb := gtb_in (i := 671) (by decide +kernel) (by decide +kernel)
set_option maxRecDepth 100000 in
theorem wd_672 : Cond.code yR_countAll bR_countAll 2 none ∈ gtb := gtb_in (i := 672) rfl (by decide +kernel)
theorem wd_673 : Cond.methodLink RR 127 yR_isThere ∈ gtb := gtb_in (i := 673) (by decide +kernel) (by decide +kernel)
theorem wd_675 : Cond.instanceMethod yR_isThere ∈ gtb := gtb_in (i := 675) (by decide +kernel) (by decide +kernel)
set_option maxRecDepth 100000 in
theorem wd_676 : Cond.code yR_isThere bR_isThere 2 (some .boolean) ∈ gtb := gtb_in (i := 676) rfl (by decide +kernel)
theorem wd_677 : Cond.methodLink RR 167 yR_isPossible ∈ gtb := gtb_in (i := 677) (by decide +kernel) (by decide +kernel)
theorem wd_679 : Cond.instanceMethod yR_isPossible ∈ gtb := gtb_in (i := 679) (by decide +kernel) (by decide +kernel)
set_option maxRecDepth 100000 in
theorem wd_680 : Cond.code yR_isPossible bR_isPossible 2 (some .boolean) ∈ gtb := gtb_in (i := 680) rfl (by decide +kernel)
theorem wd_681 : Cond.methodLink RR 130 yR_freeAll ∈ gtb := gtb_in (i := 681) (by decide +kernel) (by decide +kernel)
theorem wd_683 : Cond.instanceMethod yR_freeAll ∈ gtb := gtb_in (i := 683) (by decide +kernel) (by decide +kernel)
set_option maxRecDepth 100000 in
theorem wd_684 : Cond.code yR_freeAll bR_freeAll 2 none ∈ gtb := gtb_in (i := 684) rfl (by decide +kernel)
theorem wd_685 : Cond.methodLink RR 133 yR_corners ∈ gtb := gtb_in (i := 685) (by decide +kernel) (by decide +kernel)
theorem wd_687 : Cond.instanceMethod yR_corners ∈ gtb := gtb_in (i := 687) (by decide +kernel) (by decide +kernel)
set_option maxRecDepth 100000 in
theorem wd_688 : Cond.code yR_corners bR_corners 9 none ∈ gtb := gtb_in (i := 688) rfl (by decide +kernel)
theorem wd_689 : Cond.methodLink RR 124 yR_look ∈ gtb := gtb_in (i := 689) (by decide +kernel) (by decide +kernel)
theorem wd_691 : Cond.instanceMethod yR_look ∈ gtb := gtb_in (i := 691) (by decide +kernel) (by decide +kernel)
set_option maxRecDepth 100000 in
theorem wd_692 : Cond.code yR_look bR_look 3 (some .boolean) ∈ gtb := gtb_in (i := 692) rfl (by decide +kernel)
theorem wd_693 : Cond.methodLink RR 110 yR_solve ∈ gtb := gtb_in (i := 693) (by decide +kernel) (by decide +kernel)
theorem wd_695 : Cond.instanceMethod yR_solve ∈ gtb := gtb_in (i := 695) (by decide +kernel) (by decide +kernel)
set_option maxRecDepth 100000 in
theorem wd_696 : Cond.code yR_solve bR_solve 13 (some .boolean) ∈ gtb := gtb_in (i := 696) rfl (by decide +kernel)
theorem wd_697 : Cond.methodLink RR 80 yR_right ∈ gtb := gtb_in (i := 697) (by decide +kernel) (by decide +kernel)
theorem wd_699 : Cond.instanceMethod yR_right ∈ gtb := gtb_in (i := 699) (by decide +kernel) (by decide +kernel)
set_option maxRecDepth 100000 in
theorem wd_700 : Cond.code yR_right bR_right 3 (some .long) ∈ gtb := gtb_in (i := 700) rfl (by decide +kernel)
theorem wd_701 : Cond.methodLink RR 84 yR_factor ∈ gtb := gtb_in (i := 701) (by decide +kernel) (by decide +kernel)
theorem wd_703 : Cond.instanceMethod yR_factor ∈ gtb := gtb_in (i := 703) (by decide +kernel) (by decide +kernel)
set_option maxRecDepth 100000 in
theorem wd_704 : Cond.code yR_factor bR_factor 3 (some .long) ∈ gtb := gtb_in (i := 704) rfl (by decide +kernel)
theorem wd_705 : Cond.constantLong RR 78 (10) ∈ gtb := gtb_in (i := 705) (by decide +kernel) (by decide +kernel)
theorem wd_706 : Cond.constantLong RR 101 (-1) ∈ gtb := gtb_in (i := 706) (by decide +kernel) (by decide +kernel)
theorem wd_707 : Cond.methodLink RR 113 yR_keepsAll ∈ gtb := gtb_in (i := 707) (by decide +kernel) (by decide +kernel)
theorem wd_709 : Cond.instanceMethod yR_keepsAll ∈ gtb := gtb_in (i := 709) (by decide +kernel) (by decide +kernel)
set_option maxRecDepth 100000 in
theorem wd_710 : Cond.code yR_keepsAll bR_keepsAll 6 (some .boolean) ∈ gtb := gtb_in (i := 710) rfl (by decide +kernel)
theorem wd_711 : Cond.methodLink RR 91 yR_over ∈ gtb := gtb_in (i := 711) (by decide +kernel) (by decide +kernel)
theorem wd_713 : Cond.instanceMethod yR_over ∈ gtb := gtb_in (i := 713) (by decide +kernel) (by decide +kernel)
set_option maxRecDepth 100000 in
theorem wd_714 : Cond.code yR_over bR_over 9 (some .long) ∈ gtb := gtb_in (i := 714) rfl (by decide +kernel)
theorem wd_715 : Cond.methodLink RR 95 yR_isLeast ∈ gtb := gtb_in (i := 715) (by decide +kernel) (by decide +kernel)
theorem wd_716 : Cond.static yR_isLeast ∈ gtb := gtb_in (i := 716) (by decide +kernel) (by decide +kernel)
set_option maxRecDepth 100000 in
theorem wd_717 : Cond.code yR_isLeast bR_isLeast 1 (some .boolean) ∈ gtb := gtb_in (i := 717) rfl (by decide +kernel)
theorem wd_718 : Cond.methodLink RR 120 yR_isBetter ∈ gtb := gtb_in (i := 718) (by decide +kernel) (by decide +kernel)
theorem wd_720 : Cond.instanceMethod yR_isBetter ∈ gtb := gtb_in (i := 720) (by decide +kernel) (by decide +kernel)
set_option maxRecDepth 100000 in
theorem wd_721 : Cond.code yR_isBetter bR_isBetter 6 (some .boolean) ∈ gtb := gtb_in (i := 721) rfl (by decide +kernel)
theorem wd_722 : Cond.methodLink RR 103 yR_costOf ∈ gtb := gtb_in (i := 722) (by decide +kernel) (by decide +kernel)
theorem wd_724 : Cond.instanceMethod yR_costOf ∈ gtb := gtb_in (i := 724) (by decide +kernel) (by decide +kernel)
set_option maxRecDepth 100000 in
theorem wd_725 : Cond.code yR_costOf bR_costOf 5 (some .long) ∈ gtb := gtb_in (i := 725) rfl (by decide +kernel)
theorem wd_726 : Cond.methodLink RR 173 yR_mixes ∈ gtb := gtb_in (i := 726) (by decide +kernel) (by decide +kernel)
theorem wd_728 : Cond.instanceMethod yR_mixes ∈ gtb := gtb_in (i := 728) (by decide +kernel) (by decide +kernel)
set_option maxRecDepth 100000 in
theorem wd_729 : Cond.code yR_mixes bR_mixes 6 (some .boolean) ∈ gtb := gtb_in (i := 729) rfl (by decide +kernel)
theorem wd_730 : Cond.methodLink RR 140 yR_most ∈ gtb := gtb_in (i := 730) (by decide +kernel) (by decide +kernel)
theorem wd_732 : Cond.instanceMethod yR_most ∈ gtb := gtb_in (i := 732) (by decide +kernel) (by decide +kernel)
set_option maxRecDepth 100000 in
theorem wd_733 : Cond.code yR_most bR_most 2 (some .int) ∈ gtb := gtb_in (i := 733) rfl (by decide +kernel)
theorem wd_734 : Cond.methodLink RR 144 yR_fix ∈ gtb := gtb_in (i := 734) (by decide +kernel) (by decide +kernel)
theorem wd_736 : Cond.instanceMethod yR_fix ∈ gtb := gtb_in (i := 736) (by decide +kernel) (by decide +kernel)
set_option maxRecDepth 100000 in
theorem wd_737 : Cond.code yR_fix bR_fix 3 none ∈ gtb := gtb_in (i := 737) rfl (by decide +kernel)
theorem wd_738 : Cond.methodLink RR 176 yR_keepMix ∈ gtb := gtb_in (i := 738) (by decide +kernel) (by decide +kernel)
theorem wd_740 : Cond.instanceMethod yR_keepMix ∈ gtb := gtb_in (i := 740) (by decide +kernel) (by decide +kernel)
set_option maxRecDepth 100000 in
theorem wd_741 : Cond.code yR_keepMix bR_keepMix 7 none ∈ gtb := gtb_in (i := 741) rfl (by decide +kernel)
theorem wd_742 : Cond.methodLink RR 151 yR_divisor ∈ gtb := gtb_in (i := 742) (by decide +kernel) (by decide +kernel)
theorem wd_743 : Cond.static yR_divisor ∈ gtb := gtb_in (i := 743) (by decide +kernel) (by decide +kernel)
set_option maxRecDepth 100000 in
theorem wd_744 : Cond.code yR_divisor bR_divisor 10 (some .long) ∈ gtb := gtb_in (i := 744) rfl (by decide +kernel)
end
section
abbrev tysR (cI cJ cG : ClassId) : List (ClassId × FieldType) := [(cI, .int), (cJ, .long), (cG, .boolean)]
def wsR (ad : Nat → Nat) (cI cJ cG : ClassId) (I : Nat → Nat → Int32) (J : Nat → Nat → Int64) : va_W :=
  [(ad 0, .inr (6, [.int (I 0 0), .ref (ad 1), .ref (ad 2), .ref (ad 3), .ref (ad 4), .ref (ad 5), .ref (ad 6), .ref (ad 7), .ref (ad 8), .int (I 0 9), .int (I 0 10), .int (I 0 11), .ref (ad 9), .ref (ad 10), .long (J 0 14), .long (J 0 15), .int (I 0 16), .int (I 0 17), .int (I 0 18), .int (I 0 19), .ref (ad 11), .ref (ad 12), .ref (ad 13), .int (I 0 23), .ref (ad 14), .ref (ad 15), .long (J 0 26), .ref (ad 16), .int (I 0 28), .ref (ad 17), .long (J 0 30)])),
   (ad 1, .inl (cI, 4, .inl (I 1))),
   (ad 2, .inl (cI, 4, .inl (I 2))),
   (ad 3, .inl (cI, 12, .inl (I 3))),
   (ad 4, .inl (cI, 4, .inl (I 4))),
   (ad 5, .inl (cI, 4, .inl (I 5))),
   (ad 6, .inl (cI, 4, .inl (I 6))),
   (ad 7, .inl (cI, 3, .inl (I 7))),
   (ad 8, .inl (cI, 3, .inl (I 8))),
   (ad 9, .inl (cJ, 4, .inr (.inl (J 9)))),
   (ad 10, .inl (cJ, 4, .inr (.inl (J 10)))),
   (ad 11, .inl (cG, 22, .inl (I 11))),
   (ad 12, .inl (cI, 4, .inl (I 12))),
   (ad 13, .inl (cI, 4, .inl (I 13))),
   (ad 14, .inl (cJ, 20, .inr (.inl (J 14)))),
   (ad 15, .inl (cJ, 4, .inr (.inl (J 15)))),
   (ad 16, .inl (cI, 3, .inl (I 16))),
   (ad 17, .inl (cJ, 4, .inr (.inl (J 17))))]
theorem famR_am {ad : Nat → Nat} {cI cJ cG : ClassId} {I : Nat → Nat → Int32} {J : Nat → Nat → Int64} {a : Nat} (h : a ∈ [15, 17]) : (wsR ad cI cJ cG I J)[a]? = some (ad a, .inl (cJ, 4, .inr (.inl (J a)))) := by
  simp only [List.mem_cons, List.not_mem_nil, or_false] at h
  rcases h with rfl | rfl <;> rfl
theorem dR_init_0 : decode bR_init 0 = .ok (.aload_n 0, 1) := by decide +kernel
theorem dR_init_1 : decode bR_init 1 = .ok (.invokespecial 1, 3) := by decide +kernel
theorem dR_init_4 : decode bR_init 4 = .ok (.aload_n 0, 1) := by decide +kernel
theorem dR_init_5 : decode bR_init 5 = .ok (.iconst 4, 1) := by decide +kernel
theorem dR_init_6 : decode bR_init 6 = .ok (.newarray .int, 2) := by decide +kernel
theorem dR_init_8 : decode bR_init 8 = .ok (.putfield 7, 3) := by decide +kernel
theorem dR_init_11 : decode bR_init 11 = .ok (.aload_n 0, 1) := by decide +kernel
theorem dR_init_12 : decode bR_init 12 = .ok (.iconst 4, 1) := by decide +kernel
theorem dR_init_13 : decode bR_init 13 = .ok (.newarray .int, 2) := by decide +kernel
theorem dR_init_15 : decode bR_init 15 = .ok (.putfield 13, 3) := by decide +kernel
theorem dR_init_18 : decode bR_init 18 = .ok (.aload_n 0, 1) := by decide +kernel
theorem dR_init_19 : decode bR_init 19 = .ok (.bipush 12, 2) := by decide +kernel
theorem dR_init_21 : decode bR_init 21 = .ok (.newarray .int, 2) := by decide +kernel
theorem dR_init_23 : decode bR_init 23 = .ok (.putfield 16, 3) := by decide +kernel
theorem dR_init_26 : decode bR_init 26 = .ok (.aload_n 0, 1) := by decide +kernel
theorem dR_init_27 : decode bR_init 27 = .ok (.iconst 4, 1) := by decide +kernel
theorem dR_init_28 : decode bR_init 28 = .ok (.newarray .int, 2) := by decide +kernel
theorem dR_init_30 : decode bR_init 30 = .ok (.putfield 19, 3) := by decide +kernel
theorem dR_init_33 : decode bR_init 33 = .ok (.aload_n 0, 1) := by decide +kernel
theorem dR_init_34 : decode bR_init 34 = .ok (.iconst 4, 1) := by decide +kernel
theorem dR_init_35 : decode bR_init 35 = .ok (.newarray .int, 2) := by decide +kernel
theorem dR_init_37 : decode bR_init 37 = .ok (.putfield 22, 3) := by decide +kernel
theorem dR_init_40 : decode bR_init 40 = .ok (.aload_n 0, 1) := by decide +kernel
theorem dR_init_41 : decode bR_init 41 = .ok (.iconst 4, 1) := by decide +kernel
theorem dR_init_42 : decode bR_init 42 = .ok (.newarray .int, 2) := by decide +kernel
theorem dR_init_44 : decode bR_init 44 = .ok (.putfield 25, 3) := by decide +kernel
theorem dR_init_47 : decode bR_init 47 = .ok (.aload_n 0, 1) := by decide +kernel
theorem dR_init_48 : decode bR_init 48 = .ok (.iconst 3, 1) := by decide +kernel
theorem dR_init_49 : decode bR_init 49 = .ok (.newarray .int, 2) := by decide +kernel
theorem dR_init_51 : decode bR_init 51 = .ok (.putfield 28, 3) := by decide +kernel
theorem dR_init_54 : decode bR_init 54 = .ok (.aload_n 0, 1) := by decide +kernel
theorem dR_init_55 : decode bR_init 55 = .ok (.iconst 3, 1) := by decide +kernel
theorem dR_init_56 : decode bR_init 56 = .ok (.newarray .int, 2) := by decide +kernel
theorem dR_init_58 : decode bR_init 58 = .ok (.putfield 31, 3) := by decide +kernel
theorem dR_init_61 : decode bR_init 61 = .ok (.aload_n 0, 1) := by decide +kernel
theorem dR_init_62 : decode bR_init 62 = .ok (.iconst (-1), 1) := by decide +kernel
theorem dR_init_63 : decode bR_init 63 = .ok (.putfield 34, 3) := by decide +kernel
theorem dR_init_66 : decode bR_init 66 = .ok (.aload_n 0, 1) := by decide +kernel
theorem dR_init_67 : decode bR_init 67 = .ok (.iconst 4, 1) := by decide +kernel
theorem dR_init_68 : decode bR_init 68 = .ok (.newarray .long, 2) := by decide +kernel
theorem dR_init_70 : decode bR_init 70 = .ok (.putfield 38, 3) := by decide +kernel
theorem dR_init_73 : decode bR_init 73 = .ok (.aload_n 0, 1) := by decide +kernel
theorem dR_init_74 : decode bR_init 74 = .ok (.iconst 4, 1) := by decide +kernel
theorem dR_init_75 : decode bR_init 75 = .ok (.newarray .long, 2) := by decide +kernel
theorem dR_init_77 : decode bR_init 77 = .ok (.putfield 42, 3) := by decide +kernel
theorem dR_init_80 : decode bR_init 80 = .ok (.aload_n 0, 1) := by decide +kernel
theorem dR_init_81 : decode bR_init 81 = .ok (.bipush 22, 2) := by decide +kernel
theorem dR_init_83 : decode bR_init 83 = .ok (.newarray .boolean, 2) := by decide +kernel
theorem dR_init_85 : decode bR_init 85 = .ok (.putfield 45, 3) := by decide +kernel
theorem dR_init_88 : decode bR_init 88 = .ok (.aload_n 0, 1) := by decide +kernel
theorem dR_init_89 : decode bR_init 89 = .ok (.iconst 4, 1) := by decide +kernel
theorem dR_init_90 : decode bR_init 90 = .ok (.newarray .int, 2) := by decide +kernel
theorem dR_init_92 : decode bR_init 92 = .ok (.putfield 49, 3) := by decide +kernel
theorem dR_init_95 : decode bR_init 95 = .ok (.aload_n 0, 1) := by decide +kernel
theorem dR_init_96 : decode bR_init 96 = .ok (.iconst 4, 1) := by decide +kernel
theorem dR_init_97 : decode bR_init 97 = .ok (.newarray .int, 2) := by decide +kernel
theorem dR_init_99 : decode bR_init 99 = .ok (.putfield 52, 3) := by decide +kernel
theorem dR_init_102 : decode bR_init 102 = .ok (.aload_n 0, 1) := by decide +kernel
theorem dR_init_103 : decode bR_init 103 = .ok (.bipush 20, 2) := by decide +kernel
theorem dR_init_105 : decode bR_init 105 = .ok (.newarray .long, 2) := by decide +kernel
theorem dR_init_107 : decode bR_init 107 = .ok (.putfield 55, 3) := by decide +kernel
theorem dR_init_110 : decode bR_init 110 = .ok (.aload_n 0, 1) := by decide +kernel
theorem dR_init_111 : decode bR_init 111 = .ok (.iconst 4, 1) := by decide +kernel
theorem dR_init_112 : decode bR_init 112 = .ok (.newarray .long, 2) := by decide +kernel
theorem dR_init_114 : decode bR_init 114 = .ok (.putfield 58, 3) := by decide +kernel
theorem dR_init_117 : decode bR_init 117 = .ok (.aload_n 0, 1) := by decide +kernel
theorem dR_init_118 : decode bR_init 118 = .ok (.iconst 3, 1) := by decide +kernel
theorem dR_init_119 : decode bR_init 119 = .ok (.newarray .int, 2) := by decide +kernel
theorem dR_init_121 : decode bR_init 121 = .ok (.putfield 61, 3) := by decide +kernel
theorem dR_init_124 : decode bR_init 124 = .ok (.aload_n 0, 1) := by decide +kernel
theorem dR_init_125 : decode bR_init 125 = .ok (.iconst 4, 1) := by decide +kernel
theorem dR_init_126 : decode bR_init 126 = .ok (.newarray .long, 2) := by decide +kernel
theorem dR_init_128 : decode bR_init 128 = .ok (.putfield 64, 3) := by decide +kernel
theorem dR_init_131 : decode bR_init 131 = .ok (.iconst 0, 1) := by decide +kernel
theorem dR_init_132 : decode bR_init 132 = .ok (.istore_n 1, 1) := by decide +kernel
theorem dR_init_133 : decode bR_init 133 = .ok (.iload_n 1, 1) := by decide +kernel
theorem dR_init_134 : decode bR_init 134 = .ok (.iconst 3, 1) := by decide +kernel
theorem dR_init_135 : decode bR_init 135 = .ok (.if_icmp .ge 17, 3) := by decide +kernel
theorem dR_init_138 : decode bR_init 138 = .ok (.aload_n 0, 1) := by decide +kernel
theorem dR_init_139 : decode bR_init 139 = .ok (.getfield 31, 3) := by decide +kernel
theorem dR_init_142 : decode bR_init 142 = .ok (.iload_n 1, 1) := by decide +kernel
theorem dR_init_143 : decode bR_init 143 = .ok (.bipush 40, 2) := by decide +kernel
theorem dR_init_145 : decode bR_init 145 = .ok (.iastore, 1) := by decide +kernel
theorem dR_init_146 : decode bR_init 146 = .ok (.iinc 1 1, 3) := by decide +kernel
theorem dR_init_149 : decode bR_init 149 = .ok (.goto (-16), 3) := by decide +kernel
theorem dR_init_152 : decode bR_init 152 = .ok (.return_, 1) := by decide +kernel
theorem dR_in_0 : decode bR_in 0 = .ok (.iload_n 0, 1) := by decide +kernel
theorem dR_in_1 : decode bR_in 1 = .ok (.iload_n 1, 1) := by decide +kernel
theorem dR_in_2 : decode bR_in 2 = .ok (.if_icmp .lt 12, 3) := by decide +kernel
theorem dR_in_5 : decode bR_in 5 = .ok (.iload_n 0, 1) := by decide +kernel
theorem dR_in_6 : decode bR_in 6 = .ok (.iload_n 2, 1) := by decide +kernel
theorem dR_in_7 : decode bR_in 7 = .ok (.if_icmp .gt 7, 3) := by decide +kernel
theorem dR_in_10 : decode bR_in 10 = .ok (.iconst 1, 1) := by decide +kernel
theorem dR_in_11 : decode bR_in 11 = .ok (.goto 4, 3) := by decide +kernel
theorem dR_in_14 : decode bR_in 14 = .ok (.iconst 0, 1) := by decide +kernel
theorem dR_in_15 : decode bR_in 15 = .ok (.ireturn, 1) := by decide +kernel
theorem dR_isStuff_0 : decode bR_isStuff 0 = .ok (.iload_n 1, 1) := by decide +kernel
theorem dR_isStuff_1 : decode bR_isStuff 1 = .ok (.ifCond .lt 15, 3) := by decide +kernel
theorem dR_isStuff_4 : decode bR_isStuff 4 = .ok (.iload_n 1, 1) := by decide +kernel
theorem dR_isStuff_5 : decode bR_isStuff 5 = .ok (.aload_n 0, 1) := by decide +kernel
theorem dR_isStuff_6 : decode bR_isStuff 6 = .ok (.getfield 67, 3) := by decide +kernel
theorem dR_isStuff_9 : decode bR_isStuff 9 = .ok (.if_icmp .ge 7, 3) := by decide +kernel
theorem dR_isStuff_12 : decode bR_isStuff 12 = .ok (.iconst 1, 1) := by decide +kernel
theorem dR_isStuff_13 : decode bR_isStuff 13 = .ok (.goto 4, 3) := by decide +kernel
theorem dR_isStuff_16 : decode bR_isStuff 16 = .ok (.iconst 0, 1) := by decide +kernel
theorem dR_isStuff_17 : decode bR_isStuff 17 = .ok (.ireturn, 1) := by decide +kernel
theorem dR_stuff_0 : decode bR_stuff 0 = .ok (.aload_n 0, 1) := by decide +kernel
theorem dR_stuff_1 : decode bR_stuff 1 = .ok (.getfield 67, 3) := by decide +kernel
theorem dR_stuff_4 : decode bR_stuff 4 = .ok (.iconst 4, 1) := by decide +kernel
theorem dR_stuff_5 : decode bR_stuff 5 = .ok (.if_icmp .eq 24, 3) := by decide +kernel
theorem dR_stuff_8 : decode bR_stuff 8 = .ok (.iload_n 1, 1) := by decide +kernel
theorem dR_stuff_9 : decode bR_stuff 9 = .ok (.iconst 0, 1) := by decide +kernel
theorem dR_stuff_10 : decode bR_stuff 10 = .ok (.sipush 1000, 3) := by decide +kernel
theorem dR_stuff_13 : decode bR_stuff 13 = .ok (.invokestatic 70, 3) := by decide +kernel
theorem dR_stuff_16 : decode bR_stuff 16 = .ok (.ifCond .eq 13, 3) := by decide +kernel
theorem dR_stuff_19 : decode bR_stuff 19 = .ok (.iload_n 2, 1) := by decide +kernel
theorem dR_stuff_20 : decode bR_stuff 20 = .ok (.iconst 0, 1) := by decide +kernel
theorem dR_stuff_21 : decode bR_stuff 21 = .ok (.bipush 40, 2) := by decide +kernel
theorem dR_stuff_23 : decode bR_stuff 23 = .ok (.invokestatic 70, 3) := by decide +kernel
theorem dR_stuff_26 : decode bR_stuff 26 = .ok (.ifCond .ne 5, 3) := by decide +kernel
theorem dR_stuff_29 : decode bR_stuff 29 = .ok (.iconst (-1), 1) := by decide +kernel
theorem dR_stuff_30 : decode bR_stuff 30 = .ok (.ireturn, 1) := by decide +kernel
theorem dR_stuff_31 : decode bR_stuff 31 = .ok (.aload_n 0, 1) := by decide +kernel
theorem dR_stuff_32 : decode bR_stuff 32 = .ok (.getfield 7, 3) := by decide +kernel
theorem dR_stuff_35 : decode bR_stuff 35 = .ok (.aload_n 0, 1) := by decide +kernel
theorem dR_stuff_36 : decode bR_stuff 36 = .ok (.getfield 67, 3) := by decide +kernel
theorem dR_stuff_39 : decode bR_stuff 39 = .ok (.iload_n 1, 1) := by decide +kernel
theorem dR_stuff_40 : decode bR_stuff 40 = .ok (.iastore, 1) := by decide +kernel
theorem dR_stuff_41 : decode bR_stuff 41 = .ok (.aload_n 0, 1) := by decide +kernel
theorem dR_stuff_42 : decode bR_stuff 42 = .ok (.getfield 13, 3) := by decide +kernel
theorem dR_stuff_45 : decode bR_stuff 45 = .ok (.aload_n 0, 1) := by decide +kernel
theorem dR_stuff_46 : decode bR_stuff 46 = .ok (.getfield 67, 3) := by decide +kernel
theorem dR_stuff_49 : decode bR_stuff 49 = .ok (.iload_n 2, 1) := by decide +kernel
theorem dR_stuff_50 : decode bR_stuff 50 = .ok (.iastore, 1) := by decide +kernel
theorem dR_stuff_51 : decode bR_stuff 51 = .ok (.aload_n 0, 1) := by decide +kernel
theorem dR_stuff_52 : decode bR_stuff 52 = .ok (.getfield 22, 3) := by decide +kernel
theorem dR_stuff_55 : decode bR_stuff 55 = .ok (.aload_n 0, 1) := by decide +kernel
theorem dR_stuff_56 : decode bR_stuff 56 = .ok (.getfield 67, 3) := by decide +kernel
theorem dR_stuff_59 : decode bR_stuff 59 = .ok (.bipush 10, 2) := by decide +kernel
theorem dR_stuff_61 : decode bR_stuff 61 = .ok (.iastore, 1) := by decide +kernel
theorem dR_stuff_62 : decode bR_stuff 62 = .ok (.aload_n 0, 1) := by decide +kernel
theorem dR_stuff_63 : decode bR_stuff 63 = .ok (.dup, 1) := by decide +kernel
theorem dR_stuff_64 : decode bR_stuff 64 = .ok (.getfield 67, 3) := by decide +kernel
theorem dR_stuff_67 : decode bR_stuff 67 = .ok (.iconst 1, 1) := by decide +kernel
theorem dR_stuff_68 : decode bR_stuff 68 = .ok (.iadd, 1) := by decide +kernel
theorem dR_stuff_69 : decode bR_stuff 69 = .ok (.putfield 67, 3) := by decide +kernel
theorem dR_stuff_72 : decode bR_stuff 72 = .ok (.aload_n 0, 1) := by decide +kernel
theorem dR_stuff_73 : decode bR_stuff 73 = .ok (.getfield 67, 3) := by decide +kernel
theorem dR_stuff_76 : decode bR_stuff 76 = .ok (.iconst 1, 1) := by decide +kernel
theorem dR_stuff_77 : decode bR_stuff 77 = .ok (.isub, 1) := by decide +kernel
theorem dR_stuff_78 : decode bR_stuff 78 = .ok (.ireturn, 1) := by decide +kernel
theorem dR_price_0 : decode bR_price 0 = .ok (.aload_n 0, 1) := by decide +kernel
theorem dR_price_1 : decode bR_price 1 = .ok (.iload_n 1, 1) := by decide +kernel
theorem dR_price_2 : decode bR_price 2 = .ok (.invokevirtual 74, 3) := by decide +kernel
theorem dR_price_5 : decode bR_price 5 = .ok (.ifCond .eq 14, 3) := by decide +kernel
theorem dR_price_8 : decode bR_price 8 = .ok (.iload_n 2, 1) := by decide +kernel
theorem dR_price_9 : decode bR_price 9 = .ok (.iconst 0, 1) := by decide +kernel
theorem dR_price_10 : decode bR_price 10 = .ok (.sipush 1000, 3) := by decide +kernel
theorem dR_price_13 : decode bR_price 13 = .ok (.invokestatic 70, 3) := by decide +kernel
theorem dR_price_16 : decode bR_price 16 = .ok (.ifCond .ne 5, 3) := by decide +kernel
theorem dR_price_19 : decode bR_price 19 = .ok (.iconst (-1), 1) := by decide +kernel
theorem dR_price_20 : decode bR_price 20 = .ok (.ireturn, 1) := by decide +kernel
theorem dR_price_21 : decode bR_price 21 = .ok (.aload_n 0, 1) := by decide +kernel
theorem dR_price_22 : decode bR_price 22 = .ok (.getfield 7, 3) := by decide +kernel
theorem dR_price_25 : decode bR_price 25 = .ok (.iload_n 1, 1) := by decide +kernel
theorem dR_price_26 : decode bR_price 26 = .ok (.iaload, 1) := by decide +kernel
theorem dR_price_27 : decode bR_price 27 = .ok (.istore_n 3, 1) := by decide +kernel
theorem dR_price_28 : decode bR_price 28 = .ok (.aload_n 0, 1) := by decide +kernel
theorem dR_price_29 : decode bR_price 29 = .ok (.getfield 7, 3) := by decide +kernel
theorem dR_price_32 : decode bR_price 32 = .ok (.iload_n 1, 1) := by decide +kernel
theorem dR_price_33 : decode bR_price 33 = .ok (.iload_n 2, 1) := by decide +kernel
theorem dR_price_34 : decode bR_price 34 = .ok (.iastore, 1) := by decide +kernel
theorem dR_price_35 : decode bR_price 35 = .ok (.iload_n 3, 1) := by decide +kernel
theorem dR_price_36 : decode bR_price 36 = .ok (.ireturn, 1) := by decide +kernel
theorem dR_stock_0 : decode bR_stock 0 = .ok (.aload_n 0, 1) := by decide +kernel
theorem dR_stock_1 : decode bR_stock 1 = .ok (.iload_n 1, 1) := by decide +kernel
theorem dR_stock_2 : decode bR_stock 2 = .ok (.invokevirtual 74, 3) := by decide +kernel
theorem dR_stock_5 : decode bR_stock 5 = .ok (.ifCond .eq 13, 3) := by decide +kernel
theorem dR_stock_8 : decode bR_stock 8 = .ok (.iload_n 2, 1) := by decide +kernel
theorem dR_stock_9 : decode bR_stock 9 = .ok (.iconst 0, 1) := by decide +kernel
theorem dR_stock_10 : decode bR_stock 10 = .ok (.bipush 40, 2) := by decide +kernel
theorem dR_stock_12 : decode bR_stock 12 = .ok (.invokestatic 70, 3) := by decide +kernel
theorem dR_stock_15 : decode bR_stock 15 = .ok (.ifCond .ne 5, 3) := by decide +kernel
theorem dR_stock_18 : decode bR_stock 18 = .ok (.iconst (-1), 1) := by decide +kernel
theorem dR_stock_19 : decode bR_stock 19 = .ok (.ireturn, 1) := by decide +kernel
theorem dR_stock_20 : decode bR_stock 20 = .ok (.aload_n 0, 1) := by decide +kernel
theorem dR_stock_21 : decode bR_stock 21 = .ok (.getfield 13, 3) := by decide +kernel
theorem dR_stock_24 : decode bR_stock 24 = .ok (.iload_n 1, 1) := by decide +kernel
theorem dR_stock_25 : decode bR_stock 25 = .ok (.iaload, 1) := by decide +kernel
theorem dR_stock_26 : decode bR_stock 26 = .ok (.istore_n 3, 1) := by decide +kernel
theorem dR_stock_27 : decode bR_stock 27 = .ok (.aload_n 0, 1) := by decide +kernel
theorem dR_stock_28 : decode bR_stock 28 = .ok (.getfield 13, 3) := by decide +kernel
theorem dR_stock_31 : decode bR_stock 31 = .ok (.iload_n 1, 1) := by decide +kernel
theorem dR_stock_32 : decode bR_stock 32 = .ok (.iload_n 2, 1) := by decide +kernel
theorem dR_stock_33 : decode bR_stock 33 = .ok (.iastore, 1) := by decide +kernel
theorem dR_stock_34 : decode bR_stock 34 = .ok (.iload_n 3, 1) := by decide +kernel
theorem dR_stock_35 : decode bR_stock 35 = .ok (.ireturn, 1) := by decide +kernel
theorem dR_holds_0 : decode bR_holds 0 = .ok (.aload_n 0, 1) := by decide +kernel
theorem dR_holds_1 : decode bR_holds 1 = .ok (.iload_n 1, 1) := by decide +kernel
theorem dR_holds_2 : decode bR_holds 2 = .ok (.invokevirtual 74, 3) := by decide +kernel
theorem dR_holds_5 : decode bR_holds 5 = .ok (.ifCond .eq 22, 3) := by decide +kernel
theorem dR_holds_8 : decode bR_holds 8 = .ok (.iload_n 2, 1) := by decide +kernel
theorem dR_holds_9 : decode bR_holds 9 = .ok (.iconst 0, 1) := by decide +kernel
theorem dR_holds_10 : decode bR_holds 10 = .ok (.iconst 2, 1) := by decide +kernel
theorem dR_holds_11 : decode bR_holds 11 = .ok (.invokestatic 70, 3) := by decide +kernel
theorem dR_holds_14 : decode bR_holds 14 = .ok (.ifCond .eq 13, 3) := by decide +kernel
theorem dR_holds_17 : decode bR_holds 17 = .ok (.iload_n 3, 1) := by decide +kernel
theorem dR_holds_18 : decode bR_holds 18 = .ok (.iconst 0, 1) := by decide +kernel
theorem dR_holds_19 : decode bR_holds 19 = .ok (.bipush 40, 2) := by decide +kernel
theorem dR_holds_21 : decode bR_holds 21 = .ok (.invokestatic 70, 3) := by decide +kernel
theorem dR_holds_24 : decode bR_holds 24 = .ok (.ifCond .ne 5, 3) := by decide +kernel
theorem dR_holds_27 : decode bR_holds 27 = .ok (.iconst 0, 1) := by decide +kernel
theorem dR_holds_28 : decode bR_holds 28 = .ok (.ireturn, 1) := by decide +kernel
theorem dR_holds_29 : decode bR_holds 29 = .ok (.aload_n 0, 1) := by decide +kernel
theorem dR_holds_30 : decode bR_holds 30 = .ok (.getfield 16, 3) := by decide +kernel
theorem dR_holds_33 : decode bR_holds 33 = .ok (.iconst 4, 1) := by decide +kernel
theorem dR_holds_34 : decode bR_holds 34 = .ok (.iload_n 2, 1) := by decide +kernel
theorem dR_holds_35 : decode bR_holds 35 = .ok (.imul, 1) := by decide +kernel
theorem dR_holds_36 : decode bR_holds 36 = .ok (.iload_n 1, 1) := by decide +kernel
theorem dR_holds_37 : decode bR_holds 37 = .ok (.iadd, 1) := by decide +kernel
theorem dR_holds_38 : decode bR_holds 38 = .ok (.iload_n 3, 1) := by decide +kernel
theorem dR_holds_39 : decode bR_holds 39 = .ok (.iastore, 1) := by decide +kernel
theorem dR_holds_40 : decode bR_holds 40 = .ok (.iconst 1, 1) := by decide +kernel
theorem dR_holds_41 : decode bR_holds 41 = .ok (.ireturn, 1) := by decide +kernel
theorem dR_need_0 : decode bR_need 0 = .ok (.iload_n 1, 1) := by decide +kernel
theorem dR_need_1 : decode bR_need 1 = .ok (.iconst 0, 1) := by decide +kernel
theorem dR_need_2 : decode bR_need 2 = .ok (.iconst 2, 1) := by decide +kernel
theorem dR_need_3 : decode bR_need 3 = .ok (.invokestatic 70, 3) := by decide +kernel
theorem dR_need_6 : decode bR_need 6 = .ok (.ifCond .eq 23, 3) := by decide +kernel
theorem dR_need_9 : decode bR_need 9 = .ok (.iload_n 2, 1) := by decide +kernel
theorem dR_need_10 : decode bR_need 10 = .ok (.iconst 0, 1) := by decide +kernel
theorem dR_need_11 : decode bR_need 11 = .ok (.bipush 40, 2) := by decide +kernel
theorem dR_need_13 : decode bR_need 13 = .ok (.invokestatic 70, 3) := by decide +kernel
theorem dR_need_16 : decode bR_need 16 = .ok (.ifCond .eq 13, 3) := by decide +kernel
theorem dR_need_19 : decode bR_need 19 = .ok (.iload_n 3, 1) := by decide +kernel
theorem dR_need_20 : decode bR_need 20 = .ok (.iload_n 2, 1) := by decide +kernel
theorem dR_need_21 : decode bR_need 21 = .ok (.bipush 40, 2) := by decide +kernel
theorem dR_need_23 : decode bR_need 23 = .ok (.invokestatic 70, 3) := by decide +kernel
theorem dR_need_26 : decode bR_need 26 = .ok (.ifCond .ne 5, 3) := by decide +kernel
theorem dR_need_29 : decode bR_need 29 = .ok (.iconst 0, 1) := by decide +kernel
theorem dR_need_30 : decode bR_need 30 = .ok (.ireturn, 1) := by decide +kernel
theorem dR_need_31 : decode bR_need 31 = .ok (.aload_n 0, 1) := by decide +kernel
theorem dR_need_32 : decode bR_need 32 = .ok (.getfield 28, 3) := by decide +kernel
theorem dR_need_35 : decode bR_need 35 = .ok (.iload_n 1, 1) := by decide +kernel
theorem dR_need_36 : decode bR_need 36 = .ok (.iload_n 2, 1) := by decide +kernel
theorem dR_need_37 : decode bR_need 37 = .ok (.iastore, 1) := by decide +kernel
theorem dR_need_38 : decode bR_need 38 = .ok (.aload_n 0, 1) := by decide +kernel
theorem dR_need_39 : decode bR_need 39 = .ok (.getfield 31, 3) := by decide +kernel
theorem dR_need_42 : decode bR_need 42 = .ok (.iload_n 1, 1) := by decide +kernel
theorem dR_need_43 : decode bR_need 43 = .ok (.iload_n 3, 1) := by decide +kernel
theorem dR_need_44 : decode bR_need 44 = .ok (.iastore, 1) := by decide +kernel
theorem dR_need_45 : decode bR_need 45 = .ok (.iconst 1, 1) := by decide +kernel
theorem dR_need_46 : decode bR_need 46 = .ok (.ireturn, 1) := by decide +kernel
theorem dR_shares_0 : decode bR_shares 0 = .ok (.aload_n 0, 1) := by decide +kernel
theorem dR_shares_1 : decode bR_shares 1 = .ok (.iload_n 1, 1) := by decide +kernel
theorem dR_shares_2 : decode bR_shares 2 = .ok (.invokevirtual 74, 3) := by decide +kernel
theorem dR_shares_5 : decode bR_shares 5 = .ok (.ifCond .eq 23, 3) := by decide +kernel
theorem dR_shares_8 : decode bR_shares 8 = .ok (.iload_n 2, 1) := by decide +kernel
theorem dR_shares_9 : decode bR_shares 9 = .ok (.iconst 0, 1) := by decide +kernel
theorem dR_shares_10 : decode bR_shares 10 = .ok (.bipush 10, 2) := by decide +kernel
theorem dR_shares_12 : decode bR_shares 12 = .ok (.invokestatic 70, 3) := by decide +kernel
theorem dR_shares_15 : decode bR_shares 15 = .ok (.ifCond .eq 13, 3) := by decide +kernel
theorem dR_shares_18 : decode bR_shares 18 = .ok (.iload_n 3, 1) := by decide +kernel
theorem dR_shares_19 : decode bR_shares 19 = .ok (.iload_n 2, 1) := by decide +kernel
theorem dR_shares_20 : decode bR_shares 20 = .ok (.bipush 10, 2) := by decide +kernel
theorem dR_shares_22 : decode bR_shares 22 = .ok (.invokestatic 70, 3) := by decide +kernel
theorem dR_shares_25 : decode bR_shares 25 = .ok (.ifCond .ne 5, 3) := by decide +kernel
theorem dR_shares_28 : decode bR_shares 28 = .ok (.iconst 0, 1) := by decide +kernel
theorem dR_shares_29 : decode bR_shares 29 = .ok (.ireturn, 1) := by decide +kernel
theorem dR_shares_30 : decode bR_shares 30 = .ok (.aload_n 0, 1) := by decide +kernel
theorem dR_shares_31 : decode bR_shares 31 = .ok (.getfield 19, 3) := by decide +kernel
theorem dR_shares_34 : decode bR_shares 34 = .ok (.iload_n 1, 1) := by decide +kernel
theorem dR_shares_35 : decode bR_shares 35 = .ok (.iload_n 2, 1) := by decide +kernel
theorem dR_shares_36 : decode bR_shares 36 = .ok (.iastore, 1) := by decide +kernel
theorem dR_shares_37 : decode bR_shares 37 = .ok (.aload_n 0, 1) := by decide +kernel
theorem dR_shares_38 : decode bR_shares 38 = .ok (.getfield 22, 3) := by decide +kernel
theorem dR_shares_41 : decode bR_shares 41 = .ok (.iload_n 1, 1) := by decide +kernel
theorem dR_shares_42 : decode bR_shares 42 = .ok (.iload_n 3, 1) := by decide +kernel
theorem dR_shares_43 : decode bR_shares 43 = .ok (.iastore, 1) := by decide +kernel
theorem dR_shares_44 : decode bR_shares 44 = .ok (.iconst 1, 1) := by decide +kernel
theorem dR_shares_45 : decode bR_shares 45 = .ok (.ireturn, 1) := by decide +kernel
theorem dR_silo_0 : decode bR_silo 0 = .ok (.aload_n 0, 1) := by decide +kernel
theorem dR_silo_1 : decode bR_silo 1 = .ok (.iload_n 1, 1) := by decide +kernel
theorem dR_silo_2 : decode bR_silo 2 = .ok (.invokevirtual 74, 3) := by decide +kernel
theorem dR_silo_5 : decode bR_silo 5 = .ok (.ifCond .eq 17, 3) := by decide +kernel
theorem dR_silo_8 : decode bR_silo 8 = .ok (.iload_n 2, 1) := by decide +kernel
theorem dR_silo_9 : decode bR_silo 9 = .ok (.ifCond .eq 15, 3) := by decide +kernel
theorem dR_silo_12 : decode bR_silo 12 = .ok (.iload_n 2, 1) := by decide +kernel
theorem dR_silo_13 : decode bR_silo 13 = .ok (.iconst 5, 1) := by decide +kernel
theorem dR_silo_14 : decode bR_silo 14 = .ok (.bipush 40, 2) := by decide +kernel
theorem dR_silo_16 : decode bR_silo 16 = .ok (.invokestatic 70, 3) := by decide +kernel
theorem dR_silo_19 : decode bR_silo 19 = .ok (.ifCond .ne 5, 3) := by decide +kernel
theorem dR_silo_22 : decode bR_silo 22 = .ok (.iconst 0, 1) := by decide +kernel
theorem dR_silo_23 : decode bR_silo 23 = .ok (.ireturn, 1) := by decide +kernel
theorem dR_silo_24 : decode bR_silo 24 = .ok (.aload_n 0, 1) := by decide +kernel
theorem dR_silo_25 : decode bR_silo 25 = .ok (.getfield 25, 3) := by decide +kernel
theorem dR_silo_28 : decode bR_silo 28 = .ok (.iload_n 1, 1) := by decide +kernel
theorem dR_silo_29 : decode bR_silo 29 = .ok (.iload_n 2, 1) := by decide +kernel
theorem dR_silo_30 : decode bR_silo 30 = .ok (.iastore, 1) := by decide +kernel
theorem dR_silo_31 : decode bR_silo 31 = .ok (.iconst 1, 1) := by decide +kernel
theorem dR_silo_32 : decode bR_silo 32 = .ok (.ireturn, 1) := by decide +kernel
theorem dR_isThere_0 : decode bR_isThere 0 = .ok (.iload_n 1, 1) := by decide +kernel
theorem dR_isThere_1 : decode bR_isThere 1 = .ok (.bipush 12, 2) := by decide +kernel
theorem dR_isThere_3 : decode bR_isThere 3 = .ok (.if_icmp .lt 9, 3) := by decide +kernel
theorem dR_isThere_6 : decode bR_isThere 6 = .ok (.iload_n 1, 1) := by decide +kernel
theorem dR_isThere_7 : decode bR_isThere 7 = .ok (.bipush 18, 2) := by decide +kernel
theorem dR_isThere_9 : decode bR_isThere 9 = .ok (.if_icmp .lt 36, 3) := by decide +kernel
theorem dR_isThere_12 : decode bR_isThere 12 = .ok (.iload_n 1, 1) := by decide +kernel
theorem dR_isThere_13 : decode bR_isThere 13 = .ok (.iconst 4, 1) := by decide +kernel
theorem dR_isThere_14 : decode bR_isThere 14 = .ok (.irem, 1) := by decide +kernel
theorem dR_isThere_15 : decode bR_isThere 15 = .ok (.aload_n 0, 1) := by decide +kernel
theorem dR_isThere_16 : decode bR_isThere 16 = .ok (.getfield 67, 3) := by decide +kernel
theorem dR_isThere_19 : decode bR_isThere 19 = .ok (.if_icmp .ge 9, 3) := by decide +kernel
theorem dR_isThere_22 : decode bR_isThere 22 = .ok (.iload_n 1, 1) := by decide +kernel
theorem dR_isThere_23 : decode bR_isThere 23 = .ok (.bipush 12, 2) := by decide +kernel
theorem dR_isThere_25 : decode bR_isThere 25 = .ok (.if_icmp .lt 20, 3) := by decide +kernel
theorem dR_isThere_28 : decode bR_isThere 28 = .ok (.iload_n 1, 1) := by decide +kernel
theorem dR_isThere_29 : decode bR_isThere 29 = .ok (.bipush 18, 2) := by decide +kernel
theorem dR_isThere_31 : decode bR_isThere 31 = .ok (.if_icmp .lt 18, 3) := by decide +kernel
theorem dR_isThere_34 : decode bR_isThere 34 = .ok (.iload_n 1, 1) := by decide +kernel
theorem dR_isThere_35 : decode bR_isThere 35 = .ok (.bipush 18, 2) := by decide +kernel
theorem dR_isThere_37 : decode bR_isThere 37 = .ok (.isub, 1) := by decide +kernel
theorem dR_isThere_38 : decode bR_isThere 38 = .ok (.aload_n 0, 1) := by decide +kernel
theorem dR_isThere_39 : decode bR_isThere 39 = .ok (.getfield 67, 3) := by decide +kernel
theorem dR_isThere_42 : decode bR_isThere 42 = .ok (.if_icmp .ge 7, 3) := by decide +kernel
theorem dR_isThere_45 : decode bR_isThere 45 = .ok (.iconst 1, 1) := by decide +kernel
theorem dR_isThere_46 : decode bR_isThere 46 = .ok (.goto 4, 3) := by decide +kernel
theorem dR_isThere_49 : decode bR_isThere 49 = .ok (.iconst 0, 1) := by decide +kernel
theorem dR_isThere_50 : decode bR_isThere 50 = .ok (.ireturn, 1) := by decide +kernel
theorem dR_factor_0 : decode bR_factor 0 = .ok (.iload_n 1, 1) := by decide +kernel
theorem dR_factor_1 : decode bR_factor 1 = .ok (.bipush 18, 2) := by decide +kernel
theorem dR_factor_3 : decode bR_factor 3 = .ok (.if_icmp .lt 17, 3) := by decide +kernel
theorem dR_factor_6 : decode bR_factor 6 = .ok (.iload_n 1, 1) := by decide +kernel
theorem dR_factor_7 : decode bR_factor 7 = .ok (.bipush 18, 2) := by decide +kernel
theorem dR_factor_9 : decode bR_factor 9 = .ok (.isub, 1) := by decide +kernel
theorem dR_factor_10 : decode bR_factor 10 = .ok (.iload_n 2, 1) := by decide +kernel
theorem dR_factor_11 : decode bR_factor 11 = .ok (.if_icmp .ne 7, 3) := by decide +kernel
theorem dR_factor_14 : decode bR_factor 14 = .ok (.lconst 1, 1) := by decide +kernel
theorem dR_factor_15 : decode bR_factor 15 = .ok (.goto 4, 3) := by decide +kernel
theorem dR_factor_18 : decode bR_factor 18 = .ok (.lconst 0, 1) := by decide +kernel
theorem dR_factor_19 : decode bR_factor 19 = .ok (.lreturn, 1) := by decide +kernel
theorem dR_factor_20 : decode bR_factor 20 = .ok (.iload_n 1, 1) := by decide +kernel
theorem dR_factor_21 : decode bR_factor 21 = .ok (.bipush 12, 2) := by decide +kernel
theorem dR_factor_23 : decode bR_factor 23 = .ok (.if_icmp .lt 20, 3) := by decide +kernel
theorem dR_factor_26 : decode bR_factor 26 = .ok (.aload_n 0, 1) := by decide +kernel
theorem dR_factor_27 : decode bR_factor 27 = .ok (.getfield 16, 3) := by decide +kernel
theorem dR_factor_30 : decode bR_factor 30 = .ok (.iconst 4, 1) := by decide +kernel
theorem dR_factor_31 : decode bR_factor 31 = .ok (.iload_n 1, 1) := by decide +kernel
theorem dR_factor_32 : decode bR_factor 32 = .ok (.bipush 12, 2) := by decide +kernel
theorem dR_factor_34 : decode bR_factor 34 = .ok (.isub, 1) := by decide +kernel
theorem dR_factor_35 : decode bR_factor 35 = .ok (.iconst 3, 1) := by decide +kernel
theorem dR_factor_36 : decode bR_factor 36 = .ok (.irem, 1) := by decide +kernel
theorem dR_factor_37 : decode bR_factor 37 = .ok (.imul, 1) := by decide +kernel
theorem dR_factor_38 : decode bR_factor 38 = .ok (.iload_n 2, 1) := by decide +kernel
theorem dR_factor_39 : decode bR_factor 39 = .ok (.iadd, 1) := by decide +kernel
theorem dR_factor_40 : decode bR_factor 40 = .ok (.iaload, 1) := by decide +kernel
theorem dR_factor_41 : decode bR_factor 41 = .ok (.i2l, 1) := by decide +kernel
theorem dR_factor_42 : decode bR_factor 42 = .ok (.lreturn, 1) := by decide +kernel
theorem dR_factor_43 : decode bR_factor 43 = .ok (.iload_n 1, 1) := by decide +kernel
theorem dR_factor_44 : decode bR_factor 44 = .ok (.iconst 4, 1) := by decide +kernel
theorem dR_factor_45 : decode bR_factor 45 = .ok (.irem, 1) := by decide +kernel
theorem dR_factor_46 : decode bR_factor 46 = .ok (.iload_n 2, 1) := by decide +kernel
theorem dR_factor_47 : decode bR_factor 47 = .ok (.if_icmp .eq 7, 3) := by decide +kernel
theorem dR_factor_50 : decode bR_factor 50 = .ok (.lconst 0, 1) := by decide +kernel
theorem dR_factor_51 : decode bR_factor 51 = .ok (.goto 15, 3) := by decide +kernel
theorem dR_factor_54 : decode bR_factor 54 = .ok (.iload_n 1, 1) := by decide +kernel
theorem dR_factor_55 : decode bR_factor 55 = .ok (.iconst 4, 1) := by decide +kernel
theorem dR_factor_56 : decode bR_factor 56 = .ok (.if_icmp .ge 7, 3) := by decide +kernel
theorem dR_factor_59 : decode bR_factor 59 = .ok (.lconst 1, 1) := by decide +kernel
theorem dR_factor_60 : decode bR_factor 60 = .ok (.goto 6, 3) := by decide +kernel
theorem dR_factor_63 : decode bR_factor 63 = .ok (.ldc2_w 78, 3) := by decide +kernel
theorem dR_factor_66 : decode bR_factor 66 = .ok (.lreturn, 1) := by decide +kernel
theorem dR_right_0 : decode bR_right 0 = .ok (.iload_n 1, 1) := by decide +kernel
theorem dR_right_1 : decode bR_right 1 = .ok (.bipush 18, 2) := by decide +kernel
theorem dR_right_3 : decode bR_right 3 = .ok (.if_icmp .lt 5, 3) := by decide +kernel
theorem dR_right_6 : decode bR_right 6 = .ok (.lconst 0, 1) := by decide +kernel
theorem dR_right_7 : decode bR_right 7 = .ok (.lreturn, 1) := by decide +kernel
theorem dR_right_8 : decode bR_right 8 = .ok (.iload_n 1, 1) := by decide +kernel
theorem dR_right_9 : decode bR_right 9 = .ok (.bipush 12, 2) := by decide +kernel
theorem dR_right_11 : decode bR_right 11 = .ok (.if_icmp .lt 35, 3) := by decide +kernel
theorem dR_right_14 : decode bR_right 14 = .ok (.iload_n 2, 1) := by decide +kernel
theorem dR_right_15 : decode bR_right 15 = .ok (.i2l, 1) := by decide +kernel
theorem dR_right_16 : decode bR_right 16 = .ok (.iload_n 1, 1) := by decide +kernel
theorem dR_right_17 : decode bR_right 17 = .ok (.bipush 15, 2) := by decide +kernel
theorem dR_right_19 : decode bR_right 19 = .ok (.if_icmp .ge 15, 3) := by decide +kernel
theorem dR_right_22 : decode bR_right 22 = .ok (.aload_n 0, 1) := by decide +kernel
theorem dR_right_23 : decode bR_right 23 = .ok (.getfield 28, 3) := by decide +kernel
theorem dR_right_26 : decode bR_right 26 = .ok (.iload_n 1, 1) := by decide +kernel
theorem dR_right_27 : decode bR_right 27 = .ok (.bipush 12, 2) := by decide +kernel
theorem dR_right_29 : decode bR_right 29 = .ok (.isub, 1) := by decide +kernel
theorem dR_right_30 : decode bR_right 30 = .ok (.iaload, 1) := by decide +kernel
theorem dR_right_31 : decode bR_right 31 = .ok (.goto 12, 3) := by decide +kernel
theorem dR_right_34 : decode bR_right 34 = .ok (.aload_n 0, 1) := by decide +kernel
theorem dR_right_35 : decode bR_right 35 = .ok (.getfield 31, 3) := by decide +kernel
theorem dR_right_38 : decode bR_right 38 = .ok (.iload_n 1, 1) := by decide +kernel
theorem dR_right_39 : decode bR_right 39 = .ok (.bipush 15, 2) := by decide +kernel
theorem dR_right_41 : decode bR_right 41 = .ok (.isub, 1) := by decide +kernel
theorem dR_right_42 : decode bR_right 42 = .ok (.iaload, 1) := by decide +kernel
theorem dR_right_43 : decode bR_right 43 = .ok (.i2l, 1) := by decide +kernel
theorem dR_right_44 : decode bR_right 44 = .ok (.lmul, 1) := by decide +kernel
theorem dR_right_45 : decode bR_right 45 = .ok (.lreturn, 1) := by decide +kernel
theorem dR_right_46 : decode bR_right 46 = .ok (.iload_n 1, 1) := by decide +kernel
theorem dR_right_47 : decode bR_right 47 = .ok (.iconst 4, 1) := by decide +kernel
theorem dR_right_48 : decode bR_right 48 = .ok (.if_icmp .ge 13, 3) := by decide +kernel
theorem dR_right_51 : decode bR_right 51 = .ok (.aload_n 0, 1) := by decide +kernel
theorem dR_right_52 : decode bR_right 52 = .ok (.getfield 13, 3) := by decide +kernel
theorem dR_right_55 : decode bR_right 55 = .ok (.iload_n 1, 1) := by decide +kernel
theorem dR_right_56 : decode bR_right 56 = .ok (.iaload, 1) := by decide +kernel
theorem dR_right_57 : decode bR_right 57 = .ok (.i2l, 1) := by decide +kernel
theorem dR_right_58 : decode bR_right 58 = .ok (.goto 33, 3) := by decide +kernel
theorem dR_right_61 : decode bR_right 61 = .ok (.iload_n 2, 1) := by decide +kernel
theorem dR_right_62 : decode bR_right 62 = .ok (.i2l, 1) := by decide +kernel
theorem dR_right_63 : decode bR_right 63 = .ok (.iload_n 1, 1) := by decide +kernel
theorem dR_right_64 : decode bR_right 64 = .ok (.bipush 8, 2) := by decide +kernel
theorem dR_right_66 : decode bR_right 66 = .ok (.if_icmp .ge 14, 3) := by decide +kernel
theorem dR_right_69 : decode bR_right 69 = .ok (.aload_n 0, 1) := by decide +kernel
theorem dR_right_70 : decode bR_right 70 = .ok (.getfield 19, 3) := by decide +kernel
theorem dR_right_73 : decode bR_right 73 = .ok (.iload_n 1, 1) := by decide +kernel
theorem dR_right_74 : decode bR_right 74 = .ok (.iconst 4, 1) := by decide +kernel
theorem dR_right_75 : decode bR_right 75 = .ok (.isub, 1) := by decide +kernel
theorem dR_right_76 : decode bR_right 76 = .ok (.iaload, 1) := by decide +kernel
theorem dR_right_77 : decode bR_right 77 = .ok (.goto 12, 3) := by decide +kernel
theorem dR_right_80 : decode bR_right 80 = .ok (.aload_n 0, 1) := by decide +kernel
theorem dR_right_81 : decode bR_right 81 = .ok (.getfield 22, 3) := by decide +kernel
theorem dR_right_84 : decode bR_right 84 = .ok (.iload_n 1, 1) := by decide +kernel
theorem dR_right_85 : decode bR_right 85 = .ok (.bipush 8, 2) := by decide +kernel
theorem dR_right_87 : decode bR_right 87 = .ok (.isub, 1) := by decide +kernel
theorem dR_right_88 : decode bR_right 88 = .ok (.iaload, 1) := by decide +kernel
theorem dR_right_89 : decode bR_right 89 = .ok (.i2l, 1) := by decide +kernel
theorem dR_right_90 : decode bR_right 90 = .ok (.lmul, 1) := by decide +kernel
theorem dR_right_91 : decode bR_right 91 = .ok (.lreturn, 1) := by decide +kernel
theorem dR_isLeast_0 : decode bR_isLeast 0 = .ok (.iload_n 0, 1) := by decide +kernel
theorem dR_isLeast_1 : decode bR_isLeast 1 = .ok (.bipush 18, 2) := by decide +kernel
theorem dR_isLeast_3 : decode bR_isLeast 3 = .ok (.if_icmp .ge 26, 3) := by decide +kernel
theorem dR_isLeast_6 : decode bR_isLeast 6 = .ok (.iload_n 0, 1) := by decide +kernel
theorem dR_isLeast_7 : decode bR_isLeast 7 = .ok (.bipush 12, 2) := by decide +kernel
theorem dR_isLeast_9 : decode bR_isLeast 9 = .ok (.if_icmp .lt 9, 3) := by decide +kernel
theorem dR_isLeast_12 : decode bR_isLeast 12 = .ok (.iload_n 0, 1) := by decide +kernel
theorem dR_isLeast_13 : decode bR_isLeast 13 = .ok (.bipush 15, 2) := by decide +kernel
theorem dR_isLeast_15 : decode bR_isLeast 15 = .ok (.if_icmp .lt 14, 3) := by decide +kernel
theorem dR_isLeast_18 : decode bR_isLeast 18 = .ok (.iload_n 0, 1) := by decide +kernel
theorem dR_isLeast_19 : decode bR_isLeast 19 = .ok (.iconst 4, 1) := by decide +kernel
theorem dR_isLeast_20 : decode bR_isLeast 20 = .ok (.if_icmp .lt 13, 3) := by decide +kernel
theorem dR_isLeast_23 : decode bR_isLeast 23 = .ok (.iload_n 0, 1) := by decide +kernel
theorem dR_isLeast_24 : decode bR_isLeast 24 = .ok (.bipush 8, 2) := by decide +kernel
theorem dR_isLeast_26 : decode bR_isLeast 26 = .ok (.if_icmp .ge 7, 3) := by decide +kernel
theorem dR_isLeast_29 : decode bR_isLeast 29 = .ok (.iconst 1, 1) := by decide +kernel
theorem dR_isLeast_30 : decode bR_isLeast 30 = .ok (.goto 4, 3) := by decide +kernel
theorem dR_isLeast_33 : decode bR_isLeast 33 = .ok (.iconst 0, 1) := by decide +kernel
theorem dR_isLeast_34 : decode bR_isLeast 34 = .ok (.ireturn, 1) := by decide +kernel
theorem dR_over_0 : decode bR_over 0 = .ok (.aload_n 0, 1) := by decide +kernel
theorem dR_over_1 : decode bR_over 1 = .ok (.iload_n 1, 1) := by decide +kernel
theorem dR_over_2 : decode bR_over 2 = .ok (.iload_n 2, 1) := by decide +kernel
theorem dR_over_3 : decode bR_over 3 = .ok (.invokevirtual 80, 3) := by decide +kernel
theorem dR_over_6 : decode bR_over 6 = .ok (.lneg, 1) := by decide +kernel
theorem dR_over_7 : decode bR_over 7 = .ok (.lload 4, 2) := by decide +kernel
theorem dR_over_9 : decode bR_over 9 = .ok (.lmul, 1) := by decide +kernel
theorem dR_over_10 : decode bR_over 10 = .ok (.lstore 6, 2) := by decide +kernel
theorem dR_over_12 : decode bR_over 12 = .ok (.iconst 0, 1) := by decide +kernel
theorem dR_over_13 : decode bR_over 13 = .ok (.istore 8, 2) := by decide +kernel
theorem dR_over_15 : decode bR_over 15 = .ok (.iload 8, 2) := by decide +kernel
theorem dR_over_17 : decode bR_over 17 = .ok (.aload_n 0, 1) := by decide +kernel
theorem dR_over_18 : decode bR_over 18 = .ok (.getfield 67, 3) := by decide +kernel
theorem dR_over_21 : decode bR_over 21 = .ok (.if_icmp .ge 26, 3) := by decide +kernel
theorem dR_over_24 : decode bR_over 24 = .ok (.lload 6, 2) := by decide +kernel
theorem dR_over_26 : decode bR_over 26 = .ok (.aload_n 0, 1) := by decide +kernel
theorem dR_over_27 : decode bR_over 27 = .ok (.iload_n 1, 1) := by decide +kernel
theorem dR_over_28 : decode bR_over 28 = .ok (.iload 8, 2) := by decide +kernel
theorem dR_over_30 : decode bR_over 30 = .ok (.invokevirtual 84, 3) := by decide +kernel
theorem dR_over_33 : decode bR_over 33 = .ok (.aload_n 3, 1) := by decide +kernel
theorem dR_over_34 : decode bR_over 34 = .ok (.iload 8, 2) := by decide +kernel
theorem dR_over_36 : decode bR_over 36 = .ok (.laload, 1) := by decide +kernel
theorem dR_over_37 : decode bR_over 37 = .ok (.lmul, 1) := by decide +kernel
theorem dR_over_38 : decode bR_over 38 = .ok (.ladd, 1) := by decide +kernel
theorem dR_over_39 : decode bR_over 39 = .ok (.lstore 6, 2) := by decide +kernel
theorem dR_over_41 : decode bR_over 41 = .ok (.iinc 8 1, 3) := by decide +kernel
theorem dR_over_44 : decode bR_over 44 = .ok (.goto (-29), 3) := by decide +kernel
theorem dR_over_47 : decode bR_over 47 = .ok (.lload 6, 2) := by decide +kernel
theorem dR_over_49 : decode bR_over 49 = .ok (.lreturn, 1) := by decide +kernel
theorem dR_keepsAll_0 : decode bR_keepsAll 0 = .ok (.iconst 1, 1) := by decide +kernel
theorem dR_keepsAll_1 : decode bR_keepsAll 1 = .ok (.istore_n 2, 1) := by decide +kernel
theorem dR_keepsAll_2 : decode bR_keepsAll 2 = .ok (.iconst 0, 1) := by decide +kernel
theorem dR_keepsAll_3 : decode bR_keepsAll 3 = .ok (.istore_n 3, 1) := by decide +kernel
theorem dR_keepsAll_4 : decode bR_keepsAll 4 = .ok (.iload_n 3, 1) := by decide +kernel
theorem dR_keepsAll_5 : decode bR_keepsAll 5 = .ok (.bipush 22, 2) := by decide +kernel
theorem dR_keepsAll_7 : decode bR_keepsAll 7 = .ok (.if_icmp .ge 73, 3) := by decide +kernel
theorem dR_keepsAll_10 : decode bR_keepsAll 10 = .ok (.iload_n 2, 1) := by decide +kernel
theorem dR_keepsAll_11 : decode bR_keepsAll 11 = .ok (.ifCond .eq 69, 3) := by decide +kernel
theorem dR_keepsAll_14 : decode bR_keepsAll 14 = .ok (.aload_n 0, 1) := by decide +kernel
theorem dR_keepsAll_15 : decode bR_keepsAll 15 = .ok (.getfield 45, 3) := by decide +kernel
theorem dR_keepsAll_18 : decode bR_keepsAll 18 = .ok (.iload_n 3, 1) := by decide +kernel
theorem dR_keepsAll_19 : decode bR_keepsAll 19 = .ok (.baload, 1) := by decide +kernel
theorem dR_keepsAll_20 : decode bR_keepsAll 20 = .ok (.ifCond .eq 54, 3) := by decide +kernel
theorem dR_keepsAll_23 : decode bR_keepsAll 23 = .ok (.aload_n 0, 1) := by decide +kernel
theorem dR_keepsAll_24 : decode bR_keepsAll 24 = .ok (.iload_n 3, 1) := by decide +kernel
theorem dR_keepsAll_25 : decode bR_keepsAll 25 = .ok (.iload_n 1, 1) := by decide +kernel
theorem dR_keepsAll_26 : decode bR_keepsAll 26 = .ok (.aload_n 0, 1) := by decide +kernel
theorem dR_keepsAll_27 : decode bR_keepsAll 27 = .ok (.getfield 58, 3) := by decide +kernel
theorem dR_keepsAll_30 : decode bR_keepsAll 30 = .ok (.aload_n 0, 1) := by decide +kernel
theorem dR_keepsAll_31 : decode bR_keepsAll 31 = .ok (.getfield 87, 3) := by decide +kernel
theorem dR_keepsAll_34 : decode bR_keepsAll 34 = .ok (.invokevirtual 91, 3) := by decide +kernel
theorem dR_keepsAll_37 : decode bR_keepsAll 37 = .ok (.lstore 4, 2) := by decide +kernel
theorem dR_keepsAll_39 : decode bR_keepsAll 39 = .ok (.iload_n 3, 1) := by decide +kernel
theorem dR_keepsAll_40 : decode bR_keepsAll 40 = .ok (.invokestatic 95, 3) := by decide +kernel
theorem dR_keepsAll_43 : decode bR_keepsAll 43 = .ok (.ifCond .eq 18, 3) := by decide +kernel
theorem dR_keepsAll_46 : decode bR_keepsAll 46 = .ok (.lload 4, 2) := by decide +kernel
theorem dR_keepsAll_48 : decode bR_keepsAll 48 = .ok (.lconst 0, 1) := by decide +kernel
theorem dR_keepsAll_49 : decode bR_keepsAll 49 = .ok (.lcmp, 1) := by decide +kernel
theorem dR_keepsAll_50 : decode bR_keepsAll 50 = .ok (.ifCond .lt 7, 3) := by decide +kernel
theorem dR_keepsAll_53 : decode bR_keepsAll 53 = .ok (.iconst 1, 1) := by decide +kernel
theorem dR_keepsAll_54 : decode bR_keepsAll 54 = .ok (.goto 19, 3) := by decide +kernel
theorem dR_keepsAll_57 : decode bR_keepsAll 57 = .ok (.iconst 0, 1) := by decide +kernel
theorem dR_keepsAll_58 : decode bR_keepsAll 58 = .ok (.goto 15, 3) := by decide +kernel
theorem dR_keepsAll_61 : decode bR_keepsAll 61 = .ok (.lload 4, 2) := by decide +kernel
theorem dR_keepsAll_63 : decode bR_keepsAll 63 = .ok (.lconst 0, 1) := by decide +kernel
theorem dR_keepsAll_64 : decode bR_keepsAll 64 = .ok (.lcmp, 1) := by decide +kernel
theorem dR_keepsAll_65 : decode bR_keepsAll 65 = .ok (.ifCond .gt 7, 3) := by decide +kernel
theorem dR_keepsAll_68 : decode bR_keepsAll 68 = .ok (.iconst 1, 1) := by decide +kernel
theorem dR_keepsAll_69 : decode bR_keepsAll 69 = .ok (.goto 4, 3) := by decide +kernel
theorem dR_keepsAll_72 : decode bR_keepsAll 72 = .ok (.iconst 0, 1) := by decide +kernel
theorem dR_keepsAll_73 : decode bR_keepsAll 73 = .ok (.istore_n 2, 1) := by decide +kernel
theorem dR_keepsAll_74 : decode bR_keepsAll 74 = .ok (.iinc 3 1, 3) := by decide +kernel
theorem dR_keepsAll_77 : decode bR_keepsAll 77 = .ok (.goto (-73), 3) := by decide +kernel
theorem dR_keepsAll_80 : decode bR_keepsAll 80 = .ok (.iload_n 2, 1) := by decide +kernel
theorem dR_keepsAll_81 : decode bR_keepsAll 81 = .ok (.ireturn, 1) := by decide +kernel
theorem dR_solve_0 : decode bR_solve 0 = .ok (.aload_n 0, 1) := by decide +kernel
theorem dR_solve_1 : decode bR_solve 1 = .ok (.getfield 98, 3) := by decide +kernel
theorem dR_solve_4 : decode bR_solve 4 = .ok (.istore_n 2, 1) := by decide +kernel
theorem dR_solve_5 : decode bR_solve 5 = .ok (.iconst 0, 1) := by decide +kernel
theorem dR_solve_6 : decode bR_solve 6 = .ok (.istore_n 3, 1) := by decide +kernel
theorem dR_solve_7 : decode bR_solve 7 = .ok (.iload_n 3, 1) := by decide +kernel
theorem dR_solve_8 : decode bR_solve 8 = .ok (.iload_n 2, 1) := by decide +kernel
theorem dR_solve_9 : decode bR_solve 9 = .ok (.if_icmp .ge 166, 3) := by decide +kernel
theorem dR_solve_12 : decode bR_solve 12 = .ok (.iload_n 3, 1) := by decide +kernel
theorem dR_solve_13 : decode bR_solve 13 = .ok (.ifCond .ne 8, 3) := by decide +kernel
theorem dR_solve_16 : decode bR_solve 16 = .ok (.iload_n 1, 1) := by decide +kernel
theorem dR_solve_17 : decode bR_solve 17 = .ok (.i2l, 1) := by decide +kernel
theorem dR_solve_18 : decode bR_solve 18 = .ok (.goto 16, 3) := by decide +kernel
theorem dR_solve_21 : decode bR_solve 21 = .ok (.aload_n 0, 1) := by decide +kernel
theorem dR_solve_22 : decode bR_solve 22 = .ok (.aload_n 0, 1) := by decide +kernel
theorem dR_solve_23 : decode bR_solve 23 = .ok (.getfield 61, 3) := by decide +kernel
theorem dR_solve_26 : decode bR_solve 26 = .ok (.iload_n 3, 1) := by decide +kernel
theorem dR_solve_27 : decode bR_solve 27 = .ok (.iconst 1, 1) := by decide +kernel
theorem dR_solve_28 : decode bR_solve 28 = .ok (.isub, 1) := by decide +kernel
theorem dR_solve_29 : decode bR_solve 29 = .ok (.iaload, 1) := by decide +kernel
theorem dR_solve_30 : decode bR_solve 30 = .ok (.iload_n 1, 1) := by decide +kernel
theorem dR_solve_31 : decode bR_solve 31 = .ok (.invokevirtual 80, 3) := by decide +kernel
theorem dR_solve_34 : decode bR_solve 34 = .ok (.lstore 4, 2) := by decide +kernel
theorem dR_solve_36 : decode bR_solve 36 = .ok (.iconst 0, 1) := by decide +kernel
theorem dR_solve_37 : decode bR_solve 37 = .ok (.istore 6, 2) := by decide +kernel
theorem dR_solve_39 : decode bR_solve 39 = .ok (.iload 6, 2) := by decide +kernel
theorem dR_solve_41 : decode bR_solve 41 = .ok (.aload_n 0, 1) := by decide +kernel
theorem dR_solve_42 : decode bR_solve 42 = .ok (.getfield 67, 3) := by decide +kernel
theorem dR_solve_45 : decode bR_solve 45 = .ok (.if_icmp .ge 59, 3) := by decide +kernel
theorem dR_solve_48 : decode bR_solve 48 = .ok (.lload 4, 2) := by decide +kernel
theorem dR_solve_50 : decode bR_solve 50 = .ok (.aload_n 0, 1) := by decide +kernel
theorem dR_solve_51 : decode bR_solve 51 = .ok (.getfield 49, 3) := by decide +kernel
theorem dR_solve_54 : decode bR_solve 54 = .ok (.iload 6, 2) := by decide +kernel
theorem dR_solve_56 : decode bR_solve 56 = .ok (.iaload, 1) := by decide +kernel
theorem dR_solve_57 : decode bR_solve 57 = .ok (.ifCond .ge 7, 3) := by decide +kernel
theorem dR_solve_60 : decode bR_solve 60 = .ok (.lconst 0, 1) := by decide +kernel
theorem dR_solve_61 : decode bR_solve 61 = .ok (.goto 34, 3) := by decide +kernel
theorem dR_solve_64 : decode bR_solve 64 = .ok (.iload_n 3, 1) := by decide +kernel
theorem dR_solve_65 : decode bR_solve 65 = .ok (.ifCond .ne 7, 3) := by decide +kernel
theorem dR_solve_68 : decode bR_solve 68 = .ok (.lconst 1, 1) := by decide +kernel
theorem dR_solve_69 : decode bR_solve 69 = .ok (.goto 17, 3) := by decide +kernel
theorem dR_solve_72 : decode bR_solve 72 = .ok (.aload_n 0, 1) := by decide +kernel
theorem dR_solve_73 : decode bR_solve 73 = .ok (.aload_n 0, 1) := by decide +kernel
theorem dR_solve_74 : decode bR_solve 74 = .ok (.getfield 61, 3) := by decide +kernel
theorem dR_solve_77 : decode bR_solve 77 = .ok (.iload_n 3, 1) := by decide +kernel
theorem dR_solve_78 : decode bR_solve 78 = .ok (.iconst 1, 1) := by decide +kernel
theorem dR_solve_79 : decode bR_solve 79 = .ok (.isub, 1) := by decide +kernel
theorem dR_solve_80 : decode bR_solve 80 = .ok (.iaload, 1) := by decide +kernel
theorem dR_solve_81 : decode bR_solve 81 = .ok (.iload 6, 2) := by decide +kernel
theorem dR_solve_83 : decode bR_solve 83 = .ok (.invokevirtual 84, 3) := by decide +kernel
theorem dR_solve_86 : decode bR_solve 86 = .ok (.aload_n 0, 1) := by decide +kernel
theorem dR_solve_87 : decode bR_solve 87 = .ok (.getfield 49, 3) := by decide +kernel
theorem dR_solve_90 : decode bR_solve 90 = .ok (.iload 6, 2) := by decide +kernel
theorem dR_solve_92 : decode bR_solve 92 = .ok (.iaload, 1) := by decide +kernel
theorem dR_solve_93 : decode bR_solve 93 = .ok (.i2l, 1) := by decide +kernel
theorem dR_solve_94 : decode bR_solve 94 = .ok (.lmul, 1) := by decide +kernel
theorem dR_solve_95 : decode bR_solve 95 = .ok (.lsub, 1) := by decide +kernel
theorem dR_solve_96 : decode bR_solve 96 = .ok (.lstore 4, 2) := by decide +kernel
theorem dR_solve_98 : decode bR_solve 98 = .ok (.iinc 6 1, 3) := by decide +kernel
theorem dR_solve_101 : decode bR_solve 101 = .ok (.goto (-62), 3) := by decide +kernel
theorem dR_solve_104 : decode bR_solve 104 = .ok (.iconst 0, 1) := by decide +kernel
theorem dR_solve_105 : decode bR_solve 105 = .ok (.istore 6, 2) := by decide +kernel
theorem dR_solve_107 : decode bR_solve 107 = .ok (.iload 6, 2) := by decide +kernel
theorem dR_solve_109 : decode bR_solve 109 = .ok (.iload_n 2, 1) := by decide +kernel
theorem dR_solve_110 : decode bR_solve 110 = .ok (.if_icmp .ge 47, 3) := by decide +kernel
theorem dR_solve_113 : decode bR_solve 113 = .ok (.aload_n 0, 1) := by decide +kernel
theorem dR_solve_114 : decode bR_solve 114 = .ok (.getfield 55, 3) := by decide +kernel
theorem dR_solve_117 : decode bR_solve 117 = .ok (.iconst 5, 1) := by decide +kernel
theorem dR_solve_118 : decode bR_solve 118 = .ok (.iload_n 3, 1) := by decide +kernel
theorem dR_solve_119 : decode bR_solve 119 = .ok (.imul, 1) := by decide +kernel
theorem dR_solve_120 : decode bR_solve 120 = .ok (.iload 6, 2) := by decide +kernel
theorem dR_solve_122 : decode bR_solve 122 = .ok (.iadd, 1) := by decide +kernel
theorem dR_solve_123 : decode bR_solve 123 = .ok (.iload_n 3, 1) := by decide +kernel
theorem dR_solve_124 : decode bR_solve 124 = .ok (.ifCond .ne 7, 3) := by decide +kernel
theorem dR_solve_127 : decode bR_solve 127 = .ok (.lconst 1, 1) := by decide +kernel
theorem dR_solve_128 : decode bR_solve 128 = .ok (.goto 22, 3) := by decide +kernel
theorem dR_solve_131 : decode bR_solve 131 = .ok (.aload_n 0, 1) := by decide +kernel
theorem dR_solve_132 : decode bR_solve 132 = .ok (.aload_n 0, 1) := by decide +kernel
theorem dR_solve_133 : decode bR_solve 133 = .ok (.getfield 61, 3) := by decide +kernel
theorem dR_solve_136 : decode bR_solve 136 = .ok (.iload_n 3, 1) := by decide +kernel
theorem dR_solve_137 : decode bR_solve 137 = .ok (.iconst 1, 1) := by decide +kernel
theorem dR_solve_138 : decode bR_solve 138 = .ok (.isub, 1) := by decide +kernel
theorem dR_solve_139 : decode bR_solve 139 = .ok (.iaload, 1) := by decide +kernel
theorem dR_solve_140 : decode bR_solve 140 = .ok (.aload_n 0, 1) := by decide +kernel
theorem dR_solve_141 : decode bR_solve 141 = .ok (.getfield 52, 3) := by decide +kernel
theorem dR_solve_144 : decode bR_solve 144 = .ok (.iload 6, 2) := by decide +kernel
theorem dR_solve_146 : decode bR_solve 146 = .ok (.iaload, 1) := by decide +kernel
theorem dR_solve_147 : decode bR_solve 147 = .ok (.invokevirtual 84, 3) := by decide +kernel
theorem dR_solve_150 : decode bR_solve 150 = .ok (.lastore, 1) := by decide +kernel
theorem dR_solve_151 : decode bR_solve 151 = .ok (.iinc 6 1, 3) := by decide +kernel
theorem dR_solve_154 : decode bR_solve 154 = .ok (.goto (-47), 3) := by decide +kernel
theorem dR_solve_157 : decode bR_solve 157 = .ok (.aload_n 0, 1) := by decide +kernel
theorem dR_solve_158 : decode bR_solve 158 = .ok (.getfield 55, 3) := by decide +kernel
theorem dR_solve_161 : decode bR_solve 161 = .ok (.iconst 5, 1) := by decide +kernel
theorem dR_solve_162 : decode bR_solve 162 = .ok (.iload_n 3, 1) := by decide +kernel
theorem dR_solve_163 : decode bR_solve 163 = .ok (.imul, 1) := by decide +kernel
theorem dR_solve_164 : decode bR_solve 164 = .ok (.iconst 4, 1) := by decide +kernel
theorem dR_solve_165 : decode bR_solve 165 = .ok (.iadd, 1) := by decide +kernel
theorem dR_solve_166 : decode bR_solve 166 = .ok (.lload 4, 2) := by decide +kernel
theorem dR_solve_168 : decode bR_solve 168 = .ok (.lastore, 1) := by decide +kernel
theorem dR_solve_169 : decode bR_solve 169 = .ok (.iinc 3 1, 3) := by decide +kernel
theorem dR_solve_172 : decode bR_solve 172 = .ok (.goto (-165), 3) := by decide +kernel
theorem dR_solve_175 : decode bR_solve 175 = .ok (.lconst 1, 1) := by decide +kernel
theorem dR_solve_176 : decode bR_solve 176 = .ok (.lstore_n 3, 1) := by decide +kernel
theorem dR_solve_177 : decode bR_solve 177 = .ok (.iconst 0, 1) := by decide +kernel
theorem dR_solve_178 : decode bR_solve 178 = .ok (.istore 5, 2) := by decide +kernel
theorem dR_solve_180 : decode bR_solve 180 = .ok (.iload 5, 2) := by decide +kernel
theorem dR_solve_182 : decode bR_solve 182 = .ok (.iload_n 2, 1) := by decide +kernel
theorem dR_solve_183 : decode bR_solve 183 = .ok (.if_icmp .ge 238, 3) := by decide +kernel
theorem dR_solve_186 : decode bR_solve 186 = .ok (.iload 5, 2) := by decide +kernel
theorem dR_solve_188 : decode bR_solve 188 = .ok (.istore 6, 2) := by decide +kernel
theorem dR_solve_190 : decode bR_solve 190 = .ok (.iload 6, 2) := by decide +kernel
theorem dR_solve_192 : decode bR_solve 192 = .ok (.iload_n 2, 1) := by decide +kernel
theorem dR_solve_193 : decode bR_solve 193 = .ok (.if_icmp .ge 26, 3) := by decide +kernel
theorem dR_solve_196 : decode bR_solve 196 = .ok (.aload_n 0, 1) := by decide +kernel
theorem dR_solve_197 : decode bR_solve 197 = .ok (.getfield 55, 3) := by decide +kernel
theorem dR_solve_200 : decode bR_solve 200 = .ok (.iconst 5, 1) := by decide +kernel
theorem dR_solve_201 : decode bR_solve 201 = .ok (.iload 6, 2) := by decide +kernel
theorem dR_solve_203 : decode bR_solve 203 = .ok (.imul, 1) := by decide +kernel
theorem dR_solve_204 : decode bR_solve 204 = .ok (.iload 5, 2) := by decide +kernel
theorem dR_solve_206 : decode bR_solve 206 = .ok (.iadd, 1) := by decide +kernel
theorem dR_solve_207 : decode bR_solve 207 = .ok (.laload, 1) := by decide +kernel
theorem dR_solve_208 : decode bR_solve 208 = .ok (.lconst 0, 1) := by decide +kernel
theorem dR_solve_209 : decode bR_solve 209 = .ok (.lcmp, 1) := by decide +kernel
theorem dR_solve_210 : decode bR_solve 210 = .ok (.ifCond .ne 9, 3) := by decide +kernel
theorem dR_solve_213 : decode bR_solve 213 = .ok (.iinc 6 1, 3) := by decide +kernel
theorem dR_solve_216 : decode bR_solve 216 = .ok (.goto (-26), 3) := by decide +kernel
theorem dR_solve_219 : decode bR_solve 219 = .ok (.iload 6, 2) := by decide +kernel
theorem dR_solve_221 : decode bR_solve 221 = .ok (.iload_n 2, 1) := by decide +kernel
theorem dR_solve_222 : decode bR_solve 222 = .ok (.if_icmp .ne 5, 3) := by decide +kernel
theorem dR_solve_225 : decode bR_solve 225 = .ok (.iconst 0, 1) := by decide +kernel
theorem dR_solve_226 : decode bR_solve 226 = .ok (.ireturn, 1) := by decide +kernel
theorem dR_solve_227 : decode bR_solve 227 = .ok (.iconst 0, 1) := by decide +kernel
theorem dR_solve_228 : decode bR_solve 228 = .ok (.istore 7, 2) := by decide +kernel
theorem dR_solve_230 : decode bR_solve 230 = .ok (.iload 7, 2) := by decide +kernel
theorem dR_solve_232 : decode bR_solve 232 = .ok (.iconst 5, 1) := by decide +kernel
theorem dR_solve_233 : decode bR_solve 233 = .ok (.if_icmp .ge 69, 3) := by decide +kernel
theorem dR_solve_236 : decode bR_solve 236 = .ok (.iload 6, 2) := by decide +kernel
theorem dR_solve_238 : decode bR_solve 238 = .ok (.iload 5, 2) := by decide +kernel
theorem dR_solve_240 : decode bR_solve 240 = .ok (.if_icmp .eq 62, 3) := by decide +kernel
theorem dR_solve_243 : decode bR_solve 243 = .ok (.aload_n 0, 1) := by decide +kernel
theorem dR_solve_244 : decode bR_solve 244 = .ok (.getfield 55, 3) := by decide +kernel
theorem dR_solve_247 : decode bR_solve 247 = .ok (.iconst 5, 1) := by decide +kernel
theorem dR_solve_248 : decode bR_solve 248 = .ok (.iload 6, 2) := by decide +kernel
theorem dR_solve_250 : decode bR_solve 250 = .ok (.imul, 1) := by decide +kernel
theorem dR_solve_251 : decode bR_solve 251 = .ok (.iload 7, 2) := by decide +kernel
theorem dR_solve_253 : decode bR_solve 253 = .ok (.iadd, 1) := by decide +kernel
theorem dR_solve_254 : decode bR_solve 254 = .ok (.laload, 1) := by decide +kernel
theorem dR_solve_255 : decode bR_solve 255 = .ok (.lstore 8, 2) := by decide +kernel
theorem dR_solve_257 : decode bR_solve 257 = .ok (.aload_n 0, 1) := by decide +kernel
theorem dR_solve_258 : decode bR_solve 258 = .ok (.getfield 55, 3) := by decide +kernel
theorem dR_solve_261 : decode bR_solve 261 = .ok (.iconst 5, 1) := by decide +kernel
theorem dR_solve_262 : decode bR_solve 262 = .ok (.iload 6, 2) := by decide +kernel
theorem dR_solve_264 : decode bR_solve 264 = .ok (.imul, 1) := by decide +kernel
theorem dR_solve_265 : decode bR_solve 265 = .ok (.iload 7, 2) := by decide +kernel
theorem dR_solve_267 : decode bR_solve 267 = .ok (.iadd, 1) := by decide +kernel
theorem dR_solve_268 : decode bR_solve 268 = .ok (.aload_n 0, 1) := by decide +kernel
theorem dR_solve_269 : decode bR_solve 269 = .ok (.getfield 55, 3) := by decide +kernel
theorem dR_solve_272 : decode bR_solve 272 = .ok (.iconst 5, 1) := by decide +kernel
theorem dR_solve_273 : decode bR_solve 273 = .ok (.iload 5, 2) := by decide +kernel
theorem dR_solve_275 : decode bR_solve 275 = .ok (.imul, 1) := by decide +kernel
theorem dR_solve_276 : decode bR_solve 276 = .ok (.iload 7, 2) := by decide +kernel
theorem dR_solve_278 : decode bR_solve 278 = .ok (.iadd, 1) := by decide +kernel
theorem dR_solve_279 : decode bR_solve 279 = .ok (.laload, 1) := by decide +kernel
theorem dR_solve_280 : decode bR_solve 280 = .ok (.lastore, 1) := by decide +kernel
theorem dR_solve_281 : decode bR_solve 281 = .ok (.aload_n 0, 1) := by decide +kernel
theorem dR_solve_282 : decode bR_solve 282 = .ok (.getfield 55, 3) := by decide +kernel
theorem dR_solve_285 : decode bR_solve 285 = .ok (.iconst 5, 1) := by decide +kernel
theorem dR_solve_286 : decode bR_solve 286 = .ok (.iload 5, 2) := by decide +kernel
theorem dR_solve_288 : decode bR_solve 288 = .ok (.imul, 1) := by decide +kernel
theorem dR_solve_289 : decode bR_solve 289 = .ok (.iload 7, 2) := by decide +kernel
theorem dR_solve_291 : decode bR_solve 291 = .ok (.iadd, 1) := by decide +kernel
theorem dR_solve_292 : decode bR_solve 292 = .ok (.lload 8, 2) := by decide +kernel
theorem dR_solve_294 : decode bR_solve 294 = .ok (.lneg, 1) := by decide +kernel
theorem dR_solve_295 : decode bR_solve 295 = .ok (.lastore, 1) := by decide +kernel
theorem dR_solve_296 : decode bR_solve 296 = .ok (.iinc 7 1, 3) := by decide +kernel
theorem dR_solve_299 : decode bR_solve 299 = .ok (.goto (-69), 3) := by decide +kernel
theorem dR_solve_302 : decode bR_solve 302 = .ok (.aload_n 0, 1) := by decide +kernel
theorem dR_solve_303 : decode bR_solve 303 = .ok (.getfield 55, 3) := by decide +kernel
theorem dR_solve_306 : decode bR_solve 306 = .ok (.iconst 5, 1) := by decide +kernel
theorem dR_solve_307 : decode bR_solve 307 = .ok (.iload 5, 2) := by decide +kernel
theorem dR_solve_309 : decode bR_solve 309 = .ok (.imul, 1) := by decide +kernel
theorem dR_solve_310 : decode bR_solve 310 = .ok (.iload 5, 2) := by decide +kernel
theorem dR_solve_312 : decode bR_solve 312 = .ok (.iadd, 1) := by decide +kernel
theorem dR_solve_313 : decode bR_solve 313 = .ok (.laload, 1) := by decide +kernel
theorem dR_solve_314 : decode bR_solve 314 = .ok (.lstore 7, 2) := by decide +kernel
theorem dR_solve_316 : decode bR_solve 316 = .ok (.iconst 0, 1) := by decide +kernel
theorem dR_solve_317 : decode bR_solve 317 = .ok (.istore 9, 2) := by decide +kernel
theorem dR_solve_319 : decode bR_solve 319 = .ok (.iload 9, 2) := by decide +kernel
theorem dR_solve_321 : decode bR_solve 321 = .ok (.iload_n 2, 1) := by decide +kernel
theorem dR_solve_322 : decode bR_solve 322 = .ok (.if_icmp .ge 90, 3) := by decide +kernel
theorem dR_solve_325 : decode bR_solve 325 = .ok (.iload 9, 2) := by decide +kernel
theorem dR_solve_327 : decode bR_solve 327 = .ok (.iload 5, 2) := by decide +kernel
theorem dR_solve_329 : decode bR_solve 329 = .ok (.if_icmp .eq 77, 3) := by decide +kernel
theorem dR_solve_332 : decode bR_solve 332 = .ok (.aload_n 0, 1) := by decide +kernel
theorem dR_solve_333 : decode bR_solve 333 = .ok (.getfield 55, 3) := by decide +kernel
theorem dR_solve_336 : decode bR_solve 336 = .ok (.iconst 5, 1) := by decide +kernel
theorem dR_solve_337 : decode bR_solve 337 = .ok (.iload 9, 2) := by decide +kernel
theorem dR_solve_339 : decode bR_solve 339 = .ok (.imul, 1) := by decide +kernel
theorem dR_solve_340 : decode bR_solve 340 = .ok (.iload 5, 2) := by decide +kernel
theorem dR_solve_342 : decode bR_solve 342 = .ok (.iadd, 1) := by decide +kernel
theorem dR_solve_343 : decode bR_solve 343 = .ok (.laload, 1) := by decide +kernel
theorem dR_solve_344 : decode bR_solve 344 = .ok (.lstore 10, 2) := by decide +kernel
theorem dR_solve_346 : decode bR_solve 346 = .ok (.iconst 0, 1) := by decide +kernel
theorem dR_solve_347 : decode bR_solve 347 = .ok (.istore 12, 2) := by decide +kernel
theorem dR_solve_349 : decode bR_solve 349 = .ok (.iload 12, 2) := by decide +kernel
theorem dR_solve_351 : decode bR_solve 351 = .ok (.iconst 5, 1) := by decide +kernel
theorem dR_solve_352 : decode bR_solve 352 = .ok (.if_icmp .ge 54, 3) := by decide +kernel
theorem dR_solve_355 : decode bR_solve 355 = .ok (.aload_n 0, 1) := by decide +kernel
theorem dR_solve_356 : decode bR_solve 356 = .ok (.getfield 55, 3) := by decide +kernel
theorem dR_solve_359 : decode bR_solve 359 = .ok (.iconst 5, 1) := by decide +kernel
theorem dR_solve_360 : decode bR_solve 360 = .ok (.iload 9, 2) := by decide +kernel
theorem dR_solve_362 : decode bR_solve 362 = .ok (.imul, 1) := by decide +kernel
theorem dR_solve_363 : decode bR_solve 363 = .ok (.iload 12, 2) := by decide +kernel
theorem dR_solve_365 : decode bR_solve 365 = .ok (.iadd, 1) := by decide +kernel
theorem dR_solve_366 : decode bR_solve 366 = .ok (.aload_n 0, 1) := by decide +kernel
theorem dR_solve_367 : decode bR_solve 367 = .ok (.getfield 55, 3) := by decide +kernel
theorem dR_solve_370 : decode bR_solve 370 = .ok (.iconst 5, 1) := by decide +kernel
theorem dR_solve_371 : decode bR_solve 371 = .ok (.iload 9, 2) := by decide +kernel
theorem dR_solve_373 : decode bR_solve 373 = .ok (.imul, 1) := by decide +kernel
theorem dR_solve_374 : decode bR_solve 374 = .ok (.iload 12, 2) := by decide +kernel
theorem dR_solve_376 : decode bR_solve 376 = .ok (.iadd, 1) := by decide +kernel
theorem dR_solve_377 : decode bR_solve 377 = .ok (.laload, 1) := by decide +kernel
theorem dR_solve_378 : decode bR_solve 378 = .ok (.lload 7, 2) := by decide +kernel
theorem dR_solve_380 : decode bR_solve 380 = .ok (.lmul, 1) := by decide +kernel
theorem dR_solve_381 : decode bR_solve 381 = .ok (.lload 10, 2) := by decide +kernel
theorem dR_solve_383 : decode bR_solve 383 = .ok (.aload_n 0, 1) := by decide +kernel
theorem dR_solve_384 : decode bR_solve 384 = .ok (.getfield 55, 3) := by decide +kernel
theorem dR_solve_387 : decode bR_solve 387 = .ok (.iconst 5, 1) := by decide +kernel
theorem dR_solve_388 : decode bR_solve 388 = .ok (.iload 5, 2) := by decide +kernel
theorem dR_solve_390 : decode bR_solve 390 = .ok (.imul, 1) := by decide +kernel
theorem dR_solve_391 : decode bR_solve 391 = .ok (.iload 12, 2) := by decide +kernel
theorem dR_solve_393 : decode bR_solve 393 = .ok (.iadd, 1) := by decide +kernel
theorem dR_solve_394 : decode bR_solve 394 = .ok (.laload, 1) := by decide +kernel
theorem dR_solve_395 : decode bR_solve 395 = .ok (.lmul, 1) := by decide +kernel
theorem dR_solve_396 : decode bR_solve 396 = .ok (.lsub, 1) := by decide +kernel
theorem dR_solve_397 : decode bR_solve 397 = .ok (.lload_n 3, 1) := by decide +kernel
theorem dR_solve_398 : decode bR_solve 398 = .ok (.ldiv, 1) := by decide +kernel
theorem dR_solve_399 : decode bR_solve 399 = .ok (.lastore, 1) := by decide +kernel
theorem dR_solve_400 : decode bR_solve 400 = .ok (.iinc 12 1, 3) := by decide +kernel
theorem dR_solve_403 : decode bR_solve 403 = .ok (.goto (-54), 3) := by decide +kernel
theorem dR_solve_406 : decode bR_solve 406 = .ok (.iinc 9 1, 3) := by decide +kernel
theorem dR_solve_409 : decode bR_solve 409 = .ok (.goto (-90), 3) := by decide +kernel
theorem dR_solve_412 : decode bR_solve 412 = .ok (.lload 7, 2) := by decide +kernel
theorem dR_solve_414 : decode bR_solve 414 = .ok (.lstore_n 3, 1) := by decide +kernel
theorem dR_solve_415 : decode bR_solve 415 = .ok (.iinc 5 1, 3) := by decide +kernel
theorem dR_solve_418 : decode bR_solve 418 = .ok (.goto (-238), 3) := by decide +kernel
theorem dR_solve_421 : decode bR_solve 421 = .ok (.aload_n 0, 1) := by decide +kernel
theorem dR_solve_422 : decode bR_solve 422 = .ok (.iload_n 2, 1) := by decide +kernel
theorem dR_solve_423 : decode bR_solve 423 = .ok (.ifCond .ne 7, 3) := by decide +kernel
theorem dR_solve_426 : decode bR_solve 426 = .ok (.lconst 1, 1) := by decide +kernel
theorem dR_solve_427 : decode bR_solve 427 = .ok (.goto 4, 3) := by decide +kernel
theorem dR_solve_430 : decode bR_solve 430 = .ok (.lload_n 3, 1) := by decide +kernel
theorem dR_solve_431 : decode bR_solve 431 = .ok (.putfield 87, 3) := by decide +kernel
theorem dR_solve_434 : decode bR_solve 434 = .ok (.aload_n 0, 1) := by decide +kernel
theorem dR_solve_435 : decode bR_solve 435 = .ok (.getfield 87, 3) := by decide +kernel
theorem dR_solve_438 : decode bR_solve 438 = .ok (.lconst 0, 1) := by decide +kernel
theorem dR_solve_439 : decode bR_solve 439 = .ok (.lcmp, 1) := by decide +kernel
theorem dR_solve_440 : decode bR_solve 440 = .ok (.ifCond .ge 9, 3) := by decide +kernel
theorem dR_solve_443 : decode bR_solve 443 = .ok (.ldc2_w 101, 3) := by decide +kernel
theorem dR_solve_446 : decode bR_solve 446 = .ok (.goto 4, 3) := by decide +kernel
theorem dR_solve_449 : decode bR_solve 449 = .ok (.lconst 1, 1) := by decide +kernel
theorem dR_solve_450 : decode bR_solve 450 = .ok (.lstore 5, 2) := by decide +kernel
theorem dR_solve_452 : decode bR_solve 452 = .ok (.aload_n 0, 1) := by decide +kernel
theorem dR_solve_453 : decode bR_solve 453 = .ok (.aload_n 0, 1) := by decide +kernel
theorem dR_solve_454 : decode bR_solve 454 = .ok (.getfield 87, 3) := by decide +kernel
theorem dR_solve_457 : decode bR_solve 457 = .ok (.lload 5, 2) := by decide +kernel
theorem dR_solve_459 : decode bR_solve 459 = .ok (.lmul, 1) := by decide +kernel
theorem dR_solve_460 : decode bR_solve 460 = .ok (.putfield 87, 3) := by decide +kernel
theorem dR_solve_463 : decode bR_solve 463 = .ok (.iconst 0, 1) := by decide +kernel
theorem dR_solve_464 : decode bR_solve 464 = .ok (.istore 7, 2) := by decide +kernel
theorem dR_solve_466 : decode bR_solve 466 = .ok (.iload 7, 2) := by decide +kernel
theorem dR_solve_468 : decode bR_solve 468 = .ok (.iload_n 2, 1) := by decide +kernel
theorem dR_solve_469 : decode bR_solve 469 = .ok (.if_icmp .ge 35, 3) := by decide +kernel
theorem dR_solve_472 : decode bR_solve 472 = .ok (.aload_n 0, 1) := by decide +kernel
theorem dR_solve_473 : decode bR_solve 473 = .ok (.getfield 58, 3) := by decide +kernel
theorem dR_solve_476 : decode bR_solve 476 = .ok (.aload_n 0, 1) := by decide +kernel
theorem dR_solve_477 : decode bR_solve 477 = .ok (.getfield 52, 3) := by decide +kernel
theorem dR_solve_480 : decode bR_solve 480 = .ok (.iload 7, 2) := by decide +kernel
theorem dR_solve_482 : decode bR_solve 482 = .ok (.iaload, 1) := by decide +kernel
theorem dR_solve_483 : decode bR_solve 483 = .ok (.aload_n 0, 1) := by decide +kernel
theorem dR_solve_484 : decode bR_solve 484 = .ok (.getfield 55, 3) := by decide +kernel
theorem dR_solve_487 : decode bR_solve 487 = .ok (.iconst 5, 1) := by decide +kernel
theorem dR_solve_488 : decode bR_solve 488 = .ok (.iload 7, 2) := by decide +kernel
theorem dR_solve_490 : decode bR_solve 490 = .ok (.imul, 1) := by decide +kernel
theorem dR_solve_491 : decode bR_solve 491 = .ok (.iconst 4, 1) := by decide +kernel
theorem dR_solve_492 : decode bR_solve 492 = .ok (.iadd, 1) := by decide +kernel
theorem dR_solve_493 : decode bR_solve 493 = .ok (.laload, 1) := by decide +kernel
theorem dR_solve_494 : decode bR_solve 494 = .ok (.lload 5, 2) := by decide +kernel
theorem dR_solve_496 : decode bR_solve 496 = .ok (.lmul, 1) := by decide +kernel
theorem dR_solve_497 : decode bR_solve 497 = .ok (.lastore, 1) := by decide +kernel
theorem dR_solve_498 : decode bR_solve 498 = .ok (.iinc 7 1, 3) := by decide +kernel
theorem dR_solve_501 : decode bR_solve 501 = .ok (.goto (-35), 3) := by decide +kernel
theorem dR_solve_504 : decode bR_solve 504 = .ok (.lconst 0, 1) := by decide +kernel
theorem dR_solve_505 : decode bR_solve 505 = .ok (.lstore 7, 2) := by decide +kernel
theorem dR_solve_507 : decode bR_solve 507 = .ok (.iconst 0, 1) := by decide +kernel
theorem dR_solve_508 : decode bR_solve 508 = .ok (.istore 9, 2) := by decide +kernel
theorem dR_solve_510 : decode bR_solve 510 = .ok (.iload 9, 2) := by decide +kernel
theorem dR_solve_512 : decode bR_solve 512 = .ok (.aload_n 0, 1) := by decide +kernel
theorem dR_solve_513 : decode bR_solve 513 = .ok (.getfield 67, 3) := by decide +kernel
theorem dR_solve_516 : decode bR_solve 516 = .ok (.if_icmp .ge 61, 3) := by decide +kernel
theorem dR_solve_519 : decode bR_solve 519 = .ok (.aload_n 0, 1) := by decide +kernel
theorem dR_solve_520 : decode bR_solve 520 = .ok (.getfield 58, 3) := by decide +kernel
theorem dR_solve_523 : decode bR_solve 523 = .ok (.iload 9, 2) := by decide +kernel
theorem dR_solve_525 : decode bR_solve 525 = .ok (.aload_n 0, 1) := by decide +kernel
theorem dR_solve_526 : decode bR_solve 526 = .ok (.getfield 49, 3) := by decide +kernel
theorem dR_solve_529 : decode bR_solve 529 = .ok (.iload 9, 2) := by decide +kernel
theorem dR_solve_531 : decode bR_solve 531 = .ok (.iaload, 1) := by decide +kernel
theorem dR_solve_532 : decode bR_solve 532 = .ok (.ifCond .ge 13, 3) := by decide +kernel
theorem dR_solve_535 : decode bR_solve 535 = .ok (.aload_n 0, 1) := by decide +kernel
theorem dR_solve_536 : decode bR_solve 536 = .ok (.getfield 58, 3) := by decide +kernel
theorem dR_solve_539 : decode bR_solve 539 = .ok (.iload 9, 2) := by decide +kernel
theorem dR_solve_541 : decode bR_solve 541 = .ok (.laload, 1) := by decide +kernel
theorem dR_solve_542 : decode bR_solve 542 = .ok (.goto 16, 3) := by decide +kernel
theorem dR_solve_545 : decode bR_solve 545 = .ok (.aload_n 0, 1) := by decide +kernel
theorem dR_solve_546 : decode bR_solve 546 = .ok (.getfield 49, 3) := by decide +kernel
theorem dR_solve_549 : decode bR_solve 549 = .ok (.iload 9, 2) := by decide +kernel
theorem dR_solve_551 : decode bR_solve 551 = .ok (.iaload, 1) := by decide +kernel
theorem dR_solve_552 : decode bR_solve 552 = .ok (.i2l, 1) := by decide +kernel
theorem dR_solve_553 : decode bR_solve 553 = .ok (.aload_n 0, 1) := by decide +kernel
theorem dR_solve_554 : decode bR_solve 554 = .ok (.getfield 87, 3) := by decide +kernel
theorem dR_solve_557 : decode bR_solve 557 = .ok (.lmul, 1) := by decide +kernel
theorem dR_solve_558 : decode bR_solve 558 = .ok (.lastore, 1) := by decide +kernel
theorem dR_solve_559 : decode bR_solve 559 = .ok (.lload 7, 2) := by decide +kernel
theorem dR_solve_561 : decode bR_solve 561 = .ok (.aload_n 0, 1) := by decide +kernel
theorem dR_solve_562 : decode bR_solve 562 = .ok (.getfield 58, 3) := by decide +kernel
theorem dR_solve_565 : decode bR_solve 565 = .ok (.iload 9, 2) := by decide +kernel
theorem dR_solve_567 : decode bR_solve 567 = .ok (.laload, 1) := by decide +kernel
theorem dR_solve_568 : decode bR_solve 568 = .ok (.ladd, 1) := by decide +kernel
theorem dR_solve_569 : decode bR_solve 569 = .ok (.lstore 7, 2) := by decide +kernel
theorem dR_solve_571 : decode bR_solve 571 = .ok (.iinc 9 1, 3) := by decide +kernel
theorem dR_solve_574 : decode bR_solve 574 = .ok (.goto (-64), 3) := by decide +kernel
theorem dR_solve_577 : decode bR_solve 577 = .ok (.lload 7, 2) := by decide +kernel
theorem dR_solve_579 : decode bR_solve 579 = .ok (.iload_n 1, 1) := by decide +kernel
theorem dR_solve_580 : decode bR_solve 580 = .ok (.i2l, 1) := by decide +kernel
theorem dR_solve_581 : decode bR_solve 581 = .ok (.aload_n 0, 1) := by decide +kernel
theorem dR_solve_582 : decode bR_solve 582 = .ok (.getfield 87, 3) := by decide +kernel
theorem dR_solve_585 : decode bR_solve 585 = .ok (.lmul, 1) := by decide +kernel
theorem dR_solve_586 : decode bR_solve 586 = .ok (.lcmp, 1) := by decide +kernel
theorem dR_solve_587 : decode bR_solve 587 = .ok (.ifCond .ne 7, 3) := by decide +kernel
theorem dR_solve_590 : decode bR_solve 590 = .ok (.iconst 1, 1) := by decide +kernel
theorem dR_solve_591 : decode bR_solve 591 = .ok (.goto 4, 3) := by decide +kernel
theorem dR_solve_594 : decode bR_solve 594 = .ok (.iconst 0, 1) := by decide +kernel
theorem dR_solve_595 : decode bR_solve 595 = .ok (.ireturn, 1) := by decide +kernel
theorem dR_costOf_0 : decode bR_costOf 0 = .ok (.lconst 0, 1) := by decide +kernel
theorem dR_costOf_1 : decode bR_costOf 1 = .ok (.lstore_n 2, 1) := by decide +kernel
theorem dR_costOf_2 : decode bR_costOf 2 = .ok (.iconst 0, 1) := by decide +kernel
theorem dR_costOf_3 : decode bR_costOf 3 = .ok (.istore 4, 2) := by decide +kernel
theorem dR_costOf_5 : decode bR_costOf 5 = .ok (.iload 4, 2) := by decide +kernel
theorem dR_costOf_7 : decode bR_costOf 7 = .ok (.aload_n 0, 1) := by decide +kernel
theorem dR_costOf_8 : decode bR_costOf 8 = .ok (.getfield 67, 3) := by decide +kernel
theorem dR_costOf_11 : decode bR_costOf 11 = .ok (.if_icmp .ge 25, 3) := by decide +kernel
theorem dR_costOf_14 : decode bR_costOf 14 = .ok (.lload_n 2, 1) := by decide +kernel
theorem dR_costOf_15 : decode bR_costOf 15 = .ok (.aload_n 0, 1) := by decide +kernel
theorem dR_costOf_16 : decode bR_costOf 16 = .ok (.getfield 7, 3) := by decide +kernel
theorem dR_costOf_19 : decode bR_costOf 19 = .ok (.iload 4, 2) := by decide +kernel
theorem dR_costOf_21 : decode bR_costOf 21 = .ok (.iaload, 1) := by decide +kernel
theorem dR_costOf_22 : decode bR_costOf 22 = .ok (.i2l, 1) := by decide +kernel
theorem dR_costOf_23 : decode bR_costOf 23 = .ok (.aload_n 1, 1) := by decide +kernel
theorem dR_costOf_24 : decode bR_costOf 24 = .ok (.iload 4, 2) := by decide +kernel
theorem dR_costOf_26 : decode bR_costOf 26 = .ok (.laload, 1) := by decide +kernel
theorem dR_costOf_27 : decode bR_costOf 27 = .ok (.lmul, 1) := by decide +kernel
theorem dR_costOf_28 : decode bR_costOf 28 = .ok (.ladd, 1) := by decide +kernel
theorem dR_costOf_29 : decode bR_costOf 29 = .ok (.lstore_n 2, 1) := by decide +kernel
theorem dR_costOf_30 : decode bR_costOf 30 = .ok (.iinc 4 1, 3) := by decide +kernel
theorem dR_costOf_33 : decode bR_costOf 33 = .ok (.goto (-28), 3) := by decide +kernel
theorem dR_costOf_36 : decode bR_costOf 36 = .ok (.lload_n 2, 1) := by decide +kernel
theorem dR_costOf_37 : decode bR_costOf 37 = .ok (.lreturn, 1) := by decide +kernel
theorem dR_isBetter_0 : decode bR_isBetter 0 = .ok (.aload_n 0, 1) := by decide +kernel
theorem dR_isBetter_1 : decode bR_isBetter 1 = .ok (.aload_n 0, 1) := by decide +kernel
theorem dR_isBetter_2 : decode bR_isBetter 2 = .ok (.getfield 58, 3) := by decide +kernel
theorem dR_isBetter_5 : decode bR_isBetter 5 = .ok (.invokevirtual 103, 3) := by decide +kernel
theorem dR_isBetter_8 : decode bR_isBetter 8 = .ok (.aload_n 0, 1) := by decide +kernel
theorem dR_isBetter_9 : decode bR_isBetter 9 = .ok (.getfield 107, 3) := by decide +kernel
theorem dR_isBetter_12 : decode bR_isBetter 12 = .ok (.lmul, 1) := by decide +kernel
theorem dR_isBetter_13 : decode bR_isBetter 13 = .ok (.lstore_n 1, 1) := by decide +kernel
theorem dR_isBetter_14 : decode bR_isBetter 14 = .ok (.aload_n 0, 1) := by decide +kernel
theorem dR_isBetter_15 : decode bR_isBetter 15 = .ok (.aload_n 0, 1) := by decide +kernel
theorem dR_isBetter_16 : decode bR_isBetter 16 = .ok (.getfield 64, 3) := by decide +kernel
theorem dR_isBetter_19 : decode bR_isBetter 19 = .ok (.invokevirtual 103, 3) := by decide +kernel
theorem dR_isBetter_22 : decode bR_isBetter 22 = .ok (.aload_n 0, 1) := by decide +kernel
theorem dR_isBetter_23 : decode bR_isBetter 23 = .ok (.getfield 87, 3) := by decide +kernel
theorem dR_isBetter_26 : decode bR_isBetter 26 = .ok (.lmul, 1) := by decide +kernel
theorem dR_isBetter_27 : decode bR_isBetter 27 = .ok (.lstore_n 3, 1) := by decide +kernel
theorem dR_isBetter_28 : decode bR_isBetter 28 = .ok (.iconst 0, 1) := by decide +kernel
theorem dR_isBetter_29 : decode bR_isBetter 29 = .ok (.istore 5, 2) := by decide +kernel
theorem dR_isBetter_31 : decode bR_isBetter 31 = .ok (.iload 5, 2) := by decide +kernel
theorem dR_isBetter_33 : decode bR_isBetter 33 = .ok (.aload_n 0, 1) := by decide +kernel
theorem dR_isBetter_34 : decode bR_isBetter 34 = .ok (.getfield 67, 3) := by decide +kernel
theorem dR_isBetter_37 : decode bR_isBetter 37 = .ok (.if_icmp .ge 41, 3) := by decide +kernel
theorem dR_isBetter_40 : decode bR_isBetter 40 = .ok (.lload_n 1, 1) := by decide +kernel
theorem dR_isBetter_41 : decode bR_isBetter 41 = .ok (.lload_n 3, 1) := by decide +kernel
theorem dR_isBetter_42 : decode bR_isBetter 42 = .ok (.lcmp, 1) := by decide +kernel
theorem dR_isBetter_43 : decode bR_isBetter 43 = .ok (.ifCond .ne 35, 3) := by decide +kernel
theorem dR_isBetter_46 : decode bR_isBetter 46 = .ok (.aload_n 0, 1) := by decide +kernel
theorem dR_isBetter_47 : decode bR_isBetter 47 = .ok (.getfield 58, 3) := by decide +kernel
theorem dR_isBetter_50 : decode bR_isBetter 50 = .ok (.iload 5, 2) := by decide +kernel
theorem dR_isBetter_52 : decode bR_isBetter 52 = .ok (.laload, 1) := by decide +kernel
theorem dR_isBetter_53 : decode bR_isBetter 53 = .ok (.aload_n 0, 1) := by decide +kernel
theorem dR_isBetter_54 : decode bR_isBetter 54 = .ok (.getfield 107, 3) := by decide +kernel
theorem dR_isBetter_57 : decode bR_isBetter 57 = .ok (.lmul, 1) := by decide +kernel
theorem dR_isBetter_58 : decode bR_isBetter 58 = .ok (.lstore_n 1, 1) := by decide +kernel
theorem dR_isBetter_59 : decode bR_isBetter 59 = .ok (.aload_n 0, 1) := by decide +kernel
theorem dR_isBetter_60 : decode bR_isBetter 60 = .ok (.getfield 64, 3) := by decide +kernel
theorem dR_isBetter_63 : decode bR_isBetter 63 = .ok (.iload 5, 2) := by decide +kernel
theorem dR_isBetter_65 : decode bR_isBetter 65 = .ok (.laload, 1) := by decide +kernel
theorem dR_isBetter_66 : decode bR_isBetter 66 = .ok (.aload_n 0, 1) := by decide +kernel
theorem dR_isBetter_67 : decode bR_isBetter 67 = .ok (.getfield 87, 3) := by decide +kernel
theorem dR_isBetter_70 : decode bR_isBetter 70 = .ok (.lmul, 1) := by decide +kernel
theorem dR_isBetter_71 : decode bR_isBetter 71 = .ok (.lstore_n 3, 1) := by decide +kernel
theorem dR_isBetter_72 : decode bR_isBetter 72 = .ok (.iinc 5 1, 3) := by decide +kernel
theorem dR_isBetter_75 : decode bR_isBetter 75 = .ok (.goto (-44), 3) := by decide +kernel
theorem dR_isBetter_78 : decode bR_isBetter 78 = .ok (.lload_n 1, 1) := by decide +kernel
theorem dR_isBetter_79 : decode bR_isBetter 79 = .ok (.lload_n 3, 1) := by decide +kernel
theorem dR_isBetter_80 : decode bR_isBetter 80 = .ok (.lcmp, 1) := by decide +kernel
theorem dR_isBetter_81 : decode bR_isBetter 81 = .ok (.ifCond .ge 7, 3) := by decide +kernel
theorem dR_isBetter_84 : decode bR_isBetter 84 = .ok (.iconst 1, 1) := by decide +kernel
theorem dR_isBetter_85 : decode bR_isBetter 85 = .ok (.goto 4, 3) := by decide +kernel
theorem dR_isBetter_88 : decode bR_isBetter 88 = .ok (.iconst 0, 1) := by decide +kernel
theorem dR_isBetter_89 : decode bR_isBetter 89 = .ok (.ireturn, 1) := by decide +kernel
theorem dR_look_0 : decode bR_look 0 = .ok (.aload_n 0, 1) := by decide +kernel
theorem dR_look_1 : decode bR_look 1 = .ok (.iload_n 1, 1) := by decide +kernel
theorem dR_look_2 : decode bR_look 2 = .ok (.invokevirtual 110, 3) := by decide +kernel
theorem dR_look_5 : decode bR_look 5 = .ok (.ifCond .eq 11, 3) := by decide +kernel
theorem dR_look_8 : decode bR_look 8 = .ok (.aload_n 0, 1) := by decide +kernel
theorem dR_look_9 : decode bR_look 9 = .ok (.iload_n 1, 1) := by decide +kernel
theorem dR_look_10 : decode bR_look 10 = .ok (.invokevirtual 113, 3) := by decide +kernel
theorem dR_look_13 : decode bR_look 13 = .ok (.ifCond .ne 5, 3) := by decide +kernel
theorem dR_look_16 : decode bR_look 16 = .ok (.iconst 0, 1) := by decide +kernel
theorem dR_look_17 : decode bR_look 17 = .ok (.ireturn, 1) := by decide +kernel
theorem dR_look_18 : decode bR_look 18 = .ok (.aload_n 0, 1) := by decide +kernel
theorem dR_look_19 : decode bR_look 19 = .ok (.getfield 116, 3) := by decide +kernel
theorem dR_look_22 : decode bR_look 22 = .ok (.ifCond .eq 10, 3) := by decide +kernel
theorem dR_look_25 : decode bR_look 25 = .ok (.aload_n 0, 1) := by decide +kernel
theorem dR_look_26 : decode bR_look 26 = .ok (.invokevirtual 120, 3) := by decide +kernel
theorem dR_look_29 : decode bR_look 29 = .ok (.ifCond .eq 39, 3) := by decide +kernel
theorem dR_look_32 : decode bR_look 32 = .ok (.iconst 0, 1) := by decide +kernel
theorem dR_look_33 : decode bR_look 33 = .ok (.istore_n 2, 1) := by decide +kernel
theorem dR_look_34 : decode bR_look 34 = .ok (.iload_n 2, 1) := by decide +kernel
theorem dR_look_35 : decode bR_look 35 = .ok (.aload_n 0, 1) := by decide +kernel
theorem dR_look_36 : decode bR_look 36 = .ok (.getfield 67, 3) := by decide +kernel
theorem dR_look_39 : decode bR_look 39 = .ok (.if_icmp .ge 21, 3) := by decide +kernel
theorem dR_look_42 : decode bR_look 42 = .ok (.aload_n 0, 1) := by decide +kernel
theorem dR_look_43 : decode bR_look 43 = .ok (.getfield 64, 3) := by decide +kernel
theorem dR_look_46 : decode bR_look 46 = .ok (.iload_n 2, 1) := by decide +kernel
theorem dR_look_47 : decode bR_look 47 = .ok (.aload_n 0, 1) := by decide +kernel
theorem dR_look_48 : decode bR_look 48 = .ok (.getfield 58, 3) := by decide +kernel
theorem dR_look_51 : decode bR_look 51 = .ok (.iload_n 2, 1) := by decide +kernel
theorem dR_look_52 : decode bR_look 52 = .ok (.laload, 1) := by decide +kernel
theorem dR_look_53 : decode bR_look 53 = .ok (.lastore, 1) := by decide +kernel
theorem dR_look_54 : decode bR_look 54 = .ok (.iinc 2 1, 3) := by decide +kernel
theorem dR_look_57 : decode bR_look 57 = .ok (.goto (-23), 3) := by decide +kernel
theorem dR_look_60 : decode bR_look 60 = .ok (.aload_n 0, 1) := by decide +kernel
theorem dR_look_61 : decode bR_look 61 = .ok (.aload_n 0, 1) := by decide +kernel
theorem dR_look_62 : decode bR_look 62 = .ok (.getfield 87, 3) := by decide +kernel
theorem dR_look_65 : decode bR_look 65 = .ok (.putfield 107, 3) := by decide +kernel
theorem dR_look_68 : decode bR_look 68 = .ok (.aload_n 0, 1) := by decide +kernel
theorem dR_look_69 : decode bR_look 69 = .ok (.iconst 1, 1) := by decide +kernel
theorem dR_look_70 : decode bR_look 70 = .ok (.putfield 116, 3) := by decide +kernel
theorem dR_look_73 : decode bR_look 73 = .ok (.iconst 1, 1) := by decide +kernel
theorem dR_look_74 : decode bR_look 74 = .ok (.ireturn, 1) := by decide +kernel
theorem dR_corners_0 : decode bR_corners 0 = .ok (.aload_n 0, 1) := by decide +kernel
theorem dR_corners_1 : decode bR_corners 1 = .ok (.iconst 0, 1) := by decide +kernel
theorem dR_corners_2 : decode bR_corners 2 = .ok (.putfield 98, 3) := by decide +kernel
theorem dR_corners_5 : decode bR_corners 5 = .ok (.iconst 0, 1) := by decide +kernel
theorem dR_corners_6 : decode bR_corners 6 = .ok (.istore_n 3, 1) := by decide +kernel
theorem dR_corners_7 : decode bR_corners 7 = .ok (.iload_n 3, 1) := by decide +kernel
theorem dR_corners_8 : decode bR_corners 8 = .ok (.aload_n 0, 1) := by decide +kernel
theorem dR_corners_9 : decode bR_corners 9 = .ok (.getfield 67, 3) := by decide +kernel
theorem dR_corners_12 : decode bR_corners 12 = .ok (.if_icmp .ge 38, 3) := by decide +kernel
theorem dR_corners_15 : decode bR_corners 15 = .ok (.aload_n 0, 1) := by decide +kernel
theorem dR_corners_16 : decode bR_corners 16 = .ok (.getfield 49, 3) := by decide +kernel
theorem dR_corners_19 : decode bR_corners 19 = .ok (.iload_n 3, 1) := by decide +kernel
theorem dR_corners_20 : decode bR_corners 20 = .ok (.iaload, 1) := by decide +kernel
theorem dR_corners_21 : decode bR_corners 21 = .ok (.ifCond .ge 23, 3) := by decide +kernel
theorem dR_corners_24 : decode bR_corners 24 = .ok (.aload_n 0, 1) := by decide +kernel
theorem dR_corners_25 : decode bR_corners 25 = .ok (.getfield 52, 3) := by decide +kernel
theorem dR_corners_28 : decode bR_corners 28 = .ok (.aload_n 0, 1) := by decide +kernel
theorem dR_corners_29 : decode bR_corners 29 = .ok (.getfield 98, 3) := by decide +kernel
theorem dR_corners_32 : decode bR_corners 32 = .ok (.iload_n 3, 1) := by decide +kernel
theorem dR_corners_33 : decode bR_corners 33 = .ok (.iastore, 1) := by decide +kernel
theorem dR_corners_34 : decode bR_corners 34 = .ok (.aload_n 0, 1) := by decide +kernel
theorem dR_corners_35 : decode bR_corners 35 = .ok (.dup, 1) := by decide +kernel
theorem dR_corners_36 : decode bR_corners 36 = .ok (.getfield 98, 3) := by decide +kernel
theorem dR_corners_39 : decode bR_corners 39 = .ok (.iconst 1, 1) := by decide +kernel
theorem dR_corners_40 : decode bR_corners 40 = .ok (.iadd, 1) := by decide +kernel
theorem dR_corners_41 : decode bR_corners 41 = .ok (.putfield 98, 3) := by decide +kernel
theorem dR_corners_44 : decode bR_corners 44 = .ok (.iinc 3 1, 3) := by decide +kernel
theorem dR_corners_47 : decode bR_corners 47 = .ok (.goto (-40), 3) := by decide +kernel
theorem dR_corners_50 : decode bR_corners 50 = .ok (.aload_n 0, 1) := by decide +kernel
theorem dR_corners_51 : decode bR_corners 51 = .ok (.getfield 98, 3) := by decide +kernel
theorem dR_corners_54 : decode bR_corners 54 = .ok (.iconst 1, 1) := by decide +kernel
theorem dR_corners_55 : decode bR_corners 55 = .ok (.isub, 1) := by decide +kernel
theorem dR_corners_56 : decode bR_corners 56 = .ok (.istore_n 3, 1) := by decide +kernel
theorem dR_corners_57 : decode bR_corners 57 = .ok (.iconst 1, 1) := by decide +kernel
theorem dR_corners_58 : decode bR_corners 58 = .ok (.istore 4, 2) := by decide +kernel
theorem dR_corners_60 : decode bR_corners 60 = .ok (.iload_n 3, 1) := by decide +kernel
theorem dR_corners_61 : decode bR_corners 61 = .ok (.ifCond .le 7, 3) := by decide +kernel
theorem dR_corners_64 : decode bR_corners 64 = .ok (.iconst 0, 1) := by decide +kernel
theorem dR_corners_65 : decode bR_corners 65 = .ok (.goto 5, 3) := by decide +kernel
theorem dR_corners_68 : decode bR_corners 68 = .ok (.bipush 21, 2) := by decide +kernel
theorem dR_corners_70 : decode bR_corners 70 = .ok (.istore 5, 2) := by decide +kernel
theorem dR_corners_72 : decode bR_corners 72 = .ok (.iload 5, 2) := by decide +kernel
theorem dR_corners_74 : decode bR_corners 74 = .ok (.bipush 22, 2) := by decide +kernel
theorem dR_corners_76 : decode bR_corners 76 = .ok (.if_icmp .ge 179, 3) := by decide +kernel
theorem dR_corners_79 : decode bR_corners 79 = .ok (.iload 4, 2) := by decide +kernel
theorem dR_corners_81 : decode bR_corners 81 = .ok (.ifCond .eq 174, 3) := by decide +kernel
theorem dR_corners_84 : decode bR_corners 84 = .ok (.iload_n 3, 1) := by decide +kernel
theorem dR_corners_85 : decode bR_corners 85 = .ok (.ifCond .le 16, 3) := by decide +kernel
theorem dR_corners_88 : decode bR_corners 88 = .ok (.aload_n 0, 1) := by decide +kernel
theorem dR_corners_89 : decode bR_corners 89 = .ok (.getfield 45, 3) := by decide +kernel
theorem dR_corners_92 : decode bR_corners 92 = .ok (.iload 5, 2) := by decide +kernel
theorem dR_corners_94 : decode bR_corners 94 = .ok (.baload, 1) := by decide +kernel
theorem dR_corners_95 : decode bR_corners 95 = .ok (.ifCond .ne 6, 3) := by decide +kernel
theorem dR_corners_98 : decode bR_corners 98 = .ok (.goto 151, 3) := by decide +kernel
theorem dR_corners_101 : decode bR_corners 101 = .ok (.iload_n 3, 1) := by decide +kernel
theorem dR_corners_102 : decode bR_corners 102 = .ok (.iconst 1, 1) := by decide +kernel
theorem dR_corners_103 : decode bR_corners 103 = .ok (.if_icmp .le 10, 3) := by decide +kernel
theorem dR_corners_106 : decode bR_corners 106 = .ok (.iload 5, 2) := by decide +kernel
theorem dR_corners_108 : decode bR_corners 108 = .ok (.iconst 1, 1) := by decide +kernel
theorem dR_corners_109 : decode bR_corners 109 = .ok (.iadd, 1) := by decide +kernel
theorem dR_corners_110 : decode bR_corners 110 = .ok (.goto 5, 3) := by decide +kernel
theorem dR_corners_113 : decode bR_corners 113 = .ok (.bipush 21, 2) := by decide +kernel
theorem dR_corners_115 : decode bR_corners 115 = .ok (.istore 6, 2) := by decide +kernel
theorem dR_corners_117 : decode bR_corners 117 = .ok (.iload 6, 2) := by decide +kernel
theorem dR_corners_119 : decode bR_corners 119 = .ok (.bipush 22, 2) := by decide +kernel
theorem dR_corners_121 : decode bR_corners 121 = .ok (.if_icmp .ge 128, 3) := by decide +kernel
theorem dR_corners_124 : decode bR_corners 124 = .ok (.iload 4, 2) := by decide +kernel
theorem dR_corners_126 : decode bR_corners 126 = .ok (.ifCond .eq 123, 3) := by decide +kernel
theorem dR_corners_129 : decode bR_corners 129 = .ok (.iload_n 3, 1) := by decide +kernel
theorem dR_corners_130 : decode bR_corners 130 = .ok (.iconst 1, 1) := by decide +kernel
theorem dR_corners_131 : decode bR_corners 131 = .ok (.if_icmp .le 16, 3) := by decide +kernel
theorem dR_corners_134 : decode bR_corners 134 = .ok (.aload_n 0, 1) := by decide +kernel
theorem dR_corners_135 : decode bR_corners 135 = .ok (.getfield 45, 3) := by decide +kernel
theorem dR_corners_138 : decode bR_corners 138 = .ok (.iload 6, 2) := by decide +kernel
theorem dR_corners_140 : decode bR_corners 140 = .ok (.baload, 1) := by decide +kernel
theorem dR_corners_141 : decode bR_corners 141 = .ok (.ifCond .ne 6, 3) := by decide +kernel
theorem dR_corners_144 : decode bR_corners 144 = .ok (.goto 99, 3) := by decide +kernel
theorem dR_corners_147 : decode bR_corners 147 = .ok (.iload_n 3, 1) := by decide +kernel
theorem dR_corners_148 : decode bR_corners 148 = .ok (.iconst 2, 1) := by decide +kernel
theorem dR_corners_149 : decode bR_corners 149 = .ok (.if_icmp .le 10, 3) := by decide +kernel
theorem dR_corners_152 : decode bR_corners 152 = .ok (.iload 6, 2) := by decide +kernel
theorem dR_corners_154 : decode bR_corners 154 = .ok (.iconst 1, 1) := by decide +kernel
theorem dR_corners_155 : decode bR_corners 155 = .ok (.iadd, 1) := by decide +kernel
theorem dR_corners_156 : decode bR_corners 156 = .ok (.goto 5, 3) := by decide +kernel
theorem dR_corners_159 : decode bR_corners 159 = .ok (.bipush 21, 2) := by decide +kernel
theorem dR_corners_161 : decode bR_corners 161 = .ok (.istore 7, 2) := by decide +kernel
theorem dR_corners_163 : decode bR_corners 163 = .ok (.iload 7, 2) := by decide +kernel
theorem dR_corners_165 : decode bR_corners 165 = .ok (.bipush 22, 2) := by decide +kernel
theorem dR_corners_167 : decode bR_corners 167 = .ok (.if_icmp .ge 76, 3) := by decide +kernel
theorem dR_corners_170 : decode bR_corners 170 = .ok (.iload 4, 2) := by decide +kernel
theorem dR_corners_172 : decode bR_corners 172 = .ok (.ifCond .eq 71, 3) := by decide +kernel
theorem dR_corners_175 : decode bR_corners 175 = .ok (.iload_n 3, 1) := by decide +kernel
theorem dR_corners_176 : decode bR_corners 176 = .ok (.iconst 2, 1) := by decide +kernel
theorem dR_corners_177 : decode bR_corners 177 = .ok (.if_icmp .le 13, 3) := by decide +kernel
theorem dR_corners_180 : decode bR_corners 180 = .ok (.aload_n 0, 1) := by decide +kernel
theorem dR_corners_181 : decode bR_corners 181 = .ok (.getfield 45, 3) := by decide +kernel
theorem dR_corners_184 : decode bR_corners 184 = .ok (.iload 7, 2) := by decide +kernel
theorem dR_corners_186 : decode bR_corners 186 = .ok (.baload, 1) := by decide +kernel
theorem dR_corners_187 : decode bR_corners 187 = .ok (.ifCond .eq 50, 3) := by decide +kernel
theorem dR_corners_190 : decode bR_corners 190 = .ok (.aload_n 0, 1) := by decide +kernel
theorem dR_corners_191 : decode bR_corners 191 = .ok (.getfield 61, 3) := by decide +kernel
theorem dR_corners_194 : decode bR_corners 194 = .ok (.iconst 0, 1) := by decide +kernel
theorem dR_corners_195 : decode bR_corners 195 = .ok (.iload 5, 2) := by decide +kernel
theorem dR_corners_197 : decode bR_corners 197 = .ok (.iastore, 1) := by decide +kernel
theorem dR_corners_198 : decode bR_corners 198 = .ok (.aload_n 0, 1) := by decide +kernel
theorem dR_corners_199 : decode bR_corners 199 = .ok (.getfield 61, 3) := by decide +kernel
theorem dR_corners_202 : decode bR_corners 202 = .ok (.iconst 1, 1) := by decide +kernel
theorem dR_corners_203 : decode bR_corners 203 = .ok (.iload 6, 2) := by decide +kernel
theorem dR_corners_205 : decode bR_corners 205 = .ok (.iastore, 1) := by decide +kernel
theorem dR_corners_206 : decode bR_corners 206 = .ok (.aload_n 0, 1) := by decide +kernel
theorem dR_corners_207 : decode bR_corners 207 = .ok (.getfield 61, 3) := by decide +kernel
theorem dR_corners_210 : decode bR_corners 210 = .ok (.iconst 2, 1) := by decide +kernel
theorem dR_corners_211 : decode bR_corners 211 = .ok (.iload 7, 2) := by decide +kernel
theorem dR_corners_213 : decode bR_corners 213 = .ok (.iastore, 1) := by decide +kernel
theorem dR_corners_214 : decode bR_corners 214 = .ok (.aload_n 0, 1) := by decide +kernel
theorem dR_corners_215 : decode bR_corners 215 = .ok (.iload_n 1, 1) := by decide +kernel
theorem dR_corners_216 : decode bR_corners 216 = .ok (.invokevirtual 124, 3) := by decide +kernel
theorem dR_corners_219 : decode bR_corners 219 = .ok (.istore 8, 2) := by decide +kernel
theorem dR_corners_221 : decode bR_corners 221 = .ok (.iload 8, 2) := by decide +kernel
theorem dR_corners_223 : decode bR_corners 223 = .ok (.ifCond .eq 7, 3) := by decide +kernel
theorem dR_corners_226 : decode bR_corners 226 = .ok (.iload_n 2, 1) := by decide +kernel
theorem dR_corners_227 : decode bR_corners 227 = .ok (.ifCond .ne 7, 3) := by decide +kernel
theorem dR_corners_230 : decode bR_corners 230 = .ok (.iconst 1, 1) := by decide +kernel
theorem dR_corners_231 : decode bR_corners 231 = .ok (.goto 4, 3) := by decide +kernel
theorem dR_corners_234 : decode bR_corners 234 = .ok (.iconst 0, 1) := by decide +kernel
theorem dR_corners_235 : decode bR_corners 235 = .ok (.istore 4, 2) := by decide +kernel
theorem dR_corners_237 : decode bR_corners 237 = .ok (.iinc 7 1, 3) := by decide +kernel
theorem dR_corners_240 : decode bR_corners 240 = .ok (.goto (-77), 3) := by decide +kernel
theorem dR_corners_243 : decode bR_corners 243 = .ok (.iinc 6 1, 3) := by decide +kernel
theorem dR_corners_246 : decode bR_corners 246 = .ok (.goto (-129), 3) := by decide +kernel
theorem dR_corners_249 : decode bR_corners 249 = .ok (.iinc 5 1, 3) := by decide +kernel
theorem dR_corners_252 : decode bR_corners 252 = .ok (.goto (-180), 3) := by decide +kernel
theorem dR_corners_255 : decode bR_corners 255 = .ok (.return_, 1) := by decide +kernel
theorem dR_countAll_0 : decode bR_countAll 0 = .ok (.iconst 0, 1) := by decide +kernel
theorem dR_countAll_1 : decode bR_countAll 1 = .ok (.istore_n 1, 1) := by decide +kernel
theorem dR_countAll_2 : decode bR_countAll 2 = .ok (.iload_n 1, 1) := by decide +kernel
theorem dR_countAll_3 : decode bR_countAll 3 = .ok (.bipush 22, 2) := by decide +kernel
theorem dR_countAll_5 : decode bR_countAll 5 = .ok (.if_icmp .ge 20, 3) := by decide +kernel
theorem dR_countAll_8 : decode bR_countAll 8 = .ok (.aload_n 0, 1) := by decide +kernel
theorem dR_countAll_9 : decode bR_countAll 9 = .ok (.getfield 45, 3) := by decide +kernel
theorem dR_countAll_12 : decode bR_countAll 12 = .ok (.iload_n 1, 1) := by decide +kernel
theorem dR_countAll_13 : decode bR_countAll 13 = .ok (.aload_n 0, 1) := by decide +kernel
theorem dR_countAll_14 : decode bR_countAll 14 = .ok (.iload_n 1, 1) := by decide +kernel
theorem dR_countAll_15 : decode bR_countAll 15 = .ok (.invokevirtual 127, 3) := by decide +kernel
theorem dR_countAll_18 : decode bR_countAll 18 = .ok (.bastore, 1) := by decide +kernel
theorem dR_countAll_19 : decode bR_countAll 19 = .ok (.iinc 1 1, 3) := by decide +kernel
theorem dR_countAll_22 : decode bR_countAll 22 = .ok (.goto (-20), 3) := by decide +kernel
theorem dR_countAll_25 : decode bR_countAll 25 = .ok (.return_, 1) := by decide +kernel
theorem dR_freeAll_0 : decode bR_freeAll 0 = .ok (.iconst 0, 1) := by decide +kernel
theorem dR_freeAll_1 : decode bR_freeAll 1 = .ok (.istore_n 1, 1) := by decide +kernel
theorem dR_freeAll_2 : decode bR_freeAll 2 = .ok (.iload_n 1, 1) := by decide +kernel
theorem dR_freeAll_3 : decode bR_freeAll 3 = .ok (.iconst 4, 1) := by decide +kernel
theorem dR_freeAll_4 : decode bR_freeAll 4 = .ok (.if_icmp .ge 16, 3) := by decide +kernel
theorem dR_freeAll_7 : decode bR_freeAll 7 = .ok (.aload_n 0, 1) := by decide +kernel
theorem dR_freeAll_8 : decode bR_freeAll 8 = .ok (.getfield 49, 3) := by decide +kernel
theorem dR_freeAll_11 : decode bR_freeAll 11 = .ok (.iload_n 1, 1) := by decide +kernel
theorem dR_freeAll_12 : decode bR_freeAll 12 = .ok (.iconst (-1), 1) := by decide +kernel
theorem dR_freeAll_13 : decode bR_freeAll 13 = .ok (.iastore, 1) := by decide +kernel
theorem dR_freeAll_14 : decode bR_freeAll 14 = .ok (.iinc 1 1, 3) := by decide +kernel
theorem dR_freeAll_17 : decode bR_freeAll 17 = .ok (.goto (-15), 3) := by decide +kernel
theorem dR_freeAll_20 : decode bR_freeAll 20 = .ok (.return_, 1) := by decide +kernel
theorem dR_isPossible_0 : decode bR_isPossible 0 = .ok (.aload_n 0, 1) := by decide +kernel
theorem dR_isPossible_1 : decode bR_isPossible 1 = .ok (.iconst 0, 1) := by decide +kernel
theorem dR_isPossible_2 : decode bR_isPossible 2 = .ok (.putfield 116, 3) := by decide +kernel
theorem dR_isPossible_5 : decode bR_isPossible 5 = .ok (.aload_n 0, 1) := by decide +kernel
theorem dR_isPossible_6 : decode bR_isPossible 6 = .ok (.invokevirtual 130, 3) := by decide +kernel
theorem dR_isPossible_9 : decode bR_isPossible 9 = .ok (.aload_n 0, 1) := by decide +kernel
theorem dR_isPossible_10 : decode bR_isPossible 10 = .ok (.iload_n 1, 1) := by decide +kernel
theorem dR_isPossible_11 : decode bR_isPossible 11 = .ok (.iconst 1, 1) := by decide +kernel
theorem dR_isPossible_12 : decode bR_isPossible 12 = .ok (.invokevirtual 133, 3) := by decide +kernel
theorem dR_isPossible_15 : decode bR_isPossible 15 = .ok (.aload_n 0, 1) := by decide +kernel
theorem dR_isPossible_16 : decode bR_isPossible 16 = .ok (.getfield 116, 3) := by decide +kernel
theorem dR_isPossible_19 : decode bR_isPossible 19 = .ok (.ireturn, 1) := by decide +kernel
theorem dR_most_0 : decode bR_most 0 = .ok (.iload_n 1, 1) := by decide +kernel
theorem dR_most_1 : decode bR_most 1 = .ok (.aload_n 0, 1) := by decide +kernel
theorem dR_most_2 : decode bR_most 2 = .ok (.getfield 67, 3) := by decide +kernel
theorem dR_most_5 : decode bR_most 5 = .ok (.if_icmp .ge 28, 3) := by decide +kernel
theorem dR_most_8 : decode bR_most 8 = .ok (.aload_n 0, 1) := by decide +kernel
theorem dR_most_9 : decode bR_most 9 = .ok (.getfield 25, 3) := by decide +kernel
theorem dR_most_12 : decode bR_most 12 = .ok (.iload_n 1, 1) := by decide +kernel
theorem dR_most_13 : decode bR_most 13 = .ok (.iaload, 1) := by decide +kernel
theorem dR_most_14 : decode bR_most 14 = .ok (.ifCond .le 19, 3) := by decide +kernel
theorem dR_most_17 : decode bR_most 17 = .ok (.aload_n 0, 1) := by decide +kernel
theorem dR_most_18 : decode bR_most 18 = .ok (.getfield 13, 3) := by decide +kernel
theorem dR_most_21 : decode bR_most 21 = .ok (.iload_n 1, 1) := by decide +kernel
theorem dR_most_22 : decode bR_most 22 = .ok (.iaload, 1) := by decide +kernel
theorem dR_most_23 : decode bR_most 23 = .ok (.aload_n 0, 1) := by decide +kernel
theorem dR_most_24 : decode bR_most 24 = .ok (.getfield 25, 3) := by decide +kernel
theorem dR_most_27 : decode bR_most 27 = .ok (.iload_n 1, 1) := by decide +kernel
theorem dR_most_28 : decode bR_most 28 = .ok (.iaload, 1) := by decide +kernel
theorem dR_most_29 : decode bR_most 29 = .ok (.idiv, 1) := by decide +kernel
theorem dR_most_30 : decode bR_most 30 = .ok (.goto 4, 3) := by decide +kernel
theorem dR_most_33 : decode bR_most 33 = .ok (.iconst 0, 1) := by decide +kernel
theorem dR_most_34 : decode bR_most 34 = .ok (.ireturn, 1) := by decide +kernel
theorem dR_fix_0 : decode bR_fix 0 = .ok (.aload_n 0, 1) := by decide +kernel
theorem dR_fix_1 : decode bR_fix 1 = .ok (.getfield 49, 3) := by decide +kernel
theorem dR_fix_4 : decode bR_fix 4 = .ok (.iload_n 1, 1) := by decide +kernel
theorem dR_fix_5 : decode bR_fix 5 = .ok (.iload_n 1, 1) := by decide +kernel
theorem dR_fix_6 : decode bR_fix 6 = .ok (.aload_n 0, 1) := by decide +kernel
theorem dR_fix_7 : decode bR_fix 7 = .ok (.getfield 67, 3) := by decide +kernel
theorem dR_fix_10 : decode bR_fix 10 = .ok (.if_icmp .ge 23, 3) := by decide +kernel
theorem dR_fix_13 : decode bR_fix 13 = .ok (.aload_n 0, 1) := by decide +kernel
theorem dR_fix_14 : decode bR_fix 14 = .ok (.getfield 25, 3) := by decide +kernel
theorem dR_fix_17 : decode bR_fix 17 = .ok (.iload_n 1, 1) := by decide +kernel
theorem dR_fix_18 : decode bR_fix 18 = .ok (.iaload, 1) := by decide +kernel
theorem dR_fix_19 : decode bR_fix 19 = .ok (.ifCond .le 14, 3) := by decide +kernel
theorem dR_fix_22 : decode bR_fix 22 = .ok (.iload_n 2, 1) := by decide +kernel
theorem dR_fix_23 : decode bR_fix 23 = .ok (.aload_n 0, 1) := by decide +kernel
theorem dR_fix_24 : decode bR_fix 24 = .ok (.getfield 25, 3) := by decide +kernel
theorem dR_fix_27 : decode bR_fix 27 = .ok (.iload_n 1, 1) := by decide +kernel
theorem dR_fix_28 : decode bR_fix 28 = .ok (.iaload, 1) := by decide +kernel
theorem dR_fix_29 : decode bR_fix 29 = .ok (.imul, 1) := by decide +kernel
theorem dR_fix_30 : decode bR_fix 30 = .ok (.goto 4, 3) := by decide +kernel
theorem dR_fix_33 : decode bR_fix 33 = .ok (.iconst (-1), 1) := by decide +kernel
theorem dR_fix_34 : decode bR_fix 34 = .ok (.iastore, 1) := by decide +kernel
theorem dR_fix_35 : decode bR_fix 35 = .ok (.return_, 1) := by decide +kernel
theorem dR_mixes_0 : decode bR_mixes 0 = .ok (.aload_n 0, 1) := by decide +kernel
theorem dR_mixes_1 : decode bR_mixes 1 = .ok (.invokevirtual 137, 3) := by decide +kernel
theorem dR_mixes_4 : decode bR_mixes 4 = .ok (.aload_n 0, 1) := by decide +kernel
theorem dR_mixes_5 : decode bR_mixes 5 = .ok (.iconst 0, 1) := by decide +kernel
theorem dR_mixes_6 : decode bR_mixes 6 = .ok (.putfield 116, 3) := by decide +kernel
theorem dR_mixes_9 : decode bR_mixes 9 = .ok (.iconst 0, 1) := by decide +kernel
theorem dR_mixes_10 : decode bR_mixes 10 = .ok (.istore_n 2, 1) := by decide +kernel
theorem dR_mixes_11 : decode bR_mixes 11 = .ok (.iload_n 2, 1) := by decide +kernel
theorem dR_mixes_12 : decode bR_mixes 12 = .ok (.aload_n 0, 1) := by decide +kernel
theorem dR_mixes_13 : decode bR_mixes 13 = .ok (.iconst 0, 1) := by decide +kernel
theorem dR_mixes_14 : decode bR_mixes 14 = .ok (.invokevirtual 140, 3) := by decide +kernel
theorem dR_mixes_17 : decode bR_mixes 17 = .ok (.if_icmp .gt 96, 3) := by decide +kernel
theorem dR_mixes_20 : decode bR_mixes 20 = .ok (.iconst 0, 1) := by decide +kernel
theorem dR_mixes_21 : decode bR_mixes 21 = .ok (.istore_n 3, 1) := by decide +kernel
theorem dR_mixes_22 : decode bR_mixes 22 = .ok (.iload_n 3, 1) := by decide +kernel
theorem dR_mixes_23 : decode bR_mixes 23 = .ok (.aload_n 0, 1) := by decide +kernel
theorem dR_mixes_24 : decode bR_mixes 24 = .ok (.iconst 1, 1) := by decide +kernel
theorem dR_mixes_25 : decode bR_mixes 25 = .ok (.invokevirtual 140, 3) := by decide +kernel
theorem dR_mixes_28 : decode bR_mixes 28 = .ok (.if_icmp .gt 79, 3) := by decide +kernel
theorem dR_mixes_31 : decode bR_mixes 31 = .ok (.iconst 0, 1) := by decide +kernel
theorem dR_mixes_32 : decode bR_mixes 32 = .ok (.istore 4, 2) := by decide +kernel
theorem dR_mixes_34 : decode bR_mixes 34 = .ok (.iload 4, 2) := by decide +kernel
theorem dR_mixes_36 : decode bR_mixes 36 = .ok (.aload_n 0, 1) := by decide +kernel
theorem dR_mixes_37 : decode bR_mixes 37 = .ok (.iconst 2, 1) := by decide +kernel
theorem dR_mixes_38 : decode bR_mixes 38 = .ok (.invokevirtual 140, 3) := by decide +kernel
theorem dR_mixes_41 : decode bR_mixes 41 = .ok (.if_icmp .gt 60, 3) := by decide +kernel
theorem dR_mixes_44 : decode bR_mixes 44 = .ok (.iconst 0, 1) := by decide +kernel
theorem dR_mixes_45 : decode bR_mixes 45 = .ok (.istore 5, 2) := by decide +kernel
theorem dR_mixes_47 : decode bR_mixes 47 = .ok (.iload 5, 2) := by decide +kernel
theorem dR_mixes_49 : decode bR_mixes 49 = .ok (.aload_n 0, 1) := by decide +kernel
theorem dR_mixes_50 : decode bR_mixes 50 = .ok (.iconst 3, 1) := by decide +kernel
theorem dR_mixes_51 : decode bR_mixes 51 = .ok (.invokevirtual 140, 3) := by decide +kernel
theorem dR_mixes_54 : decode bR_mixes 54 = .ok (.if_icmp .gt 41, 3) := by decide +kernel
theorem dR_mixes_57 : decode bR_mixes 57 = .ok (.aload_n 0, 1) := by decide +kernel
theorem dR_mixes_58 : decode bR_mixes 58 = .ok (.iconst 0, 1) := by decide +kernel
theorem dR_mixes_59 : decode bR_mixes 59 = .ok (.iload_n 2, 1) := by decide +kernel
theorem dR_mixes_60 : decode bR_mixes 60 = .ok (.invokevirtual 144, 3) := by decide +kernel
theorem dR_mixes_63 : decode bR_mixes 63 = .ok (.aload_n 0, 1) := by decide +kernel
theorem dR_mixes_64 : decode bR_mixes 64 = .ok (.iconst 1, 1) := by decide +kernel
theorem dR_mixes_65 : decode bR_mixes 65 = .ok (.iload_n 3, 1) := by decide +kernel
theorem dR_mixes_66 : decode bR_mixes 66 = .ok (.invokevirtual 144, 3) := by decide +kernel
theorem dR_mixes_69 : decode bR_mixes 69 = .ok (.aload_n 0, 1) := by decide +kernel
theorem dR_mixes_70 : decode bR_mixes 70 = .ok (.iconst 2, 1) := by decide +kernel
theorem dR_mixes_71 : decode bR_mixes 71 = .ok (.iload 4, 2) := by decide +kernel
theorem dR_mixes_73 : decode bR_mixes 73 = .ok (.invokevirtual 144, 3) := by decide +kernel
theorem dR_mixes_76 : decode bR_mixes 76 = .ok (.aload_n 0, 1) := by decide +kernel
theorem dR_mixes_77 : decode bR_mixes 77 = .ok (.iconst 3, 1) := by decide +kernel
theorem dR_mixes_78 : decode bR_mixes 78 = .ok (.iload 5, 2) := by decide +kernel
theorem dR_mixes_80 : decode bR_mixes 80 = .ok (.invokevirtual 144, 3) := by decide +kernel
theorem dR_mixes_83 : decode bR_mixes 83 = .ok (.aload_n 0, 1) := by decide +kernel
theorem dR_mixes_84 : decode bR_mixes 84 = .ok (.iload_n 1, 1) := by decide +kernel
theorem dR_mixes_85 : decode bR_mixes 85 = .ok (.iconst 0, 1) := by decide +kernel
theorem dR_mixes_86 : decode bR_mixes 86 = .ok (.invokevirtual 133, 3) := by decide +kernel
theorem dR_mixes_89 : decode bR_mixes 89 = .ok (.iinc 5 1, 3) := by decide +kernel
theorem dR_mixes_92 : decode bR_mixes 92 = .ok (.goto (-45), 3) := by decide +kernel
theorem dR_mixes_95 : decode bR_mixes 95 = .ok (.iinc 4 1, 3) := by decide +kernel
theorem dR_mixes_98 : decode bR_mixes 98 = .ok (.goto (-64), 3) := by decide +kernel
theorem dR_mixes_101 : decode bR_mixes 101 = .ok (.iinc 3 1, 3) := by decide +kernel
theorem dR_mixes_104 : decode bR_mixes 104 = .ok (.goto (-82), 3) := by decide +kernel
theorem dR_mixes_107 : decode bR_mixes 107 = .ok (.iinc 2 1, 3) := by decide +kernel
theorem dR_mixes_110 : decode bR_mixes 110 = .ok (.goto (-99), 3) := by decide +kernel
theorem dR_mixes_113 : decode bR_mixes 113 = .ok (.aload_n 0, 1) := by decide +kernel
theorem dR_mixes_114 : decode bR_mixes 114 = .ok (.getfield 116, 3) := by decide +kernel
theorem dR_mixes_117 : decode bR_mixes 117 = .ok (.ireturn, 1) := by decide +kernel
theorem dR_divisor_0 : decode bR_divisor 0 = .ok (.lload_n 0, 1) := by decide +kernel
theorem dR_divisor_1 : decode bR_divisor 1 = .ok (.lconst 0, 1) := by decide +kernel
theorem dR_divisor_2 : decode bR_divisor 2 = .ok (.lcmp, 1) := by decide +kernel
theorem dR_divisor_3 : decode bR_divisor 3 = .ok (.ifCond .ge 8, 3) := by decide +kernel
theorem dR_divisor_6 : decode bR_divisor 6 = .ok (.lload_n 0, 1) := by decide +kernel
theorem dR_divisor_7 : decode bR_divisor 7 = .ok (.lneg, 1) := by decide +kernel
theorem dR_divisor_8 : decode bR_divisor 8 = .ok (.goto 4, 3) := by decide +kernel
theorem dR_divisor_11 : decode bR_divisor 11 = .ok (.lload_n 0, 1) := by decide +kernel
theorem dR_divisor_12 : decode bR_divisor 12 = .ok (.lstore 4, 2) := by decide +kernel
theorem dR_divisor_14 : decode bR_divisor 14 = .ok (.lload_n 2, 1) := by decide +kernel
theorem dR_divisor_15 : decode bR_divisor 15 = .ok (.lstore 6, 2) := by decide +kernel
theorem dR_divisor_17 : decode bR_divisor 17 = .ok (.lload 6, 2) := by decide +kernel
theorem dR_divisor_19 : decode bR_divisor 19 = .ok (.lconst 0, 1) := by decide +kernel
theorem dR_divisor_20 : decode bR_divisor 20 = .ok (.lcmp, 1) := by decide +kernel
theorem dR_divisor_21 : decode bR_divisor 21 = .ok (.ifCond .eq 21, 3) := by decide +kernel
theorem dR_divisor_24 : decode bR_divisor 24 = .ok (.lload 4, 2) := by decide +kernel
theorem dR_divisor_26 : decode bR_divisor 26 = .ok (.lload 6, 2) := by decide +kernel
theorem dR_divisor_28 : decode bR_divisor 28 = .ok (.lrem, 1) := by decide +kernel
theorem dR_divisor_29 : decode bR_divisor 29 = .ok (.lstore 8, 2) := by decide +kernel
theorem dR_divisor_31 : decode bR_divisor 31 = .ok (.lload 6, 2) := by decide +kernel
theorem dR_divisor_33 : decode bR_divisor 33 = .ok (.lstore 4, 2) := by decide +kernel
theorem dR_divisor_35 : decode bR_divisor 35 = .ok (.lload 8, 2) := by decide +kernel
theorem dR_divisor_37 : decode bR_divisor 37 = .ok (.lstore 6, 2) := by decide +kernel
theorem dR_divisor_39 : decode bR_divisor 39 = .ok (.goto (-22), 3) := by decide +kernel
theorem dR_divisor_42 : decode bR_divisor 42 = .ok (.lload 4, 2) := by decide +kernel
theorem dR_divisor_44 : decode bR_divisor 44 = .ok (.lreturn, 1) := by decide +kernel
theorem dR_keepMix_0 : decode bR_keepMix 0 = .ok (.aload_n 0, 1) := by decide +kernel
theorem dR_keepMix_1 : decode bR_keepMix 1 = .ok (.iconst 0, 1) := by decide +kernel
theorem dR_keepMix_2 : decode bR_keepMix 2 = .ok (.putfield 34, 3) := by decide +kernel
theorem dR_keepMix_5 : decode bR_keepMix 5 = .ok (.aload_n 0, 1) := by decide +kernel
theorem dR_keepMix_6 : decode bR_keepMix 6 = .ok (.iconst 0, 1) := by decide +kernel
theorem dR_keepMix_7 : decode bR_keepMix 7 = .ok (.putfield 148, 3) := by decide +kernel
theorem dR_keepMix_10 : decode bR_keepMix 10 = .ok (.iconst 0, 1) := by decide +kernel
theorem dR_keepMix_11 : decode bR_keepMix 11 = .ok (.istore_n 2, 1) := by decide +kernel
theorem dR_keepMix_12 : decode bR_keepMix 12 = .ok (.iload_n 2, 1) := by decide +kernel
theorem dR_keepMix_13 : decode bR_keepMix 13 = .ok (.aload_n 0, 1) := by decide +kernel
theorem dR_keepMix_14 : decode bR_keepMix 14 = .ok (.getfield 67, 3) := by decide +kernel
theorem dR_keepMix_17 : decode bR_keepMix 17 = .ok (.if_icmp .ge 49, 3) := by decide +kernel
theorem dR_keepMix_20 : decode bR_keepMix 20 = .ok (.aload_n 0, 1) := by decide +kernel
theorem dR_keepMix_21 : decode bR_keepMix 21 = .ok (.getfield 64, 3) := by decide +kernel
theorem dR_keepMix_24 : decode bR_keepMix 24 = .ok (.iload_n 2, 1) := by decide +kernel
theorem dR_keepMix_25 : decode bR_keepMix 25 = .ok (.laload, 1) := by decide +kernel
theorem dR_keepMix_26 : decode bR_keepMix 26 = .ok (.aload_n 0, 1) := by decide +kernel
theorem dR_keepMix_27 : decode bR_keepMix 27 = .ok (.getfield 107, 3) := by decide +kernel
theorem dR_keepMix_30 : decode bR_keepMix 30 = .ok (.invokestatic 151, 3) := by decide +kernel
theorem dR_keepMix_33 : decode bR_keepMix 33 = .ok (.lstore_n 3, 1) := by decide +kernel
theorem dR_keepMix_34 : decode bR_keepMix 34 = .ok (.aload_n 0, 1) := by decide +kernel
theorem dR_keepMix_35 : decode bR_keepMix 35 = .ok (.getfield 38, 3) := by decide +kernel
theorem dR_keepMix_38 : decode bR_keepMix 38 = .ok (.iload_n 2, 1) := by decide +kernel
theorem dR_keepMix_39 : decode bR_keepMix 39 = .ok (.aload_n 0, 1) := by decide +kernel
theorem dR_keepMix_40 : decode bR_keepMix 40 = .ok (.getfield 64, 3) := by decide +kernel
theorem dR_keepMix_43 : decode bR_keepMix 43 = .ok (.iload_n 2, 1) := by decide +kernel
theorem dR_keepMix_44 : decode bR_keepMix 44 = .ok (.laload, 1) := by decide +kernel
theorem dR_keepMix_45 : decode bR_keepMix 45 = .ok (.lload_n 3, 1) := by decide +kernel
theorem dR_keepMix_46 : decode bR_keepMix 46 = .ok (.ldiv, 1) := by decide +kernel
theorem dR_keepMix_47 : decode bR_keepMix 47 = .ok (.lastore, 1) := by decide +kernel
theorem dR_keepMix_48 : decode bR_keepMix 48 = .ok (.aload_n 0, 1) := by decide +kernel
theorem dR_keepMix_49 : decode bR_keepMix 49 = .ok (.getfield 42, 3) := by decide +kernel
theorem dR_keepMix_52 : decode bR_keepMix 52 = .ok (.iload_n 2, 1) := by decide +kernel
theorem dR_keepMix_53 : decode bR_keepMix 53 = .ok (.aload_n 0, 1) := by decide +kernel
theorem dR_keepMix_54 : decode bR_keepMix 54 = .ok (.getfield 107, 3) := by decide +kernel
theorem dR_keepMix_57 : decode bR_keepMix 57 = .ok (.lload_n 3, 1) := by decide +kernel
theorem dR_keepMix_58 : decode bR_keepMix 58 = .ok (.ldiv, 1) := by decide +kernel
theorem dR_keepMix_59 : decode bR_keepMix 59 = .ok (.lastore, 1) := by decide +kernel
theorem dR_keepMix_60 : decode bR_keepMix 60 = .ok (.iinc 2 1, 3) := by decide +kernel
theorem dR_keepMix_63 : decode bR_keepMix 63 = .ok (.goto (-51), 3) := by decide +kernel
theorem dR_keepMix_66 : decode bR_keepMix 66 = .ok (.aload_n 0, 1) := by decide +kernel
theorem dR_keepMix_67 : decode bR_keepMix 67 = .ok (.aload_n 0, 1) := by decide +kernel
theorem dR_keepMix_68 : decode bR_keepMix 68 = .ok (.getfield 64, 3) := by decide +kernel
theorem dR_keepMix_71 : decode bR_keepMix 71 = .ok (.invokevirtual 103, 3) := by decide +kernel
theorem dR_keepMix_74 : decode bR_keepMix 74 = .ok (.lstore_n 2, 1) := by decide +kernel
theorem dR_keepMix_75 : decode bR_keepMix 75 = .ok (.lload_n 2, 1) := by decide +kernel
theorem dR_keepMix_76 : decode bR_keepMix 76 = .ok (.aload_n 0, 1) := by decide +kernel
theorem dR_keepMix_77 : decode bR_keepMix 77 = .ok (.getfield 107, 3) := by decide +kernel
theorem dR_keepMix_80 : decode bR_keepMix 80 = .ok (.invokestatic 151, 3) := by decide +kernel
theorem dR_keepMix_83 : decode bR_keepMix 83 = .ok (.lstore 4, 2) := by decide +kernel
theorem dR_keepMix_85 : decode bR_keepMix 85 = .ok (.aload_n 0, 1) := by decide +kernel
theorem dR_keepMix_86 : decode bR_keepMix 86 = .ok (.lload_n 2, 1) := by decide +kernel
theorem dR_keepMix_87 : decode bR_keepMix 87 = .ok (.lload 4, 2) := by decide +kernel
theorem dR_keepMix_89 : decode bR_keepMix 89 = .ok (.ldiv, 1) := by decide +kernel
theorem dR_keepMix_90 : decode bR_keepMix 90 = .ok (.putfield 155, 3) := by decide +kernel
theorem dR_keepMix_93 : decode bR_keepMix 93 = .ok (.aload_n 0, 1) := by decide +kernel
theorem dR_keepMix_94 : decode bR_keepMix 94 = .ok (.aload_n 0, 1) := by decide +kernel
theorem dR_keepMix_95 : decode bR_keepMix 95 = .ok (.getfield 107, 3) := by decide +kernel
theorem dR_keepMix_98 : decode bR_keepMix 98 = .ok (.lload 4, 2) := by decide +kernel
theorem dR_keepMix_100 : decode bR_keepMix 100 = .ok (.ldiv, 1) := by decide +kernel
theorem dR_keepMix_101 : decode bR_keepMix 101 = .ok (.putfield 158, 3) := by decide +kernel
theorem dR_keepMix_104 : decode bR_keepMix 104 = .ok (.iconst 0, 1) := by decide +kernel
theorem dR_keepMix_105 : decode bR_keepMix 105 = .ok (.istore 6, 2) := by decide +kernel
theorem dR_keepMix_107 : decode bR_keepMix 107 = .ok (.iload 6, 2) := by decide +kernel
theorem dR_keepMix_109 : decode bR_keepMix 109 = .ok (.bipush 18, 2) := by decide +kernel
theorem dR_keepMix_111 : decode bR_keepMix 111 = .ok (.if_icmp .ge 55, 3) := by decide +kernel
theorem dR_keepMix_114 : decode bR_keepMix 114 = .ok (.aload_n 0, 1) := by decide +kernel
theorem dR_keepMix_115 : decode bR_keepMix 115 = .ok (.dup, 1) := by decide +kernel
theorem dR_keepMix_116 : decode bR_keepMix 116 = .ok (.getfield 148, 3) := by decide +kernel
theorem dR_keepMix_119 : decode bR_keepMix 119 = .ok (.aload_n 0, 1) := by decide +kernel
theorem dR_keepMix_120 : decode bR_keepMix 120 = .ok (.iload 6, 2) := by decide +kernel
theorem dR_keepMix_122 : decode bR_keepMix 122 = .ok (.invokevirtual 127, 3) := by decide +kernel
theorem dR_keepMix_125 : decode bR_keepMix 125 = .ok (.ifCond .eq 30, 3) := by decide +kernel
theorem dR_keepMix_128 : decode bR_keepMix 128 = .ok (.aload_n 0, 1) := by decide +kernel
theorem dR_keepMix_129 : decode bR_keepMix 129 = .ok (.iload 6, 2) := by decide +kernel
theorem dR_keepMix_131 : decode bR_keepMix 131 = .ok (.iload_n 1, 1) := by decide +kernel
theorem dR_keepMix_132 : decode bR_keepMix 132 = .ok (.aload_n 0, 1) := by decide +kernel
theorem dR_keepMix_133 : decode bR_keepMix 133 = .ok (.getfield 64, 3) := by decide +kernel
theorem dR_keepMix_136 : decode bR_keepMix 136 = .ok (.aload_n 0, 1) := by decide +kernel
theorem dR_keepMix_137 : decode bR_keepMix 137 = .ok (.getfield 107, 3) := by decide +kernel
theorem dR_keepMix_140 : decode bR_keepMix 140 = .ok (.invokevirtual 91, 3) := by decide +kernel
theorem dR_keepMix_143 : decode bR_keepMix 143 = .ok (.lconst 0, 1) := by decide +kernel
theorem dR_keepMix_144 : decode bR_keepMix 144 = .ok (.lcmp, 1) := by decide +kernel
theorem dR_keepMix_145 : decode bR_keepMix 145 = .ok (.ifCond .ne 10, 3) := by decide +kernel
theorem dR_keepMix_148 : decode bR_keepMix 148 = .ok (.iconst 1, 1) := by decide +kernel
theorem dR_keepMix_149 : decode bR_keepMix 149 = .ok (.iload 6, 2) := by decide +kernel
theorem dR_keepMix_151 : decode bR_keepMix 151 = .ok (.ishl, 1) := by decide +kernel
theorem dR_keepMix_152 : decode bR_keepMix 152 = .ok (.goto 4, 3) := by decide +kernel
theorem dR_keepMix_155 : decode bR_keepMix 155 = .ok (.iconst 0, 1) := by decide +kernel
theorem dR_keepMix_156 : decode bR_keepMix 156 = .ok (.ior, 1) := by decide +kernel
theorem dR_keepMix_157 : decode bR_keepMix 157 = .ok (.putfield 148, 3) := by decide +kernel
theorem dR_keepMix_160 : decode bR_keepMix 160 = .ok (.iinc 6 1, 3) := by decide +kernel
theorem dR_keepMix_163 : decode bR_keepMix 163 = .ok (.goto (-56), 3) := by decide +kernel
theorem dR_keepMix_166 : decode bR_keepMix 166 = .ok (.return_, 1) := by decide +kernel
theorem dR_run_0 : decode bR_run 0 = .ok (.iload_n 1, 1) := by decide +kernel
theorem dR_run_1 : decode bR_run 1 = .ok (.iconst 1, 1) := by decide +kernel
theorem dR_run_2 : decode bR_run 2 = .ok (.bipush 40, 2) := by decide +kernel
theorem dR_run_4 : decode bR_run 4 = .ok (.invokestatic 70, 3) := by decide +kernel
theorem dR_run_7 : decode bR_run 7 = .ok (.ifCond .eq 10, 3) := by decide +kernel
theorem dR_run_10 : decode bR_run 10 = .ok (.aload_n 0, 1) := by decide +kernel
theorem dR_run_11 : decode bR_run 11 = .ok (.getfield 67, 3) := by decide +kernel
theorem dR_run_14 : decode bR_run 14 = .ok (.ifCond .ne 5, 3) := by decide +kernel
theorem dR_run_17 : decode bR_run 17 = .ok (.iconst (-1), 1) := by decide +kernel
theorem dR_run_18 : decode bR_run 18 = .ok (.ireturn, 1) := by decide +kernel
theorem dR_run_19 : decode bR_run 19 = .ok (.aload_n 0, 1) := by decide +kernel
theorem dR_run_20 : decode bR_run 20 = .ok (.iload_n 1, 1) := by decide +kernel
theorem dR_run_21 : decode bR_run 21 = .ok (.putfield 161, 3) := by decide +kernel
theorem dR_run_24 : decode bR_run 24 = .ok (.aload_n 0, 1) := by decide +kernel
theorem dR_run_25 : decode bR_run 25 = .ok (.aload_n 0, 1) := by decide +kernel
theorem dR_run_26 : decode bR_run 26 = .ok (.getfield 67, 3) := by decide +kernel
theorem dR_run_29 : decode bR_run 29 = .ok (.putfield 164, 3) := by decide +kernel
theorem dR_run_32 : decode bR_run 32 = .ok (.aload_n 0, 1) := by decide +kernel
theorem dR_run_33 : decode bR_run 33 = .ok (.invokevirtual 137, 3) := by decide +kernel
theorem dR_run_36 : decode bR_run 36 = .ok (.aload_n 0, 1) := by decide +kernel
theorem dR_run_37 : decode bR_run 37 = .ok (.iload_n 1, 1) := by decide +kernel
theorem dR_run_38 : decode bR_run 38 = .ok (.invokevirtual 167, 3) := by decide +kernel
theorem dR_run_41 : decode bR_run 41 = .ok (.ifCond .ne 72, 3) := by decide +kernel
theorem dR_run_44 : decode bR_run 44 = .ok (.aload_n 0, 1) := by decide +kernel
theorem dR_run_45 : decode bR_run 45 = .ok (.iconst 1, 1) := by decide +kernel
theorem dR_run_46 : decode bR_run 46 = .ok (.putfield 34, 3) := by decide +kernel
theorem dR_run_49 : decode bR_run 49 = .ok (.aload_n 0, 1) := by decide +kernel
theorem dR_run_50 : decode bR_run 50 = .ok (.iconst 0, 1) := by decide +kernel
theorem dR_run_51 : decode bR_run 51 = .ok (.putfield 170, 3) := by decide +kernel
theorem dR_run_54 : decode bR_run 54 = .ok (.iconst 0, 1) := by decide +kernel
theorem dR_run_55 : decode bR_run 55 = .ok (.istore_n 2, 1) := by decide +kernel
theorem dR_run_56 : decode bR_run 56 = .ok (.iload_n 2, 1) := by decide +kernel
theorem dR_run_57 : decode bR_run 57 = .ok (.bipush 18, 2) := by decide +kernel
theorem dR_run_59 : decode bR_run 59 = .ok (.if_icmp .ge 52, 3) := by decide +kernel
theorem dR_run_62 : decode bR_run 62 = .ok (.aload_n 0, 1) := by decide +kernel
theorem dR_run_63 : decode bR_run 63 = .ok (.getfield 45, 3) := by decide +kernel
theorem dR_run_66 : decode bR_run 66 = .ok (.iload_n 2, 1) := by decide +kernel
theorem dR_run_67 : decode bR_run 67 = .ok (.baload, 1) := by decide +kernel
theorem dR_run_68 : decode bR_run 68 = .ok (.ifCond .eq 37, 3) := by decide +kernel
theorem dR_run_71 : decode bR_run 71 = .ok (.aload_n 0, 1) := by decide +kernel
theorem dR_run_72 : decode bR_run 72 = .ok (.getfield 45, 3) := by decide +kernel
theorem dR_run_75 : decode bR_run 75 = .ok (.iload_n 2, 1) := by decide +kernel
theorem dR_run_76 : decode bR_run 76 = .ok (.iconst 0, 1) := by decide +kernel
theorem dR_run_77 : decode bR_run 77 = .ok (.bastore, 1) := by decide +kernel
theorem dR_run_78 : decode bR_run 78 = .ok (.aload_n 0, 1) := by decide +kernel
theorem dR_run_79 : decode bR_run 79 = .ok (.iload_n 1, 1) := by decide +kernel
theorem dR_run_80 : decode bR_run 80 = .ok (.invokevirtual 167, 3) := by decide +kernel
theorem dR_run_83 : decode bR_run 83 = .ok (.ifCond .eq 22, 3) := by decide +kernel
theorem dR_run_86 : decode bR_run 86 = .ok (.aload_n 0, 1) := by decide +kernel
theorem dR_run_87 : decode bR_run 87 = .ok (.getfield 45, 3) := by decide +kernel
theorem dR_run_90 : decode bR_run 90 = .ok (.iload_n 2, 1) := by decide +kernel
theorem dR_run_91 : decode bR_run 91 = .ok (.iconst 1, 1) := by decide +kernel
theorem dR_run_92 : decode bR_run 92 = .ok (.bastore, 1) := by decide +kernel
theorem dR_run_93 : decode bR_run 93 = .ok (.aload_n 0, 1) := by decide +kernel
theorem dR_run_94 : decode bR_run 94 = .ok (.dup, 1) := by decide +kernel
theorem dR_run_95 : decode bR_run 95 = .ok (.getfield 170, 3) := by decide +kernel
theorem dR_run_98 : decode bR_run 98 = .ok (.iconst 1, 1) := by decide +kernel
theorem dR_run_99 : decode bR_run 99 = .ok (.iload_n 2, 1) := by decide +kernel
theorem dR_run_100 : decode bR_run 100 = .ok (.ishl, 1) := by decide +kernel
theorem dR_run_101 : decode bR_run 101 = .ok (.ior, 1) := by decide +kernel
theorem dR_run_102 : decode bR_run 102 = .ok (.putfield 170, 3) := by decide +kernel
theorem dR_run_105 : decode bR_run 105 = .ok (.iinc 2 1, 3) := by decide +kernel
theorem dR_run_108 : decode bR_run 108 = .ok (.goto (-52), 3) := by decide +kernel
theorem dR_run_111 : decode bR_run 111 = .ok (.iconst 1, 1) := by decide +kernel
theorem dR_run_112 : decode bR_run 112 = .ok (.ireturn, 1) := by decide +kernel
theorem dR_run_113 : decode bR_run 113 = .ok (.aload_n 0, 1) := by decide +kernel
theorem dR_run_114 : decode bR_run 114 = .ok (.iload_n 1, 1) := by decide +kernel
theorem dR_run_115 : decode bR_run 115 = .ok (.invokevirtual 173, 3) := by decide +kernel
theorem dR_run_118 : decode bR_run 118 = .ok (.ifCond .eq 11, 3) := by decide +kernel
theorem dR_run_121 : decode bR_run 121 = .ok (.aload_n 0, 1) := by decide +kernel
theorem dR_run_122 : decode bR_run 122 = .ok (.iload_n 1, 1) := by decide +kernel
theorem dR_run_123 : decode bR_run 123 = .ok (.invokevirtual 176, 3) := by decide +kernel
theorem dR_run_126 : decode bR_run 126 = .ok (.goto 8, 3) := by decide +kernel
theorem dR_run_129 : decode bR_run 129 = .ok (.aload_n 0, 1) := by decide +kernel
theorem dR_run_130 : decode bR_run 130 = .ok (.iconst 2, 1) := by decide +kernel
theorem dR_run_131 : decode bR_run 131 = .ok (.putfield 34, 3) := by decide +kernel
theorem dR_run_134 : decode bR_run 134 = .ok (.aload_n 0, 1) := by decide +kernel
theorem dR_run_135 : decode bR_run 135 = .ok (.getfield 34, 3) := by decide +kernel
theorem dR_run_138 : decode bR_run 138 = .ok (.ireturn, 1) := by decide +kernel
theorem dR_amount_0 : decode bR_amount 0 = .ok (.aload_n 0, 1) := by decide +kernel
theorem dR_amount_1 : decode bR_amount 1 = .ok (.getfield 34, 3) := by decide +kernel
theorem dR_amount_4 : decode bR_amount 4 = .ok (.ifCond .ne 24, 3) := by decide +kernel
theorem dR_amount_7 : decode bR_amount 7 = .ok (.iload_n 1, 1) := by decide +kernel
theorem dR_amount_8 : decode bR_amount 8 = .ok (.ifCond .lt 20, 3) := by decide +kernel
theorem dR_amount_11 : decode bR_amount 11 = .ok (.iload_n 1, 1) := by decide +kernel
theorem dR_amount_12 : decode bR_amount 12 = .ok (.aload_n 0, 1) := by decide +kernel
theorem dR_amount_13 : decode bR_amount 13 = .ok (.getfield 164, 3) := by decide +kernel
theorem dR_amount_16 : decode bR_amount 16 = .ok (.if_icmp .ge 12, 3) := by decide +kernel
theorem dR_amount_19 : decode bR_amount 19 = .ok (.iload_n 2, 1) := by decide +kernel
theorem dR_amount_20 : decode bR_amount 20 = .ok (.iconst 0, 1) := by decide +kernel
theorem dR_amount_21 : decode bR_amount 21 = .ok (.iconst 1, 1) := by decide +kernel
theorem dR_amount_22 : decode bR_amount 22 = .ok (.invokestatic 70, 3) := by decide +kernel
theorem dR_amount_25 : decode bR_amount 25 = .ok (.ifCond .ne 9, 3) := by decide +kernel
theorem dR_amount_28 : decode bR_amount 28 = .ok (.ldc2_w 101, 3) := by decide +kernel
theorem dR_amount_31 : decode bR_amount 31 = .ok (.goto 22, 3) := by decide +kernel
theorem dR_amount_34 : decode bR_amount 34 = .ok (.iload_n 2, 1) := by decide +kernel
theorem dR_amount_35 : decode bR_amount 35 = .ok (.ifCond .ne 12, 3) := by decide +kernel
theorem dR_amount_38 : decode bR_amount 38 = .ok (.aload_n 0, 1) := by decide +kernel
theorem dR_amount_39 : decode bR_amount 39 = .ok (.getfield 38, 3) := by decide +kernel
theorem dR_amount_42 : decode bR_amount 42 = .ok (.iload_n 1, 1) := by decide +kernel
theorem dR_amount_43 : decode bR_amount 43 = .ok (.laload, 1) := by decide +kernel
theorem dR_amount_44 : decode bR_amount 44 = .ok (.goto 9, 3) := by decide +kernel
theorem dR_amount_47 : decode bR_amount 47 = .ok (.aload_n 0, 1) := by decide +kernel
theorem dR_amount_48 : decode bR_amount 48 = .ok (.getfield 42, 3) := by decide +kernel
theorem dR_amount_51 : decode bR_amount 51 = .ok (.iload_n 1, 1) := by decide +kernel
theorem dR_amount_52 : decode bR_amount 52 = .ok (.laload, 1) := by decide +kernel
theorem dR_amount_53 : decode bR_amount 53 = .ok (.lreturn, 1) := by decide +kernel
theorem dR_cost_0 : decode bR_cost 0 = .ok (.aload_n 0, 1) := by decide +kernel
theorem dR_cost_1 : decode bR_cost 1 = .ok (.getfield 34, 3) := by decide +kernel
theorem dR_cost_4 : decode bR_cost 4 = .ok (.ifCond .ne 12, 3) := by decide +kernel
theorem dR_cost_7 : decode bR_cost 7 = .ok (.iload_n 1, 1) := by decide +kernel
theorem dR_cost_8 : decode bR_cost 8 = .ok (.iconst 0, 1) := by decide +kernel
theorem dR_cost_9 : decode bR_cost 9 = .ok (.iconst 1, 1) := by decide +kernel
theorem dR_cost_10 : decode bR_cost 10 = .ok (.invokestatic 70, 3) := by decide +kernel
theorem dR_cost_13 : decode bR_cost 13 = .ok (.ifCond .ne 9, 3) := by decide +kernel
theorem dR_cost_16 : decode bR_cost 16 = .ok (.ldc2_w 101, 3) := by decide +kernel
theorem dR_cost_19 : decode bR_cost 19 = .ok (.goto 18, 3) := by decide +kernel
theorem dR_cost_22 : decode bR_cost 22 = .ok (.iload_n 1, 1) := by decide +kernel
theorem dR_cost_23 : decode bR_cost 23 = .ok (.ifCond .ne 10, 3) := by decide +kernel
theorem dR_cost_26 : decode bR_cost 26 = .ok (.aload_n 0, 1) := by decide +kernel
theorem dR_cost_27 : decode bR_cost 27 = .ok (.getfield 155, 3) := by decide +kernel
theorem dR_cost_30 : decode bR_cost 30 = .ok (.goto 7, 3) := by decide +kernel
theorem dR_cost_33 : decode bR_cost 33 = .ok (.aload_n 0, 1) := by decide +kernel
theorem dR_cost_34 : decode bR_cost 34 = .ok (.getfield 158, 3) := by decide +kernel
theorem dR_cost_37 : decode bR_cost 37 = .ok (.lreturn, 1) := by decide +kernel
theorem dR_tight_0 : decode bR_tight 0 = .ok (.aload_n 0, 1) := by decide +kernel
theorem dR_tight_1 : decode bR_tight 1 = .ok (.getfield 34, 3) := by decide +kernel
theorem dR_tight_4 : decode bR_tight 4 = .ok (.ifCond .eq 7, 3) := by decide +kernel
theorem dR_tight_7 : decode bR_tight 7 = .ok (.iconst (-1), 1) := by decide +kernel
theorem dR_tight_8 : decode bR_tight 8 = .ok (.goto 7, 3) := by decide +kernel
theorem dR_tight_11 : decode bR_tight 11 = .ok (.aload_n 0, 1) := by decide +kernel
theorem dR_tight_12 : decode bR_tight 12 = .ok (.getfield 148, 3) := by decide +kernel
theorem dR_tight_15 : decode bR_tight 15 = .ok (.ireturn, 1) := by decide +kernel
theorem dR_clash_0 : decode bR_clash 0 = .ok (.aload_n 0, 1) := by decide +kernel
theorem dR_clash_1 : decode bR_clash 1 = .ok (.getfield 34, 3) := by decide +kernel
theorem dR_clash_4 : decode bR_clash 4 = .ok (.iconst 1, 1) := by decide +kernel
theorem dR_clash_5 : decode bR_clash 5 = .ok (.if_icmp .ne 7, 3) := by decide +kernel
theorem dR_clash_8 : decode bR_clash 8 = .ok (.iload_n 1, 1) := by decide +kernel
theorem dR_clash_9 : decode bR_clash 9 = .ok (.ifCond .ge 5, 3) := by decide +kernel
theorem dR_clash_12 : decode bR_clash 12 = .ok (.iconst (-1), 1) := by decide +kernel
theorem dR_clash_13 : decode bR_clash 13 = .ok (.ireturn, 1) := by decide +kernel
theorem dR_clash_14 : decode bR_clash 14 = .ok (.iconst 0, 1) := by decide +kernel
theorem dR_clash_15 : decode bR_clash 15 = .ok (.istore_n 2, 1) := by decide +kernel
theorem dR_clash_16 : decode bR_clash 16 = .ok (.iconst 0, 1) := by decide +kernel
theorem dR_clash_17 : decode bR_clash 17 = .ok (.istore_n 3, 1) := by decide +kernel
theorem dR_clash_18 : decode bR_clash 18 = .ok (.iload_n 3, 1) := by decide +kernel
theorem dR_clash_19 : decode bR_clash 19 = .ok (.bipush 18, 2) := by decide +kernel
theorem dR_clash_21 : decode bR_clash 21 = .ok (.if_icmp .ge 31, 3) := by decide +kernel
theorem dR_clash_24 : decode bR_clash 24 = .ok (.aload_n 0, 1) := by decide +kernel
theorem dR_clash_25 : decode bR_clash 25 = .ok (.getfield 170, 3) := by decide +kernel
theorem dR_clash_28 : decode bR_clash 28 = .ok (.iload_n 3, 1) := by decide +kernel
theorem dR_clash_29 : decode bR_clash 29 = .ok (.ishr, 1) := by decide +kernel
theorem dR_clash_30 : decode bR_clash 30 = .ok (.iconst 1, 1) := by decide +kernel
theorem dR_clash_31 : decode bR_clash 31 = .ok (.iand, 1) := by decide +kernel
theorem dR_clash_32 : decode bR_clash 32 = .ok (.iconst 1, 1) := by decide +kernel
theorem dR_clash_33 : decode bR_clash 33 = .ok (.if_icmp .ne 13, 3) := by decide +kernel
theorem dR_clash_36 : decode bR_clash 36 = .ok (.iload_n 2, 1) := by decide +kernel
theorem dR_clash_37 : decode bR_clash 37 = .ok (.iload_n 1, 1) := by decide +kernel
theorem dR_clash_38 : decode bR_clash 38 = .ok (.if_icmp .ne 5, 3) := by decide +kernel
theorem dR_clash_41 : decode bR_clash 41 = .ok (.iload_n 3, 1) := by decide +kernel
theorem dR_clash_42 : decode bR_clash 42 = .ok (.ireturn, 1) := by decide +kernel
theorem dR_clash_43 : decode bR_clash 43 = .ok (.iinc 2 1, 3) := by decide +kernel
theorem dR_clash_46 : decode bR_clash 46 = .ok (.iinc 3 1, 3) := by decide +kernel
theorem dR_clash_49 : decode bR_clash 49 = .ok (.goto (-31), 3) := by decide +kernel
theorem dR_clash_52 : decode bR_clash 52 = .ok (.iconst (-1), 1) := by decide +kernel
theorem dR_clash_53 : decode bR_clash 53 = .ok (.ireturn, 1) := by decide +kernel
theorem dR_dearer_0 : decode bR_dearer 0 = .ok (.aload_n 0, 1) := by decide +kernel
theorem dR_dearer_1 : decode bR_dearer 1 = .ok (.getfield 34, 3) := by decide +kernel
theorem dR_dearer_4 : decode bR_dearer 4 = .ok (.ifCond .lt 47, 3) := by decide +kernel
theorem dR_dearer_7 : decode bR_dearer 7 = .ok (.iload_n 1, 1) := by decide +kernel
theorem dR_dearer_8 : decode bR_dearer 8 = .ok (.iconst 0, 1) := by decide +kernel
theorem dR_dearer_9 : decode bR_dearer 9 = .ok (.iconst 2, 1) := by decide +kernel
theorem dR_dearer_10 : decode bR_dearer 10 = .ok (.invokestatic 70, 3) := by decide +kernel
theorem dR_dearer_13 : decode bR_dearer 13 = .ok (.ifCond .eq 38, 3) := by decide +kernel
theorem dR_dearer_16 : decode bR_dearer 16 = .ok (.iload_n 2, 1) := by decide +kernel
theorem dR_dearer_17 : decode bR_dearer 17 = .ok (.iconst 0, 1) := by decide +kernel
theorem dR_dearer_18 : decode bR_dearer 18 = .ok (.iconst 1, 1) := by decide +kernel
theorem dR_dearer_19 : decode bR_dearer 19 = .ok (.invokestatic 70, 3) := by decide +kernel
theorem dR_dearer_22 : decode bR_dearer 22 = .ok (.ifCond .eq 29, 3) := by decide +kernel
theorem dR_dearer_25 : decode bR_dearer 25 = .ok (.aload_n 0, 1) := by decide +kernel
theorem dR_dearer_26 : decode bR_dearer 26 = .ok (.getfield 28, 3) := by decide +kernel
theorem dR_dearer_29 : decode bR_dearer 29 = .ok (.iload_n 1, 1) := by decide +kernel
theorem dR_dearer_30 : decode bR_dearer 30 = .ok (.iaload, 1) := by decide +kernel
theorem dR_dearer_31 : decode bR_dearer 31 = .ok (.aload_n 0, 1) := by decide +kernel
theorem dR_dearer_32 : decode bR_dearer 32 = .ok (.getfield 31, 3) := by decide +kernel
theorem dR_dearer_35 : decode bR_dearer 35 = .ok (.iload_n 1, 1) := by decide +kernel
theorem dR_dearer_36 : decode bR_dearer 36 = .ok (.iaload, 1) := by decide +kernel
theorem dR_dearer_37 : decode bR_dearer 37 = .ok (.if_icmp .eq 14, 3) := by decide +kernel
theorem dR_dearer_40 : decode bR_dearer 40 = .ok (.aload_n 0, 1) := by decide +kernel
theorem dR_dearer_41 : decode bR_dearer 41 = .ok (.aload_n 0, 1) := by decide +kernel
theorem dR_dearer_42 : decode bR_dearer 42 = .ok (.getfield 161, 3) := by decide +kernel
theorem dR_dearer_45 : decode bR_dearer 45 = .ok (.invokevirtual 173, 3) := by decide +kernel
theorem dR_dearer_48 : decode bR_dearer 48 = .ok (.ifCond .ne 7, 3) := by decide +kernel
theorem dR_dearer_51 : decode bR_dearer 51 = .ok (.ldc2_w 101, 3) := by decide +kernel
theorem dR_dearer_54 : decode bR_dearer 54 = .ok (.lreturn, 1) := by decide +kernel
theorem dR_dearer_55 : decode bR_dearer 55 = .ok (.aload_n 0, 1) := by decide +kernel
theorem dR_dearer_56 : decode bR_dearer 56 = .ok (.aload_n 0, 1) := by decide +kernel
theorem dR_dearer_57 : decode bR_dearer 57 = .ok (.getfield 64, 3) := by decide +kernel
theorem dR_dearer_60 : decode bR_dearer 60 = .ok (.invokevirtual 103, 3) := by decide +kernel
theorem dR_dearer_63 : decode bR_dearer 63 = .ok (.lstore_n 3, 1) := by decide +kernel
theorem dR_dearer_64 : decode bR_dearer 64 = .ok (.aload_n 0, 1) := by decide +kernel
theorem dR_dearer_65 : decode bR_dearer 65 = .ok (.getfield 107, 3) := by decide +kernel
theorem dR_dearer_68 : decode bR_dearer 68 = .ok (.lstore 5, 2) := by decide +kernel
theorem dR_dearer_70 : decode bR_dearer 70 = .ok (.aload_n 0, 1) := by decide +kernel
theorem dR_dearer_71 : decode bR_dearer 71 = .ok (.getfield 28, 3) := by decide +kernel
theorem dR_dearer_74 : decode bR_dearer 74 = .ok (.iload_n 1, 1) := by decide +kernel
theorem dR_dearer_75 : decode bR_dearer 75 = .ok (.dup2, 1) := by decide +kernel
theorem dR_dearer_76 : decode bR_dearer 76 = .ok (.iaload, 1) := by decide +kernel
theorem dR_dearer_77 : decode bR_dearer 77 = .ok (.iconst 1, 1) := by decide +kernel
theorem dR_dearer_78 : decode bR_dearer 78 = .ok (.iadd, 1) := by decide +kernel
theorem dR_dearer_79 : decode bR_dearer 79 = .ok (.iastore, 1) := by decide +kernel
theorem dR_dearer_80 : decode bR_dearer 80 = .ok (.aload_n 0, 1) := by decide +kernel
theorem dR_dearer_81 : decode bR_dearer 81 = .ok (.aload_n 0, 1) := by decide +kernel
theorem dR_dearer_82 : decode bR_dearer 82 = .ok (.getfield 161, 3) := by decide +kernel
theorem dR_dearer_85 : decode bR_dearer 85 = .ok (.invokevirtual 173, 3) := by decide +kernel
theorem dR_dearer_88 : decode bR_dearer 88 = .ok (.istore 7, 2) := by decide +kernel
theorem dR_dearer_90 : decode bR_dearer 90 = .ok (.aload_n 0, 1) := by decide +kernel
theorem dR_dearer_91 : decode bR_dearer 91 = .ok (.getfield 28, 3) := by decide +kernel
theorem dR_dearer_94 : decode bR_dearer 94 = .ok (.iload_n 1, 1) := by decide +kernel
theorem dR_dearer_95 : decode bR_dearer 95 = .ok (.dup2, 1) := by decide +kernel
theorem dR_dearer_96 : decode bR_dearer 96 = .ok (.iaload, 1) := by decide +kernel
theorem dR_dearer_97 : decode bR_dearer 97 = .ok (.iconst 1, 1) := by decide +kernel
theorem dR_dearer_98 : decode bR_dearer 98 = .ok (.isub, 1) := by decide +kernel
theorem dR_dearer_99 : decode bR_dearer 99 = .ok (.iastore, 1) := by decide +kernel
theorem dR_dearer_100 : decode bR_dearer 100 = .ok (.iload 7, 2) := by decide +kernel
theorem dR_dearer_102 : decode bR_dearer 102 = .ok (.ifCond .ne 7, 3) := by decide +kernel
theorem dR_dearer_105 : decode bR_dearer 105 = .ok (.ldc2_w 101, 3) := by decide +kernel
theorem dR_dearer_108 : decode bR_dearer 108 = .ok (.lreturn, 1) := by decide +kernel
theorem dR_dearer_109 : decode bR_dearer 109 = .ok (.aload_n 0, 1) := by decide +kernel
theorem dR_dearer_110 : decode bR_dearer 110 = .ok (.aload_n 0, 1) := by decide +kernel
theorem dR_dearer_111 : decode bR_dearer 111 = .ok (.getfield 64, 3) := by decide +kernel
theorem dR_dearer_114 : decode bR_dearer 114 = .ok (.invokevirtual 103, 3) := by decide +kernel
theorem dR_dearer_117 : decode bR_dearer 117 = .ok (.lload 5, 2) := by decide +kernel
theorem dR_dearer_119 : decode bR_dearer 119 = .ok (.lmul, 1) := by decide +kernel
theorem dR_dearer_120 : decode bR_dearer 120 = .ok (.lload_n 3, 1) := by decide +kernel
theorem dR_dearer_121 : decode bR_dearer 121 = .ok (.aload_n 0, 1) := by decide +kernel
theorem dR_dearer_122 : decode bR_dearer 122 = .ok (.getfield 107, 3) := by decide +kernel
theorem dR_dearer_125 : decode bR_dearer 125 = .ok (.lmul, 1) := by decide +kernel
theorem dR_dearer_126 : decode bR_dearer 126 = .ok (.lsub, 1) := by decide +kernel
theorem dR_dearer_127 : decode bR_dearer 127 = .ok (.lstore 8, 2) := by decide +kernel
theorem dR_dearer_129 : decode bR_dearer 129 = .ok (.lload 5, 2) := by decide +kernel
theorem dR_dearer_131 : decode bR_dearer 131 = .ok (.aload_n 0, 1) := by decide +kernel
theorem dR_dearer_132 : decode bR_dearer 132 = .ok (.getfield 107, 3) := by decide +kernel
theorem dR_dearer_135 : decode bR_dearer 135 = .ok (.lmul, 1) := by decide +kernel
theorem dR_dearer_136 : decode bR_dearer 136 = .ok (.lstore 10, 2) := by decide +kernel
theorem dR_dearer_138 : decode bR_dearer 138 = .ok (.lload 8, 2) := by decide +kernel
theorem dR_dearer_140 : decode bR_dearer 140 = .ok (.lload 10, 2) := by decide +kernel
theorem dR_dearer_142 : decode bR_dearer 142 = .ok (.invokestatic 151, 3) := by decide +kernel
theorem dR_dearer_145 : decode bR_dearer 145 = .ok (.lstore 12, 2) := by decide +kernel
theorem dR_dearer_147 : decode bR_dearer 147 = .ok (.iload_n 2, 1) := by decide +kernel
theorem dR_dearer_148 : decode bR_dearer 148 = .ok (.ifCond .ne 11, 3) := by decide +kernel
theorem dR_dearer_151 : decode bR_dearer 151 = .ok (.lload 8, 2) := by decide +kernel
theorem dR_dearer_153 : decode bR_dearer 153 = .ok (.lload 12, 2) := by decide +kernel
theorem dR_dearer_155 : decode bR_dearer 155 = .ok (.ldiv, 1) := by decide +kernel
theorem dR_dearer_156 : decode bR_dearer 156 = .ok (.goto 8, 3) := by decide +kernel
theorem dR_dearer_159 : decode bR_dearer 159 = .ok (.lload 10, 2) := by decide +kernel
theorem dR_dearer_161 : decode bR_dearer 161 = .ok (.lload 12, 2) := by decide +kernel
theorem dR_dearer_163 : decode bR_dearer 163 = .ok (.ldiv, 1) := by decide +kernel
theorem dR_dearer_164 : decode bR_dearer 164 = .ok (.lreturn, 1) := by decide +kernel
theorem dR_line_0 : decode bR_line 0 = .ok (.iload_n 1, 1) := by decide +kernel
theorem dR_line_1 : decode bR_line 1 = .ok (.iconst 0, 1) := by decide +kernel
theorem dR_line_2 : decode bR_line 2 = .ok (.iconst 3, 1) := by decide +kernel
theorem dR_line_3 : decode bR_line 3 = .ok (.invokestatic 70, 3) := by decide +kernel
theorem dR_line_6 : decode bR_line 6 = .ok (.ifCond .eq 10, 3) := by decide +kernel
theorem dR_line_9 : decode bR_line 9 = .ok (.aload_n 0, 1) := by decide +kernel
theorem dR_line_10 : decode bR_line 10 = .ok (.getfield 34, 3) := by decide +kernel
theorem dR_line_13 : decode bR_line 13 = .ok (.ifCond .eq 5, 3) := by decide +kernel
theorem dR_line_16 : decode bR_line 16 = .ok (.iconst (-1), 1) := by decide +kernel
theorem dR_line_17 : decode bR_line 17 = .ok (.ireturn, 1) := by decide +kernel
theorem dR_line_18 : decode bR_line 18 = .ok (.aload_n 0, 1) := by decide +kernel
theorem dR_line_19 : decode bR_line 19 = .ok (.getfield 180, 3) := by decide +kernel
theorem dR_line_22 : decode bR_line 22 = .ok (.ifCond .eq 13, 3) := by decide +kernel
theorem dR_line_25 : decode bR_line 25 = .ok (.aload_n 0, 1) := by decide +kernel
theorem dR_line_26 : decode bR_line 26 = .ok (.getfield 180, 3) := by decide +kernel
theorem dR_line_29 : decode bR_line 29 = .ok (.iload_n 1, 1) := by decide +kernel
theorem dR_line_30 : decode bR_line 30 = .ok (.if_icmp .eq 5, 3) := by decide +kernel
theorem dR_line_33 : decode bR_line 33 = .ok (.iconst 1, 1) := by decide +kernel
theorem dR_line_34 : decode bR_line 34 = .ok (.ireturn, 1) := by decide +kernel
theorem dR_line_35 : decode bR_line 35 = .ok (.aload_n 0, 1) := by decide +kernel
theorem dR_line_36 : decode bR_line 36 = .ok (.iload_n 1, 1) := by decide +kernel
theorem dR_line_37 : decode bR_line 37 = .ok (.putfield 180, 3) := by decide +kernel
theorem dR_line_40 : decode bR_line 40 = .ok (.aload_n 0, 1) := by decide +kernel
theorem dR_line_41 : decode bR_line 41 = .ok (.dup, 1) := by decide +kernel
theorem dR_line_42 : decode bR_line 42 = .ok (.getfield 183, 3) := by decide +kernel
theorem dR_line_45 : decode bR_line 45 = .ok (.iconst 1, 1) := by decide +kernel
theorem dR_line_46 : decode bR_line 46 = .ok (.iadd, 1) := by decide +kernel
theorem dR_line_47 : decode bR_line 47 = .ok (.putfield 183, 3) := by decide +kernel
theorem dR_line_50 : decode bR_line 50 = .ok (.iconst 0, 1) := by decide +kernel
theorem dR_line_51 : decode bR_line 51 = .ok (.ireturn, 1) := by decide +kernel
theorem dR_clean_0 : decode bR_clean 0 = .ok (.aload_n 0, 1) := by decide +kernel
theorem dR_clean_1 : decode bR_clean 1 = .ok (.getfield 180, 3) := by decide +kernel
theorem dR_clean_4 : decode bR_clean 4 = .ok (.istore_n 1, 1) := by decide +kernel
theorem dR_clean_5 : decode bR_clean 5 = .ok (.aload_n 0, 1) := by decide +kernel
theorem dR_clean_6 : decode bR_clean 6 = .ok (.iconst 0, 1) := by decide +kernel
theorem dR_clean_7 : decode bR_clean 7 = .ok (.putfield 180, 3) := by decide +kernel
theorem dR_clean_10 : decode bR_clean 10 = .ok (.iload_n 1, 1) := by decide +kernel
theorem dR_clean_11 : decode bR_clean 11 = .ok (.ireturn, 1) := by decide +kernel
theorem dR_made_0 : decode bR_made 0 = .ok (.aload_n 0, 1) := by decide +kernel
theorem dR_made_1 : decode bR_made 1 = .ok (.getfield 183, 3) := by decide +kernel
theorem dR_made_4 : decode bR_made 4 = .ok (.ireturn, 1) := by decide +kernel
end
section
def b_R_in_0 (x0 : Int32) (x1 : Int32) (x2 : Int32) : Option (Int32) :=
  if x0 < x1 then
    some (0)
  else
    if x2 < x0 then
      some (0)
    else
      some (1)
def m_R_in (x0 : Int32) (x1 : Int32) (x2 : Int32) : Option (Int32) := b_R_in_0 x0 x1 x2
def rm_R_in : Room := { frames := 0, cells := 0, slots := 0, locals := 0 }
set_option maxHeartbeats 4000000 in
set_option maxRecDepth 100000 in
theorem w_R_in_0 {p : Program} {l : Launch} {e : Env} {s : State} {m : MethodId} {args : Array Value} {below : List Frame} {meth : Method} {c : Code} {res : Int32} (X : Cx p s m args meth c bR_in (some .boolean) 3 RR)
     (x0 : Int32) (x1 : Int32) (x2 : Int32) (hm : b_R_in_0  x0 x1 x2 = some res) : WZ p l e (headSpec (Cond.code yR_in bR_in 3 (some .boolean) :: gtb) rm_R_in).room s m args below meth c (MQ below (va_Qi (fun (r : Int32) (_ : Unit) => r = res) (fun _ _ => True) (fun _ => False)) args s 0 0 (fun _ => False)) 3 0 [(0, .int x0), (1, .int x1), (2, .int x2)] [] := by
  obtain ⟨hx, hb, hr, hml, hown, hT, hlk⟩ := X
  intro H locs ls hS hl
  unfold b_R_in_0 at hm
  refine lv_iload_n hx hb dR_in_0 rfl (lv_at hl 0 rfl) ?_
  refine lv_iload_n hx hb dR_in_1 rfl (lv_at hl 1 rfl) ?_
  refine lv_icmp_lt (tgt := 14) hx hb dR_in_2 (by decide) (fun c1 => ?_) (fun c1 => ?_)
  · have hm := brp hm c1
    refine lv_iconst (v := 0) hx hb dR_in_14 (by decide) ?_
    exact W.zret hx hb hr rfl (fun t ht hW => ⟨⟨0, (), rfl, Option.some.inj hm, trivial⟩, hS.F ht⟩) hS.2.2 dR_in_15 hlk
  · have hm := brn hm c1
    refine lv_iload_n hx hb dR_in_5 rfl (lv_at hl 0 rfl) ?_
    refine lv_iload_n hx hb dR_in_6 rfl (lv_at hl 2 rfl) ?_
    refine lv_icmp_gt (tgt := 14) hx hb dR_in_7 (by decide) (fun c2 => ?_) (fun c2 => ?_)
    · have hm := brp hm c2
      refine lv_iconst (v := 0) hx hb dR_in_14 (by decide) ?_
      exact W.zret hx hb hr rfl (fun t ht hW => ⟨⟨0, (), rfl, Option.some.inj hm, trivial⟩, hS.F ht⟩) hS.2.2 dR_in_15 hlk
    · have hm := brn hm c2
      refine lv_iconst (v := 1) hx hb dR_in_10 (by decide) ?_
      refine lv_goto (tgt := 15) hx hb dR_in_11 (by decide) ?_
      exact W.zret hx hb hr rfl (fun t ht hW => ⟨⟨1, (), rfl, Option.some.inj hm, trivial⟩, hS.F ht⟩) hS.2.2 dR_in_15 hlk
set_option maxHeartbeats 4000000 in
set_option maxRecDepth 100000 in
theorem c_R_in (l : Launch) (x0 : Int32) (x1 : Int32) (x2 : Int32) (res : Int32) (hm : m_R_in x0 x1 x2 = some res) : Met l yR_in (Cond.code yR_in bR_in 3 (some .boolean) :: gtb) rm_R_in (va_Pc [.int x0, .int x1, .int x2] (fun _ => True)) (va_Qi (fun (r : Int32) (_ : Unit) => r = res) (fun _ _ => True) (fun _ => False)) 0 0 (fun _ => False) := by
  refine Met.ofW (cc := bR_in) (maxL := 3) (ret := (some .boolean)) (by decide) rfl ?_
  intro p e s m args below meth c s₁ B hml hv
  obtain ⟨rfl, -⟩ := hv
  have X : Cx p s m [.int x0, .int x1, .int x2].toArray meth c bR_in (some .boolean) 3 RR := ⟨B.exec, B.bytes, B.returns, hml, findClass_of_methodNamed B.named, fun w h => atoms_spec (ws := (Cond.code yR_in bR_in 3 (some .boolean) :: gtb)) B.pre w (List.mem_cons_of_mem _ h), B.notSynchronized⟩
  have hl := lv_entry ([.int x0, .int x1, .int x2]) (n := 3) (Nat.le_of_ble_eq_true rfl)
  rw [lg_entry_eq]
  generalize (lg_sl ([.int x0, .int x1, .int x2]) ++ List.replicate (3 - (lg_sl ([.int x0, .int x1, .int x2])).length) Slot.unset).toArray = ls at hl ⊢
  have hl : lv_has ls 3 [(0, .int x0), (1, .int x1), (2, .int x2)] := hl
  exact w_R_in_0 X  x0 x1 x2 hm _ _ _ va_S.rf hl
def b_R_isLeast_18 (x0 : Int32) : Option (Int32) :=
  if x0 < 4 then
    some (0)
  else
    if 8 ≤ x0 then
      some (0)
    else
      some (1)
def b_R_isLeast_0 (k18 : Int32 → Option (Int32)) (x0 : Int32) : Option (Int32) :=
  if 18 ≤ x0 then
    some (1)
  else
    if x0 < 12 then
      k18 x0
    else
      if x0 < 15 then
        some (1)
      else
        k18 x0
def g_R_isLeast : Nat → (Int32 → Option (Int32))
  | 0 => (fun _ => none)
  | n + 1 => (fun x0 => b_R_isLeast_18  x0)
def m_R_isLeast (x0 : Int32) : Option (Int32) := b_R_isLeast_0 (g_R_isLeast fuel) x0
def rm_R_isLeast : Room := { frames := 0, cells := 0, slots := 0, locals := 0 }
set_option maxHeartbeats 4000000 in
set_option maxRecDepth 100000 in
theorem w_R_isLeast_18 {p : Program} {l : Launch} {e : Env} {s : State} {m : MethodId} {args : Array Value} {below : List Frame} {meth : Method} {c : Code} {res : Int32} (X : Cx p s m args meth c bR_isLeast (some .boolean) 1 RR)
     (x0 : Int32) (hm : b_R_isLeast_18  x0 = some res) : WZ p l e (headSpec (Cond.code yR_isLeast bR_isLeast 1 (some .boolean) :: gtb) rm_R_isLeast).room s m args below meth c (MQ below (va_Qi (fun (r : Int32) (_ : Unit) => r = res) (fun _ _ => True) (fun _ => False)) args s 0 0 (fun _ => False)) 1 18 [(0, .int x0)] [] := by
  obtain ⟨hx, hb, hr, hml, hown, hT, hlk⟩ := X
  intro H locs ls hS hl
  unfold b_R_isLeast_18 at hm
  refine lv_iload_n hx hb dR_isLeast_18 rfl (lv_at hl 0 rfl) ?_
  refine lv_iconst (v := 4) hx hb dR_isLeast_19 (by decide) ?_
  refine lv_icmp_lt (tgt := 33) hx hb dR_isLeast_20 (by decide) (fun c1 => ?_) (fun c1 => ?_)
  · have hm := brp hm c1
    refine lv_iconst (v := 0) hx hb dR_isLeast_33 (by decide) ?_
    exact W.zret hx hb hr rfl (fun t ht hW => ⟨⟨0, (), rfl, Option.some.inj hm, trivial⟩, hS.F ht⟩) hS.2.2 dR_isLeast_34 hlk
  · have hm := brn hm c1
    refine lv_iload_n hx hb dR_isLeast_23 rfl (lv_at hl 0 rfl) ?_
    refine lv_bipush (v := 8) hx hb dR_isLeast_24 (by decide) ?_
    refine lv_icmp_ge (tgt := 33) hx hb dR_isLeast_26 (by decide) (fun c2 => ?_) (fun c2 => ?_)
    · have hm := brp hm c2
      refine lv_iconst (v := 0) hx hb dR_isLeast_33 (by decide) ?_
      exact W.zret hx hb hr rfl (fun t ht hW => ⟨⟨0, (), rfl, Option.some.inj hm, trivial⟩, hS.F ht⟩) hS.2.2 dR_isLeast_34 hlk
    · have hm := brn hm c2
      refine lv_iconst (v := 1) hx hb dR_isLeast_29 (by decide) ?_
      refine lv_goto (tgt := 34) hx hb dR_isLeast_30 (by decide) ?_
      exact W.zret hx hb hr rfl (fun t ht hW => ⟨⟨1, (), rfl, Option.some.inj hm, trivial⟩, hS.F ht⟩) hS.2.2 dR_isLeast_34 hlk
set_option maxHeartbeats 4000000 in
set_option maxRecDepth 100000 in
theorem w_R_isLeast_0 {p : Program} {l : Launch} {e : Env} {s : State} {m : MethodId} {args : Array Value} {below : List Frame} {meth : Method} {c : Code} {res : Int32} (X : Cx p s m args meth c bR_isLeast (some .boolean) 1 RR)
    {k18 : Int32 → Option (Int32)} (hk18 : ∀ (x0 : Int32), k18 x0 = some res → WZ p l e (headSpec (Cond.code yR_isLeast bR_isLeast 1 (some .boolean) :: gtb) rm_R_isLeast).room s m args below meth c (MQ below (va_Qi (fun (r : Int32) (_ : Unit) => r = res) (fun _ _ => True) (fun _ => False)) args s 0 0 (fun _ => False)) 1 18 [(0, .int x0)] [])
     (x0 : Int32) (hm : b_R_isLeast_0 k18 x0 = some res) : WZ p l e (headSpec (Cond.code yR_isLeast bR_isLeast 1 (some .boolean) :: gtb) rm_R_isLeast).room s m args below meth c (MQ below (va_Qi (fun (r : Int32) (_ : Unit) => r = res) (fun _ _ => True) (fun _ => False)) args s 0 0 (fun _ => False)) 1 0 [(0, .int x0)] [] := by
  obtain ⟨hx, hb, hr, hml, hown, hT, hlk⟩ := X
  intro H locs ls hS hl
  unfold b_R_isLeast_0 at hm
  refine lv_iload_n hx hb dR_isLeast_0 rfl (lv_at hl 0 rfl) ?_
  refine lv_bipush (v := 18) hx hb dR_isLeast_1 (by decide) ?_
  refine lv_icmp_ge (tgt := 29) hx hb dR_isLeast_3 (by decide) (fun c1 => ?_) (fun c1 => ?_)
  · have hm := brp hm c1
    refine lv_iconst (v := 1) hx hb dR_isLeast_29 (by decide) ?_
    refine lv_goto (tgt := 34) hx hb dR_isLeast_30 (by decide) ?_
    exact W.zret hx hb hr rfl (fun t ht hW => ⟨⟨1, (), rfl, Option.some.inj hm, trivial⟩, hS.F ht⟩) hS.2.2 dR_isLeast_34 hlk
  · have hm := brn hm c1
    refine lv_iload_n hx hb dR_isLeast_6 rfl (lv_at hl 0 rfl) ?_
    refine lv_bipush (v := 12) hx hb dR_isLeast_7 (by decide) ?_
    refine lv_icmp_lt (tgt := 18) hx hb dR_isLeast_9 (by decide) (fun c2 => ?_) (fun c2 => ?_)
    · have hm := brp hm c2
      exact hk18 x0 hm _ _ _ hS (lv_sub hl [0] rfl)
    · have hm := brn hm c2
      refine lv_iload_n hx hb dR_isLeast_12 rfl (lv_at hl 0 rfl) ?_
      refine lv_bipush (v := 15) hx hb dR_isLeast_13 (by decide) ?_
      refine lv_icmp_lt (tgt := 29) hx hb dR_isLeast_15 (by decide) (fun c3 => ?_) (fun c3 => ?_)
      · have hm := brp hm c3
        refine lv_iconst (v := 1) hx hb dR_isLeast_29 (by decide) ?_
        refine lv_goto (tgt := 34) hx hb dR_isLeast_30 (by decide) ?_
        exact W.zret hx hb hr rfl (fun t ht hW => ⟨⟨1, (), rfl, Option.some.inj hm, trivial⟩, hS.F ht⟩) hS.2.2 dR_isLeast_34 hlk
      · have hm := brn hm c3
        exact hk18 x0 hm _ _ _ hS (lv_sub hl [0] rfl)
set_option maxHeartbeats 4000000 in
theorem gw_R_isLeast {p : Program} {l : Launch} {e : Env} {s : State} {m : MethodId} {args : Array Value} {below : List Frame} {meth : Method} {c : Code} {res : Int32} (X : Cx p s m args meth c bR_isLeast (some .boolean) 1 RR) : ∀ n : Nat, (∀ (x0 : Int32), (g_R_isLeast n) x0 = some res → WZ p l e (headSpec (Cond.code yR_isLeast bR_isLeast 1 (some .boolean) :: gtb) rm_R_isLeast).room s m args below meth c (MQ below (va_Qi (fun (r : Int32) (_ : Unit) => r = res) (fun _ _ => True) (fun _ => False)) args s 0 0 (fun _ => False)) 1 18 [(0, .int x0)] []) := by
  intro n
  induction n with
  | zero => exact fun _ h => (by cases h)
  | succ n ih =>
    have ih18 := ih
    exact fun x0 h => w_R_isLeast_18 X  x0 h
set_option maxHeartbeats 4000000 in
set_option maxRecDepth 100000 in
theorem c_R_isLeast (l : Launch) (x0 : Int32) (res : Int32) (hm : m_R_isLeast x0 = some res) : Met l yR_isLeast (Cond.code yR_isLeast bR_isLeast 1 (some .boolean) :: gtb) rm_R_isLeast (va_Pc [.int x0] (fun _ => True)) (va_Qi (fun (r : Int32) (_ : Unit) => r = res) (fun _ _ => True) (fun _ => False)) 0 0 (fun _ => False) := by
  refine Met.ofW (cc := bR_isLeast) (maxL := 1) (ret := (some .boolean)) (by decide) rfl ?_
  intro p e s m args below meth c s₁ B hml hv
  obtain ⟨rfl, -⟩ := hv
  have X : Cx p s m [.int x0].toArray meth c bR_isLeast (some .boolean) 1 RR := ⟨B.exec, B.bytes, B.returns, hml, findClass_of_methodNamed B.named, fun w h => atoms_spec (ws := (Cond.code yR_isLeast bR_isLeast 1 (some .boolean) :: gtb)) B.pre w (List.mem_cons_of_mem _ h), B.notSynchronized⟩
  have hl := lv_entry ([.int x0]) (n := 1) (Nat.le_of_ble_eq_true rfl)
  rw [lg_entry_eq]
  generalize (lg_sl ([.int x0]) ++ List.replicate (1 - (lg_sl ([.int x0])).length) Slot.unset).toArray = ls at hl ⊢
  have hl : lv_has ls 1 [(0, .int x0)] := hl
  exact w_R_isLeast_0 X (gw_R_isLeast X fuel) x0 hm _ _ _ va_S.rf hl
def b_R_divisor_17 (k17 : Int64 → Int64 → Option (Int64)) (x4 : Int64) (x6 : Int64) : Option (Int64) :=
  nm (lg_cmp x6 0) fun v1 =>
  if v1 = 0 then
    some (x4)
  else
    gd (¬ x6 = 0) <|
    nm (x4 - x4 / x6 * x6) fun v4 =>
    k17 x6 v4
def b_R_divisor_0 (k17 : Int64 → Int64 → Option (Int64)) (x0 : Int64) (x2 : Int64) : Option (Int64) :=
  nm (lg_cmp x0 0) fun v1 =>
  if 0 ≤ v1 then
    k17 x0 x2
  else
    nm (-x0) fun v3 =>
    k17 v3 x2
def g_R_divisor : Nat → (Int64 → Int64 → Option (Int64))
  | 0 => (fun _ _ => none)
  | n + 1 => (fun x4 x6 => b_R_divisor_17 (g_R_divisor n) x4 x6)
def m_R_divisor (x0 : Int64) (x2 : Int64) : Option (Int64) := b_R_divisor_0 (g_R_divisor fuel) x0 x2
def rm_R_divisor : Room := { frames := 0, cells := 0, slots := 0, locals := 0 }
set_option maxHeartbeats 4000000 in
set_option maxRecDepth 100000 in
theorem w_R_divisor_17 {p : Program} {l : Launch} {e : Env} {s : State} {m : MethodId} {args : Array Value} {below : List Frame} {meth : Method} {c : Code} {res : Int64} (X : Cx p s m args meth c bR_divisor (some .long) 10 RR)
    {k17 : Int64 → Int64 → Option (Int64)} (hk17 : ∀ (x4 : Int64) (x6 : Int64), k17 x4 x6 = some res → WZ p l e (headSpec (Cond.code yR_divisor bR_divisor 10 (some .long) :: gtb) rm_R_divisor).room s m args below meth c (MQ below (va_Ql (fun (r : Int64) (_ : Unit) => r = res) (fun _ _ => True) (fun _ => False)) args s 0 0 (fun _ => False)) 10 17 [(4, .long x4), (6, .long x6)] [])
     (x4 : Int64) (x6 : Int64) (hm : b_R_divisor_17 k17 x4 x6 = some res) : WZ p l e (headSpec (Cond.code yR_divisor bR_divisor 10 (some .long) :: gtb) rm_R_divisor).room s m args below meth c (MQ below (va_Ql (fun (r : Int64) (_ : Unit) => r = res) (fun _ _ => True) (fun _ => False)) args s 0 0 (fun _ => False)) 10 17 [(4, .long x4), (6, .long x6)] [] := by
  obtain ⟨hx, hb, hr, hml, hown, hT, hlk⟩ := X
  intro H locs ls hS hl
  unfold b_R_divisor_17 at hm
  refine lv_lload hx hb dR_divisor_17 (lv_at hl 1 rfl) ?_
  refine lv_lconst (v := 0) hx hb dR_divisor_19 (by decide) ?_
  refine W.lcmp hx hb dR_divisor_20 ?_
  refine lv_topi (fun v1 ev1 => ?_)
  have hm := nm_to ev1 hm
  refine lv_if_eq (tgt := 42) hx hb dR_divisor_21 (by decide) (fun c2 => ?_) (fun c2 => ?_)
  · have hm := brp hm c2
    refine lv_lload hx hb dR_divisor_42 (lv_at hl 0 rfl) ?_
    exact W.lret hx hb hr (fun t ht hW => ⟨⟨x4, (), rfl, Option.some.inj hm, trivial⟩, hS.F ht⟩) hS.2.2 dR_divisor_44 hlk
  · have hm := brn hm c2
    refine lv_lload hx hb dR_divisor_24 (lv_at hl 0 rfl) ?_
    refine lv_lload hx hb dR_divisor_26 (lv_at hl 1 rfl) ?_
    obtain ⟨g3, hm⟩ := gd_to hm
    refine lv_lrem hx hb dR_divisor_28 g3 ?_
    refine lv_topl (fun v4 ev4 => ?_)
    have hm := nm_to ev4 hm
    refine lv_lstore (lv' := [(8, .long v4), (4, .long x4), (6, .long x6)]) hx hb dR_divisor_29 hl (by decide) rfl (fun ls hl => ?_)
    refine lv_lload hx hb dR_divisor_31 (lv_at hl 2 rfl) ?_
    refine lv_lstore (lv' := [(4, .long x6), (8, .long v4), (6, .long x6)]) hx hb dR_divisor_33 hl (by decide) rfl (fun ls hl => ?_)
    refine lv_lload hx hb dR_divisor_35 (lv_at hl 1 rfl) ?_
    refine lv_lstore (lv' := [(6, .long v4), (4, .long x6), (8, .long v4)]) hx hb dR_divisor_37 hl (by decide) rfl (fun ls hl => ?_)
    refine lv_goto (tgt := 17) hx hb dR_divisor_39 (by decide) ?_
    exact hk17 x6 v4 hm _ _ _ hS (lv_sub hl [1, 0] rfl)
set_option maxHeartbeats 4000000 in
set_option maxRecDepth 100000 in
theorem w_R_divisor_0 {p : Program} {l : Launch} {e : Env} {s : State} {m : MethodId} {args : Array Value} {below : List Frame} {meth : Method} {c : Code} {res : Int64} (X : Cx p s m args meth c bR_divisor (some .long) 10 RR)
    {k17 : Int64 → Int64 → Option (Int64)} (hk17 : ∀ (x4 : Int64) (x6 : Int64), k17 x4 x6 = some res → WZ p l e (headSpec (Cond.code yR_divisor bR_divisor 10 (some .long) :: gtb) rm_R_divisor).room s m args below meth c (MQ below (va_Ql (fun (r : Int64) (_ : Unit) => r = res) (fun _ _ => True) (fun _ => False)) args s 0 0 (fun _ => False)) 10 17 [(4, .long x4), (6, .long x6)] [])
     (x0 : Int64) (x2 : Int64) (hm : b_R_divisor_0 k17 x0 x2 = some res) : WZ p l e (headSpec (Cond.code yR_divisor bR_divisor 10 (some .long) :: gtb) rm_R_divisor).room s m args below meth c (MQ below (va_Ql (fun (r : Int64) (_ : Unit) => r = res) (fun _ _ => True) (fun _ => False)) args s 0 0 (fun _ => False)) 10 0 [(0, .long x0), (2, .long x2)] [] := by
  obtain ⟨hx, hb, hr, hml, hown, hT, hlk⟩ := X
  intro H locs ls hS hl
  unfold b_R_divisor_0 at hm
  refine lv_lload_n hx hb dR_divisor_0 rfl (lv_at hl 0 rfl) ?_
  refine lv_lconst (v := 0) hx hb dR_divisor_1 (by decide) ?_
  refine W.lcmp hx hb dR_divisor_2 ?_
  refine lv_topi (fun v1 ev1 => ?_)
  have hm := nm_to ev1 hm
  refine lv_if_ge (tgt := 11) hx hb dR_divisor_3 (by decide) (fun c2 => ?_) (fun c2 => ?_)
  · have hm := brp hm c2
    refine lv_lload_n hx hb dR_divisor_11 rfl (lv_at hl 0 rfl) ?_
    refine lv_lstore (lv' := [(4, .long x0), (0, .long x0), (2, .long x2)]) hx hb dR_divisor_12 hl (by decide) rfl (fun ls hl => ?_)
    refine lv_lload_n hx hb dR_divisor_14 rfl (lv_at hl 2 rfl) ?_
    refine lv_lstore (lv' := [(6, .long x2), (4, .long x0), (0, .long x0), (2, .long x2)]) hx hb dR_divisor_15 hl (by decide) rfl (fun ls hl => ?_)
    exact hk17 x0 x2 hm _ _ _ hS (lv_sub hl [1, 0] rfl)
  · have hm := brn hm c2
    refine lv_lload_n hx hb dR_divisor_6 rfl (lv_at hl 0 rfl) ?_
    refine lv_lneg hx hb dR_divisor_7 ?_
    refine lv_topl (fun v3 ev3 => ?_)
    have hm := nm_to ev3 hm
    refine lv_goto (tgt := 12) hx hb dR_divisor_8 (by decide) ?_
    refine lv_lstore (lv' := [(4, .long v3), (0, .long x0), (2, .long x2)]) hx hb dR_divisor_12 hl (by decide) rfl (fun ls hl => ?_)
    refine lv_lload_n hx hb dR_divisor_14 rfl (lv_at hl 2 rfl) ?_
    refine lv_lstore (lv' := [(6, .long x2), (4, .long v3), (0, .long x0), (2, .long x2)]) hx hb dR_divisor_15 hl (by decide) rfl (fun ls hl => ?_)
    exact hk17 v3 x2 hm _ _ _ hS (lv_sub hl [1, 0] rfl)
set_option maxHeartbeats 4000000 in
theorem gw_R_divisor {p : Program} {l : Launch} {e : Env} {s : State} {m : MethodId} {args : Array Value} {below : List Frame} {meth : Method} {c : Code} {res : Int64} (X : Cx p s m args meth c bR_divisor (some .long) 10 RR) : ∀ n : Nat, (∀ (x4 : Int64) (x6 : Int64), (g_R_divisor n) x4 x6 = some res → WZ p l e (headSpec (Cond.code yR_divisor bR_divisor 10 (some .long) :: gtb) rm_R_divisor).room s m args below meth c (MQ below (va_Ql (fun (r : Int64) (_ : Unit) => r = res) (fun _ _ => True) (fun _ => False)) args s 0 0 (fun _ => False)) 10 17 [(4, .long x4), (6, .long x6)] []) := by
  intro n
  induction n with
  | zero => exact fun _ _ h => (by cases h)
  | succ n ih =>
    have ih17 := ih
    exact fun x4 x6 h => w_R_divisor_17 X ih17 x4 x6 h
set_option maxHeartbeats 4000000 in
set_option maxRecDepth 100000 in
theorem c_R_divisor (l : Launch) (x0 : Int64) (x2 : Int64) (res : Int64) (hm : m_R_divisor x0 x2 = some res) : Met l yR_divisor (Cond.code yR_divisor bR_divisor 10 (some .long) :: gtb) rm_R_divisor (va_Pc [.long x0, .long x2] (fun _ => True)) (va_Ql (fun (r : Int64) (_ : Unit) => r = res) (fun _ _ => True) (fun _ => False)) 0 0 (fun _ => False) := by
  refine Met.ofW (cc := bR_divisor) (maxL := 10) (ret := (some .long)) (by decide) rfl ?_
  intro p e s m args below meth c s₁ B hml hv
  obtain ⟨rfl, -⟩ := hv
  have X : Cx p s m [.long x0, .long x2].toArray meth c bR_divisor (some .long) 10 RR := ⟨B.exec, B.bytes, B.returns, hml, findClass_of_methodNamed B.named, fun w h => atoms_spec (ws := (Cond.code yR_divisor bR_divisor 10 (some .long) :: gtb)) B.pre w (List.mem_cons_of_mem _ h), B.notSynchronized⟩
  have hl := lv_entry ([.long x0, .long x2]) (n := 10) (Nat.le_of_ble_eq_true rfl)
  rw [lg_entry_eq]
  generalize (lg_sl ([.long x0, .long x2]) ++ List.replicate (10 - (lg_sl ([.long x0, .long x2])).length) Slot.unset).toArray = ls at hl ⊢
  have hl : lv_has ls 10 [(0, .long x0), (2, .long x2)] := hl
  exact w_R_divisor_0 X (gw_R_divisor X fuel) x0 x2 hm _ _ _ va_S.rf hl
def b_R_isStuff_0 (x1 : Int32) (I : SI) (J : SJ) : Option (Int32 × SI × SJ) :=
  if x1 < 0 then
    some (0, I, J)
  else
    if (I 0 0) ≤ x1 then
      some (0, I, J)
    else
      some (1, I, J)
def m_R_isStuff (x1 : Int32) (I : SI) (J : SJ) : Option (Int32 × SI × SJ) := b_R_isStuff_0 x1 I J
def rm_R_isStuff : Room := { frames := 0, cells := 0, slots := 0, locals := 0 }
set_option maxHeartbeats 4000000 in
set_option maxRecDepth 100000 in
theorem w_R_isStuff_0 {p : Program} {l : Launch} {e : Env} {s : State} {m : MethodId} {args : Array Value} {below : List Frame} {meth : Method} {c : Code} {D : va_G} {A : Nat → Prop} {ad : Nat → Nat} {cI cJ cG : ClassId} {res : Int32 × SI × SJ} (X : Cx p s m args meth c bR_isStuff (some .boolean) 2 RR) (hK : va_K D vwCl (tysR cI cJ cG) s) (hN : NWs s) (hA : ∀ q, s.heap.size ≤ q → A q)
     (x1 : Int32) (I : SI) (J : SJ) (hm : b_R_isStuff_0  x1 I J = some res) : WB p l e (headSpec (Cond.code yR_isStuff bR_isStuff 2 (some .boolean) :: gtb) rm_R_isStuff).room s m args below meth c (MQ below (va_Qi (fun (r : Int32) (u : SI × SJ) => (r, u) = res) (atW D vwCl (tysR cI cJ cG) A (wsR ad cI cJ cG)) A) args s 0 0 A) D vwCl A 2 (wsR ad cI cJ cG I J) 0 [(0, .ref (ad 0)), (1, .int x1)] [] := by
  obtain ⟨hx, hb, hr, hml, hown, hT, hlk⟩ := X
  intro H locs ls hP hD hS hl
  unfold b_R_isStuff_0 at hm
  refine lv_iload_n hx hb dR_isStuff_0 rfl (lv_at hl 1 rfl) ?_
  refine lv_if_lt (tgt := 16) hx hb dR_isStuff_1 (by decide) (fun c1 => ?_) (fun c1 => ?_)
  · have hm := brp hm c1
    refine lv_iconst (v := 0) hx hb dR_isStuff_16 (by decide) ?_
    exact W.zret hx hb hr rfl (fun t ht hW => ⟨⟨0, (I, J), rfl, Option.some.inj hm, ht ▸ hP, va_K.moved hW.alike hK, hD⟩, hS.F ht⟩) hS.2.2 dR_isStuff_17 hlk
  · have hm := brn hm c1
    refine lv_iload_n hx hb dR_isStuff_4 rfl (lv_at hl 1 rfl) ?_
    refine lv_aload_n hx hb dR_isStuff_5 rfl (lv_at hl 0 rfl) ?_
    refine va_get (D := D) (ci := 6) (v := .int (I 0 0)) (C := RR) (T := TR) (N := 31) hx hb hT inR hown hK hP 0 rfl rfl 0 (by decide) (hT _ wd_535) (fun _ h9 => h9) rfl dR_isStuff_6 ?_
    refine lv_icmp_ge (tgt := 16) hx hb dR_isStuff_9 (by decide) (fun c2 => ?_) (fun c2 => ?_)
    · have hm := brp hm c2
      refine lv_iconst (v := 0) hx hb dR_isStuff_16 (by decide) ?_
      exact W.zret hx hb hr rfl (fun t ht hW => ⟨⟨0, (I, J), rfl, Option.some.inj hm, ht ▸ hP, va_K.moved hW.alike hK, hD⟩, hS.F ht⟩) hS.2.2 dR_isStuff_17 hlk
    · have hm := brn hm c2
      refine lv_iconst (v := 1) hx hb dR_isStuff_12 (by decide) ?_
      refine lv_goto (tgt := 17) hx hb dR_isStuff_13 (by decide) ?_
      exact W.zret hx hb hr rfl (fun t ht hW => ⟨⟨1, (I, J), rfl, Option.some.inj hm, ht ▸ hP, va_K.moved hW.alike hK, hD⟩, hS.F ht⟩) hS.2.2 dR_isStuff_17 hlk
set_option maxHeartbeats 4000000 in
set_option maxRecDepth 100000 in
theorem c_R_isStuff (l : Launch) (D : va_G) (ad : Nat → Nat) (cI cJ cG : ClassId) (sz : Nat) (x1 : Int32) (I : SI) (J : SJ) (res : Int32 × SI × SJ) (hm : m_R_isStuff x1 I J = some res) : Met l yR_isStuff (Cond.code yR_isStuff bR_isStuff 2 (some .boolean) :: gtb) rm_R_isStuff (va_Pc [.ref (ad 0), .int x1] (preW D vwCl (tysR cI cJ cG) (wsR ad cI cJ cG I J) sz)) (va_Qi (fun (r : Int32) (u : SI × SJ) => (r, u) = res) (atW D vwCl (tysR cI cJ cG) (va_A (wsR ad cI cJ cG I J) sz) (wsR ad cI cJ cG)) (va_A (wsR ad cI cJ cG I J) sz)) 0 0 (va_A (wsR ad cI cJ cG I J) sz) := by
  refine Met.ofW (cc := bR_isStuff) (maxL := 2) (ret := (some .boolean)) (by decide) rfl ?_
  intro p e s m args below meth c s₁ B hml hv
  obtain ⟨rfl, hsz, hP, hK, hD0, hN⟩ := hv
  subst hsz
  have X : Cx p s m [.ref (ad 0), .int x1].toArray meth c bR_isStuff (some .boolean) 2 RR := ⟨B.exec, B.bytes, B.returns, hml, findClass_of_methodNamed B.named, fun w h => atoms_spec (ws := (Cond.code yR_isStuff bR_isStuff 2 (some .boolean) :: gtb)) B.pre w (List.mem_cons_of_mem _ h), B.notSynchronized⟩
  have hl := lv_entry ([.ref (ad 0), .int x1]) (n := 2) (Nat.le_of_ble_eq_true rfl)
  rw [lg_entry_eq]
  generalize (lg_sl ([.ref (ad 0), .int x1]) ++ List.replicate (2 - (lg_sl ([.ref (ad 0), .int x1])).length) Slot.unset).toArray = ls at hl ⊢
  have hl : lv_has ls 2 [(0, .ref (ad 0)), (1, .int x1)] := hl
  have hA : ∀ q, s.heap.size ≤ q → va_A (wsR ad cI cJ cG I J) s.heap.size q := fun q h => Or.inr h
  exact w_R_isStuff_0 X hK hN hA  x1 I J hm _ _ _ hP hD0.self va_S.rf hl
def b_R_isThere_28 (x1 : Int32) (I : SI) (J : SJ) : Option (Int32 × SI × SJ) :=
  if x1 < 18 then
    some (0, I, J)
  else
    nm (x1 - 18) fun v2 =>
    if (I 0 0) ≤ v2 then
      some (0, I, J)
    else
      some (1, I, J)
def b_R_isThere_0 (k28 : Int32 → SI → SJ → Option (Int32 × SI × SJ)) (x1 : Int32) (I : SI) (J : SJ) : Option (Int32 × SI × SJ) :=
  if x1 < 12 then
    nm (x1 - x1 / 4 * 4) fun v2 =>
    if (I 0 0) ≤ v2 then
      k28 x1 I J
    else
      if x1 < 12 then
        some (1, I, J)
      else
        k28 x1 I J
  else
    if x1 < 18 then
      some (1, I, J)
    else
      nm (x1 - x1 / 4 * 4) fun v6 =>
      if (I 0 0) ≤ v6 then
        k28 x1 I J
      else
        if x1 < 12 then
          some (1, I, J)
        else
          k28 x1 I J
def g_R_isThere : Nat → (Int32 → SI → SJ → Option (Int32 × SI × SJ))
  | 0 => (fun _ _ _ => none)
  | n + 1 => (fun x1 I J => b_R_isThere_28  x1 I J)
def m_R_isThere (x1 : Int32) (I : SI) (J : SJ) : Option (Int32 × SI × SJ) := b_R_isThere_0 (g_R_isThere fuel) x1 I J
def rm_R_isThere : Room := { frames := 0, cells := 0, slots := 0, locals := 0 }
set_option maxHeartbeats 4000000 in
set_option maxRecDepth 100000 in
theorem w_R_isThere_28 {p : Program} {l : Launch} {e : Env} {s : State} {m : MethodId} {args : Array Value} {below : List Frame} {meth : Method} {c : Code} {D : va_G} {A : Nat → Prop} {ad : Nat → Nat} {cI cJ cG : ClassId} {res : Int32 × SI × SJ} (X : Cx p s m args meth c bR_isThere (some .boolean) 2 RR) (hK : va_K D vwCl (tysR cI cJ cG) s) (hN : NWs s) (hA : ∀ q, s.heap.size ≤ q → A q)
     (x1 : Int32) (I : SI) (J : SJ) (hm : b_R_isThere_28  x1 I J = some res) : WB p l e (headSpec (Cond.code yR_isThere bR_isThere 2 (some .boolean) :: gtb) rm_R_isThere).room s m args below meth c (MQ below (va_Qi (fun (r : Int32) (u : SI × SJ) => (r, u) = res) (atW D vwCl (tysR cI cJ cG) A (wsR ad cI cJ cG)) A) args s 0 0 A) D vwCl A 2 (wsR ad cI cJ cG I J) 28 [(0, .ref (ad 0)), (1, .int x1)] [] := by
  obtain ⟨hx, hb, hr, hml, hown, hT, hlk⟩ := X
  intro H locs ls hP hD hS hl
  unfold b_R_isThere_28 at hm
  refine lv_iload_n hx hb dR_isThere_28 rfl (lv_at hl 1 rfl) ?_
  refine lv_bipush (v := 18) hx hb dR_isThere_29 (by decide) ?_
  refine lv_icmp_lt (tgt := 49) hx hb dR_isThere_31 (by decide) (fun c1 => ?_) (fun c1 => ?_)
  · have hm := brp hm c1
    refine lv_iconst (v := 0) hx hb dR_isThere_49 (by decide) ?_
    exact W.zret hx hb hr rfl (fun t ht hW => ⟨⟨0, (I, J), rfl, Option.some.inj hm, ht ▸ hP, va_K.moved hW.alike hK, hD⟩, hS.F ht⟩) hS.2.2 dR_isThere_50 hlk
  · have hm := brn hm c1
    refine lv_iload_n hx hb dR_isThere_34 rfl (lv_at hl 1 rfl) ?_
    refine lv_bipush (v := 18) hx hb dR_isThere_35 (by decide) ?_
    refine lv_isub hx hb dR_isThere_37 ?_
    refine lv_topi (fun v2 ev2 => ?_)
    have hm := nm_to ev2 hm
    refine lv_aload_n hx hb dR_isThere_38 rfl (lv_at hl 0 rfl) ?_
    refine va_get (D := D) (ci := 6) (v := .int (I 0 0)) (C := RR) (T := TR) (N := 31) hx hb hT inR hown hK hP 0 rfl rfl 0 (by decide) (hT _ wd_535) (fun _ h9 => h9) rfl dR_isThere_39 ?_
    refine lv_icmp_ge (tgt := 49) hx hb dR_isThere_42 (by decide) (fun c3 => ?_) (fun c3 => ?_)
    · have hm := brp hm c3
      refine lv_iconst (v := 0) hx hb dR_isThere_49 (by decide) ?_
      exact W.zret hx hb hr rfl (fun t ht hW => ⟨⟨0, (I, J), rfl, Option.some.inj hm, ht ▸ hP, va_K.moved hW.alike hK, hD⟩, hS.F ht⟩) hS.2.2 dR_isThere_50 hlk
    · have hm := brn hm c3
      refine lv_iconst (v := 1) hx hb dR_isThere_45 (by decide) ?_
      refine lv_goto (tgt := 50) hx hb dR_isThere_46 (by decide) ?_
      exact W.zret hx hb hr rfl (fun t ht hW => ⟨⟨1, (I, J), rfl, Option.some.inj hm, ht ▸ hP, va_K.moved hW.alike hK, hD⟩, hS.F ht⟩) hS.2.2 dR_isThere_50 hlk
set_option maxHeartbeats 4000000 in
set_option maxRecDepth 100000 in
theorem w_R_isThere_0 {p : Program} {l : Launch} {e : Env} {s : State} {m : MethodId} {args : Array Value} {below : List Frame} {meth : Method} {c : Code} {D : va_G} {A : Nat → Prop} {ad : Nat → Nat} {cI cJ cG : ClassId} {res : Int32 × SI × SJ} (X : Cx p s m args meth c bR_isThere (some .boolean) 2 RR) (hK : va_K D vwCl (tysR cI cJ cG) s) (hN : NWs s) (hA : ∀ q, s.heap.size ≤ q → A q)
    {k28 : Int32 → SI → SJ → Option (Int32 × SI × SJ)} (hk28 : ∀ (x1 : Int32) (I : SI) (J : SJ), k28 x1 I J = some res → WB p l e (headSpec (Cond.code yR_isThere bR_isThere 2 (some .boolean) :: gtb) rm_R_isThere).room s m args below meth c (MQ below (va_Qi (fun (r : Int32) (u : SI × SJ) => (r, u) = res) (atW D vwCl (tysR cI cJ cG) A (wsR ad cI cJ cG)) A) args s 0 0 A) D vwCl A 2 (wsR ad cI cJ cG I J) 28 [(0, .ref (ad 0)), (1, .int x1)] [])
     (x1 : Int32) (I : SI) (J : SJ) (hm : b_R_isThere_0 k28 x1 I J = some res) : WB p l e (headSpec (Cond.code yR_isThere bR_isThere 2 (some .boolean) :: gtb) rm_R_isThere).room s m args below meth c (MQ below (va_Qi (fun (r : Int32) (u : SI × SJ) => (r, u) = res) (atW D vwCl (tysR cI cJ cG) A (wsR ad cI cJ cG)) A) args s 0 0 A) D vwCl A 2 (wsR ad cI cJ cG I J) 0 [(0, .ref (ad 0)), (1, .int x1)] [] := by
  obtain ⟨hx, hb, hr, hml, hown, hT, hlk⟩ := X
  intro H locs ls hP hD hS hl
  unfold b_R_isThere_0 at hm
  refine lv_iload_n hx hb dR_isThere_0 rfl (lv_at hl 1 rfl) ?_
  refine lv_bipush (v := 12) hx hb dR_isThere_1 (by decide) ?_
  refine lv_icmp_lt (tgt := 12) hx hb dR_isThere_3 (by decide) (fun c1 => ?_) (fun c1 => ?_)
  · have hm := brp hm c1
    refine lv_iload_n hx hb dR_isThere_12 rfl (lv_at hl 1 rfl) ?_
    refine lv_iconst (v := 4) hx hb dR_isThere_13 (by decide) ?_
    refine lv_irem hx hb dR_isThere_14 (by decide) ?_
    refine lv_topi (fun v2 ev2 => ?_)
    have hm := nm_to ev2 hm
    refine lv_aload_n hx hb dR_isThere_15 rfl (lv_at hl 0 rfl) ?_
    refine va_get (D := D) (ci := 6) (v := .int (I 0 0)) (C := RR) (T := TR) (N := 31) hx hb hT inR hown hK hP 0 rfl rfl 0 (by decide) (hT _ wd_535) (fun _ h9 => h9) rfl dR_isThere_16 ?_
    refine lv_icmp_ge (tgt := 28) hx hb dR_isThere_19 (by decide) (fun c3 => ?_) (fun c3 => ?_)
    · have hm := brp hm c3
      exact hk28 x1 I J hm _ _ _ hP hD hS (lv_sub hl [0, 1] rfl)
    · have hm := brn hm c3
      refine lv_iload_n hx hb dR_isThere_22 rfl (lv_at hl 1 rfl) ?_
      refine lv_bipush (v := 12) hx hb dR_isThere_23 (by decide) ?_
      refine lv_icmp_lt (tgt := 45) hx hb dR_isThere_25 (by decide) (fun c4 => ?_) (fun c4 => ?_)
      · have hm := brp hm c4
        refine lv_iconst (v := 1) hx hb dR_isThere_45 (by decide) ?_
        refine lv_goto (tgt := 50) hx hb dR_isThere_46 (by decide) ?_
        exact W.zret hx hb hr rfl (fun t ht hW => ⟨⟨1, (I, J), rfl, Option.some.inj hm, ht ▸ hP, va_K.moved hW.alike hK, hD⟩, hS.F ht⟩) hS.2.2 dR_isThere_50 hlk
      · have hm := brn hm c4
        exact hk28 x1 I J hm _ _ _ hP hD hS (lv_sub hl [0, 1] rfl)
  · have hm := brn hm c1
    refine lv_iload_n hx hb dR_isThere_6 rfl (lv_at hl 1 rfl) ?_
    refine lv_bipush (v := 18) hx hb dR_isThere_7 (by decide) ?_
    refine lv_icmp_lt (tgt := 45) hx hb dR_isThere_9 (by decide) (fun c5 => ?_) (fun c5 => ?_)
    · have hm := brp hm c5
      refine lv_iconst (v := 1) hx hb dR_isThere_45 (by decide) ?_
      refine lv_goto (tgt := 50) hx hb dR_isThere_46 (by decide) ?_
      exact W.zret hx hb hr rfl (fun t ht hW => ⟨⟨1, (I, J), rfl, Option.some.inj hm, ht ▸ hP, va_K.moved hW.alike hK, hD⟩, hS.F ht⟩) hS.2.2 dR_isThere_50 hlk
    · have hm := brn hm c5
      refine lv_iload_n hx hb dR_isThere_12 rfl (lv_at hl 1 rfl) ?_
      refine lv_iconst (v := 4) hx hb dR_isThere_13 (by decide) ?_
      refine lv_irem hx hb dR_isThere_14 (by decide) ?_
      refine lv_topi (fun v6 ev6 => ?_)
      have hm := nm_to ev6 hm
      refine lv_aload_n hx hb dR_isThere_15 rfl (lv_at hl 0 rfl) ?_
      refine va_get (D := D) (ci := 6) (v := .int (I 0 0)) (C := RR) (T := TR) (N := 31) hx hb hT inR hown hK hP 0 rfl rfl 0 (by decide) (hT _ wd_535) (fun _ h9 => h9) rfl dR_isThere_16 ?_
      refine lv_icmp_ge (tgt := 28) hx hb dR_isThere_19 (by decide) (fun c7 => ?_) (fun c7 => ?_)
      · have hm := brp hm c7
        exact hk28 x1 I J hm _ _ _ hP hD hS (lv_sub hl [0, 1] rfl)
      · have hm := brn hm c7
        refine lv_iload_n hx hb dR_isThere_22 rfl (lv_at hl 1 rfl) ?_
        refine lv_bipush (v := 12) hx hb dR_isThere_23 (by decide) ?_
        refine lv_icmp_lt (tgt := 45) hx hb dR_isThere_25 (by decide) (fun c8 => ?_) (fun c8 => ?_)
        · have hm := brp hm c8
          refine lv_iconst (v := 1) hx hb dR_isThere_45 (by decide) ?_
          refine lv_goto (tgt := 50) hx hb dR_isThere_46 (by decide) ?_
          exact W.zret hx hb hr rfl (fun t ht hW => ⟨⟨1, (I, J), rfl, Option.some.inj hm, ht ▸ hP, va_K.moved hW.alike hK, hD⟩, hS.F ht⟩) hS.2.2 dR_isThere_50 hlk
        · have hm := brn hm c8
          exact hk28 x1 I J hm _ _ _ hP hD hS (lv_sub hl [0, 1] rfl)
set_option maxHeartbeats 4000000 in
theorem gw_R_isThere {p : Program} {l : Launch} {e : Env} {s : State} {m : MethodId} {args : Array Value} {below : List Frame} {meth : Method} {c : Code} {D : va_G} {A : Nat → Prop} {ad : Nat → Nat} {cI cJ cG : ClassId} {res : Int32 × SI × SJ} (X : Cx p s m args meth c bR_isThere (some .boolean) 2 RR) (hK : va_K D vwCl (tysR cI cJ cG) s) (hN : NWs s) (hA : ∀ q, s.heap.size ≤ q → A q) : ∀ n : Nat, (∀ (x1 : Int32) (I : SI) (J : SJ), (g_R_isThere n) x1 I J = some res → WB p l e (headSpec (Cond.code yR_isThere bR_isThere 2 (some .boolean) :: gtb) rm_R_isThere).room s m args below meth c (MQ below (va_Qi (fun (r : Int32) (u : SI × SJ) => (r, u) = res) (atW D vwCl (tysR cI cJ cG) A (wsR ad cI cJ cG)) A) args s 0 0 A) D vwCl A 2 (wsR ad cI cJ cG I J) 28 [(0, .ref (ad 0)), (1, .int x1)] []) := by
  intro n
  induction n with
  | zero => exact fun _ _ _ h => (by cases h)
  | succ n ih =>
    have ih28 := ih
    exact fun x1 I J h => w_R_isThere_28 X hK hN hA  x1 I J h
set_option maxHeartbeats 4000000 in
set_option maxRecDepth 100000 in
theorem c_R_isThere (l : Launch) (D : va_G) (ad : Nat → Nat) (cI cJ cG : ClassId) (sz : Nat) (x1 : Int32) (I : SI) (J : SJ) (res : Int32 × SI × SJ) (hm : m_R_isThere x1 I J = some res) : Met l yR_isThere (Cond.code yR_isThere bR_isThere 2 (some .boolean) :: gtb) rm_R_isThere (va_Pc [.ref (ad 0), .int x1] (preW D vwCl (tysR cI cJ cG) (wsR ad cI cJ cG I J) sz)) (va_Qi (fun (r : Int32) (u : SI × SJ) => (r, u) = res) (atW D vwCl (tysR cI cJ cG) (va_A (wsR ad cI cJ cG I J) sz) (wsR ad cI cJ cG)) (va_A (wsR ad cI cJ cG I J) sz)) 0 0 (va_A (wsR ad cI cJ cG I J) sz) := by
  refine Met.ofW (cc := bR_isThere) (maxL := 2) (ret := (some .boolean)) (by decide) rfl ?_
  intro p e s m args below meth c s₁ B hml hv
  obtain ⟨rfl, hsz, hP, hK, hD0, hN⟩ := hv
  subst hsz
  have X : Cx p s m [.ref (ad 0), .int x1].toArray meth c bR_isThere (some .boolean) 2 RR := ⟨B.exec, B.bytes, B.returns, hml, findClass_of_methodNamed B.named, fun w h => atoms_spec (ws := (Cond.code yR_isThere bR_isThere 2 (some .boolean) :: gtb)) B.pre w (List.mem_cons_of_mem _ h), B.notSynchronized⟩
  have hl := lv_entry ([.ref (ad 0), .int x1]) (n := 2) (Nat.le_of_ble_eq_true rfl)
  rw [lg_entry_eq]
  generalize (lg_sl ([.ref (ad 0), .int x1]) ++ List.replicate (2 - (lg_sl ([.ref (ad 0), .int x1])).length) Slot.unset).toArray = ls at hl ⊢
  have hl : lv_has ls 2 [(0, .ref (ad 0)), (1, .int x1)] := hl
  have hA : ∀ q, s.heap.size ≤ q → va_A (wsR ad cI cJ cG I J) s.heap.size q := fun q h => Or.inr h
  exact w_R_isThere_0 X hK hN hA (gw_R_isThere X hK hN hA fuel) x1 I J hm _ _ _ hP hD0.self va_S.rf hl
def b_R_factor_0 (x1 : Int32) (x2 : Int32) (I : SI) (J : SJ) : Option (Int64 × SI × SJ) :=
  if x1 < 18 then
    if x1 < 12 then
      nm (x1 - x1 / 4 * 4) fun v3 =>
      if v3 = x2 then
        if 4 ≤ x1 then
          some (10, I, J)
        else
          some (1, I, J)
      else
        some (0, I, J)
    else
      nm (x1 - 12) fun v6 =>
      nm (v6 - v6 / 3 * 3) fun v7 =>
      nm (4 * v7) fun v8 =>
      nm (v8 + x2) fun v9 =>
      gd (vin v9 12) <|
      nm (I 3 v9.toNatClampNeg) fun v11 =>
      nm (Int32.toInt64 v11) fun v12 =>
      some (v12, I, J)
  else
    nm (x1 - 18) fun v13 =>
    if v13 = x2 then
      some (1, I, J)
    else
      some (0, I, J)
def m_R_factor (x1 : Int32) (x2 : Int32) (I : SI) (J : SJ) : Option (Int64 × SI × SJ) := b_R_factor_0 x1 x2 I J
def rm_R_factor : Room := { frames := 0, cells := 0, slots := 0, locals := 0 }
set_option maxHeartbeats 4000000 in
set_option maxRecDepth 100000 in
theorem w_R_factor_0 {p : Program} {l : Launch} {e : Env} {s : State} {m : MethodId} {args : Array Value} {below : List Frame} {meth : Method} {c : Code} {D : va_G} {A : Nat → Prop} {ad : Nat → Nat} {cI cJ cG : ClassId} {res : Int64 × SI × SJ} (X : Cx p s m args meth c bR_factor (some .long) 3 RR) (hK : va_K D vwCl (tysR cI cJ cG) s) (hN : NWs s) (hA : ∀ q, s.heap.size ≤ q → A q)
     (x1 : Int32) (x2 : Int32) (I : SI) (J : SJ) (hm : b_R_factor_0  x1 x2 I J = some res) : WB p l e (headSpec (Cond.code yR_factor bR_factor 3 (some .long) :: gtb) rm_R_factor).room s m args below meth c (MQ below (va_Ql (fun (r : Int64) (u : SI × SJ) => (r, u) = res) (atW D vwCl (tysR cI cJ cG) A (wsR ad cI cJ cG)) A) args s 0 0 A) D vwCl A 3 (wsR ad cI cJ cG I J) 0 [(0, .ref (ad 0)), (1, .int x1), (2, .int x2)] [] := by
  obtain ⟨hx, hb, hr, hml, hown, hT, hlk⟩ := X
  intro H locs ls hP hD hS hl
  unfold b_R_factor_0 at hm
  refine lv_iload_n hx hb dR_factor_0 rfl (lv_at hl 1 rfl) ?_
  refine lv_bipush (v := 18) hx hb dR_factor_1 (by decide) ?_
  refine lv_icmp_lt (tgt := 20) hx hb dR_factor_3 (by decide) (fun c1 => ?_) (fun c1 => ?_)
  · have hm := brp hm c1
    refine lv_iload_n hx hb dR_factor_20 rfl (lv_at hl 1 rfl) ?_
    refine lv_bipush (v := 12) hx hb dR_factor_21 (by decide) ?_
    refine lv_icmp_lt (tgt := 43) hx hb dR_factor_23 (by decide) (fun c2 => ?_) (fun c2 => ?_)
    · have hm := brp hm c2
      refine lv_iload_n hx hb dR_factor_43 rfl (lv_at hl 1 rfl) ?_
      refine lv_iconst (v := 4) hx hb dR_factor_44 (by decide) ?_
      refine lv_irem hx hb dR_factor_45 (by decide) ?_
      refine lv_topi (fun v3 ev3 => ?_)
      have hm := nm_to ev3 hm
      refine lv_iload_n hx hb dR_factor_46 rfl (lv_at hl 2 rfl) ?_
      refine lv_icmp_eq (tgt := 54) hx hb dR_factor_47 (by decide) (fun c4 => ?_) (fun c4 => ?_)
      · have hm := brp hm c4
        refine lv_iload_n hx hb dR_factor_54 rfl (lv_at hl 1 rfl) ?_
        refine lv_iconst (v := 4) hx hb dR_factor_55 (by decide) ?_
        refine lv_icmp_ge (tgt := 63) hx hb dR_factor_56 (by decide) (fun c5 => ?_) (fun c5 => ?_)
        · have hm := brp hm c5
          refine lv_ldc2 (v := 10) hx hb hown (hT _ wd_705) dR_factor_63 ?_
          exact W.lret hx hb hr (fun t ht hW => ⟨⟨10, (I, J), rfl, Option.some.inj hm, ht ▸ hP, va_K.moved hW.alike hK, hD⟩, hS.F ht⟩) hS.2.2 dR_factor_66 hlk
        · have hm := brn hm c5
          refine lv_lconst (v := 1) hx hb dR_factor_59 (by decide) ?_
          refine lv_goto (tgt := 66) hx hb dR_factor_60 (by decide) ?_
          exact W.lret hx hb hr (fun t ht hW => ⟨⟨1, (I, J), rfl, Option.some.inj hm, ht ▸ hP, va_K.moved hW.alike hK, hD⟩, hS.F ht⟩) hS.2.2 dR_factor_66 hlk
      · have hm := brn hm c4
        refine lv_lconst (v := 0) hx hb dR_factor_50 (by decide) ?_
        refine lv_goto (tgt := 66) hx hb dR_factor_51 (by decide) ?_
        exact W.lret hx hb hr (fun t ht hW => ⟨⟨0, (I, J), rfl, Option.some.inj hm, ht ▸ hP, va_K.moved hW.alike hK, hD⟩, hS.F ht⟩) hS.2.2 dR_factor_66 hlk
    · have hm := brn hm c2
      refine lv_aload_n hx hb dR_factor_26 rfl (lv_at hl 0 rfl) ?_
      refine va_get (D := D) (ci := 6) (v := .ref (ad 3)) (C := RR) (T := TR) (N := 31) hx hb hT inR hown hK hP 0 rfl rfl 3 (by decide) (hT _ wd_538) (fun _ h9 => h9) rfl dR_factor_27 ?_
      refine lv_iconst (v := 4) hx hb dR_factor_30 (by decide) ?_
      refine lv_iload_n hx hb dR_factor_31 rfl (lv_at hl 1 rfl) ?_
      refine lv_bipush (v := 12) hx hb dR_factor_32 (by decide) ?_
      refine lv_isub hx hb dR_factor_34 ?_
      refine lv_topi (fun v6 ev6 => ?_)
      have hm := nm_to ev6 hm
      refine lv_iconst (v := 3) hx hb dR_factor_35 (by decide) ?_
      refine lv_irem hx hb dR_factor_36 (by decide) ?_
      refine lv_topi (fun v7 ev7 => ?_)
      have hm := nm_to ev7 hm
      refine lv_imul hx hb dR_factor_37 ?_
      refine lv_topi (fun v8 ev8 => ?_)
      have hm := nm_to ev8 hm
      refine lv_iload_n hx hb dR_factor_38 rfl (lv_at hl 2 rfl) ?_
      refine lv_iadd hx hb dR_factor_39 ?_
      refine lv_topi (fun v9 ev9 => ?_)
      have hm := nm_to ev9 hm
      obtain ⟨g10, hm⟩ := gd_to hm
      refine va_iald hx hb hK hP 3 0 rfl rfl g10 dR_factor_40 ?_
      refine lv_topi (fun v11 ev11 => ?_)
      have hm := nm_to ev11 hm
      refine lv_i2l hx hb dR_factor_41 rfl ?_
      refine lv_topl (fun v12 ev12 => ?_)
      have hm := nm_to ev12 hm
      exact W.lret hx hb hr (fun t ht hW => ⟨⟨v12, (I, J), rfl, Option.some.inj hm, ht ▸ hP, va_K.moved hW.alike hK, hD⟩, hS.F ht⟩) hS.2.2 dR_factor_42 hlk
  · have hm := brn hm c1
    refine lv_iload_n hx hb dR_factor_6 rfl (lv_at hl 1 rfl) ?_
    refine lv_bipush (v := 18) hx hb dR_factor_7 (by decide) ?_
    refine lv_isub hx hb dR_factor_9 ?_
    refine lv_topi (fun v13 ev13 => ?_)
    have hm := nm_to ev13 hm
    refine lv_iload_n hx hb dR_factor_10 rfl (lv_at hl 2 rfl) ?_
    refine lv_icmp_ne (tgt := 18) hx hb dR_factor_11 (by decide) (fun c14 => ?_) (fun c14 => ?_)
    · have hm := brn hm c14
      refine lv_lconst (v := 0) hx hb dR_factor_18 (by decide) ?_
      exact W.lret hx hb hr (fun t ht hW => ⟨⟨0, (I, J), rfl, Option.some.inj hm, ht ▸ hP, va_K.moved hW.alike hK, hD⟩, hS.F ht⟩) hS.2.2 dR_factor_19 hlk
    · have hm := brp hm c14
      refine lv_lconst (v := 1) hx hb dR_factor_14 (by decide) ?_
      refine lv_goto (tgt := 19) hx hb dR_factor_15 (by decide) ?_
      exact W.lret hx hb hr (fun t ht hW => ⟨⟨1, (I, J), rfl, Option.some.inj hm, ht ▸ hP, va_K.moved hW.alike hK, hD⟩, hS.F ht⟩) hS.2.2 dR_factor_19 hlk
set_option maxHeartbeats 4000000 in
set_option maxRecDepth 100000 in
theorem c_R_factor (l : Launch) (D : va_G) (ad : Nat → Nat) (cI cJ cG : ClassId) (sz : Nat) (x1 : Int32) (x2 : Int32) (I : SI) (J : SJ) (res : Int64 × SI × SJ) (hm : m_R_factor x1 x2 I J = some res) : Met l yR_factor (Cond.code yR_factor bR_factor 3 (some .long) :: gtb) rm_R_factor (va_Pc [.ref (ad 0), .int x1, .int x2] (preW D vwCl (tysR cI cJ cG) (wsR ad cI cJ cG I J) sz)) (va_Ql (fun (r : Int64) (u : SI × SJ) => (r, u) = res) (atW D vwCl (tysR cI cJ cG) (va_A (wsR ad cI cJ cG I J) sz) (wsR ad cI cJ cG)) (va_A (wsR ad cI cJ cG I J) sz)) 0 0 (va_A (wsR ad cI cJ cG I J) sz) := by
  refine Met.ofW (cc := bR_factor) (maxL := 3) (ret := (some .long)) (by decide) rfl ?_
  intro p e s m args below meth c s₁ B hml hv
  obtain ⟨rfl, hsz, hP, hK, hD0, hN⟩ := hv
  subst hsz
  have X : Cx p s m [.ref (ad 0), .int x1, .int x2].toArray meth c bR_factor (some .long) 3 RR := ⟨B.exec, B.bytes, B.returns, hml, findClass_of_methodNamed B.named, fun w h => atoms_spec (ws := (Cond.code yR_factor bR_factor 3 (some .long) :: gtb)) B.pre w (List.mem_cons_of_mem _ h), B.notSynchronized⟩
  have hl := lv_entry ([.ref (ad 0), .int x1, .int x2]) (n := 3) (Nat.le_of_ble_eq_true rfl)
  rw [lg_entry_eq]
  generalize (lg_sl ([.ref (ad 0), .int x1, .int x2]) ++ List.replicate (3 - (lg_sl ([.ref (ad 0), .int x1, .int x2])).length) Slot.unset).toArray = ls at hl ⊢
  have hl : lv_has ls 3 [(0, .ref (ad 0)), (1, .int x1), (2, .int x2)] := hl
  have hA : ∀ q, s.heap.size ≤ q → va_A (wsR ad cI cJ cG I J) s.heap.size q := fun q h => Or.inr h
  exact w_R_factor_0 X hK hN hA  x1 x2 I J hm _ _ _ hP hD0.self va_S.rf hl
def b_R_right_0 (x1 : Int32) (x2 : Int32) (I : SI) (J : SJ) : Option (Int64 × SI × SJ) :=
  if x1 < 18 then
    if x1 < 12 then
      if 4 ≤ x1 then
        nm (Int32.toInt64 x2) fun v4 =>
        if 8 ≤ x1 then
          nm (x1 - 8) fun v6 =>
          gd (vin v6 4) <|
          nm (I 5 v6.toNatClampNeg) fun v8 =>
          nm (Int32.toInt64 v8) fun v9 =>
          nm (v4 * v9) fun v10 =>
          some (v10, I, J)
        else
          nm (x1 - 4) fun v11 =>
          gd (vin v11 4) <|
          nm (I 4 v11.toNatClampNeg) fun v13 =>
          nm (Int32.toInt64 v13) fun v14 =>
          nm (v4 * v14) fun v15 =>
          some (v15, I, J)
      else
        gd (vin x1 4) <|
        nm (I 2 x1.toNatClampNeg) fun v17 =>
        nm (Int32.toInt64 v17) fun v18 =>
        some (v18, I, J)
    else
      nm (Int32.toInt64 x2) fun v19 =>
      if 15 ≤ x1 then
        nm (x1 - 15) fun v21 =>
        gd (vin v21 3) <|
        nm (I 8 v21.toNatClampNeg) fun v23 =>
        nm (Int32.toInt64 v23) fun v24 =>
        nm (v19 * v24) fun v25 =>
        some (v25, I, J)
      else
        nm (x1 - 12) fun v26 =>
        gd (vin v26 3) <|
        nm (I 7 v26.toNatClampNeg) fun v28 =>
        nm (Int32.toInt64 v28) fun v29 =>
        nm (v19 * v29) fun v30 =>
        some (v30, I, J)
  else
    some (0, I, J)
def m_R_right (x1 : Int32) (x2 : Int32) (I : SI) (J : SJ) : Option (Int64 × SI × SJ) := b_R_right_0 x1 x2 I J
def rm_R_right : Room := { frames := 0, cells := 0, slots := 0, locals := 0 }
set_option maxHeartbeats 4000000 in
set_option maxRecDepth 100000 in
theorem w_R_right_0 {p : Program} {l : Launch} {e : Env} {s : State} {m : MethodId} {args : Array Value} {below : List Frame} {meth : Method} {c : Code} {D : va_G} {A : Nat → Prop} {ad : Nat → Nat} {cI cJ cG : ClassId} {res : Int64 × SI × SJ} (X : Cx p s m args meth c bR_right (some .long) 3 RR) (hK : va_K D vwCl (tysR cI cJ cG) s) (hN : NWs s) (hA : ∀ q, s.heap.size ≤ q → A q)
     (x1 : Int32) (x2 : Int32) (I : SI) (J : SJ) (hm : b_R_right_0  x1 x2 I J = some res) : WB p l e (headSpec (Cond.code yR_right bR_right 3 (some .long) :: gtb) rm_R_right).room s m args below meth c (MQ below (va_Ql (fun (r : Int64) (u : SI × SJ) => (r, u) = res) (atW D vwCl (tysR cI cJ cG) A (wsR ad cI cJ cG)) A) args s 0 0 A) D vwCl A 3 (wsR ad cI cJ cG I J) 0 [(0, .ref (ad 0)), (1, .int x1), (2, .int x2)] [] := by
  obtain ⟨hx, hb, hr, hml, hown, hT, hlk⟩ := X
  intro H locs ls hP hD hS hl
  unfold b_R_right_0 at hm
  refine lv_iload_n hx hb dR_right_0 rfl (lv_at hl 1 rfl) ?_
  refine lv_bipush (v := 18) hx hb dR_right_1 (by decide) ?_
  refine lv_icmp_lt (tgt := 8) hx hb dR_right_3 (by decide) (fun c1 => ?_) (fun c1 => ?_)
  · have hm := brp hm c1
    refine lv_iload_n hx hb dR_right_8 rfl (lv_at hl 1 rfl) ?_
    refine lv_bipush (v := 12) hx hb dR_right_9 (by decide) ?_
    refine lv_icmp_lt (tgt := 46) hx hb dR_right_11 (by decide) (fun c2 => ?_) (fun c2 => ?_)
    · have hm := brp hm c2
      refine lv_iload_n hx hb dR_right_46 rfl (lv_at hl 1 rfl) ?_
      refine lv_iconst (v := 4) hx hb dR_right_47 (by decide) ?_
      refine lv_icmp_ge (tgt := 61) hx hb dR_right_48 (by decide) (fun c3 => ?_) (fun c3 => ?_)
      · have hm := brp hm c3
        refine lv_iload_n hx hb dR_right_61 rfl (lv_at hl 2 rfl) ?_
        refine lv_i2l hx hb dR_right_62 rfl ?_
        refine lv_topl (fun v4 ev4 => ?_)
        have hm := nm_to ev4 hm
        refine lv_iload_n hx hb dR_right_63 rfl (lv_at hl 1 rfl) ?_
        refine lv_bipush (v := 8) hx hb dR_right_64 (by decide) ?_
        refine lv_icmp_ge (tgt := 80) hx hb dR_right_66 (by decide) (fun c5 => ?_) (fun c5 => ?_)
        · have hm := brp hm c5
          refine lv_aload_n hx hb dR_right_80 rfl (lv_at hl 0 rfl) ?_
          refine va_get (D := D) (ci := 6) (v := .ref (ad 5)) (C := RR) (T := TR) (N := 31) hx hb hT inR hown hK hP 0 rfl rfl 5 (by decide) (hT _ wd_540) (fun _ h9 => h9) rfl dR_right_81 ?_
          refine lv_iload_n hx hb dR_right_84 rfl (lv_at hl 1 rfl) ?_
          refine lv_bipush (v := 8) hx hb dR_right_85 (by decide) ?_
          refine lv_isub hx hb dR_right_87 ?_
          refine lv_topi (fun v6 ev6 => ?_)
          have hm := nm_to ev6 hm
          obtain ⟨g7, hm⟩ := gd_to hm
          refine va_iald hx hb hK hP 5 0 rfl rfl g7 dR_right_88 ?_
          refine lv_topi (fun v8 ev8 => ?_)
          have hm := nm_to ev8 hm
          refine lv_i2l hx hb dR_right_89 rfl ?_
          refine lv_topl (fun v9 ev9 => ?_)
          have hm := nm_to ev9 hm
          refine lv_lmul hx hb dR_right_90 ?_
          refine lv_topl (fun v10 ev10 => ?_)
          have hm := nm_to ev10 hm
          exact W.lret hx hb hr (fun t ht hW => ⟨⟨v10, (I, J), rfl, Option.some.inj hm, ht ▸ hP, va_K.moved hW.alike hK, hD⟩, hS.F ht⟩) hS.2.2 dR_right_91 hlk
        · have hm := brn hm c5
          refine lv_aload_n hx hb dR_right_69 rfl (lv_at hl 0 rfl) ?_
          refine va_get (D := D) (ci := 6) (v := .ref (ad 4)) (C := RR) (T := TR) (N := 31) hx hb hT inR hown hK hP 0 rfl rfl 4 (by decide) (hT _ wd_539) (fun _ h9 => h9) rfl dR_right_70 ?_
          refine lv_iload_n hx hb dR_right_73 rfl (lv_at hl 1 rfl) ?_
          refine lv_iconst (v := 4) hx hb dR_right_74 (by decide) ?_
          refine lv_isub hx hb dR_right_75 ?_
          refine lv_topi (fun v11 ev11 => ?_)
          have hm := nm_to ev11 hm
          obtain ⟨g12, hm⟩ := gd_to hm
          refine va_iald hx hb hK hP 4 0 rfl rfl g12 dR_right_76 ?_
          refine lv_topi (fun v13 ev13 => ?_)
          have hm := nm_to ev13 hm
          refine lv_goto (tgt := 89) hx hb dR_right_77 (by decide) ?_
          refine lv_i2l hx hb dR_right_89 rfl ?_
          refine lv_topl (fun v14 ev14 => ?_)
          have hm := nm_to ev14 hm
          refine lv_lmul hx hb dR_right_90 ?_
          refine lv_topl (fun v15 ev15 => ?_)
          have hm := nm_to ev15 hm
          exact W.lret hx hb hr (fun t ht hW => ⟨⟨v15, (I, J), rfl, Option.some.inj hm, ht ▸ hP, va_K.moved hW.alike hK, hD⟩, hS.F ht⟩) hS.2.2 dR_right_91 hlk
      · have hm := brn hm c3
        refine lv_aload_n hx hb dR_right_51 rfl (lv_at hl 0 rfl) ?_
        refine va_get (D := D) (ci := 6) (v := .ref (ad 2)) (C := RR) (T := TR) (N := 31) hx hb hT inR hown hK hP 0 rfl rfl 2 (by decide) (hT _ wd_537) (fun _ h9 => h9) rfl dR_right_52 ?_
        refine lv_iload_n hx hb dR_right_55 rfl (lv_at hl 1 rfl) ?_
        obtain ⟨g16, hm⟩ := gd_to hm
        refine va_iald hx hb hK hP 2 0 rfl rfl g16 dR_right_56 ?_
        refine lv_topi (fun v17 ev17 => ?_)
        have hm := nm_to ev17 hm
        refine lv_i2l hx hb dR_right_57 rfl ?_
        refine lv_topl (fun v18 ev18 => ?_)
        have hm := nm_to ev18 hm
        refine lv_goto (tgt := 91) hx hb dR_right_58 (by decide) ?_
        exact W.lret hx hb hr (fun t ht hW => ⟨⟨v18, (I, J), rfl, Option.some.inj hm, ht ▸ hP, va_K.moved hW.alike hK, hD⟩, hS.F ht⟩) hS.2.2 dR_right_91 hlk
    · have hm := brn hm c2
      refine lv_iload_n hx hb dR_right_14 rfl (lv_at hl 2 rfl) ?_
      refine lv_i2l hx hb dR_right_15 rfl ?_
      refine lv_topl (fun v19 ev19 => ?_)
      have hm := nm_to ev19 hm
      refine lv_iload_n hx hb dR_right_16 rfl (lv_at hl 1 rfl) ?_
      refine lv_bipush (v := 15) hx hb dR_right_17 (by decide) ?_
      refine lv_icmp_ge (tgt := 34) hx hb dR_right_19 (by decide) (fun c20 => ?_) (fun c20 => ?_)
      · have hm := brp hm c20
        refine lv_aload_n hx hb dR_right_34 rfl (lv_at hl 0 rfl) ?_
        refine va_get (D := D) (ci := 6) (v := .ref (ad 8)) (C := RR) (T := TR) (N := 31) hx hb hT inR hown hK hP 0 rfl rfl 8 (by decide) (hT _ wd_543) (fun _ h9 => h9) rfl dR_right_35 ?_
        refine lv_iload_n hx hb dR_right_38 rfl (lv_at hl 1 rfl) ?_
        refine lv_bipush (v := 15) hx hb dR_right_39 (by decide) ?_
        refine lv_isub hx hb dR_right_41 ?_
        refine lv_topi (fun v21 ev21 => ?_)
        have hm := nm_to ev21 hm
        obtain ⟨g22, hm⟩ := gd_to hm
        refine va_iald hx hb hK hP 8 0 rfl rfl g22 dR_right_42 ?_
        refine lv_topi (fun v23 ev23 => ?_)
        have hm := nm_to ev23 hm
        refine lv_i2l hx hb dR_right_43 rfl ?_
        refine lv_topl (fun v24 ev24 => ?_)
        have hm := nm_to ev24 hm
        refine lv_lmul hx hb dR_right_44 ?_
        refine lv_topl (fun v25 ev25 => ?_)
        have hm := nm_to ev25 hm
        exact W.lret hx hb hr (fun t ht hW => ⟨⟨v25, (I, J), rfl, Option.some.inj hm, ht ▸ hP, va_K.moved hW.alike hK, hD⟩, hS.F ht⟩) hS.2.2 dR_right_45 hlk
      · have hm := brn hm c20
        refine lv_aload_n hx hb dR_right_22 rfl (lv_at hl 0 rfl) ?_
        refine va_get (D := D) (ci := 6) (v := .ref (ad 7)) (C := RR) (T := TR) (N := 31) hx hb hT inR hown hK hP 0 rfl rfl 7 (by decide) (hT _ wd_542) (fun _ h9 => h9) rfl dR_right_23 ?_
        refine lv_iload_n hx hb dR_right_26 rfl (lv_at hl 1 rfl) ?_
        refine lv_bipush (v := 12) hx hb dR_right_27 (by decide) ?_
        refine lv_isub hx hb dR_right_29 ?_
        refine lv_topi (fun v26 ev26 => ?_)
        have hm := nm_to ev26 hm
        obtain ⟨g27, hm⟩ := gd_to hm
        refine va_iald hx hb hK hP 7 0 rfl rfl g27 dR_right_30 ?_
        refine lv_topi (fun v28 ev28 => ?_)
        have hm := nm_to ev28 hm
        refine lv_goto (tgt := 43) hx hb dR_right_31 (by decide) ?_
        refine lv_i2l hx hb dR_right_43 rfl ?_
        refine lv_topl (fun v29 ev29 => ?_)
        have hm := nm_to ev29 hm
        refine lv_lmul hx hb dR_right_44 ?_
        refine lv_topl (fun v30 ev30 => ?_)
        have hm := nm_to ev30 hm
        exact W.lret hx hb hr (fun t ht hW => ⟨⟨v30, (I, J), rfl, Option.some.inj hm, ht ▸ hP, va_K.moved hW.alike hK, hD⟩, hS.F ht⟩) hS.2.2 dR_right_45 hlk
  · have hm := brn hm c1
    refine lv_lconst (v := 0) hx hb dR_right_6 (by decide) ?_
    exact W.lret hx hb hr (fun t ht hW => ⟨⟨0, (I, J), rfl, Option.some.inj hm, ht ▸ hP, va_K.moved hW.alike hK, hD⟩, hS.F ht⟩) hS.2.2 dR_right_7 hlk
set_option maxHeartbeats 4000000 in
set_option maxRecDepth 100000 in
theorem c_R_right (l : Launch) (D : va_G) (ad : Nat → Nat) (cI cJ cG : ClassId) (sz : Nat) (x1 : Int32) (x2 : Int32) (I : SI) (J : SJ) (res : Int64 × SI × SJ) (hm : m_R_right x1 x2 I J = some res) : Met l yR_right (Cond.code yR_right bR_right 3 (some .long) :: gtb) rm_R_right (va_Pc [.ref (ad 0), .int x1, .int x2] (preW D vwCl (tysR cI cJ cG) (wsR ad cI cJ cG I J) sz)) (va_Ql (fun (r : Int64) (u : SI × SJ) => (r, u) = res) (atW D vwCl (tysR cI cJ cG) (va_A (wsR ad cI cJ cG I J) sz) (wsR ad cI cJ cG)) (va_A (wsR ad cI cJ cG I J) sz)) 0 0 (va_A (wsR ad cI cJ cG I J) sz) := by
  refine Met.ofW (cc := bR_right) (maxL := 3) (ret := (some .long)) (by decide) rfl ?_
  intro p e s m args below meth c s₁ B hml hv
  obtain ⟨rfl, hsz, hP, hK, hD0, hN⟩ := hv
  subst hsz
  have X : Cx p s m [.ref (ad 0), .int x1, .int x2].toArray meth c bR_right (some .long) 3 RR := ⟨B.exec, B.bytes, B.returns, hml, findClass_of_methodNamed B.named, fun w h => atoms_spec (ws := (Cond.code yR_right bR_right 3 (some .long) :: gtb)) B.pre w (List.mem_cons_of_mem _ h), B.notSynchronized⟩
  have hl := lv_entry ([.ref (ad 0), .int x1, .int x2]) (n := 3) (Nat.le_of_ble_eq_true rfl)
  rw [lg_entry_eq]
  generalize (lg_sl ([.ref (ad 0), .int x1, .int x2]) ++ List.replicate (3 - (lg_sl ([.ref (ad 0), .int x1, .int x2])).length) Slot.unset).toArray = ls at hl ⊢
  have hl : lv_has ls 3 [(0, .ref (ad 0)), (1, .int x1), (2, .int x2)] := hl
  have hA : ∀ q, s.heap.size ≤ q → va_A (wsR ad cI cJ cG I J) s.heap.size q := fun q h => Or.inr h
  exact w_R_right_0 X hK hN hA  x1 x2 I J hm _ _ _ hP hD0.self va_S.rf hl
def b_R_stuff_0 (x1 : Int32) (x2 : Int32) (I : SI) (J : SJ) : Option (Int32 × SI × SJ) :=
  if (I 0 0) = 4 then
    some (-1, I, J)
  else
    cl1 (m_R_in x1 0 1000) fun r2 =>
    if r2 = 0 then
      some (-1, I, J)
    else
      cl1 (m_R_in x2 0 40) fun r5 =>
      if r5 = 0 then
        some (-1, I, J)
      else
        gd (vin (I 0 0) 4) <|
        nm (va_up I 1 (upd (I 1) (I 0 0).toNatClampNeg x1)) fun I9 =>
        gd (vin (I9 0 0) 4) <|
        nm (va_up I9 2 (upd (I9 2) (I9 0 0).toNatClampNeg x2)) fun I11 =>
        gd (vin (I11 0 0) 4) <|
        nm (va_up I11 5 (upd (I11 5) (I11 0 0).toNatClampNeg 10)) fun I13 =>
        nm ((I13 0 0) + 1) fun v14 =>
        nm (va_up I13 0 (upd (I13 0) 0 v14)) fun I15 =>
        nm ((I15 0 0) - 1) fun v16 =>
        some (v16, I15, J)
def m_R_stuff (x1 : Int32) (x2 : Int32) (I : SI) (J : SJ) : Option (Int32 × SI × SJ) := b_R_stuff_0 x1 x2 I J
def rm_R_stuff : Room := { frames := 1, cells := 0, slots := 0, locals := 22 }
set_option maxHeartbeats 4000000 in
set_option maxRecDepth 100000 in
theorem w_R_stuff_0 {p : Program} {l : Launch} {e : Env} {s : State} {m : MethodId} {args : Array Value} {below : List Frame} {meth : Method} {c : Code} {D : va_G} {A : Nat → Prop} {ad : Nat → Nat} {cI cJ cG : ClassId} {res : Int32 × SI × SJ} (X : Cx p s m args meth c bR_stuff (some .int) 3 RR) (hK : va_K D vwCl (tysR cI cJ cG) s) (hN : NWs s) (hA : ∀ q, s.heap.size ≤ q → A q)
     (x1 : Int32) (x2 : Int32) (I : SI) (J : SJ) (hm : b_R_stuff_0  x1 x2 I J = some res) : WB p l e (headSpec (Cond.code yR_stuff bR_stuff 3 (some .int) :: gtb) rm_R_stuff).room s m args below meth c (MQ below (va_Qi (fun (r : Int32) (u : SI × SJ) => (r, u) = res) (atW D vwCl (tysR cI cJ cG) A (wsR ad cI cJ cG)) A) args s 0 0 A) D vwCl A 3 (wsR ad cI cJ cG I J) 0 [(0, .ref (ad 0)), (1, .int x1), (2, .int x2)] [] := by
  obtain ⟨hx, hb, hr, hml, hown, hT, hlk⟩ := X
  intro H locs ls hP hD hS hl
  unfold b_R_stuff_0 at hm
  refine lv_aload_n hx hb dR_stuff_0 rfl (lv_at hl 0 rfl) ?_
  refine va_get (D := D) (ci := 6) (v := .int (I 0 0)) (C := RR) (T := TR) (N := 31) hx hb hT inR hown hK hP 0 rfl rfl 0 (by decide) (hT _ wd_535) (fun _ h9 => h9) rfl dR_stuff_1 ?_
  refine lv_iconst (v := 4) hx hb dR_stuff_4 (by decide) ?_
  refine lv_icmp_eq (tgt := 29) hx hb dR_stuff_5 (by decide) (fun c1 => ?_) (fun c1 => ?_)
  · have hm := brp hm c1
    refine lv_iconst (v := (-1)) hx hb dR_stuff_29 (by decide) ?_
    exact W.iret hx hb hr (fun t ht hW => ⟨⟨-1, (I, J), rfl, Option.some.inj hm, ht ▸ hP, va_K.moved hW.alike hK, hD⟩, hS.F ht⟩) hS.2.2 dR_stuff_30 hlk
  · have hm := brn hm c1
    refine lv_iload_n hx hb dR_stuff_8 rfl (lv_at hl 1 rfl) ?_
    refine lv_iconst (v := 0) hx hb dR_stuff_9 (by decide) ?_
    refine lv_sipush (v := 1000) hx hb dR_stuff_10 (by decide) ?_
    obtain ⟨r2, hc3, hm⟩ := cl1_to hm
    refine pstZ_i hS (va_runS (As := [.int x1, .int 0, .int 1000]) (rest := []) ⟨hx, hb, hml, hown, hT⟩ (c_R_in l x1 0 1000 _ hc3) (va_cwS 3 hT (gS wd_634 wd_635 wd_57 wd_636) rfl rfl rfl (by decide +kernel) ⟨Nat.le_of_ble_eq_true rfl, Nat.le_of_ble_eq_true rfl⟩) ⟨preZ_fb, preZ_at⟩ rfl rfl hl.1 rfl (lv_room (Nat.le_of_ble_eq_true rfl)) dR_stuff_13 ⟨Nat.zero_le _, Nat.zero_le _⟩) (fun H1 locs hq hS => ?_)
    have hP := keptP hP hq
    refine lv_if_eq (tgt := 29) hx hb dR_stuff_16 (by decide) (fun c4 => ?_) (fun c4 => ?_)
    · have hm := brp hm c4
      refine lv_iconst (v := (-1)) hx hb dR_stuff_29 (by decide) ?_
      exact W.iret hx hb hr (fun t ht hW => ⟨⟨-1, (I, J), rfl, Option.some.inj hm, ht ▸ hP, va_K.moved hW.alike hK, hD⟩, hS.F ht⟩) hS.2.2 dR_stuff_30 hlk
    · have hm := brn hm c4
      refine lv_iload_n hx hb dR_stuff_19 rfl (lv_at hl 2 rfl) ?_
      refine lv_iconst (v := 0) hx hb dR_stuff_20 (by decide) ?_
      refine lv_bipush (v := 40) hx hb dR_stuff_21 (by decide) ?_
      obtain ⟨r5, hc6, hm⟩ := cl1_to hm
      refine pstZ_i hS (va_runS (As := [.int x2, .int 0, .int 40]) (rest := []) ⟨hx, hb, hml, hown, hT⟩ (c_R_in l x2 0 40 _ hc6) (va_cwS 3 hT (gS wd_634 wd_635 wd_57 wd_636) rfl rfl rfl (by decide +kernel) ⟨Nat.le_of_ble_eq_true rfl, Nat.le_of_ble_eq_true rfl⟩) ⟨preZ_fb, preZ_at⟩ rfl rfl hl.1 rfl (lv_room (Nat.le_of_ble_eq_true rfl)) dR_stuff_23 ⟨Nat.zero_le _, Nat.zero_le _⟩) (fun H1 locs hq hS => ?_)
      have hP := keptP hP hq
      refine lv_if_ne (tgt := 31) hx hb dR_stuff_26 (by decide) (fun c7 => ?_) (fun c7 => ?_)
      · have hm := brn hm c7
        refine lv_aload_n hx hb dR_stuff_31 rfl (lv_at hl 0 rfl) ?_
        refine va_get (D := D) (ci := 6) (v := .ref (ad 1)) (C := RR) (T := TR) (N := 31) hx hb hT inR hown hK hP 0 rfl rfl 1 (by decide) (hT _ wd_536) (fun _ h9 => h9) rfl dR_stuff_32 ?_
        refine lv_aload_n hx hb dR_stuff_35 rfl (lv_at hl 0 rfl) ?_
        refine va_get (D := D) (ci := 6) (v := .int (I 0 0)) (C := RR) (T := TR) (N := 31) hx hb hT inR hown hK hP 0 rfl rfl 0 (by decide) (hT _ wd_535) (fun _ h9 => h9) rfl dR_stuff_36 ?_
        refine lv_iload_n hx hb dR_stuff_39 rfl (lv_at hl 1 rfl) ?_
        obtain ⟨g8, hm⟩ := gd_to hm
        refine va_iast hx hb hK hP hD hS 1 0 rfl rfl g8 dR_stuff_40 (fun H locs hP hD hS => ?_)
        obtain ⟨I9, eI9⟩ : ∃ z : SI, z = va_up I 1 (upd (I 1) (I 0 0).toNatClampNeg x1) := ⟨_, rfl⟩
        have hm := nm_to eI9 hm
        have hP := P_eq (ws2 := wsR ad cI cJ cG I9 J) hP (by rw [eI9]; rfl)
        have hD := D_eq (ws2 := wsR ad cI cJ cG I9 J) hD (by rw [eI9]; rfl)
        refine lv_aload_n hx hb dR_stuff_41 rfl (lv_at hl 0 rfl) ?_
        refine va_get (D := D) (ci := 6) (v := .ref (ad 2)) (C := RR) (T := TR) (N := 31) hx hb hT inR hown hK hP 0 rfl rfl 2 (by decide) (hT _ wd_537) (fun _ h9 => h9) rfl dR_stuff_42 ?_
        refine lv_aload_n hx hb dR_stuff_45 rfl (lv_at hl 0 rfl) ?_
        refine va_get (D := D) (ci := 6) (v := .int (I9 0 0)) (C := RR) (T := TR) (N := 31) hx hb hT inR hown hK hP 0 rfl rfl 0 (by decide) (hT _ wd_535) (fun _ h9 => h9) rfl dR_stuff_46 ?_
        refine lv_iload_n hx hb dR_stuff_49 rfl (lv_at hl 2 rfl) ?_
        obtain ⟨g10, hm⟩ := gd_to hm
        refine va_iast hx hb hK hP hD hS 2 0 rfl rfl g10 dR_stuff_50 (fun H locs hP hD hS => ?_)
        obtain ⟨I11, eI11⟩ : ∃ z : SI, z = va_up I9 2 (upd (I9 2) (I9 0 0).toNatClampNeg x2) := ⟨_, rfl⟩
        have hm := nm_to eI11 hm
        have hP := P_eq (ws2 := wsR ad cI cJ cG I11 J) hP (by rw [eI11]; rfl)
        have hD := D_eq (ws2 := wsR ad cI cJ cG I11 J) hD (by rw [eI11]; rfl)
        refine lv_aload_n hx hb dR_stuff_51 rfl (lv_at hl 0 rfl) ?_
        refine va_get (D := D) (ci := 6) (v := .ref (ad 5)) (C := RR) (T := TR) (N := 31) hx hb hT inR hown hK hP 0 rfl rfl 5 (by decide) (hT _ wd_540) (fun _ h9 => h9) rfl dR_stuff_52 ?_
        refine lv_aload_n hx hb dR_stuff_55 rfl (lv_at hl 0 rfl) ?_
        refine va_get (D := D) (ci := 6) (v := .int (I11 0 0)) (C := RR) (T := TR) (N := 31) hx hb hT inR hown hK hP 0 rfl rfl 0 (by decide) (hT _ wd_535) (fun _ h9 => h9) rfl dR_stuff_56 ?_
        refine lv_bipush (v := 10) hx hb dR_stuff_59 (by decide) ?_
        obtain ⟨g12, hm⟩ := gd_to hm
        refine va_iast hx hb hK hP hD hS 5 0 rfl rfl g12 dR_stuff_61 (fun H locs hP hD hS => ?_)
        obtain ⟨I13, eI13⟩ : ∃ z : SI, z = va_up I11 5 (upd (I11 5) (I11 0 0).toNatClampNeg 10) := ⟨_, rfl⟩
        have hm := nm_to eI13 hm
        have hP := P_eq (ws2 := wsR ad cI cJ cG I13 J) hP (by rw [eI13]; rfl)
        have hD := D_eq (ws2 := wsR ad cI cJ cG I13 J) hD (by rw [eI13]; rfl)
        refine lv_aload_n hx hb dR_stuff_62 rfl (lv_at hl 0 rfl) ?_
        refine lv_dup hx hb dR_stuff_63 rfl ?_
        refine va_get (D := D) (ci := 6) (v := .int (I13 0 0)) (C := RR) (T := TR) (N := 31) hx hb hT inR hown hK hP 0 rfl rfl 0 (by decide) (hT _ wd_535) (fun _ h9 => h9) rfl dR_stuff_64 ?_
        refine lv_iconst (v := 1) hx hb dR_stuff_67 (by decide) ?_
        refine lv_iadd hx hb dR_stuff_68 ?_
        refine lv_topi (fun v14 ev14 => ?_)
        have hm := nm_to ev14 hm
        refine va_put (D := D) (ci := 6) (v := .int v14) (ty := .int) (C := RR) (T := TR) (N := 31) hx hb hT inR tyR okR nmR hown hK hP hD hS 0 rfl rfl 0 (by decide) (hT _ wd_535) (fun _ h9 => h9) rfl pf_I rfl rfl (Nat.le_of_ble_eq_true rfl) dR_stuff_69 (fun H locs hP hD hS => ?_)
        obtain ⟨I15, eI15⟩ : ∃ z : SI, z = va_up I13 0 (upd (I13 0) 0 v14) := ⟨_, rfl⟩
        have hm := nm_to eI15 hm
        have hP := P_eq (ws2 := wsR ad cI cJ cG I15 J) hP (by rw [eI15]; rfl)
        have hD := D_eq (ws2 := wsR ad cI cJ cG I15 J) hD (by rw [eI15]; rfl)
        refine lv_aload_n hx hb dR_stuff_72 rfl (lv_at hl 0 rfl) ?_
        refine va_get (D := D) (ci := 6) (v := .int (I15 0 0)) (C := RR) (T := TR) (N := 31) hx hb hT inR hown hK hP 0 rfl rfl 0 (by decide) (hT _ wd_535) (fun _ h9 => h9) rfl dR_stuff_73 ?_
        refine lv_iconst (v := 1) hx hb dR_stuff_76 (by decide) ?_
        refine lv_isub hx hb dR_stuff_77 ?_
        refine lv_topi (fun v16 ev16 => ?_)
        have hm := nm_to ev16 hm
        exact W.iret hx hb hr (fun t ht hW => ⟨⟨v16, (I15, J), rfl, Option.some.inj hm, ht ▸ hP, va_K.moved hW.alike hK, hD⟩, hS.F ht⟩) hS.2.2 dR_stuff_78 hlk
      · have hm := brp hm c7
        refine lv_iconst (v := (-1)) hx hb dR_stuff_29 (by decide) ?_
        exact W.iret hx hb hr (fun t ht hW => ⟨⟨-1, (I, J), rfl, Option.some.inj hm, ht ▸ hP, va_K.moved hW.alike hK, hD⟩, hS.F ht⟩) hS.2.2 dR_stuff_30 hlk
set_option maxHeartbeats 4000000 in
set_option maxRecDepth 100000 in
theorem c_R_stuff (l : Launch) (D : va_G) (ad : Nat → Nat) (cI cJ cG : ClassId) (sz : Nat) (x1 : Int32) (x2 : Int32) (I : SI) (J : SJ) (res : Int32 × SI × SJ) (hm : m_R_stuff x1 x2 I J = some res) : Met l yR_stuff (Cond.code yR_stuff bR_stuff 3 (some .int) :: gtb) rm_R_stuff (va_Pc [.ref (ad 0), .int x1, .int x2] (preW D vwCl (tysR cI cJ cG) (wsR ad cI cJ cG I J) sz)) (va_Qi (fun (r : Int32) (u : SI × SJ) => (r, u) = res) (atW D vwCl (tysR cI cJ cG) (va_A (wsR ad cI cJ cG I J) sz) (wsR ad cI cJ cG)) (va_A (wsR ad cI cJ cG I J) sz)) 0 0 (va_A (wsR ad cI cJ cG I J) sz) := by
  refine Met.ofW (cc := bR_stuff) (maxL := 3) (ret := (some .int)) (by decide) rfl ?_
  intro p e s m args below meth c s₁ B hml hv
  obtain ⟨rfl, hsz, hP, hK, hD0, hN⟩ := hv
  subst hsz
  have X : Cx p s m [.ref (ad 0), .int x1, .int x2].toArray meth c bR_stuff (some .int) 3 RR := ⟨B.exec, B.bytes, B.returns, hml, findClass_of_methodNamed B.named, fun w h => atoms_spec (ws := (Cond.code yR_stuff bR_stuff 3 (some .int) :: gtb)) B.pre w (List.mem_cons_of_mem _ h), B.notSynchronized⟩
  have hl := lv_entry ([.ref (ad 0), .int x1, .int x2]) (n := 3) (Nat.le_of_ble_eq_true rfl)
  rw [lg_entry_eq]
  generalize (lg_sl ([.ref (ad 0), .int x1, .int x2]) ++ List.replicate (3 - (lg_sl ([.ref (ad 0), .int x1, .int x2])).length) Slot.unset).toArray = ls at hl ⊢
  have hl : lv_has ls 3 [(0, .ref (ad 0)), (1, .int x1), (2, .int x2)] := hl
  have hA : ∀ q, s.heap.size ≤ q → va_A (wsR ad cI cJ cG I J) s.heap.size q := fun q h => Or.inr h
  exact w_R_stuff_0 X hK hN hA  x1 x2 I J hm _ _ _ hP hD0.self va_S.rf hl
def b_R_price_0 (x1 : Int32) (x2 : Int32) (I : SI) (J : SJ) : Option (Int32 × SI × SJ) :=
  cl3 (m_R_isStuff x1 I J) fun r1 I2 J3 =>
  if r1 = 0 then
    some (-1, I2, J3)
  else
    cl1 (m_R_in x2 0 1000) fun r6 =>
    if r6 = 0 then
      some (-1, I2, J3)
    else
      gd (vin x1 4) <|
      nm (I2 1 x1.toNatClampNeg) fun v10 =>
      gd (vin x1 4) <|
      nm (va_up I2 1 (upd (I2 1) x1.toNatClampNeg x2)) fun I12 =>
      some (v10, I12, J3)
def m_R_price (x1 : Int32) (x2 : Int32) (I : SI) (J : SJ) : Option (Int32 × SI × SJ) := b_R_price_0 x1 x2 I J
def rm_R_price : Room := { frames := 1, cells := 0, slots := 0, locals := 22 }
set_option maxHeartbeats 4000000 in
set_option maxRecDepth 100000 in
theorem w_R_price_0 {p : Program} {l : Launch} {e : Env} {s : State} {m : MethodId} {args : Array Value} {below : List Frame} {meth : Method} {c : Code} {D : va_G} {A : Nat → Prop} {ad : Nat → Nat} {cI cJ cG : ClassId} {res : Int32 × SI × SJ} (X : Cx p s m args meth c bR_price (some .int) 4 RR) (hK : va_K D vwCl (tysR cI cJ cG) s) (hN : NWs s) (hA : ∀ q, s.heap.size ≤ q → A q)
     (x1 : Int32) (x2 : Int32) (I : SI) (J : SJ) (hm : b_R_price_0  x1 x2 I J = some res) : WB p l e (headSpec (Cond.code yR_price bR_price 4 (some .int) :: gtb) rm_R_price).room s m args below meth c (MQ below (va_Qi (fun (r : Int32) (u : SI × SJ) => (r, u) = res) (atW D vwCl (tysR cI cJ cG) A (wsR ad cI cJ cG)) A) args s 0 0 A) D vwCl A 4 (wsR ad cI cJ cG I J) 0 [(0, .ref (ad 0)), (1, .int x1), (2, .int x2)] [] := by
  obtain ⟨hx, hb, hr, hml, hown, hT, hlk⟩ := X
  intro H locs ls hP hD hS hl
  unfold b_R_price_0 at hm
  refine lv_aload_n hx hb dR_price_0 rfl (lv_at hl 0 rfl) ?_
  refine lv_iload_n hx hb dR_price_1 rfl (lv_at hl 1 rfl) ?_
  obtain ⟨r1, I2, J3, hc4, hm⟩ := cl3_to hm
  refine pst_i (wf := wsR ad cI cJ cG) hD hS hA (va_runV (As := [.int x1]) (rest := []) ⟨hx, hb, hml, hown, hT⟩ (c_R_isStuff l D ad cI cJ cG _ x1 I J _ hc4) (cwV 1 hT (gV wd_641 wd_643 wd_32 wd_57 wd_644) rfl rfl rfl (by decide +kernel) ⟨Nat.le_of_ble_eq_true rfl, Nat.le_of_ble_eq_true rfl⟩) ⟨preW_fb, va_recv hK hP (ci := 6) (q0 := 0) rfl rfl, preW_at hP hK hN hD⟩ rfl rfl hl.1 rfl (lv_room (Nat.le_of_ble_eq_true rfl)) dR_price_2 ⟨Nat.zero_le _, Nat.zero_le _⟩) (fun H locs hP hD hS => ?_)
  refine lv_if_eq (tgt := 19) hx hb dR_price_5 (by decide) (fun c5 => ?_) (fun c5 => ?_)
  · have hm := brp hm c5
    refine lv_iconst (v := (-1)) hx hb dR_price_19 (by decide) ?_
    exact W.iret hx hb hr (fun t ht hW => ⟨⟨-1, (I2, J3), rfl, Option.some.inj hm, ht ▸ hP, va_K.moved hW.alike hK, hD⟩, hS.F ht⟩) hS.2.2 dR_price_20 hlk
  · have hm := brn hm c5
    refine lv_iload_n hx hb dR_price_8 rfl (lv_at hl 2 rfl) ?_
    refine lv_iconst (v := 0) hx hb dR_price_9 (by decide) ?_
    refine lv_sipush (v := 1000) hx hb dR_price_10 (by decide) ?_
    obtain ⟨r6, hc7, hm⟩ := cl1_to hm
    refine pstZ_i hS (va_runS (As := [.int x2, .int 0, .int 1000]) (rest := []) ⟨hx, hb, hml, hown, hT⟩ (c_R_in l x2 0 1000 _ hc7) (va_cwS 3 hT (gS wd_634 wd_635 wd_57 wd_636) rfl rfl rfl (by decide +kernel) ⟨Nat.le_of_ble_eq_true rfl, Nat.le_of_ble_eq_true rfl⟩) ⟨preZ_fb, preZ_at⟩ rfl rfl hl.1 rfl (lv_room (Nat.le_of_ble_eq_true rfl)) dR_price_13 ⟨Nat.zero_le _, Nat.zero_le _⟩) (fun H1 locs hq hS => ?_)
    have hP := keptP hP hq
    refine lv_if_ne (tgt := 21) hx hb dR_price_16 (by decide) (fun c8 => ?_) (fun c8 => ?_)
    · have hm := brn hm c8
      refine lv_aload_n hx hb dR_price_21 rfl (lv_at hl 0 rfl) ?_
      refine va_get (D := D) (ci := 6) (v := .ref (ad 1)) (C := RR) (T := TR) (N := 31) hx hb hT inR hown hK hP 0 rfl rfl 1 (by decide) (hT _ wd_536) (fun _ h9 => h9) rfl dR_price_22 ?_
      refine lv_iload_n hx hb dR_price_25 rfl (lv_at hl 1 rfl) ?_
      obtain ⟨g9, hm⟩ := gd_to hm
      refine va_iald hx hb hK hP 1 0 rfl rfl g9 dR_price_26 ?_
      refine lv_topi (fun v10 ev10 => ?_)
      have hm := nm_to ev10 hm
      refine lv_istore_n (lv' := [(3, .int v10), (0, .ref (ad 0)), (1, .int x1), (2, .int x2)]) hx hb dR_price_27 rfl hl (by decide) rfl (fun ls hl => ?_)
      refine lv_aload_n hx hb dR_price_28 rfl (lv_at hl 1 rfl) ?_
      refine va_get (D := D) (ci := 6) (v := .ref (ad 1)) (C := RR) (T := TR) (N := 31) hx hb hT inR hown hK hP 0 rfl rfl 1 (by decide) (hT _ wd_536) (fun _ h9 => h9) rfl dR_price_29 ?_
      refine lv_iload_n hx hb dR_price_32 rfl (lv_at hl 2 rfl) ?_
      refine lv_iload_n hx hb dR_price_33 rfl (lv_at hl 3 rfl) ?_
      obtain ⟨g11, hm⟩ := gd_to hm
      refine va_iast hx hb hK hP hD hS 1 0 rfl rfl g11 dR_price_34 (fun H locs hP hD hS => ?_)
      obtain ⟨I12, eI12⟩ : ∃ z : SI, z = va_up I2 1 (upd (I2 1) x1.toNatClampNeg x2) := ⟨_, rfl⟩
      have hm := nm_to eI12 hm
      have hP := P_eq (ws2 := wsR ad cI cJ cG I12 J3) hP (by rw [eI12]; rfl)
      have hD := D_eq (ws2 := wsR ad cI cJ cG I12 J3) hD (by rw [eI12]; rfl)
      refine lv_iload_n hx hb dR_price_35 rfl (lv_at hl 0 rfl) ?_
      exact W.iret hx hb hr (fun t ht hW => ⟨⟨v10, (I12, J3), rfl, Option.some.inj hm, ht ▸ hP, va_K.moved hW.alike hK, hD⟩, hS.F ht⟩) hS.2.2 dR_price_36 hlk
    · have hm := brp hm c8
      refine lv_iconst (v := (-1)) hx hb dR_price_19 (by decide) ?_
      exact W.iret hx hb hr (fun t ht hW => ⟨⟨-1, (I2, J3), rfl, Option.some.inj hm, ht ▸ hP, va_K.moved hW.alike hK, hD⟩, hS.F ht⟩) hS.2.2 dR_price_20 hlk
set_option maxHeartbeats 4000000 in
set_option maxRecDepth 100000 in
theorem c_R_price (l : Launch) (D : va_G) (ad : Nat → Nat) (cI cJ cG : ClassId) (sz : Nat) (x1 : Int32) (x2 : Int32) (I : SI) (J : SJ) (res : Int32 × SI × SJ) (hm : m_R_price x1 x2 I J = some res) : Met l yR_price (Cond.code yR_price bR_price 4 (some .int) :: gtb) rm_R_price (va_Pc [.ref (ad 0), .int x1, .int x2] (preW D vwCl (tysR cI cJ cG) (wsR ad cI cJ cG I J) sz)) (va_Qi (fun (r : Int32) (u : SI × SJ) => (r, u) = res) (atW D vwCl (tysR cI cJ cG) (va_A (wsR ad cI cJ cG I J) sz) (wsR ad cI cJ cG)) (va_A (wsR ad cI cJ cG I J) sz)) 0 0 (va_A (wsR ad cI cJ cG I J) sz) := by
  refine Met.ofW (cc := bR_price) (maxL := 4) (ret := (some .int)) (by decide) rfl ?_
  intro p e s m args below meth c s₁ B hml hv
  obtain ⟨rfl, hsz, hP, hK, hD0, hN⟩ := hv
  subst hsz
  have X : Cx p s m [.ref (ad 0), .int x1, .int x2].toArray meth c bR_price (some .int) 4 RR := ⟨B.exec, B.bytes, B.returns, hml, findClass_of_methodNamed B.named, fun w h => atoms_spec (ws := (Cond.code yR_price bR_price 4 (some .int) :: gtb)) B.pre w (List.mem_cons_of_mem _ h), B.notSynchronized⟩
  have hl := lv_entry ([.ref (ad 0), .int x1, .int x2]) (n := 4) (Nat.le_of_ble_eq_true rfl)
  rw [lg_entry_eq]
  generalize (lg_sl ([.ref (ad 0), .int x1, .int x2]) ++ List.replicate (4 - (lg_sl ([.ref (ad 0), .int x1, .int x2])).length) Slot.unset).toArray = ls at hl ⊢
  have hl : lv_has ls 4 [(0, .ref (ad 0)), (1, .int x1), (2, .int x2)] := hl
  have hA : ∀ q, s.heap.size ≤ q → va_A (wsR ad cI cJ cG I J) s.heap.size q := fun q h => Or.inr h
  exact w_R_price_0 X hK hN hA  x1 x2 I J hm _ _ _ hP hD0.self va_S.rf hl
def b_R_stock_0 (x1 : Int32) (x2 : Int32) (I : SI) (J : SJ) : Option (Int32 × SI × SJ) :=
  cl3 (m_R_isStuff x1 I J) fun r1 I2 J3 =>
  if r1 = 0 then
    some (-1, I2, J3)
  else
    cl1 (m_R_in x2 0 40) fun r6 =>
    if r6 = 0 then
      some (-1, I2, J3)
    else
      gd (vin x1 4) <|
      nm (I2 2 x1.toNatClampNeg) fun v10 =>
      gd (vin x1 4) <|
      nm (va_up I2 2 (upd (I2 2) x1.toNatClampNeg x2)) fun I12 =>
      some (v10, I12, J3)
def m_R_stock (x1 : Int32) (x2 : Int32) (I : SI) (J : SJ) : Option (Int32 × SI × SJ) := b_R_stock_0 x1 x2 I J
def rm_R_stock : Room := { frames := 1, cells := 0, slots := 0, locals := 22 }
set_option maxHeartbeats 4000000 in
set_option maxRecDepth 100000 in
theorem w_R_stock_0 {p : Program} {l : Launch} {e : Env} {s : State} {m : MethodId} {args : Array Value} {below : List Frame} {meth : Method} {c : Code} {D : va_G} {A : Nat → Prop} {ad : Nat → Nat} {cI cJ cG : ClassId} {res : Int32 × SI × SJ} (X : Cx p s m args meth c bR_stock (some .int) 4 RR) (hK : va_K D vwCl (tysR cI cJ cG) s) (hN : NWs s) (hA : ∀ q, s.heap.size ≤ q → A q)
     (x1 : Int32) (x2 : Int32) (I : SI) (J : SJ) (hm : b_R_stock_0  x1 x2 I J = some res) : WB p l e (headSpec (Cond.code yR_stock bR_stock 4 (some .int) :: gtb) rm_R_stock).room s m args below meth c (MQ below (va_Qi (fun (r : Int32) (u : SI × SJ) => (r, u) = res) (atW D vwCl (tysR cI cJ cG) A (wsR ad cI cJ cG)) A) args s 0 0 A) D vwCl A 4 (wsR ad cI cJ cG I J) 0 [(0, .ref (ad 0)), (1, .int x1), (2, .int x2)] [] := by
  obtain ⟨hx, hb, hr, hml, hown, hT, hlk⟩ := X
  intro H locs ls hP hD hS hl
  unfold b_R_stock_0 at hm
  refine lv_aload_n hx hb dR_stock_0 rfl (lv_at hl 0 rfl) ?_
  refine lv_iload_n hx hb dR_stock_1 rfl (lv_at hl 1 rfl) ?_
  obtain ⟨r1, I2, J3, hc4, hm⟩ := cl3_to hm
  refine pst_i (wf := wsR ad cI cJ cG) hD hS hA (va_runV (As := [.int x1]) (rest := []) ⟨hx, hb, hml, hown, hT⟩ (c_R_isStuff l D ad cI cJ cG _ x1 I J _ hc4) (cwV 1 hT (gV wd_641 wd_643 wd_32 wd_57 wd_644) rfl rfl rfl (by decide +kernel) ⟨Nat.le_of_ble_eq_true rfl, Nat.le_of_ble_eq_true rfl⟩) ⟨preW_fb, va_recv hK hP (ci := 6) (q0 := 0) rfl rfl, preW_at hP hK hN hD⟩ rfl rfl hl.1 rfl (lv_room (Nat.le_of_ble_eq_true rfl)) dR_stock_2 ⟨Nat.zero_le _, Nat.zero_le _⟩) (fun H locs hP hD hS => ?_)
  refine lv_if_eq (tgt := 18) hx hb dR_stock_5 (by decide) (fun c5 => ?_) (fun c5 => ?_)
  · have hm := brp hm c5
    refine lv_iconst (v := (-1)) hx hb dR_stock_18 (by decide) ?_
    exact W.iret hx hb hr (fun t ht hW => ⟨⟨-1, (I2, J3), rfl, Option.some.inj hm, ht ▸ hP, va_K.moved hW.alike hK, hD⟩, hS.F ht⟩) hS.2.2 dR_stock_19 hlk
  · have hm := brn hm c5
    refine lv_iload_n hx hb dR_stock_8 rfl (lv_at hl 2 rfl) ?_
    refine lv_iconst (v := 0) hx hb dR_stock_9 (by decide) ?_
    refine lv_bipush (v := 40) hx hb dR_stock_10 (by decide) ?_
    obtain ⟨r6, hc7, hm⟩ := cl1_to hm
    refine pstZ_i hS (va_runS (As := [.int x2, .int 0, .int 40]) (rest := []) ⟨hx, hb, hml, hown, hT⟩ (c_R_in l x2 0 40 _ hc7) (va_cwS 3 hT (gS wd_634 wd_635 wd_57 wd_636) rfl rfl rfl (by decide +kernel) ⟨Nat.le_of_ble_eq_true rfl, Nat.le_of_ble_eq_true rfl⟩) ⟨preZ_fb, preZ_at⟩ rfl rfl hl.1 rfl (lv_room (Nat.le_of_ble_eq_true rfl)) dR_stock_12 ⟨Nat.zero_le _, Nat.zero_le _⟩) (fun H1 locs hq hS => ?_)
    have hP := keptP hP hq
    refine lv_if_ne (tgt := 20) hx hb dR_stock_15 (by decide) (fun c8 => ?_) (fun c8 => ?_)
    · have hm := brn hm c8
      refine lv_aload_n hx hb dR_stock_20 rfl (lv_at hl 0 rfl) ?_
      refine va_get (D := D) (ci := 6) (v := .ref (ad 2)) (C := RR) (T := TR) (N := 31) hx hb hT inR hown hK hP 0 rfl rfl 2 (by decide) (hT _ wd_537) (fun _ h9 => h9) rfl dR_stock_21 ?_
      refine lv_iload_n hx hb dR_stock_24 rfl (lv_at hl 1 rfl) ?_
      obtain ⟨g9, hm⟩ := gd_to hm
      refine va_iald hx hb hK hP 2 0 rfl rfl g9 dR_stock_25 ?_
      refine lv_topi (fun v10 ev10 => ?_)
      have hm := nm_to ev10 hm
      refine lv_istore_n (lv' := [(3, .int v10), (0, .ref (ad 0)), (1, .int x1), (2, .int x2)]) hx hb dR_stock_26 rfl hl (by decide) rfl (fun ls hl => ?_)
      refine lv_aload_n hx hb dR_stock_27 rfl (lv_at hl 1 rfl) ?_
      refine va_get (D := D) (ci := 6) (v := .ref (ad 2)) (C := RR) (T := TR) (N := 31) hx hb hT inR hown hK hP 0 rfl rfl 2 (by decide) (hT _ wd_537) (fun _ h9 => h9) rfl dR_stock_28 ?_
      refine lv_iload_n hx hb dR_stock_31 rfl (lv_at hl 2 rfl) ?_
      refine lv_iload_n hx hb dR_stock_32 rfl (lv_at hl 3 rfl) ?_
      obtain ⟨g11, hm⟩ := gd_to hm
      refine va_iast hx hb hK hP hD hS 2 0 rfl rfl g11 dR_stock_33 (fun H locs hP hD hS => ?_)
      obtain ⟨I12, eI12⟩ : ∃ z : SI, z = va_up I2 2 (upd (I2 2) x1.toNatClampNeg x2) := ⟨_, rfl⟩
      have hm := nm_to eI12 hm
      have hP := P_eq (ws2 := wsR ad cI cJ cG I12 J3) hP (by rw [eI12]; rfl)
      have hD := D_eq (ws2 := wsR ad cI cJ cG I12 J3) hD (by rw [eI12]; rfl)
      refine lv_iload_n hx hb dR_stock_34 rfl (lv_at hl 0 rfl) ?_
      exact W.iret hx hb hr (fun t ht hW => ⟨⟨v10, (I12, J3), rfl, Option.some.inj hm, ht ▸ hP, va_K.moved hW.alike hK, hD⟩, hS.F ht⟩) hS.2.2 dR_stock_35 hlk
    · have hm := brp hm c8
      refine lv_iconst (v := (-1)) hx hb dR_stock_18 (by decide) ?_
      exact W.iret hx hb hr (fun t ht hW => ⟨⟨-1, (I2, J3), rfl, Option.some.inj hm, ht ▸ hP, va_K.moved hW.alike hK, hD⟩, hS.F ht⟩) hS.2.2 dR_stock_19 hlk
set_option maxHeartbeats 4000000 in
set_option maxRecDepth 100000 in
theorem c_R_stock (l : Launch) (D : va_G) (ad : Nat → Nat) (cI cJ cG : ClassId) (sz : Nat) (x1 : Int32) (x2 : Int32) (I : SI) (J : SJ) (res : Int32 × SI × SJ) (hm : m_R_stock x1 x2 I J = some res) : Met l yR_stock (Cond.code yR_stock bR_stock 4 (some .int) :: gtb) rm_R_stock (va_Pc [.ref (ad 0), .int x1, .int x2] (preW D vwCl (tysR cI cJ cG) (wsR ad cI cJ cG I J) sz)) (va_Qi (fun (r : Int32) (u : SI × SJ) => (r, u) = res) (atW D vwCl (tysR cI cJ cG) (va_A (wsR ad cI cJ cG I J) sz) (wsR ad cI cJ cG)) (va_A (wsR ad cI cJ cG I J) sz)) 0 0 (va_A (wsR ad cI cJ cG I J) sz) := by
  refine Met.ofW (cc := bR_stock) (maxL := 4) (ret := (some .int)) (by decide) rfl ?_
  intro p e s m args below meth c s₁ B hml hv
  obtain ⟨rfl, hsz, hP, hK, hD0, hN⟩ := hv
  subst hsz
  have X : Cx p s m [.ref (ad 0), .int x1, .int x2].toArray meth c bR_stock (some .int) 4 RR := ⟨B.exec, B.bytes, B.returns, hml, findClass_of_methodNamed B.named, fun w h => atoms_spec (ws := (Cond.code yR_stock bR_stock 4 (some .int) :: gtb)) B.pre w (List.mem_cons_of_mem _ h), B.notSynchronized⟩
  have hl := lv_entry ([.ref (ad 0), .int x1, .int x2]) (n := 4) (Nat.le_of_ble_eq_true rfl)
  rw [lg_entry_eq]
  generalize (lg_sl ([.ref (ad 0), .int x1, .int x2]) ++ List.replicate (4 - (lg_sl ([.ref (ad 0), .int x1, .int x2])).length) Slot.unset).toArray = ls at hl ⊢
  have hl : lv_has ls 4 [(0, .ref (ad 0)), (1, .int x1), (2, .int x2)] := hl
  have hA : ∀ q, s.heap.size ≤ q → va_A (wsR ad cI cJ cG I J) s.heap.size q := fun q h => Or.inr h
  exact w_R_stock_0 X hK hN hA  x1 x2 I J hm _ _ _ hP hD0.self va_S.rf hl
def b_R_holds_0 (x1 : Int32) (x2 : Int32) (x3 : Int32) (I : SI) (J : SJ) : Option (Int32 × SI × SJ) :=
  cl3 (m_R_isStuff x1 I J) fun r1 I2 J3 =>
  if r1 = 0 then
    some (0, I2, J3)
  else
    cl1 (m_R_in x2 0 2) fun r6 =>
    if r6 = 0 then
      some (0, I2, J3)
    else
      cl1 (m_R_in x3 0 40) fun r9 =>
      if r9 = 0 then
        some (0, I2, J3)
      else
        nm (4 * x2) fun v12 =>
        nm (v12 + x1) fun v13 =>
        gd (vin v13 12) <|
        nm (va_up I2 3 (upd (I2 3) v13.toNatClampNeg x3)) fun I15 =>
        some (1, I15, J3)
def m_R_holds (x1 : Int32) (x2 : Int32) (x3 : Int32) (I : SI) (J : SJ) : Option (Int32 × SI × SJ) := b_R_holds_0 x1 x2 x3 I J
def rm_R_holds : Room := { frames := 1, cells := 0, slots := 0, locals := 22 }
set_option maxHeartbeats 4000000 in
set_option maxRecDepth 100000 in
theorem w_R_holds_0 {p : Program} {l : Launch} {e : Env} {s : State} {m : MethodId} {args : Array Value} {below : List Frame} {meth : Method} {c : Code} {D : va_G} {A : Nat → Prop} {ad : Nat → Nat} {cI cJ cG : ClassId} {res : Int32 × SI × SJ} (X : Cx p s m args meth c bR_holds (some .boolean) 4 RR) (hK : va_K D vwCl (tysR cI cJ cG) s) (hN : NWs s) (hA : ∀ q, s.heap.size ≤ q → A q)
     (x1 : Int32) (x2 : Int32) (x3 : Int32) (I : SI) (J : SJ) (hm : b_R_holds_0  x1 x2 x3 I J = some res) : WB p l e (headSpec (Cond.code yR_holds bR_holds 4 (some .boolean) :: gtb) rm_R_holds).room s m args below meth c (MQ below (va_Qi (fun (r : Int32) (u : SI × SJ) => (r, u) = res) (atW D vwCl (tysR cI cJ cG) A (wsR ad cI cJ cG)) A) args s 0 0 A) D vwCl A 4 (wsR ad cI cJ cG I J) 0 [(0, .ref (ad 0)), (1, .int x1), (2, .int x2), (3, .int x3)] [] := by
  obtain ⟨hx, hb, hr, hml, hown, hT, hlk⟩ := X
  intro H locs ls hP hD hS hl
  unfold b_R_holds_0 at hm
  refine lv_aload_n hx hb dR_holds_0 rfl (lv_at hl 0 rfl) ?_
  refine lv_iload_n hx hb dR_holds_1 rfl (lv_at hl 1 rfl) ?_
  obtain ⟨r1, I2, J3, hc4, hm⟩ := cl3_to hm
  refine pst_i (wf := wsR ad cI cJ cG) hD hS hA (va_runV (As := [.int x1]) (rest := []) ⟨hx, hb, hml, hown, hT⟩ (c_R_isStuff l D ad cI cJ cG _ x1 I J _ hc4) (cwV 1 hT (gV wd_641 wd_643 wd_32 wd_57 wd_644) rfl rfl rfl (by decide +kernel) ⟨Nat.le_of_ble_eq_true rfl, Nat.le_of_ble_eq_true rfl⟩) ⟨preW_fb, va_recv hK hP (ci := 6) (q0 := 0) rfl rfl, preW_at hP hK hN hD⟩ rfl rfl hl.1 rfl (lv_room (Nat.le_of_ble_eq_true rfl)) dR_holds_2 ⟨Nat.zero_le _, Nat.zero_le _⟩) (fun H locs hP hD hS => ?_)
  refine lv_if_eq (tgt := 27) hx hb dR_holds_5 (by decide) (fun c5 => ?_) (fun c5 => ?_)
  · have hm := brp hm c5
    refine lv_iconst (v := 0) hx hb dR_holds_27 (by decide) ?_
    exact W.zret hx hb hr rfl (fun t ht hW => ⟨⟨0, (I2, J3), rfl, Option.some.inj hm, ht ▸ hP, va_K.moved hW.alike hK, hD⟩, hS.F ht⟩) hS.2.2 dR_holds_28 hlk
  · have hm := brn hm c5
    refine lv_iload_n hx hb dR_holds_8 rfl (lv_at hl 2 rfl) ?_
    refine lv_iconst (v := 0) hx hb dR_holds_9 (by decide) ?_
    refine lv_iconst (v := 2) hx hb dR_holds_10 (by decide) ?_
    obtain ⟨r6, hc7, hm⟩ := cl1_to hm
    refine pstZ_i hS (va_runS (As := [.int x2, .int 0, .int 2]) (rest := []) ⟨hx, hb, hml, hown, hT⟩ (c_R_in l x2 0 2 _ hc7) (va_cwS 3 hT (gS wd_634 wd_635 wd_57 wd_636) rfl rfl rfl (by decide +kernel) ⟨Nat.le_of_ble_eq_true rfl, Nat.le_of_ble_eq_true rfl⟩) ⟨preZ_fb, preZ_at⟩ rfl rfl hl.1 rfl (lv_room (Nat.le_of_ble_eq_true rfl)) dR_holds_11 ⟨Nat.zero_le _, Nat.zero_le _⟩) (fun H1 locs hq hS => ?_)
    have hP := keptP hP hq
    refine lv_if_eq (tgt := 27) hx hb dR_holds_14 (by decide) (fun c8 => ?_) (fun c8 => ?_)
    · have hm := brp hm c8
      refine lv_iconst (v := 0) hx hb dR_holds_27 (by decide) ?_
      exact W.zret hx hb hr rfl (fun t ht hW => ⟨⟨0, (I2, J3), rfl, Option.some.inj hm, ht ▸ hP, va_K.moved hW.alike hK, hD⟩, hS.F ht⟩) hS.2.2 dR_holds_28 hlk
    · have hm := brn hm c8
      refine lv_iload_n hx hb dR_holds_17 rfl (lv_at hl 3 rfl) ?_
      refine lv_iconst (v := 0) hx hb dR_holds_18 (by decide) ?_
      refine lv_bipush (v := 40) hx hb dR_holds_19 (by decide) ?_
      obtain ⟨r9, hc10, hm⟩ := cl1_to hm
      refine pstZ_i hS (va_runS (As := [.int x3, .int 0, .int 40]) (rest := []) ⟨hx, hb, hml, hown, hT⟩ (c_R_in l x3 0 40 _ hc10) (va_cwS 3 hT (gS wd_634 wd_635 wd_57 wd_636) rfl rfl rfl (by decide +kernel) ⟨Nat.le_of_ble_eq_true rfl, Nat.le_of_ble_eq_true rfl⟩) ⟨preZ_fb, preZ_at⟩ rfl rfl hl.1 rfl (lv_room (Nat.le_of_ble_eq_true rfl)) dR_holds_21 ⟨Nat.zero_le _, Nat.zero_le _⟩) (fun H1 locs hq hS => ?_)
      have hP := keptP hP hq
      refine lv_if_ne (tgt := 29) hx hb dR_holds_24 (by decide) (fun c11 => ?_) (fun c11 => ?_)
      · have hm := brn hm c11
        refine lv_aload_n hx hb dR_holds_29 rfl (lv_at hl 0 rfl) ?_
        refine va_get (D := D) (ci := 6) (v := .ref (ad 3)) (C := RR) (T := TR) (N := 31) hx hb hT inR hown hK hP 0 rfl rfl 3 (by decide) (hT _ wd_538) (fun _ h9 => h9) rfl dR_holds_30 ?_
        refine lv_iconst (v := 4) hx hb dR_holds_33 (by decide) ?_
        refine lv_iload_n hx hb dR_holds_34 rfl (lv_at hl 2 rfl) ?_
        refine lv_imul hx hb dR_holds_35 ?_
        refine lv_topi (fun v12 ev12 => ?_)
        have hm := nm_to ev12 hm
        refine lv_iload_n hx hb dR_holds_36 rfl (lv_at hl 1 rfl) ?_
        refine lv_iadd hx hb dR_holds_37 ?_
        refine lv_topi (fun v13 ev13 => ?_)
        have hm := nm_to ev13 hm
        refine lv_iload_n hx hb dR_holds_38 rfl (lv_at hl 3 rfl) ?_
        obtain ⟨g14, hm⟩ := gd_to hm
        refine va_iast hx hb hK hP hD hS 3 0 rfl rfl g14 dR_holds_39 (fun H locs hP hD hS => ?_)
        obtain ⟨I15, eI15⟩ : ∃ z : SI, z = va_up I2 3 (upd (I2 3) v13.toNatClampNeg x3) := ⟨_, rfl⟩
        have hm := nm_to eI15 hm
        have hP := P_eq (ws2 := wsR ad cI cJ cG I15 J3) hP (by rw [eI15]; rfl)
        have hD := D_eq (ws2 := wsR ad cI cJ cG I15 J3) hD (by rw [eI15]; rfl)
        refine lv_iconst (v := 1) hx hb dR_holds_40 (by decide) ?_
        exact W.zret hx hb hr rfl (fun t ht hW => ⟨⟨1, (I15, J3), rfl, Option.some.inj hm, ht ▸ hP, va_K.moved hW.alike hK, hD⟩, hS.F ht⟩) hS.2.2 dR_holds_41 hlk
      · have hm := brp hm c11
        refine lv_iconst (v := 0) hx hb dR_holds_27 (by decide) ?_
        exact W.zret hx hb hr rfl (fun t ht hW => ⟨⟨0, (I2, J3), rfl, Option.some.inj hm, ht ▸ hP, va_K.moved hW.alike hK, hD⟩, hS.F ht⟩) hS.2.2 dR_holds_28 hlk
set_option maxHeartbeats 4000000 in
set_option maxRecDepth 100000 in
theorem c_R_holds (l : Launch) (D : va_G) (ad : Nat → Nat) (cI cJ cG : ClassId) (sz : Nat) (x1 : Int32) (x2 : Int32) (x3 : Int32) (I : SI) (J : SJ) (res : Int32 × SI × SJ) (hm : m_R_holds x1 x2 x3 I J = some res) : Met l yR_holds (Cond.code yR_holds bR_holds 4 (some .boolean) :: gtb) rm_R_holds (va_Pc [.ref (ad 0), .int x1, .int x2, .int x3] (preW D vwCl (tysR cI cJ cG) (wsR ad cI cJ cG I J) sz)) (va_Qi (fun (r : Int32) (u : SI × SJ) => (r, u) = res) (atW D vwCl (tysR cI cJ cG) (va_A (wsR ad cI cJ cG I J) sz) (wsR ad cI cJ cG)) (va_A (wsR ad cI cJ cG I J) sz)) 0 0 (va_A (wsR ad cI cJ cG I J) sz) := by
  refine Met.ofW (cc := bR_holds) (maxL := 4) (ret := (some .boolean)) (by decide) rfl ?_
  intro p e s m args below meth c s₁ B hml hv
  obtain ⟨rfl, hsz, hP, hK, hD0, hN⟩ := hv
  subst hsz
  have X : Cx p s m [.ref (ad 0), .int x1, .int x2, .int x3].toArray meth c bR_holds (some .boolean) 4 RR := ⟨B.exec, B.bytes, B.returns, hml, findClass_of_methodNamed B.named, fun w h => atoms_spec (ws := (Cond.code yR_holds bR_holds 4 (some .boolean) :: gtb)) B.pre w (List.mem_cons_of_mem _ h), B.notSynchronized⟩
  have hl := lv_entry ([.ref (ad 0), .int x1, .int x2, .int x3]) (n := 4) (Nat.le_of_ble_eq_true rfl)
  rw [lg_entry_eq]
  generalize (lg_sl ([.ref (ad 0), .int x1, .int x2, .int x3]) ++ List.replicate (4 - (lg_sl ([.ref (ad 0), .int x1, .int x2, .int x3])).length) Slot.unset).toArray = ls at hl ⊢
  have hl : lv_has ls 4 [(0, .ref (ad 0)), (1, .int x1), (2, .int x2), (3, .int x3)] := hl
  have hA : ∀ q, s.heap.size ≤ q → va_A (wsR ad cI cJ cG I J) s.heap.size q := fun q h => Or.inr h
  exact w_R_holds_0 X hK hN hA  x1 x2 x3 I J hm _ _ _ hP hD0.self va_S.rf hl
def b_R_need_0 (x1 : Int32) (x2 : Int32) (x3 : Int32) (I : SI) (J : SJ) : Option (Int32 × SI × SJ) :=
  cl1 (m_R_in x1 0 2) fun r1 =>
  if r1 = 0 then
    some (0, I, J)
  else
    cl1 (m_R_in x2 0 40) fun r4 =>
    if r4 = 0 then
      some (0, I, J)
    else
      cl1 (m_R_in x3 x2 40) fun r7 =>
      if r7 = 0 then
        some (0, I, J)
      else
        gd (vin x1 3) <|
        nm (va_up I 7 (upd (I 7) x1.toNatClampNeg x2)) fun I11 =>
        gd (vin x1 3) <|
        nm (va_up I11 8 (upd (I11 8) x1.toNatClampNeg x3)) fun I13 =>
        some (1, I13, J)
def m_R_need (x1 : Int32) (x2 : Int32) (x3 : Int32) (I : SI) (J : SJ) : Option (Int32 × SI × SJ) := b_R_need_0 x1 x2 x3 I J
def rm_R_need : Room := { frames := 1, cells := 0, slots := 0, locals := 22 }
set_option maxHeartbeats 4000000 in
set_option maxRecDepth 100000 in
theorem w_R_need_0 {p : Program} {l : Launch} {e : Env} {s : State} {m : MethodId} {args : Array Value} {below : List Frame} {meth : Method} {c : Code} {D : va_G} {A : Nat → Prop} {ad : Nat → Nat} {cI cJ cG : ClassId} {res : Int32 × SI × SJ} (X : Cx p s m args meth c bR_need (some .boolean) 4 RR) (hK : va_K D vwCl (tysR cI cJ cG) s) (hN : NWs s) (hA : ∀ q, s.heap.size ≤ q → A q)
     (x1 : Int32) (x2 : Int32) (x3 : Int32) (I : SI) (J : SJ) (hm : b_R_need_0  x1 x2 x3 I J = some res) : WB p l e (headSpec (Cond.code yR_need bR_need 4 (some .boolean) :: gtb) rm_R_need).room s m args below meth c (MQ below (va_Qi (fun (r : Int32) (u : SI × SJ) => (r, u) = res) (atW D vwCl (tysR cI cJ cG) A (wsR ad cI cJ cG)) A) args s 0 0 A) D vwCl A 4 (wsR ad cI cJ cG I J) 0 [(0, .ref (ad 0)), (1, .int x1), (2, .int x2), (3, .int x3)] [] := by
  obtain ⟨hx, hb, hr, hml, hown, hT, hlk⟩ := X
  intro H locs ls hP hD hS hl
  unfold b_R_need_0 at hm
  refine lv_iload_n hx hb dR_need_0 rfl (lv_at hl 1 rfl) ?_
  refine lv_iconst (v := 0) hx hb dR_need_1 (by decide) ?_
  refine lv_iconst (v := 2) hx hb dR_need_2 (by decide) ?_
  obtain ⟨r1, hc2, hm⟩ := cl1_to hm
  refine pstZ_i hS (va_runS (As := [.int x1, .int 0, .int 2]) (rest := []) ⟨hx, hb, hml, hown, hT⟩ (c_R_in l x1 0 2 _ hc2) (va_cwS 3 hT (gS wd_634 wd_635 wd_57 wd_636) rfl rfl rfl (by decide +kernel) ⟨Nat.le_of_ble_eq_true rfl, Nat.le_of_ble_eq_true rfl⟩) ⟨preZ_fb, preZ_at⟩ rfl rfl hl.1 rfl (lv_room (Nat.le_of_ble_eq_true rfl)) dR_need_3 ⟨Nat.zero_le _, Nat.zero_le _⟩) (fun H1 locs hq hS => ?_)
  have hP := keptP hP hq
  refine lv_if_eq (tgt := 29) hx hb dR_need_6 (by decide) (fun c3 => ?_) (fun c3 => ?_)
  · have hm := brp hm c3
    refine lv_iconst (v := 0) hx hb dR_need_29 (by decide) ?_
    exact W.zret hx hb hr rfl (fun t ht hW => ⟨⟨0, (I, J), rfl, Option.some.inj hm, ht ▸ hP, va_K.moved hW.alike hK, hD⟩, hS.F ht⟩) hS.2.2 dR_need_30 hlk
  · have hm := brn hm c3
    refine lv_iload_n hx hb dR_need_9 rfl (lv_at hl 2 rfl) ?_
    refine lv_iconst (v := 0) hx hb dR_need_10 (by decide) ?_
    refine lv_bipush (v := 40) hx hb dR_need_11 (by decide) ?_
    obtain ⟨r4, hc5, hm⟩ := cl1_to hm
    refine pstZ_i hS (va_runS (As := [.int x2, .int 0, .int 40]) (rest := []) ⟨hx, hb, hml, hown, hT⟩ (c_R_in l x2 0 40 _ hc5) (va_cwS 3 hT (gS wd_634 wd_635 wd_57 wd_636) rfl rfl rfl (by decide +kernel) ⟨Nat.le_of_ble_eq_true rfl, Nat.le_of_ble_eq_true rfl⟩) ⟨preZ_fb, preZ_at⟩ rfl rfl hl.1 rfl (lv_room (Nat.le_of_ble_eq_true rfl)) dR_need_13 ⟨Nat.zero_le _, Nat.zero_le _⟩) (fun H1 locs hq hS => ?_)
    have hP := keptP hP hq
    refine lv_if_eq (tgt := 29) hx hb dR_need_16 (by decide) (fun c6 => ?_) (fun c6 => ?_)
    · have hm := brp hm c6
      refine lv_iconst (v := 0) hx hb dR_need_29 (by decide) ?_
      exact W.zret hx hb hr rfl (fun t ht hW => ⟨⟨0, (I, J), rfl, Option.some.inj hm, ht ▸ hP, va_K.moved hW.alike hK, hD⟩, hS.F ht⟩) hS.2.2 dR_need_30 hlk
    · have hm := brn hm c6
      refine lv_iload_n hx hb dR_need_19 rfl (lv_at hl 3 rfl) ?_
      refine lv_iload_n hx hb dR_need_20 rfl (lv_at hl 2 rfl) ?_
      refine lv_bipush (v := 40) hx hb dR_need_21 (by decide) ?_
      obtain ⟨r7, hc8, hm⟩ := cl1_to hm
      refine pstZ_i hS (va_runS (As := [.int x3, .int x2, .int 40]) (rest := []) ⟨hx, hb, hml, hown, hT⟩ (c_R_in l x3 x2 40 _ hc8) (va_cwS 3 hT (gS wd_634 wd_635 wd_57 wd_636) rfl rfl rfl (by decide +kernel) ⟨Nat.le_of_ble_eq_true rfl, Nat.le_of_ble_eq_true rfl⟩) ⟨preZ_fb, preZ_at⟩ rfl rfl hl.1 rfl (lv_room (Nat.le_of_ble_eq_true rfl)) dR_need_23 ⟨Nat.zero_le _, Nat.zero_le _⟩) (fun H1 locs hq hS => ?_)
      have hP := keptP hP hq
      refine lv_if_ne (tgt := 31) hx hb dR_need_26 (by decide) (fun c9 => ?_) (fun c9 => ?_)
      · have hm := brn hm c9
        refine lv_aload_n hx hb dR_need_31 rfl (lv_at hl 0 rfl) ?_
        refine va_get (D := D) (ci := 6) (v := .ref (ad 7)) (C := RR) (T := TR) (N := 31) hx hb hT inR hown hK hP 0 rfl rfl 7 (by decide) (hT _ wd_542) (fun _ h9 => h9) rfl dR_need_32 ?_
        refine lv_iload_n hx hb dR_need_35 rfl (lv_at hl 1 rfl) ?_
        refine lv_iload_n hx hb dR_need_36 rfl (lv_at hl 2 rfl) ?_
        obtain ⟨g10, hm⟩ := gd_to hm
        refine va_iast hx hb hK hP hD hS 7 0 rfl rfl g10 dR_need_37 (fun H locs hP hD hS => ?_)
        obtain ⟨I11, eI11⟩ : ∃ z : SI, z = va_up I 7 (upd (I 7) x1.toNatClampNeg x2) := ⟨_, rfl⟩
        have hm := nm_to eI11 hm
        have hP := P_eq (ws2 := wsR ad cI cJ cG I11 J) hP (by rw [eI11]; rfl)
        have hD := D_eq (ws2 := wsR ad cI cJ cG I11 J) hD (by rw [eI11]; rfl)
        refine lv_aload_n hx hb dR_need_38 rfl (lv_at hl 0 rfl) ?_
        refine va_get (D := D) (ci := 6) (v := .ref (ad 8)) (C := RR) (T := TR) (N := 31) hx hb hT inR hown hK hP 0 rfl rfl 8 (by decide) (hT _ wd_543) (fun _ h9 => h9) rfl dR_need_39 ?_
        refine lv_iload_n hx hb dR_need_42 rfl (lv_at hl 1 rfl) ?_
        refine lv_iload_n hx hb dR_need_43 rfl (lv_at hl 3 rfl) ?_
        obtain ⟨g12, hm⟩ := gd_to hm
        refine va_iast hx hb hK hP hD hS 8 0 rfl rfl g12 dR_need_44 (fun H locs hP hD hS => ?_)
        obtain ⟨I13, eI13⟩ : ∃ z : SI, z = va_up I11 8 (upd (I11 8) x1.toNatClampNeg x3) := ⟨_, rfl⟩
        have hm := nm_to eI13 hm
        have hP := P_eq (ws2 := wsR ad cI cJ cG I13 J) hP (by rw [eI13]; rfl)
        have hD := D_eq (ws2 := wsR ad cI cJ cG I13 J) hD (by rw [eI13]; rfl)
        refine lv_iconst (v := 1) hx hb dR_need_45 (by decide) ?_
        exact W.zret hx hb hr rfl (fun t ht hW => ⟨⟨1, (I13, J), rfl, Option.some.inj hm, ht ▸ hP, va_K.moved hW.alike hK, hD⟩, hS.F ht⟩) hS.2.2 dR_need_46 hlk
      · have hm := brp hm c9
        refine lv_iconst (v := 0) hx hb dR_need_29 (by decide) ?_
        exact W.zret hx hb hr rfl (fun t ht hW => ⟨⟨0, (I, J), rfl, Option.some.inj hm, ht ▸ hP, va_K.moved hW.alike hK, hD⟩, hS.F ht⟩) hS.2.2 dR_need_30 hlk
set_option maxHeartbeats 4000000 in
set_option maxRecDepth 100000 in
theorem c_R_need (l : Launch) (D : va_G) (ad : Nat → Nat) (cI cJ cG : ClassId) (sz : Nat) (x1 : Int32) (x2 : Int32) (x3 : Int32) (I : SI) (J : SJ) (res : Int32 × SI × SJ) (hm : m_R_need x1 x2 x3 I J = some res) : Met l yR_need (Cond.code yR_need bR_need 4 (some .boolean) :: gtb) rm_R_need (va_Pc [.ref (ad 0), .int x1, .int x2, .int x3] (preW D vwCl (tysR cI cJ cG) (wsR ad cI cJ cG I J) sz)) (va_Qi (fun (r : Int32) (u : SI × SJ) => (r, u) = res) (atW D vwCl (tysR cI cJ cG) (va_A (wsR ad cI cJ cG I J) sz) (wsR ad cI cJ cG)) (va_A (wsR ad cI cJ cG I J) sz)) 0 0 (va_A (wsR ad cI cJ cG I J) sz) := by
  refine Met.ofW (cc := bR_need) (maxL := 4) (ret := (some .boolean)) (by decide) rfl ?_
  intro p e s m args below meth c s₁ B hml hv
  obtain ⟨rfl, hsz, hP, hK, hD0, hN⟩ := hv
  subst hsz
  have X : Cx p s m [.ref (ad 0), .int x1, .int x2, .int x3].toArray meth c bR_need (some .boolean) 4 RR := ⟨B.exec, B.bytes, B.returns, hml, findClass_of_methodNamed B.named, fun w h => atoms_spec (ws := (Cond.code yR_need bR_need 4 (some .boolean) :: gtb)) B.pre w (List.mem_cons_of_mem _ h), B.notSynchronized⟩
  have hl := lv_entry ([.ref (ad 0), .int x1, .int x2, .int x3]) (n := 4) (Nat.le_of_ble_eq_true rfl)
  rw [lg_entry_eq]
  generalize (lg_sl ([.ref (ad 0), .int x1, .int x2, .int x3]) ++ List.replicate (4 - (lg_sl ([.ref (ad 0), .int x1, .int x2, .int x3])).length) Slot.unset).toArray = ls at hl ⊢
  have hl : lv_has ls 4 [(0, .ref (ad 0)), (1, .int x1), (2, .int x2), (3, .int x3)] := hl
  have hA : ∀ q, s.heap.size ≤ q → va_A (wsR ad cI cJ cG I J) s.heap.size q := fun q h => Or.inr h
  exact w_R_need_0 X hK hN hA  x1 x2 x3 I J hm _ _ _ hP hD0.self va_S.rf hl
def b_R_shares_0 (x1 : Int32) (x2 : Int32) (x3 : Int32) (I : SI) (J : SJ) : Option (Int32 × SI × SJ) :=
  cl3 (m_R_isStuff x1 I J) fun r1 I2 J3 =>
  if r1 = 0 then
    some (0, I2, J3)
  else
    cl1 (m_R_in x2 0 10) fun r6 =>
    if r6 = 0 then
      some (0, I2, J3)
    else
      cl1 (m_R_in x3 x2 10) fun r9 =>
      if r9 = 0 then
        some (0, I2, J3)
      else
        gd (vin x1 4) <|
        nm (va_up I2 4 (upd (I2 4) x1.toNatClampNeg x2)) fun I13 =>
        gd (vin x1 4) <|
        nm (va_up I13 5 (upd (I13 5) x1.toNatClampNeg x3)) fun I15 =>
        some (1, I15, J3)
def m_R_shares (x1 : Int32) (x2 : Int32) (x3 : Int32) (I : SI) (J : SJ) : Option (Int32 × SI × SJ) := b_R_shares_0 x1 x2 x3 I J
def rm_R_shares : Room := { frames := 1, cells := 0, slots := 0, locals := 22 }
set_option maxHeartbeats 4000000 in
set_option maxRecDepth 100000 in
theorem w_R_shares_0 {p : Program} {l : Launch} {e : Env} {s : State} {m : MethodId} {args : Array Value} {below : List Frame} {meth : Method} {c : Code} {D : va_G} {A : Nat → Prop} {ad : Nat → Nat} {cI cJ cG : ClassId} {res : Int32 × SI × SJ} (X : Cx p s m args meth c bR_shares (some .boolean) 4 RR) (hK : va_K D vwCl (tysR cI cJ cG) s) (hN : NWs s) (hA : ∀ q, s.heap.size ≤ q → A q)
     (x1 : Int32) (x2 : Int32) (x3 : Int32) (I : SI) (J : SJ) (hm : b_R_shares_0  x1 x2 x3 I J = some res) : WB p l e (headSpec (Cond.code yR_shares bR_shares 4 (some .boolean) :: gtb) rm_R_shares).room s m args below meth c (MQ below (va_Qi (fun (r : Int32) (u : SI × SJ) => (r, u) = res) (atW D vwCl (tysR cI cJ cG) A (wsR ad cI cJ cG)) A) args s 0 0 A) D vwCl A 4 (wsR ad cI cJ cG I J) 0 [(0, .ref (ad 0)), (1, .int x1), (2, .int x2), (3, .int x3)] [] := by
  obtain ⟨hx, hb, hr, hml, hown, hT, hlk⟩ := X
  intro H locs ls hP hD hS hl
  unfold b_R_shares_0 at hm
  refine lv_aload_n hx hb dR_shares_0 rfl (lv_at hl 0 rfl) ?_
  refine lv_iload_n hx hb dR_shares_1 rfl (lv_at hl 1 rfl) ?_
  obtain ⟨r1, I2, J3, hc4, hm⟩ := cl3_to hm
  refine pst_i (wf := wsR ad cI cJ cG) hD hS hA (va_runV (As := [.int x1]) (rest := []) ⟨hx, hb, hml, hown, hT⟩ (c_R_isStuff l D ad cI cJ cG _ x1 I J _ hc4) (cwV 1 hT (gV wd_641 wd_643 wd_32 wd_57 wd_644) rfl rfl rfl (by decide +kernel) ⟨Nat.le_of_ble_eq_true rfl, Nat.le_of_ble_eq_true rfl⟩) ⟨preW_fb, va_recv hK hP (ci := 6) (q0 := 0) rfl rfl, preW_at hP hK hN hD⟩ rfl rfl hl.1 rfl (lv_room (Nat.le_of_ble_eq_true rfl)) dR_shares_2 ⟨Nat.zero_le _, Nat.zero_le _⟩) (fun H locs hP hD hS => ?_)
  refine lv_if_eq (tgt := 28) hx hb dR_shares_5 (by decide) (fun c5 => ?_) (fun c5 => ?_)
  · have hm := brp hm c5
    refine lv_iconst (v := 0) hx hb dR_shares_28 (by decide) ?_
    exact W.zret hx hb hr rfl (fun t ht hW => ⟨⟨0, (I2, J3), rfl, Option.some.inj hm, ht ▸ hP, va_K.moved hW.alike hK, hD⟩, hS.F ht⟩) hS.2.2 dR_shares_29 hlk
  · have hm := brn hm c5
    refine lv_iload_n hx hb dR_shares_8 rfl (lv_at hl 2 rfl) ?_
    refine lv_iconst (v := 0) hx hb dR_shares_9 (by decide) ?_
    refine lv_bipush (v := 10) hx hb dR_shares_10 (by decide) ?_
    obtain ⟨r6, hc7, hm⟩ := cl1_to hm
    refine pstZ_i hS (va_runS (As := [.int x2, .int 0, .int 10]) (rest := []) ⟨hx, hb, hml, hown, hT⟩ (c_R_in l x2 0 10 _ hc7) (va_cwS 3 hT (gS wd_634 wd_635 wd_57 wd_636) rfl rfl rfl (by decide +kernel) ⟨Nat.le_of_ble_eq_true rfl, Nat.le_of_ble_eq_true rfl⟩) ⟨preZ_fb, preZ_at⟩ rfl rfl hl.1 rfl (lv_room (Nat.le_of_ble_eq_true rfl)) dR_shares_12 ⟨Nat.zero_le _, Nat.zero_le _⟩) (fun H1 locs hq hS => ?_)
    have hP := keptP hP hq
    refine lv_if_eq (tgt := 28) hx hb dR_shares_15 (by decide) (fun c8 => ?_) (fun c8 => ?_)
    · have hm := brp hm c8
      refine lv_iconst (v := 0) hx hb dR_shares_28 (by decide) ?_
      exact W.zret hx hb hr rfl (fun t ht hW => ⟨⟨0, (I2, J3), rfl, Option.some.inj hm, ht ▸ hP, va_K.moved hW.alike hK, hD⟩, hS.F ht⟩) hS.2.2 dR_shares_29 hlk
    · have hm := brn hm c8
      refine lv_iload_n hx hb dR_shares_18 rfl (lv_at hl 3 rfl) ?_
      refine lv_iload_n hx hb dR_shares_19 rfl (lv_at hl 2 rfl) ?_
      refine lv_bipush (v := 10) hx hb dR_shares_20 (by decide) ?_
      obtain ⟨r9, hc10, hm⟩ := cl1_to hm
      refine pstZ_i hS (va_runS (As := [.int x3, .int x2, .int 10]) (rest := []) ⟨hx, hb, hml, hown, hT⟩ (c_R_in l x3 x2 10 _ hc10) (va_cwS 3 hT (gS wd_634 wd_635 wd_57 wd_636) rfl rfl rfl (by decide +kernel) ⟨Nat.le_of_ble_eq_true rfl, Nat.le_of_ble_eq_true rfl⟩) ⟨preZ_fb, preZ_at⟩ rfl rfl hl.1 rfl (lv_room (Nat.le_of_ble_eq_true rfl)) dR_shares_22 ⟨Nat.zero_le _, Nat.zero_le _⟩) (fun H1 locs hq hS => ?_)
      have hP := keptP hP hq
      refine lv_if_ne (tgt := 30) hx hb dR_shares_25 (by decide) (fun c11 => ?_) (fun c11 => ?_)
      · have hm := brn hm c11
        refine lv_aload_n hx hb dR_shares_30 rfl (lv_at hl 0 rfl) ?_
        refine va_get (D := D) (ci := 6) (v := .ref (ad 4)) (C := RR) (T := TR) (N := 31) hx hb hT inR hown hK hP 0 rfl rfl 4 (by decide) (hT _ wd_539) (fun _ h9 => h9) rfl dR_shares_31 ?_
        refine lv_iload_n hx hb dR_shares_34 rfl (lv_at hl 1 rfl) ?_
        refine lv_iload_n hx hb dR_shares_35 rfl (lv_at hl 2 rfl) ?_
        obtain ⟨g12, hm⟩ := gd_to hm
        refine va_iast hx hb hK hP hD hS 4 0 rfl rfl g12 dR_shares_36 (fun H locs hP hD hS => ?_)
        obtain ⟨I13, eI13⟩ : ∃ z : SI, z = va_up I2 4 (upd (I2 4) x1.toNatClampNeg x2) := ⟨_, rfl⟩
        have hm := nm_to eI13 hm
        have hP := P_eq (ws2 := wsR ad cI cJ cG I13 J3) hP (by rw [eI13]; rfl)
        have hD := D_eq (ws2 := wsR ad cI cJ cG I13 J3) hD (by rw [eI13]; rfl)
        refine lv_aload_n hx hb dR_shares_37 rfl (lv_at hl 0 rfl) ?_
        refine va_get (D := D) (ci := 6) (v := .ref (ad 5)) (C := RR) (T := TR) (N := 31) hx hb hT inR hown hK hP 0 rfl rfl 5 (by decide) (hT _ wd_540) (fun _ h9 => h9) rfl dR_shares_38 ?_
        refine lv_iload_n hx hb dR_shares_41 rfl (lv_at hl 1 rfl) ?_
        refine lv_iload_n hx hb dR_shares_42 rfl (lv_at hl 3 rfl) ?_
        obtain ⟨g14, hm⟩ := gd_to hm
        refine va_iast hx hb hK hP hD hS 5 0 rfl rfl g14 dR_shares_43 (fun H locs hP hD hS => ?_)
        obtain ⟨I15, eI15⟩ : ∃ z : SI, z = va_up I13 5 (upd (I13 5) x1.toNatClampNeg x3) := ⟨_, rfl⟩
        have hm := nm_to eI15 hm
        have hP := P_eq (ws2 := wsR ad cI cJ cG I15 J3) hP (by rw [eI15]; rfl)
        have hD := D_eq (ws2 := wsR ad cI cJ cG I15 J3) hD (by rw [eI15]; rfl)
        refine lv_iconst (v := 1) hx hb dR_shares_44 (by decide) ?_
        exact W.zret hx hb hr rfl (fun t ht hW => ⟨⟨1, (I15, J3), rfl, Option.some.inj hm, ht ▸ hP, va_K.moved hW.alike hK, hD⟩, hS.F ht⟩) hS.2.2 dR_shares_45 hlk
      · have hm := brp hm c11
        refine lv_iconst (v := 0) hx hb dR_shares_28 (by decide) ?_
        exact W.zret hx hb hr rfl (fun t ht hW => ⟨⟨0, (I2, J3), rfl, Option.some.inj hm, ht ▸ hP, va_K.moved hW.alike hK, hD⟩, hS.F ht⟩) hS.2.2 dR_shares_29 hlk
set_option maxHeartbeats 4000000 in
set_option maxRecDepth 100000 in
theorem c_R_shares (l : Launch) (D : va_G) (ad : Nat → Nat) (cI cJ cG : ClassId) (sz : Nat) (x1 : Int32) (x2 : Int32) (x3 : Int32) (I : SI) (J : SJ) (res : Int32 × SI × SJ) (hm : m_R_shares x1 x2 x3 I J = some res) : Met l yR_shares (Cond.code yR_shares bR_shares 4 (some .boolean) :: gtb) rm_R_shares (va_Pc [.ref (ad 0), .int x1, .int x2, .int x3] (preW D vwCl (tysR cI cJ cG) (wsR ad cI cJ cG I J) sz)) (va_Qi (fun (r : Int32) (u : SI × SJ) => (r, u) = res) (atW D vwCl (tysR cI cJ cG) (va_A (wsR ad cI cJ cG I J) sz) (wsR ad cI cJ cG)) (va_A (wsR ad cI cJ cG I J) sz)) 0 0 (va_A (wsR ad cI cJ cG I J) sz) := by
  refine Met.ofW (cc := bR_shares) (maxL := 4) (ret := (some .boolean)) (by decide) rfl ?_
  intro p e s m args below meth c s₁ B hml hv
  obtain ⟨rfl, hsz, hP, hK, hD0, hN⟩ := hv
  subst hsz
  have X : Cx p s m [.ref (ad 0), .int x1, .int x2, .int x3].toArray meth c bR_shares (some .boolean) 4 RR := ⟨B.exec, B.bytes, B.returns, hml, findClass_of_methodNamed B.named, fun w h => atoms_spec (ws := (Cond.code yR_shares bR_shares 4 (some .boolean) :: gtb)) B.pre w (List.mem_cons_of_mem _ h), B.notSynchronized⟩
  have hl := lv_entry ([.ref (ad 0), .int x1, .int x2, .int x3]) (n := 4) (Nat.le_of_ble_eq_true rfl)
  rw [lg_entry_eq]
  generalize (lg_sl ([.ref (ad 0), .int x1, .int x2, .int x3]) ++ List.replicate (4 - (lg_sl ([.ref (ad 0), .int x1, .int x2, .int x3])).length) Slot.unset).toArray = ls at hl ⊢
  have hl : lv_has ls 4 [(0, .ref (ad 0)), (1, .int x1), (2, .int x2), (3, .int x3)] := hl
  have hA : ∀ q, s.heap.size ≤ q → va_A (wsR ad cI cJ cG I J) s.heap.size q := fun q h => Or.inr h
  exact w_R_shares_0 X hK hN hA  x1 x2 x3 I J hm _ _ _ hP hD0.self va_S.rf hl
def b_R_silo_0 (x1 : Int32) (x2 : Int32) (I : SI) (J : SJ) : Option (Int32 × SI × SJ) :=
  cl3 (m_R_isStuff x1 I J) fun r1 I2 J3 =>
  if r1 = 0 then
    some (0, I2, J3)
  else
    if x2 = 0 then
      gd (vin x1 4) <|
      nm (va_up I2 6 (upd (I2 6) x1.toNatClampNeg x2)) fun I8 =>
      some (1, I8, J3)
    else
      cl1 (m_R_in x2 5 40) fun r9 =>
      if r9 = 0 then
        some (0, I2, J3)
      else
        gd (vin x1 4) <|
        nm (va_up I2 6 (upd (I2 6) x1.toNatClampNeg x2)) fun I13 =>
        some (1, I13, J3)
def m_R_silo (x1 : Int32) (x2 : Int32) (I : SI) (J : SJ) : Option (Int32 × SI × SJ) := b_R_silo_0 x1 x2 I J
def rm_R_silo : Room := { frames := 1, cells := 0, slots := 0, locals := 22 }
set_option maxHeartbeats 4000000 in
set_option maxRecDepth 100000 in
theorem w_R_silo_0 {p : Program} {l : Launch} {e : Env} {s : State} {m : MethodId} {args : Array Value} {below : List Frame} {meth : Method} {c : Code} {D : va_G} {A : Nat → Prop} {ad : Nat → Nat} {cI cJ cG : ClassId} {res : Int32 × SI × SJ} (X : Cx p s m args meth c bR_silo (some .boolean) 3 RR) (hK : va_K D vwCl (tysR cI cJ cG) s) (hN : NWs s) (hA : ∀ q, s.heap.size ≤ q → A q)
     (x1 : Int32) (x2 : Int32) (I : SI) (J : SJ) (hm : b_R_silo_0  x1 x2 I J = some res) : WB p l e (headSpec (Cond.code yR_silo bR_silo 3 (some .boolean) :: gtb) rm_R_silo).room s m args below meth c (MQ below (va_Qi (fun (r : Int32) (u : SI × SJ) => (r, u) = res) (atW D vwCl (tysR cI cJ cG) A (wsR ad cI cJ cG)) A) args s 0 0 A) D vwCl A 3 (wsR ad cI cJ cG I J) 0 [(0, .ref (ad 0)), (1, .int x1), (2, .int x2)] [] := by
  obtain ⟨hx, hb, hr, hml, hown, hT, hlk⟩ := X
  intro H locs ls hP hD hS hl
  unfold b_R_silo_0 at hm
  refine lv_aload_n hx hb dR_silo_0 rfl (lv_at hl 0 rfl) ?_
  refine lv_iload_n hx hb dR_silo_1 rfl (lv_at hl 1 rfl) ?_
  obtain ⟨r1, I2, J3, hc4, hm⟩ := cl3_to hm
  refine pst_i (wf := wsR ad cI cJ cG) hD hS hA (va_runV (As := [.int x1]) (rest := []) ⟨hx, hb, hml, hown, hT⟩ (c_R_isStuff l D ad cI cJ cG _ x1 I J _ hc4) (cwV 1 hT (gV wd_641 wd_643 wd_32 wd_57 wd_644) rfl rfl rfl (by decide +kernel) ⟨Nat.le_of_ble_eq_true rfl, Nat.le_of_ble_eq_true rfl⟩) ⟨preW_fb, va_recv hK hP (ci := 6) (q0 := 0) rfl rfl, preW_at hP hK hN hD⟩ rfl rfl hl.1 rfl (lv_room (Nat.le_of_ble_eq_true rfl)) dR_silo_2 ⟨Nat.zero_le _, Nat.zero_le _⟩) (fun H locs hP hD hS => ?_)
  refine lv_if_eq (tgt := 22) hx hb dR_silo_5 (by decide) (fun c5 => ?_) (fun c5 => ?_)
  · have hm := brp hm c5
    refine lv_iconst (v := 0) hx hb dR_silo_22 (by decide) ?_
    exact W.zret hx hb hr rfl (fun t ht hW => ⟨⟨0, (I2, J3), rfl, Option.some.inj hm, ht ▸ hP, va_K.moved hW.alike hK, hD⟩, hS.F ht⟩) hS.2.2 dR_silo_23 hlk
  · have hm := brn hm c5
    refine lv_iload_n hx hb dR_silo_8 rfl (lv_at hl 2 rfl) ?_
    refine lv_if_eq (tgt := 24) hx hb dR_silo_9 (by decide) (fun c6 => ?_) (fun c6 => ?_)
    · have hm := brp hm c6
      refine lv_aload_n hx hb dR_silo_24 rfl (lv_at hl 0 rfl) ?_
      refine va_get (D := D) (ci := 6) (v := .ref (ad 6)) (C := RR) (T := TR) (N := 31) hx hb hT inR hown hK hP 0 rfl rfl 6 (by decide) (hT _ wd_541) (fun _ h9 => h9) rfl dR_silo_25 ?_
      refine lv_iload_n hx hb dR_silo_28 rfl (lv_at hl 1 rfl) ?_
      refine lv_iload_n hx hb dR_silo_29 rfl (lv_at hl 2 rfl) ?_
      obtain ⟨g7, hm⟩ := gd_to hm
      refine va_iast hx hb hK hP hD hS 6 0 rfl rfl g7 dR_silo_30 (fun H locs hP hD hS => ?_)
      obtain ⟨I8, eI8⟩ : ∃ z : SI, z = va_up I2 6 (upd (I2 6) x1.toNatClampNeg x2) := ⟨_, rfl⟩
      have hm := nm_to eI8 hm
      have hP := P_eq (ws2 := wsR ad cI cJ cG I8 J3) hP (by rw [eI8]; rfl)
      have hD := D_eq (ws2 := wsR ad cI cJ cG I8 J3) hD (by rw [eI8]; rfl)
      refine lv_iconst (v := 1) hx hb dR_silo_31 (by decide) ?_
      exact W.zret hx hb hr rfl (fun t ht hW => ⟨⟨1, (I8, J3), rfl, Option.some.inj hm, ht ▸ hP, va_K.moved hW.alike hK, hD⟩, hS.F ht⟩) hS.2.2 dR_silo_32 hlk
    · have hm := brn hm c6
      refine lv_iload_n hx hb dR_silo_12 rfl (lv_at hl 2 rfl) ?_
      refine lv_iconst (v := 5) hx hb dR_silo_13 (by decide) ?_
      refine lv_bipush (v := 40) hx hb dR_silo_14 (by decide) ?_
      obtain ⟨r9, hc10, hm⟩ := cl1_to hm
      refine pstZ_i hS (va_runS (As := [.int x2, .int 5, .int 40]) (rest := []) ⟨hx, hb, hml, hown, hT⟩ (c_R_in l x2 5 40 _ hc10) (va_cwS 3 hT (gS wd_634 wd_635 wd_57 wd_636) rfl rfl rfl (by decide +kernel) ⟨Nat.le_of_ble_eq_true rfl, Nat.le_of_ble_eq_true rfl⟩) ⟨preZ_fb, preZ_at⟩ rfl rfl hl.1 rfl (lv_room (Nat.le_of_ble_eq_true rfl)) dR_silo_16 ⟨Nat.zero_le _, Nat.zero_le _⟩) (fun H1 locs hq hS => ?_)
      have hP := keptP hP hq
      refine lv_if_ne (tgt := 24) hx hb dR_silo_19 (by decide) (fun c11 => ?_) (fun c11 => ?_)
      · have hm := brn hm c11
        refine lv_aload_n hx hb dR_silo_24 rfl (lv_at hl 0 rfl) ?_
        refine va_get (D := D) (ci := 6) (v := .ref (ad 6)) (C := RR) (T := TR) (N := 31) hx hb hT inR hown hK hP 0 rfl rfl 6 (by decide) (hT _ wd_541) (fun _ h9 => h9) rfl dR_silo_25 ?_
        refine lv_iload_n hx hb dR_silo_28 rfl (lv_at hl 1 rfl) ?_
        refine lv_iload_n hx hb dR_silo_29 rfl (lv_at hl 2 rfl) ?_
        obtain ⟨g12, hm⟩ := gd_to hm
        refine va_iast hx hb hK hP hD hS 6 0 rfl rfl g12 dR_silo_30 (fun H locs hP hD hS => ?_)
        obtain ⟨I13, eI13⟩ : ∃ z : SI, z = va_up I2 6 (upd (I2 6) x1.toNatClampNeg x2) := ⟨_, rfl⟩
        have hm := nm_to eI13 hm
        have hP := P_eq (ws2 := wsR ad cI cJ cG I13 J3) hP (by rw [eI13]; rfl)
        have hD := D_eq (ws2 := wsR ad cI cJ cG I13 J3) hD (by rw [eI13]; rfl)
        refine lv_iconst (v := 1) hx hb dR_silo_31 (by decide) ?_
        exact W.zret hx hb hr rfl (fun t ht hW => ⟨⟨1, (I13, J3), rfl, Option.some.inj hm, ht ▸ hP, va_K.moved hW.alike hK, hD⟩, hS.F ht⟩) hS.2.2 dR_silo_32 hlk
      · have hm := brp hm c11
        refine lv_iconst (v := 0) hx hb dR_silo_22 (by decide) ?_
        exact W.zret hx hb hr rfl (fun t ht hW => ⟨⟨0, (I2, J3), rfl, Option.some.inj hm, ht ▸ hP, va_K.moved hW.alike hK, hD⟩, hS.F ht⟩) hS.2.2 dR_silo_23 hlk
set_option maxHeartbeats 4000000 in
set_option maxRecDepth 100000 in
theorem c_R_silo (l : Launch) (D : va_G) (ad : Nat → Nat) (cI cJ cG : ClassId) (sz : Nat) (x1 : Int32) (x2 : Int32) (I : SI) (J : SJ) (res : Int32 × SI × SJ) (hm : m_R_silo x1 x2 I J = some res) : Met l yR_silo (Cond.code yR_silo bR_silo 3 (some .boolean) :: gtb) rm_R_silo (va_Pc [.ref (ad 0), .int x1, .int x2] (preW D vwCl (tysR cI cJ cG) (wsR ad cI cJ cG I J) sz)) (va_Qi (fun (r : Int32) (u : SI × SJ) => (r, u) = res) (atW D vwCl (tysR cI cJ cG) (va_A (wsR ad cI cJ cG I J) sz) (wsR ad cI cJ cG)) (va_A (wsR ad cI cJ cG I J) sz)) 0 0 (va_A (wsR ad cI cJ cG I J) sz) := by
  refine Met.ofW (cc := bR_silo) (maxL := 3) (ret := (some .boolean)) (by decide) rfl ?_
  intro p e s m args below meth c s₁ B hml hv
  obtain ⟨rfl, hsz, hP, hK, hD0, hN⟩ := hv
  subst hsz
  have X : Cx p s m [.ref (ad 0), .int x1, .int x2].toArray meth c bR_silo (some .boolean) 3 RR := ⟨B.exec, B.bytes, B.returns, hml, findClass_of_methodNamed B.named, fun w h => atoms_spec (ws := (Cond.code yR_silo bR_silo 3 (some .boolean) :: gtb)) B.pre w (List.mem_cons_of_mem _ h), B.notSynchronized⟩
  have hl := lv_entry ([.ref (ad 0), .int x1, .int x2]) (n := 3) (Nat.le_of_ble_eq_true rfl)
  rw [lg_entry_eq]
  generalize (lg_sl ([.ref (ad 0), .int x1, .int x2]) ++ List.replicate (3 - (lg_sl ([.ref (ad 0), .int x1, .int x2])).length) Slot.unset).toArray = ls at hl ⊢
  have hl : lv_has ls 3 [(0, .ref (ad 0)), (1, .int x1), (2, .int x2)] := hl
  have hA : ∀ q, s.heap.size ≤ q → va_A (wsR ad cI cJ cG I J) s.heap.size q := fun q h => Or.inr h
  exact w_R_silo_0 X hK hN hA  x1 x2 I J hm _ _ _ hP hD0.self va_S.rf hl
end
section
def b_R_over_15 (k15 : Int32 → Nat → Int64 → Int32 → SI → SJ → Option (Int64 × SI × SJ)) (x1 : Int32) (aa : Nat) (x6 : Int64) (x8 : Int32) (I : SI) (J : SJ) : Option (Int64 × SI × SJ) :=
  gd (aa ∈ [15, 17]) <|
  if (I 0 0) ≤ x8 then
    some (x6, I, J)
  else
    cl3 (m_R_factor x1 x8 I J) fun r2 I3 J4 =>
    gd (vin x8 4) <|
    nm (J4 aa x8.toNatClampNeg) fun v7 =>
    nm (r2 * v7) fun v8 =>
    nm (x6 + v8) fun v9 =>
    nm (x8 + 1) fun v10 =>
    k15 x1 aa v9 v10 I3 J4
def b_R_over_0 (k15 : Int32 → Nat → Int64 → Int32 → SI → SJ → Option (Int64 × SI × SJ)) (x1 : Int32) (x2 : Int32) (aa : Nat) (x4 : Int64) (I : SI) (J : SJ) : Option (Int64 × SI × SJ) :=
  gd (aa ∈ [15, 17]) <|
  cl3 (m_R_right x1 x2 I J) fun r1 I2 J3 =>
  nm (-r1) fun v5 =>
  nm (v5 * x4) fun v6 =>
  k15 x1 aa v6 0 I2 J3
def g_R_over : Nat → (Int32 → Nat → Int64 → Int32 → SI → SJ → Option (Int64 × SI × SJ))
  | 0 => (fun _ _ _ _ _ _ => none)
  | n + 1 => (fun x1 aa x6 x8 I J => b_R_over_15 (g_R_over n) x1 aa x6 x8 I J)
def m_R_over (x1 : Int32) (x2 : Int32) (aa : Nat) (x4 : Int64) (I : SI) (J : SJ) : Option (Int64 × SI × SJ) := b_R_over_0 (g_R_over fuel) x1 x2 aa x4 I J
def rm_R_over : Room := { frames := 1, cells := 0, slots := 0, locals := 22 }
set_option maxHeartbeats 4000000 in
set_option maxRecDepth 100000 in
theorem w_R_over_15 {p : Program} {l : Launch} {e : Env} {s : State} {m : MethodId} {args : Array Value} {below : List Frame} {meth : Method} {c : Code} {D : va_G} {A : Nat → Prop} {ad : Nat → Nat} {cI cJ cG : ClassId} {res : Int64 × SI × SJ} (X : Cx p s m args meth c bR_over (some .long) 9 RR) (hK : va_K D vwCl (tysR cI cJ cG) s) (hN : NWs s) (hA : ∀ q, s.heap.size ≤ q → A q)
    {k15 : Int32 → Nat → Int64 → Int32 → SI → SJ → Option (Int64 × SI × SJ)} (hk15 : ∀ (x1 : Int32) (aa : Nat) (x6 : Int64) (x8 : Int32) (I : SI) (J : SJ), k15 x1 aa x6 x8 I J = some res → WB p l e (headSpec (Cond.code yR_over bR_over 9 (some .long) :: gtb) rm_R_over).room s m args below meth c (MQ below (va_Ql (fun (r : Int64) (u : SI × SJ) => (r, u) = res) (atW D vwCl (tysR cI cJ cG) A (wsR ad cI cJ cG)) A) args s 0 0 A) D vwCl A 9 (wsR ad cI cJ cG I J) 15 [(0, .ref (ad 0)), (1, .int x1), (3, .ref (ad aa)), (6, .long x6), (8, .int x8)] [])
     (x1 : Int32) (aa : Nat) (x6 : Int64) (x8 : Int32) (I : SI) (J : SJ) (hm : b_R_over_15 k15 x1 aa x6 x8 I J = some res) : WB p l e (headSpec (Cond.code yR_over bR_over 9 (some .long) :: gtb) rm_R_over).room s m args below meth c (MQ below (va_Ql (fun (r : Int64) (u : SI × SJ) => (r, u) = res) (atW D vwCl (tysR cI cJ cG) A (wsR ad cI cJ cG)) A) args s 0 0 A) D vwCl A 9 (wsR ad cI cJ cG I J) 15 [(0, .ref (ad 0)), (1, .int x1), (3, .ref (ad aa)), (6, .long x6), (8, .int x8)] [] := by
  obtain ⟨hx, hb, hr, hml, hown, hT, hlk⟩ := X
  intro H locs ls hP hD hS hl
  unfold b_R_over_15 at hm
  obtain ⟨hf_aa, hm⟩ := gd_to hm
  refine lv_iload hx hb dR_over_15 (lv_at hl 4 rfl) ?_
  refine lv_aload_n hx hb dR_over_17 rfl (lv_at hl 0 rfl) ?_
  refine va_get (D := D) (ci := 6) (v := .int (I 0 0)) (C := RR) (T := TR) (N := 31) hx hb hT inR hown hK hP 0 rfl rfl 0 (by decide) (hT _ wd_535) (fun _ h9 => h9) rfl dR_over_18 ?_
  refine lv_icmp_ge (tgt := 47) hx hb dR_over_21 (by decide) (fun c1 => ?_) (fun c1 => ?_)
  · have hm := brp hm c1
    refine lv_lload hx hb dR_over_47 (lv_at hl 3 rfl) ?_
    exact W.lret hx hb hr (fun t ht hW => ⟨⟨x6, (I, J), rfl, Option.some.inj hm, ht ▸ hP, va_K.moved hW.alike hK, hD⟩, hS.F ht⟩) hS.2.2 dR_over_49 hlk
  · have hm := brn hm c1
    refine lv_lload hx hb dR_over_24 (lv_at hl 3 rfl) ?_
    refine lv_aload_n hx hb dR_over_26 rfl (lv_at hl 0 rfl) ?_
    refine lv_iload_n hx hb dR_over_27 rfl (lv_at hl 1 rfl) ?_
    refine lv_iload hx hb dR_over_28 (lv_at hl 4 rfl) ?_
    obtain ⟨r2, I3, J4, hc5, hm⟩ := cl3_to hm
    refine pst_l (wf := wsR ad cI cJ cG) hD hS hA (va_runV (As := [.int x1, .int x8]) (rest := [.long x6]) ⟨hx, hb, hml, hown, hT⟩ (c_R_factor l D ad cI cJ cG _ x1 x8 I J _ hc5) (cwV 2 hT (gV wd_701 wd_703 wd_41 wd_57 wd_704) rfl rfl rfl (by decide +kernel) ⟨Nat.le_of_ble_eq_true rfl, Nat.le_of_ble_eq_true rfl⟩) ⟨preW_fb, va_recv hK hP (ci := 6) (q0 := 0) rfl rfl, preW_at hP hK hN hD⟩ rfl rfl hl.1 rfl (lv_room (Nat.le_of_ble_eq_true rfl)) dR_over_30 ⟨Nat.zero_le _, Nat.zero_le _⟩) (fun H locs hP hD hS => ?_)
    refine lv_aload_n hx hb dR_over_33 rfl (lv_at hl 2 rfl) ?_
    refine lv_iload hx hb dR_over_34 (lv_at hl 4 rfl) ?_
    obtain ⟨g6, hm⟩ := gd_to hm
    refine va_lald hx hb hK hP aa 1 (famR_am hf_aa) rfl g6 dR_over_36 ?_
    refine lv_topl (fun v7 ev7 => ?_)
    have hm := nm_to ev7 hm
    refine lv_lmul hx hb dR_over_37 ?_
    refine lv_topl (fun v8 ev8 => ?_)
    have hm := nm_to ev8 hm
    refine lv_ladd hx hb dR_over_38 ?_
    refine lv_topl (fun v9 ev9 => ?_)
    have hm := nm_to ev9 hm
    refine lv_lstore (lv' := [(6, .long v9), (0, .ref (ad 0)), (1, .int x1), (3, .ref (ad aa)), (8, .int x8)]) hx hb dR_over_39 hl (by decide) rfl (fun ls hl => ?_)
    obtain ⟨v10, ev10⟩ : ∃ z : Int32, z = x8 + 1 := ⟨_, rfl⟩
    have hm := nm_to ev10 hm
    refine lv_iinc (v := v10) (lv' := [(8, .int v10), (6, .long v9), (0, .ref (ad 0)), (1, .int x1), (3, .ref (ad aa))]) hx hb dR_over_41 hl (k := 4) rfl (by rw [ev10]; rfl) (by decide) rfl (fun ls hl => ?_)
    refine lv_goto (tgt := 15) hx hb dR_over_44 (by decide) ?_
    exact hk15 x1 aa v9 v10 I3 J4 hm _ _ _ hP hD hS (lv_sub hl [2, 3, 4, 1, 0] rfl)
set_option maxHeartbeats 4000000 in
set_option maxRecDepth 100000 in
theorem w_R_over_0 {p : Program} {l : Launch} {e : Env} {s : State} {m : MethodId} {args : Array Value} {below : List Frame} {meth : Method} {c : Code} {D : va_G} {A : Nat → Prop} {ad : Nat → Nat} {cI cJ cG : ClassId} {res : Int64 × SI × SJ} (X : Cx p s m args meth c bR_over (some .long) 9 RR) (hK : va_K D vwCl (tysR cI cJ cG) s) (hN : NWs s) (hA : ∀ q, s.heap.size ≤ q → A q)
    {k15 : Int32 → Nat → Int64 → Int32 → SI → SJ → Option (Int64 × SI × SJ)} (hk15 : ∀ (x1 : Int32) (aa : Nat) (x6 : Int64) (x8 : Int32) (I : SI) (J : SJ), k15 x1 aa x6 x8 I J = some res → WB p l e (headSpec (Cond.code yR_over bR_over 9 (some .long) :: gtb) rm_R_over).room s m args below meth c (MQ below (va_Ql (fun (r : Int64) (u : SI × SJ) => (r, u) = res) (atW D vwCl (tysR cI cJ cG) A (wsR ad cI cJ cG)) A) args s 0 0 A) D vwCl A 9 (wsR ad cI cJ cG I J) 15 [(0, .ref (ad 0)), (1, .int x1), (3, .ref (ad aa)), (6, .long x6), (8, .int x8)] [])
     (x1 : Int32) (x2 : Int32) (aa : Nat) (x4 : Int64) (I : SI) (J : SJ) (hm : b_R_over_0 k15 x1 x2 aa x4 I J = some res) : WB p l e (headSpec (Cond.code yR_over bR_over 9 (some .long) :: gtb) rm_R_over).room s m args below meth c (MQ below (va_Ql (fun (r : Int64) (u : SI × SJ) => (r, u) = res) (atW D vwCl (tysR cI cJ cG) A (wsR ad cI cJ cG)) A) args s 0 0 A) D vwCl A 9 (wsR ad cI cJ cG I J) 0 [(0, .ref (ad 0)), (1, .int x1), (2, .int x2), (3, .ref (ad aa)), (4, .long x4)] [] := by
  obtain ⟨hx, hb, hr, hml, hown, hT, hlk⟩ := X
  intro H locs ls hP hD hS hl
  unfold b_R_over_0 at hm
  obtain ⟨hf_aa, hm⟩ := gd_to hm
  refine lv_aload_n hx hb dR_over_0 rfl (lv_at hl 0 rfl) ?_
  refine lv_iload_n hx hb dR_over_1 rfl (lv_at hl 1 rfl) ?_
  refine lv_iload_n hx hb dR_over_2 rfl (lv_at hl 2 rfl) ?_
  obtain ⟨r1, I2, J3, hc4, hm⟩ := cl3_to hm
  refine pst_l (wf := wsR ad cI cJ cG) hD hS hA (va_runV (As := [.int x1, .int x2]) (rest := []) ⟨hx, hb, hml, hown, hT⟩ (c_R_right l D ad cI cJ cG _ x1 x2 I J _ hc4) (cwV 2 hT (gV wd_697 wd_699 wd_40 wd_57 wd_700) rfl rfl rfl (by decide +kernel) ⟨Nat.le_of_ble_eq_true rfl, Nat.le_of_ble_eq_true rfl⟩) ⟨preW_fb, va_recv hK hP (ci := 6) (q0 := 0) rfl rfl, preW_at hP hK hN hD⟩ rfl rfl hl.1 rfl (lv_room (Nat.le_of_ble_eq_true rfl)) dR_over_3 ⟨Nat.zero_le _, Nat.zero_le _⟩) (fun H locs hP hD hS => ?_)
  refine lv_lneg hx hb dR_over_6 ?_
  refine lv_topl (fun v5 ev5 => ?_)
  have hm := nm_to ev5 hm
  refine lv_lload hx hb dR_over_7 (lv_at hl 4 rfl) ?_
  refine lv_lmul hx hb dR_over_9 ?_
  refine lv_topl (fun v6 ev6 => ?_)
  have hm := nm_to ev6 hm
  refine lv_lstore (lv' := [(6, .long v6), (0, .ref (ad 0)), (1, .int x1), (2, .int x2), (3, .ref (ad aa)), (4, .long x4)]) hx hb dR_over_10 hl (by decide) rfl (fun ls hl => ?_)
  refine lv_iconst (v := 0) hx hb dR_over_12 (by decide) ?_
  refine lv_istore (lv' := [(8, .int 0), (6, .long v6), (0, .ref (ad 0)), (1, .int x1), (2, .int x2), (3, .ref (ad aa)), (4, .long x4)]) hx hb dR_over_13 hl (by decide) rfl (fun ls hl => ?_)
  exact hk15 x1 aa v6 0 I2 J3 hm _ _ _ hP hD hS (lv_sub hl [2, 3, 5, 1, 0] rfl)
set_option maxHeartbeats 4000000 in
theorem gw_R_over {p : Program} {l : Launch} {e : Env} {s : State} {m : MethodId} {args : Array Value} {below : List Frame} {meth : Method} {c : Code} {D : va_G} {A : Nat → Prop} {ad : Nat → Nat} {cI cJ cG : ClassId} {res : Int64 × SI × SJ} (X : Cx p s m args meth c bR_over (some .long) 9 RR) (hK : va_K D vwCl (tysR cI cJ cG) s) (hN : NWs s) (hA : ∀ q, s.heap.size ≤ q → A q) : ∀ n : Nat, (∀ (x1 : Int32) (aa : Nat) (x6 : Int64) (x8 : Int32) (I : SI) (J : SJ), (g_R_over n) x1 aa x6 x8 I J = some res → WB p l e (headSpec (Cond.code yR_over bR_over 9 (some .long) :: gtb) rm_R_over).room s m args below meth c (MQ below (va_Ql (fun (r : Int64) (u : SI × SJ) => (r, u) = res) (atW D vwCl (tysR cI cJ cG) A (wsR ad cI cJ cG)) A) args s 0 0 A) D vwCl A 9 (wsR ad cI cJ cG I J) 15 [(0, .ref (ad 0)), (1, .int x1), (3, .ref (ad aa)), (6, .long x6), (8, .int x8)] []) := by
  intro n
  induction n with
  | zero => exact fun _ _ _ _ _ _ h => (by cases h)
  | succ n ih =>
    have ih15 := ih
    exact fun x1 aa x6 x8 I J h => w_R_over_15 X hK hN hA ih15 x1 aa x6 x8 I J h
set_option maxHeartbeats 4000000 in
set_option maxRecDepth 100000 in
theorem c_R_over (l : Launch) (D : va_G) (ad : Nat → Nat) (cI cJ cG : ClassId) (sz : Nat) (x1 : Int32) (x2 : Int32) (aa : Nat) (x4 : Int64) (I : SI) (J : SJ) (res : Int64 × SI × SJ) (hm : m_R_over x1 x2 aa x4 I J = some res) : Met l yR_over (Cond.code yR_over bR_over 9 (some .long) :: gtb) rm_R_over (va_Pc [.ref (ad 0), .int x1, .int x2, .ref (ad aa), .long x4] (preW D vwCl (tysR cI cJ cG) (wsR ad cI cJ cG I J) sz)) (va_Ql (fun (r : Int64) (u : SI × SJ) => (r, u) = res) (atW D vwCl (tysR cI cJ cG) (va_A (wsR ad cI cJ cG I J) sz) (wsR ad cI cJ cG)) (va_A (wsR ad cI cJ cG I J) sz)) 0 0 (va_A (wsR ad cI cJ cG I J) sz) := by
  refine Met.ofW (cc := bR_over) (maxL := 9) (ret := (some .long)) (by decide) rfl ?_
  intro p e s m args below meth c s₁ B hml hv
  obtain ⟨rfl, hsz, hP, hK, hD0, hN⟩ := hv
  subst hsz
  have X : Cx p s m [.ref (ad 0), .int x1, .int x2, .ref (ad aa), .long x4].toArray meth c bR_over (some .long) 9 RR := ⟨B.exec, B.bytes, B.returns, hml, findClass_of_methodNamed B.named, fun w h => atoms_spec (ws := (Cond.code yR_over bR_over 9 (some .long) :: gtb)) B.pre w (List.mem_cons_of_mem _ h), B.notSynchronized⟩
  have hl := lv_entry ([.ref (ad 0), .int x1, .int x2, .ref (ad aa), .long x4]) (n := 9) (Nat.le_of_ble_eq_true rfl)
  rw [lg_entry_eq]
  generalize (lg_sl ([.ref (ad 0), .int x1, .int x2, .ref (ad aa), .long x4]) ++ List.replicate (9 - (lg_sl ([.ref (ad 0), .int x1, .int x2, .ref (ad aa), .long x4])).length) Slot.unset).toArray = ls at hl ⊢
  have hl : lv_has ls 9 [(0, .ref (ad 0)), (1, .int x1), (2, .int x2), (3, .ref (ad aa)), (4, .long x4)] := hl
  have hA : ∀ q, s.heap.size ≤ q → va_A (wsR ad cI cJ cG I J) s.heap.size q := fun q h => Or.inr h
  exact w_R_over_0 X hK hN hA (gw_R_over X hK hN hA fuel) x1 x2 aa x4 I J hm _ _ _ hP hD0.self va_S.rf hl
def b_R_keepsAll_4 (k4 : Int32 → Int32 → Int32 → SI → SJ → Option (Int32 × SI × SJ)) (x1 : Int32) (x2 : Int32) (x3 : Int32) (I : SI) (J : SJ) : Option (Int32 × SI × SJ) :=
  if 22 ≤ x3 then
    gd (narrow .boolean (.int x2) = .int x2) <|
    some (x2, I, J)
  else
    if x2 = 0 then
      gd (narrow .boolean (.int x2) = .int x2) <|
      some (x2, I, J)
    else
      gd (vin x3 22) <|
      nm (I 11 x3.toNatClampNeg) fun v6 =>
      if v6 = 0 then
        nm (x3 + 1) fun v8 =>
        k4 x1 x2 v8 I J
      else
        cl3 (m_R_over x3 x1 15 (J 0 26) I J) fun r9 I10 J11 =>
        cl1 (m_R_isLeast x3) fun r13 =>
        if r13 = 0 then
          nm (lg_cmp r9 0) fun v16 =>
          if 0 < v16 then
            nm (x3 + 1) fun v18 =>
            k4 x1 0 v18 I10 J11
          else
            nm (x3 + 1) fun v19 =>
            k4 x1 1 v19 I10 J11
        else
          nm (lg_cmp r9 0) fun v20 =>
          if v20 < 0 then
            nm (x3 + 1) fun v22 =>
            k4 x1 0 v22 I10 J11
          else
            nm (x3 + 1) fun v23 =>
            k4 x1 1 v23 I10 J11
def b_R_keepsAll_0 (k4 : Int32 → Int32 → Int32 → SI → SJ → Option (Int32 × SI × SJ)) (x1 : Int32) (I : SI) (J : SJ) : Option (Int32 × SI × SJ) :=
  k4 x1 1 0 I J
def g_R_keepsAll : Nat → (Int32 → Int32 → Int32 → SI → SJ → Option (Int32 × SI × SJ))
  | 0 => (fun _ _ _ _ _ => none)
  | n + 1 => (fun x1 x2 x3 I J => b_R_keepsAll_4 (g_R_keepsAll n) x1 x2 x3 I J)
def m_R_keepsAll (x1 : Int32) (I : SI) (J : SJ) : Option (Int32 × SI × SJ) := b_R_keepsAll_0 (g_R_keepsAll fuel) x1 I J
def rm_R_keepsAll : Room := { frames := 2, cells := 0, slots := 0, locals := 50 }
set_option maxHeartbeats 4000000 in
set_option maxRecDepth 100000 in
theorem w_R_keepsAll_4 {p : Program} {l : Launch} {e : Env} {s : State} {m : MethodId} {args : Array Value} {below : List Frame} {meth : Method} {c : Code} {D : va_G} {A : Nat → Prop} {ad : Nat → Nat} {cI cJ cG : ClassId} {res : Int32 × SI × SJ} (X : Cx p s m args meth c bR_keepsAll (some .boolean) 6 RR) (hK : va_K D vwCl (tysR cI cJ cG) s) (hN : NWs s) (hA : ∀ q, s.heap.size ≤ q → A q)
    {k4 : Int32 → Int32 → Int32 → SI → SJ → Option (Int32 × SI × SJ)} (hk4 : ∀ (x1 : Int32) (x2 : Int32) (x3 : Int32) (I : SI) (J : SJ), k4 x1 x2 x3 I J = some res → WB p l e (headSpec (Cond.code yR_keepsAll bR_keepsAll 6 (some .boolean) :: gtb) rm_R_keepsAll).room s m args below meth c (MQ below (va_Qi (fun (r : Int32) (u : SI × SJ) => (r, u) = res) (atW D vwCl (tysR cI cJ cG) A (wsR ad cI cJ cG)) A) args s 0 0 A) D vwCl A 6 (wsR ad cI cJ cG I J) 4 [(0, .ref (ad 0)), (1, .int x1), (2, .int x2), (3, .int x3)] [])
     (x1 : Int32) (x2 : Int32) (x3 : Int32) (I : SI) (J : SJ) (hm : b_R_keepsAll_4 k4 x1 x2 x3 I J = some res) : WB p l e (headSpec (Cond.code yR_keepsAll bR_keepsAll 6 (some .boolean) :: gtb) rm_R_keepsAll).room s m args below meth c (MQ below (va_Qi (fun (r : Int32) (u : SI × SJ) => (r, u) = res) (atW D vwCl (tysR cI cJ cG) A (wsR ad cI cJ cG)) A) args s 0 0 A) D vwCl A 6 (wsR ad cI cJ cG I J) 4 [(0, .ref (ad 0)), (1, .int x1), (2, .int x2), (3, .int x3)] [] := by
  obtain ⟨hx, hb, hr, hml, hown, hT, hlk⟩ := X
  intro H locs ls hP hD hS hl
  unfold b_R_keepsAll_4 at hm
  refine lv_iload_n hx hb dR_keepsAll_4 rfl (lv_at hl 3 rfl) ?_
  refine lv_bipush (v := 22) hx hb dR_keepsAll_5 (by decide) ?_
  refine lv_icmp_ge (tgt := 80) hx hb dR_keepsAll_7 (by decide) (fun c1 => ?_) (fun c1 => ?_)
  · have hm := brp hm c1
    refine lv_iload_n hx hb dR_keepsAll_80 rfl (lv_at hl 2 rfl) ?_
    obtain ⟨g2, hm⟩ := gd_to hm
    exact W.zret hx hb hr g2 (fun t ht hW => ⟨⟨x2, (I, J), rfl, Option.some.inj hm, ht ▸ hP, va_K.moved hW.alike hK, hD⟩, hS.F ht⟩) hS.2.2 dR_keepsAll_81 hlk
  · have hm := brn hm c1
    refine lv_iload_n hx hb dR_keepsAll_10 rfl (lv_at hl 2 rfl) ?_
    refine lv_if_eq (tgt := 80) hx hb dR_keepsAll_11 (by decide) (fun c3 => ?_) (fun c3 => ?_)
    · have hm := brp hm c3
      refine lv_iload_n hx hb dR_keepsAll_80 rfl (lv_at hl 2 rfl) ?_
      obtain ⟨g4, hm⟩ := gd_to hm
      exact W.zret hx hb hr g4 (fun t ht hW => ⟨⟨x2, (I, J), rfl, Option.some.inj hm, ht ▸ hP, va_K.moved hW.alike hK, hD⟩, hS.F ht⟩) hS.2.2 dR_keepsAll_81 hlk
    · have hm := brn hm c3
      refine lv_aload_n hx hb dR_keepsAll_14 rfl (lv_at hl 0 rfl) ?_
      refine va_get (D := D) (ci := 6) (v := .ref (ad 11)) (C := RR) (T := TR) (N := 31) hx hb hT inR hown hK hP 0 rfl rfl 20 (by decide) (hT _ wd_555) (fun _ h9 => h9) rfl dR_keepsAll_15 ?_
      refine lv_iload_n hx hb dR_keepsAll_18 rfl (lv_at hl 3 rfl) ?_
      obtain ⟨g5, hm⟩ := gd_to hm
      refine va_zald hx hb hK hP 11 2 rfl rfl g5 dR_keepsAll_19 ?_
      refine lv_topi (fun v6 ev6 => ?_)
      have hm := nm_to ev6 hm
      refine lv_if_eq (tgt := 74) hx hb dR_keepsAll_20 (by decide) (fun c7 => ?_) (fun c7 => ?_)
      · have hm := brp hm c7
        obtain ⟨v8, ev8⟩ : ∃ z : Int32, z = x3 + 1 := ⟨_, rfl⟩
        have hm := nm_to ev8 hm
        refine lv_iinc (v := v8) (lv' := [(3, .int v8), (0, .ref (ad 0)), (1, .int x1), (2, .int x2)]) hx hb dR_keepsAll_74 hl (k := 3) rfl (by rw [ev8]; rfl) (by decide) rfl (fun ls hl => ?_)
        refine lv_goto (tgt := 4) hx hb dR_keepsAll_77 (by decide) ?_
        exact hk4 x1 x2 v8 I J hm _ _ _ hP hD hS (lv_sub hl [1, 2, 3, 0] rfl)
      · have hm := brn hm c7
        refine lv_aload_n hx hb dR_keepsAll_23 rfl (lv_at hl 0 rfl) ?_
        refine lv_iload_n hx hb dR_keepsAll_24 rfl (lv_at hl 3 rfl) ?_
        refine lv_iload_n hx hb dR_keepsAll_25 rfl (lv_at hl 1 rfl) ?_
        refine lv_aload_n hx hb dR_keepsAll_26 rfl (lv_at hl 0 rfl) ?_
        refine va_get (D := D) (ci := 6) (v := .ref (ad 15)) (C := RR) (T := TR) (N := 31) hx hb hT inR hown hK hP 0 rfl rfl 25 (by decide) (hT _ wd_560) (fun _ h9 => h9) rfl dR_keepsAll_27 ?_
        refine lv_aload_n hx hb dR_keepsAll_30 rfl (lv_at hl 0 rfl) ?_
        refine va_get (D := D) (ci := 6) (v := .long (J 0 26)) (C := RR) (T := TR) (N := 31) hx hb hT inR hown hK hP 0 rfl rfl 26 (by decide) (hT _ wd_561) (fun _ h9 => h9) rfl dR_keepsAll_31 ?_
        obtain ⟨r9, I10, J11, hc12, hm⟩ := cl3_to hm
        refine pst_l (wf := wsR ad cI cJ cG) hD hS hA (va_runV (As := [.int x3, .int x1, .ref (ad 15), .long (J 0 26)]) (rest := []) ⟨hx, hb, hml, hown, hT⟩ (c_R_over l D ad cI cJ cG _ x3 x1 15 (J 0 26) I J _ hc12) (cwV 4 hT (gV wd_711 wd_713 wd_43 wd_57 wd_714) rfl rfl rfl (by decide +kernel) ⟨Nat.le_of_ble_eq_true rfl, Nat.le_of_ble_eq_true rfl⟩) ⟨preW_fb, va_recv hK hP (ci := 6) (q0 := 0) rfl rfl, preW_at hP hK hN hD⟩ rfl rfl hl.1 rfl (lv_room (Nat.le_of_ble_eq_true rfl)) dR_keepsAll_34 ⟨Nat.zero_le _, Nat.zero_le _⟩) (fun H locs hP hD hS => ?_)
        refine lv_lstore (lv' := [(4, .long r9), (0, .ref (ad 0)), (1, .int x1), (2, .int x2), (3, .int x3)]) hx hb dR_keepsAll_37 hl (by decide) rfl (fun ls hl => ?_)
        refine lv_iload_n hx hb dR_keepsAll_39 rfl (lv_at hl 4 rfl) ?_
        obtain ⟨r13, hc14, hm⟩ := cl1_to hm
        refine pstZ_i hS (va_runS (As := [.int x3]) (rest := []) ⟨hx, hb, hml, hown, hT⟩ (c_R_isLeast l x3 _ hc14) (va_cwS 1 hT (gS wd_715 wd_716 wd_57 wd_717) rfl rfl rfl (by decide +kernel) ⟨Nat.le_of_ble_eq_true rfl, Nat.le_of_ble_eq_true rfl⟩) ⟨preZ_fb, preZ_at⟩ rfl rfl hl.1 rfl (lv_room (Nat.le_of_ble_eq_true rfl)) dR_keepsAll_40 ⟨Nat.zero_le _, Nat.zero_le _⟩) (fun H1 locs hq hS => ?_)
        have hP := keptP hP hq
        refine lv_if_eq (tgt := 61) hx hb dR_keepsAll_43 (by decide) (fun c15 => ?_) (fun c15 => ?_)
        · have hm := brp hm c15
          refine lv_lload hx hb dR_keepsAll_61 (lv_at hl 0 rfl) ?_
          refine lv_lconst (v := 0) hx hb dR_keepsAll_63 (by decide) ?_
          refine W.lcmp hx hb dR_keepsAll_64 ?_
          refine lv_topi (fun v16 ev16 => ?_)
          have hm := nm_to ev16 hm
          refine lv_if_gt (tgt := 72) hx hb dR_keepsAll_65 (by decide) (fun c17 => ?_) (fun c17 => ?_)
          · have hm := brp hm c17
            refine lv_iconst (v := 0) hx hb dR_keepsAll_72 (by decide) ?_
            refine lv_istore_n (lv' := [(2, .int 0), (4, .long r9), (0, .ref (ad 0)), (1, .int x1), (3, .int x3)]) hx hb dR_keepsAll_73 rfl hl (by decide) rfl (fun ls hl => ?_)
            obtain ⟨v18, ev18⟩ : ∃ z : Int32, z = x3 + 1 := ⟨_, rfl⟩
            have hm := nm_to ev18 hm
            refine lv_iinc (v := v18) (lv' := [(3, .int v18), (2, .int 0), (4, .long r9), (0, .ref (ad 0)), (1, .int x1)]) hx hb dR_keepsAll_74 hl (k := 4) rfl (by rw [ev18]; rfl) (by decide) rfl (fun ls hl => ?_)
            refine lv_goto (tgt := 4) hx hb dR_keepsAll_77 (by decide) ?_
            exact hk4 x1 0 v18 I10 J11 hm _ _ _ hP hD hS (lv_sub hl [3, 4, 1, 0] rfl)
          · have hm := brn hm c17
            refine lv_iconst (v := 1) hx hb dR_keepsAll_68 (by decide) ?_
            refine lv_goto (tgt := 73) hx hb dR_keepsAll_69 (by decide) ?_
            refine lv_istore_n (lv' := [(2, .int 1), (4, .long r9), (0, .ref (ad 0)), (1, .int x1), (3, .int x3)]) hx hb dR_keepsAll_73 rfl hl (by decide) rfl (fun ls hl => ?_)
            obtain ⟨v19, ev19⟩ : ∃ z : Int32, z = x3 + 1 := ⟨_, rfl⟩
            have hm := nm_to ev19 hm
            refine lv_iinc (v := v19) (lv' := [(3, .int v19), (2, .int 1), (4, .long r9), (0, .ref (ad 0)), (1, .int x1)]) hx hb dR_keepsAll_74 hl (k := 4) rfl (by rw [ev19]; rfl) (by decide) rfl (fun ls hl => ?_)
            refine lv_goto (tgt := 4) hx hb dR_keepsAll_77 (by decide) ?_
            exact hk4 x1 1 v19 I10 J11 hm _ _ _ hP hD hS (lv_sub hl [3, 4, 1, 0] rfl)
        · have hm := brn hm c15
          refine lv_lload hx hb dR_keepsAll_46 (lv_at hl 0 rfl) ?_
          refine lv_lconst (v := 0) hx hb dR_keepsAll_48 (by decide) ?_
          refine W.lcmp hx hb dR_keepsAll_49 ?_
          refine lv_topi (fun v20 ev20 => ?_)
          have hm := nm_to ev20 hm
          refine lv_if_lt (tgt := 57) hx hb dR_keepsAll_50 (by decide) (fun c21 => ?_) (fun c21 => ?_)
          · have hm := brp hm c21
            refine lv_iconst (v := 0) hx hb dR_keepsAll_57 (by decide) ?_
            refine lv_goto (tgt := 73) hx hb dR_keepsAll_58 (by decide) ?_
            refine lv_istore_n (lv' := [(2, .int 0), (4, .long r9), (0, .ref (ad 0)), (1, .int x1), (3, .int x3)]) hx hb dR_keepsAll_73 rfl hl (by decide) rfl (fun ls hl => ?_)
            obtain ⟨v22, ev22⟩ : ∃ z : Int32, z = x3 + 1 := ⟨_, rfl⟩
            have hm := nm_to ev22 hm
            refine lv_iinc (v := v22) (lv' := [(3, .int v22), (2, .int 0), (4, .long r9), (0, .ref (ad 0)), (1, .int x1)]) hx hb dR_keepsAll_74 hl (k := 4) rfl (by rw [ev22]; rfl) (by decide) rfl (fun ls hl => ?_)
            refine lv_goto (tgt := 4) hx hb dR_keepsAll_77 (by decide) ?_
            exact hk4 x1 0 v22 I10 J11 hm _ _ _ hP hD hS (lv_sub hl [3, 4, 1, 0] rfl)
          · have hm := brn hm c21
            refine lv_iconst (v := 1) hx hb dR_keepsAll_53 (by decide) ?_
            refine lv_goto (tgt := 73) hx hb dR_keepsAll_54 (by decide) ?_
            refine lv_istore_n (lv' := [(2, .int 1), (4, .long r9), (0, .ref (ad 0)), (1, .int x1), (3, .int x3)]) hx hb dR_keepsAll_73 rfl hl (by decide) rfl (fun ls hl => ?_)
            obtain ⟨v23, ev23⟩ : ∃ z : Int32, z = x3 + 1 := ⟨_, rfl⟩
            have hm := nm_to ev23 hm
            refine lv_iinc (v := v23) (lv' := [(3, .int v23), (2, .int 1), (4, .long r9), (0, .ref (ad 0)), (1, .int x1)]) hx hb dR_keepsAll_74 hl (k := 4) rfl (by rw [ev23]; rfl) (by decide) rfl (fun ls hl => ?_)
            refine lv_goto (tgt := 4) hx hb dR_keepsAll_77 (by decide) ?_
            exact hk4 x1 1 v23 I10 J11 hm _ _ _ hP hD hS (lv_sub hl [3, 4, 1, 0] rfl)
set_option maxHeartbeats 4000000 in
set_option maxRecDepth 100000 in
theorem w_R_keepsAll_0 {p : Program} {l : Launch} {e : Env} {s : State} {m : MethodId} {args : Array Value} {below : List Frame} {meth : Method} {c : Code} {D : va_G} {A : Nat → Prop} {ad : Nat → Nat} {cI cJ cG : ClassId} {res : Int32 × SI × SJ} (X : Cx p s m args meth c bR_keepsAll (some .boolean) 6 RR) (hK : va_K D vwCl (tysR cI cJ cG) s) (hN : NWs s) (hA : ∀ q, s.heap.size ≤ q → A q)
    {k4 : Int32 → Int32 → Int32 → SI → SJ → Option (Int32 × SI × SJ)} (hk4 : ∀ (x1 : Int32) (x2 : Int32) (x3 : Int32) (I : SI) (J : SJ), k4 x1 x2 x3 I J = some res → WB p l e (headSpec (Cond.code yR_keepsAll bR_keepsAll 6 (some .boolean) :: gtb) rm_R_keepsAll).room s m args below meth c (MQ below (va_Qi (fun (r : Int32) (u : SI × SJ) => (r, u) = res) (atW D vwCl (tysR cI cJ cG) A (wsR ad cI cJ cG)) A) args s 0 0 A) D vwCl A 6 (wsR ad cI cJ cG I J) 4 [(0, .ref (ad 0)), (1, .int x1), (2, .int x2), (3, .int x3)] [])
     (x1 : Int32) (I : SI) (J : SJ) (hm : b_R_keepsAll_0 k4 x1 I J = some res) : WB p l e (headSpec (Cond.code yR_keepsAll bR_keepsAll 6 (some .boolean) :: gtb) rm_R_keepsAll).room s m args below meth c (MQ below (va_Qi (fun (r : Int32) (u : SI × SJ) => (r, u) = res) (atW D vwCl (tysR cI cJ cG) A (wsR ad cI cJ cG)) A) args s 0 0 A) D vwCl A 6 (wsR ad cI cJ cG I J) 0 [(0, .ref (ad 0)), (1, .int x1)] [] := by
  obtain ⟨hx, hb, hr, hml, hown, hT, hlk⟩ := X
  intro H locs ls hP hD hS hl
  unfold b_R_keepsAll_0 at hm
  refine lv_iconst (v := 1) hx hb dR_keepsAll_0 (by decide) ?_
  refine lv_istore_n (lv' := [(2, .int 1), (0, .ref (ad 0)), (1, .int x1)]) hx hb dR_keepsAll_1 rfl hl (by decide) rfl (fun ls hl => ?_)
  refine lv_iconst (v := 0) hx hb dR_keepsAll_2 (by decide) ?_
  refine lv_istore_n (lv' := [(3, .int 0), (2, .int 1), (0, .ref (ad 0)), (1, .int x1)]) hx hb dR_keepsAll_3 rfl hl (by decide) rfl (fun ls hl => ?_)
  exact hk4 x1 1 0 I J hm _ _ _ hP hD hS (lv_sub hl [2, 3, 1, 0] rfl)
set_option maxHeartbeats 4000000 in
theorem gw_R_keepsAll {p : Program} {l : Launch} {e : Env} {s : State} {m : MethodId} {args : Array Value} {below : List Frame} {meth : Method} {c : Code} {D : va_G} {A : Nat → Prop} {ad : Nat → Nat} {cI cJ cG : ClassId} {res : Int32 × SI × SJ} (X : Cx p s m args meth c bR_keepsAll (some .boolean) 6 RR) (hK : va_K D vwCl (tysR cI cJ cG) s) (hN : NWs s) (hA : ∀ q, s.heap.size ≤ q → A q) : ∀ n : Nat, (∀ (x1 : Int32) (x2 : Int32) (x3 : Int32) (I : SI) (J : SJ), (g_R_keepsAll n) x1 x2 x3 I J = some res → WB p l e (headSpec (Cond.code yR_keepsAll bR_keepsAll 6 (some .boolean) :: gtb) rm_R_keepsAll).room s m args below meth c (MQ below (va_Qi (fun (r : Int32) (u : SI × SJ) => (r, u) = res) (atW D vwCl (tysR cI cJ cG) A (wsR ad cI cJ cG)) A) args s 0 0 A) D vwCl A 6 (wsR ad cI cJ cG I J) 4 [(0, .ref (ad 0)), (1, .int x1), (2, .int x2), (3, .int x3)] []) := by
  intro n
  induction n with
  | zero => exact fun _ _ _ _ _ h => (by cases h)
  | succ n ih =>
    have ih4 := ih
    exact fun x1 x2 x3 I J h => w_R_keepsAll_4 X hK hN hA ih4 x1 x2 x3 I J h
set_option maxHeartbeats 4000000 in
set_option maxRecDepth 100000 in
theorem c_R_keepsAll (l : Launch) (D : va_G) (ad : Nat → Nat) (cI cJ cG : ClassId) (sz : Nat) (x1 : Int32) (I : SI) (J : SJ) (res : Int32 × SI × SJ) (hm : m_R_keepsAll x1 I J = some res) : Met l yR_keepsAll (Cond.code yR_keepsAll bR_keepsAll 6 (some .boolean) :: gtb) rm_R_keepsAll (va_Pc [.ref (ad 0), .int x1] (preW D vwCl (tysR cI cJ cG) (wsR ad cI cJ cG I J) sz)) (va_Qi (fun (r : Int32) (u : SI × SJ) => (r, u) = res) (atW D vwCl (tysR cI cJ cG) (va_A (wsR ad cI cJ cG I J) sz) (wsR ad cI cJ cG)) (va_A (wsR ad cI cJ cG I J) sz)) 0 0 (va_A (wsR ad cI cJ cG I J) sz) := by
  refine Met.ofW (cc := bR_keepsAll) (maxL := 6) (ret := (some .boolean)) (by decide) rfl ?_
  intro p e s m args below meth c s₁ B hml hv
  obtain ⟨rfl, hsz, hP, hK, hD0, hN⟩ := hv
  subst hsz
  have X : Cx p s m [.ref (ad 0), .int x1].toArray meth c bR_keepsAll (some .boolean) 6 RR := ⟨B.exec, B.bytes, B.returns, hml, findClass_of_methodNamed B.named, fun w h => atoms_spec (ws := (Cond.code yR_keepsAll bR_keepsAll 6 (some .boolean) :: gtb)) B.pre w (List.mem_cons_of_mem _ h), B.notSynchronized⟩
  have hl := lv_entry ([.ref (ad 0), .int x1]) (n := 6) (Nat.le_of_ble_eq_true rfl)
  rw [lg_entry_eq]
  generalize (lg_sl ([.ref (ad 0), .int x1]) ++ List.replicate (6 - (lg_sl ([.ref (ad 0), .int x1])).length) Slot.unset).toArray = ls at hl ⊢
  have hl : lv_has ls 6 [(0, .ref (ad 0)), (1, .int x1)] := hl
  have hA : ∀ q, s.heap.size ≤ q → va_A (wsR ad cI cJ cG I J) s.heap.size q := fun q h => Or.inr h
  exact w_R_keepsAll_0 X hK hN hA (gw_R_keepsAll X hK hN hA fuel) x1 I J hm _ _ _ hP hD0.self va_S.rf hl
def b_R_costOf_5 (k5 : Nat → Int64 → Int32 → SI → SJ → Option (Int64 × SI × SJ)) (aa : Nat) (x2 : Int64) (x4 : Int32) (I : SI) (J : SJ) : Option (Int64 × SI × SJ) :=
  gd (aa ∈ [15, 17]) <|
  if (I 0 0) ≤ x4 then
    some (x2, I, J)
  else
    gd (vin x4 4) <|
    nm (I 1 x4.toNatClampNeg) fun v3 =>
    nm (Int32.toInt64 v3) fun v4 =>
    gd (vin x4 4) <|
    nm (J aa x4.toNatClampNeg) fun v6 =>
    nm (v4 * v6) fun v7 =>
    nm (x2 + v7) fun v8 =>
    nm (x4 + 1) fun v9 =>
    k5 aa v8 v9 I J
def b_R_costOf_0 (k5 : Nat → Int64 → Int32 → SI → SJ → Option (Int64 × SI × SJ)) (aa : Nat) (I : SI) (J : SJ) : Option (Int64 × SI × SJ) :=
  gd (aa ∈ [15, 17]) <|
  k5 aa 0 0 I J
def g_R_costOf : Nat → (Nat → Int64 → Int32 → SI → SJ → Option (Int64 × SI × SJ))
  | 0 => (fun _ _ _ _ _ => none)
  | n + 1 => (fun aa x2 x4 I J => b_R_costOf_5 (g_R_costOf n) aa x2 x4 I J)
def m_R_costOf (aa : Nat) (I : SI) (J : SJ) : Option (Int64 × SI × SJ) := b_R_costOf_0 (g_R_costOf fuel) aa I J
def rm_R_costOf : Room := { frames := 0, cells := 0, slots := 0, locals := 0 }
set_option maxHeartbeats 4000000 in
set_option maxRecDepth 100000 in
theorem w_R_costOf_5 {p : Program} {l : Launch} {e : Env} {s : State} {m : MethodId} {args : Array Value} {below : List Frame} {meth : Method} {c : Code} {D : va_G} {A : Nat → Prop} {ad : Nat → Nat} {cI cJ cG : ClassId} {res : Int64 × SI × SJ} (X : Cx p s m args meth c bR_costOf (some .long) 5 RR) (hK : va_K D vwCl (tysR cI cJ cG) s) (hN : NWs s) (hA : ∀ q, s.heap.size ≤ q → A q)
    {k5 : Nat → Int64 → Int32 → SI → SJ → Option (Int64 × SI × SJ)} (hk5 : ∀ (aa : Nat) (x2 : Int64) (x4 : Int32) (I : SI) (J : SJ), k5 aa x2 x4 I J = some res → WB p l e (headSpec (Cond.code yR_costOf bR_costOf 5 (some .long) :: gtb) rm_R_costOf).room s m args below meth c (MQ below (va_Ql (fun (r : Int64) (u : SI × SJ) => (r, u) = res) (atW D vwCl (tysR cI cJ cG) A (wsR ad cI cJ cG)) A) args s 0 0 A) D vwCl A 5 (wsR ad cI cJ cG I J) 5 [(0, .ref (ad 0)), (1, .ref (ad aa)), (2, .long x2), (4, .int x4)] [])
     (aa : Nat) (x2 : Int64) (x4 : Int32) (I : SI) (J : SJ) (hm : b_R_costOf_5 k5 aa x2 x4 I J = some res) : WB p l e (headSpec (Cond.code yR_costOf bR_costOf 5 (some .long) :: gtb) rm_R_costOf).room s m args below meth c (MQ below (va_Ql (fun (r : Int64) (u : SI × SJ) => (r, u) = res) (atW D vwCl (tysR cI cJ cG) A (wsR ad cI cJ cG)) A) args s 0 0 A) D vwCl A 5 (wsR ad cI cJ cG I J) 5 [(0, .ref (ad 0)), (1, .ref (ad aa)), (2, .long x2), (4, .int x4)] [] := by
  obtain ⟨hx, hb, hr, hml, hown, hT, hlk⟩ := X
  intro H locs ls hP hD hS hl
  unfold b_R_costOf_5 at hm
  obtain ⟨hf_aa, hm⟩ := gd_to hm
  refine lv_iload hx hb dR_costOf_5 (lv_at hl 3 rfl) ?_
  refine lv_aload_n hx hb dR_costOf_7 rfl (lv_at hl 0 rfl) ?_
  refine va_get (D := D) (ci := 6) (v := .int (I 0 0)) (C := RR) (T := TR) (N := 31) hx hb hT inR hown hK hP 0 rfl rfl 0 (by decide) (hT _ wd_535) (fun _ h9 => h9) rfl dR_costOf_8 ?_
  refine lv_icmp_ge (tgt := 36) hx hb dR_costOf_11 (by decide) (fun c1 => ?_) (fun c1 => ?_)
  · have hm := brp hm c1
    refine lv_lload_n hx hb dR_costOf_36 rfl (lv_at hl 2 rfl) ?_
    exact W.lret hx hb hr (fun t ht hW => ⟨⟨x2, (I, J), rfl, Option.some.inj hm, ht ▸ hP, va_K.moved hW.alike hK, hD⟩, hS.F ht⟩) hS.2.2 dR_costOf_37 hlk
  · have hm := brn hm c1
    refine lv_lload_n hx hb dR_costOf_14 rfl (lv_at hl 2 rfl) ?_
    refine lv_aload_n hx hb dR_costOf_15 rfl (lv_at hl 0 rfl) ?_
    refine va_get (D := D) (ci := 6) (v := .ref (ad 1)) (C := RR) (T := TR) (N := 31) hx hb hT inR hown hK hP 0 rfl rfl 1 (by decide) (hT _ wd_536) (fun _ h9 => h9) rfl dR_costOf_16 ?_
    refine lv_iload hx hb dR_costOf_19 (lv_at hl 3 rfl) ?_
    obtain ⟨g2, hm⟩ := gd_to hm
    refine va_iald hx hb hK hP 1 0 rfl rfl g2 dR_costOf_21 ?_
    refine lv_topi (fun v3 ev3 => ?_)
    have hm := nm_to ev3 hm
    refine lv_i2l hx hb dR_costOf_22 rfl ?_
    refine lv_topl (fun v4 ev4 => ?_)
    have hm := nm_to ev4 hm
    refine lv_aload_n hx hb dR_costOf_23 rfl (lv_at hl 1 rfl) ?_
    refine lv_iload hx hb dR_costOf_24 (lv_at hl 3 rfl) ?_
    obtain ⟨g5, hm⟩ := gd_to hm
    refine va_lald hx hb hK hP aa 1 (famR_am hf_aa) rfl g5 dR_costOf_26 ?_
    refine lv_topl (fun v6 ev6 => ?_)
    have hm := nm_to ev6 hm
    refine lv_lmul hx hb dR_costOf_27 ?_
    refine lv_topl (fun v7 ev7 => ?_)
    have hm := nm_to ev7 hm
    refine lv_ladd hx hb dR_costOf_28 ?_
    refine lv_topl (fun v8 ev8 => ?_)
    have hm := nm_to ev8 hm
    refine lv_lstore_n (lv' := [(2, .long v8), (0, .ref (ad 0)), (1, .ref (ad aa)), (4, .int x4)]) hx hb dR_costOf_29 rfl hl (by decide) rfl (fun ls hl => ?_)
    obtain ⟨v9, ev9⟩ : ∃ z : Int32, z = x4 + 1 := ⟨_, rfl⟩
    have hm := nm_to ev9 hm
    refine lv_iinc (v := v9) (lv' := [(4, .int v9), (2, .long v8), (0, .ref (ad 0)), (1, .ref (ad aa))]) hx hb dR_costOf_30 hl (k := 3) rfl (by rw [ev9]; rfl) (by decide) rfl (fun ls hl => ?_)
    refine lv_goto (tgt := 5) hx hb dR_costOf_33 (by decide) ?_
    exact hk5 aa v8 v9 I J hm _ _ _ hP hD hS (lv_sub hl [2, 3, 1, 0] rfl)
set_option maxHeartbeats 4000000 in
set_option maxRecDepth 100000 in
theorem w_R_costOf_0 {p : Program} {l : Launch} {e : Env} {s : State} {m : MethodId} {args : Array Value} {below : List Frame} {meth : Method} {c : Code} {D : va_G} {A : Nat → Prop} {ad : Nat → Nat} {cI cJ cG : ClassId} {res : Int64 × SI × SJ} (X : Cx p s m args meth c bR_costOf (some .long) 5 RR) (hK : va_K D vwCl (tysR cI cJ cG) s) (hN : NWs s) (hA : ∀ q, s.heap.size ≤ q → A q)
    {k5 : Nat → Int64 → Int32 → SI → SJ → Option (Int64 × SI × SJ)} (hk5 : ∀ (aa : Nat) (x2 : Int64) (x4 : Int32) (I : SI) (J : SJ), k5 aa x2 x4 I J = some res → WB p l e (headSpec (Cond.code yR_costOf bR_costOf 5 (some .long) :: gtb) rm_R_costOf).room s m args below meth c (MQ below (va_Ql (fun (r : Int64) (u : SI × SJ) => (r, u) = res) (atW D vwCl (tysR cI cJ cG) A (wsR ad cI cJ cG)) A) args s 0 0 A) D vwCl A 5 (wsR ad cI cJ cG I J) 5 [(0, .ref (ad 0)), (1, .ref (ad aa)), (2, .long x2), (4, .int x4)] [])
     (aa : Nat) (I : SI) (J : SJ) (hm : b_R_costOf_0 k5 aa I J = some res) : WB p l e (headSpec (Cond.code yR_costOf bR_costOf 5 (some .long) :: gtb) rm_R_costOf).room s m args below meth c (MQ below (va_Ql (fun (r : Int64) (u : SI × SJ) => (r, u) = res) (atW D vwCl (tysR cI cJ cG) A (wsR ad cI cJ cG)) A) args s 0 0 A) D vwCl A 5 (wsR ad cI cJ cG I J) 0 [(0, .ref (ad 0)), (1, .ref (ad aa))] [] := by
  obtain ⟨hx, hb, hr, hml, hown, hT, hlk⟩ := X
  intro H locs ls hP hD hS hl
  unfold b_R_costOf_0 at hm
  obtain ⟨hf_aa, hm⟩ := gd_to hm
  refine lv_lconst (v := 0) hx hb dR_costOf_0 (by decide) ?_
  refine lv_lstore_n (lv' := [(2, .long 0), (0, .ref (ad 0)), (1, .ref (ad aa))]) hx hb dR_costOf_1 rfl hl (by decide) rfl (fun ls hl => ?_)
  refine lv_iconst (v := 0) hx hb dR_costOf_2 (by decide) ?_
  refine lv_istore (lv' := [(4, .int 0), (2, .long 0), (0, .ref (ad 0)), (1, .ref (ad aa))]) hx hb dR_costOf_3 hl (by decide) rfl (fun ls hl => ?_)
  exact hk5 aa 0 0 I J hm _ _ _ hP hD hS (lv_sub hl [2, 3, 1, 0] rfl)
set_option maxHeartbeats 4000000 in
theorem gw_R_costOf {p : Program} {l : Launch} {e : Env} {s : State} {m : MethodId} {args : Array Value} {below : List Frame} {meth : Method} {c : Code} {D : va_G} {A : Nat → Prop} {ad : Nat → Nat} {cI cJ cG : ClassId} {res : Int64 × SI × SJ} (X : Cx p s m args meth c bR_costOf (some .long) 5 RR) (hK : va_K D vwCl (tysR cI cJ cG) s) (hN : NWs s) (hA : ∀ q, s.heap.size ≤ q → A q) : ∀ n : Nat, (∀ (aa : Nat) (x2 : Int64) (x4 : Int32) (I : SI) (J : SJ), (g_R_costOf n) aa x2 x4 I J = some res → WB p l e (headSpec (Cond.code yR_costOf bR_costOf 5 (some .long) :: gtb) rm_R_costOf).room s m args below meth c (MQ below (va_Ql (fun (r : Int64) (u : SI × SJ) => (r, u) = res) (atW D vwCl (tysR cI cJ cG) A (wsR ad cI cJ cG)) A) args s 0 0 A) D vwCl A 5 (wsR ad cI cJ cG I J) 5 [(0, .ref (ad 0)), (1, .ref (ad aa)), (2, .long x2), (4, .int x4)] []) := by
  intro n
  induction n with
  | zero => exact fun _ _ _ _ _ h => (by cases h)
  | succ n ih =>
    have ih5 := ih
    exact fun aa x2 x4 I J h => w_R_costOf_5 X hK hN hA ih5 aa x2 x4 I J h
set_option maxHeartbeats 4000000 in
set_option maxRecDepth 100000 in
theorem c_R_costOf (l : Launch) (D : va_G) (ad : Nat → Nat) (cI cJ cG : ClassId) (sz : Nat) (aa : Nat) (I : SI) (J : SJ) (res : Int64 × SI × SJ) (hm : m_R_costOf aa I J = some res) : Met l yR_costOf (Cond.code yR_costOf bR_costOf 5 (some .long) :: gtb) rm_R_costOf (va_Pc [.ref (ad 0), .ref (ad aa)] (preW D vwCl (tysR cI cJ cG) (wsR ad cI cJ cG I J) sz)) (va_Ql (fun (r : Int64) (u : SI × SJ) => (r, u) = res) (atW D vwCl (tysR cI cJ cG) (va_A (wsR ad cI cJ cG I J) sz) (wsR ad cI cJ cG)) (va_A (wsR ad cI cJ cG I J) sz)) 0 0 (va_A (wsR ad cI cJ cG I J) sz) := by
  refine Met.ofW (cc := bR_costOf) (maxL := 5) (ret := (some .long)) (by decide) rfl ?_
  intro p e s m args below meth c s₁ B hml hv
  obtain ⟨rfl, hsz, hP, hK, hD0, hN⟩ := hv
  subst hsz
  have X : Cx p s m [.ref (ad 0), .ref (ad aa)].toArray meth c bR_costOf (some .long) 5 RR := ⟨B.exec, B.bytes, B.returns, hml, findClass_of_methodNamed B.named, fun w h => atoms_spec (ws := (Cond.code yR_costOf bR_costOf 5 (some .long) :: gtb)) B.pre w (List.mem_cons_of_mem _ h), B.notSynchronized⟩
  have hl := lv_entry ([.ref (ad 0), .ref (ad aa)]) (n := 5) (Nat.le_of_ble_eq_true rfl)
  rw [lg_entry_eq]
  generalize (lg_sl ([.ref (ad 0), .ref (ad aa)]) ++ List.replicate (5 - (lg_sl ([.ref (ad 0), .ref (ad aa)])).length) Slot.unset).toArray = ls at hl ⊢
  have hl : lv_has ls 5 [(0, .ref (ad 0)), (1, .ref (ad aa))] := hl
  have hA : ∀ q, s.heap.size ≤ q → va_A (wsR ad cI cJ cG I J) s.heap.size q := fun q h => Or.inr h
  exact w_R_costOf_0 X hK hN hA (gw_R_costOf X hK hN hA fuel) aa I J hm _ _ _ hP hD0.self va_S.rf hl
def b_R_isBetter_31 (k31 : Int64 → Int64 → Int32 → SI → SJ → Option (Int32 × SI × SJ)) (x1 : Int64) (x3 : Int64) (x5 : Int32) (I : SI) (J : SJ) : Option (Int32 × SI × SJ) :=
  if (I 0 0) ≤ x5 then
    nm (lg_cmp x1 x3) fun v2 =>
    if 0 ≤ v2 then
      some (0, I, J)
    else
      some (1, I, J)
  else
    nm (lg_cmp x1 x3) fun v4 =>
    if v4 = 0 then
      gd (vin x5 4) <|
      nm (J 15 x5.toNatClampNeg) fun v9 =>
      nm (v9 * (J 0 30)) fun v10 =>
      gd (vin x5 4) <|
      nm (J 17 x5.toNatClampNeg) fun v12 =>
      nm (v12 * (J 0 26)) fun v13 =>
      nm (x5 + 1) fun v14 =>
      k31 v10 v13 v14 I J
    else
      nm (lg_cmp x1 x3) fun v6 =>
      if 0 ≤ v6 then
        some (0, I, J)
      else
        some (1, I, J)
def b_R_isBetter_0 (k31 : Int64 → Int64 → Int32 → SI → SJ → Option (Int32 × SI × SJ)) (I : SI) (J : SJ) : Option (Int32 × SI × SJ) :=
  cl3 (m_R_costOf 15 I J) fun r1 I2 J3 =>
  nm (r1 * (J3 0 30)) fun v5 =>
  cl3 (m_R_costOf 17 I2 J3) fun r6 I7 J8 =>
  nm (r6 * (J8 0 26)) fun v10 =>
  k31 v5 v10 0 I7 J8
def g_R_isBetter : Nat → (Int64 → Int64 → Int32 → SI → SJ → Option (Int32 × SI × SJ))
  | 0 => (fun _ _ _ _ _ => none)
  | n + 1 => (fun x1 x3 x5 I J => b_R_isBetter_31 (g_R_isBetter n) x1 x3 x5 I J)
def m_R_isBetter (I : SI) (J : SJ) : Option (Int32 × SI × SJ) := b_R_isBetter_0 (g_R_isBetter fuel)  I J
def rm_R_isBetter : Room := { frames := 1, cells := 0, slots := 0, locals := 24 }
set_option maxHeartbeats 4000000 in
set_option maxRecDepth 100000 in
theorem w_R_isBetter_31 {p : Program} {l : Launch} {e : Env} {s : State} {m : MethodId} {args : Array Value} {below : List Frame} {meth : Method} {c : Code} {D : va_G} {A : Nat → Prop} {ad : Nat → Nat} {cI cJ cG : ClassId} {res : Int32 × SI × SJ} (X : Cx p s m args meth c bR_isBetter (some .boolean) 6 RR) (hK : va_K D vwCl (tysR cI cJ cG) s) (hN : NWs s) (hA : ∀ q, s.heap.size ≤ q → A q)
    {k31 : Int64 → Int64 → Int32 → SI → SJ → Option (Int32 × SI × SJ)} (hk31 : ∀ (x1 : Int64) (x3 : Int64) (x5 : Int32) (I : SI) (J : SJ), k31 x1 x3 x5 I J = some res → WB p l e (headSpec (Cond.code yR_isBetter bR_isBetter 6 (some .boolean) :: gtb) rm_R_isBetter).room s m args below meth c (MQ below (va_Qi (fun (r : Int32) (u : SI × SJ) => (r, u) = res) (atW D vwCl (tysR cI cJ cG) A (wsR ad cI cJ cG)) A) args s 0 0 A) D vwCl A 6 (wsR ad cI cJ cG I J) 31 [(0, .ref (ad 0)), (1, .long x1), (3, .long x3), (5, .int x5)] [])
     (x1 : Int64) (x3 : Int64) (x5 : Int32) (I : SI) (J : SJ) (hm : b_R_isBetter_31 k31 x1 x3 x5 I J = some res) : WB p l e (headSpec (Cond.code yR_isBetter bR_isBetter 6 (some .boolean) :: gtb) rm_R_isBetter).room s m args below meth c (MQ below (va_Qi (fun (r : Int32) (u : SI × SJ) => (r, u) = res) (atW D vwCl (tysR cI cJ cG) A (wsR ad cI cJ cG)) A) args s 0 0 A) D vwCl A 6 (wsR ad cI cJ cG I J) 31 [(0, .ref (ad 0)), (1, .long x1), (3, .long x3), (5, .int x5)] [] := by
  obtain ⟨hx, hb, hr, hml, hown, hT, hlk⟩ := X
  intro H locs ls hP hD hS hl
  unfold b_R_isBetter_31 at hm
  refine lv_iload hx hb dR_isBetter_31 (lv_at hl 3 rfl) ?_
  refine lv_aload_n hx hb dR_isBetter_33 rfl (lv_at hl 0 rfl) ?_
  refine va_get (D := D) (ci := 6) (v := .int (I 0 0)) (C := RR) (T := TR) (N := 31) hx hb hT inR hown hK hP 0 rfl rfl 0 (by decide) (hT _ wd_535) (fun _ h9 => h9) rfl dR_isBetter_34 ?_
  refine lv_icmp_ge (tgt := 78) hx hb dR_isBetter_37 (by decide) (fun c1 => ?_) (fun c1 => ?_)
  · have hm := brp hm c1
    refine lv_lload_n hx hb dR_isBetter_78 rfl (lv_at hl 1 rfl) ?_
    refine lv_lload_n hx hb dR_isBetter_79 rfl (lv_at hl 2 rfl) ?_
    refine W.lcmp hx hb dR_isBetter_80 ?_
    refine lv_topi (fun v2 ev2 => ?_)
    have hm := nm_to ev2 hm
    refine lv_if_ge (tgt := 88) hx hb dR_isBetter_81 (by decide) (fun c3 => ?_) (fun c3 => ?_)
    · have hm := brp hm c3
      refine lv_iconst (v := 0) hx hb dR_isBetter_88 (by decide) ?_
      exact W.zret hx hb hr rfl (fun t ht hW => ⟨⟨0, (I, J), rfl, Option.some.inj hm, ht ▸ hP, va_K.moved hW.alike hK, hD⟩, hS.F ht⟩) hS.2.2 dR_isBetter_89 hlk
    · have hm := brn hm c3
      refine lv_iconst (v := 1) hx hb dR_isBetter_84 (by decide) ?_
      refine lv_goto (tgt := 89) hx hb dR_isBetter_85 (by decide) ?_
      exact W.zret hx hb hr rfl (fun t ht hW => ⟨⟨1, (I, J), rfl, Option.some.inj hm, ht ▸ hP, va_K.moved hW.alike hK, hD⟩, hS.F ht⟩) hS.2.2 dR_isBetter_89 hlk
  · have hm := brn hm c1
    refine lv_lload_n hx hb dR_isBetter_40 rfl (lv_at hl 1 rfl) ?_
    refine lv_lload_n hx hb dR_isBetter_41 rfl (lv_at hl 2 rfl) ?_
    refine W.lcmp hx hb dR_isBetter_42 ?_
    refine lv_topi (fun v4 ev4 => ?_)
    have hm := nm_to ev4 hm
    refine lv_if_ne (tgt := 78) hx hb dR_isBetter_43 (by decide) (fun c5 => ?_) (fun c5 => ?_)
    · have hm := brn hm c5
      refine lv_lload_n hx hb dR_isBetter_78 rfl (lv_at hl 1 rfl) ?_
      refine lv_lload_n hx hb dR_isBetter_79 rfl (lv_at hl 2 rfl) ?_
      refine W.lcmp hx hb dR_isBetter_80 ?_
      refine lv_topi (fun v6 ev6 => ?_)
      have hm := nm_to ev6 hm
      refine lv_if_ge (tgt := 88) hx hb dR_isBetter_81 (by decide) (fun c7 => ?_) (fun c7 => ?_)
      · have hm := brp hm c7
        refine lv_iconst (v := 0) hx hb dR_isBetter_88 (by decide) ?_
        exact W.zret hx hb hr rfl (fun t ht hW => ⟨⟨0, (I, J), rfl, Option.some.inj hm, ht ▸ hP, va_K.moved hW.alike hK, hD⟩, hS.F ht⟩) hS.2.2 dR_isBetter_89 hlk
      · have hm := brn hm c7
        refine lv_iconst (v := 1) hx hb dR_isBetter_84 (by decide) ?_
        refine lv_goto (tgt := 89) hx hb dR_isBetter_85 (by decide) ?_
        exact W.zret hx hb hr rfl (fun t ht hW => ⟨⟨1, (I, J), rfl, Option.some.inj hm, ht ▸ hP, va_K.moved hW.alike hK, hD⟩, hS.F ht⟩) hS.2.2 dR_isBetter_89 hlk
    · have hm := brp hm c5
      refine lv_aload_n hx hb dR_isBetter_46 rfl (lv_at hl 0 rfl) ?_
      refine va_get (D := D) (ci := 6) (v := .ref (ad 15)) (C := RR) (T := TR) (N := 31) hx hb hT inR hown hK hP 0 rfl rfl 25 (by decide) (hT _ wd_560) (fun _ h9 => h9) rfl dR_isBetter_47 ?_
      refine lv_iload hx hb dR_isBetter_50 (lv_at hl 3 rfl) ?_
      obtain ⟨g8, hm⟩ := gd_to hm
      refine va_lald hx hb hK hP 15 1 rfl rfl g8 dR_isBetter_52 ?_
      refine lv_topl (fun v9 ev9 => ?_)
      have hm := nm_to ev9 hm
      refine lv_aload_n hx hb dR_isBetter_53 rfl (lv_at hl 0 rfl) ?_
      refine va_get (D := D) (ci := 6) (v := .long (J 0 30)) (C := RR) (T := TR) (N := 31) hx hb hT inR hown hK hP 0 rfl rfl 30 (by decide) (hT _ wd_565) (fun _ h9 => h9) rfl dR_isBetter_54 ?_
      refine lv_lmul hx hb dR_isBetter_57 ?_
      refine lv_topl (fun v10 ev10 => ?_)
      have hm := nm_to ev10 hm
      refine lv_lstore_n (lv' := [(1, .long v10), (0, .ref (ad 0)), (3, .long x3), (5, .int x5)]) hx hb dR_isBetter_58 rfl hl (by decide) rfl (fun ls hl => ?_)
      refine lv_aload_n hx hb dR_isBetter_59 rfl (lv_at hl 1 rfl) ?_
      refine va_get (D := D) (ci := 6) (v := .ref (ad 17)) (C := RR) (T := TR) (N := 31) hx hb hT inR hown hK hP 0 rfl rfl 29 (by decide) (hT _ wd_564) (fun _ h9 => h9) rfl dR_isBetter_60 ?_
      refine lv_iload hx hb dR_isBetter_63 (lv_at hl 3 rfl) ?_
      obtain ⟨g11, hm⟩ := gd_to hm
      refine va_lald hx hb hK hP 17 1 rfl rfl g11 dR_isBetter_65 ?_
      refine lv_topl (fun v12 ev12 => ?_)
      have hm := nm_to ev12 hm
      refine lv_aload_n hx hb dR_isBetter_66 rfl (lv_at hl 1 rfl) ?_
      refine va_get (D := D) (ci := 6) (v := .long (J 0 26)) (C := RR) (T := TR) (N := 31) hx hb hT inR hown hK hP 0 rfl rfl 26 (by decide) (hT _ wd_561) (fun _ h9 => h9) rfl dR_isBetter_67 ?_
      refine lv_lmul hx hb dR_isBetter_70 ?_
      refine lv_topl (fun v13 ev13 => ?_)
      have hm := nm_to ev13 hm
      refine lv_lstore_n (lv' := [(3, .long v13), (1, .long v10), (0, .ref (ad 0)), (5, .int x5)]) hx hb dR_isBetter_71 rfl hl (by decide) rfl (fun ls hl => ?_)
      obtain ⟨v14, ev14⟩ : ∃ z : Int32, z = x5 + 1 := ⟨_, rfl⟩
      have hm := nm_to ev14 hm
      refine lv_iinc (v := v14) (lv' := [(5, .int v14), (3, .long v13), (1, .long v10), (0, .ref (ad 0))]) hx hb dR_isBetter_72 hl (k := 3) rfl (by rw [ev14]; rfl) (by decide) rfl (fun ls hl => ?_)
      refine lv_goto (tgt := 31) hx hb dR_isBetter_75 (by decide) ?_
      exact hk31 v10 v13 v14 I J hm _ _ _ hP hD hS (lv_sub hl [3, 2, 1, 0] rfl)
set_option maxHeartbeats 4000000 in
set_option maxRecDepth 100000 in
theorem w_R_isBetter_0 {p : Program} {l : Launch} {e : Env} {s : State} {m : MethodId} {args : Array Value} {below : List Frame} {meth : Method} {c : Code} {D : va_G} {A : Nat → Prop} {ad : Nat → Nat} {cI cJ cG : ClassId} {res : Int32 × SI × SJ} (X : Cx p s m args meth c bR_isBetter (some .boolean) 6 RR) (hK : va_K D vwCl (tysR cI cJ cG) s) (hN : NWs s) (hA : ∀ q, s.heap.size ≤ q → A q)
    {k31 : Int64 → Int64 → Int32 → SI → SJ → Option (Int32 × SI × SJ)} (hk31 : ∀ (x1 : Int64) (x3 : Int64) (x5 : Int32) (I : SI) (J : SJ), k31 x1 x3 x5 I J = some res → WB p l e (headSpec (Cond.code yR_isBetter bR_isBetter 6 (some .boolean) :: gtb) rm_R_isBetter).room s m args below meth c (MQ below (va_Qi (fun (r : Int32) (u : SI × SJ) => (r, u) = res) (atW D vwCl (tysR cI cJ cG) A (wsR ad cI cJ cG)) A) args s 0 0 A) D vwCl A 6 (wsR ad cI cJ cG I J) 31 [(0, .ref (ad 0)), (1, .long x1), (3, .long x3), (5, .int x5)] [])
     (I : SI) (J : SJ) (hm : b_R_isBetter_0 k31  I J = some res) : WB p l e (headSpec (Cond.code yR_isBetter bR_isBetter 6 (some .boolean) :: gtb) rm_R_isBetter).room s m args below meth c (MQ below (va_Qi (fun (r : Int32) (u : SI × SJ) => (r, u) = res) (atW D vwCl (tysR cI cJ cG) A (wsR ad cI cJ cG)) A) args s 0 0 A) D vwCl A 6 (wsR ad cI cJ cG I J) 0 [(0, .ref (ad 0))] [] := by
  obtain ⟨hx, hb, hr, hml, hown, hT, hlk⟩ := X
  intro H locs ls hP hD hS hl
  unfold b_R_isBetter_0 at hm
  refine lv_aload_n hx hb dR_isBetter_0 rfl (lv_at hl 0 rfl) ?_
  refine lv_aload_n hx hb dR_isBetter_1 rfl (lv_at hl 0 rfl) ?_
  refine va_get (D := D) (ci := 6) (v := .ref (ad 15)) (C := RR) (T := TR) (N := 31) hx hb hT inR hown hK hP 0 rfl rfl 25 (by decide) (hT _ wd_560) (fun _ h9 => h9) rfl dR_isBetter_2 ?_
  obtain ⟨r1, I2, J3, hc4, hm⟩ := cl3_to hm
  refine pst_l (wf := wsR ad cI cJ cG) hD hS hA (va_runV (As := [.ref (ad 15)]) (rest := []) ⟨hx, hb, hml, hown, hT⟩ (c_R_costOf l D ad cI cJ cG _ 15 I J _ hc4) (cwV 1 hT (gV wd_722 wd_724 wd_45 wd_57 wd_725) rfl rfl rfl (by decide +kernel) ⟨Nat.le_of_ble_eq_true rfl, Nat.le_of_ble_eq_true rfl⟩) ⟨preW_fb, va_recv hK hP (ci := 6) (q0 := 0) rfl rfl, preW_at hP hK hN hD⟩ rfl rfl hl.1 rfl (lv_room (Nat.le_of_ble_eq_true rfl)) dR_isBetter_5 ⟨Nat.zero_le _, Nat.zero_le _⟩) (fun H locs hP hD hS => ?_)
  refine lv_aload_n hx hb dR_isBetter_8 rfl (lv_at hl 0 rfl) ?_
  refine va_get (D := D) (ci := 6) (v := .long (J3 0 30)) (C := RR) (T := TR) (N := 31) hx hb hT inR hown hK hP 0 rfl rfl 30 (by decide) (hT _ wd_565) (fun _ h9 => h9) rfl dR_isBetter_9 ?_
  refine lv_lmul hx hb dR_isBetter_12 ?_
  refine lv_topl (fun v5 ev5 => ?_)
  have hm := nm_to ev5 hm
  refine lv_lstore_n (lv' := [(1, .long v5), (0, .ref (ad 0))]) hx hb dR_isBetter_13 rfl hl (by decide) rfl (fun ls hl => ?_)
  refine lv_aload_n hx hb dR_isBetter_14 rfl (lv_at hl 1 rfl) ?_
  refine lv_aload_n hx hb dR_isBetter_15 rfl (lv_at hl 1 rfl) ?_
  refine va_get (D := D) (ci := 6) (v := .ref (ad 17)) (C := RR) (T := TR) (N := 31) hx hb hT inR hown hK hP 0 rfl rfl 29 (by decide) (hT _ wd_564) (fun _ h9 => h9) rfl dR_isBetter_16 ?_
  obtain ⟨r6, I7, J8, hc9, hm⟩ := cl3_to hm
  refine pst_l (wf := wsR ad cI cJ cG) hD hS hA (va_runV (As := [.ref (ad 17)]) (rest := []) ⟨hx, hb, hml, hown, hT⟩ (c_R_costOf l D ad cI cJ cG _ 17 I2 J3 _ hc9) (cwV 1 hT (gV wd_722 wd_724 wd_45 wd_57 wd_725) rfl rfl rfl (by decide +kernel) ⟨Nat.le_of_ble_eq_true rfl, Nat.le_of_ble_eq_true rfl⟩) ⟨preW_fb, va_recv hK hP (ci := 6) (q0 := 0) rfl rfl, preW_at hP hK hN hD⟩ rfl rfl hl.1 rfl (lv_room (Nat.le_of_ble_eq_true rfl)) dR_isBetter_19 ⟨Nat.zero_le _, Nat.zero_le _⟩) (fun H locs hP hD hS => ?_)
  refine lv_aload_n hx hb dR_isBetter_22 rfl (lv_at hl 1 rfl) ?_
  refine va_get (D := D) (ci := 6) (v := .long (J8 0 26)) (C := RR) (T := TR) (N := 31) hx hb hT inR hown hK hP 0 rfl rfl 26 (by decide) (hT _ wd_561) (fun _ h9 => h9) rfl dR_isBetter_23 ?_
  refine lv_lmul hx hb dR_isBetter_26 ?_
  refine lv_topl (fun v10 ev10 => ?_)
  have hm := nm_to ev10 hm
  refine lv_lstore_n (lv' := [(3, .long v10), (1, .long v5), (0, .ref (ad 0))]) hx hb dR_isBetter_27 rfl hl (by decide) rfl (fun ls hl => ?_)
  refine lv_iconst (v := 0) hx hb dR_isBetter_28 (by decide) ?_
  refine lv_istore (lv' := [(5, .int 0), (3, .long v10), (1, .long v5), (0, .ref (ad 0))]) hx hb dR_isBetter_29 hl (by decide) rfl (fun ls hl => ?_)
  exact hk31 v5 v10 0 I7 J8 hm _ _ _ hP hD hS (lv_sub hl [3, 2, 1, 0] rfl)
set_option maxHeartbeats 4000000 in
theorem gw_R_isBetter {p : Program} {l : Launch} {e : Env} {s : State} {m : MethodId} {args : Array Value} {below : List Frame} {meth : Method} {c : Code} {D : va_G} {A : Nat → Prop} {ad : Nat → Nat} {cI cJ cG : ClassId} {res : Int32 × SI × SJ} (X : Cx p s m args meth c bR_isBetter (some .boolean) 6 RR) (hK : va_K D vwCl (tysR cI cJ cG) s) (hN : NWs s) (hA : ∀ q, s.heap.size ≤ q → A q) : ∀ n : Nat, (∀ (x1 : Int64) (x3 : Int64) (x5 : Int32) (I : SI) (J : SJ), (g_R_isBetter n) x1 x3 x5 I J = some res → WB p l e (headSpec (Cond.code yR_isBetter bR_isBetter 6 (some .boolean) :: gtb) rm_R_isBetter).room s m args below meth c (MQ below (va_Qi (fun (r : Int32) (u : SI × SJ) => (r, u) = res) (atW D vwCl (tysR cI cJ cG) A (wsR ad cI cJ cG)) A) args s 0 0 A) D vwCl A 6 (wsR ad cI cJ cG I J) 31 [(0, .ref (ad 0)), (1, .long x1), (3, .long x3), (5, .int x5)] []) := by
  intro n
  induction n with
  | zero => exact fun _ _ _ _ _ h => (by cases h)
  | succ n ih =>
    have ih31 := ih
    exact fun x1 x3 x5 I J h => w_R_isBetter_31 X hK hN hA ih31 x1 x3 x5 I J h
set_option maxHeartbeats 4000000 in
set_option maxRecDepth 100000 in
theorem c_R_isBetter (l : Launch) (D : va_G) (ad : Nat → Nat) (cI cJ cG : ClassId) (sz : Nat) (I : SI) (J : SJ) (res : Int32 × SI × SJ) (hm : m_R_isBetter  I J = some res) : Met l yR_isBetter (Cond.code yR_isBetter bR_isBetter 6 (some .boolean) :: gtb) rm_R_isBetter (va_Pc [.ref (ad 0)] (preW D vwCl (tysR cI cJ cG) (wsR ad cI cJ cG I J) sz)) (va_Qi (fun (r : Int32) (u : SI × SJ) => (r, u) = res) (atW D vwCl (tysR cI cJ cG) (va_A (wsR ad cI cJ cG I J) sz) (wsR ad cI cJ cG)) (va_A (wsR ad cI cJ cG I J) sz)) 0 0 (va_A (wsR ad cI cJ cG I J) sz) := by
  refine Met.ofW (cc := bR_isBetter) (maxL := 6) (ret := (some .boolean)) (by decide) rfl ?_
  intro p e s m args below meth c s₁ B hml hv
  obtain ⟨rfl, hsz, hP, hK, hD0, hN⟩ := hv
  subst hsz
  have X : Cx p s m [.ref (ad 0)].toArray meth c bR_isBetter (some .boolean) 6 RR := ⟨B.exec, B.bytes, B.returns, hml, findClass_of_methodNamed B.named, fun w h => atoms_spec (ws := (Cond.code yR_isBetter bR_isBetter 6 (some .boolean) :: gtb)) B.pre w (List.mem_cons_of_mem _ h), B.notSynchronized⟩
  have hl := lv_entry ([.ref (ad 0)]) (n := 6) (Nat.le_of_ble_eq_true rfl)
  rw [lg_entry_eq]
  generalize (lg_sl ([.ref (ad 0)]) ++ List.replicate (6 - (lg_sl ([.ref (ad 0)])).length) Slot.unset).toArray = ls at hl ⊢
  have hl : lv_has ls 6 [(0, .ref (ad 0))] := hl
  have hA : ∀ q, s.heap.size ≤ q → va_A (wsR ad cI cJ cG I J) s.heap.size q := fun q h => Or.inr h
  exact w_R_isBetter_0 X hK hN hA (gw_R_isBetter X hK hN hA fuel)  I J hm _ _ _ hP hD0.self va_S.rf hl
def b_R_solve_7 (k39 : Int32 → Int32 → Int32 → Int64 → Int32 → SI → SJ → Option (Int32 × SI × SJ)) (k180 : Int32 → Int32 → Int64 → Int32 → SI → SJ → Option (Int32 × SI × SJ)) (x1 : Int32) (x2 : Int32) (x3 : Int32) (I : SI) (J : SJ) : Option (Int32 × SI × SJ) :=
  if x2 ≤ x3 then
    k180 x1 x2 1 0 I J
  else
    if x3 = 0 then
      nm (Int32.toInt64 x1) fun v10 =>
      k39 x1 x2 x3 v10 0 I J
    else
      nm (x3 - 1) fun v3 =>
      gd (vin v3 3) <|
      nm (I 16 v3.toNatClampNeg) fun v5 =>
      cl3 (m_R_right v5 x1 I J) fun r6 I7 J8 =>
      k39 x1 x2 x3 r6 0 I7 J8
def b_R_solve_180 (k190 : Int32 → Int32 → Int64 → Int32 → Int32 → SI → SJ → Option (Int32 × SI × SJ)) (k431 : Int32 → Int32 → Int64 → SI → SJ → Option (Int32 × SI × SJ)) (x1 : Int32) (x2 : Int32) (x3 : Int64) (x5 : Int32) (I : SI) (J : SJ) : Option (Int32 × SI × SJ) :=
  if x2 ≤ x5 then
    if x2 = 0 then
      k431 x1 x2 1 I J
    else
      k431 x1 x2 x3 I J
  else
    k190 x1 x2 x3 x5 x5 I J
def b_R_solve_39 (k39 : Int32 → Int32 → Int32 → Int64 → Int32 → SI → SJ → Option (Int32 × SI × SJ)) (k107 : Int32 → Int32 → Int32 → Int64 → Int32 → SI → SJ → Option (Int32 × SI × SJ)) (x1 : Int32) (x2 : Int32) (x3 : Int32) (x4 : Int64) (x6 : Int32) (I : SI) (J : SJ) : Option (Int32 × SI × SJ) :=
  if (I 0 0) ≤ x6 then
    k107 x1 x2 x3 x4 0 I J
  else
    gd (vin x6 4) <|
    nm (I 12 x6.toNatClampNeg) fun v3 =>
    if 0 ≤ v3 then
      if x3 = 0 then
        gd (vin x6 4) <|
        nm (I 12 x6.toNatClampNeg) fun v20 =>
        nm (Int32.toInt64 v20) fun v21 =>
        nm (1 * v21) fun v22 =>
        nm (x4 - v22) fun v23 =>
        nm (x6 + 1) fun v24 =>
        k39 x1 x2 x3 v23 v24 I J
      else
        nm (x3 - 1) fun v6 =>
        gd (vin v6 3) <|
        nm (I 16 v6.toNatClampNeg) fun v8 =>
        cl3 (m_R_factor v8 x6 I J) fun r9 I10 J11 =>
        gd (vin x6 4) <|
        nm (I10 12 x6.toNatClampNeg) fun v14 =>
        nm (Int32.toInt64 v14) fun v15 =>
        nm (r9 * v15) fun v16 =>
        nm (x4 - v16) fun v17 =>
        nm (x6 + 1) fun v18 =>
        k39 x1 x2 x3 v17 v18 I10 J11
    else
      nm (x4 - 0) fun v25 =>
      nm (x6 + 1) fun v26 =>
      k39 x1 x2 x3 v25 v26 I J
def b_R_solve_431 (k466 : Int32 → Int32 → Int64 → Int32 → SI → SJ → Option (Int32 × SI × SJ)) (x1 : Int32) (x2 : Int32) (k0 : Int64) (I : SI) (J : SJ) : Option (Int32 × SI × SJ) :=
  nm (va_up J 0 (vp_updL (J 0) 26 k0)) fun J1 =>
  nm (lg_cmp (J1 0 26) 0) fun v2 =>
  if 0 ≤ v2 then
    nm ((J1 0 26) * 1) fun v4 =>
    nm (va_up J1 0 (vp_updL (J1 0) 26 v4)) fun J5 =>
    k466 x1 x2 1 0 I J5
  else
    nm ((J1 0 26) * (-1)) fun v6 =>
    nm (va_up J1 0 (vp_updL (J1 0) 26 v6)) fun J7 =>
    k466 x1 x2 (-1) 0 I J7
def b_R_solve_190 (k190 : Int32 → Int32 → Int64 → Int32 → Int32 → SI → SJ → Option (Int32 × SI × SJ)) (k230 : Int32 → Int32 → Int64 → Int32 → Int32 → Int32 → SI → SJ → Option (Int32 × SI × SJ)) (x1 : Int32) (x2 : Int32) (x3 : Int64) (x5 : Int32) (x6 : Int32) (I : SI) (J : SJ) : Option (Int32 × SI × SJ) :=
  if x2 ≤ x6 then
    if x6 = x2 then
      some (0, I, J)
    else
      k230 x1 x2 x3 x5 x6 0 I J
  else
    nm (5 * x6) fun v3 =>
    nm (v3 + x5) fun v4 =>
    gd (vin v4 20) <|
    nm (J 14 v4.toNatClampNeg) fun v6 =>
    nm (lg_cmp v6 0) fun v7 =>
    if v7 = 0 then
      nm (x6 + 1) fun v10 =>
      k190 x1 x2 x3 x5 v10 I J
    else
      if x6 = x2 then
        some (0, I, J)
      else
        k230 x1 x2 x3 x5 x6 0 I J
def b_R_solve_107 (k7 : Int32 → Int32 → Int32 → SI → SJ → Option (Int32 × SI × SJ)) (k107 : Int32 → Int32 → Int32 → Int64 → Int32 → SI → SJ → Option (Int32 × SI × SJ)) (x1 : Int32) (x2 : Int32) (x3 : Int32) (x4 : Int64) (x6 : Int32) (I : SI) (J : SJ) : Option (Int32 × SI × SJ) :=
  if x2 ≤ x6 then
    nm (5 * x3) fun v2 =>
    nm (v2 + 4) fun v3 =>
    gd (vin v3 20) <|
    nm (va_up J 14 (vp_updL (J 14) v3.toNatClampNeg x4)) fun J5 =>
    nm (x3 + 1) fun v6 =>
    k7 x1 x2 v6 I J5
  else
    nm (5 * x3) fun v7 =>
    nm (v7 + x6) fun v8 =>
    if x3 = 0 then
      gd (vin v8 20) <|
      nm (va_up J 14 (vp_updL (J 14) v8.toNatClampNeg 1)) fun J23 =>
      nm (x6 + 1) fun v24 =>
      k107 x1 x2 x3 x4 v24 I J23
    else
      nm (x3 - 1) fun v10 =>
      gd (vin v10 3) <|
      nm (I 16 v10.toNatClampNeg) fun v12 =>
      gd (vin x6 4) <|
      nm (I 13 x6.toNatClampNeg) fun v14 =>
      cl3 (m_R_factor v12 v14 I J) fun r15 I16 J17 =>
      gd (vin v8 20) <|
      nm (va_up J17 14 (vp_updL (J17 14) v8.toNatClampNeg r15)) fun J20 =>
      nm (x6 + 1) fun v21 =>
      k107 x1 x2 x3 x4 v21 I16 J20
def b_R_solve_466 (k466 : Int32 → Int32 → Int64 → Int32 → SI → SJ → Option (Int32 × SI × SJ)) (k510 : Int32 → Int64 → Int32 → SI → SJ → Option (Int32 × SI × SJ)) (x1 : Int32) (x2 : Int32) (x5 : Int64) (x7 : Int32) (I : SI) (J : SJ) : Option (Int32 × SI × SJ) :=
  if x2 ≤ x7 then
    k510 x1 0 0 I J
  else
    gd (vin x7 4) <|
    nm (I 13 x7.toNatClampNeg) fun v3 =>
    nm (5 * x7) fun v4 =>
    nm (v4 + 4) fun v5 =>
    gd (vin v5 20) <|
    nm (J 14 v5.toNatClampNeg) fun v7 =>
    nm (v7 * x5) fun v8 =>
    gd (vin v3 4) <|
    nm (va_up J 15 (vp_updL (J 15) v3.toNatClampNeg v8)) fun J10 =>
    nm (x7 + 1) fun v11 =>
    k466 x1 x2 x5 v11 I J10
def b_R_solve_230 (k230 : Int32 → Int32 → Int64 → Int32 → Int32 → Int32 → SI → SJ → Option (Int32 × SI × SJ)) (k319 : Int32 → Int32 → Int64 → Int32 → Int64 → Int32 → SI → SJ → Option (Int32 × SI × SJ)) (x1 : Int32) (x2 : Int32) (x3 : Int64) (x5 : Int32) (x6 : Int32) (x7 : Int32) (I : SI) (J : SJ) : Option (Int32 × SI × SJ) :=
  if 5 ≤ x7 then
    nm (5 * x5) fun v2 =>
    nm (v2 + x5) fun v3 =>
    gd (vin v3 20) <|
    nm (J 14 v3.toNatClampNeg) fun v5 =>
    k319 x1 x2 x3 x5 v5 0 I J
  else
    if x6 = x5 then
      nm (5 * x5) fun v7 =>
      nm (v7 + x5) fun v8 =>
      gd (vin v8 20) <|
      nm (J 14 v8.toNatClampNeg) fun v10 =>
      k319 x1 x2 x3 x5 v10 0 I J
    else
      nm (5 * x6) fun v11 =>
      nm (v11 + x7) fun v12 =>
      gd (vin v12 20) <|
      nm (J 14 v12.toNatClampNeg) fun v14 =>
      nm (5 * x6) fun v15 =>
      nm (v15 + x7) fun v16 =>
      nm (5 * x5) fun v17 =>
      nm (v17 + x7) fun v18 =>
      gd (vin v18 20) <|
      nm (J 14 v18.toNatClampNeg) fun v20 =>
      gd (vin v16 20) <|
      nm (va_up J 14 (vp_updL (J 14) v16.toNatClampNeg v20)) fun J22 =>
      nm (5 * x5) fun v23 =>
      nm (v23 + x7) fun v24 =>
      nm (-v14) fun v25 =>
      gd (vin v24 20) <|
      nm (va_up J22 14 (vp_updL (J22 14) v24.toNatClampNeg v25)) fun J27 =>
      nm (x7 + 1) fun v28 =>
      k230 x1 x2 x3 x5 x6 v28 I J27
def b_R_solve_510 (k510 : Int32 → Int64 → Int32 → SI → SJ → Option (Int32 × SI × SJ)) (x1 : Int32) (x7 : Int64) (x9 : Int32) (I : SI) (J : SJ) : Option (Int32 × SI × SJ) :=
  if (I 0 0) ≤ x9 then
    nm (Int32.toInt64 x1) fun v2 =>
    nm (v2 * (J 0 26)) fun v3 =>
    nm (lg_cmp x7 v3) fun v4 =>
    if v4 = 0 then
      some (1, I, J)
    else
      some (0, I, J)
  else
    gd (vin x9 4) <|
    nm (I 12 x9.toNatClampNeg) fun v7 =>
    if 0 ≤ v7 then
      gd (vin x9 4) <|
      nm (I 12 x9.toNatClampNeg) fun v10 =>
      nm (Int32.toInt64 v10) fun v11 =>
      nm (v11 * (J 0 26)) fun v12 =>
      gd (vin x9 4) <|
      nm (va_up J 15 (vp_updL (J 15) x9.toNatClampNeg v12)) fun J14 =>
      gd (vin x9 4) <|
      nm (J14 15 x9.toNatClampNeg) fun v16 =>
      nm (x7 + v16) fun v17 =>
      nm (x9 + 1) fun v18 =>
      k510 x1 v17 v18 I J14
    else
      gd (vin x9 4) <|
      nm (J 15 x9.toNatClampNeg) fun v20 =>
      gd (vin x9 4) <|
      nm (va_up J 15 (vp_updL (J 15) x9.toNatClampNeg v20)) fun J22 =>
      gd (vin x9 4) <|
      nm (J22 15 x9.toNatClampNeg) fun v24 =>
      nm (x7 + v24) fun v25 =>
      nm (x9 + 1) fun v26 =>
      k510 x1 v25 v26 I J22
def b_R_solve_319 (k180 : Int32 → Int32 → Int64 → Int32 → SI → SJ → Option (Int32 × SI × SJ)) (k319 : Int32 → Int32 → Int64 → Int32 → Int64 → Int32 → SI → SJ → Option (Int32 × SI × SJ)) (k349 : Int32 → Int32 → Int64 → Int32 → Int64 → Int32 → Int64 → Int32 → SI → SJ → Option (Int32 × SI × SJ)) (x1 : Int32) (x2 : Int32) (x3 : Int64) (x5 : Int32) (x7 : Int64) (x9 : Int32) (I : SI) (J : SJ) : Option (Int32 × SI × SJ) :=
  if x2 ≤ x9 then
    nm (x5 + 1) fun v2 =>
    k180 x1 x2 x7 v2 I J
  else
    if x9 = x5 then
      nm (x9 + 1) fun v4 =>
      k319 x1 x2 x3 x5 x7 v4 I J
    else
      nm (5 * x9) fun v5 =>
      nm (v5 + x5) fun v6 =>
      gd (vin v6 20) <|
      nm (J 14 v6.toNatClampNeg) fun v8 =>
      k349 x1 x2 x3 x5 x7 x9 v8 0 I J
def b_R_solve_349 (k319 : Int32 → Int32 → Int64 → Int32 → Int64 → Int32 → SI → SJ → Option (Int32 × SI × SJ)) (k349 : Int32 → Int32 → Int64 → Int32 → Int64 → Int32 → Int64 → Int32 → SI → SJ → Option (Int32 × SI × SJ)) (x1 : Int32) (x2 : Int32) (x3 : Int64) (x5 : Int32) (x7 : Int64) (x9 : Int32) (x10 : Int64) (x12 : Int32) (I : SI) (J : SJ) : Option (Int32 × SI × SJ) :=
  if 5 ≤ x12 then
    nm (x9 + 1) fun v2 =>
    k319 x1 x2 x3 x5 x7 v2 I J
  else
    nm (5 * x9) fun v3 =>
    nm (v3 + x12) fun v4 =>
    nm (5 * x9) fun v5 =>
    nm (v5 + x12) fun v6 =>
    gd (vin v6 20) <|
    nm (J 14 v6.toNatClampNeg) fun v8 =>
    nm (v8 * x7) fun v9 =>
    nm (5 * x5) fun v10 =>
    nm (v10 + x12) fun v11 =>
    gd (vin v11 20) <|
    nm (J 14 v11.toNatClampNeg) fun v13 =>
    nm (x10 * v13) fun v14 =>
    nm (v9 - v14) fun v15 =>
    gd (¬ x3 = 0) <|
    nm (v15 / x3) fun v17 =>
    gd (vin v4 20) <|
    nm (va_up J 14 (vp_updL (J 14) v4.toNatClampNeg v17)) fun J19 =>
    nm (x12 + 1) fun v20 =>
    k349 x1 x2 x3 x5 x7 x9 x10 v20 I J19
def b_R_solve_0 (k7 : Int32 → Int32 → Int32 → SI → SJ → Option (Int32 × SI × SJ)) (x1 : Int32) (I : SI) (J : SJ) : Option (Int32 × SI × SJ) :=
  k7 x1 (I 0 23) 0 I J
def g_R_solve : Nat → (Int32 → Int32 → Int32 → SI → SJ → Option (Int32 × SI × SJ)) × (Int32 → Int32 → Int32 → Int64 → Int32 → SI → SJ → Option (Int32 × SI × SJ)) × (Int32 → Int32 → Int32 → Int64 → Int32 → SI → SJ → Option (Int32 × SI × SJ)) × (Int32 → Int32 → Int64 → Int32 → SI → SJ → Option (Int32 × SI × SJ)) × (Int32 → Int32 → Int64 → Int32 → Int32 → SI → SJ → Option (Int32 × SI × SJ)) × (Int32 → Int32 → Int64 → Int32 → Int32 → Int32 → SI → SJ → Option (Int32 × SI × SJ)) × (Int32 → Int32 → Int64 → Int32 → Int64 → Int32 → SI → SJ → Option (Int32 × SI × SJ)) × (Int32 → Int32 → Int64 → Int32 → Int64 → Int32 → Int64 → Int32 → SI → SJ → Option (Int32 × SI × SJ)) × (Int32 → Int32 → Int64 → SI → SJ → Option (Int32 × SI × SJ)) × (Int32 → Int32 → Int64 → Int32 → SI → SJ → Option (Int32 × SI × SJ)) × (Int32 → Int64 → Int32 → SI → SJ → Option (Int32 × SI × SJ))
  | 0 => (fun _ _ _ _ _ => none, fun _ _ _ _ _ _ _ => none, fun _ _ _ _ _ _ _ => none, fun _ _ _ _ _ _ => none, fun _ _ _ _ _ _ _ => none, fun _ _ _ _ _ _ _ _ => none, fun _ _ _ _ _ _ _ _ => none, fun _ _ _ _ _ _ _ _ _ _ => none, fun _ _ _ _ _ => none, fun _ _ _ _ _ _ => none, fun _ _ _ _ _ => none)
  | n + 1 => (fun x1 x2 x3 I J => b_R_solve_7 (g_R_solve n).2.1 (g_R_solve n).2.2.2.1 x1 x2 x3 I J, fun x1 x2 x3 x4 x6 I J => b_R_solve_39 (g_R_solve n).2.1 (g_R_solve n).2.2.1 x1 x2 x3 x4 x6 I J, fun x1 x2 x3 x4 x6 I J => b_R_solve_107 (g_R_solve n).1 (g_R_solve n).2.2.1 x1 x2 x3 x4 x6 I J, fun x1 x2 x3 x5 I J => b_R_solve_180 (g_R_solve n).2.2.2.2.1 (g_R_solve n).2.2.2.2.2.2.2.2.1 x1 x2 x3 x5 I J, fun x1 x2 x3 x5 x6 I J => b_R_solve_190 (g_R_solve n).2.2.2.2.1 (g_R_solve n).2.2.2.2.2.1 x1 x2 x3 x5 x6 I J, fun x1 x2 x3 x5 x6 x7 I J => b_R_solve_230 (g_R_solve n).2.2.2.2.2.1 (g_R_solve n).2.2.2.2.2.2.1 x1 x2 x3 x5 x6 x7 I J, fun x1 x2 x3 x5 x7 x9 I J => b_R_solve_319 (g_R_solve n).2.2.2.1 (g_R_solve n).2.2.2.2.2.2.1 (g_R_solve n).2.2.2.2.2.2.2.1 x1 x2 x3 x5 x7 x9 I J, fun x1 x2 x3 x5 x7 x9 x10 x12 I J => b_R_solve_349 (g_R_solve n).2.2.2.2.2.2.1 (g_R_solve n).2.2.2.2.2.2.2.1 x1 x2 x3 x5 x7 x9 x10 x12 I J, fun x1 x2 k0 I J => b_R_solve_431 (g_R_solve n).2.2.2.2.2.2.2.2.2.1 x1 x2 k0 I J, fun x1 x2 x5 x7 I J => b_R_solve_466 (g_R_solve n).2.2.2.2.2.2.2.2.2.1 (g_R_solve n).2.2.2.2.2.2.2.2.2.2 x1 x2 x5 x7 I J, fun x1 x7 x9 I J => b_R_solve_510 (g_R_solve n).2.2.2.2.2.2.2.2.2.2 x1 x7 x9 I J)
def m_R_solve (x1 : Int32) (I : SI) (J : SJ) : Option (Int32 × SI × SJ) := b_R_solve_0 (g_R_solve fuel).1 x1 I J
def rm_R_solve : Room := { frames := 1, cells := 0, slots := 0, locals := 22 }
set_option maxHeartbeats 4000000 in
set_option maxRecDepth 100000 in
theorem w_R_solve_7 {p : Program} {l : Launch} {e : Env} {s : State} {m : MethodId} {args : Array Value} {below : List Frame} {meth : Method} {c : Code} {D : va_G} {A : Nat → Prop} {ad : Nat → Nat} {cI cJ cG : ClassId} {res : Int32 × SI × SJ} (X : Cx p s m args meth c bR_solve (some .boolean) 13 RR) (hK : va_K D vwCl (tysR cI cJ cG) s) (hN : NWs s) (hA : ∀ q, s.heap.size ≤ q → A q)
    {k39 : Int32 → Int32 → Int32 → Int64 → Int32 → SI → SJ → Option (Int32 × SI × SJ)} (hk39 : ∀ (x1 : Int32) (x2 : Int32) (x3 : Int32) (x4 : Int64) (x6 : Int32) (I : SI) (J : SJ), k39 x1 x2 x3 x4 x6 I J = some res → WB p l e (headSpec (Cond.code yR_solve bR_solve 13 (some .boolean) :: gtb) rm_R_solve).room s m args below meth c (MQ below (va_Qi (fun (r : Int32) (u : SI × SJ) => (r, u) = res) (atW D vwCl (tysR cI cJ cG) A (wsR ad cI cJ cG)) A) args s 0 0 A) D vwCl A 13 (wsR ad cI cJ cG I J) 39 [(0, .ref (ad 0)), (1, .int x1), (2, .int x2), (3, .int x3), (4, .long x4), (6, .int x6)] [])
    {k180 : Int32 → Int32 → Int64 → Int32 → SI → SJ → Option (Int32 × SI × SJ)} (hk180 : ∀ (x1 : Int32) (x2 : Int32) (x3 : Int64) (x5 : Int32) (I : SI) (J : SJ), k180 x1 x2 x3 x5 I J = some res → WB p l e (headSpec (Cond.code yR_solve bR_solve 13 (some .boolean) :: gtb) rm_R_solve).room s m args below meth c (MQ below (va_Qi (fun (r : Int32) (u : SI × SJ) => (r, u) = res) (atW D vwCl (tysR cI cJ cG) A (wsR ad cI cJ cG)) A) args s 0 0 A) D vwCl A 13 (wsR ad cI cJ cG I J) 180 [(0, .ref (ad 0)), (1, .int x1), (2, .int x2), (3, .long x3), (5, .int x5)] [])
     (x1 : Int32) (x2 : Int32) (x3 : Int32) (I : SI) (J : SJ) (hm : b_R_solve_7 k39 k180 x1 x2 x3 I J = some res) : WB p l e (headSpec (Cond.code yR_solve bR_solve 13 (some .boolean) :: gtb) rm_R_solve).room s m args below meth c (MQ below (va_Qi (fun (r : Int32) (u : SI × SJ) => (r, u) = res) (atW D vwCl (tysR cI cJ cG) A (wsR ad cI cJ cG)) A) args s 0 0 A) D vwCl A 13 (wsR ad cI cJ cG I J) 7 [(0, .ref (ad 0)), (1, .int x1), (2, .int x2), (3, .int x3)] [] := by
  obtain ⟨hx, hb, hr, hml, hown, hT, hlk⟩ := X
  intro H locs ls hP hD hS hl
  unfold b_R_solve_7 at hm
  refine lv_iload_n hx hb dR_solve_7 rfl (lv_at hl 3 rfl) ?_
  refine lv_iload_n hx hb dR_solve_8 rfl (lv_at hl 2 rfl) ?_
  refine lv_icmp_ge (tgt := 175) hx hb dR_solve_9 (by decide) (fun c1 => ?_) (fun c1 => ?_)
  · have hm := brp hm c1
    refine lv_lconst (v := 1) hx hb dR_solve_175 (by decide) ?_
    refine lv_lstore_n (lv' := [(3, .long 1), (0, .ref (ad 0)), (1, .int x1), (2, .int x2)]) hx hb dR_solve_176 rfl hl (by decide) rfl (fun ls hl => ?_)
    refine lv_iconst (v := 0) hx hb dR_solve_177 (by decide) ?_
    refine lv_istore (lv' := [(5, .int 0), (3, .long 1), (0, .ref (ad 0)), (1, .int x1), (2, .int x2)]) hx hb dR_solve_178 hl (by decide) rfl (fun ls hl => ?_)
    exact hk180 x1 x2 1 0 I J hm _ _ _ hP hD hS (lv_sub hl [2, 3, 4, 1, 0] rfl)
  · have hm := brn hm c1
    refine lv_iload_n hx hb dR_solve_12 rfl (lv_at hl 3 rfl) ?_
    refine lv_if_ne (tgt := 21) hx hb dR_solve_13 (by decide) (fun c2 => ?_) (fun c2 => ?_)
    · have hm := brn hm c2
      refine lv_aload_n hx hb dR_solve_21 rfl (lv_at hl 0 rfl) ?_
      refine lv_aload_n hx hb dR_solve_22 rfl (lv_at hl 0 rfl) ?_
      refine va_get (D := D) (ci := 6) (v := .ref (ad 16)) (C := RR) (T := TR) (N := 31) hx hb hT inR hown hK hP 0 rfl rfl 27 (by decide) (hT _ wd_562) (fun _ h9 => h9) rfl dR_solve_23 ?_
      refine lv_iload_n hx hb dR_solve_26 rfl (lv_at hl 3 rfl) ?_
      refine lv_iconst (v := 1) hx hb dR_solve_27 (by decide) ?_
      refine lv_isub hx hb dR_solve_28 ?_
      refine lv_topi (fun v3 ev3 => ?_)
      have hm := nm_to ev3 hm
      obtain ⟨g4, hm⟩ := gd_to hm
      refine va_iald hx hb hK hP 16 0 rfl rfl g4 dR_solve_29 ?_
      refine lv_topi (fun v5 ev5 => ?_)
      have hm := nm_to ev5 hm
      refine lv_iload_n hx hb dR_solve_30 rfl (lv_at hl 1 rfl) ?_
      obtain ⟨r6, I7, J8, hc9, hm⟩ := cl3_to hm
      refine pst_l (wf := wsR ad cI cJ cG) hD hS hA (va_runV (As := [.int v5, .int x1]) (rest := []) ⟨hx, hb, hml, hown, hT⟩ (c_R_right l D ad cI cJ cG _ v5 x1 I J _ hc9) (cwV 2 hT (gV wd_697 wd_699 wd_40 wd_57 wd_700) rfl rfl rfl (by decide +kernel) ⟨Nat.le_of_ble_eq_true rfl, Nat.le_of_ble_eq_true rfl⟩) ⟨preW_fb, va_recv hK hP (ci := 6) (q0 := 0) rfl rfl, preW_at hP hK hN hD⟩ rfl rfl hl.1 rfl (lv_room (Nat.le_of_ble_eq_true rfl)) dR_solve_31 ⟨Nat.zero_le _, Nat.zero_le _⟩) (fun H locs hP hD hS => ?_)
      refine lv_lstore (lv' := [(4, .long r6), (0, .ref (ad 0)), (1, .int x1), (2, .int x2), (3, .int x3)]) hx hb dR_solve_34 hl (by decide) rfl (fun ls hl => ?_)
      refine lv_iconst (v := 0) hx hb dR_solve_36 (by decide) ?_
      refine lv_istore (lv' := [(6, .int 0), (4, .long r6), (0, .ref (ad 0)), (1, .int x1), (2, .int x2), (3, .int x3)]) hx hb dR_solve_37 hl (by decide) rfl (fun ls hl => ?_)
      exact hk39 x1 x2 x3 r6 0 I7 J8 hm _ _ _ hP hD hS (lv_sub hl [2, 3, 4, 5, 1, 0] rfl)
    · have hm := brp hm c2
      refine lv_iload_n hx hb dR_solve_16 rfl (lv_at hl 1 rfl) ?_
      refine lv_i2l hx hb dR_solve_17 rfl ?_
      refine lv_topl (fun v10 ev10 => ?_)
      have hm := nm_to ev10 hm
      refine lv_goto (tgt := 34) hx hb dR_solve_18 (by decide) ?_
      refine lv_lstore (lv' := [(4, .long v10), (0, .ref (ad 0)), (1, .int x1), (2, .int x2), (3, .int x3)]) hx hb dR_solve_34 hl (by decide) rfl (fun ls hl => ?_)
      refine lv_iconst (v := 0) hx hb dR_solve_36 (by decide) ?_
      refine lv_istore (lv' := [(6, .int 0), (4, .long v10), (0, .ref (ad 0)), (1, .int x1), (2, .int x2), (3, .int x3)]) hx hb dR_solve_37 hl (by decide) rfl (fun ls hl => ?_)
      exact hk39 x1 x2 x3 v10 0 I J hm _ _ _ hP hD hS (lv_sub hl [2, 3, 4, 5, 1, 0] rfl)
set_option maxHeartbeats 4000000 in
set_option maxRecDepth 100000 in
theorem w_R_solve_180 {p : Program} {l : Launch} {e : Env} {s : State} {m : MethodId} {args : Array Value} {below : List Frame} {meth : Method} {c : Code} {D : va_G} {A : Nat → Prop} {ad : Nat → Nat} {cI cJ cG : ClassId} {res : Int32 × SI × SJ} (X : Cx p s m args meth c bR_solve (some .boolean) 13 RR) (hK : va_K D vwCl (tysR cI cJ cG) s) (hN : NWs s) (hA : ∀ q, s.heap.size ≤ q → A q)
    {k190 : Int32 → Int32 → Int64 → Int32 → Int32 → SI → SJ → Option (Int32 × SI × SJ)} (hk190 : ∀ (x1 : Int32) (x2 : Int32) (x3 : Int64) (x5 : Int32) (x6 : Int32) (I : SI) (J : SJ), k190 x1 x2 x3 x5 x6 I J = some res → WB p l e (headSpec (Cond.code yR_solve bR_solve 13 (some .boolean) :: gtb) rm_R_solve).room s m args below meth c (MQ below (va_Qi (fun (r : Int32) (u : SI × SJ) => (r, u) = res) (atW D vwCl (tysR cI cJ cG) A (wsR ad cI cJ cG)) A) args s 0 0 A) D vwCl A 13 (wsR ad cI cJ cG I J) 190 [(0, .ref (ad 0)), (1, .int x1), (2, .int x2), (3, .long x3), (5, .int x5), (6, .int x6)] [])
    {k431 : Int32 → Int32 → Int64 → SI → SJ → Option (Int32 × SI × SJ)} (hk431 : ∀ (x1 : Int32) (x2 : Int32) (k0 : Int64) (I : SI) (J : SJ), k431 x1 x2 k0 I J = some res → WB p l e (headSpec (Cond.code yR_solve bR_solve 13 (some .boolean) :: gtb) rm_R_solve).room s m args below meth c (MQ below (va_Qi (fun (r : Int32) (u : SI × SJ) => (r, u) = res) (atW D vwCl (tysR cI cJ cG) A (wsR ad cI cJ cG)) A) args s 0 0 A) D vwCl A 13 (wsR ad cI cJ cG I J) 431 [(0, .ref (ad 0)), (1, .int x1), (2, .int x2)] [.long k0, .ref (ad 0)])
     (x1 : Int32) (x2 : Int32) (x3 : Int64) (x5 : Int32) (I : SI) (J : SJ) (hm : b_R_solve_180 k190 k431 x1 x2 x3 x5 I J = some res) : WB p l e (headSpec (Cond.code yR_solve bR_solve 13 (some .boolean) :: gtb) rm_R_solve).room s m args below meth c (MQ below (va_Qi (fun (r : Int32) (u : SI × SJ) => (r, u) = res) (atW D vwCl (tysR cI cJ cG) A (wsR ad cI cJ cG)) A) args s 0 0 A) D vwCl A 13 (wsR ad cI cJ cG I J) 180 [(0, .ref (ad 0)), (1, .int x1), (2, .int x2), (3, .long x3), (5, .int x5)] [] := by
  obtain ⟨hx, hb, hr, hml, hown, hT, hlk⟩ := X
  intro H locs ls hP hD hS hl
  unfold b_R_solve_180 at hm
  refine lv_iload hx hb dR_solve_180 (lv_at hl 4 rfl) ?_
  refine lv_iload_n hx hb dR_solve_182 rfl (lv_at hl 2 rfl) ?_
  refine lv_icmp_ge (tgt := 421) hx hb dR_solve_183 (by decide) (fun c1 => ?_) (fun c1 => ?_)
  · have hm := brp hm c1
    refine lv_aload_n hx hb dR_solve_421 rfl (lv_at hl 0 rfl) ?_
    refine lv_iload_n hx hb dR_solve_422 rfl (lv_at hl 2 rfl) ?_
    refine lv_if_ne (tgt := 430) hx hb dR_solve_423 (by decide) (fun c2 => ?_) (fun c2 => ?_)
    · have hm := brn hm c2
      refine lv_lload_n hx hb dR_solve_430 rfl (lv_at hl 3 rfl) ?_
      exact hk431 x1 x2 x3 I J hm _ _ _ hP hD hS (lv_sub hl [0, 1, 2] rfl)
    · have hm := brp hm c2
      refine lv_lconst (v := 1) hx hb dR_solve_426 (by decide) ?_
      refine lv_goto (tgt := 431) hx hb dR_solve_427 (by decide) ?_
      exact hk431 x1 x2 1 I J hm _ _ _ hP hD hS (lv_sub hl [0, 1, 2] rfl)
  · have hm := brn hm c1
    refine lv_iload hx hb dR_solve_186 (lv_at hl 4 rfl) ?_
    refine lv_istore (lv' := [(6, .int x5), (0, .ref (ad 0)), (1, .int x1), (2, .int x2), (3, .long x3), (5, .int x5)]) hx hb dR_solve_188 hl (by decide) rfl (fun ls hl => ?_)
    exact hk190 x1 x2 x3 x5 x5 I J hm _ _ _ hP hD hS (lv_sub hl [1, 2, 3, 4, 5, 0] rfl)
set_option maxHeartbeats 4000000 in
set_option maxRecDepth 100000 in
theorem w_R_solve_39 {p : Program} {l : Launch} {e : Env} {s : State} {m : MethodId} {args : Array Value} {below : List Frame} {meth : Method} {c : Code} {D : va_G} {A : Nat → Prop} {ad : Nat → Nat} {cI cJ cG : ClassId} {res : Int32 × SI × SJ} (X : Cx p s m args meth c bR_solve (some .boolean) 13 RR) (hK : va_K D vwCl (tysR cI cJ cG) s) (hN : NWs s) (hA : ∀ q, s.heap.size ≤ q → A q)
    {k39 : Int32 → Int32 → Int32 → Int64 → Int32 → SI → SJ → Option (Int32 × SI × SJ)} (hk39 : ∀ (x1 : Int32) (x2 : Int32) (x3 : Int32) (x4 : Int64) (x6 : Int32) (I : SI) (J : SJ), k39 x1 x2 x3 x4 x6 I J = some res → WB p l e (headSpec (Cond.code yR_solve bR_solve 13 (some .boolean) :: gtb) rm_R_solve).room s m args below meth c (MQ below (va_Qi (fun (r : Int32) (u : SI × SJ) => (r, u) = res) (atW D vwCl (tysR cI cJ cG) A (wsR ad cI cJ cG)) A) args s 0 0 A) D vwCl A 13 (wsR ad cI cJ cG I J) 39 [(0, .ref (ad 0)), (1, .int x1), (2, .int x2), (3, .int x3), (4, .long x4), (6, .int x6)] [])
    {k107 : Int32 → Int32 → Int32 → Int64 → Int32 → SI → SJ → Option (Int32 × SI × SJ)} (hk107 : ∀ (x1 : Int32) (x2 : Int32) (x3 : Int32) (x4 : Int64) (x6 : Int32) (I : SI) (J : SJ), k107 x1 x2 x3 x4 x6 I J = some res → WB p l e (headSpec (Cond.code yR_solve bR_solve 13 (some .boolean) :: gtb) rm_R_solve).room s m args below meth c (MQ below (va_Qi (fun (r : Int32) (u : SI × SJ) => (r, u) = res) (atW D vwCl (tysR cI cJ cG) A (wsR ad cI cJ cG)) A) args s 0 0 A) D vwCl A 13 (wsR ad cI cJ cG I J) 107 [(0, .ref (ad 0)), (1, .int x1), (2, .int x2), (3, .int x3), (4, .long x4), (6, .int x6)] [])
     (x1 : Int32) (x2 : Int32) (x3 : Int32) (x4 : Int64) (x6 : Int32) (I : SI) (J : SJ) (hm : b_R_solve_39 k39 k107 x1 x2 x3 x4 x6 I J = some res) : WB p l e (headSpec (Cond.code yR_solve bR_solve 13 (some .boolean) :: gtb) rm_R_solve).room s m args below meth c (MQ below (va_Qi (fun (r : Int32) (u : SI × SJ) => (r, u) = res) (atW D vwCl (tysR cI cJ cG) A (wsR ad cI cJ cG)) A) args s 0 0 A) D vwCl A 13 (wsR ad cI cJ cG I J) 39 [(0, .ref (ad 0)), (1, .int x1), (2, .int x2), (3, .int x3), (4, .long x4), (6, .int x6)] [] := by
  obtain ⟨hx, hb, hr, hml, hown, hT, hlk⟩ := X
  intro H locs ls hP hD hS hl
  unfold b_R_solve_39 at hm
  refine lv_iload hx hb dR_solve_39 (lv_at hl 5 rfl) ?_
  refine lv_aload_n hx hb dR_solve_41 rfl (lv_at hl 0 rfl) ?_
  refine va_get (D := D) (ci := 6) (v := .int (I 0 0)) (C := RR) (T := TR) (N := 31) hx hb hT inR hown hK hP 0 rfl rfl 0 (by decide) (hT _ wd_535) (fun _ h9 => h9) rfl dR_solve_42 ?_
  refine lv_icmp_ge (tgt := 104) hx hb dR_solve_45 (by decide) (fun c1 => ?_) (fun c1 => ?_)
  · have hm := brp hm c1
    refine lv_iconst (v := 0) hx hb dR_solve_104 (by decide) ?_
    refine lv_istore (lv' := [(6, .int 0), (0, .ref (ad 0)), (1, .int x1), (2, .int x2), (3, .int x3), (4, .long x4)]) hx hb dR_solve_105 hl (by decide) rfl (fun ls hl => ?_)
    exact hk107 x1 x2 x3 x4 0 I J hm _ _ _ hP hD hS (lv_sub hl [1, 2, 3, 4, 5, 0] rfl)
  · have hm := brn hm c1
    refine lv_lload hx hb dR_solve_48 (lv_at hl 4 rfl) ?_
    refine lv_aload_n hx hb dR_solve_50 rfl (lv_at hl 0 rfl) ?_
    refine va_get (D := D) (ci := 6) (v := .ref (ad 12)) (C := RR) (T := TR) (N := 31) hx hb hT inR hown hK hP 0 rfl rfl 21 (by decide) (hT _ wd_556) (fun _ h9 => h9) rfl dR_solve_51 ?_
    refine lv_iload hx hb dR_solve_54 (lv_at hl 5 rfl) ?_
    obtain ⟨g2, hm⟩ := gd_to hm
    refine va_iald hx hb hK hP 12 0 rfl rfl g2 dR_solve_56 ?_
    refine lv_topi (fun v3 ev3 => ?_)
    have hm := nm_to ev3 hm
    refine lv_if_ge (tgt := 64) hx hb dR_solve_57 (by decide) (fun c4 => ?_) (fun c4 => ?_)
    · have hm := brp hm c4
      refine lv_iload_n hx hb dR_solve_64 rfl (lv_at hl 3 rfl) ?_
      refine lv_if_ne (tgt := 72) hx hb dR_solve_65 (by decide) (fun c5 => ?_) (fun c5 => ?_)
      · have hm := brn hm c5
        refine lv_aload_n hx hb dR_solve_72 rfl (lv_at hl 0 rfl) ?_
        refine lv_aload_n hx hb dR_solve_73 rfl (lv_at hl 0 rfl) ?_
        refine va_get (D := D) (ci := 6) (v := .ref (ad 16)) (C := RR) (T := TR) (N := 31) hx hb hT inR hown hK hP 0 rfl rfl 27 (by decide) (hT _ wd_562) (fun _ h9 => h9) rfl dR_solve_74 ?_
        refine lv_iload_n hx hb dR_solve_77 rfl (lv_at hl 3 rfl) ?_
        refine lv_iconst (v := 1) hx hb dR_solve_78 (by decide) ?_
        refine lv_isub hx hb dR_solve_79 ?_
        refine lv_topi (fun v6 ev6 => ?_)
        have hm := nm_to ev6 hm
        obtain ⟨g7, hm⟩ := gd_to hm
        refine va_iald hx hb hK hP 16 0 rfl rfl g7 dR_solve_80 ?_
        refine lv_topi (fun v8 ev8 => ?_)
        have hm := nm_to ev8 hm
        refine lv_iload hx hb dR_solve_81 (lv_at hl 5 rfl) ?_
        obtain ⟨r9, I10, J11, hc12, hm⟩ := cl3_to hm
        refine pst_l (wf := wsR ad cI cJ cG) hD hS hA (va_runV (As := [.int v8, .int x6]) (rest := [.long x4]) ⟨hx, hb, hml, hown, hT⟩ (c_R_factor l D ad cI cJ cG _ v8 x6 I J _ hc12) (cwV 2 hT (gV wd_701 wd_703 wd_41 wd_57 wd_704) rfl rfl rfl (by decide +kernel) ⟨Nat.le_of_ble_eq_true rfl, Nat.le_of_ble_eq_true rfl⟩) ⟨preW_fb, va_recv hK hP (ci := 6) (q0 := 0) rfl rfl, preW_at hP hK hN hD⟩ rfl rfl hl.1 rfl (lv_room (Nat.le_of_ble_eq_true rfl)) dR_solve_83 ⟨Nat.zero_le _, Nat.zero_le _⟩) (fun H locs hP hD hS => ?_)
        refine lv_aload_n hx hb dR_solve_86 rfl (lv_at hl 0 rfl) ?_
        refine va_get (D := D) (ci := 6) (v := .ref (ad 12)) (C := RR) (T := TR) (N := 31) hx hb hT inR hown hK hP 0 rfl rfl 21 (by decide) (hT _ wd_556) (fun _ h9 => h9) rfl dR_solve_87 ?_
        refine lv_iload hx hb dR_solve_90 (lv_at hl 5 rfl) ?_
        obtain ⟨g13, hm⟩ := gd_to hm
        refine va_iald hx hb hK hP 12 0 rfl rfl g13 dR_solve_92 ?_
        refine lv_topi (fun v14 ev14 => ?_)
        have hm := nm_to ev14 hm
        refine lv_i2l hx hb dR_solve_93 rfl ?_
        refine lv_topl (fun v15 ev15 => ?_)
        have hm := nm_to ev15 hm
        refine lv_lmul hx hb dR_solve_94 ?_
        refine lv_topl (fun v16 ev16 => ?_)
        have hm := nm_to ev16 hm
        refine lv_lsub hx hb dR_solve_95 ?_
        refine lv_topl (fun v17 ev17 => ?_)
        have hm := nm_to ev17 hm
        refine lv_lstore (lv' := [(4, .long v17), (0, .ref (ad 0)), (1, .int x1), (2, .int x2), (3, .int x3), (6, .int x6)]) hx hb dR_solve_96 hl (by decide) rfl (fun ls hl => ?_)
        obtain ⟨v18, ev18⟩ : ∃ z : Int32, z = x6 + 1 := ⟨_, rfl⟩
        have hm := nm_to ev18 hm
        refine lv_iinc (v := v18) (lv' := [(6, .int v18), (4, .long v17), (0, .ref (ad 0)), (1, .int x1), (2, .int x2), (3, .int x3)]) hx hb dR_solve_98 hl (k := 5) rfl (by rw [ev18]; rfl) (by decide) rfl (fun ls hl => ?_)
        refine lv_goto (tgt := 39) hx hb dR_solve_101 (by decide) ?_
        exact hk39 x1 x2 x3 v17 v18 I10 J11 hm _ _ _ hP hD hS (lv_sub hl [2, 3, 4, 5, 1, 0] rfl)
      · have hm := brp hm c5
        refine lv_lconst (v := 1) hx hb dR_solve_68 (by decide) ?_
        refine lv_goto (tgt := 86) hx hb dR_solve_69 (by decide) ?_
        refine lv_aload_n hx hb dR_solve_86 rfl (lv_at hl 0 rfl) ?_
        refine va_get (D := D) (ci := 6) (v := .ref (ad 12)) (C := RR) (T := TR) (N := 31) hx hb hT inR hown hK hP 0 rfl rfl 21 (by decide) (hT _ wd_556) (fun _ h9 => h9) rfl dR_solve_87 ?_
        refine lv_iload hx hb dR_solve_90 (lv_at hl 5 rfl) ?_
        obtain ⟨g19, hm⟩ := gd_to hm
        refine va_iald hx hb hK hP 12 0 rfl rfl g19 dR_solve_92 ?_
        refine lv_topi (fun v20 ev20 => ?_)
        have hm := nm_to ev20 hm
        refine lv_i2l hx hb dR_solve_93 rfl ?_
        refine lv_topl (fun v21 ev21 => ?_)
        have hm := nm_to ev21 hm
        refine lv_lmul hx hb dR_solve_94 ?_
        refine lv_topl (fun v22 ev22 => ?_)
        have hm := nm_to ev22 hm
        refine lv_lsub hx hb dR_solve_95 ?_
        refine lv_topl (fun v23 ev23 => ?_)
        have hm := nm_to ev23 hm
        refine lv_lstore (lv' := [(4, .long v23), (0, .ref (ad 0)), (1, .int x1), (2, .int x2), (3, .int x3), (6, .int x6)]) hx hb dR_solve_96 hl (by decide) rfl (fun ls hl => ?_)
        obtain ⟨v24, ev24⟩ : ∃ z : Int32, z = x6 + 1 := ⟨_, rfl⟩
        have hm := nm_to ev24 hm
        refine lv_iinc (v := v24) (lv' := [(6, .int v24), (4, .long v23), (0, .ref (ad 0)), (1, .int x1), (2, .int x2), (3, .int x3)]) hx hb dR_solve_98 hl (k := 5) rfl (by rw [ev24]; rfl) (by decide) rfl (fun ls hl => ?_)
        refine lv_goto (tgt := 39) hx hb dR_solve_101 (by decide) ?_
        exact hk39 x1 x2 x3 v23 v24 I J hm _ _ _ hP hD hS (lv_sub hl [2, 3, 4, 5, 1, 0] rfl)
    · have hm := brn hm c4
      refine lv_lconst (v := 0) hx hb dR_solve_60 (by decide) ?_
      refine lv_goto (tgt := 95) hx hb dR_solve_61 (by decide) ?_
      refine lv_lsub hx hb dR_solve_95 ?_
      refine lv_topl (fun v25 ev25 => ?_)
      have hm := nm_to ev25 hm
      refine lv_lstore (lv' := [(4, .long v25), (0, .ref (ad 0)), (1, .int x1), (2, .int x2), (3, .int x3), (6, .int x6)]) hx hb dR_solve_96 hl (by decide) rfl (fun ls hl => ?_)
      obtain ⟨v26, ev26⟩ : ∃ z : Int32, z = x6 + 1 := ⟨_, rfl⟩
      have hm := nm_to ev26 hm
      refine lv_iinc (v := v26) (lv' := [(6, .int v26), (4, .long v25), (0, .ref (ad 0)), (1, .int x1), (2, .int x2), (3, .int x3)]) hx hb dR_solve_98 hl (k := 5) rfl (by rw [ev26]; rfl) (by decide) rfl (fun ls hl => ?_)
      refine lv_goto (tgt := 39) hx hb dR_solve_101 (by decide) ?_
      exact hk39 x1 x2 x3 v25 v26 I J hm _ _ _ hP hD hS (lv_sub hl [2, 3, 4, 5, 1, 0] rfl)
set_option maxHeartbeats 4000000 in
set_option maxRecDepth 100000 in
theorem w_R_solve_431 {p : Program} {l : Launch} {e : Env} {s : State} {m : MethodId} {args : Array Value} {below : List Frame} {meth : Method} {c : Code} {D : va_G} {A : Nat → Prop} {ad : Nat → Nat} {cI cJ cG : ClassId} {res : Int32 × SI × SJ} (X : Cx p s m args meth c bR_solve (some .boolean) 13 RR) (hK : va_K D vwCl (tysR cI cJ cG) s) (hN : NWs s) (hA : ∀ q, s.heap.size ≤ q → A q)
    {k466 : Int32 → Int32 → Int64 → Int32 → SI → SJ → Option (Int32 × SI × SJ)} (hk466 : ∀ (x1 : Int32) (x2 : Int32) (x5 : Int64) (x7 : Int32) (I : SI) (J : SJ), k466 x1 x2 x5 x7 I J = some res → WB p l e (headSpec (Cond.code yR_solve bR_solve 13 (some .boolean) :: gtb) rm_R_solve).room s m args below meth c (MQ below (va_Qi (fun (r : Int32) (u : SI × SJ) => (r, u) = res) (atW D vwCl (tysR cI cJ cG) A (wsR ad cI cJ cG)) A) args s 0 0 A) D vwCl A 13 (wsR ad cI cJ cG I J) 466 [(0, .ref (ad 0)), (1, .int x1), (2, .int x2), (5, .long x5), (7, .int x7)] [])
     (x1 : Int32) (x2 : Int32) (k0 : Int64) (I : SI) (J : SJ) (hm : b_R_solve_431 k466 x1 x2 k0 I J = some res) : WB p l e (headSpec (Cond.code yR_solve bR_solve 13 (some .boolean) :: gtb) rm_R_solve).room s m args below meth c (MQ below (va_Qi (fun (r : Int32) (u : SI × SJ) => (r, u) = res) (atW D vwCl (tysR cI cJ cG) A (wsR ad cI cJ cG)) A) args s 0 0 A) D vwCl A 13 (wsR ad cI cJ cG I J) 431 [(0, .ref (ad 0)), (1, .int x1), (2, .int x2)] [.long k0, .ref (ad 0)] := by
  obtain ⟨hx, hb, hr, hml, hown, hT, hlk⟩ := X
  intro H locs ls hP hD hS hl
  unfold b_R_solve_431 at hm
  refine va_put (D := D) (ci := 6) (v := .long k0) (ty := .long) (C := RR) (T := TR) (N := 31) hx hb hT inR tyR okR nmR hown hK hP hD hS 0 rfl rfl 26 (by decide) (hT _ wd_561) (fun _ h9 => h9) rfl pf_J rfl rfl (Nat.le_of_ble_eq_true rfl) dR_solve_431 (fun H locs hP hD hS => ?_)
  obtain ⟨J1, eJ1⟩ : ∃ z : SJ, z = va_up J 0 (vp_updL (J 0) 26 k0) := ⟨_, rfl⟩
  have hm := nm_to eJ1 hm
  have hP := P_eq (ws2 := wsR ad cI cJ cG I J1) hP (by rw [eJ1]; rfl)
  have hD := D_eq (ws2 := wsR ad cI cJ cG I J1) hD (by rw [eJ1]; rfl)
  refine lv_aload_n hx hb dR_solve_434 rfl (lv_at hl 0 rfl) ?_
  refine va_get (D := D) (ci := 6) (v := .long (J1 0 26)) (C := RR) (T := TR) (N := 31) hx hb hT inR hown hK hP 0 rfl rfl 26 (by decide) (hT _ wd_561) (fun _ h9 => h9) rfl dR_solve_435 ?_
  refine lv_lconst (v := 0) hx hb dR_solve_438 (by decide) ?_
  refine W.lcmp hx hb dR_solve_439 ?_
  refine lv_topi (fun v2 ev2 => ?_)
  have hm := nm_to ev2 hm
  refine lv_if_ge (tgt := 449) hx hb dR_solve_440 (by decide) (fun c3 => ?_) (fun c3 => ?_)
  · have hm := brp hm c3
    refine lv_lconst (v := 1) hx hb dR_solve_449 (by decide) ?_
    refine lv_lstore (lv' := [(5, .long 1), (0, .ref (ad 0)), (1, .int x1), (2, .int x2)]) hx hb dR_solve_450 hl (by decide) rfl (fun ls hl => ?_)
    refine lv_aload_n hx hb dR_solve_452 rfl (lv_at hl 1 rfl) ?_
    refine lv_aload_n hx hb dR_solve_453 rfl (lv_at hl 1 rfl) ?_
    refine va_get (D := D) (ci := 6) (v := .long (J1 0 26)) (C := RR) (T := TR) (N := 31) hx hb hT inR hown hK hP 0 rfl rfl 26 (by decide) (hT _ wd_561) (fun _ h9 => h9) rfl dR_solve_454 ?_
    refine lv_lload hx hb dR_solve_457 (lv_at hl 0 rfl) ?_
    refine lv_lmul hx hb dR_solve_459 ?_
    refine lv_topl (fun v4 ev4 => ?_)
    have hm := nm_to ev4 hm
    refine va_put (D := D) (ci := 6) (v := .long v4) (ty := .long) (C := RR) (T := TR) (N := 31) hx hb hT inR tyR okR nmR hown hK hP hD hS 0 rfl rfl 26 (by decide) (hT _ wd_561) (fun _ h9 => h9) rfl pf_J rfl rfl (Nat.le_of_ble_eq_true rfl) dR_solve_460 (fun H locs hP hD hS => ?_)
    obtain ⟨J5, eJ5⟩ : ∃ z : SJ, z = va_up J1 0 (vp_updL (J1 0) 26 v4) := ⟨_, rfl⟩
    have hm := nm_to eJ5 hm
    have hP := P_eq (ws2 := wsR ad cI cJ cG I J5) hP (by rw [eJ5]; rfl)
    have hD := D_eq (ws2 := wsR ad cI cJ cG I J5) hD (by rw [eJ5]; rfl)
    refine lv_iconst (v := 0) hx hb dR_solve_463 (by decide) ?_
    refine lv_istore (lv' := [(7, .int 0), (5, .long 1), (0, .ref (ad 0)), (1, .int x1), (2, .int x2)]) hx hb dR_solve_464 hl (by decide) rfl (fun ls hl => ?_)
    exact hk466 x1 x2 1 0 I J5 hm _ _ _ hP hD hS (lv_sub hl [2, 3, 4, 1, 0] rfl)
  · have hm := brn hm c3
    refine lv_ldc2 (v := (-1)) hx hb hown (hT _ wd_706) dR_solve_443 ?_
    refine lv_goto (tgt := 450) hx hb dR_solve_446 (by decide) ?_
    refine lv_lstore (lv' := [(5, .long (-1)), (0, .ref (ad 0)), (1, .int x1), (2, .int x2)]) hx hb dR_solve_450 hl (by decide) rfl (fun ls hl => ?_)
    refine lv_aload_n hx hb dR_solve_452 rfl (lv_at hl 1 rfl) ?_
    refine lv_aload_n hx hb dR_solve_453 rfl (lv_at hl 1 rfl) ?_
    refine va_get (D := D) (ci := 6) (v := .long (J1 0 26)) (C := RR) (T := TR) (N := 31) hx hb hT inR hown hK hP 0 rfl rfl 26 (by decide) (hT _ wd_561) (fun _ h9 => h9) rfl dR_solve_454 ?_
    refine lv_lload hx hb dR_solve_457 (lv_at hl 0 rfl) ?_
    refine lv_lmul hx hb dR_solve_459 ?_
    refine lv_topl (fun v6 ev6 => ?_)
    have hm := nm_to ev6 hm
    refine va_put (D := D) (ci := 6) (v := .long v6) (ty := .long) (C := RR) (T := TR) (N := 31) hx hb hT inR tyR okR nmR hown hK hP hD hS 0 rfl rfl 26 (by decide) (hT _ wd_561) (fun _ h9 => h9) rfl pf_J rfl rfl (Nat.le_of_ble_eq_true rfl) dR_solve_460 (fun H locs hP hD hS => ?_)
    obtain ⟨J7, eJ7⟩ : ∃ z : SJ, z = va_up J1 0 (vp_updL (J1 0) 26 v6) := ⟨_, rfl⟩
    have hm := nm_to eJ7 hm
    have hP := P_eq (ws2 := wsR ad cI cJ cG I J7) hP (by rw [eJ7]; rfl)
    have hD := D_eq (ws2 := wsR ad cI cJ cG I J7) hD (by rw [eJ7]; rfl)
    refine lv_iconst (v := 0) hx hb dR_solve_463 (by decide) ?_
    refine lv_istore (lv' := [(7, .int 0), (5, .long (-1)), (0, .ref (ad 0)), (1, .int x1), (2, .int x2)]) hx hb dR_solve_464 hl (by decide) rfl (fun ls hl => ?_)
    exact hk466 x1 x2 (-1) 0 I J7 hm _ _ _ hP hD hS (lv_sub hl [2, 3, 4, 1, 0] rfl)
set_option maxHeartbeats 4000000 in
set_option maxRecDepth 100000 in
theorem w_R_solve_190 {p : Program} {l : Launch} {e : Env} {s : State} {m : MethodId} {args : Array Value} {below : List Frame} {meth : Method} {c : Code} {D : va_G} {A : Nat → Prop} {ad : Nat → Nat} {cI cJ cG : ClassId} {res : Int32 × SI × SJ} (X : Cx p s m args meth c bR_solve (some .boolean) 13 RR) (hK : va_K D vwCl (tysR cI cJ cG) s) (hN : NWs s) (hA : ∀ q, s.heap.size ≤ q → A q)
    {k190 : Int32 → Int32 → Int64 → Int32 → Int32 → SI → SJ → Option (Int32 × SI × SJ)} (hk190 : ∀ (x1 : Int32) (x2 : Int32) (x3 : Int64) (x5 : Int32) (x6 : Int32) (I : SI) (J : SJ), k190 x1 x2 x3 x5 x6 I J = some res → WB p l e (headSpec (Cond.code yR_solve bR_solve 13 (some .boolean) :: gtb) rm_R_solve).room s m args below meth c (MQ below (va_Qi (fun (r : Int32) (u : SI × SJ) => (r, u) = res) (atW D vwCl (tysR cI cJ cG) A (wsR ad cI cJ cG)) A) args s 0 0 A) D vwCl A 13 (wsR ad cI cJ cG I J) 190 [(0, .ref (ad 0)), (1, .int x1), (2, .int x2), (3, .long x3), (5, .int x5), (6, .int x6)] [])
    {k230 : Int32 → Int32 → Int64 → Int32 → Int32 → Int32 → SI → SJ → Option (Int32 × SI × SJ)} (hk230 : ∀ (x1 : Int32) (x2 : Int32) (x3 : Int64) (x5 : Int32) (x6 : Int32) (x7 : Int32) (I : SI) (J : SJ), k230 x1 x2 x3 x5 x6 x7 I J = some res → WB p l e (headSpec (Cond.code yR_solve bR_solve 13 (some .boolean) :: gtb) rm_R_solve).room s m args below meth c (MQ below (va_Qi (fun (r : Int32) (u : SI × SJ) => (r, u) = res) (atW D vwCl (tysR cI cJ cG) A (wsR ad cI cJ cG)) A) args s 0 0 A) D vwCl A 13 (wsR ad cI cJ cG I J) 230 [(0, .ref (ad 0)), (1, .int x1), (2, .int x2), (3, .long x3), (5, .int x5), (6, .int x6), (7, .int x7)] [])
     (x1 : Int32) (x2 : Int32) (x3 : Int64) (x5 : Int32) (x6 : Int32) (I : SI) (J : SJ) (hm : b_R_solve_190 k190 k230 x1 x2 x3 x5 x6 I J = some res) : WB p l e (headSpec (Cond.code yR_solve bR_solve 13 (some .boolean) :: gtb) rm_R_solve).room s m args below meth c (MQ below (va_Qi (fun (r : Int32) (u : SI × SJ) => (r, u) = res) (atW D vwCl (tysR cI cJ cG) A (wsR ad cI cJ cG)) A) args s 0 0 A) D vwCl A 13 (wsR ad cI cJ cG I J) 190 [(0, .ref (ad 0)), (1, .int x1), (2, .int x2), (3, .long x3), (5, .int x5), (6, .int x6)] [] := by
  obtain ⟨hx, hb, hr, hml, hown, hT, hlk⟩ := X
  intro H locs ls hP hD hS hl
  unfold b_R_solve_190 at hm
  refine lv_iload hx hb dR_solve_190 (lv_at hl 5 rfl) ?_
  refine lv_iload_n hx hb dR_solve_192 rfl (lv_at hl 2 rfl) ?_
  refine lv_icmp_ge (tgt := 219) hx hb dR_solve_193 (by decide) (fun c1 => ?_) (fun c1 => ?_)
  · have hm := brp hm c1
    refine lv_iload hx hb dR_solve_219 (lv_at hl 5 rfl) ?_
    refine lv_iload_n hx hb dR_solve_221 rfl (lv_at hl 2 rfl) ?_
    refine lv_icmp_ne (tgt := 227) hx hb dR_solve_222 (by decide) (fun c2 => ?_) (fun c2 => ?_)
    · have hm := brn hm c2
      refine lv_iconst (v := 0) hx hb dR_solve_227 (by decide) ?_
      refine lv_istore (lv' := [(7, .int 0), (0, .ref (ad 0)), (1, .int x1), (2, .int x2), (3, .long x3), (5, .int x5), (6, .int x6)]) hx hb dR_solve_228 hl (by decide) rfl (fun ls hl => ?_)
      exact hk230 x1 x2 x3 x5 x6 0 I J hm _ _ _ hP hD hS (lv_sub hl [1, 2, 3, 4, 5, 6, 0] rfl)
    · have hm := brp hm c2
      refine lv_iconst (v := 0) hx hb dR_solve_225 (by decide) ?_
      exact W.zret hx hb hr rfl (fun t ht hW => ⟨⟨0, (I, J), rfl, Option.some.inj hm, ht ▸ hP, va_K.moved hW.alike hK, hD⟩, hS.F ht⟩) hS.2.2 dR_solve_226 hlk
  · have hm := brn hm c1
    refine lv_aload_n hx hb dR_solve_196 rfl (lv_at hl 0 rfl) ?_
    refine va_get (D := D) (ci := 6) (v := .ref (ad 14)) (C := RR) (T := TR) (N := 31) hx hb hT inR hown hK hP 0 rfl rfl 24 (by decide) (hT _ wd_559) (fun _ h9 => h9) rfl dR_solve_197 ?_
    refine lv_iconst (v := 5) hx hb dR_solve_200 (by decide) ?_
    refine lv_iload hx hb dR_solve_201 (lv_at hl 5 rfl) ?_
    refine lv_imul hx hb dR_solve_203 ?_
    refine lv_topi (fun v3 ev3 => ?_)
    have hm := nm_to ev3 hm
    refine lv_iload hx hb dR_solve_204 (lv_at hl 4 rfl) ?_
    refine lv_iadd hx hb dR_solve_206 ?_
    refine lv_topi (fun v4 ev4 => ?_)
    have hm := nm_to ev4 hm
    obtain ⟨g5, hm⟩ := gd_to hm
    refine va_lald hx hb hK hP 14 1 rfl rfl g5 dR_solve_207 ?_
    refine lv_topl (fun v6 ev6 => ?_)
    have hm := nm_to ev6 hm
    refine lv_lconst (v := 0) hx hb dR_solve_208 (by decide) ?_
    refine W.lcmp hx hb dR_solve_209 ?_
    refine lv_topi (fun v7 ev7 => ?_)
    have hm := nm_to ev7 hm
    refine lv_if_ne (tgt := 219) hx hb dR_solve_210 (by decide) (fun c8 => ?_) (fun c8 => ?_)
    · have hm := brn hm c8
      refine lv_iload hx hb dR_solve_219 (lv_at hl 5 rfl) ?_
      refine lv_iload_n hx hb dR_solve_221 rfl (lv_at hl 2 rfl) ?_
      refine lv_icmp_ne (tgt := 227) hx hb dR_solve_222 (by decide) (fun c9 => ?_) (fun c9 => ?_)
      · have hm := brn hm c9
        refine lv_iconst (v := 0) hx hb dR_solve_227 (by decide) ?_
        refine lv_istore (lv' := [(7, .int 0), (0, .ref (ad 0)), (1, .int x1), (2, .int x2), (3, .long x3), (5, .int x5), (6, .int x6)]) hx hb dR_solve_228 hl (by decide) rfl (fun ls hl => ?_)
        exact hk230 x1 x2 x3 x5 x6 0 I J hm _ _ _ hP hD hS (lv_sub hl [1, 2, 3, 4, 5, 6, 0] rfl)
      · have hm := brp hm c9
        refine lv_iconst (v := 0) hx hb dR_solve_225 (by decide) ?_
        exact W.zret hx hb hr rfl (fun t ht hW => ⟨⟨0, (I, J), rfl, Option.some.inj hm, ht ▸ hP, va_K.moved hW.alike hK, hD⟩, hS.F ht⟩) hS.2.2 dR_solve_226 hlk
    · have hm := brp hm c8
      obtain ⟨v10, ev10⟩ : ∃ z : Int32, z = x6 + 1 := ⟨_, rfl⟩
      have hm := nm_to ev10 hm
      refine lv_iinc (v := v10) (lv' := [(6, .int v10), (0, .ref (ad 0)), (1, .int x1), (2, .int x2), (3, .long x3), (5, .int x5)]) hx hb dR_solve_213 hl (k := 5) rfl (by rw [ev10]; rfl) (by decide) rfl (fun ls hl => ?_)
      refine lv_goto (tgt := 190) hx hb dR_solve_216 (by decide) ?_
      exact hk190 x1 x2 x3 x5 v10 I J hm _ _ _ hP hD hS (lv_sub hl [1, 2, 3, 4, 5, 0] rfl)
set_option maxHeartbeats 4000000 in
set_option maxRecDepth 100000 in
theorem w_R_solve_107 {p : Program} {l : Launch} {e : Env} {s : State} {m : MethodId} {args : Array Value} {below : List Frame} {meth : Method} {c : Code} {D : va_G} {A : Nat → Prop} {ad : Nat → Nat} {cI cJ cG : ClassId} {res : Int32 × SI × SJ} (X : Cx p s m args meth c bR_solve (some .boolean) 13 RR) (hK : va_K D vwCl (tysR cI cJ cG) s) (hN : NWs s) (hA : ∀ q, s.heap.size ≤ q → A q)
    {k7 : Int32 → Int32 → Int32 → SI → SJ → Option (Int32 × SI × SJ)} (hk7 : ∀ (x1 : Int32) (x2 : Int32) (x3 : Int32) (I : SI) (J : SJ), k7 x1 x2 x3 I J = some res → WB p l e (headSpec (Cond.code yR_solve bR_solve 13 (some .boolean) :: gtb) rm_R_solve).room s m args below meth c (MQ below (va_Qi (fun (r : Int32) (u : SI × SJ) => (r, u) = res) (atW D vwCl (tysR cI cJ cG) A (wsR ad cI cJ cG)) A) args s 0 0 A) D vwCl A 13 (wsR ad cI cJ cG I J) 7 [(0, .ref (ad 0)), (1, .int x1), (2, .int x2), (3, .int x3)] [])
    {k107 : Int32 → Int32 → Int32 → Int64 → Int32 → SI → SJ → Option (Int32 × SI × SJ)} (hk107 : ∀ (x1 : Int32) (x2 : Int32) (x3 : Int32) (x4 : Int64) (x6 : Int32) (I : SI) (J : SJ), k107 x1 x2 x3 x4 x6 I J = some res → WB p l e (headSpec (Cond.code yR_solve bR_solve 13 (some .boolean) :: gtb) rm_R_solve).room s m args below meth c (MQ below (va_Qi (fun (r : Int32) (u : SI × SJ) => (r, u) = res) (atW D vwCl (tysR cI cJ cG) A (wsR ad cI cJ cG)) A) args s 0 0 A) D vwCl A 13 (wsR ad cI cJ cG I J) 107 [(0, .ref (ad 0)), (1, .int x1), (2, .int x2), (3, .int x3), (4, .long x4), (6, .int x6)] [])
     (x1 : Int32) (x2 : Int32) (x3 : Int32) (x4 : Int64) (x6 : Int32) (I : SI) (J : SJ) (hm : b_R_solve_107 k7 k107 x1 x2 x3 x4 x6 I J = some res) : WB p l e (headSpec (Cond.code yR_solve bR_solve 13 (some .boolean) :: gtb) rm_R_solve).room s m args below meth c (MQ below (va_Qi (fun (r : Int32) (u : SI × SJ) => (r, u) = res) (atW D vwCl (tysR cI cJ cG) A (wsR ad cI cJ cG)) A) args s 0 0 A) D vwCl A 13 (wsR ad cI cJ cG I J) 107 [(0, .ref (ad 0)), (1, .int x1), (2, .int x2), (3, .int x3), (4, .long x4), (6, .int x6)] [] := by
  obtain ⟨hx, hb, hr, hml, hown, hT, hlk⟩ := X
  intro H locs ls hP hD hS hl
  unfold b_R_solve_107 at hm
  refine lv_iload hx hb dR_solve_107 (lv_at hl 5 rfl) ?_
  refine lv_iload_n hx hb dR_solve_109 rfl (lv_at hl 2 rfl) ?_
  refine lv_icmp_ge (tgt := 157) hx hb dR_solve_110 (by decide) (fun c1 => ?_) (fun c1 => ?_)
  · have hm := brp hm c1
    refine lv_aload_n hx hb dR_solve_157 rfl (lv_at hl 0 rfl) ?_
    refine va_get (D := D) (ci := 6) (v := .ref (ad 14)) (C := RR) (T := TR) (N := 31) hx hb hT inR hown hK hP 0 rfl rfl 24 (by decide) (hT _ wd_559) (fun _ h9 => h9) rfl dR_solve_158 ?_
    refine lv_iconst (v := 5) hx hb dR_solve_161 (by decide) ?_
    refine lv_iload_n hx hb dR_solve_162 rfl (lv_at hl 3 rfl) ?_
    refine lv_imul hx hb dR_solve_163 ?_
    refine lv_topi (fun v2 ev2 => ?_)
    have hm := nm_to ev2 hm
    refine lv_iconst (v := 4) hx hb dR_solve_164 (by decide) ?_
    refine lv_iadd hx hb dR_solve_165 ?_
    refine lv_topi (fun v3 ev3 => ?_)
    have hm := nm_to ev3 hm
    refine lv_lload hx hb dR_solve_166 (lv_at hl 4 rfl) ?_
    obtain ⟨g4, hm⟩ := gd_to hm
    refine va_last hx hb hK hP hD hS 14 1 rfl rfl g4 dR_solve_168 (fun H locs hP hD hS => ?_)
    obtain ⟨J5, eJ5⟩ : ∃ z : SJ, z = va_up J 14 (vp_updL (J 14) v3.toNatClampNeg x4) := ⟨_, rfl⟩
    have hm := nm_to eJ5 hm
    have hP := P_eq (ws2 := wsR ad cI cJ cG I J5) hP (by rw [eJ5]; rfl)
    have hD := D_eq (ws2 := wsR ad cI cJ cG I J5) hD (by rw [eJ5]; rfl)
    obtain ⟨v6, ev6⟩ : ∃ z : Int32, z = x3 + 1 := ⟨_, rfl⟩
    have hm := nm_to ev6 hm
    refine lv_iinc (v := v6) (lv' := [(3, .int v6), (0, .ref (ad 0)), (1, .int x1), (2, .int x2), (4, .long x4), (6, .int x6)]) hx hb dR_solve_169 hl (k := 3) rfl (by rw [ev6]; rfl) (by decide) rfl (fun ls hl => ?_)
    refine lv_goto (tgt := 7) hx hb dR_solve_172 (by decide) ?_
    exact hk7 x1 x2 v6 I J5 hm _ _ _ hP hD hS (lv_sub hl [1, 2, 3, 0] rfl)
  · have hm := brn hm c1
    refine lv_aload_n hx hb dR_solve_113 rfl (lv_at hl 0 rfl) ?_
    refine va_get (D := D) (ci := 6) (v := .ref (ad 14)) (C := RR) (T := TR) (N := 31) hx hb hT inR hown hK hP 0 rfl rfl 24 (by decide) (hT _ wd_559) (fun _ h9 => h9) rfl dR_solve_114 ?_
    refine lv_iconst (v := 5) hx hb dR_solve_117 (by decide) ?_
    refine lv_iload_n hx hb dR_solve_118 rfl (lv_at hl 3 rfl) ?_
    refine lv_imul hx hb dR_solve_119 ?_
    refine lv_topi (fun v7 ev7 => ?_)
    have hm := nm_to ev7 hm
    refine lv_iload hx hb dR_solve_120 (lv_at hl 5 rfl) ?_
    refine lv_iadd hx hb dR_solve_122 ?_
    refine lv_topi (fun v8 ev8 => ?_)
    have hm := nm_to ev8 hm
    refine lv_iload_n hx hb dR_solve_123 rfl (lv_at hl 3 rfl) ?_
    refine lv_if_ne (tgt := 131) hx hb dR_solve_124 (by decide) (fun c9 => ?_) (fun c9 => ?_)
    · have hm := brn hm c9
      refine lv_aload_n hx hb dR_solve_131 rfl (lv_at hl 0 rfl) ?_
      refine lv_aload_n hx hb dR_solve_132 rfl (lv_at hl 0 rfl) ?_
      refine va_get (D := D) (ci := 6) (v := .ref (ad 16)) (C := RR) (T := TR) (N := 31) hx hb hT inR hown hK hP 0 rfl rfl 27 (by decide) (hT _ wd_562) (fun _ h9 => h9) rfl dR_solve_133 ?_
      refine lv_iload_n hx hb dR_solve_136 rfl (lv_at hl 3 rfl) ?_
      refine lv_iconst (v := 1) hx hb dR_solve_137 (by decide) ?_
      refine lv_isub hx hb dR_solve_138 ?_
      refine lv_topi (fun v10 ev10 => ?_)
      have hm := nm_to ev10 hm
      obtain ⟨g11, hm⟩ := gd_to hm
      refine va_iald hx hb hK hP 16 0 rfl rfl g11 dR_solve_139 ?_
      refine lv_topi (fun v12 ev12 => ?_)
      have hm := nm_to ev12 hm
      refine lv_aload_n hx hb dR_solve_140 rfl (lv_at hl 0 rfl) ?_
      refine va_get (D := D) (ci := 6) (v := .ref (ad 13)) (C := RR) (T := TR) (N := 31) hx hb hT inR hown hK hP 0 rfl rfl 22 (by decide) (hT _ wd_557) (fun _ h9 => h9) rfl dR_solve_141 ?_
      refine lv_iload hx hb dR_solve_144 (lv_at hl 5 rfl) ?_
      obtain ⟨g13, hm⟩ := gd_to hm
      refine va_iald hx hb hK hP 13 0 rfl rfl g13 dR_solve_146 ?_
      refine lv_topi (fun v14 ev14 => ?_)
      have hm := nm_to ev14 hm
      obtain ⟨r15, I16, J17, hc18, hm⟩ := cl3_to hm
      refine pst_l (wf := wsR ad cI cJ cG) hD hS hA (va_runV (As := [.int v12, .int v14]) (rest := [.int v8, .ref (ad 14)]) ⟨hx, hb, hml, hown, hT⟩ (c_R_factor l D ad cI cJ cG _ v12 v14 I J _ hc18) (cwV 2 hT (gV wd_701 wd_703 wd_41 wd_57 wd_704) rfl rfl rfl (by decide +kernel) ⟨Nat.le_of_ble_eq_true rfl, Nat.le_of_ble_eq_true rfl⟩) ⟨preW_fb, va_recv hK hP (ci := 6) (q0 := 0) rfl rfl, preW_at hP hK hN hD⟩ rfl rfl hl.1 rfl (lv_room (Nat.le_of_ble_eq_true rfl)) dR_solve_147 ⟨Nat.zero_le _, Nat.zero_le _⟩) (fun H locs hP hD hS => ?_)
      obtain ⟨g19, hm⟩ := gd_to hm
      refine va_last hx hb hK hP hD hS 14 1 rfl rfl g19 dR_solve_150 (fun H locs hP hD hS => ?_)
      obtain ⟨J20, eJ20⟩ : ∃ z : SJ, z = va_up J17 14 (vp_updL (J17 14) v8.toNatClampNeg r15) := ⟨_, rfl⟩
      have hm := nm_to eJ20 hm
      have hP := P_eq (ws2 := wsR ad cI cJ cG I16 J20) hP (by rw [eJ20]; rfl)
      have hD := D_eq (ws2 := wsR ad cI cJ cG I16 J20) hD (by rw [eJ20]; rfl)
      obtain ⟨v21, ev21⟩ : ∃ z : Int32, z = x6 + 1 := ⟨_, rfl⟩
      have hm := nm_to ev21 hm
      refine lv_iinc (v := v21) (lv' := [(6, .int v21), (0, .ref (ad 0)), (1, .int x1), (2, .int x2), (3, .int x3), (4, .long x4)]) hx hb dR_solve_151 hl (k := 5) rfl (by rw [ev21]; rfl) (by decide) rfl (fun ls hl => ?_)
      refine lv_goto (tgt := 107) hx hb dR_solve_154 (by decide) ?_
      exact hk107 x1 x2 x3 x4 v21 I16 J20 hm _ _ _ hP hD hS (lv_sub hl [1, 2, 3, 4, 5, 0] rfl)
    · have hm := brp hm c9
      refine lv_lconst (v := 1) hx hb dR_solve_127 (by decide) ?_
      refine lv_goto (tgt := 150) hx hb dR_solve_128 (by decide) ?_
      obtain ⟨g22, hm⟩ := gd_to hm
      refine va_last hx hb hK hP hD hS 14 1 rfl rfl g22 dR_solve_150 (fun H locs hP hD hS => ?_)
      obtain ⟨J23, eJ23⟩ : ∃ z : SJ, z = va_up J 14 (vp_updL (J 14) v8.toNatClampNeg 1) := ⟨_, rfl⟩
      have hm := nm_to eJ23 hm
      have hP := P_eq (ws2 := wsR ad cI cJ cG I J23) hP (by rw [eJ23]; rfl)
      have hD := D_eq (ws2 := wsR ad cI cJ cG I J23) hD (by rw [eJ23]; rfl)
      obtain ⟨v24, ev24⟩ : ∃ z : Int32, z = x6 + 1 := ⟨_, rfl⟩
      have hm := nm_to ev24 hm
      refine lv_iinc (v := v24) (lv' := [(6, .int v24), (0, .ref (ad 0)), (1, .int x1), (2, .int x2), (3, .int x3), (4, .long x4)]) hx hb dR_solve_151 hl (k := 5) rfl (by rw [ev24]; rfl) (by decide) rfl (fun ls hl => ?_)
      refine lv_goto (tgt := 107) hx hb dR_solve_154 (by decide) ?_
      exact hk107 x1 x2 x3 x4 v24 I J23 hm _ _ _ hP hD hS (lv_sub hl [1, 2, 3, 4, 5, 0] rfl)
set_option maxHeartbeats 4000000 in
set_option maxRecDepth 100000 in
theorem w_R_solve_466 {p : Program} {l : Launch} {e : Env} {s : State} {m : MethodId} {args : Array Value} {below : List Frame} {meth : Method} {c : Code} {D : va_G} {A : Nat → Prop} {ad : Nat → Nat} {cI cJ cG : ClassId} {res : Int32 × SI × SJ} (X : Cx p s m args meth c bR_solve (some .boolean) 13 RR) (hK : va_K D vwCl (tysR cI cJ cG) s) (hN : NWs s) (hA : ∀ q, s.heap.size ≤ q → A q)
    {k466 : Int32 → Int32 → Int64 → Int32 → SI → SJ → Option (Int32 × SI × SJ)} (hk466 : ∀ (x1 : Int32) (x2 : Int32) (x5 : Int64) (x7 : Int32) (I : SI) (J : SJ), k466 x1 x2 x5 x7 I J = some res → WB p l e (headSpec (Cond.code yR_solve bR_solve 13 (some .boolean) :: gtb) rm_R_solve).room s m args below meth c (MQ below (va_Qi (fun (r : Int32) (u : SI × SJ) => (r, u) = res) (atW D vwCl (tysR cI cJ cG) A (wsR ad cI cJ cG)) A) args s 0 0 A) D vwCl A 13 (wsR ad cI cJ cG I J) 466 [(0, .ref (ad 0)), (1, .int x1), (2, .int x2), (5, .long x5), (7, .int x7)] [])
    {k510 : Int32 → Int64 → Int32 → SI → SJ → Option (Int32 × SI × SJ)} (hk510 : ∀ (x1 : Int32) (x7 : Int64) (x9 : Int32) (I : SI) (J : SJ), k510 x1 x7 x9 I J = some res → WB p l e (headSpec (Cond.code yR_solve bR_solve 13 (some .boolean) :: gtb) rm_R_solve).room s m args below meth c (MQ below (va_Qi (fun (r : Int32) (u : SI × SJ) => (r, u) = res) (atW D vwCl (tysR cI cJ cG) A (wsR ad cI cJ cG)) A) args s 0 0 A) D vwCl A 13 (wsR ad cI cJ cG I J) 510 [(0, .ref (ad 0)), (1, .int x1), (7, .long x7), (9, .int x9)] [])
     (x1 : Int32) (x2 : Int32) (x5 : Int64) (x7 : Int32) (I : SI) (J : SJ) (hm : b_R_solve_466 k466 k510 x1 x2 x5 x7 I J = some res) : WB p l e (headSpec (Cond.code yR_solve bR_solve 13 (some .boolean) :: gtb) rm_R_solve).room s m args below meth c (MQ below (va_Qi (fun (r : Int32) (u : SI × SJ) => (r, u) = res) (atW D vwCl (tysR cI cJ cG) A (wsR ad cI cJ cG)) A) args s 0 0 A) D vwCl A 13 (wsR ad cI cJ cG I J) 466 [(0, .ref (ad 0)), (1, .int x1), (2, .int x2), (5, .long x5), (7, .int x7)] [] := by
  obtain ⟨hx, hb, hr, hml, hown, hT, hlk⟩ := X
  intro H locs ls hP hD hS hl
  unfold b_R_solve_466 at hm
  refine lv_iload hx hb dR_solve_466 (lv_at hl 4 rfl) ?_
  refine lv_iload_n hx hb dR_solve_468 rfl (lv_at hl 2 rfl) ?_
  refine lv_icmp_ge (tgt := 504) hx hb dR_solve_469 (by decide) (fun c1 => ?_) (fun c1 => ?_)
  · have hm := brp hm c1
    refine lv_lconst (v := 0) hx hb dR_solve_504 (by decide) ?_
    refine lv_lstore (lv' := [(7, .long 0), (0, .ref (ad 0)), (1, .int x1), (2, .int x2), (5, .long x5)]) hx hb dR_solve_505 hl (by decide) rfl (fun ls hl => ?_)
    refine lv_iconst (v := 0) hx hb dR_solve_507 (by decide) ?_
    refine lv_istore (lv' := [(9, .int 0), (7, .long 0), (0, .ref (ad 0)), (1, .int x1), (2, .int x2), (5, .long x5)]) hx hb dR_solve_508 hl (by decide) rfl (fun ls hl => ?_)
    exact hk510 x1 0 0 I J hm _ _ _ hP hD hS (lv_sub hl [2, 3, 1, 0] rfl)
  · have hm := brn hm c1
    refine lv_aload_n hx hb dR_solve_472 rfl (lv_at hl 0 rfl) ?_
    refine va_get (D := D) (ci := 6) (v := .ref (ad 15)) (C := RR) (T := TR) (N := 31) hx hb hT inR hown hK hP 0 rfl rfl 25 (by decide) (hT _ wd_560) (fun _ h9 => h9) rfl dR_solve_473 ?_
    refine lv_aload_n hx hb dR_solve_476 rfl (lv_at hl 0 rfl) ?_
    refine va_get (D := D) (ci := 6) (v := .ref (ad 13)) (C := RR) (T := TR) (N := 31) hx hb hT inR hown hK hP 0 rfl rfl 22 (by decide) (hT _ wd_557) (fun _ h9 => h9) rfl dR_solve_477 ?_
    refine lv_iload hx hb dR_solve_480 (lv_at hl 4 rfl) ?_
    obtain ⟨g2, hm⟩ := gd_to hm
    refine va_iald hx hb hK hP 13 0 rfl rfl g2 dR_solve_482 ?_
    refine lv_topi (fun v3 ev3 => ?_)
    have hm := nm_to ev3 hm
    refine lv_aload_n hx hb dR_solve_483 rfl (lv_at hl 0 rfl) ?_
    refine va_get (D := D) (ci := 6) (v := .ref (ad 14)) (C := RR) (T := TR) (N := 31) hx hb hT inR hown hK hP 0 rfl rfl 24 (by decide) (hT _ wd_559) (fun _ h9 => h9) rfl dR_solve_484 ?_
    refine lv_iconst (v := 5) hx hb dR_solve_487 (by decide) ?_
    refine lv_iload hx hb dR_solve_488 (lv_at hl 4 rfl) ?_
    refine lv_imul hx hb dR_solve_490 ?_
    refine lv_topi (fun v4 ev4 => ?_)
    have hm := nm_to ev4 hm
    refine lv_iconst (v := 4) hx hb dR_solve_491 (by decide) ?_
    refine lv_iadd hx hb dR_solve_492 ?_
    refine lv_topi (fun v5 ev5 => ?_)
    have hm := nm_to ev5 hm
    obtain ⟨g6, hm⟩ := gd_to hm
    refine va_lald hx hb hK hP 14 1 rfl rfl g6 dR_solve_493 ?_
    refine lv_topl (fun v7 ev7 => ?_)
    have hm := nm_to ev7 hm
    refine lv_lload hx hb dR_solve_494 (lv_at hl 3 rfl) ?_
    refine lv_lmul hx hb dR_solve_496 ?_
    refine lv_topl (fun v8 ev8 => ?_)
    have hm := nm_to ev8 hm
    obtain ⟨g9, hm⟩ := gd_to hm
    refine va_last hx hb hK hP hD hS 15 1 rfl rfl g9 dR_solve_497 (fun H locs hP hD hS => ?_)
    obtain ⟨J10, eJ10⟩ : ∃ z : SJ, z = va_up J 15 (vp_updL (J 15) v3.toNatClampNeg v8) := ⟨_, rfl⟩
    have hm := nm_to eJ10 hm
    have hP := P_eq (ws2 := wsR ad cI cJ cG I J10) hP (by rw [eJ10]; rfl)
    have hD := D_eq (ws2 := wsR ad cI cJ cG I J10) hD (by rw [eJ10]; rfl)
    obtain ⟨v11, ev11⟩ : ∃ z : Int32, z = x7 + 1 := ⟨_, rfl⟩
    have hm := nm_to ev11 hm
    refine lv_iinc (v := v11) (lv' := [(7, .int v11), (0, .ref (ad 0)), (1, .int x1), (2, .int x2), (5, .long x5)]) hx hb dR_solve_498 hl (k := 4) rfl (by rw [ev11]; rfl) (by decide) rfl (fun ls hl => ?_)
    refine lv_goto (tgt := 466) hx hb dR_solve_501 (by decide) ?_
    exact hk466 x1 x2 x5 v11 I J10 hm _ _ _ hP hD hS (lv_sub hl [1, 2, 3, 4, 0] rfl)
set_option maxHeartbeats 4000000 in
set_option maxRecDepth 100000 in
theorem w_R_solve_230 {p : Program} {l : Launch} {e : Env} {s : State} {m : MethodId} {args : Array Value} {below : List Frame} {meth : Method} {c : Code} {D : va_G} {A : Nat → Prop} {ad : Nat → Nat} {cI cJ cG : ClassId} {res : Int32 × SI × SJ} (X : Cx p s m args meth c bR_solve (some .boolean) 13 RR) (hK : va_K D vwCl (tysR cI cJ cG) s) (hN : NWs s) (hA : ∀ q, s.heap.size ≤ q → A q)
    {k230 : Int32 → Int32 → Int64 → Int32 → Int32 → Int32 → SI → SJ → Option (Int32 × SI × SJ)} (hk230 : ∀ (x1 : Int32) (x2 : Int32) (x3 : Int64) (x5 : Int32) (x6 : Int32) (x7 : Int32) (I : SI) (J : SJ), k230 x1 x2 x3 x5 x6 x7 I J = some res → WB p l e (headSpec (Cond.code yR_solve bR_solve 13 (some .boolean) :: gtb) rm_R_solve).room s m args below meth c (MQ below (va_Qi (fun (r : Int32) (u : SI × SJ) => (r, u) = res) (atW D vwCl (tysR cI cJ cG) A (wsR ad cI cJ cG)) A) args s 0 0 A) D vwCl A 13 (wsR ad cI cJ cG I J) 230 [(0, .ref (ad 0)), (1, .int x1), (2, .int x2), (3, .long x3), (5, .int x5), (6, .int x6), (7, .int x7)] [])
    {k319 : Int32 → Int32 → Int64 → Int32 → Int64 → Int32 → SI → SJ → Option (Int32 × SI × SJ)} (hk319 : ∀ (x1 : Int32) (x2 : Int32) (x3 : Int64) (x5 : Int32) (x7 : Int64) (x9 : Int32) (I : SI) (J : SJ), k319 x1 x2 x3 x5 x7 x9 I J = some res → WB p l e (headSpec (Cond.code yR_solve bR_solve 13 (some .boolean) :: gtb) rm_R_solve).room s m args below meth c (MQ below (va_Qi (fun (r : Int32) (u : SI × SJ) => (r, u) = res) (atW D vwCl (tysR cI cJ cG) A (wsR ad cI cJ cG)) A) args s 0 0 A) D vwCl A 13 (wsR ad cI cJ cG I J) 319 [(0, .ref (ad 0)), (1, .int x1), (2, .int x2), (3, .long x3), (5, .int x5), (7, .long x7), (9, .int x9)] [])
     (x1 : Int32) (x2 : Int32) (x3 : Int64) (x5 : Int32) (x6 : Int32) (x7 : Int32) (I : SI) (J : SJ) (hm : b_R_solve_230 k230 k319 x1 x2 x3 x5 x6 x7 I J = some res) : WB p l e (headSpec (Cond.code yR_solve bR_solve 13 (some .boolean) :: gtb) rm_R_solve).room s m args below meth c (MQ below (va_Qi (fun (r : Int32) (u : SI × SJ) => (r, u) = res) (atW D vwCl (tysR cI cJ cG) A (wsR ad cI cJ cG)) A) args s 0 0 A) D vwCl A 13 (wsR ad cI cJ cG I J) 230 [(0, .ref (ad 0)), (1, .int x1), (2, .int x2), (3, .long x3), (5, .int x5), (6, .int x6), (7, .int x7)] [] := by
  obtain ⟨hx, hb, hr, hml, hown, hT, hlk⟩ := X
  intro H locs ls hP hD hS hl
  unfold b_R_solve_230 at hm
  refine lv_iload hx hb dR_solve_230 (lv_at hl 6 rfl) ?_
  refine lv_iconst (v := 5) hx hb dR_solve_232 (by decide) ?_
  refine lv_icmp_ge (tgt := 302) hx hb dR_solve_233 (by decide) (fun c1 => ?_) (fun c1 => ?_)
  · have hm := brp hm c1
    refine lv_aload_n hx hb dR_solve_302 rfl (lv_at hl 0 rfl) ?_
    refine va_get (D := D) (ci := 6) (v := .ref (ad 14)) (C := RR) (T := TR) (N := 31) hx hb hT inR hown hK hP 0 rfl rfl 24 (by decide) (hT _ wd_559) (fun _ h9 => h9) rfl dR_solve_303 ?_
    refine lv_iconst (v := 5) hx hb dR_solve_306 (by decide) ?_
    refine lv_iload hx hb dR_solve_307 (lv_at hl 4 rfl) ?_
    refine lv_imul hx hb dR_solve_309 ?_
    refine lv_topi (fun v2 ev2 => ?_)
    have hm := nm_to ev2 hm
    refine lv_iload hx hb dR_solve_310 (lv_at hl 4 rfl) ?_
    refine lv_iadd hx hb dR_solve_312 ?_
    refine lv_topi (fun v3 ev3 => ?_)
    have hm := nm_to ev3 hm
    obtain ⟨g4, hm⟩ := gd_to hm
    refine va_lald hx hb hK hP 14 1 rfl rfl g4 dR_solve_313 ?_
    refine lv_topl (fun v5 ev5 => ?_)
    have hm := nm_to ev5 hm
    refine lv_lstore (lv' := [(7, .long v5), (0, .ref (ad 0)), (1, .int x1), (2, .int x2), (3, .long x3), (5, .int x5), (6, .int x6)]) hx hb dR_solve_314 hl (by decide) rfl (fun ls hl => ?_)
    refine lv_iconst (v := 0) hx hb dR_solve_316 (by decide) ?_
    refine lv_istore (lv' := [(9, .int 0), (7, .long v5), (0, .ref (ad 0)), (1, .int x1), (2, .int x2), (3, .long x3), (5, .int x5), (6, .int x6)]) hx hb dR_solve_317 hl (by decide) rfl (fun ls hl => ?_)
    exact hk319 x1 x2 x3 x5 v5 0 I J hm _ _ _ hP hD hS (lv_sub hl [2, 3, 4, 5, 6, 1, 0] rfl)
  · have hm := brn hm c1
    refine lv_iload hx hb dR_solve_236 (lv_at hl 5 rfl) ?_
    refine lv_iload hx hb dR_solve_238 (lv_at hl 4 rfl) ?_
    refine lv_icmp_eq (tgt := 302) hx hb dR_solve_240 (by decide) (fun c6 => ?_) (fun c6 => ?_)
    · have hm := brp hm c6
      refine lv_aload_n hx hb dR_solve_302 rfl (lv_at hl 0 rfl) ?_
      refine va_get (D := D) (ci := 6) (v := .ref (ad 14)) (C := RR) (T := TR) (N := 31) hx hb hT inR hown hK hP 0 rfl rfl 24 (by decide) (hT _ wd_559) (fun _ h9 => h9) rfl dR_solve_303 ?_
      refine lv_iconst (v := 5) hx hb dR_solve_306 (by decide) ?_
      refine lv_iload hx hb dR_solve_307 (lv_at hl 4 rfl) ?_
      refine lv_imul hx hb dR_solve_309 ?_
      refine lv_topi (fun v7 ev7 => ?_)
      have hm := nm_to ev7 hm
      refine lv_iload hx hb dR_solve_310 (lv_at hl 4 rfl) ?_
      refine lv_iadd hx hb dR_solve_312 ?_
      refine lv_topi (fun v8 ev8 => ?_)
      have hm := nm_to ev8 hm
      obtain ⟨g9, hm⟩ := gd_to hm
      refine va_lald hx hb hK hP 14 1 rfl rfl g9 dR_solve_313 ?_
      refine lv_topl (fun v10 ev10 => ?_)
      have hm := nm_to ev10 hm
      refine lv_lstore (lv' := [(7, .long v10), (0, .ref (ad 0)), (1, .int x1), (2, .int x2), (3, .long x3), (5, .int x5), (6, .int x6)]) hx hb dR_solve_314 hl (by decide) rfl (fun ls hl => ?_)
      refine lv_iconst (v := 0) hx hb dR_solve_316 (by decide) ?_
      refine lv_istore (lv' := [(9, .int 0), (7, .long v10), (0, .ref (ad 0)), (1, .int x1), (2, .int x2), (3, .long x3), (5, .int x5), (6, .int x6)]) hx hb dR_solve_317 hl (by decide) rfl (fun ls hl => ?_)
      exact hk319 x1 x2 x3 x5 v10 0 I J hm _ _ _ hP hD hS (lv_sub hl [2, 3, 4, 5, 6, 1, 0] rfl)
    · have hm := brn hm c6
      refine lv_aload_n hx hb dR_solve_243 rfl (lv_at hl 0 rfl) ?_
      refine va_get (D := D) (ci := 6) (v := .ref (ad 14)) (C := RR) (T := TR) (N := 31) hx hb hT inR hown hK hP 0 rfl rfl 24 (by decide) (hT _ wd_559) (fun _ h9 => h9) rfl dR_solve_244 ?_
      refine lv_iconst (v := 5) hx hb dR_solve_247 (by decide) ?_
      refine lv_iload hx hb dR_solve_248 (lv_at hl 5 rfl) ?_
      refine lv_imul hx hb dR_solve_250 ?_
      refine lv_topi (fun v11 ev11 => ?_)
      have hm := nm_to ev11 hm
      refine lv_iload hx hb dR_solve_251 (lv_at hl 6 rfl) ?_
      refine lv_iadd hx hb dR_solve_253 ?_
      refine lv_topi (fun v12 ev12 => ?_)
      have hm := nm_to ev12 hm
      obtain ⟨g13, hm⟩ := gd_to hm
      refine va_lald hx hb hK hP 14 1 rfl rfl g13 dR_solve_254 ?_
      refine lv_topl (fun v14 ev14 => ?_)
      have hm := nm_to ev14 hm
      refine lv_lstore (lv' := [(8, .long v14), (0, .ref (ad 0)), (1, .int x1), (2, .int x2), (3, .long x3), (5, .int x5), (6, .int x6), (7, .int x7)]) hx hb dR_solve_255 hl (by decide) rfl (fun ls hl => ?_)
      refine lv_aload_n hx hb dR_solve_257 rfl (lv_at hl 1 rfl) ?_
      refine va_get (D := D) (ci := 6) (v := .ref (ad 14)) (C := RR) (T := TR) (N := 31) hx hb hT inR hown hK hP 0 rfl rfl 24 (by decide) (hT _ wd_559) (fun _ h9 => h9) rfl dR_solve_258 ?_
      refine lv_iconst (v := 5) hx hb dR_solve_261 (by decide) ?_
      refine lv_iload hx hb dR_solve_262 (lv_at hl 6 rfl) ?_
      refine lv_imul hx hb dR_solve_264 ?_
      refine lv_topi (fun v15 ev15 => ?_)
      have hm := nm_to ev15 hm
      refine lv_iload hx hb dR_solve_265 (lv_at hl 7 rfl) ?_
      refine lv_iadd hx hb dR_solve_267 ?_
      refine lv_topi (fun v16 ev16 => ?_)
      have hm := nm_to ev16 hm
      refine lv_aload_n hx hb dR_solve_268 rfl (lv_at hl 1 rfl) ?_
      refine va_get (D := D) (ci := 6) (v := .ref (ad 14)) (C := RR) (T := TR) (N := 31) hx hb hT inR hown hK hP 0 rfl rfl 24 (by decide) (hT _ wd_559) (fun _ h9 => h9) rfl dR_solve_269 ?_
      refine lv_iconst (v := 5) hx hb dR_solve_272 (by decide) ?_
      refine lv_iload hx hb dR_solve_273 (lv_at hl 5 rfl) ?_
      refine lv_imul hx hb dR_solve_275 ?_
      refine lv_topi (fun v17 ev17 => ?_)
      have hm := nm_to ev17 hm
      refine lv_iload hx hb dR_solve_276 (lv_at hl 7 rfl) ?_
      refine lv_iadd hx hb dR_solve_278 ?_
      refine lv_topi (fun v18 ev18 => ?_)
      have hm := nm_to ev18 hm
      obtain ⟨g19, hm⟩ := gd_to hm
      refine va_lald hx hb hK hP 14 1 rfl rfl g19 dR_solve_279 ?_
      refine lv_topl (fun v20 ev20 => ?_)
      have hm := nm_to ev20 hm
      obtain ⟨g21, hm⟩ := gd_to hm
      refine va_last hx hb hK hP hD hS 14 1 rfl rfl g21 dR_solve_280 (fun H locs hP hD hS => ?_)
      obtain ⟨J22, eJ22⟩ : ∃ z : SJ, z = va_up J 14 (vp_updL (J 14) v16.toNatClampNeg v20) := ⟨_, rfl⟩
      have hm := nm_to eJ22 hm
      have hP := P_eq (ws2 := wsR ad cI cJ cG I J22) hP (by rw [eJ22]; rfl)
      have hD := D_eq (ws2 := wsR ad cI cJ cG I J22) hD (by rw [eJ22]; rfl)
      refine lv_aload_n hx hb dR_solve_281 rfl (lv_at hl 1 rfl) ?_
      refine va_get (D := D) (ci := 6) (v := .ref (ad 14)) (C := RR) (T := TR) (N := 31) hx hb hT inR hown hK hP 0 rfl rfl 24 (by decide) (hT _ wd_559) (fun _ h9 => h9) rfl dR_solve_282 ?_
      refine lv_iconst (v := 5) hx hb dR_solve_285 (by decide) ?_
      refine lv_iload hx hb dR_solve_286 (lv_at hl 5 rfl) ?_
      refine lv_imul hx hb dR_solve_288 ?_
      refine lv_topi (fun v23 ev23 => ?_)
      have hm := nm_to ev23 hm
      refine lv_iload hx hb dR_solve_289 (lv_at hl 7 rfl) ?_
      refine lv_iadd hx hb dR_solve_291 ?_
      refine lv_topi (fun v24 ev24 => ?_)
      have hm := nm_to ev24 hm
      refine lv_lload hx hb dR_solve_292 (lv_at hl 0 rfl) ?_
      refine lv_lneg hx hb dR_solve_294 ?_
      refine lv_topl (fun v25 ev25 => ?_)
      have hm := nm_to ev25 hm
      obtain ⟨g26, hm⟩ := gd_to hm
      refine va_last hx hb hK hP hD hS 14 1 rfl rfl g26 dR_solve_295 (fun H locs hP hD hS => ?_)
      obtain ⟨J27, eJ27⟩ : ∃ z : SJ, z = va_up J22 14 (vp_updL (J22 14) v24.toNatClampNeg v25) := ⟨_, rfl⟩
      have hm := nm_to eJ27 hm
      have hP := P_eq (ws2 := wsR ad cI cJ cG I J27) hP (by rw [eJ27]; rfl)
      have hD := D_eq (ws2 := wsR ad cI cJ cG I J27) hD (by rw [eJ27]; rfl)
      obtain ⟨v28, ev28⟩ : ∃ z : Int32, z = x7 + 1 := ⟨_, rfl⟩
      have hm := nm_to ev28 hm
      refine lv_iinc (v := v28) (lv' := [(7, .int v28), (8, .long v14), (0, .ref (ad 0)), (1, .int x1), (2, .int x2), (3, .long x3), (5, .int x5), (6, .int x6)]) hx hb dR_solve_296 hl (k := 7) rfl (by rw [ev28]; rfl) (by decide) rfl (fun ls hl => ?_)
      refine lv_goto (tgt := 230) hx hb dR_solve_299 (by decide) ?_
      exact hk230 x1 x2 x3 x5 x6 v28 I J27 hm _ _ _ hP hD hS (lv_sub hl [2, 3, 4, 5, 6, 7, 0] rfl)
set_option maxHeartbeats 4000000 in
set_option maxRecDepth 100000 in
theorem w_R_solve_510 {p : Program} {l : Launch} {e : Env} {s : State} {m : MethodId} {args : Array Value} {below : List Frame} {meth : Method} {c : Code} {D : va_G} {A : Nat → Prop} {ad : Nat → Nat} {cI cJ cG : ClassId} {res : Int32 × SI × SJ} (X : Cx p s m args meth c bR_solve (some .boolean) 13 RR) (hK : va_K D vwCl (tysR cI cJ cG) s) (hN : NWs s) (hA : ∀ q, s.heap.size ≤ q → A q)
    {k510 : Int32 → Int64 → Int32 → SI → SJ → Option (Int32 × SI × SJ)} (hk510 : ∀ (x1 : Int32) (x7 : Int64) (x9 : Int32) (I : SI) (J : SJ), k510 x1 x7 x9 I J = some res → WB p l e (headSpec (Cond.code yR_solve bR_solve 13 (some .boolean) :: gtb) rm_R_solve).room s m args below meth c (MQ below (va_Qi (fun (r : Int32) (u : SI × SJ) => (r, u) = res) (atW D vwCl (tysR cI cJ cG) A (wsR ad cI cJ cG)) A) args s 0 0 A) D vwCl A 13 (wsR ad cI cJ cG I J) 510 [(0, .ref (ad 0)), (1, .int x1), (7, .long x7), (9, .int x9)] [])
     (x1 : Int32) (x7 : Int64) (x9 : Int32) (I : SI) (J : SJ) (hm : b_R_solve_510 k510 x1 x7 x9 I J = some res) : WB p l e (headSpec (Cond.code yR_solve bR_solve 13 (some .boolean) :: gtb) rm_R_solve).room s m args below meth c (MQ below (va_Qi (fun (r : Int32) (u : SI × SJ) => (r, u) = res) (atW D vwCl (tysR cI cJ cG) A (wsR ad cI cJ cG)) A) args s 0 0 A) D vwCl A 13 (wsR ad cI cJ cG I J) 510 [(0, .ref (ad 0)), (1, .int x1), (7, .long x7), (9, .int x9)] [] := by
  obtain ⟨hx, hb, hr, hml, hown, hT, hlk⟩ := X
  intro H locs ls hP hD hS hl
  unfold b_R_solve_510 at hm
  refine lv_iload hx hb dR_solve_510 (lv_at hl 3 rfl) ?_
  refine lv_aload_n hx hb dR_solve_512 rfl (lv_at hl 0 rfl) ?_
  refine va_get (D := D) (ci := 6) (v := .int (I 0 0)) (C := RR) (T := TR) (N := 31) hx hb hT inR hown hK hP 0 rfl rfl 0 (by decide) (hT _ wd_535) (fun _ h9 => h9) rfl dR_solve_513 ?_
  refine lv_icmp_ge (tgt := 577) hx hb dR_solve_516 (by decide) (fun c1 => ?_) (fun c1 => ?_)
  · have hm := brp hm c1
    refine lv_lload hx hb dR_solve_577 (lv_at hl 2 rfl) ?_
    refine lv_iload_n hx hb dR_solve_579 rfl (lv_at hl 1 rfl) ?_
    refine lv_i2l hx hb dR_solve_580 rfl ?_
    refine lv_topl (fun v2 ev2 => ?_)
    have hm := nm_to ev2 hm
    refine lv_aload_n hx hb dR_solve_581 rfl (lv_at hl 0 rfl) ?_
    refine va_get (D := D) (ci := 6) (v := .long (J 0 26)) (C := RR) (T := TR) (N := 31) hx hb hT inR hown hK hP 0 rfl rfl 26 (by decide) (hT _ wd_561) (fun _ h9 => h9) rfl dR_solve_582 ?_
    refine lv_lmul hx hb dR_solve_585 ?_
    refine lv_topl (fun v3 ev3 => ?_)
    have hm := nm_to ev3 hm
    refine W.lcmp hx hb dR_solve_586 ?_
    refine lv_topi (fun v4 ev4 => ?_)
    have hm := nm_to ev4 hm
    refine lv_if_ne (tgt := 594) hx hb dR_solve_587 (by decide) (fun c5 => ?_) (fun c5 => ?_)
    · have hm := brn hm c5
      refine lv_iconst (v := 0) hx hb dR_solve_594 (by decide) ?_
      exact W.zret hx hb hr rfl (fun t ht hW => ⟨⟨0, (I, J), rfl, Option.some.inj hm, ht ▸ hP, va_K.moved hW.alike hK, hD⟩, hS.F ht⟩) hS.2.2 dR_solve_595 hlk
    · have hm := brp hm c5
      refine lv_iconst (v := 1) hx hb dR_solve_590 (by decide) ?_
      refine lv_goto (tgt := 595) hx hb dR_solve_591 (by decide) ?_
      exact W.zret hx hb hr rfl (fun t ht hW => ⟨⟨1, (I, J), rfl, Option.some.inj hm, ht ▸ hP, va_K.moved hW.alike hK, hD⟩, hS.F ht⟩) hS.2.2 dR_solve_595 hlk
  · have hm := brn hm c1
    refine lv_aload_n hx hb dR_solve_519 rfl (lv_at hl 0 rfl) ?_
    refine va_get (D := D) (ci := 6) (v := .ref (ad 15)) (C := RR) (T := TR) (N := 31) hx hb hT inR hown hK hP 0 rfl rfl 25 (by decide) (hT _ wd_560) (fun _ h9 => h9) rfl dR_solve_520 ?_
    refine lv_iload hx hb dR_solve_523 (lv_at hl 3 rfl) ?_
    refine lv_aload_n hx hb dR_solve_525 rfl (lv_at hl 0 rfl) ?_
    refine va_get (D := D) (ci := 6) (v := .ref (ad 12)) (C := RR) (T := TR) (N := 31) hx hb hT inR hown hK hP 0 rfl rfl 21 (by decide) (hT _ wd_556) (fun _ h9 => h9) rfl dR_solve_526 ?_
    refine lv_iload hx hb dR_solve_529 (lv_at hl 3 rfl) ?_
    obtain ⟨g6, hm⟩ := gd_to hm
    refine va_iald hx hb hK hP 12 0 rfl rfl g6 dR_solve_531 ?_
    refine lv_topi (fun v7 ev7 => ?_)
    have hm := nm_to ev7 hm
    refine lv_if_ge (tgt := 545) hx hb dR_solve_532 (by decide) (fun c8 => ?_) (fun c8 => ?_)
    · have hm := brp hm c8
      refine lv_aload_n hx hb dR_solve_545 rfl (lv_at hl 0 rfl) ?_
      refine va_get (D := D) (ci := 6) (v := .ref (ad 12)) (C := RR) (T := TR) (N := 31) hx hb hT inR hown hK hP 0 rfl rfl 21 (by decide) (hT _ wd_556) (fun _ h9 => h9) rfl dR_solve_546 ?_
      refine lv_iload hx hb dR_solve_549 (lv_at hl 3 rfl) ?_
      obtain ⟨g9, hm⟩ := gd_to hm
      refine va_iald hx hb hK hP 12 0 rfl rfl g9 dR_solve_551 ?_
      refine lv_topi (fun v10 ev10 => ?_)
      have hm := nm_to ev10 hm
      refine lv_i2l hx hb dR_solve_552 rfl ?_
      refine lv_topl (fun v11 ev11 => ?_)
      have hm := nm_to ev11 hm
      refine lv_aload_n hx hb dR_solve_553 rfl (lv_at hl 0 rfl) ?_
      refine va_get (D := D) (ci := 6) (v := .long (J 0 26)) (C := RR) (T := TR) (N := 31) hx hb hT inR hown hK hP 0 rfl rfl 26 (by decide) (hT _ wd_561) (fun _ h9 => h9) rfl dR_solve_554 ?_
      refine lv_lmul hx hb dR_solve_557 ?_
      refine lv_topl (fun v12 ev12 => ?_)
      have hm := nm_to ev12 hm
      obtain ⟨g13, hm⟩ := gd_to hm
      refine va_last hx hb hK hP hD hS 15 1 rfl rfl g13 dR_solve_558 (fun H locs hP hD hS => ?_)
      obtain ⟨J14, eJ14⟩ : ∃ z : SJ, z = va_up J 15 (vp_updL (J 15) x9.toNatClampNeg v12) := ⟨_, rfl⟩
      have hm := nm_to eJ14 hm
      have hP := P_eq (ws2 := wsR ad cI cJ cG I J14) hP (by rw [eJ14]; rfl)
      have hD := D_eq (ws2 := wsR ad cI cJ cG I J14) hD (by rw [eJ14]; rfl)
      refine lv_lload hx hb dR_solve_559 (lv_at hl 2 rfl) ?_
      refine lv_aload_n hx hb dR_solve_561 rfl (lv_at hl 0 rfl) ?_
      refine va_get (D := D) (ci := 6) (v := .ref (ad 15)) (C := RR) (T := TR) (N := 31) hx hb hT inR hown hK hP 0 rfl rfl 25 (by decide) (hT _ wd_560) (fun _ h9 => h9) rfl dR_solve_562 ?_
      refine lv_iload hx hb dR_solve_565 (lv_at hl 3 rfl) ?_
      obtain ⟨g15, hm⟩ := gd_to hm
      refine va_lald hx hb hK hP 15 1 rfl rfl g15 dR_solve_567 ?_
      refine lv_topl (fun v16 ev16 => ?_)
      have hm := nm_to ev16 hm
      refine lv_ladd hx hb dR_solve_568 ?_
      refine lv_topl (fun v17 ev17 => ?_)
      have hm := nm_to ev17 hm
      refine lv_lstore (lv' := [(7, .long v17), (0, .ref (ad 0)), (1, .int x1), (9, .int x9)]) hx hb dR_solve_569 hl (by decide) rfl (fun ls hl => ?_)
      obtain ⟨v18, ev18⟩ : ∃ z : Int32, z = x9 + 1 := ⟨_, rfl⟩
      have hm := nm_to ev18 hm
      refine lv_iinc (v := v18) (lv' := [(9, .int v18), (7, .long v17), (0, .ref (ad 0)), (1, .int x1)]) hx hb dR_solve_571 hl (k := 3) rfl (by rw [ev18]; rfl) (by decide) rfl (fun ls hl => ?_)
      refine lv_goto (tgt := 510) hx hb dR_solve_574 (by decide) ?_
      exact hk510 x1 v17 v18 I J14 hm _ _ _ hP hD hS (lv_sub hl [2, 3, 1, 0] rfl)
    · have hm := brn hm c8
      refine lv_aload_n hx hb dR_solve_535 rfl (lv_at hl 0 rfl) ?_
      refine va_get (D := D) (ci := 6) (v := .ref (ad 15)) (C := RR) (T := TR) (N := 31) hx hb hT inR hown hK hP 0 rfl rfl 25 (by decide) (hT _ wd_560) (fun _ h9 => h9) rfl dR_solve_536 ?_
      refine lv_iload hx hb dR_solve_539 (lv_at hl 3 rfl) ?_
      obtain ⟨g19, hm⟩ := gd_to hm
      refine va_lald hx hb hK hP 15 1 rfl rfl g19 dR_solve_541 ?_
      refine lv_topl (fun v20 ev20 => ?_)
      have hm := nm_to ev20 hm
      refine lv_goto (tgt := 558) hx hb dR_solve_542 (by decide) ?_
      obtain ⟨g21, hm⟩ := gd_to hm
      refine va_last hx hb hK hP hD hS 15 1 rfl rfl g21 dR_solve_558 (fun H locs hP hD hS => ?_)
      obtain ⟨J22, eJ22⟩ : ∃ z : SJ, z = va_up J 15 (vp_updL (J 15) x9.toNatClampNeg v20) := ⟨_, rfl⟩
      have hm := nm_to eJ22 hm
      have hP := P_eq (ws2 := wsR ad cI cJ cG I J22) hP (by rw [eJ22]; rfl)
      have hD := D_eq (ws2 := wsR ad cI cJ cG I J22) hD (by rw [eJ22]; rfl)
      refine lv_lload hx hb dR_solve_559 (lv_at hl 2 rfl) ?_
      refine lv_aload_n hx hb dR_solve_561 rfl (lv_at hl 0 rfl) ?_
      refine va_get (D := D) (ci := 6) (v := .ref (ad 15)) (C := RR) (T := TR) (N := 31) hx hb hT inR hown hK hP 0 rfl rfl 25 (by decide) (hT _ wd_560) (fun _ h9 => h9) rfl dR_solve_562 ?_
      refine lv_iload hx hb dR_solve_565 (lv_at hl 3 rfl) ?_
      obtain ⟨g23, hm⟩ := gd_to hm
      refine va_lald hx hb hK hP 15 1 rfl rfl g23 dR_solve_567 ?_
      refine lv_topl (fun v24 ev24 => ?_)
      have hm := nm_to ev24 hm
      refine lv_ladd hx hb dR_solve_568 ?_
      refine lv_topl (fun v25 ev25 => ?_)
      have hm := nm_to ev25 hm
      refine lv_lstore (lv' := [(7, .long v25), (0, .ref (ad 0)), (1, .int x1), (9, .int x9)]) hx hb dR_solve_569 hl (by decide) rfl (fun ls hl => ?_)
      obtain ⟨v26, ev26⟩ : ∃ z : Int32, z = x9 + 1 := ⟨_, rfl⟩
      have hm := nm_to ev26 hm
      refine lv_iinc (v := v26) (lv' := [(9, .int v26), (7, .long v25), (0, .ref (ad 0)), (1, .int x1)]) hx hb dR_solve_571 hl (k := 3) rfl (by rw [ev26]; rfl) (by decide) rfl (fun ls hl => ?_)
      refine lv_goto (tgt := 510) hx hb dR_solve_574 (by decide) ?_
      exact hk510 x1 v25 v26 I J22 hm _ _ _ hP hD hS (lv_sub hl [2, 3, 1, 0] rfl)
set_option maxHeartbeats 4000000 in
set_option maxRecDepth 100000 in
theorem w_R_solve_319 {p : Program} {l : Launch} {e : Env} {s : State} {m : MethodId} {args : Array Value} {below : List Frame} {meth : Method} {c : Code} {D : va_G} {A : Nat → Prop} {ad : Nat → Nat} {cI cJ cG : ClassId} {res : Int32 × SI × SJ} (X : Cx p s m args meth c bR_solve (some .boolean) 13 RR) (hK : va_K D vwCl (tysR cI cJ cG) s) (hN : NWs s) (hA : ∀ q, s.heap.size ≤ q → A q)
    {k180 : Int32 → Int32 → Int64 → Int32 → SI → SJ → Option (Int32 × SI × SJ)} (hk180 : ∀ (x1 : Int32) (x2 : Int32) (x3 : Int64) (x5 : Int32) (I : SI) (J : SJ), k180 x1 x2 x3 x5 I J = some res → WB p l e (headSpec (Cond.code yR_solve bR_solve 13 (some .boolean) :: gtb) rm_R_solve).room s m args below meth c (MQ below (va_Qi (fun (r : Int32) (u : SI × SJ) => (r, u) = res) (atW D vwCl (tysR cI cJ cG) A (wsR ad cI cJ cG)) A) args s 0 0 A) D vwCl A 13 (wsR ad cI cJ cG I J) 180 [(0, .ref (ad 0)), (1, .int x1), (2, .int x2), (3, .long x3), (5, .int x5)] [])
    {k319 : Int32 → Int32 → Int64 → Int32 → Int64 → Int32 → SI → SJ → Option (Int32 × SI × SJ)} (hk319 : ∀ (x1 : Int32) (x2 : Int32) (x3 : Int64) (x5 : Int32) (x7 : Int64) (x9 : Int32) (I : SI) (J : SJ), k319 x1 x2 x3 x5 x7 x9 I J = some res → WB p l e (headSpec (Cond.code yR_solve bR_solve 13 (some .boolean) :: gtb) rm_R_solve).room s m args below meth c (MQ below (va_Qi (fun (r : Int32) (u : SI × SJ) => (r, u) = res) (atW D vwCl (tysR cI cJ cG) A (wsR ad cI cJ cG)) A) args s 0 0 A) D vwCl A 13 (wsR ad cI cJ cG I J) 319 [(0, .ref (ad 0)), (1, .int x1), (2, .int x2), (3, .long x3), (5, .int x5), (7, .long x7), (9, .int x9)] [])
    {k349 : Int32 → Int32 → Int64 → Int32 → Int64 → Int32 → Int64 → Int32 → SI → SJ → Option (Int32 × SI × SJ)} (hk349 : ∀ (x1 : Int32) (x2 : Int32) (x3 : Int64) (x5 : Int32) (x7 : Int64) (x9 : Int32) (x10 : Int64) (x12 : Int32) (I : SI) (J : SJ), k349 x1 x2 x3 x5 x7 x9 x10 x12 I J = some res → WB p l e (headSpec (Cond.code yR_solve bR_solve 13 (some .boolean) :: gtb) rm_R_solve).room s m args below meth c (MQ below (va_Qi (fun (r : Int32) (u : SI × SJ) => (r, u) = res) (atW D vwCl (tysR cI cJ cG) A (wsR ad cI cJ cG)) A) args s 0 0 A) D vwCl A 13 (wsR ad cI cJ cG I J) 349 [(0, .ref (ad 0)), (1, .int x1), (2, .int x2), (3, .long x3), (5, .int x5), (7, .long x7), (9, .int x9), (10, .long x10), (12, .int x12)] [])
     (x1 : Int32) (x2 : Int32) (x3 : Int64) (x5 : Int32) (x7 : Int64) (x9 : Int32) (I : SI) (J : SJ) (hm : b_R_solve_319 k180 k319 k349 x1 x2 x3 x5 x7 x9 I J = some res) : WB p l e (headSpec (Cond.code yR_solve bR_solve 13 (some .boolean) :: gtb) rm_R_solve).room s m args below meth c (MQ below (va_Qi (fun (r : Int32) (u : SI × SJ) => (r, u) = res) (atW D vwCl (tysR cI cJ cG) A (wsR ad cI cJ cG)) A) args s 0 0 A) D vwCl A 13 (wsR ad cI cJ cG I J) 319 [(0, .ref (ad 0)), (1, .int x1), (2, .int x2), (3, .long x3), (5, .int x5), (7, .long x7), (9, .int x9)] [] := by
  obtain ⟨hx, hb, hr, hml, hown, hT, hlk⟩ := X
  intro H locs ls hP hD hS hl
  unfold b_R_solve_319 at hm
  refine lv_iload hx hb dR_solve_319 (lv_at hl 6 rfl) ?_
  refine lv_iload_n hx hb dR_solve_321 rfl (lv_at hl 2 rfl) ?_
  refine lv_icmp_ge (tgt := 412) hx hb dR_solve_322 (by decide) (fun c1 => ?_) (fun c1 => ?_)
  · have hm := brp hm c1
    refine lv_lload hx hb dR_solve_412 (lv_at hl 5 rfl) ?_
    refine lv_lstore_n (lv' := [(3, .long x7), (0, .ref (ad 0)), (1, .int x1), (2, .int x2), (5, .int x5), (7, .long x7), (9, .int x9)]) hx hb dR_solve_414 rfl hl (by decide) rfl (fun ls hl => ?_)
    obtain ⟨v2, ev2⟩ : ∃ z : Int32, z = x5 + 1 := ⟨_, rfl⟩
    have hm := nm_to ev2 hm
    refine lv_iinc (v := v2) (lv' := [(5, .int v2), (3, .long x7), (0, .ref (ad 0)), (1, .int x1), (2, .int x2), (7, .long x7), (9, .int x9)]) hx hb dR_solve_415 hl (k := 4) rfl (by rw [ev2]; rfl) (by decide) rfl (fun ls hl => ?_)
    refine lv_goto (tgt := 180) hx hb dR_solve_418 (by decide) ?_
    exact hk180 x1 x2 x7 v2 I J hm _ _ _ hP hD hS (lv_sub hl [2, 3, 4, 1, 0] rfl)
  · have hm := brn hm c1
    refine lv_iload hx hb dR_solve_325 (lv_at hl 6 rfl) ?_
    refine lv_iload hx hb dR_solve_327 (lv_at hl 4 rfl) ?_
    refine lv_icmp_eq (tgt := 406) hx hb dR_solve_329 (by decide) (fun c3 => ?_) (fun c3 => ?_)
    · have hm := brp hm c3
      obtain ⟨v4, ev4⟩ : ∃ z : Int32, z = x9 + 1 := ⟨_, rfl⟩
      have hm := nm_to ev4 hm
      refine lv_iinc (v := v4) (lv' := [(9, .int v4), (0, .ref (ad 0)), (1, .int x1), (2, .int x2), (3, .long x3), (5, .int x5), (7, .long x7)]) hx hb dR_solve_406 hl (k := 6) rfl (by rw [ev4]; rfl) (by decide) rfl (fun ls hl => ?_)
      refine lv_goto (tgt := 319) hx hb dR_solve_409 (by decide) ?_
      exact hk319 x1 x2 x3 x5 x7 v4 I J hm _ _ _ hP hD hS (lv_sub hl [1, 2, 3, 4, 5, 6, 0] rfl)
    · have hm := brn hm c3
      refine lv_aload_n hx hb dR_solve_332 rfl (lv_at hl 0 rfl) ?_
      refine va_get (D := D) (ci := 6) (v := .ref (ad 14)) (C := RR) (T := TR) (N := 31) hx hb hT inR hown hK hP 0 rfl rfl 24 (by decide) (hT _ wd_559) (fun _ h9 => h9) rfl dR_solve_333 ?_
      refine lv_iconst (v := 5) hx hb dR_solve_336 (by decide) ?_
      refine lv_iload hx hb dR_solve_337 (lv_at hl 6 rfl) ?_
      refine lv_imul hx hb dR_solve_339 ?_
      refine lv_topi (fun v5 ev5 => ?_)
      have hm := nm_to ev5 hm
      refine lv_iload hx hb dR_solve_340 (lv_at hl 4 rfl) ?_
      refine lv_iadd hx hb dR_solve_342 ?_
      refine lv_topi (fun v6 ev6 => ?_)
      have hm := nm_to ev6 hm
      obtain ⟨g7, hm⟩ := gd_to hm
      refine va_lald hx hb hK hP 14 1 rfl rfl g7 dR_solve_343 ?_
      refine lv_topl (fun v8 ev8 => ?_)
      have hm := nm_to ev8 hm
      refine lv_lstore (lv' := [(10, .long v8), (0, .ref (ad 0)), (1, .int x1), (2, .int x2), (3, .long x3), (5, .int x5), (7, .long x7), (9, .int x9)]) hx hb dR_solve_344 hl (by decide) rfl (fun ls hl => ?_)
      refine lv_iconst (v := 0) hx hb dR_solve_346 (by decide) ?_
      refine lv_istore (lv' := [(12, .int 0), (10, .long v8), (0, .ref (ad 0)), (1, .int x1), (2, .int x2), (3, .long x3), (5, .int x5), (7, .long x7), (9, .int x9)]) hx hb dR_solve_347 hl (by decide) rfl (fun ls hl => ?_)
      exact hk349 x1 x2 x3 x5 x7 x9 v8 0 I J hm _ _ _ hP hD hS (lv_sub hl [2, 3, 4, 5, 6, 7, 8, 1, 0] rfl)
set_option maxHeartbeats 4000000 in
set_option maxRecDepth 100000 in
theorem w_R_solve_349 {p : Program} {l : Launch} {e : Env} {s : State} {m : MethodId} {args : Array Value} {below : List Frame} {meth : Method} {c : Code} {D : va_G} {A : Nat → Prop} {ad : Nat → Nat} {cI cJ cG : ClassId} {res : Int32 × SI × SJ} (X : Cx p s m args meth c bR_solve (some .boolean) 13 RR) (hK : va_K D vwCl (tysR cI cJ cG) s) (hN : NWs s) (hA : ∀ q, s.heap.size ≤ q → A q)
    {k319 : Int32 → Int32 → Int64 → Int32 → Int64 → Int32 → SI → SJ → Option (Int32 × SI × SJ)} (hk319 : ∀ (x1 : Int32) (x2 : Int32) (x3 : Int64) (x5 : Int32) (x7 : Int64) (x9 : Int32) (I : SI) (J : SJ), k319 x1 x2 x3 x5 x7 x9 I J = some res → WB p l e (headSpec (Cond.code yR_solve bR_solve 13 (some .boolean) :: gtb) rm_R_solve).room s m args below meth c (MQ below (va_Qi (fun (r : Int32) (u : SI × SJ) => (r, u) = res) (atW D vwCl (tysR cI cJ cG) A (wsR ad cI cJ cG)) A) args s 0 0 A) D vwCl A 13 (wsR ad cI cJ cG I J) 319 [(0, .ref (ad 0)), (1, .int x1), (2, .int x2), (3, .long x3), (5, .int x5), (7, .long x7), (9, .int x9)] [])
    {k349 : Int32 → Int32 → Int64 → Int32 → Int64 → Int32 → Int64 → Int32 → SI → SJ → Option (Int32 × SI × SJ)} (hk349 : ∀ (x1 : Int32) (x2 : Int32) (x3 : Int64) (x5 : Int32) (x7 : Int64) (x9 : Int32) (x10 : Int64) (x12 : Int32) (I : SI) (J : SJ), k349 x1 x2 x3 x5 x7 x9 x10 x12 I J = some res → WB p l e (headSpec (Cond.code yR_solve bR_solve 13 (some .boolean) :: gtb) rm_R_solve).room s m args below meth c (MQ below (va_Qi (fun (r : Int32) (u : SI × SJ) => (r, u) = res) (atW D vwCl (tysR cI cJ cG) A (wsR ad cI cJ cG)) A) args s 0 0 A) D vwCl A 13 (wsR ad cI cJ cG I J) 349 [(0, .ref (ad 0)), (1, .int x1), (2, .int x2), (3, .long x3), (5, .int x5), (7, .long x7), (9, .int x9), (10, .long x10), (12, .int x12)] [])
     (x1 : Int32) (x2 : Int32) (x3 : Int64) (x5 : Int32) (x7 : Int64) (x9 : Int32) (x10 : Int64) (x12 : Int32) (I : SI) (J : SJ) (hm : b_R_solve_349 k319 k349 x1 x2 x3 x5 x7 x9 x10 x12 I J = some res) : WB p l e (headSpec (Cond.code yR_solve bR_solve 13 (some .boolean) :: gtb) rm_R_solve).room s m args below meth c (MQ below (va_Qi (fun (r : Int32) (u : SI × SJ) => (r, u) = res) (atW D vwCl (tysR cI cJ cG) A (wsR ad cI cJ cG)) A) args s 0 0 A) D vwCl A 13 (wsR ad cI cJ cG I J) 349 [(0, .ref (ad 0)), (1, .int x1), (2, .int x2), (3, .long x3), (5, .int x5), (7, .long x7), (9, .int x9), (10, .long x10), (12, .int x12)] [] := by
  obtain ⟨hx, hb, hr, hml, hown, hT, hlk⟩ := X
  intro H locs ls hP hD hS hl
  unfold b_R_solve_349 at hm
  refine lv_iload hx hb dR_solve_349 (lv_at hl 8 rfl) ?_
  refine lv_iconst (v := 5) hx hb dR_solve_351 (by decide) ?_
  refine lv_icmp_ge (tgt := 406) hx hb dR_solve_352 (by decide) (fun c1 => ?_) (fun c1 => ?_)
  · have hm := brp hm c1
    obtain ⟨v2, ev2⟩ : ∃ z : Int32, z = x9 + 1 := ⟨_, rfl⟩
    have hm := nm_to ev2 hm
    refine lv_iinc (v := v2) (lv' := [(9, .int v2), (0, .ref (ad 0)), (1, .int x1), (2, .int x2), (3, .long x3), (5, .int x5), (7, .long x7), (10, .long x10), (12, .int x12)]) hx hb dR_solve_406 hl (k := 6) rfl (by rw [ev2]; rfl) (by decide) rfl (fun ls hl => ?_)
    refine lv_goto (tgt := 319) hx hb dR_solve_409 (by decide) ?_
    exact hk319 x1 x2 x3 x5 x7 v2 I J hm _ _ _ hP hD hS (lv_sub hl [1, 2, 3, 4, 5, 6, 0] rfl)
  · have hm := brn hm c1
    refine lv_aload_n hx hb dR_solve_355 rfl (lv_at hl 0 rfl) ?_
    refine va_get (D := D) (ci := 6) (v := .ref (ad 14)) (C := RR) (T := TR) (N := 31) hx hb hT inR hown hK hP 0 rfl rfl 24 (by decide) (hT _ wd_559) (fun _ h9 => h9) rfl dR_solve_356 ?_
    refine lv_iconst (v := 5) hx hb dR_solve_359 (by decide) ?_
    refine lv_iload hx hb dR_solve_360 (lv_at hl 6 rfl) ?_
    refine lv_imul hx hb dR_solve_362 ?_
    refine lv_topi (fun v3 ev3 => ?_)
    have hm := nm_to ev3 hm
    refine lv_iload hx hb dR_solve_363 (lv_at hl 8 rfl) ?_
    refine lv_iadd hx hb dR_solve_365 ?_
    refine lv_topi (fun v4 ev4 => ?_)
    have hm := nm_to ev4 hm
    refine lv_aload_n hx hb dR_solve_366 rfl (lv_at hl 0 rfl) ?_
    refine va_get (D := D) (ci := 6) (v := .ref (ad 14)) (C := RR) (T := TR) (N := 31) hx hb hT inR hown hK hP 0 rfl rfl 24 (by decide) (hT _ wd_559) (fun _ h9 => h9) rfl dR_solve_367 ?_
    refine lv_iconst (v := 5) hx hb dR_solve_370 (by decide) ?_
    refine lv_iload hx hb dR_solve_371 (lv_at hl 6 rfl) ?_
    refine lv_imul hx hb dR_solve_373 ?_
    refine lv_topi (fun v5 ev5 => ?_)
    have hm := nm_to ev5 hm
    refine lv_iload hx hb dR_solve_374 (lv_at hl 8 rfl) ?_
    refine lv_iadd hx hb dR_solve_376 ?_
    refine lv_topi (fun v6 ev6 => ?_)
    have hm := nm_to ev6 hm
    obtain ⟨g7, hm⟩ := gd_to hm
    refine va_lald hx hb hK hP 14 1 rfl rfl g7 dR_solve_377 ?_
    refine lv_topl (fun v8 ev8 => ?_)
    have hm := nm_to ev8 hm
    refine lv_lload hx hb dR_solve_378 (lv_at hl 5 rfl) ?_
    refine lv_lmul hx hb dR_solve_380 ?_
    refine lv_topl (fun v9 ev9 => ?_)
    have hm := nm_to ev9 hm
    refine lv_lload hx hb dR_solve_381 (lv_at hl 7 rfl) ?_
    refine lv_aload_n hx hb dR_solve_383 rfl (lv_at hl 0 rfl) ?_
    refine va_get (D := D) (ci := 6) (v := .ref (ad 14)) (C := RR) (T := TR) (N := 31) hx hb hT inR hown hK hP 0 rfl rfl 24 (by decide) (hT _ wd_559) (fun _ h9 => h9) rfl dR_solve_384 ?_
    refine lv_iconst (v := 5) hx hb dR_solve_387 (by decide) ?_
    refine lv_iload hx hb dR_solve_388 (lv_at hl 4 rfl) ?_
    refine lv_imul hx hb dR_solve_390 ?_
    refine lv_topi (fun v10 ev10 => ?_)
    have hm := nm_to ev10 hm
    refine lv_iload hx hb dR_solve_391 (lv_at hl 8 rfl) ?_
    refine lv_iadd hx hb dR_solve_393 ?_
    refine lv_topi (fun v11 ev11 => ?_)
    have hm := nm_to ev11 hm
    obtain ⟨g12, hm⟩ := gd_to hm
    refine va_lald hx hb hK hP 14 1 rfl rfl g12 dR_solve_394 ?_
    refine lv_topl (fun v13 ev13 => ?_)
    have hm := nm_to ev13 hm
    refine lv_lmul hx hb dR_solve_395 ?_
    refine lv_topl (fun v14 ev14 => ?_)
    have hm := nm_to ev14 hm
    refine lv_lsub hx hb dR_solve_396 ?_
    refine lv_topl (fun v15 ev15 => ?_)
    have hm := nm_to ev15 hm
    refine lv_lload_n hx hb dR_solve_397 rfl (lv_at hl 3 rfl) ?_
    obtain ⟨g16, hm⟩ := gd_to hm
    refine lv_ldiv hx hb dR_solve_398 g16 ?_
    refine lv_topl (fun v17 ev17 => ?_)
    have hm := nm_to ev17 hm
    obtain ⟨g18, hm⟩ := gd_to hm
    refine va_last hx hb hK hP hD hS 14 1 rfl rfl g18 dR_solve_399 (fun H locs hP hD hS => ?_)
    obtain ⟨J19, eJ19⟩ : ∃ z : SJ, z = va_up J 14 (vp_updL (J 14) v4.toNatClampNeg v17) := ⟨_, rfl⟩
    have hm := nm_to eJ19 hm
    have hP := P_eq (ws2 := wsR ad cI cJ cG I J19) hP (by rw [eJ19]; rfl)
    have hD := D_eq (ws2 := wsR ad cI cJ cG I J19) hD (by rw [eJ19]; rfl)
    obtain ⟨v20, ev20⟩ : ∃ z : Int32, z = x12 + 1 := ⟨_, rfl⟩
    have hm := nm_to ev20 hm
    refine lv_iinc (v := v20) (lv' := [(12, .int v20), (0, .ref (ad 0)), (1, .int x1), (2, .int x2), (3, .long x3), (5, .int x5), (7, .long x7), (9, .int x9), (10, .long x10)]) hx hb dR_solve_400 hl (k := 8) rfl (by rw [ev20]; rfl) (by decide) rfl (fun ls hl => ?_)
    refine lv_goto (tgt := 349) hx hb dR_solve_403 (by decide) ?_
    exact hk349 x1 x2 x3 x5 x7 x9 x10 v20 I J19 hm _ _ _ hP hD hS (lv_sub hl [1, 2, 3, 4, 5, 6, 7, 8, 0] rfl)
set_option maxHeartbeats 4000000 in
set_option maxRecDepth 100000 in
theorem w_R_solve_0 {p : Program} {l : Launch} {e : Env} {s : State} {m : MethodId} {args : Array Value} {below : List Frame} {meth : Method} {c : Code} {D : va_G} {A : Nat → Prop} {ad : Nat → Nat} {cI cJ cG : ClassId} {res : Int32 × SI × SJ} (X : Cx p s m args meth c bR_solve (some .boolean) 13 RR) (hK : va_K D vwCl (tysR cI cJ cG) s) (hN : NWs s) (hA : ∀ q, s.heap.size ≤ q → A q)
    {k7 : Int32 → Int32 → Int32 → SI → SJ → Option (Int32 × SI × SJ)} (hk7 : ∀ (x1 : Int32) (x2 : Int32) (x3 : Int32) (I : SI) (J : SJ), k7 x1 x2 x3 I J = some res → WB p l e (headSpec (Cond.code yR_solve bR_solve 13 (some .boolean) :: gtb) rm_R_solve).room s m args below meth c (MQ below (va_Qi (fun (r : Int32) (u : SI × SJ) => (r, u) = res) (atW D vwCl (tysR cI cJ cG) A (wsR ad cI cJ cG)) A) args s 0 0 A) D vwCl A 13 (wsR ad cI cJ cG I J) 7 [(0, .ref (ad 0)), (1, .int x1), (2, .int x2), (3, .int x3)] [])
     (x1 : Int32) (I : SI) (J : SJ) (hm : b_R_solve_0 k7 x1 I J = some res) : WB p l e (headSpec (Cond.code yR_solve bR_solve 13 (some .boolean) :: gtb) rm_R_solve).room s m args below meth c (MQ below (va_Qi (fun (r : Int32) (u : SI × SJ) => (r, u) = res) (atW D vwCl (tysR cI cJ cG) A (wsR ad cI cJ cG)) A) args s 0 0 A) D vwCl A 13 (wsR ad cI cJ cG I J) 0 [(0, .ref (ad 0)), (1, .int x1)] [] := by
  obtain ⟨hx, hb, hr, hml, hown, hT, hlk⟩ := X
  intro H locs ls hP hD hS hl
  unfold b_R_solve_0 at hm
  refine lv_aload_n hx hb dR_solve_0 rfl (lv_at hl 0 rfl) ?_
  refine va_get (D := D) (ci := 6) (v := .int (I 0 23)) (C := RR) (T := TR) (N := 31) hx hb hT inR hown hK hP 0 rfl rfl 23 (by decide) (hT _ wd_558) (fun _ h9 => h9) rfl dR_solve_1 ?_
  refine lv_istore_n (lv' := [(2, .int (I 0 23)), (0, .ref (ad 0)), (1, .int x1)]) hx hb dR_solve_4 rfl hl (by decide) rfl (fun ls hl => ?_)
  refine lv_iconst (v := 0) hx hb dR_solve_5 (by decide) ?_
  refine lv_istore_n (lv' := [(3, .int 0), (2, .int (I 0 23)), (0, .ref (ad 0)), (1, .int x1)]) hx hb dR_solve_6 rfl hl (by decide) rfl (fun ls hl => ?_)
  exact hk7 x1 (I 0 23) 0 I J hm _ _ _ hP hD hS (lv_sub hl [2, 3, 1, 0] rfl)
set_option maxHeartbeats 4000000 in
theorem gw_R_solve {p : Program} {l : Launch} {e : Env} {s : State} {m : MethodId} {args : Array Value} {below : List Frame} {meth : Method} {c : Code} {D : va_G} {A : Nat → Prop} {ad : Nat → Nat} {cI cJ cG : ClassId} {res : Int32 × SI × SJ} (X : Cx p s m args meth c bR_solve (some .boolean) 13 RR) (hK : va_K D vwCl (tysR cI cJ cG) s) (hN : NWs s) (hA : ∀ q, s.heap.size ≤ q → A q) : ∀ n : Nat, (∀ (x1 : Int32) (x2 : Int32) (x3 : Int32) (I : SI) (J : SJ), (g_R_solve n).1 x1 x2 x3 I J = some res → WB p l e (headSpec (Cond.code yR_solve bR_solve 13 (some .boolean) :: gtb) rm_R_solve).room s m args below meth c (MQ below (va_Qi (fun (r : Int32) (u : SI × SJ) => (r, u) = res) (atW D vwCl (tysR cI cJ cG) A (wsR ad cI cJ cG)) A) args s 0 0 A) D vwCl A 13 (wsR ad cI cJ cG I J) 7 [(0, .ref (ad 0)), (1, .int x1), (2, .int x2), (3, .int x3)] []) ∧ (∀ (x1 : Int32) (x2 : Int32) (x3 : Int32) (x4 : Int64) (x6 : Int32) (I : SI) (J : SJ), (g_R_solve n).2.1 x1 x2 x3 x4 x6 I J = some res → WB p l e (headSpec (Cond.code yR_solve bR_solve 13 (some .boolean) :: gtb) rm_R_solve).room s m args below meth c (MQ below (va_Qi (fun (r : Int32) (u : SI × SJ) => (r, u) = res) (atW D vwCl (tysR cI cJ cG) A (wsR ad cI cJ cG)) A) args s 0 0 A) D vwCl A 13 (wsR ad cI cJ cG I J) 39 [(0, .ref (ad 0)), (1, .int x1), (2, .int x2), (3, .int x3), (4, .long x4), (6, .int x6)] []) ∧ (∀ (x1 : Int32) (x2 : Int32) (x3 : Int32) (x4 : Int64) (x6 : Int32) (I : SI) (J : SJ), (g_R_solve n).2.2.1 x1 x2 x3 x4 x6 I J = some res → WB p l e (headSpec (Cond.code yR_solve bR_solve 13 (some .boolean) :: gtb) rm_R_solve).room s m args below meth c (MQ below (va_Qi (fun (r : Int32) (u : SI × SJ) => (r, u) = res) (atW D vwCl (tysR cI cJ cG) A (wsR ad cI cJ cG)) A) args s 0 0 A) D vwCl A 13 (wsR ad cI cJ cG I J) 107 [(0, .ref (ad 0)), (1, .int x1), (2, .int x2), (3, .int x3), (4, .long x4), (6, .int x6)] []) ∧ (∀ (x1 : Int32) (x2 : Int32) (x3 : Int64) (x5 : Int32) (I : SI) (J : SJ), (g_R_solve n).2.2.2.1 x1 x2 x3 x5 I J = some res → WB p l e (headSpec (Cond.code yR_solve bR_solve 13 (some .boolean) :: gtb) rm_R_solve).room s m args below meth c (MQ below (va_Qi (fun (r : Int32) (u : SI × SJ) => (r, u) = res) (atW D vwCl (tysR cI cJ cG) A (wsR ad cI cJ cG)) A) args s 0 0 A) D vwCl A 13 (wsR ad cI cJ cG I J) 180 [(0, .ref (ad 0)), (1, .int x1), (2, .int x2), (3, .long x3), (5, .int x5)] []) ∧ (∀ (x1 : Int32) (x2 : Int32) (x3 : Int64) (x5 : Int32) (x6 : Int32) (I : SI) (J : SJ), (g_R_solve n).2.2.2.2.1 x1 x2 x3 x5 x6 I J = some res → WB p l e (headSpec (Cond.code yR_solve bR_solve 13 (some .boolean) :: gtb) rm_R_solve).room s m args below meth c (MQ below (va_Qi (fun (r : Int32) (u : SI × SJ) => (r, u) = res) (atW D vwCl (tysR cI cJ cG) A (wsR ad cI cJ cG)) A) args s 0 0 A) D vwCl A 13 (wsR ad cI cJ cG I J) 190 [(0, .ref (ad 0)), (1, .int x1), (2, .int x2), (3, .long x3), (5, .int x5), (6, .int x6)] []) ∧ (∀ (x1 : Int32) (x2 : Int32) (x3 : Int64) (x5 : Int32) (x6 : Int32) (x7 : Int32) (I : SI) (J : SJ), (g_R_solve n).2.2.2.2.2.1 x1 x2 x3 x5 x6 x7 I J = some res → WB p l e (headSpec (Cond.code yR_solve bR_solve 13 (some .boolean) :: gtb) rm_R_solve).room s m args below meth c (MQ below (va_Qi (fun (r : Int32) (u : SI × SJ) => (r, u) = res) (atW D vwCl (tysR cI cJ cG) A (wsR ad cI cJ cG)) A) args s 0 0 A) D vwCl A 13 (wsR ad cI cJ cG I J) 230 [(0, .ref (ad 0)), (1, .int x1), (2, .int x2), (3, .long x3), (5, .int x5), (6, .int x6), (7, .int x7)] []) ∧ (∀ (x1 : Int32) (x2 : Int32) (x3 : Int64) (x5 : Int32) (x7 : Int64) (x9 : Int32) (I : SI) (J : SJ), (g_R_solve n).2.2.2.2.2.2.1 x1 x2 x3 x5 x7 x9 I J = some res → WB p l e (headSpec (Cond.code yR_solve bR_solve 13 (some .boolean) :: gtb) rm_R_solve).room s m args below meth c (MQ below (va_Qi (fun (r : Int32) (u : SI × SJ) => (r, u) = res) (atW D vwCl (tysR cI cJ cG) A (wsR ad cI cJ cG)) A) args s 0 0 A) D vwCl A 13 (wsR ad cI cJ cG I J) 319 [(0, .ref (ad 0)), (1, .int x1), (2, .int x2), (3, .long x3), (5, .int x5), (7, .long x7), (9, .int x9)] []) ∧ (∀ (x1 : Int32) (x2 : Int32) (x3 : Int64) (x5 : Int32) (x7 : Int64) (x9 : Int32) (x10 : Int64) (x12 : Int32) (I : SI) (J : SJ), (g_R_solve n).2.2.2.2.2.2.2.1 x1 x2 x3 x5 x7 x9 x10 x12 I J = some res → WB p l e (headSpec (Cond.code yR_solve bR_solve 13 (some .boolean) :: gtb) rm_R_solve).room s m args below meth c (MQ below (va_Qi (fun (r : Int32) (u : SI × SJ) => (r, u) = res) (atW D vwCl (tysR cI cJ cG) A (wsR ad cI cJ cG)) A) args s 0 0 A) D vwCl A 13 (wsR ad cI cJ cG I J) 349 [(0, .ref (ad 0)), (1, .int x1), (2, .int x2), (3, .long x3), (5, .int x5), (7, .long x7), (9, .int x9), (10, .long x10), (12, .int x12)] []) ∧ (∀ (x1 : Int32) (x2 : Int32) (k0 : Int64) (I : SI) (J : SJ), (g_R_solve n).2.2.2.2.2.2.2.2.1 x1 x2 k0 I J = some res → WB p l e (headSpec (Cond.code yR_solve bR_solve 13 (some .boolean) :: gtb) rm_R_solve).room s m args below meth c (MQ below (va_Qi (fun (r : Int32) (u : SI × SJ) => (r, u) = res) (atW D vwCl (tysR cI cJ cG) A (wsR ad cI cJ cG)) A) args s 0 0 A) D vwCl A 13 (wsR ad cI cJ cG I J) 431 [(0, .ref (ad 0)), (1, .int x1), (2, .int x2)] [.long k0, .ref (ad 0)]) ∧ (∀ (x1 : Int32) (x2 : Int32) (x5 : Int64) (x7 : Int32) (I : SI) (J : SJ), (g_R_solve n).2.2.2.2.2.2.2.2.2.1 x1 x2 x5 x7 I J = some res → WB p l e (headSpec (Cond.code yR_solve bR_solve 13 (some .boolean) :: gtb) rm_R_solve).room s m args below meth c (MQ below (va_Qi (fun (r : Int32) (u : SI × SJ) => (r, u) = res) (atW D vwCl (tysR cI cJ cG) A (wsR ad cI cJ cG)) A) args s 0 0 A) D vwCl A 13 (wsR ad cI cJ cG I J) 466 [(0, .ref (ad 0)), (1, .int x1), (2, .int x2), (5, .long x5), (7, .int x7)] []) ∧ (∀ (x1 : Int32) (x7 : Int64) (x9 : Int32) (I : SI) (J : SJ), (g_R_solve n).2.2.2.2.2.2.2.2.2.2 x1 x7 x9 I J = some res → WB p l e (headSpec (Cond.code yR_solve bR_solve 13 (some .boolean) :: gtb) rm_R_solve).room s m args below meth c (MQ below (va_Qi (fun (r : Int32) (u : SI × SJ) => (r, u) = res) (atW D vwCl (tysR cI cJ cG) A (wsR ad cI cJ cG)) A) args s 0 0 A) D vwCl A 13 (wsR ad cI cJ cG I J) 510 [(0, .ref (ad 0)), (1, .int x1), (7, .long x7), (9, .int x9)] []) := by
  intro n
  induction n with
  | zero => exact ⟨fun _ _ _ _ _ h => (by cases h), fun _ _ _ _ _ _ _ h => (by cases h), fun _ _ _ _ _ _ _ h => (by cases h), fun _ _ _ _ _ _ h => (by cases h), fun _ _ _ _ _ _ _ h => (by cases h), fun _ _ _ _ _ _ _ _ h => (by cases h), fun _ _ _ _ _ _ _ _ h => (by cases h), fun _ _ _ _ _ _ _ _ _ _ h => (by cases h), fun _ _ _ _ _ h => (by cases h), fun _ _ _ _ _ _ h => (by cases h), fun _ _ _ _ _ h => (by cases h)⟩
  | succ n ih =>
    obtain ⟨ih7, ih39, ih107, ih180, ih190, ih230, ih319, ih349, ih431, ih466, ih510⟩ := ih
    exact ⟨fun x1 x2 x3 I J h => w_R_solve_7 X hK hN hA ih39 ih180 x1 x2 x3 I J h, fun x1 x2 x3 x4 x6 I J h => w_R_solve_39 X hK hN hA ih39 ih107 x1 x2 x3 x4 x6 I J h, fun x1 x2 x3 x4 x6 I J h => w_R_solve_107 X hK hN hA ih7 ih107 x1 x2 x3 x4 x6 I J h, fun x1 x2 x3 x5 I J h => w_R_solve_180 X hK hN hA ih190 ih431 x1 x2 x3 x5 I J h, fun x1 x2 x3 x5 x6 I J h => w_R_solve_190 X hK hN hA ih190 ih230 x1 x2 x3 x5 x6 I J h, fun x1 x2 x3 x5 x6 x7 I J h => w_R_solve_230 X hK hN hA ih230 ih319 x1 x2 x3 x5 x6 x7 I J h, fun x1 x2 x3 x5 x7 x9 I J h => w_R_solve_319 X hK hN hA ih180 ih319 ih349 x1 x2 x3 x5 x7 x9 I J h, fun x1 x2 x3 x5 x7 x9 x10 x12 I J h => w_R_solve_349 X hK hN hA ih319 ih349 x1 x2 x3 x5 x7 x9 x10 x12 I J h, fun x1 x2 k0 I J h => w_R_solve_431 X hK hN hA ih466 x1 x2 k0 I J h, fun x1 x2 x5 x7 I J h => w_R_solve_466 X hK hN hA ih466 ih510 x1 x2 x5 x7 I J h, fun x1 x7 x9 I J h => w_R_solve_510 X hK hN hA ih510 x1 x7 x9 I J h⟩
set_option maxHeartbeats 4000000 in
set_option maxRecDepth 100000 in
theorem c_R_solve (l : Launch) (D : va_G) (ad : Nat → Nat) (cI cJ cG : ClassId) (sz : Nat) (x1 : Int32) (I : SI) (J : SJ) (res : Int32 × SI × SJ) (hm : m_R_solve x1 I J = some res) : Met l yR_solve (Cond.code yR_solve bR_solve 13 (some .boolean) :: gtb) rm_R_solve (va_Pc [.ref (ad 0), .int x1] (preW D vwCl (tysR cI cJ cG) (wsR ad cI cJ cG I J) sz)) (va_Qi (fun (r : Int32) (u : SI × SJ) => (r, u) = res) (atW D vwCl (tysR cI cJ cG) (va_A (wsR ad cI cJ cG I J) sz) (wsR ad cI cJ cG)) (va_A (wsR ad cI cJ cG I J) sz)) 0 0 (va_A (wsR ad cI cJ cG I J) sz) := by
  refine Met.ofW (cc := bR_solve) (maxL := 13) (ret := (some .boolean)) (by decide) rfl ?_
  intro p e s m args below meth c s₁ B hml hv
  obtain ⟨rfl, hsz, hP, hK, hD0, hN⟩ := hv
  subst hsz
  have X : Cx p s m [.ref (ad 0), .int x1].toArray meth c bR_solve (some .boolean) 13 RR := ⟨B.exec, B.bytes, B.returns, hml, findClass_of_methodNamed B.named, fun w h => atoms_spec (ws := (Cond.code yR_solve bR_solve 13 (some .boolean) :: gtb)) B.pre w (List.mem_cons_of_mem _ h), B.notSynchronized⟩
  have hl := lv_entry ([.ref (ad 0), .int x1]) (n := 13) (Nat.le_of_ble_eq_true rfl)
  rw [lg_entry_eq]
  generalize (lg_sl ([.ref (ad 0), .int x1]) ++ List.replicate (13 - (lg_sl ([.ref (ad 0), .int x1])).length) Slot.unset).toArray = ls at hl ⊢
  have hl : lv_has ls 13 [(0, .ref (ad 0)), (1, .int x1)] := hl
  have hA : ∀ q, s.heap.size ≤ q → va_A (wsR ad cI cJ cG I J) s.heap.size q := fun q h => Or.inr h
  exact w_R_solve_0 X hK hN hA (gw_R_solve X hK hN hA fuel).1 x1 I J hm _ _ _ hP hD0.self va_S.rf hl
def b_R_look_34 (k34 : Int32 → SI → SJ → Option (Int32 × SI × SJ)) (x2 : Int32) (I : SI) (J : SJ) : Option (Int32 × SI × SJ) :=
  if (I 0 0) ≤ x2 then
    nm (va_up J 0 (vp_updL (J 0) 30 (J 0 26))) fun J2 =>
    nm (va_up I 0 (upd (I 0) 28 1)) fun I3 =>
    some (1, I3, J2)
  else
    gd (vin x2 4) <|
    nm (J 15 x2.toNatClampNeg) fun v5 =>
    gd (vin x2 4) <|
    nm (va_up J 17 (vp_updL (J 17) x2.toNatClampNeg v5)) fun J7 =>
    nm (x2 + 1) fun v8 =>
    k34 v8 I J7
def b_R_look_0 (k34 : Int32 → SI → SJ → Option (Int32 × SI × SJ)) (x1 : Int32) (I : SI) (J : SJ) : Option (Int32 × SI × SJ) :=
  cl3 (m_R_solve x1 I J) fun r1 I2 J3 =>
  if r1 = 0 then
    some (0, I2, J3)
  else
    cl3 (m_R_keepsAll x1 I2 J3) fun r6 I7 J8 =>
    if r6 = 0 then
      some (0, I7, J8)
    else
      if (I7 0 28) = 0 then
        k34 0 I7 J8
      else
        cl3 (m_R_isBetter I7 J8) fun r12 I13 J14 =>
        if r12 = 0 then
          nm (va_up I13 0 (upd (I13 0) 28 1)) fun I17 =>
          some (1, I17, J14)
        else
          k34 0 I13 J14
def g_R_look : Nat → (Int32 → SI → SJ → Option (Int32 × SI × SJ))
  | 0 => (fun _ _ _ => none)
  | n + 1 => (fun x2 I J => b_R_look_34 (g_R_look n) x2 I J)
def m_R_look (x1 : Int32) (I : SI) (J : SJ) : Option (Int32 × SI × SJ) := b_R_look_0 (g_R_look fuel) x1 I J
def rm_R_look : Room := { frames := 3, cells := 0, slots := 0, locals := 75 }
set_option maxHeartbeats 4000000 in
set_option maxRecDepth 100000 in
theorem w_R_look_34 {p : Program} {l : Launch} {e : Env} {s : State} {m : MethodId} {args : Array Value} {below : List Frame} {meth : Method} {c : Code} {D : va_G} {A : Nat → Prop} {ad : Nat → Nat} {cI cJ cG : ClassId} {res : Int32 × SI × SJ} (X : Cx p s m args meth c bR_look (some .boolean) 3 RR) (hK : va_K D vwCl (tysR cI cJ cG) s) (hN : NWs s) (hA : ∀ q, s.heap.size ≤ q → A q)
    {k34 : Int32 → SI → SJ → Option (Int32 × SI × SJ)} (hk34 : ∀ (x2 : Int32) (I : SI) (J : SJ), k34 x2 I J = some res → WB p l e (headSpec (Cond.code yR_look bR_look 3 (some .boolean) :: gtb) rm_R_look).room s m args below meth c (MQ below (va_Qi (fun (r : Int32) (u : SI × SJ) => (r, u) = res) (atW D vwCl (tysR cI cJ cG) A (wsR ad cI cJ cG)) A) args s 0 0 A) D vwCl A 3 (wsR ad cI cJ cG I J) 34 [(0, .ref (ad 0)), (2, .int x2)] [])
     (x2 : Int32) (I : SI) (J : SJ) (hm : b_R_look_34 k34 x2 I J = some res) : WB p l e (headSpec (Cond.code yR_look bR_look 3 (some .boolean) :: gtb) rm_R_look).room s m args below meth c (MQ below (va_Qi (fun (r : Int32) (u : SI × SJ) => (r, u) = res) (atW D vwCl (tysR cI cJ cG) A (wsR ad cI cJ cG)) A) args s 0 0 A) D vwCl A 3 (wsR ad cI cJ cG I J) 34 [(0, .ref (ad 0)), (2, .int x2)] [] := by
  obtain ⟨hx, hb, hr, hml, hown, hT, hlk⟩ := X
  intro H locs ls hP hD hS hl
  unfold b_R_look_34 at hm
  refine lv_iload_n hx hb dR_look_34 rfl (lv_at hl 1 rfl) ?_
  refine lv_aload_n hx hb dR_look_35 rfl (lv_at hl 0 rfl) ?_
  refine va_get (D := D) (ci := 6) (v := .int (I 0 0)) (C := RR) (T := TR) (N := 31) hx hb hT inR hown hK hP 0 rfl rfl 0 (by decide) (hT _ wd_535) (fun _ h9 => h9) rfl dR_look_36 ?_
  refine lv_icmp_ge (tgt := 60) hx hb dR_look_39 (by decide) (fun c1 => ?_) (fun c1 => ?_)
  · have hm := brp hm c1
    refine lv_aload_n hx hb dR_look_60 rfl (lv_at hl 0 rfl) ?_
    refine lv_aload_n hx hb dR_look_61 rfl (lv_at hl 0 rfl) ?_
    refine va_get (D := D) (ci := 6) (v := .long (J 0 26)) (C := RR) (T := TR) (N := 31) hx hb hT inR hown hK hP 0 rfl rfl 26 (by decide) (hT _ wd_561) (fun _ h9 => h9) rfl dR_look_62 ?_
    refine va_put (D := D) (ci := 6) (v := .long (J 0 26)) (ty := .long) (C := RR) (T := TR) (N := 31) hx hb hT inR tyR okR nmR hown hK hP hD hS 0 rfl rfl 30 (by decide) (hT _ wd_565) (fun _ h9 => h9) rfl pf_J rfl rfl (Nat.le_of_ble_eq_true rfl) dR_look_65 (fun H locs hP hD hS => ?_)
    obtain ⟨J2, eJ2⟩ : ∃ z : SJ, z = va_up J 0 (vp_updL (J 0) 30 (J 0 26)) := ⟨_, rfl⟩
    have hm := nm_to eJ2 hm
    have hP := P_eq (ws2 := wsR ad cI cJ cG I J2) hP (by rw [eJ2]; rfl)
    have hD := D_eq (ws2 := wsR ad cI cJ cG I J2) hD (by rw [eJ2]; rfl)
    refine lv_aload_n hx hb dR_look_68 rfl (lv_at hl 0 rfl) ?_
    refine lv_iconst (v := 1) hx hb dR_look_69 (by decide) ?_
    refine va_put (D := D) (ci := 6) (v := .int 1) (ty := .boolean) (C := RR) (T := TR) (N := 31) hx hb hT inR tyR okR nmR hown hK hP hD hS 0 rfl rfl 28 (by decide) (hT _ wd_563) (fun _ h9 => h9) rfl pf_Z rfl rfl (Nat.le_of_ble_eq_true rfl) dR_look_70 (fun H locs hP hD hS => ?_)
    obtain ⟨I3, eI3⟩ : ∃ z : SI, z = va_up I 0 (upd (I 0) 28 1) := ⟨_, rfl⟩
    have hm := nm_to eI3 hm
    have hP := P_eq (ws2 := wsR ad cI cJ cG I3 J2) hP (by rw [eI3]; rfl)
    have hD := D_eq (ws2 := wsR ad cI cJ cG I3 J2) hD (by rw [eI3]; rfl)
    refine lv_iconst (v := 1) hx hb dR_look_73 (by decide) ?_
    exact W.zret hx hb hr rfl (fun t ht hW => ⟨⟨1, (I3, J2), rfl, Option.some.inj hm, ht ▸ hP, va_K.moved hW.alike hK, hD⟩, hS.F ht⟩) hS.2.2 dR_look_74 hlk
  · have hm := brn hm c1
    refine lv_aload_n hx hb dR_look_42 rfl (lv_at hl 0 rfl) ?_
    refine va_get (D := D) (ci := 6) (v := .ref (ad 17)) (C := RR) (T := TR) (N := 31) hx hb hT inR hown hK hP 0 rfl rfl 29 (by decide) (hT _ wd_564) (fun _ h9 => h9) rfl dR_look_43 ?_
    refine lv_iload_n hx hb dR_look_46 rfl (lv_at hl 1 rfl) ?_
    refine lv_aload_n hx hb dR_look_47 rfl (lv_at hl 0 rfl) ?_
    refine va_get (D := D) (ci := 6) (v := .ref (ad 15)) (C := RR) (T := TR) (N := 31) hx hb hT inR hown hK hP 0 rfl rfl 25 (by decide) (hT _ wd_560) (fun _ h9 => h9) rfl dR_look_48 ?_
    refine lv_iload_n hx hb dR_look_51 rfl (lv_at hl 1 rfl) ?_
    obtain ⟨g4, hm⟩ := gd_to hm
    refine va_lald hx hb hK hP 15 1 rfl rfl g4 dR_look_52 ?_
    refine lv_topl (fun v5 ev5 => ?_)
    have hm := nm_to ev5 hm
    obtain ⟨g6, hm⟩ := gd_to hm
    refine va_last hx hb hK hP hD hS 17 1 rfl rfl g6 dR_look_53 (fun H locs hP hD hS => ?_)
    obtain ⟨J7, eJ7⟩ : ∃ z : SJ, z = va_up J 17 (vp_updL (J 17) x2.toNatClampNeg v5) := ⟨_, rfl⟩
    have hm := nm_to eJ7 hm
    have hP := P_eq (ws2 := wsR ad cI cJ cG I J7) hP (by rw [eJ7]; rfl)
    have hD := D_eq (ws2 := wsR ad cI cJ cG I J7) hD (by rw [eJ7]; rfl)
    obtain ⟨v8, ev8⟩ : ∃ z : Int32, z = x2 + 1 := ⟨_, rfl⟩
    have hm := nm_to ev8 hm
    refine lv_iinc (v := v8) (lv' := [(2, .int v8), (0, .ref (ad 0))]) hx hb dR_look_54 hl (k := 1) rfl (by rw [ev8]; rfl) (by decide) rfl (fun ls hl => ?_)
    refine lv_goto (tgt := 34) hx hb dR_look_57 (by decide) ?_
    exact hk34 v8 I J7 hm _ _ _ hP hD hS (lv_sub hl [1, 0] rfl)
set_option maxHeartbeats 4000000 in
set_option maxRecDepth 100000 in
theorem w_R_look_0 {p : Program} {l : Launch} {e : Env} {s : State} {m : MethodId} {args : Array Value} {below : List Frame} {meth : Method} {c : Code} {D : va_G} {A : Nat → Prop} {ad : Nat → Nat} {cI cJ cG : ClassId} {res : Int32 × SI × SJ} (X : Cx p s m args meth c bR_look (some .boolean) 3 RR) (hK : va_K D vwCl (tysR cI cJ cG) s) (hN : NWs s) (hA : ∀ q, s.heap.size ≤ q → A q)
    {k34 : Int32 → SI → SJ → Option (Int32 × SI × SJ)} (hk34 : ∀ (x2 : Int32) (I : SI) (J : SJ), k34 x2 I J = some res → WB p l e (headSpec (Cond.code yR_look bR_look 3 (some .boolean) :: gtb) rm_R_look).room s m args below meth c (MQ below (va_Qi (fun (r : Int32) (u : SI × SJ) => (r, u) = res) (atW D vwCl (tysR cI cJ cG) A (wsR ad cI cJ cG)) A) args s 0 0 A) D vwCl A 3 (wsR ad cI cJ cG I J) 34 [(0, .ref (ad 0)), (2, .int x2)] [])
     (x1 : Int32) (I : SI) (J : SJ) (hm : b_R_look_0 k34 x1 I J = some res) : WB p l e (headSpec (Cond.code yR_look bR_look 3 (some .boolean) :: gtb) rm_R_look).room s m args below meth c (MQ below (va_Qi (fun (r : Int32) (u : SI × SJ) => (r, u) = res) (atW D vwCl (tysR cI cJ cG) A (wsR ad cI cJ cG)) A) args s 0 0 A) D vwCl A 3 (wsR ad cI cJ cG I J) 0 [(0, .ref (ad 0)), (1, .int x1)] [] := by
  obtain ⟨hx, hb, hr, hml, hown, hT, hlk⟩ := X
  intro H locs ls hP hD hS hl
  unfold b_R_look_0 at hm
  refine lv_aload_n hx hb dR_look_0 rfl (lv_at hl 0 rfl) ?_
  refine lv_iload_n hx hb dR_look_1 rfl (lv_at hl 1 rfl) ?_
  obtain ⟨r1, I2, J3, hc4, hm⟩ := cl3_to hm
  refine pst_i (wf := wsR ad cI cJ cG) hD hS hA (va_runV (As := [.int x1]) (rest := []) ⟨hx, hb, hml, hown, hT⟩ (c_R_solve l D ad cI cJ cG _ x1 I J _ hc4) (cwV 1 hT (gV wd_693 wd_695 wd_39 wd_57 wd_696) rfl rfl rfl (by decide +kernel) ⟨Nat.le_of_ble_eq_true rfl, Nat.le_of_ble_eq_true rfl⟩) ⟨preW_fb, va_recv hK hP (ci := 6) (q0 := 0) rfl rfl, preW_at hP hK hN hD⟩ rfl rfl hl.1 rfl (lv_room (Nat.le_of_ble_eq_true rfl)) dR_look_2 ⟨Nat.zero_le _, Nat.zero_le _⟩) (fun H locs hP hD hS => ?_)
  refine lv_if_eq (tgt := 16) hx hb dR_look_5 (by decide) (fun c5 => ?_) (fun c5 => ?_)
  · have hm := brp hm c5
    refine lv_iconst (v := 0) hx hb dR_look_16 (by decide) ?_
    exact W.zret hx hb hr rfl (fun t ht hW => ⟨⟨0, (I2, J3), rfl, Option.some.inj hm, ht ▸ hP, va_K.moved hW.alike hK, hD⟩, hS.F ht⟩) hS.2.2 dR_look_17 hlk
  · have hm := brn hm c5
    refine lv_aload_n hx hb dR_look_8 rfl (lv_at hl 0 rfl) ?_
    refine lv_iload_n hx hb dR_look_9 rfl (lv_at hl 1 rfl) ?_
    obtain ⟨r6, I7, J8, hc9, hm⟩ := cl3_to hm
    refine pst_i (wf := wsR ad cI cJ cG) hD hS hA (va_runV (As := [.int x1]) (rest := []) ⟨hx, hb, hml, hown, hT⟩ (c_R_keepsAll l D ad cI cJ cG _ x1 I2 J3 _ hc9) (cwV 1 hT (gV wd_707 wd_709 wd_42 wd_57 wd_710) rfl rfl rfl (by decide +kernel) ⟨Nat.le_of_ble_eq_true rfl, Nat.le_of_ble_eq_true rfl⟩) ⟨preW_fb, va_recv hK hP (ci := 6) (q0 := 0) rfl rfl, preW_at hP hK hN hD⟩ rfl rfl hl.1 rfl (lv_room (Nat.le_of_ble_eq_true rfl)) dR_look_10 ⟨Nat.zero_le _, Nat.zero_le _⟩) (fun H locs hP hD hS => ?_)
    refine lv_if_ne (tgt := 18) hx hb dR_look_13 (by decide) (fun c10 => ?_) (fun c10 => ?_)
    · have hm := brn hm c10
      refine lv_aload_n hx hb dR_look_18 rfl (lv_at hl 0 rfl) ?_
      refine va_get (D := D) (ci := 6) (v := .int (I7 0 28)) (C := RR) (T := TR) (N := 31) hx hb hT inR hown hK hP 0 rfl rfl 28 (by decide) (hT _ wd_563) (fun _ h9 => h9) rfl dR_look_19 ?_
      refine lv_if_eq (tgt := 32) hx hb dR_look_22 (by decide) (fun c11 => ?_) (fun c11 => ?_)
      · have hm := brp hm c11
        refine lv_iconst (v := 0) hx hb dR_look_32 (by decide) ?_
        refine lv_istore_n (lv' := [(2, .int 0), (0, .ref (ad 0)), (1, .int x1)]) hx hb dR_look_33 rfl hl (by decide) rfl (fun ls hl => ?_)
        exact hk34 0 I7 J8 hm _ _ _ hP hD hS (lv_sub hl [1, 0] rfl)
      · have hm := brn hm c11
        refine lv_aload_n hx hb dR_look_25 rfl (lv_at hl 0 rfl) ?_
        obtain ⟨r12, I13, J14, hc15, hm⟩ := cl3_to hm
        refine pst_i (wf := wsR ad cI cJ cG) hD hS hA (va_runV (As := []) (rest := []) ⟨hx, hb, hml, hown, hT⟩ (c_R_isBetter l D ad cI cJ cG _ I7 J8 _ hc15) (cwV 0 hT (gV wd_718 wd_720 wd_44 wd_57 wd_721) rfl rfl rfl (by decide +kernel) ⟨Nat.le_of_ble_eq_true rfl, Nat.le_of_ble_eq_true rfl⟩) ⟨preW_fb, va_recv hK hP (ci := 6) (q0 := 0) rfl rfl, preW_at hP hK hN hD⟩ rfl rfl hl.1 rfl (lv_room (Nat.le_of_ble_eq_true rfl)) dR_look_26 ⟨Nat.zero_le _, Nat.zero_le _⟩) (fun H locs hP hD hS => ?_)
        refine lv_if_eq (tgt := 68) hx hb dR_look_29 (by decide) (fun c16 => ?_) (fun c16 => ?_)
        · have hm := brp hm c16
          refine lv_aload_n hx hb dR_look_68 rfl (lv_at hl 0 rfl) ?_
          refine lv_iconst (v := 1) hx hb dR_look_69 (by decide) ?_
          refine va_put (D := D) (ci := 6) (v := .int 1) (ty := .boolean) (C := RR) (T := TR) (N := 31) hx hb hT inR tyR okR nmR hown hK hP hD hS 0 rfl rfl 28 (by decide) (hT _ wd_563) (fun _ h9 => h9) rfl pf_Z rfl rfl (Nat.le_of_ble_eq_true rfl) dR_look_70 (fun H locs hP hD hS => ?_)
          obtain ⟨I17, eI17⟩ : ∃ z : SI, z = va_up I13 0 (upd (I13 0) 28 1) := ⟨_, rfl⟩
          have hm := nm_to eI17 hm
          have hP := P_eq (ws2 := wsR ad cI cJ cG I17 J14) hP (by rw [eI17]; rfl)
          have hD := D_eq (ws2 := wsR ad cI cJ cG I17 J14) hD (by rw [eI17]; rfl)
          refine lv_iconst (v := 1) hx hb dR_look_73 (by decide) ?_
          exact W.zret hx hb hr rfl (fun t ht hW => ⟨⟨1, (I17, J14), rfl, Option.some.inj hm, ht ▸ hP, va_K.moved hW.alike hK, hD⟩, hS.F ht⟩) hS.2.2 dR_look_74 hlk
        · have hm := brn hm c16
          refine lv_iconst (v := 0) hx hb dR_look_32 (by decide) ?_
          refine lv_istore_n (lv' := [(2, .int 0), (0, .ref (ad 0)), (1, .int x1)]) hx hb dR_look_33 rfl hl (by decide) rfl (fun ls hl => ?_)
          exact hk34 0 I13 J14 hm _ _ _ hP hD hS (lv_sub hl [1, 0] rfl)
    · have hm := brp hm c10
      refine lv_iconst (v := 0) hx hb dR_look_16 (by decide) ?_
      exact W.zret hx hb hr rfl (fun t ht hW => ⟨⟨0, (I7, J8), rfl, Option.some.inj hm, ht ▸ hP, va_K.moved hW.alike hK, hD⟩, hS.F ht⟩) hS.2.2 dR_look_17 hlk
set_option maxHeartbeats 4000000 in
theorem gw_R_look {p : Program} {l : Launch} {e : Env} {s : State} {m : MethodId} {args : Array Value} {below : List Frame} {meth : Method} {c : Code} {D : va_G} {A : Nat → Prop} {ad : Nat → Nat} {cI cJ cG : ClassId} {res : Int32 × SI × SJ} (X : Cx p s m args meth c bR_look (some .boolean) 3 RR) (hK : va_K D vwCl (tysR cI cJ cG) s) (hN : NWs s) (hA : ∀ q, s.heap.size ≤ q → A q) : ∀ n : Nat, (∀ (x2 : Int32) (I : SI) (J : SJ), (g_R_look n) x2 I J = some res → WB p l e (headSpec (Cond.code yR_look bR_look 3 (some .boolean) :: gtb) rm_R_look).room s m args below meth c (MQ below (va_Qi (fun (r : Int32) (u : SI × SJ) => (r, u) = res) (atW D vwCl (tysR cI cJ cG) A (wsR ad cI cJ cG)) A) args s 0 0 A) D vwCl A 3 (wsR ad cI cJ cG I J) 34 [(0, .ref (ad 0)), (2, .int x2)] []) := by
  intro n
  induction n with
  | zero => exact fun _ _ _ h => (by cases h)
  | succ n ih =>
    have ih34 := ih
    exact fun x2 I J h => w_R_look_34 X hK hN hA ih34 x2 I J h
set_option maxHeartbeats 4000000 in
set_option maxRecDepth 100000 in
theorem c_R_look (l : Launch) (D : va_G) (ad : Nat → Nat) (cI cJ cG : ClassId) (sz : Nat) (x1 : Int32) (I : SI) (J : SJ) (res : Int32 × SI × SJ) (hm : m_R_look x1 I J = some res) : Met l yR_look (Cond.code yR_look bR_look 3 (some .boolean) :: gtb) rm_R_look (va_Pc [.ref (ad 0), .int x1] (preW D vwCl (tysR cI cJ cG) (wsR ad cI cJ cG I J) sz)) (va_Qi (fun (r : Int32) (u : SI × SJ) => (r, u) = res) (atW D vwCl (tysR cI cJ cG) (va_A (wsR ad cI cJ cG I J) sz) (wsR ad cI cJ cG)) (va_A (wsR ad cI cJ cG I J) sz)) 0 0 (va_A (wsR ad cI cJ cG I J) sz) := by
  refine Met.ofW (cc := bR_look) (maxL := 3) (ret := (some .boolean)) (by decide) rfl ?_
  intro p e s m args below meth c s₁ B hml hv
  obtain ⟨rfl, hsz, hP, hK, hD0, hN⟩ := hv
  subst hsz
  have X : Cx p s m [.ref (ad 0), .int x1].toArray meth c bR_look (some .boolean) 3 RR := ⟨B.exec, B.bytes, B.returns, hml, findClass_of_methodNamed B.named, fun w h => atoms_spec (ws := (Cond.code yR_look bR_look 3 (some .boolean) :: gtb)) B.pre w (List.mem_cons_of_mem _ h), B.notSynchronized⟩
  have hl := lv_entry ([.ref (ad 0), .int x1]) (n := 3) (Nat.le_of_ble_eq_true rfl)
  rw [lg_entry_eq]
  generalize (lg_sl ([.ref (ad 0), .int x1]) ++ List.replicate (3 - (lg_sl ([.ref (ad 0), .int x1])).length) Slot.unset).toArray = ls at hl ⊢
  have hl : lv_has ls 3 [(0, .ref (ad 0)), (1, .int x1)] := hl
  have hA : ∀ q, s.heap.size ≤ q → va_A (wsR ad cI cJ cG I J) s.heap.size q := fun q h => Or.inr h
  exact w_R_look_0 X hK hN hA (gw_R_look X hK hN hA fuel) x1 I J hm _ _ _ hP hD0.self va_S.rf hl
def b_R_corners_7 (k7 : Int32 → Int32 → Int32 → SI → SJ → Option (SI × SJ)) (k72 : Int32 → Int32 → Int32 → Int32 → Int32 → SI → SJ → Option (SI × SJ)) (x1 : Int32) (x2 : Int32) (x3 : Int32) (I : SI) (J : SJ) : Option (SI × SJ) :=
  if (I 0 0) ≤ x3 then
    nm ((I 0 23) - 1) fun v2 =>
    if v2 ≤ 0 then
      k72 x1 x2 v2 1 21 I J
    else
      k72 x1 x2 v2 1 0 I J
  else
    gd (vin x3 4) <|
    nm (I 12 x3.toNatClampNeg) fun v5 =>
    if 0 ≤ v5 then
      nm (x3 + 1) fun v7 =>
      k7 x1 x2 v7 I J
    else
      gd (vin (I 0 23) 4) <|
      nm (va_up I 13 (upd (I 13) (I 0 23).toNatClampNeg x3)) fun I9 =>
      nm ((I9 0 23) + 1) fun v10 =>
      nm (va_up I9 0 (upd (I9 0) 23 v10)) fun I11 =>
      nm (x3 + 1) fun v12 =>
      k7 x1 x2 v12 I11 J
def b_R_corners_72 (k72 : Int32 → Int32 → Int32 → Int32 → Int32 → SI → SJ → Option (SI × SJ)) (k117 : Int32 → Int32 → Int32 → Int32 → Int32 → Int32 → SI → SJ → Option (SI × SJ)) (x1 : Int32) (x2 : Int32) (x3 : Int32) (x4 : Int32) (x5 : Int32) (I : SI) (J : SJ) : Option (SI × SJ) :=
  if 22 ≤ x5 then
    some (I, J)
  else
    if x4 = 0 then
      some (I, J)
    else
      if x3 ≤ 0 then
        if x3 ≤ 1 then
          k117 x1 x2 x3 x4 x5 21 I J
        else
          nm (x5 + 1) fun v5 =>
          k117 x1 x2 x3 x4 x5 v5 I J
      else
        gd (vin x5 22) <|
        nm (I 11 x5.toNatClampNeg) fun v7 =>
        if v7 = 0 then
          nm (x5 + 1) fun v11 =>
          k72 x1 x2 x3 x4 v11 I J
        else
          if x3 ≤ 1 then
            k117 x1 x2 x3 x4 x5 21 I J
          else
            nm (x5 + 1) fun v10 =>
            k117 x1 x2 x3 x4 x5 v10 I J
def b_R_corners_117 (k72 : Int32 → Int32 → Int32 → Int32 → Int32 → SI → SJ → Option (SI × SJ)) (k117 : Int32 → Int32 → Int32 → Int32 → Int32 → Int32 → SI → SJ → Option (SI × SJ)) (k163 : Int32 → Int32 → Int32 → Int32 → Int32 → Int32 → Int32 → SI → SJ → Option (SI × SJ)) (x1 : Int32) (x2 : Int32) (x3 : Int32) (x4 : Int32) (x5 : Int32) (x6 : Int32) (I : SI) (J : SJ) : Option (SI × SJ) :=
  if 22 ≤ x6 then
    nm (x5 + 1) fun v2 =>
    k72 x1 x2 x3 x4 v2 I J
  else
    if x4 = 0 then
      nm (x5 + 1) fun v4 =>
      k72 x1 x2 x3 x4 v4 I J
    else
      if x3 ≤ 1 then
        if x3 ≤ 2 then
          k163 x1 x2 x3 x4 x5 x6 21 I J
        else
          nm (x6 + 1) fun v7 =>
          k163 x1 x2 x3 x4 x5 x6 v7 I J
      else
        gd (vin x6 22) <|
        nm (I 11 x6.toNatClampNeg) fun v9 =>
        if v9 = 0 then
          nm (x6 + 1) fun v13 =>
          k117 x1 x2 x3 x4 x5 v13 I J
        else
          if x3 ≤ 2 then
            k163 x1 x2 x3 x4 x5 x6 21 I J
          else
            nm (x6 + 1) fun v12 =>
            k163 x1 x2 x3 x4 x5 x6 v12 I J
def b_R_corners_163 (k117 : Int32 → Int32 → Int32 → Int32 → Int32 → Int32 → SI → SJ → Option (SI × SJ)) (k163 : Int32 → Int32 → Int32 → Int32 → Int32 → Int32 → Int32 → SI → SJ → Option (SI × SJ)) (k190 : Int32 → Int32 → Int32 → Int32 → Int32 → Int32 → SI → SJ → Option (SI × SJ)) (x1 : Int32) (x2 : Int32) (x3 : Int32) (x4 : Int32) (x5 : Int32) (x6 : Int32) (x7 : Int32) (I : SI) (J : SJ) : Option (SI × SJ) :=
  if 22 ≤ x7 then
    nm (x6 + 1) fun v2 =>
    k117 x1 x2 x3 x4 x5 v2 I J
  else
    if x4 = 0 then
      nm (x6 + 1) fun v4 =>
      k117 x1 x2 x3 x4 x5 v4 I J
    else
      if x3 ≤ 2 then
        k190 x1 x2 x3 x5 x6 x7 I J
      else
        gd (vin x7 22) <|
        nm (I 11 x7.toNatClampNeg) fun v7 =>
        if v7 = 0 then
          nm (x7 + 1) fun v9 =>
          k163 x1 x2 x3 x4 x5 x6 v9 I J
        else
          k190 x1 x2 x3 x5 x6 x7 I J
def b_R_corners_190 (k163 : Int32 → Int32 → Int32 → Int32 → Int32 → Int32 → Int32 → SI → SJ → Option (SI × SJ)) (x1 : Int32) (x2 : Int32) (x3 : Int32) (x5 : Int32) (x6 : Int32) (x7 : Int32) (I : SI) (J : SJ) : Option (SI × SJ) :=
  gd (vin 0 3) <|
  nm (va_up I 16 (upd (I 16) (Int32.toNatClampNeg 0) x5)) fun I2 =>
  gd (vin 1 3) <|
  nm (va_up I2 16 (upd (I2 16) (Int32.toNatClampNeg 1) x6)) fun I4 =>
  gd (vin 2 3) <|
  nm (va_up I4 16 (upd (I4 16) (Int32.toNatClampNeg 2) x7)) fun I6 =>
  cl3 (m_R_look x1 I6 J) fun r7 I8 J9 =>
  if r7 = 0 then
    nm (x7 + 1) fun v12 =>
    k163 x1 x2 x3 1 x5 x6 v12 I8 J9
  else
    if x2 = 0 then
      nm (x7 + 1) fun v15 =>
      k163 x1 x2 x3 1 x5 x6 v15 I8 J9
    else
      nm (x7 + 1) fun v14 =>
      k163 x1 x2 x3 0 x5 x6 v14 I8 J9
def b_R_corners_0 (k7 : Int32 → Int32 → Int32 → SI → SJ → Option (SI × SJ)) (x1 : Int32) (x2 : Int32) (I : SI) (J : SJ) : Option (SI × SJ) :=
  nm (va_up I 0 (upd (I 0) 23 0)) fun I1 =>
  k7 x1 x2 0 I1 J
def g_R_corners : Nat → (Int32 → Int32 → Int32 → SI → SJ → Option (SI × SJ)) × (Int32 → Int32 → Int32 → Int32 → Int32 → SI → SJ → Option (SI × SJ)) × (Int32 → Int32 → Int32 → Int32 → Int32 → Int32 → SI → SJ → Option (SI × SJ)) × (Int32 → Int32 → Int32 → Int32 → Int32 → Int32 → Int32 → SI → SJ → Option (SI × SJ)) × (Int32 → Int32 → Int32 → Int32 → Int32 → Int32 → SI → SJ → Option (SI × SJ))
  | 0 => (fun _ _ _ _ _ => none, fun _ _ _ _ _ _ _ => none, fun _ _ _ _ _ _ _ _ => none, fun _ _ _ _ _ _ _ _ _ => none, fun _ _ _ _ _ _ _ _ => none)
  | n + 1 => (fun x1 x2 x3 I J => b_R_corners_7 (g_R_corners n).1 (g_R_corners n).2.1 x1 x2 x3 I J, fun x1 x2 x3 x4 x5 I J => b_R_corners_72 (g_R_corners n).2.1 (g_R_corners n).2.2.1 x1 x2 x3 x4 x5 I J, fun x1 x2 x3 x4 x5 x6 I J => b_R_corners_117 (g_R_corners n).2.1 (g_R_corners n).2.2.1 (g_R_corners n).2.2.2.1 x1 x2 x3 x4 x5 x6 I J, fun x1 x2 x3 x4 x5 x6 x7 I J => b_R_corners_163 (g_R_corners n).2.2.1 (g_R_corners n).2.2.2.1 (g_R_corners n).2.2.2.2 x1 x2 x3 x4 x5 x6 x7 I J, fun x1 x2 x3 x5 x6 x7 I J => b_R_corners_190 (g_R_corners n).2.2.2.1 x1 x2 x3 x5 x6 x7 I J)
def m_R_corners (x1 : Int32) (x2 : Int32) (I : SI) (J : SJ) : Option (SI × SJ) := b_R_corners_0 (g_R_corners fuel).1 x1 x2 I J
def rm_R_corners : Room := { frames := 4, cells := 0, slots := 0, locals := 97 }
set_option maxHeartbeats 4000000 in
set_option maxRecDepth 100000 in
theorem w_R_corners_7 {p : Program} {l : Launch} {e : Env} {s : State} {m : MethodId} {args : Array Value} {below : List Frame} {meth : Method} {c : Code} {D : va_G} {A : Nat → Prop} {ad : Nat → Nat} {cI cJ cG : ClassId} {res : SI × SJ} (X : Cx p s m args meth c bR_corners none 9 RR) (hK : va_K D vwCl (tysR cI cJ cG) s) (hN : NWs s) (hA : ∀ q, s.heap.size ≤ q → A q)
    {k7 : Int32 → Int32 → Int32 → SI → SJ → Option (SI × SJ)} (hk7 : ∀ (x1 : Int32) (x2 : Int32) (x3 : Int32) (I : SI) (J : SJ), k7 x1 x2 x3 I J = some res → WB p l e (headSpec (Cond.code yR_corners bR_corners 9 none :: gtb) rm_R_corners).room s m args below meth c (MQ below (va_Qv (fun (u : SI × SJ) => u = res) (atW D vwCl (tysR cI cJ cG) A (wsR ad cI cJ cG)) A) args s 0 0 A) D vwCl A 9 (wsR ad cI cJ cG I J) 7 [(0, .ref (ad 0)), (1, .int x1), (2, .int x2), (3, .int x3)] [])
    {k72 : Int32 → Int32 → Int32 → Int32 → Int32 → SI → SJ → Option (SI × SJ)} (hk72 : ∀ (x1 : Int32) (x2 : Int32) (x3 : Int32) (x4 : Int32) (x5 : Int32) (I : SI) (J : SJ), k72 x1 x2 x3 x4 x5 I J = some res → WB p l e (headSpec (Cond.code yR_corners bR_corners 9 none :: gtb) rm_R_corners).room s m args below meth c (MQ below (va_Qv (fun (u : SI × SJ) => u = res) (atW D vwCl (tysR cI cJ cG) A (wsR ad cI cJ cG)) A) args s 0 0 A) D vwCl A 9 (wsR ad cI cJ cG I J) 72 [(0, .ref (ad 0)), (1, .int x1), (2, .int x2), (3, .int x3), (4, .int x4), (5, .int x5)] [])
     (x1 : Int32) (x2 : Int32) (x3 : Int32) (I : SI) (J : SJ) (hm : b_R_corners_7 k7 k72 x1 x2 x3 I J = some res) : WB p l e (headSpec (Cond.code yR_corners bR_corners 9 none :: gtb) rm_R_corners).room s m args below meth c (MQ below (va_Qv (fun (u : SI × SJ) => u = res) (atW D vwCl (tysR cI cJ cG) A (wsR ad cI cJ cG)) A) args s 0 0 A) D vwCl A 9 (wsR ad cI cJ cG I J) 7 [(0, .ref (ad 0)), (1, .int x1), (2, .int x2), (3, .int x3)] [] := by
  obtain ⟨hx, hb, hr, hml, hown, hT, hlk⟩ := X
  intro H locs ls hP hD hS hl
  unfold b_R_corners_7 at hm
  refine lv_iload_n hx hb dR_corners_7 rfl (lv_at hl 3 rfl) ?_
  refine lv_aload_n hx hb dR_corners_8 rfl (lv_at hl 0 rfl) ?_
  refine va_get (D := D) (ci := 6) (v := .int (I 0 0)) (C := RR) (T := TR) (N := 31) hx hb hT inR hown hK hP 0 rfl rfl 0 (by decide) (hT _ wd_535) (fun _ h9 => h9) rfl dR_corners_9 ?_
  refine lv_icmp_ge (tgt := 50) hx hb dR_corners_12 (by decide) (fun c1 => ?_) (fun c1 => ?_)
  · have hm := brp hm c1
    refine lv_aload_n hx hb dR_corners_50 rfl (lv_at hl 0 rfl) ?_
    refine va_get (D := D) (ci := 6) (v := .int (I 0 23)) (C := RR) (T := TR) (N := 31) hx hb hT inR hown hK hP 0 rfl rfl 23 (by decide) (hT _ wd_558) (fun _ h9 => h9) rfl dR_corners_51 ?_
    refine lv_iconst (v := 1) hx hb dR_corners_54 (by decide) ?_
    refine lv_isub hx hb dR_corners_55 ?_
    refine lv_topi (fun v2 ev2 => ?_)
    have hm := nm_to ev2 hm
    refine lv_istore_n (lv' := [(3, .int v2), (0, .ref (ad 0)), (1, .int x1), (2, .int x2)]) hx hb dR_corners_56 rfl hl (by decide) rfl (fun ls hl => ?_)
    refine lv_iconst (v := 1) hx hb dR_corners_57 (by decide) ?_
    refine lv_istore (lv' := [(4, .int 1), (3, .int v2), (0, .ref (ad 0)), (1, .int x1), (2, .int x2)]) hx hb dR_corners_58 hl (by decide) rfl (fun ls hl => ?_)
    refine lv_iload_n hx hb dR_corners_60 rfl (lv_at hl 1 rfl) ?_
    refine lv_if_le (tgt := 68) hx hb dR_corners_61 (by decide) (fun c3 => ?_) (fun c3 => ?_)
    · have hm := brp hm c3
      refine lv_bipush (v := 21) hx hb dR_corners_68 (by decide) ?_
      refine lv_istore (lv' := [(5, .int 21), (4, .int 1), (3, .int v2), (0, .ref (ad 0)), (1, .int x1), (2, .int x2)]) hx hb dR_corners_70 hl (by decide) rfl (fun ls hl => ?_)
      exact hk72 x1 x2 v2 1 21 I J hm _ _ _ hP hD hS (lv_sub hl [3, 4, 5, 2, 1, 0] rfl)
    · have hm := brn hm c3
      refine lv_iconst (v := 0) hx hb dR_corners_64 (by decide) ?_
      refine lv_goto (tgt := 70) hx hb dR_corners_65 (by decide) ?_
      refine lv_istore (lv' := [(5, .int 0), (4, .int 1), (3, .int v2), (0, .ref (ad 0)), (1, .int x1), (2, .int x2)]) hx hb dR_corners_70 hl (by decide) rfl (fun ls hl => ?_)
      exact hk72 x1 x2 v2 1 0 I J hm _ _ _ hP hD hS (lv_sub hl [3, 4, 5, 2, 1, 0] rfl)
  · have hm := brn hm c1
    refine lv_aload_n hx hb dR_corners_15 rfl (lv_at hl 0 rfl) ?_
    refine va_get (D := D) (ci := 6) (v := .ref (ad 12)) (C := RR) (T := TR) (N := 31) hx hb hT inR hown hK hP 0 rfl rfl 21 (by decide) (hT _ wd_556) (fun _ h9 => h9) rfl dR_corners_16 ?_
    refine lv_iload_n hx hb dR_corners_19 rfl (lv_at hl 3 rfl) ?_
    obtain ⟨g4, hm⟩ := gd_to hm
    refine va_iald hx hb hK hP 12 0 rfl rfl g4 dR_corners_20 ?_
    refine lv_topi (fun v5 ev5 => ?_)
    have hm := nm_to ev5 hm
    refine lv_if_ge (tgt := 44) hx hb dR_corners_21 (by decide) (fun c6 => ?_) (fun c6 => ?_)
    · have hm := brp hm c6
      obtain ⟨v7, ev7⟩ : ∃ z : Int32, z = x3 + 1 := ⟨_, rfl⟩
      have hm := nm_to ev7 hm
      refine lv_iinc (v := v7) (lv' := [(3, .int v7), (0, .ref (ad 0)), (1, .int x1), (2, .int x2)]) hx hb dR_corners_44 hl (k := 3) rfl (by rw [ev7]; rfl) (by decide) rfl (fun ls hl => ?_)
      refine lv_goto (tgt := 7) hx hb dR_corners_47 (by decide) ?_
      exact hk7 x1 x2 v7 I J hm _ _ _ hP hD hS (lv_sub hl [1, 2, 3, 0] rfl)
    · have hm := brn hm c6
      refine lv_aload_n hx hb dR_corners_24 rfl (lv_at hl 0 rfl) ?_
      refine va_get (D := D) (ci := 6) (v := .ref (ad 13)) (C := RR) (T := TR) (N := 31) hx hb hT inR hown hK hP 0 rfl rfl 22 (by decide) (hT _ wd_557) (fun _ h9 => h9) rfl dR_corners_25 ?_
      refine lv_aload_n hx hb dR_corners_28 rfl (lv_at hl 0 rfl) ?_
      refine va_get (D := D) (ci := 6) (v := .int (I 0 23)) (C := RR) (T := TR) (N := 31) hx hb hT inR hown hK hP 0 rfl rfl 23 (by decide) (hT _ wd_558) (fun _ h9 => h9) rfl dR_corners_29 ?_
      refine lv_iload_n hx hb dR_corners_32 rfl (lv_at hl 3 rfl) ?_
      obtain ⟨g8, hm⟩ := gd_to hm
      refine va_iast hx hb hK hP hD hS 13 0 rfl rfl g8 dR_corners_33 (fun H locs hP hD hS => ?_)
      obtain ⟨I9, eI9⟩ : ∃ z : SI, z = va_up I 13 (upd (I 13) (I 0 23).toNatClampNeg x3) := ⟨_, rfl⟩
      have hm := nm_to eI9 hm
      have hP := P_eq (ws2 := wsR ad cI cJ cG I9 J) hP (by rw [eI9]; rfl)
      have hD := D_eq (ws2 := wsR ad cI cJ cG I9 J) hD (by rw [eI9]; rfl)
      refine lv_aload_n hx hb dR_corners_34 rfl (lv_at hl 0 rfl) ?_
      refine lv_dup hx hb dR_corners_35 rfl ?_
      refine va_get (D := D) (ci := 6) (v := .int (I9 0 23)) (C := RR) (T := TR) (N := 31) hx hb hT inR hown hK hP 0 rfl rfl 23 (by decide) (hT _ wd_558) (fun _ h9 => h9) rfl dR_corners_36 ?_
      refine lv_iconst (v := 1) hx hb dR_corners_39 (by decide) ?_
      refine lv_iadd hx hb dR_corners_40 ?_
      refine lv_topi (fun v10 ev10 => ?_)
      have hm := nm_to ev10 hm
      refine va_put (D := D) (ci := 6) (v := .int v10) (ty := .int) (C := RR) (T := TR) (N := 31) hx hb hT inR tyR okR nmR hown hK hP hD hS 0 rfl rfl 23 (by decide) (hT _ wd_558) (fun _ h9 => h9) rfl pf_I rfl rfl (Nat.le_of_ble_eq_true rfl) dR_corners_41 (fun H locs hP hD hS => ?_)
      obtain ⟨I11, eI11⟩ : ∃ z : SI, z = va_up I9 0 (upd (I9 0) 23 v10) := ⟨_, rfl⟩
      have hm := nm_to eI11 hm
      have hP := P_eq (ws2 := wsR ad cI cJ cG I11 J) hP (by rw [eI11]; rfl)
      have hD := D_eq (ws2 := wsR ad cI cJ cG I11 J) hD (by rw [eI11]; rfl)
      obtain ⟨v12, ev12⟩ : ∃ z : Int32, z = x3 + 1 := ⟨_, rfl⟩
      have hm := nm_to ev12 hm
      refine lv_iinc (v := v12) (lv' := [(3, .int v12), (0, .ref (ad 0)), (1, .int x1), (2, .int x2)]) hx hb dR_corners_44 hl (k := 3) rfl (by rw [ev12]; rfl) (by decide) rfl (fun ls hl => ?_)
      refine lv_goto (tgt := 7) hx hb dR_corners_47 (by decide) ?_
      exact hk7 x1 x2 v12 I11 J hm _ _ _ hP hD hS (lv_sub hl [1, 2, 3, 0] rfl)
set_option maxHeartbeats 4000000 in
set_option maxRecDepth 100000 in
theorem w_R_corners_72 {p : Program} {l : Launch} {e : Env} {s : State} {m : MethodId} {args : Array Value} {below : List Frame} {meth : Method} {c : Code} {D : va_G} {A : Nat → Prop} {ad : Nat → Nat} {cI cJ cG : ClassId} {res : SI × SJ} (X : Cx p s m args meth c bR_corners none 9 RR) (hK : va_K D vwCl (tysR cI cJ cG) s) (hN : NWs s) (hA : ∀ q, s.heap.size ≤ q → A q)
    {k72 : Int32 → Int32 → Int32 → Int32 → Int32 → SI → SJ → Option (SI × SJ)} (hk72 : ∀ (x1 : Int32) (x2 : Int32) (x3 : Int32) (x4 : Int32) (x5 : Int32) (I : SI) (J : SJ), k72 x1 x2 x3 x4 x5 I J = some res → WB p l e (headSpec (Cond.code yR_corners bR_corners 9 none :: gtb) rm_R_corners).room s m args below meth c (MQ below (va_Qv (fun (u : SI × SJ) => u = res) (atW D vwCl (tysR cI cJ cG) A (wsR ad cI cJ cG)) A) args s 0 0 A) D vwCl A 9 (wsR ad cI cJ cG I J) 72 [(0, .ref (ad 0)), (1, .int x1), (2, .int x2), (3, .int x3), (4, .int x4), (5, .int x5)] [])
    {k117 : Int32 → Int32 → Int32 → Int32 → Int32 → Int32 → SI → SJ → Option (SI × SJ)} (hk117 : ∀ (x1 : Int32) (x2 : Int32) (x3 : Int32) (x4 : Int32) (x5 : Int32) (x6 : Int32) (I : SI) (J : SJ), k117 x1 x2 x3 x4 x5 x6 I J = some res → WB p l e (headSpec (Cond.code yR_corners bR_corners 9 none :: gtb) rm_R_corners).room s m args below meth c (MQ below (va_Qv (fun (u : SI × SJ) => u = res) (atW D vwCl (tysR cI cJ cG) A (wsR ad cI cJ cG)) A) args s 0 0 A) D vwCl A 9 (wsR ad cI cJ cG I J) 117 [(0, .ref (ad 0)), (1, .int x1), (2, .int x2), (3, .int x3), (4, .int x4), (5, .int x5), (6, .int x6)] [])
     (x1 : Int32) (x2 : Int32) (x3 : Int32) (x4 : Int32) (x5 : Int32) (I : SI) (J : SJ) (hm : b_R_corners_72 k72 k117 x1 x2 x3 x4 x5 I J = some res) : WB p l e (headSpec (Cond.code yR_corners bR_corners 9 none :: gtb) rm_R_corners).room s m args below meth c (MQ below (va_Qv (fun (u : SI × SJ) => u = res) (atW D vwCl (tysR cI cJ cG) A (wsR ad cI cJ cG)) A) args s 0 0 A) D vwCl A 9 (wsR ad cI cJ cG I J) 72 [(0, .ref (ad 0)), (1, .int x1), (2, .int x2), (3, .int x3), (4, .int x4), (5, .int x5)] [] := by
  obtain ⟨hx, hb, hr, hml, hown, hT, hlk⟩ := X
  intro H locs ls hP hD hS hl
  unfold b_R_corners_72 at hm
  refine lv_iload hx hb dR_corners_72 (lv_at hl 5 rfl) ?_
  refine lv_bipush (v := 22) hx hb dR_corners_74 (by decide) ?_
  refine lv_icmp_ge (tgt := 255) hx hb dR_corners_76 (by decide) (fun c1 => ?_) (fun c1 => ?_)
  · have hm := brp hm c1
    exact W.vret hx hb hr (fun t ht hW => ⟨⟨(I, J), rfl, Option.some.inj hm, ht ▸ hP, va_K.moved hW.alike hK, hD⟩, hS.F ht⟩) hS.2.2 dR_corners_255 hlk
  · have hm := brn hm c1
    refine lv_iload hx hb dR_corners_79 (lv_at hl 4 rfl) ?_
    refine lv_if_eq (tgt := 255) hx hb dR_corners_81 (by decide) (fun c2 => ?_) (fun c2 => ?_)
    · have hm := brp hm c2
      exact W.vret hx hb hr (fun t ht hW => ⟨⟨(I, J), rfl, Option.some.inj hm, ht ▸ hP, va_K.moved hW.alike hK, hD⟩, hS.F ht⟩) hS.2.2 dR_corners_255 hlk
    · have hm := brn hm c2
      refine lv_iload_n hx hb dR_corners_84 rfl (lv_at hl 3 rfl) ?_
      refine lv_if_le (tgt := 101) hx hb dR_corners_85 (by decide) (fun c3 => ?_) (fun c3 => ?_)
      · have hm := brp hm c3
        refine lv_iload_n hx hb dR_corners_101 rfl (lv_at hl 3 rfl) ?_
        refine lv_iconst (v := 1) hx hb dR_corners_102 (by decide) ?_
        refine lv_icmp_le (tgt := 113) hx hb dR_corners_103 (by decide) (fun c4 => ?_) (fun c4 => ?_)
        · have hm := brp hm c4
          refine lv_bipush (v := 21) hx hb dR_corners_113 (by decide) ?_
          refine lv_istore (lv' := [(6, .int 21), (0, .ref (ad 0)), (1, .int x1), (2, .int x2), (3, .int x3), (4, .int x4), (5, .int x5)]) hx hb dR_corners_115 hl (by decide) rfl (fun ls hl => ?_)
          exact hk117 x1 x2 x3 x4 x5 21 I J hm _ _ _ hP hD hS (lv_sub hl [1, 2, 3, 4, 5, 6, 0] rfl)
        · have hm := brn hm c4
          refine lv_iload hx hb dR_corners_106 (lv_at hl 5 rfl) ?_
          refine lv_iconst (v := 1) hx hb dR_corners_108 (by decide) ?_
          refine lv_iadd hx hb dR_corners_109 ?_
          refine lv_topi (fun v5 ev5 => ?_)
          have hm := nm_to ev5 hm
          refine lv_goto (tgt := 115) hx hb dR_corners_110 (by decide) ?_
          refine lv_istore (lv' := [(6, .int v5), (0, .ref (ad 0)), (1, .int x1), (2, .int x2), (3, .int x3), (4, .int x4), (5, .int x5)]) hx hb dR_corners_115 hl (by decide) rfl (fun ls hl => ?_)
          exact hk117 x1 x2 x3 x4 x5 v5 I J hm _ _ _ hP hD hS (lv_sub hl [1, 2, 3, 4, 5, 6, 0] rfl)
      · have hm := brn hm c3
        refine lv_aload_n hx hb dR_corners_88 rfl (lv_at hl 0 rfl) ?_
        refine va_get (D := D) (ci := 6) (v := .ref (ad 11)) (C := RR) (T := TR) (N := 31) hx hb hT inR hown hK hP 0 rfl rfl 20 (by decide) (hT _ wd_555) (fun _ h9 => h9) rfl dR_corners_89 ?_
        refine lv_iload hx hb dR_corners_92 (lv_at hl 5 rfl) ?_
        obtain ⟨g6, hm⟩ := gd_to hm
        refine va_zald hx hb hK hP 11 2 rfl rfl g6 dR_corners_94 ?_
        refine lv_topi (fun v7 ev7 => ?_)
        have hm := nm_to ev7 hm
        refine lv_if_ne (tgt := 101) hx hb dR_corners_95 (by decide) (fun c8 => ?_) (fun c8 => ?_)
        · have hm := brn hm c8
          refine lv_iload_n hx hb dR_corners_101 rfl (lv_at hl 3 rfl) ?_
          refine lv_iconst (v := 1) hx hb dR_corners_102 (by decide) ?_
          refine lv_icmp_le (tgt := 113) hx hb dR_corners_103 (by decide) (fun c9 => ?_) (fun c9 => ?_)
          · have hm := brp hm c9
            refine lv_bipush (v := 21) hx hb dR_corners_113 (by decide) ?_
            refine lv_istore (lv' := [(6, .int 21), (0, .ref (ad 0)), (1, .int x1), (2, .int x2), (3, .int x3), (4, .int x4), (5, .int x5)]) hx hb dR_corners_115 hl (by decide) rfl (fun ls hl => ?_)
            exact hk117 x1 x2 x3 x4 x5 21 I J hm _ _ _ hP hD hS (lv_sub hl [1, 2, 3, 4, 5, 6, 0] rfl)
          · have hm := brn hm c9
            refine lv_iload hx hb dR_corners_106 (lv_at hl 5 rfl) ?_
            refine lv_iconst (v := 1) hx hb dR_corners_108 (by decide) ?_
            refine lv_iadd hx hb dR_corners_109 ?_
            refine lv_topi (fun v10 ev10 => ?_)
            have hm := nm_to ev10 hm
            refine lv_goto (tgt := 115) hx hb dR_corners_110 (by decide) ?_
            refine lv_istore (lv' := [(6, .int v10), (0, .ref (ad 0)), (1, .int x1), (2, .int x2), (3, .int x3), (4, .int x4), (5, .int x5)]) hx hb dR_corners_115 hl (by decide) rfl (fun ls hl => ?_)
            exact hk117 x1 x2 x3 x4 x5 v10 I J hm _ _ _ hP hD hS (lv_sub hl [1, 2, 3, 4, 5, 6, 0] rfl)
        · have hm := brp hm c8
          refine lv_goto (tgt := 249) hx hb dR_corners_98 (by decide) ?_
          obtain ⟨v11, ev11⟩ : ∃ z : Int32, z = x5 + 1 := ⟨_, rfl⟩
          have hm := nm_to ev11 hm
          refine lv_iinc (v := v11) (lv' := [(5, .int v11), (0, .ref (ad 0)), (1, .int x1), (2, .int x2), (3, .int x3), (4, .int x4)]) hx hb dR_corners_249 hl (k := 5) rfl (by rw [ev11]; rfl) (by decide) rfl (fun ls hl => ?_)
          refine lv_goto (tgt := 72) hx hb dR_corners_252 (by decide) ?_
          exact hk72 x1 x2 x3 x4 v11 I J hm _ _ _ hP hD hS (lv_sub hl [1, 2, 3, 4, 5, 0] rfl)
set_option maxHeartbeats 4000000 in
set_option maxRecDepth 100000 in
theorem w_R_corners_117 {p : Program} {l : Launch} {e : Env} {s : State} {m : MethodId} {args : Array Value} {below : List Frame} {meth : Method} {c : Code} {D : va_G} {A : Nat → Prop} {ad : Nat → Nat} {cI cJ cG : ClassId} {res : SI × SJ} (X : Cx p s m args meth c bR_corners none 9 RR) (hK : va_K D vwCl (tysR cI cJ cG) s) (hN : NWs s) (hA : ∀ q, s.heap.size ≤ q → A q)
    {k72 : Int32 → Int32 → Int32 → Int32 → Int32 → SI → SJ → Option (SI × SJ)} (hk72 : ∀ (x1 : Int32) (x2 : Int32) (x3 : Int32) (x4 : Int32) (x5 : Int32) (I : SI) (J : SJ), k72 x1 x2 x3 x4 x5 I J = some res → WB p l e (headSpec (Cond.code yR_corners bR_corners 9 none :: gtb) rm_R_corners).room s m args below meth c (MQ below (va_Qv (fun (u : SI × SJ) => u = res) (atW D vwCl (tysR cI cJ cG) A (wsR ad cI cJ cG)) A) args s 0 0 A) D vwCl A 9 (wsR ad cI cJ cG I J) 72 [(0, .ref (ad 0)), (1, .int x1), (2, .int x2), (3, .int x3), (4, .int x4), (5, .int x5)] [])
    {k117 : Int32 → Int32 → Int32 → Int32 → Int32 → Int32 → SI → SJ → Option (SI × SJ)} (hk117 : ∀ (x1 : Int32) (x2 : Int32) (x3 : Int32) (x4 : Int32) (x5 : Int32) (x6 : Int32) (I : SI) (J : SJ), k117 x1 x2 x3 x4 x5 x6 I J = some res → WB p l e (headSpec (Cond.code yR_corners bR_corners 9 none :: gtb) rm_R_corners).room s m args below meth c (MQ below (va_Qv (fun (u : SI × SJ) => u = res) (atW D vwCl (tysR cI cJ cG) A (wsR ad cI cJ cG)) A) args s 0 0 A) D vwCl A 9 (wsR ad cI cJ cG I J) 117 [(0, .ref (ad 0)), (1, .int x1), (2, .int x2), (3, .int x3), (4, .int x4), (5, .int x5), (6, .int x6)] [])
    {k163 : Int32 → Int32 → Int32 → Int32 → Int32 → Int32 → Int32 → SI → SJ → Option (SI × SJ)} (hk163 : ∀ (x1 : Int32) (x2 : Int32) (x3 : Int32) (x4 : Int32) (x5 : Int32) (x6 : Int32) (x7 : Int32) (I : SI) (J : SJ), k163 x1 x2 x3 x4 x5 x6 x7 I J = some res → WB p l e (headSpec (Cond.code yR_corners bR_corners 9 none :: gtb) rm_R_corners).room s m args below meth c (MQ below (va_Qv (fun (u : SI × SJ) => u = res) (atW D vwCl (tysR cI cJ cG) A (wsR ad cI cJ cG)) A) args s 0 0 A) D vwCl A 9 (wsR ad cI cJ cG I J) 163 [(0, .ref (ad 0)), (1, .int x1), (2, .int x2), (3, .int x3), (4, .int x4), (5, .int x5), (6, .int x6), (7, .int x7)] [])
     (x1 : Int32) (x2 : Int32) (x3 : Int32) (x4 : Int32) (x5 : Int32) (x6 : Int32) (I : SI) (J : SJ) (hm : b_R_corners_117 k72 k117 k163 x1 x2 x3 x4 x5 x6 I J = some res) : WB p l e (headSpec (Cond.code yR_corners bR_corners 9 none :: gtb) rm_R_corners).room s m args below meth c (MQ below (va_Qv (fun (u : SI × SJ) => u = res) (atW D vwCl (tysR cI cJ cG) A (wsR ad cI cJ cG)) A) args s 0 0 A) D vwCl A 9 (wsR ad cI cJ cG I J) 117 [(0, .ref (ad 0)), (1, .int x1), (2, .int x2), (3, .int x3), (4, .int x4), (5, .int x5), (6, .int x6)] [] := by
  obtain ⟨hx, hb, hr, hml, hown, hT, hlk⟩ := X
  intro H locs ls hP hD hS hl
  unfold b_R_corners_117 at hm
  refine lv_iload hx hb dR_corners_117 (lv_at hl 6 rfl) ?_
  refine lv_bipush (v := 22) hx hb dR_corners_119 (by decide) ?_
  refine lv_icmp_ge (tgt := 249) hx hb dR_corners_121 (by decide) (fun c1 => ?_) (fun c1 => ?_)
  · have hm := brp hm c1
    obtain ⟨v2, ev2⟩ : ∃ z : Int32, z = x5 + 1 := ⟨_, rfl⟩
    have hm := nm_to ev2 hm
    refine lv_iinc (v := v2) (lv' := [(5, .int v2), (0, .ref (ad 0)), (1, .int x1), (2, .int x2), (3, .int x3), (4, .int x4), (6, .int x6)]) hx hb dR_corners_249 hl (k := 5) rfl (by rw [ev2]; rfl) (by decide) rfl (fun ls hl => ?_)
    refine lv_goto (tgt := 72) hx hb dR_corners_252 (by decide) ?_
    exact hk72 x1 x2 x3 x4 v2 I J hm _ _ _ hP hD hS (lv_sub hl [1, 2, 3, 4, 5, 0] rfl)
  · have hm := brn hm c1
    refine lv_iload hx hb dR_corners_124 (lv_at hl 4 rfl) ?_
    refine lv_if_eq (tgt := 249) hx hb dR_corners_126 (by decide) (fun c3 => ?_) (fun c3 => ?_)
    · have hm := brp hm c3
      obtain ⟨v4, ev4⟩ : ∃ z : Int32, z = x5 + 1 := ⟨_, rfl⟩
      have hm := nm_to ev4 hm
      refine lv_iinc (v := v4) (lv' := [(5, .int v4), (0, .ref (ad 0)), (1, .int x1), (2, .int x2), (3, .int x3), (4, .int x4), (6, .int x6)]) hx hb dR_corners_249 hl (k := 5) rfl (by rw [ev4]; rfl) (by decide) rfl (fun ls hl => ?_)
      refine lv_goto (tgt := 72) hx hb dR_corners_252 (by decide) ?_
      exact hk72 x1 x2 x3 x4 v4 I J hm _ _ _ hP hD hS (lv_sub hl [1, 2, 3, 4, 5, 0] rfl)
    · have hm := brn hm c3
      refine lv_iload_n hx hb dR_corners_129 rfl (lv_at hl 3 rfl) ?_
      refine lv_iconst (v := 1) hx hb dR_corners_130 (by decide) ?_
      refine lv_icmp_le (tgt := 147) hx hb dR_corners_131 (by decide) (fun c5 => ?_) (fun c5 => ?_)
      · have hm := brp hm c5
        refine lv_iload_n hx hb dR_corners_147 rfl (lv_at hl 3 rfl) ?_
        refine lv_iconst (v := 2) hx hb dR_corners_148 (by decide) ?_
        refine lv_icmp_le (tgt := 159) hx hb dR_corners_149 (by decide) (fun c6 => ?_) (fun c6 => ?_)
        · have hm := brp hm c6
          refine lv_bipush (v := 21) hx hb dR_corners_159 (by decide) ?_
          refine lv_istore (lv' := [(7, .int 21), (0, .ref (ad 0)), (1, .int x1), (2, .int x2), (3, .int x3), (4, .int x4), (5, .int x5), (6, .int x6)]) hx hb dR_corners_161 hl (by decide) rfl (fun ls hl => ?_)
          exact hk163 x1 x2 x3 x4 x5 x6 21 I J hm _ _ _ hP hD hS (lv_sub hl [1, 2, 3, 4, 5, 6, 7, 0] rfl)
        · have hm := brn hm c6
          refine lv_iload hx hb dR_corners_152 (lv_at hl 6 rfl) ?_
          refine lv_iconst (v := 1) hx hb dR_corners_154 (by decide) ?_
          refine lv_iadd hx hb dR_corners_155 ?_
          refine lv_topi (fun v7 ev7 => ?_)
          have hm := nm_to ev7 hm
          refine lv_goto (tgt := 161) hx hb dR_corners_156 (by decide) ?_
          refine lv_istore (lv' := [(7, .int v7), (0, .ref (ad 0)), (1, .int x1), (2, .int x2), (3, .int x3), (4, .int x4), (5, .int x5), (6, .int x6)]) hx hb dR_corners_161 hl (by decide) rfl (fun ls hl => ?_)
          exact hk163 x1 x2 x3 x4 x5 x6 v7 I J hm _ _ _ hP hD hS (lv_sub hl [1, 2, 3, 4, 5, 6, 7, 0] rfl)
      · have hm := brn hm c5
        refine lv_aload_n hx hb dR_corners_134 rfl (lv_at hl 0 rfl) ?_
        refine va_get (D := D) (ci := 6) (v := .ref (ad 11)) (C := RR) (T := TR) (N := 31) hx hb hT inR hown hK hP 0 rfl rfl 20 (by decide) (hT _ wd_555) (fun _ h9 => h9) rfl dR_corners_135 ?_
        refine lv_iload hx hb dR_corners_138 (lv_at hl 6 rfl) ?_
        obtain ⟨g8, hm⟩ := gd_to hm
        refine va_zald hx hb hK hP 11 2 rfl rfl g8 dR_corners_140 ?_
        refine lv_topi (fun v9 ev9 => ?_)
        have hm := nm_to ev9 hm
        refine lv_if_ne (tgt := 147) hx hb dR_corners_141 (by decide) (fun c10 => ?_) (fun c10 => ?_)
        · have hm := brn hm c10
          refine lv_iload_n hx hb dR_corners_147 rfl (lv_at hl 3 rfl) ?_
          refine lv_iconst (v := 2) hx hb dR_corners_148 (by decide) ?_
          refine lv_icmp_le (tgt := 159) hx hb dR_corners_149 (by decide) (fun c11 => ?_) (fun c11 => ?_)
          · have hm := brp hm c11
            refine lv_bipush (v := 21) hx hb dR_corners_159 (by decide) ?_
            refine lv_istore (lv' := [(7, .int 21), (0, .ref (ad 0)), (1, .int x1), (2, .int x2), (3, .int x3), (4, .int x4), (5, .int x5), (6, .int x6)]) hx hb dR_corners_161 hl (by decide) rfl (fun ls hl => ?_)
            exact hk163 x1 x2 x3 x4 x5 x6 21 I J hm _ _ _ hP hD hS (lv_sub hl [1, 2, 3, 4, 5, 6, 7, 0] rfl)
          · have hm := brn hm c11
            refine lv_iload hx hb dR_corners_152 (lv_at hl 6 rfl) ?_
            refine lv_iconst (v := 1) hx hb dR_corners_154 (by decide) ?_
            refine lv_iadd hx hb dR_corners_155 ?_
            refine lv_topi (fun v12 ev12 => ?_)
            have hm := nm_to ev12 hm
            refine lv_goto (tgt := 161) hx hb dR_corners_156 (by decide) ?_
            refine lv_istore (lv' := [(7, .int v12), (0, .ref (ad 0)), (1, .int x1), (2, .int x2), (3, .int x3), (4, .int x4), (5, .int x5), (6, .int x6)]) hx hb dR_corners_161 hl (by decide) rfl (fun ls hl => ?_)
            exact hk163 x1 x2 x3 x4 x5 x6 v12 I J hm _ _ _ hP hD hS (lv_sub hl [1, 2, 3, 4, 5, 6, 7, 0] rfl)
        · have hm := brp hm c10
          refine lv_goto (tgt := 243) hx hb dR_corners_144 (by decide) ?_
          obtain ⟨v13, ev13⟩ : ∃ z : Int32, z = x6 + 1 := ⟨_, rfl⟩
          have hm := nm_to ev13 hm
          refine lv_iinc (v := v13) (lv' := [(6, .int v13), (0, .ref (ad 0)), (1, .int x1), (2, .int x2), (3, .int x3), (4, .int x4), (5, .int x5)]) hx hb dR_corners_243 hl (k := 6) rfl (by rw [ev13]; rfl) (by decide) rfl (fun ls hl => ?_)
          refine lv_goto (tgt := 117) hx hb dR_corners_246 (by decide) ?_
          exact hk117 x1 x2 x3 x4 x5 v13 I J hm _ _ _ hP hD hS (lv_sub hl [1, 2, 3, 4, 5, 6, 0] rfl)
set_option maxHeartbeats 4000000 in
set_option maxRecDepth 100000 in
theorem w_R_corners_163 {p : Program} {l : Launch} {e : Env} {s : State} {m : MethodId} {args : Array Value} {below : List Frame} {meth : Method} {c : Code} {D : va_G} {A : Nat → Prop} {ad : Nat → Nat} {cI cJ cG : ClassId} {res : SI × SJ} (X : Cx p s m args meth c bR_corners none 9 RR) (hK : va_K D vwCl (tysR cI cJ cG) s) (hN : NWs s) (hA : ∀ q, s.heap.size ≤ q → A q)
    {k117 : Int32 → Int32 → Int32 → Int32 → Int32 → Int32 → SI → SJ → Option (SI × SJ)} (hk117 : ∀ (x1 : Int32) (x2 : Int32) (x3 : Int32) (x4 : Int32) (x5 : Int32) (x6 : Int32) (I : SI) (J : SJ), k117 x1 x2 x3 x4 x5 x6 I J = some res → WB p l e (headSpec (Cond.code yR_corners bR_corners 9 none :: gtb) rm_R_corners).room s m args below meth c (MQ below (va_Qv (fun (u : SI × SJ) => u = res) (atW D vwCl (tysR cI cJ cG) A (wsR ad cI cJ cG)) A) args s 0 0 A) D vwCl A 9 (wsR ad cI cJ cG I J) 117 [(0, .ref (ad 0)), (1, .int x1), (2, .int x2), (3, .int x3), (4, .int x4), (5, .int x5), (6, .int x6)] [])
    {k163 : Int32 → Int32 → Int32 → Int32 → Int32 → Int32 → Int32 → SI → SJ → Option (SI × SJ)} (hk163 : ∀ (x1 : Int32) (x2 : Int32) (x3 : Int32) (x4 : Int32) (x5 : Int32) (x6 : Int32) (x7 : Int32) (I : SI) (J : SJ), k163 x1 x2 x3 x4 x5 x6 x7 I J = some res → WB p l e (headSpec (Cond.code yR_corners bR_corners 9 none :: gtb) rm_R_corners).room s m args below meth c (MQ below (va_Qv (fun (u : SI × SJ) => u = res) (atW D vwCl (tysR cI cJ cG) A (wsR ad cI cJ cG)) A) args s 0 0 A) D vwCl A 9 (wsR ad cI cJ cG I J) 163 [(0, .ref (ad 0)), (1, .int x1), (2, .int x2), (3, .int x3), (4, .int x4), (5, .int x5), (6, .int x6), (7, .int x7)] [])
    {k190 : Int32 → Int32 → Int32 → Int32 → Int32 → Int32 → SI → SJ → Option (SI × SJ)} (hk190 : ∀ (x1 : Int32) (x2 : Int32) (x3 : Int32) (x5 : Int32) (x6 : Int32) (x7 : Int32) (I : SI) (J : SJ), k190 x1 x2 x3 x5 x6 x7 I J = some res → WB p l e (headSpec (Cond.code yR_corners bR_corners 9 none :: gtb) rm_R_corners).room s m args below meth c (MQ below (va_Qv (fun (u : SI × SJ) => u = res) (atW D vwCl (tysR cI cJ cG) A (wsR ad cI cJ cG)) A) args s 0 0 A) D vwCl A 9 (wsR ad cI cJ cG I J) 190 [(0, .ref (ad 0)), (1, .int x1), (2, .int x2), (3, .int x3), (5, .int x5), (6, .int x6), (7, .int x7)] [])
     (x1 : Int32) (x2 : Int32) (x3 : Int32) (x4 : Int32) (x5 : Int32) (x6 : Int32) (x7 : Int32) (I : SI) (J : SJ) (hm : b_R_corners_163 k117 k163 k190 x1 x2 x3 x4 x5 x6 x7 I J = some res) : WB p l e (headSpec (Cond.code yR_corners bR_corners 9 none :: gtb) rm_R_corners).room s m args below meth c (MQ below (va_Qv (fun (u : SI × SJ) => u = res) (atW D vwCl (tysR cI cJ cG) A (wsR ad cI cJ cG)) A) args s 0 0 A) D vwCl A 9 (wsR ad cI cJ cG I J) 163 [(0, .ref (ad 0)), (1, .int x1), (2, .int x2), (3, .int x3), (4, .int x4), (5, .int x5), (6, .int x6), (7, .int x7)] [] := by
  obtain ⟨hx, hb, hr, hml, hown, hT, hlk⟩ := X
  intro H locs ls hP hD hS hl
  unfold b_R_corners_163 at hm
  refine lv_iload hx hb dR_corners_163 (lv_at hl 7 rfl) ?_
  refine lv_bipush (v := 22) hx hb dR_corners_165 (by decide) ?_
  refine lv_icmp_ge (tgt := 243) hx hb dR_corners_167 (by decide) (fun c1 => ?_) (fun c1 => ?_)
  · have hm := brp hm c1
    obtain ⟨v2, ev2⟩ : ∃ z : Int32, z = x6 + 1 := ⟨_, rfl⟩
    have hm := nm_to ev2 hm
    refine lv_iinc (v := v2) (lv' := [(6, .int v2), (0, .ref (ad 0)), (1, .int x1), (2, .int x2), (3, .int x3), (4, .int x4), (5, .int x5), (7, .int x7)]) hx hb dR_corners_243 hl (k := 6) rfl (by rw [ev2]; rfl) (by decide) rfl (fun ls hl => ?_)
    refine lv_goto (tgt := 117) hx hb dR_corners_246 (by decide) ?_
    exact hk117 x1 x2 x3 x4 x5 v2 I J hm _ _ _ hP hD hS (lv_sub hl [1, 2, 3, 4, 5, 6, 0] rfl)
  · have hm := brn hm c1
    refine lv_iload hx hb dR_corners_170 (lv_at hl 4 rfl) ?_
    refine lv_if_eq (tgt := 243) hx hb dR_corners_172 (by decide) (fun c3 => ?_) (fun c3 => ?_)
    · have hm := brp hm c3
      obtain ⟨v4, ev4⟩ : ∃ z : Int32, z = x6 + 1 := ⟨_, rfl⟩
      have hm := nm_to ev4 hm
      refine lv_iinc (v := v4) (lv' := [(6, .int v4), (0, .ref (ad 0)), (1, .int x1), (2, .int x2), (3, .int x3), (4, .int x4), (5, .int x5), (7, .int x7)]) hx hb dR_corners_243 hl (k := 6) rfl (by rw [ev4]; rfl) (by decide) rfl (fun ls hl => ?_)
      refine lv_goto (tgt := 117) hx hb dR_corners_246 (by decide) ?_
      exact hk117 x1 x2 x3 x4 x5 v4 I J hm _ _ _ hP hD hS (lv_sub hl [1, 2, 3, 4, 5, 6, 0] rfl)
    · have hm := brn hm c3
      refine lv_iload_n hx hb dR_corners_175 rfl (lv_at hl 3 rfl) ?_
      refine lv_iconst (v := 2) hx hb dR_corners_176 (by decide) ?_
      refine lv_icmp_le (tgt := 190) hx hb dR_corners_177 (by decide) (fun c5 => ?_) (fun c5 => ?_)
      · have hm := brp hm c5
        exact hk190 x1 x2 x3 x5 x6 x7 I J hm _ _ _ hP hD hS (lv_sub hl [0, 1, 2, 3, 5, 6, 7] rfl)
      · have hm := brn hm c5
        refine lv_aload_n hx hb dR_corners_180 rfl (lv_at hl 0 rfl) ?_
        refine va_get (D := D) (ci := 6) (v := .ref (ad 11)) (C := RR) (T := TR) (N := 31) hx hb hT inR hown hK hP 0 rfl rfl 20 (by decide) (hT _ wd_555) (fun _ h9 => h9) rfl dR_corners_181 ?_
        refine lv_iload hx hb dR_corners_184 (lv_at hl 7 rfl) ?_
        obtain ⟨g6, hm⟩ := gd_to hm
        refine va_zald hx hb hK hP 11 2 rfl rfl g6 dR_corners_186 ?_
        refine lv_topi (fun v7 ev7 => ?_)
        have hm := nm_to ev7 hm
        refine lv_if_eq (tgt := 237) hx hb dR_corners_187 (by decide) (fun c8 => ?_) (fun c8 => ?_)
        · have hm := brp hm c8
          obtain ⟨v9, ev9⟩ : ∃ z : Int32, z = x7 + 1 := ⟨_, rfl⟩
          have hm := nm_to ev9 hm
          refine lv_iinc (v := v9) (lv' := [(7, .int v9), (0, .ref (ad 0)), (1, .int x1), (2, .int x2), (3, .int x3), (4, .int x4), (5, .int x5), (6, .int x6)]) hx hb dR_corners_237 hl (k := 7) rfl (by rw [ev9]; rfl) (by decide) rfl (fun ls hl => ?_)
          refine lv_goto (tgt := 163) hx hb dR_corners_240 (by decide) ?_
          exact hk163 x1 x2 x3 x4 x5 x6 v9 I J hm _ _ _ hP hD hS (lv_sub hl [1, 2, 3, 4, 5, 6, 7, 0] rfl)
        · have hm := brn hm c8
          exact hk190 x1 x2 x3 x5 x6 x7 I J hm _ _ _ hP hD hS (lv_sub hl [0, 1, 2, 3, 5, 6, 7] rfl)
set_option maxHeartbeats 4000000 in
set_option maxRecDepth 100000 in
theorem w_R_corners_190 {p : Program} {l : Launch} {e : Env} {s : State} {m : MethodId} {args : Array Value} {below : List Frame} {meth : Method} {c : Code} {D : va_G} {A : Nat → Prop} {ad : Nat → Nat} {cI cJ cG : ClassId} {res : SI × SJ} (X : Cx p s m args meth c bR_corners none 9 RR) (hK : va_K D vwCl (tysR cI cJ cG) s) (hN : NWs s) (hA : ∀ q, s.heap.size ≤ q → A q)
    {k163 : Int32 → Int32 → Int32 → Int32 → Int32 → Int32 → Int32 → SI → SJ → Option (SI × SJ)} (hk163 : ∀ (x1 : Int32) (x2 : Int32) (x3 : Int32) (x4 : Int32) (x5 : Int32) (x6 : Int32) (x7 : Int32) (I : SI) (J : SJ), k163 x1 x2 x3 x4 x5 x6 x7 I J = some res → WB p l e (headSpec (Cond.code yR_corners bR_corners 9 none :: gtb) rm_R_corners).room s m args below meth c (MQ below (va_Qv (fun (u : SI × SJ) => u = res) (atW D vwCl (tysR cI cJ cG) A (wsR ad cI cJ cG)) A) args s 0 0 A) D vwCl A 9 (wsR ad cI cJ cG I J) 163 [(0, .ref (ad 0)), (1, .int x1), (2, .int x2), (3, .int x3), (4, .int x4), (5, .int x5), (6, .int x6), (7, .int x7)] [])
     (x1 : Int32) (x2 : Int32) (x3 : Int32) (x5 : Int32) (x6 : Int32) (x7 : Int32) (I : SI) (J : SJ) (hm : b_R_corners_190 k163 x1 x2 x3 x5 x6 x7 I J = some res) : WB p l e (headSpec (Cond.code yR_corners bR_corners 9 none :: gtb) rm_R_corners).room s m args below meth c (MQ below (va_Qv (fun (u : SI × SJ) => u = res) (atW D vwCl (tysR cI cJ cG) A (wsR ad cI cJ cG)) A) args s 0 0 A) D vwCl A 9 (wsR ad cI cJ cG I J) 190 [(0, .ref (ad 0)), (1, .int x1), (2, .int x2), (3, .int x3), (5, .int x5), (6, .int x6), (7, .int x7)] [] := by
  obtain ⟨hx, hb, hr, hml, hown, hT, hlk⟩ := X
  intro H locs ls hP hD hS hl
  unfold b_R_corners_190 at hm
  refine lv_aload_n hx hb dR_corners_190 rfl (lv_at hl 0 rfl) ?_
  refine va_get (D := D) (ci := 6) (v := .ref (ad 16)) (C := RR) (T := TR) (N := 31) hx hb hT inR hown hK hP 0 rfl rfl 27 (by decide) (hT _ wd_562) (fun _ h9 => h9) rfl dR_corners_191 ?_
  refine lv_iconst (v := 0) hx hb dR_corners_194 (by decide) ?_
  refine lv_iload hx hb dR_corners_195 (lv_at hl 4 rfl) ?_
  obtain ⟨g1, hm⟩ := gd_to hm
  refine va_iast hx hb hK hP hD hS 16 0 rfl rfl g1 dR_corners_197 (fun H locs hP hD hS => ?_)
  obtain ⟨I2, eI2⟩ : ∃ z : SI, z = va_up I 16 (upd (I 16) (Int32.toNatClampNeg 0) x5) := ⟨_, rfl⟩
  have hm := nm_to eI2 hm
  have hP := P_eq (ws2 := wsR ad cI cJ cG I2 J) hP (by rw [eI2]; rfl)
  have hD := D_eq (ws2 := wsR ad cI cJ cG I2 J) hD (by rw [eI2]; rfl)
  refine lv_aload_n hx hb dR_corners_198 rfl (lv_at hl 0 rfl) ?_
  refine va_get (D := D) (ci := 6) (v := .ref (ad 16)) (C := RR) (T := TR) (N := 31) hx hb hT inR hown hK hP 0 rfl rfl 27 (by decide) (hT _ wd_562) (fun _ h9 => h9) rfl dR_corners_199 ?_
  refine lv_iconst (v := 1) hx hb dR_corners_202 (by decide) ?_
  refine lv_iload hx hb dR_corners_203 (lv_at hl 5 rfl) ?_
  obtain ⟨g3, hm⟩ := gd_to hm
  refine va_iast hx hb hK hP hD hS 16 0 rfl rfl g3 dR_corners_205 (fun H locs hP hD hS => ?_)
  obtain ⟨I4, eI4⟩ : ∃ z : SI, z = va_up I2 16 (upd (I2 16) (Int32.toNatClampNeg 1) x6) := ⟨_, rfl⟩
  have hm := nm_to eI4 hm
  have hP := P_eq (ws2 := wsR ad cI cJ cG I4 J) hP (by rw [eI4]; rfl)
  have hD := D_eq (ws2 := wsR ad cI cJ cG I4 J) hD (by rw [eI4]; rfl)
  refine lv_aload_n hx hb dR_corners_206 rfl (lv_at hl 0 rfl) ?_
  refine va_get (D := D) (ci := 6) (v := .ref (ad 16)) (C := RR) (T := TR) (N := 31) hx hb hT inR hown hK hP 0 rfl rfl 27 (by decide) (hT _ wd_562) (fun _ h9 => h9) rfl dR_corners_207 ?_
  refine lv_iconst (v := 2) hx hb dR_corners_210 (by decide) ?_
  refine lv_iload hx hb dR_corners_211 (lv_at hl 6 rfl) ?_
  obtain ⟨g5, hm⟩ := gd_to hm
  refine va_iast hx hb hK hP hD hS 16 0 rfl rfl g5 dR_corners_213 (fun H locs hP hD hS => ?_)
  obtain ⟨I6, eI6⟩ : ∃ z : SI, z = va_up I4 16 (upd (I4 16) (Int32.toNatClampNeg 2) x7) := ⟨_, rfl⟩
  have hm := nm_to eI6 hm
  have hP := P_eq (ws2 := wsR ad cI cJ cG I6 J) hP (by rw [eI6]; rfl)
  have hD := D_eq (ws2 := wsR ad cI cJ cG I6 J) hD (by rw [eI6]; rfl)
  refine lv_aload_n hx hb dR_corners_214 rfl (lv_at hl 0 rfl) ?_
  refine lv_iload_n hx hb dR_corners_215 rfl (lv_at hl 1 rfl) ?_
  obtain ⟨r7, I8, J9, hc10, hm⟩ := cl3_to hm
  refine pst_i (wf := wsR ad cI cJ cG) hD hS hA (va_runV (As := [.int x1]) (rest := []) ⟨hx, hb, hml, hown, hT⟩ (c_R_look l D ad cI cJ cG _ x1 I6 J _ hc10) (cwV 1 hT (gV wd_689 wd_691 wd_38 wd_57 wd_692) rfl rfl rfl (by decide +kernel) ⟨Nat.le_of_ble_eq_true rfl, Nat.le_of_ble_eq_true rfl⟩) ⟨preW_fb, va_recv hK hP (ci := 6) (q0 := 0) rfl rfl, preW_at hP hK hN hD⟩ rfl rfl hl.1 rfl (lv_room (Nat.le_of_ble_eq_true rfl)) dR_corners_216 ⟨Nat.zero_le _, Nat.zero_le _⟩) (fun H locs hP hD hS => ?_)
  refine lv_istore (lv' := [(8, .int r7), (0, .ref (ad 0)), (1, .int x1), (2, .int x2), (3, .int x3), (5, .int x5), (6, .int x6), (7, .int x7)]) hx hb dR_corners_219 hl (by decide) rfl (fun ls hl => ?_)
  refine lv_iload hx hb dR_corners_221 (lv_at hl 0 rfl) ?_
  refine lv_if_eq (tgt := 230) hx hb dR_corners_223 (by decide) (fun c11 => ?_) (fun c11 => ?_)
  · have hm := brp hm c11
    refine lv_iconst (v := 1) hx hb dR_corners_230 (by decide) ?_
    refine lv_goto (tgt := 235) hx hb dR_corners_231 (by decide) ?_
    refine lv_istore (lv' := [(4, .int 1), (8, .int r7), (0, .ref (ad 0)), (1, .int x1), (2, .int x2), (3, .int x3), (5, .int x5), (6, .int x6), (7, .int x7)]) hx hb dR_corners_235 hl (by decide) rfl (fun ls hl => ?_)
    obtain ⟨v12, ev12⟩ : ∃ z : Int32, z = x7 + 1 := ⟨_, rfl⟩
    have hm := nm_to ev12 hm
    refine lv_iinc (v := v12) (lv' := [(7, .int v12), (4, .int 1), (8, .int r7), (0, .ref (ad 0)), (1, .int x1), (2, .int x2), (3, .int x3), (5, .int x5), (6, .int x6)]) hx hb dR_corners_237 hl (k := 8) rfl (by rw [ev12]; rfl) (by decide) rfl (fun ls hl => ?_)
    refine lv_goto (tgt := 163) hx hb dR_corners_240 (by decide) ?_
    exact hk163 x1 x2 x3 1 x5 x6 v12 I8 J9 hm _ _ _ hP hD hS (lv_sub hl [3, 4, 5, 6, 1, 7, 8, 0] rfl)
  · have hm := brn hm c11
    refine lv_iload_n hx hb dR_corners_226 rfl (lv_at hl 3 rfl) ?_
    refine lv_if_ne (tgt := 234) hx hb dR_corners_227 (by decide) (fun c13 => ?_) (fun c13 => ?_)
    · have hm := brn hm c13
      refine lv_iconst (v := 0) hx hb dR_corners_234 (by decide) ?_
      refine lv_istore (lv' := [(4, .int 0), (8, .int r7), (0, .ref (ad 0)), (1, .int x1), (2, .int x2), (3, .int x3), (5, .int x5), (6, .int x6), (7, .int x7)]) hx hb dR_corners_235 hl (by decide) rfl (fun ls hl => ?_)
      obtain ⟨v14, ev14⟩ : ∃ z : Int32, z = x7 + 1 := ⟨_, rfl⟩
      have hm := nm_to ev14 hm
      refine lv_iinc (v := v14) (lv' := [(7, .int v14), (4, .int 0), (8, .int r7), (0, .ref (ad 0)), (1, .int x1), (2, .int x2), (3, .int x3), (5, .int x5), (6, .int x6)]) hx hb dR_corners_237 hl (k := 8) rfl (by rw [ev14]; rfl) (by decide) rfl (fun ls hl => ?_)
      refine lv_goto (tgt := 163) hx hb dR_corners_240 (by decide) ?_
      exact hk163 x1 x2 x3 0 x5 x6 v14 I8 J9 hm _ _ _ hP hD hS (lv_sub hl [3, 4, 5, 6, 1, 7, 8, 0] rfl)
    · have hm := brp hm c13
      refine lv_iconst (v := 1) hx hb dR_corners_230 (by decide) ?_
      refine lv_goto (tgt := 235) hx hb dR_corners_231 (by decide) ?_
      refine lv_istore (lv' := [(4, .int 1), (8, .int r7), (0, .ref (ad 0)), (1, .int x1), (2, .int x2), (3, .int x3), (5, .int x5), (6, .int x6), (7, .int x7)]) hx hb dR_corners_235 hl (by decide) rfl (fun ls hl => ?_)
      obtain ⟨v15, ev15⟩ : ∃ z : Int32, z = x7 + 1 := ⟨_, rfl⟩
      have hm := nm_to ev15 hm
      refine lv_iinc (v := v15) (lv' := [(7, .int v15), (4, .int 1), (8, .int r7), (0, .ref (ad 0)), (1, .int x1), (2, .int x2), (3, .int x3), (5, .int x5), (6, .int x6)]) hx hb dR_corners_237 hl (k := 8) rfl (by rw [ev15]; rfl) (by decide) rfl (fun ls hl => ?_)
      refine lv_goto (tgt := 163) hx hb dR_corners_240 (by decide) ?_
      exact hk163 x1 x2 x3 1 x5 x6 v15 I8 J9 hm _ _ _ hP hD hS (lv_sub hl [3, 4, 5, 6, 1, 7, 8, 0] rfl)
set_option maxHeartbeats 4000000 in
set_option maxRecDepth 100000 in
theorem w_R_corners_0 {p : Program} {l : Launch} {e : Env} {s : State} {m : MethodId} {args : Array Value} {below : List Frame} {meth : Method} {c : Code} {D : va_G} {A : Nat → Prop} {ad : Nat → Nat} {cI cJ cG : ClassId} {res : SI × SJ} (X : Cx p s m args meth c bR_corners none 9 RR) (hK : va_K D vwCl (tysR cI cJ cG) s) (hN : NWs s) (hA : ∀ q, s.heap.size ≤ q → A q)
    {k7 : Int32 → Int32 → Int32 → SI → SJ → Option (SI × SJ)} (hk7 : ∀ (x1 : Int32) (x2 : Int32) (x3 : Int32) (I : SI) (J : SJ), k7 x1 x2 x3 I J = some res → WB p l e (headSpec (Cond.code yR_corners bR_corners 9 none :: gtb) rm_R_corners).room s m args below meth c (MQ below (va_Qv (fun (u : SI × SJ) => u = res) (atW D vwCl (tysR cI cJ cG) A (wsR ad cI cJ cG)) A) args s 0 0 A) D vwCl A 9 (wsR ad cI cJ cG I J) 7 [(0, .ref (ad 0)), (1, .int x1), (2, .int x2), (3, .int x3)] [])
     (x1 : Int32) (x2 : Int32) (I : SI) (J : SJ) (hm : b_R_corners_0 k7 x1 x2 I J = some res) : WB p l e (headSpec (Cond.code yR_corners bR_corners 9 none :: gtb) rm_R_corners).room s m args below meth c (MQ below (va_Qv (fun (u : SI × SJ) => u = res) (atW D vwCl (tysR cI cJ cG) A (wsR ad cI cJ cG)) A) args s 0 0 A) D vwCl A 9 (wsR ad cI cJ cG I J) 0 [(0, .ref (ad 0)), (1, .int x1), (2, .int x2)] [] := by
  obtain ⟨hx, hb, hr, hml, hown, hT, hlk⟩ := X
  intro H locs ls hP hD hS hl
  unfold b_R_corners_0 at hm
  refine lv_aload_n hx hb dR_corners_0 rfl (lv_at hl 0 rfl) ?_
  refine lv_iconst (v := 0) hx hb dR_corners_1 (by decide) ?_
  refine va_put (D := D) (ci := 6) (v := .int 0) (ty := .int) (C := RR) (T := TR) (N := 31) hx hb hT inR tyR okR nmR hown hK hP hD hS 0 rfl rfl 23 (by decide) (hT _ wd_558) (fun _ h9 => h9) rfl pf_I rfl rfl (Nat.le_of_ble_eq_true rfl) dR_corners_2 (fun H locs hP hD hS => ?_)
  obtain ⟨I1, eI1⟩ : ∃ z : SI, z = va_up I 0 (upd (I 0) 23 0) := ⟨_, rfl⟩
  have hm := nm_to eI1 hm
  have hP := P_eq (ws2 := wsR ad cI cJ cG I1 J) hP (by rw [eI1]; rfl)
  have hD := D_eq (ws2 := wsR ad cI cJ cG I1 J) hD (by rw [eI1]; rfl)
  refine lv_iconst (v := 0) hx hb dR_corners_5 (by decide) ?_
  refine lv_istore_n (lv' := [(3, .int 0), (0, .ref (ad 0)), (1, .int x1), (2, .int x2)]) hx hb dR_corners_6 rfl hl (by decide) rfl (fun ls hl => ?_)
  exact hk7 x1 x2 0 I1 J hm _ _ _ hP hD hS (lv_sub hl [1, 2, 3, 0] rfl)
set_option maxHeartbeats 4000000 in
theorem gw_R_corners {p : Program} {l : Launch} {e : Env} {s : State} {m : MethodId} {args : Array Value} {below : List Frame} {meth : Method} {c : Code} {D : va_G} {A : Nat → Prop} {ad : Nat → Nat} {cI cJ cG : ClassId} {res : SI × SJ} (X : Cx p s m args meth c bR_corners none 9 RR) (hK : va_K D vwCl (tysR cI cJ cG) s) (hN : NWs s) (hA : ∀ q, s.heap.size ≤ q → A q) : ∀ n : Nat, (∀ (x1 : Int32) (x2 : Int32) (x3 : Int32) (I : SI) (J : SJ), (g_R_corners n).1 x1 x2 x3 I J = some res → WB p l e (headSpec (Cond.code yR_corners bR_corners 9 none :: gtb) rm_R_corners).room s m args below meth c (MQ below (va_Qv (fun (u : SI × SJ) => u = res) (atW D vwCl (tysR cI cJ cG) A (wsR ad cI cJ cG)) A) args s 0 0 A) D vwCl A 9 (wsR ad cI cJ cG I J) 7 [(0, .ref (ad 0)), (1, .int x1), (2, .int x2), (3, .int x3)] []) ∧ (∀ (x1 : Int32) (x2 : Int32) (x3 : Int32) (x4 : Int32) (x5 : Int32) (I : SI) (J : SJ), (g_R_corners n).2.1 x1 x2 x3 x4 x5 I J = some res → WB p l e (headSpec (Cond.code yR_corners bR_corners 9 none :: gtb) rm_R_corners).room s m args below meth c (MQ below (va_Qv (fun (u : SI × SJ) => u = res) (atW D vwCl (tysR cI cJ cG) A (wsR ad cI cJ cG)) A) args s 0 0 A) D vwCl A 9 (wsR ad cI cJ cG I J) 72 [(0, .ref (ad 0)), (1, .int x1), (2, .int x2), (3, .int x3), (4, .int x4), (5, .int x5)] []) ∧ (∀ (x1 : Int32) (x2 : Int32) (x3 : Int32) (x4 : Int32) (x5 : Int32) (x6 : Int32) (I : SI) (J : SJ), (g_R_corners n).2.2.1 x1 x2 x3 x4 x5 x6 I J = some res → WB p l e (headSpec (Cond.code yR_corners bR_corners 9 none :: gtb) rm_R_corners).room s m args below meth c (MQ below (va_Qv (fun (u : SI × SJ) => u = res) (atW D vwCl (tysR cI cJ cG) A (wsR ad cI cJ cG)) A) args s 0 0 A) D vwCl A 9 (wsR ad cI cJ cG I J) 117 [(0, .ref (ad 0)), (1, .int x1), (2, .int x2), (3, .int x3), (4, .int x4), (5, .int x5), (6, .int x6)] []) ∧ (∀ (x1 : Int32) (x2 : Int32) (x3 : Int32) (x4 : Int32) (x5 : Int32) (x6 : Int32) (x7 : Int32) (I : SI) (J : SJ), (g_R_corners n).2.2.2.1 x1 x2 x3 x4 x5 x6 x7 I J = some res → WB p l e (headSpec (Cond.code yR_corners bR_corners 9 none :: gtb) rm_R_corners).room s m args below meth c (MQ below (va_Qv (fun (u : SI × SJ) => u = res) (atW D vwCl (tysR cI cJ cG) A (wsR ad cI cJ cG)) A) args s 0 0 A) D vwCl A 9 (wsR ad cI cJ cG I J) 163 [(0, .ref (ad 0)), (1, .int x1), (2, .int x2), (3, .int x3), (4, .int x4), (5, .int x5), (6, .int x6), (7, .int x7)] []) ∧ (∀ (x1 : Int32) (x2 : Int32) (x3 : Int32) (x5 : Int32) (x6 : Int32) (x7 : Int32) (I : SI) (J : SJ), (g_R_corners n).2.2.2.2 x1 x2 x3 x5 x6 x7 I J = some res → WB p l e (headSpec (Cond.code yR_corners bR_corners 9 none :: gtb) rm_R_corners).room s m args below meth c (MQ below (va_Qv (fun (u : SI × SJ) => u = res) (atW D vwCl (tysR cI cJ cG) A (wsR ad cI cJ cG)) A) args s 0 0 A) D vwCl A 9 (wsR ad cI cJ cG I J) 190 [(0, .ref (ad 0)), (1, .int x1), (2, .int x2), (3, .int x3), (5, .int x5), (6, .int x6), (7, .int x7)] []) := by
  intro n
  induction n with
  | zero => exact ⟨fun _ _ _ _ _ h => (by cases h), fun _ _ _ _ _ _ _ h => (by cases h), fun _ _ _ _ _ _ _ _ h => (by cases h), fun _ _ _ _ _ _ _ _ _ h => (by cases h), fun _ _ _ _ _ _ _ _ h => (by cases h)⟩
  | succ n ih =>
    obtain ⟨ih7, ih72, ih117, ih163, ih190⟩ := ih
    exact ⟨fun x1 x2 x3 I J h => w_R_corners_7 X hK hN hA ih7 ih72 x1 x2 x3 I J h, fun x1 x2 x3 x4 x5 I J h => w_R_corners_72 X hK hN hA ih72 ih117 x1 x2 x3 x4 x5 I J h, fun x1 x2 x3 x4 x5 x6 I J h => w_R_corners_117 X hK hN hA ih72 ih117 ih163 x1 x2 x3 x4 x5 x6 I J h, fun x1 x2 x3 x4 x5 x6 x7 I J h => w_R_corners_163 X hK hN hA ih117 ih163 ih190 x1 x2 x3 x4 x5 x6 x7 I J h, fun x1 x2 x3 x5 x6 x7 I J h => w_R_corners_190 X hK hN hA ih163 x1 x2 x3 x5 x6 x7 I J h⟩
set_option maxHeartbeats 4000000 in
set_option maxRecDepth 100000 in
theorem c_R_corners (l : Launch) (D : va_G) (ad : Nat → Nat) (cI cJ cG : ClassId) (sz : Nat) (x1 : Int32) (x2 : Int32) (I : SI) (J : SJ) (res : SI × SJ) (hm : m_R_corners x1 x2 I J = some res) : Met l yR_corners (Cond.code yR_corners bR_corners 9 none :: gtb) rm_R_corners (va_Pc [.ref (ad 0), .int x1, .int x2] (preW D vwCl (tysR cI cJ cG) (wsR ad cI cJ cG I J) sz)) (va_Qv (fun (u : SI × SJ) => u = res) (atW D vwCl (tysR cI cJ cG) (va_A (wsR ad cI cJ cG I J) sz) (wsR ad cI cJ cG)) (va_A (wsR ad cI cJ cG I J) sz)) 0 0 (va_A (wsR ad cI cJ cG I J) sz) := by
  refine Met.ofW (cc := bR_corners) (maxL := 9) (ret := none) (by decide) rfl ?_
  intro p e s m args below meth c s₁ B hml hv
  obtain ⟨rfl, hsz, hP, hK, hD0, hN⟩ := hv
  subst hsz
  have X : Cx p s m [.ref (ad 0), .int x1, .int x2].toArray meth c bR_corners none 9 RR := ⟨B.exec, B.bytes, B.returns, hml, findClass_of_methodNamed B.named, fun w h => atoms_spec (ws := (Cond.code yR_corners bR_corners 9 none :: gtb)) B.pre w (List.mem_cons_of_mem _ h), B.notSynchronized⟩
  have hl := lv_entry ([.ref (ad 0), .int x1, .int x2]) (n := 9) (Nat.le_of_ble_eq_true rfl)
  rw [lg_entry_eq]
  generalize (lg_sl ([.ref (ad 0), .int x1, .int x2]) ++ List.replicate (9 - (lg_sl ([.ref (ad 0), .int x1, .int x2])).length) Slot.unset).toArray = ls at hl ⊢
  have hl : lv_has ls 9 [(0, .ref (ad 0)), (1, .int x1), (2, .int x2)] := hl
  have hA : ∀ q, s.heap.size ≤ q → va_A (wsR ad cI cJ cG I J) s.heap.size q := fun q h => Or.inr h
  exact w_R_corners_0 X hK hN hA (gw_R_corners X hK hN hA fuel).1 x1 x2 I J hm _ _ _ hP hD0.self va_S.rf hl
end
section
def b_R_countAll_2 (k2 : Int32 → SI → SJ → Option (SI × SJ)) (x1 : Int32) (I : SI) (J : SJ) : Option (SI × SJ) :=
  if 22 ≤ x1 then
    some (I, J)
  else
    cl3 (m_R_isThere x1 I J) fun r2 I3 J4 =>
    gd (vin x1 22) <|
    nm (va_up I3 11 (upd (I3 11) x1.toNatClampNeg (vp_nar .boolean r2))) fun I7 =>
    nm (x1 + 1) fun v8 =>
    k2 v8 I7 J4
def b_R_countAll_0 (k2 : Int32 → SI → SJ → Option (SI × SJ)) (I : SI) (J : SJ) : Option (SI × SJ) :=
  k2 0 I J
def g_R_countAll : Nat → (Int32 → SI → SJ → Option (SI × SJ))
  | 0 => (fun _ _ _ => none)
  | n + 1 => (fun x1 I J => b_R_countAll_2 (g_R_countAll n) x1 I J)
def m_R_countAll (I : SI) (J : SJ) : Option (SI × SJ) := b_R_countAll_0 (g_R_countAll fuel)  I J
def rm_R_countAll : Room := { frames := 1, cells := 0, slots := 0, locals := 21 }
set_option maxHeartbeats 4000000 in
set_option maxRecDepth 100000 in
theorem w_R_countAll_2 {p : Program} {l : Launch} {e : Env} {s : State} {m : MethodId} {args : Array Value} {below : List Frame} {meth : Method} {c : Code} {D : va_G} {A : Nat → Prop} {ad : Nat → Nat} {cI cJ cG : ClassId} {res : SI × SJ} (X : Cx p s m args meth c bR_countAll none 2 RR) (hK : va_K D vwCl (tysR cI cJ cG) s) (hN : NWs s) (hA : ∀ q, s.heap.size ≤ q → A q)
    {k2 : Int32 → SI → SJ → Option (SI × SJ)} (hk2 : ∀ (x1 : Int32) (I : SI) (J : SJ), k2 x1 I J = some res → WB p l e (headSpec (Cond.code yR_countAll bR_countAll 2 none :: gtb) rm_R_countAll).room s m args below meth c (MQ below (va_Qv (fun (u : SI × SJ) => u = res) (atW D vwCl (tysR cI cJ cG) A (wsR ad cI cJ cG)) A) args s 0 0 A) D vwCl A 2 (wsR ad cI cJ cG I J) 2 [(0, .ref (ad 0)), (1, .int x1)] [])
     (x1 : Int32) (I : SI) (J : SJ) (hm : b_R_countAll_2 k2 x1 I J = some res) : WB p l e (headSpec (Cond.code yR_countAll bR_countAll 2 none :: gtb) rm_R_countAll).room s m args below meth c (MQ below (va_Qv (fun (u : SI × SJ) => u = res) (atW D vwCl (tysR cI cJ cG) A (wsR ad cI cJ cG)) A) args s 0 0 A) D vwCl A 2 (wsR ad cI cJ cG I J) 2 [(0, .ref (ad 0)), (1, .int x1)] [] := by
  obtain ⟨hx, hb, hr, hml, hown, hT, hlk⟩ := X
  intro H locs ls hP hD hS hl
  unfold b_R_countAll_2 at hm
  refine lv_iload_n hx hb dR_countAll_2 rfl (lv_at hl 1 rfl) ?_
  refine lv_bipush (v := 22) hx hb dR_countAll_3 (by decide) ?_
  refine lv_icmp_ge (tgt := 25) hx hb dR_countAll_5 (by decide) (fun c1 => ?_) (fun c1 => ?_)
  · have hm := brp hm c1
    exact W.vret hx hb hr (fun t ht hW => ⟨⟨(I, J), rfl, Option.some.inj hm, ht ▸ hP, va_K.moved hW.alike hK, hD⟩, hS.F ht⟩) hS.2.2 dR_countAll_25 hlk
  · have hm := brn hm c1
    refine lv_aload_n hx hb dR_countAll_8 rfl (lv_at hl 0 rfl) ?_
    refine va_get (D := D) (ci := 6) (v := .ref (ad 11)) (C := RR) (T := TR) (N := 31) hx hb hT inR hown hK hP 0 rfl rfl 20 (by decide) (hT _ wd_555) (fun _ h9 => h9) rfl dR_countAll_9 ?_
    refine lv_iload_n hx hb dR_countAll_12 rfl (lv_at hl 1 rfl) ?_
    refine lv_aload_n hx hb dR_countAll_13 rfl (lv_at hl 0 rfl) ?_
    refine lv_iload_n hx hb dR_countAll_14 rfl (lv_at hl 1 rfl) ?_
    obtain ⟨r2, I3, J4, hc5, hm⟩ := cl3_to hm
    refine pst_i (wf := wsR ad cI cJ cG) hD hS hA (va_runV (As := [.int x1]) (rest := [.int x1, .ref (ad 11)]) ⟨hx, hb, hml, hown, hT⟩ (c_R_isThere l D ad cI cJ cG _ x1 I J _ hc5) (cwV 1 hT (gV wd_673 wd_675 wd_34 wd_57 wd_676) rfl rfl rfl (by decide +kernel) ⟨Nat.le_of_ble_eq_true rfl, Nat.le_of_ble_eq_true rfl⟩) ⟨preW_fb, va_recv hK hP (ci := 6) (q0 := 0) rfl rfl, preW_at hP hK hN hD⟩ rfl rfl hl.1 rfl (lv_room (Nat.le_of_ble_eq_true rfl)) dR_countAll_15 ⟨Nat.zero_le _, Nat.zero_le _⟩) (fun H locs hP hD hS => ?_)
    obtain ⟨g6, hm⟩ := gd_to hm
    refine va_zast hx hb hK hP hD hS 11 2 rfl rfl g6 dR_countAll_18 (fun H locs hP hD hS => ?_)
    obtain ⟨I7, eI7⟩ : ∃ z : SI, z = va_up I3 11 (upd (I3 11) x1.toNatClampNeg (vp_nar .boolean r2)) := ⟨_, rfl⟩
    have hm := nm_to eI7 hm
    have hP := P_eq (ws2 := wsR ad cI cJ cG I7 J4) hP (by rw [eI7]; rfl)
    have hD := D_eq (ws2 := wsR ad cI cJ cG I7 J4) hD (by rw [eI7]; rfl)
    obtain ⟨v8, ev8⟩ : ∃ z : Int32, z = x1 + 1 := ⟨_, rfl⟩
    have hm := nm_to ev8 hm
    refine lv_iinc (v := v8) (lv' := [(1, .int v8), (0, .ref (ad 0))]) hx hb dR_countAll_19 hl (k := 1) rfl (by rw [ev8]; rfl) (by decide) rfl (fun ls hl => ?_)
    refine lv_goto (tgt := 2) hx hb dR_countAll_22 (by decide) ?_
    exact hk2 v8 I7 J4 hm _ _ _ hP hD hS (lv_sub hl [1, 0] rfl)
set_option maxHeartbeats 4000000 in
set_option maxRecDepth 100000 in
theorem w_R_countAll_0 {p : Program} {l : Launch} {e : Env} {s : State} {m : MethodId} {args : Array Value} {below : List Frame} {meth : Method} {c : Code} {D : va_G} {A : Nat → Prop} {ad : Nat → Nat} {cI cJ cG : ClassId} {res : SI × SJ} (X : Cx p s m args meth c bR_countAll none 2 RR) (hK : va_K D vwCl (tysR cI cJ cG) s) (hN : NWs s) (hA : ∀ q, s.heap.size ≤ q → A q)
    {k2 : Int32 → SI → SJ → Option (SI × SJ)} (hk2 : ∀ (x1 : Int32) (I : SI) (J : SJ), k2 x1 I J = some res → WB p l e (headSpec (Cond.code yR_countAll bR_countAll 2 none :: gtb) rm_R_countAll).room s m args below meth c (MQ below (va_Qv (fun (u : SI × SJ) => u = res) (atW D vwCl (tysR cI cJ cG) A (wsR ad cI cJ cG)) A) args s 0 0 A) D vwCl A 2 (wsR ad cI cJ cG I J) 2 [(0, .ref (ad 0)), (1, .int x1)] [])
     (I : SI) (J : SJ) (hm : b_R_countAll_0 k2  I J = some res) : WB p l e (headSpec (Cond.code yR_countAll bR_countAll 2 none :: gtb) rm_R_countAll).room s m args below meth c (MQ below (va_Qv (fun (u : SI × SJ) => u = res) (atW D vwCl (tysR cI cJ cG) A (wsR ad cI cJ cG)) A) args s 0 0 A) D vwCl A 2 (wsR ad cI cJ cG I J) 0 [(0, .ref (ad 0))] [] := by
  obtain ⟨hx, hb, hr, hml, hown, hT, hlk⟩ := X
  intro H locs ls hP hD hS hl
  unfold b_R_countAll_0 at hm
  refine lv_iconst (v := 0) hx hb dR_countAll_0 (by decide) ?_
  refine lv_istore_n (lv' := [(1, .int 0), (0, .ref (ad 0))]) hx hb dR_countAll_1 rfl hl (by decide) rfl (fun ls hl => ?_)
  exact hk2 0 I J hm _ _ _ hP hD hS (lv_sub hl [1, 0] rfl)
set_option maxHeartbeats 4000000 in
theorem gw_R_countAll {p : Program} {l : Launch} {e : Env} {s : State} {m : MethodId} {args : Array Value} {below : List Frame} {meth : Method} {c : Code} {D : va_G} {A : Nat → Prop} {ad : Nat → Nat} {cI cJ cG : ClassId} {res : SI × SJ} (X : Cx p s m args meth c bR_countAll none 2 RR) (hK : va_K D vwCl (tysR cI cJ cG) s) (hN : NWs s) (hA : ∀ q, s.heap.size ≤ q → A q) : ∀ n : Nat, (∀ (x1 : Int32) (I : SI) (J : SJ), (g_R_countAll n) x1 I J = some res → WB p l e (headSpec (Cond.code yR_countAll bR_countAll 2 none :: gtb) rm_R_countAll).room s m args below meth c (MQ below (va_Qv (fun (u : SI × SJ) => u = res) (atW D vwCl (tysR cI cJ cG) A (wsR ad cI cJ cG)) A) args s 0 0 A) D vwCl A 2 (wsR ad cI cJ cG I J) 2 [(0, .ref (ad 0)), (1, .int x1)] []) := by
  intro n
  induction n with
  | zero => exact fun _ _ _ h => (by cases h)
  | succ n ih =>
    have ih2 := ih
    exact fun x1 I J h => w_R_countAll_2 X hK hN hA ih2 x1 I J h
set_option maxHeartbeats 4000000 in
set_option maxRecDepth 100000 in
theorem c_R_countAll (l : Launch) (D : va_G) (ad : Nat → Nat) (cI cJ cG : ClassId) (sz : Nat) (I : SI) (J : SJ) (res : SI × SJ) (hm : m_R_countAll  I J = some res) : Met l yR_countAll (Cond.code yR_countAll bR_countAll 2 none :: gtb) rm_R_countAll (va_Pc [.ref (ad 0)] (preW D vwCl (tysR cI cJ cG) (wsR ad cI cJ cG I J) sz)) (va_Qv (fun (u : SI × SJ) => u = res) (atW D vwCl (tysR cI cJ cG) (va_A (wsR ad cI cJ cG I J) sz) (wsR ad cI cJ cG)) (va_A (wsR ad cI cJ cG I J) sz)) 0 0 (va_A (wsR ad cI cJ cG I J) sz) := by
  refine Met.ofW (cc := bR_countAll) (maxL := 2) (ret := none) (by decide) rfl ?_
  intro p e s m args below meth c s₁ B hml hv
  obtain ⟨rfl, hsz, hP, hK, hD0, hN⟩ := hv
  subst hsz
  have X : Cx p s m [.ref (ad 0)].toArray meth c bR_countAll none 2 RR := ⟨B.exec, B.bytes, B.returns, hml, findClass_of_methodNamed B.named, fun w h => atoms_spec (ws := (Cond.code yR_countAll bR_countAll 2 none :: gtb)) B.pre w (List.mem_cons_of_mem _ h), B.notSynchronized⟩
  have hl := lv_entry ([.ref (ad 0)]) (n := 2) (Nat.le_of_ble_eq_true rfl)
  rw [lg_entry_eq]
  generalize (lg_sl ([.ref (ad 0)]) ++ List.replicate (2 - (lg_sl ([.ref (ad 0)])).length) Slot.unset).toArray = ls at hl ⊢
  have hl : lv_has ls 2 [(0, .ref (ad 0))] := hl
  have hA : ∀ q, s.heap.size ≤ q → va_A (wsR ad cI cJ cG I J) s.heap.size q := fun q h => Or.inr h
  exact w_R_countAll_0 X hK hN hA (gw_R_countAll X hK hN hA fuel)  I J hm _ _ _ hP hD0.self va_S.rf hl
def b_R_freeAll_2 (k2 : Int32 → SI → SJ → Option (SI × SJ)) (x1 : Int32) (I : SI) (J : SJ) : Option (SI × SJ) :=
  if 4 ≤ x1 then
    some (I, J)
  else
    gd (vin x1 4) <|
    nm (va_up I 12 (upd (I 12) x1.toNatClampNeg (-1))) fun I3 =>
    nm (x1 + 1) fun v4 =>
    k2 v4 I3 J
def b_R_freeAll_0 (k2 : Int32 → SI → SJ → Option (SI × SJ)) (I : SI) (J : SJ) : Option (SI × SJ) :=
  k2 0 I J
def g_R_freeAll : Nat → (Int32 → SI → SJ → Option (SI × SJ))
  | 0 => (fun _ _ _ => none)
  | n + 1 => (fun x1 I J => b_R_freeAll_2 (g_R_freeAll n) x1 I J)
def m_R_freeAll (I : SI) (J : SJ) : Option (SI × SJ) := b_R_freeAll_0 (g_R_freeAll fuel)  I J
def rm_R_freeAll : Room := { frames := 0, cells := 0, slots := 0, locals := 0 }
set_option maxHeartbeats 4000000 in
set_option maxRecDepth 100000 in
theorem w_R_freeAll_2 {p : Program} {l : Launch} {e : Env} {s : State} {m : MethodId} {args : Array Value} {below : List Frame} {meth : Method} {c : Code} {D : va_G} {A : Nat → Prop} {ad : Nat → Nat} {cI cJ cG : ClassId} {res : SI × SJ} (X : Cx p s m args meth c bR_freeAll none 2 RR) (hK : va_K D vwCl (tysR cI cJ cG) s) (hN : NWs s) (hA : ∀ q, s.heap.size ≤ q → A q)
    {k2 : Int32 → SI → SJ → Option (SI × SJ)} (hk2 : ∀ (x1 : Int32) (I : SI) (J : SJ), k2 x1 I J = some res → WB p l e (headSpec (Cond.code yR_freeAll bR_freeAll 2 none :: gtb) rm_R_freeAll).room s m args below meth c (MQ below (va_Qv (fun (u : SI × SJ) => u = res) (atW D vwCl (tysR cI cJ cG) A (wsR ad cI cJ cG)) A) args s 0 0 A) D vwCl A 2 (wsR ad cI cJ cG I J) 2 [(0, .ref (ad 0)), (1, .int x1)] [])
     (x1 : Int32) (I : SI) (J : SJ) (hm : b_R_freeAll_2 k2 x1 I J = some res) : WB p l e (headSpec (Cond.code yR_freeAll bR_freeAll 2 none :: gtb) rm_R_freeAll).room s m args below meth c (MQ below (va_Qv (fun (u : SI × SJ) => u = res) (atW D vwCl (tysR cI cJ cG) A (wsR ad cI cJ cG)) A) args s 0 0 A) D vwCl A 2 (wsR ad cI cJ cG I J) 2 [(0, .ref (ad 0)), (1, .int x1)] [] := by
  obtain ⟨hx, hb, hr, hml, hown, hT, hlk⟩ := X
  intro H locs ls hP hD hS hl
  unfold b_R_freeAll_2 at hm
  refine lv_iload_n hx hb dR_freeAll_2 rfl (lv_at hl 1 rfl) ?_
  refine lv_iconst (v := 4) hx hb dR_freeAll_3 (by decide) ?_
  refine lv_icmp_ge (tgt := 20) hx hb dR_freeAll_4 (by decide) (fun c1 => ?_) (fun c1 => ?_)
  · have hm := brp hm c1
    exact W.vret hx hb hr (fun t ht hW => ⟨⟨(I, J), rfl, Option.some.inj hm, ht ▸ hP, va_K.moved hW.alike hK, hD⟩, hS.F ht⟩) hS.2.2 dR_freeAll_20 hlk
  · have hm := brn hm c1
    refine lv_aload_n hx hb dR_freeAll_7 rfl (lv_at hl 0 rfl) ?_
    refine va_get (D := D) (ci := 6) (v := .ref (ad 12)) (C := RR) (T := TR) (N := 31) hx hb hT inR hown hK hP 0 rfl rfl 21 (by decide) (hT _ wd_556) (fun _ h9 => h9) rfl dR_freeAll_8 ?_
    refine lv_iload_n hx hb dR_freeAll_11 rfl (lv_at hl 1 rfl) ?_
    refine lv_iconst (v := (-1)) hx hb dR_freeAll_12 (by decide) ?_
    obtain ⟨g2, hm⟩ := gd_to hm
    refine va_iast hx hb hK hP hD hS 12 0 rfl rfl g2 dR_freeAll_13 (fun H locs hP hD hS => ?_)
    obtain ⟨I3, eI3⟩ : ∃ z : SI, z = va_up I 12 (upd (I 12) x1.toNatClampNeg (-1)) := ⟨_, rfl⟩
    have hm := nm_to eI3 hm
    have hP := P_eq (ws2 := wsR ad cI cJ cG I3 J) hP (by rw [eI3]; rfl)
    have hD := D_eq (ws2 := wsR ad cI cJ cG I3 J) hD (by rw [eI3]; rfl)
    obtain ⟨v4, ev4⟩ : ∃ z : Int32, z = x1 + 1 := ⟨_, rfl⟩
    have hm := nm_to ev4 hm
    refine lv_iinc (v := v4) (lv' := [(1, .int v4), (0, .ref (ad 0))]) hx hb dR_freeAll_14 hl (k := 1) rfl (by rw [ev4]; rfl) (by decide) rfl (fun ls hl => ?_)
    refine lv_goto (tgt := 2) hx hb dR_freeAll_17 (by decide) ?_
    exact hk2 v4 I3 J hm _ _ _ hP hD hS (lv_sub hl [1, 0] rfl)
set_option maxHeartbeats 4000000 in
set_option maxRecDepth 100000 in
theorem w_R_freeAll_0 {p : Program} {l : Launch} {e : Env} {s : State} {m : MethodId} {args : Array Value} {below : List Frame} {meth : Method} {c : Code} {D : va_G} {A : Nat → Prop} {ad : Nat → Nat} {cI cJ cG : ClassId} {res : SI × SJ} (X : Cx p s m args meth c bR_freeAll none 2 RR) (hK : va_K D vwCl (tysR cI cJ cG) s) (hN : NWs s) (hA : ∀ q, s.heap.size ≤ q → A q)
    {k2 : Int32 → SI → SJ → Option (SI × SJ)} (hk2 : ∀ (x1 : Int32) (I : SI) (J : SJ), k2 x1 I J = some res → WB p l e (headSpec (Cond.code yR_freeAll bR_freeAll 2 none :: gtb) rm_R_freeAll).room s m args below meth c (MQ below (va_Qv (fun (u : SI × SJ) => u = res) (atW D vwCl (tysR cI cJ cG) A (wsR ad cI cJ cG)) A) args s 0 0 A) D vwCl A 2 (wsR ad cI cJ cG I J) 2 [(0, .ref (ad 0)), (1, .int x1)] [])
     (I : SI) (J : SJ) (hm : b_R_freeAll_0 k2  I J = some res) : WB p l e (headSpec (Cond.code yR_freeAll bR_freeAll 2 none :: gtb) rm_R_freeAll).room s m args below meth c (MQ below (va_Qv (fun (u : SI × SJ) => u = res) (atW D vwCl (tysR cI cJ cG) A (wsR ad cI cJ cG)) A) args s 0 0 A) D vwCl A 2 (wsR ad cI cJ cG I J) 0 [(0, .ref (ad 0))] [] := by
  obtain ⟨hx, hb, hr, hml, hown, hT, hlk⟩ := X
  intro H locs ls hP hD hS hl
  unfold b_R_freeAll_0 at hm
  refine lv_iconst (v := 0) hx hb dR_freeAll_0 (by decide) ?_
  refine lv_istore_n (lv' := [(1, .int 0), (0, .ref (ad 0))]) hx hb dR_freeAll_1 rfl hl (by decide) rfl (fun ls hl => ?_)
  exact hk2 0 I J hm _ _ _ hP hD hS (lv_sub hl [1, 0] rfl)
set_option maxHeartbeats 4000000 in
theorem gw_R_freeAll {p : Program} {l : Launch} {e : Env} {s : State} {m : MethodId} {args : Array Value} {below : List Frame} {meth : Method} {c : Code} {D : va_G} {A : Nat → Prop} {ad : Nat → Nat} {cI cJ cG : ClassId} {res : SI × SJ} (X : Cx p s m args meth c bR_freeAll none 2 RR) (hK : va_K D vwCl (tysR cI cJ cG) s) (hN : NWs s) (hA : ∀ q, s.heap.size ≤ q → A q) : ∀ n : Nat, (∀ (x1 : Int32) (I : SI) (J : SJ), (g_R_freeAll n) x1 I J = some res → WB p l e (headSpec (Cond.code yR_freeAll bR_freeAll 2 none :: gtb) rm_R_freeAll).room s m args below meth c (MQ below (va_Qv (fun (u : SI × SJ) => u = res) (atW D vwCl (tysR cI cJ cG) A (wsR ad cI cJ cG)) A) args s 0 0 A) D vwCl A 2 (wsR ad cI cJ cG I J) 2 [(0, .ref (ad 0)), (1, .int x1)] []) := by
  intro n
  induction n with
  | zero => exact fun _ _ _ h => (by cases h)
  | succ n ih =>
    have ih2 := ih
    exact fun x1 I J h => w_R_freeAll_2 X hK hN hA ih2 x1 I J h
set_option maxHeartbeats 4000000 in
set_option maxRecDepth 100000 in
theorem c_R_freeAll (l : Launch) (D : va_G) (ad : Nat → Nat) (cI cJ cG : ClassId) (sz : Nat) (I : SI) (J : SJ) (res : SI × SJ) (hm : m_R_freeAll  I J = some res) : Met l yR_freeAll (Cond.code yR_freeAll bR_freeAll 2 none :: gtb) rm_R_freeAll (va_Pc [.ref (ad 0)] (preW D vwCl (tysR cI cJ cG) (wsR ad cI cJ cG I J) sz)) (va_Qv (fun (u : SI × SJ) => u = res) (atW D vwCl (tysR cI cJ cG) (va_A (wsR ad cI cJ cG I J) sz) (wsR ad cI cJ cG)) (va_A (wsR ad cI cJ cG I J) sz)) 0 0 (va_A (wsR ad cI cJ cG I J) sz) := by
  refine Met.ofW (cc := bR_freeAll) (maxL := 2) (ret := none) (by decide) rfl ?_
  intro p e s m args below meth c s₁ B hml hv
  obtain ⟨rfl, hsz, hP, hK, hD0, hN⟩ := hv
  subst hsz
  have X : Cx p s m [.ref (ad 0)].toArray meth c bR_freeAll none 2 RR := ⟨B.exec, B.bytes, B.returns, hml, findClass_of_methodNamed B.named, fun w h => atoms_spec (ws := (Cond.code yR_freeAll bR_freeAll 2 none :: gtb)) B.pre w (List.mem_cons_of_mem _ h), B.notSynchronized⟩
  have hl := lv_entry ([.ref (ad 0)]) (n := 2) (Nat.le_of_ble_eq_true rfl)
  rw [lg_entry_eq]
  generalize (lg_sl ([.ref (ad 0)]) ++ List.replicate (2 - (lg_sl ([.ref (ad 0)])).length) Slot.unset).toArray = ls at hl ⊢
  have hl : lv_has ls 2 [(0, .ref (ad 0))] := hl
  have hA : ∀ q, s.heap.size ≤ q → va_A (wsR ad cI cJ cG I J) s.heap.size q := fun q h => Or.inr h
  exact w_R_freeAll_0 X hK hN hA (gw_R_freeAll X hK hN hA fuel)  I J hm _ _ _ hP hD0.self va_S.rf hl
def b_R_isPossible_0 (x1 : Int32) (I : SI) (J : SJ) : Option (Int32 × SI × SJ) :=
  nm (va_up I 0 (upd (I 0) 28 0)) fun I1 =>
  cl2 (m_R_freeAll I1 J) fun I3 J4 =>
  cl2 (m_R_corners x1 1 I3 J4) fun I7 J8 =>
  gd (narrow .boolean (.int (I7 0 28)) = .int (I7 0 28)) <|
  some (I7 0 28, I7, J8)
def m_R_isPossible (x1 : Int32) (I : SI) (J : SJ) : Option (Int32 × SI × SJ) := b_R_isPossible_0 x1 I J
def rm_R_isPossible : Room := { frames := 5, cells := 0, slots := 0, locals := 125 }
set_option maxHeartbeats 4000000 in
set_option maxRecDepth 100000 in
theorem w_R_isPossible_0 {p : Program} {l : Launch} {e : Env} {s : State} {m : MethodId} {args : Array Value} {below : List Frame} {meth : Method} {c : Code} {D : va_G} {A : Nat → Prop} {ad : Nat → Nat} {cI cJ cG : ClassId} {res : Int32 × SI × SJ} (X : Cx p s m args meth c bR_isPossible (some .boolean) 2 RR) (hK : va_K D vwCl (tysR cI cJ cG) s) (hN : NWs s) (hA : ∀ q, s.heap.size ≤ q → A q)
     (x1 : Int32) (I : SI) (J : SJ) (hm : b_R_isPossible_0  x1 I J = some res) : WB p l e (headSpec (Cond.code yR_isPossible bR_isPossible 2 (some .boolean) :: gtb) rm_R_isPossible).room s m args below meth c (MQ below (va_Qi (fun (r : Int32) (u : SI × SJ) => (r, u) = res) (atW D vwCl (tysR cI cJ cG) A (wsR ad cI cJ cG)) A) args s 0 0 A) D vwCl A 2 (wsR ad cI cJ cG I J) 0 [(0, .ref (ad 0)), (1, .int x1)] [] := by
  obtain ⟨hx, hb, hr, hml, hown, hT, hlk⟩ := X
  intro H locs ls hP hD hS hl
  unfold b_R_isPossible_0 at hm
  refine lv_aload_n hx hb dR_isPossible_0 rfl (lv_at hl 0 rfl) ?_
  refine lv_iconst (v := 0) hx hb dR_isPossible_1 (by decide) ?_
  refine va_put (D := D) (ci := 6) (v := .int 0) (ty := .boolean) (C := RR) (T := TR) (N := 31) hx hb hT inR tyR okR nmR hown hK hP hD hS 0 rfl rfl 28 (by decide) (hT _ wd_563) (fun _ h9 => h9) rfl pf_Z rfl rfl (Nat.le_of_ble_eq_true rfl) dR_isPossible_2 (fun H locs hP hD hS => ?_)
  obtain ⟨I1, eI1⟩ : ∃ z : SI, z = va_up I 0 (upd (I 0) 28 0) := ⟨_, rfl⟩
  have hm := nm_to eI1 hm
  have hP := P_eq (ws2 := wsR ad cI cJ cG I1 J) hP (by rw [eI1]; rfl)
  have hD := D_eq (ws2 := wsR ad cI cJ cG I1 J) hD (by rw [eI1]; rfl)
  refine lv_aload_n hx hb dR_isPossible_5 rfl (lv_at hl 0 rfl) ?_
  obtain ⟨I3, J4, hc5, hm⟩ := cl2_to hm
  refine pst_v (wf := wsR ad cI cJ cG) hD hS hA (va_runV (As := []) (rest := []) ⟨hx, hb, hml, hown, hT⟩ (c_R_freeAll l D ad cI cJ cG _ I1 J _ hc5) (cwV 0 hT (gV wd_681 wd_683 wd_36 wd_57 wd_684) rfl rfl rfl (by decide +kernel) ⟨Nat.le_of_ble_eq_true rfl, Nat.le_of_ble_eq_true rfl⟩) ⟨preW_fb, va_recv hK hP (ci := 6) (q0 := 0) rfl rfl, preW_at hP hK hN hD⟩ rfl rfl hl.1 rfl (lv_room (Nat.le_of_ble_eq_true rfl)) dR_isPossible_6 ⟨Nat.zero_le _, Nat.zero_le _⟩) (fun H locs hP hD hS => ?_)
  refine lv_aload_n hx hb dR_isPossible_9 rfl (lv_at hl 0 rfl) ?_
  refine lv_iload_n hx hb dR_isPossible_10 rfl (lv_at hl 1 rfl) ?_
  refine lv_iconst (v := 1) hx hb dR_isPossible_11 (by decide) ?_
  obtain ⟨I7, J8, hc9, hm⟩ := cl2_to hm
  refine pst_v (wf := wsR ad cI cJ cG) hD hS hA (va_runV (As := [.int x1, .int 1]) (rest := []) ⟨hx, hb, hml, hown, hT⟩ (c_R_corners l D ad cI cJ cG _ x1 1 I3 J4 _ hc9) (cwV 2 hT (gV wd_685 wd_687 wd_37 wd_57 wd_688) rfl rfl rfl (by decide +kernel) ⟨Nat.le_of_ble_eq_true rfl, Nat.le_of_ble_eq_true rfl⟩) ⟨preW_fb, va_recv hK hP (ci := 6) (q0 := 0) rfl rfl, preW_at hP hK hN hD⟩ rfl rfl hl.1 rfl (lv_room (Nat.le_of_ble_eq_true rfl)) dR_isPossible_12 ⟨Nat.zero_le _, Nat.zero_le _⟩) (fun H locs hP hD hS => ?_)
  refine lv_aload_n hx hb dR_isPossible_15 rfl (lv_at hl 0 rfl) ?_
  refine va_get (D := D) (ci := 6) (v := .int (I7 0 28)) (C := RR) (T := TR) (N := 31) hx hb hT inR hown hK hP 0 rfl rfl 28 (by decide) (hT _ wd_563) (fun _ h9 => h9) rfl dR_isPossible_16 ?_
  obtain ⟨g10, hm⟩ := gd_to hm
  exact W.zret hx hb hr g10 (fun t ht hW => ⟨⟨I7 0 28, (I7, J8), rfl, Option.some.inj hm, ht ▸ hP, va_K.moved hW.alike hK, hD⟩, hS.F ht⟩) hS.2.2 dR_isPossible_19 hlk
set_option maxHeartbeats 4000000 in
set_option maxRecDepth 100000 in
theorem c_R_isPossible (l : Launch) (D : va_G) (ad : Nat → Nat) (cI cJ cG : ClassId) (sz : Nat) (x1 : Int32) (I : SI) (J : SJ) (res : Int32 × SI × SJ) (hm : m_R_isPossible x1 I J = some res) : Met l yR_isPossible (Cond.code yR_isPossible bR_isPossible 2 (some .boolean) :: gtb) rm_R_isPossible (va_Pc [.ref (ad 0), .int x1] (preW D vwCl (tysR cI cJ cG) (wsR ad cI cJ cG I J) sz)) (va_Qi (fun (r : Int32) (u : SI × SJ) => (r, u) = res) (atW D vwCl (tysR cI cJ cG) (va_A (wsR ad cI cJ cG I J) sz) (wsR ad cI cJ cG)) (va_A (wsR ad cI cJ cG I J) sz)) 0 0 (va_A (wsR ad cI cJ cG I J) sz) := by
  refine Met.ofW (cc := bR_isPossible) (maxL := 2) (ret := (some .boolean)) (by decide) rfl ?_
  intro p e s m args below meth c s₁ B hml hv
  obtain ⟨rfl, hsz, hP, hK, hD0, hN⟩ := hv
  subst hsz
  have X : Cx p s m [.ref (ad 0), .int x1].toArray meth c bR_isPossible (some .boolean) 2 RR := ⟨B.exec, B.bytes, B.returns, hml, findClass_of_methodNamed B.named, fun w h => atoms_spec (ws := (Cond.code yR_isPossible bR_isPossible 2 (some .boolean) :: gtb)) B.pre w (List.mem_cons_of_mem _ h), B.notSynchronized⟩
  have hl := lv_entry ([.ref (ad 0), .int x1]) (n := 2) (Nat.le_of_ble_eq_true rfl)
  rw [lg_entry_eq]
  generalize (lg_sl ([.ref (ad 0), .int x1]) ++ List.replicate (2 - (lg_sl ([.ref (ad 0), .int x1])).length) Slot.unset).toArray = ls at hl ⊢
  have hl : lv_has ls 2 [(0, .ref (ad 0)), (1, .int x1)] := hl
  have hA : ∀ q, s.heap.size ≤ q → va_A (wsR ad cI cJ cG I J) s.heap.size q := fun q h => Or.inr h
  exact w_R_isPossible_0 X hK hN hA  x1 I J hm _ _ _ hP hD0.self va_S.rf hl
def b_R_most_0 (x1 : Int32) (I : SI) (J : SJ) : Option (Int32 × SI × SJ) :=
  if (I 0 0) ≤ x1 then
    some (0, I, J)
  else
    gd (vin x1 4) <|
    nm (I 6 x1.toNatClampNeg) fun v3 =>
    if v3 ≤ 0 then
      some (0, I, J)
    else
      gd (vin x1 4) <|
      nm (I 2 x1.toNatClampNeg) fun v6 =>
      gd (vin x1 4) <|
      nm (I 6 x1.toNatClampNeg) fun v8 =>
      gd (¬ v8 = 0) <|
      nm (v6 / v8) fun v10 =>
      some (v10, I, J)
def m_R_most (x1 : Int32) (I : SI) (J : SJ) : Option (Int32 × SI × SJ) := b_R_most_0 x1 I J
def rm_R_most : Room := { frames := 0, cells := 0, slots := 0, locals := 0 }
set_option maxHeartbeats 4000000 in
set_option maxRecDepth 100000 in
theorem w_R_most_0 {p : Program} {l : Launch} {e : Env} {s : State} {m : MethodId} {args : Array Value} {below : List Frame} {meth : Method} {c : Code} {D : va_G} {A : Nat → Prop} {ad : Nat → Nat} {cI cJ cG : ClassId} {res : Int32 × SI × SJ} (X : Cx p s m args meth c bR_most (some .int) 2 RR) (hK : va_K D vwCl (tysR cI cJ cG) s) (hN : NWs s) (hA : ∀ q, s.heap.size ≤ q → A q)
     (x1 : Int32) (I : SI) (J : SJ) (hm : b_R_most_0  x1 I J = some res) : WB p l e (headSpec (Cond.code yR_most bR_most 2 (some .int) :: gtb) rm_R_most).room s m args below meth c (MQ below (va_Qi (fun (r : Int32) (u : SI × SJ) => (r, u) = res) (atW D vwCl (tysR cI cJ cG) A (wsR ad cI cJ cG)) A) args s 0 0 A) D vwCl A 2 (wsR ad cI cJ cG I J) 0 [(0, .ref (ad 0)), (1, .int x1)] [] := by
  obtain ⟨hx, hb, hr, hml, hown, hT, hlk⟩ := X
  intro H locs ls hP hD hS hl
  unfold b_R_most_0 at hm
  refine lv_iload_n hx hb dR_most_0 rfl (lv_at hl 1 rfl) ?_
  refine lv_aload_n hx hb dR_most_1 rfl (lv_at hl 0 rfl) ?_
  refine va_get (D := D) (ci := 6) (v := .int (I 0 0)) (C := RR) (T := TR) (N := 31) hx hb hT inR hown hK hP 0 rfl rfl 0 (by decide) (hT _ wd_535) (fun _ h9 => h9) rfl dR_most_2 ?_
  refine lv_icmp_ge (tgt := 33) hx hb dR_most_5 (by decide) (fun c1 => ?_) (fun c1 => ?_)
  · have hm := brp hm c1
    refine lv_iconst (v := 0) hx hb dR_most_33 (by decide) ?_
    exact W.iret hx hb hr (fun t ht hW => ⟨⟨0, (I, J), rfl, Option.some.inj hm, ht ▸ hP, va_K.moved hW.alike hK, hD⟩, hS.F ht⟩) hS.2.2 dR_most_34 hlk
  · have hm := brn hm c1
    refine lv_aload_n hx hb dR_most_8 rfl (lv_at hl 0 rfl) ?_
    refine va_get (D := D) (ci := 6) (v := .ref (ad 6)) (C := RR) (T := TR) (N := 31) hx hb hT inR hown hK hP 0 rfl rfl 6 (by decide) (hT _ wd_541) (fun _ h9 => h9) rfl dR_most_9 ?_
    refine lv_iload_n hx hb dR_most_12 rfl (lv_at hl 1 rfl) ?_
    obtain ⟨g2, hm⟩ := gd_to hm
    refine va_iald hx hb hK hP 6 0 rfl rfl g2 dR_most_13 ?_
    refine lv_topi (fun v3 ev3 => ?_)
    have hm := nm_to ev3 hm
    refine lv_if_le (tgt := 33) hx hb dR_most_14 (by decide) (fun c4 => ?_) (fun c4 => ?_)
    · have hm := brp hm c4
      refine lv_iconst (v := 0) hx hb dR_most_33 (by decide) ?_
      exact W.iret hx hb hr (fun t ht hW => ⟨⟨0, (I, J), rfl, Option.some.inj hm, ht ▸ hP, va_K.moved hW.alike hK, hD⟩, hS.F ht⟩) hS.2.2 dR_most_34 hlk
    · have hm := brn hm c4
      refine lv_aload_n hx hb dR_most_17 rfl (lv_at hl 0 rfl) ?_
      refine va_get (D := D) (ci := 6) (v := .ref (ad 2)) (C := RR) (T := TR) (N := 31) hx hb hT inR hown hK hP 0 rfl rfl 2 (by decide) (hT _ wd_537) (fun _ h9 => h9) rfl dR_most_18 ?_
      refine lv_iload_n hx hb dR_most_21 rfl (lv_at hl 1 rfl) ?_
      obtain ⟨g5, hm⟩ := gd_to hm
      refine va_iald hx hb hK hP 2 0 rfl rfl g5 dR_most_22 ?_
      refine lv_topi (fun v6 ev6 => ?_)
      have hm := nm_to ev6 hm
      refine lv_aload_n hx hb dR_most_23 rfl (lv_at hl 0 rfl) ?_
      refine va_get (D := D) (ci := 6) (v := .ref (ad 6)) (C := RR) (T := TR) (N := 31) hx hb hT inR hown hK hP 0 rfl rfl 6 (by decide) (hT _ wd_541) (fun _ h9 => h9) rfl dR_most_24 ?_
      refine lv_iload_n hx hb dR_most_27 rfl (lv_at hl 1 rfl) ?_
      obtain ⟨g7, hm⟩ := gd_to hm
      refine va_iald hx hb hK hP 6 0 rfl rfl g7 dR_most_28 ?_
      refine lv_topi (fun v8 ev8 => ?_)
      have hm := nm_to ev8 hm
      obtain ⟨g9, hm⟩ := gd_to hm
      refine lv_idiv hx hb dR_most_29 g9 ?_
      refine lv_topi (fun v10 ev10 => ?_)
      have hm := nm_to ev10 hm
      refine lv_goto (tgt := 34) hx hb dR_most_30 (by decide) ?_
      exact W.iret hx hb hr (fun t ht hW => ⟨⟨v10, (I, J), rfl, Option.some.inj hm, ht ▸ hP, va_K.moved hW.alike hK, hD⟩, hS.F ht⟩) hS.2.2 dR_most_34 hlk
set_option maxHeartbeats 4000000 in
set_option maxRecDepth 100000 in
theorem c_R_most (l : Launch) (D : va_G) (ad : Nat → Nat) (cI cJ cG : ClassId) (sz : Nat) (x1 : Int32) (I : SI) (J : SJ) (res : Int32 × SI × SJ) (hm : m_R_most x1 I J = some res) : Met l yR_most (Cond.code yR_most bR_most 2 (some .int) :: gtb) rm_R_most (va_Pc [.ref (ad 0), .int x1] (preW D vwCl (tysR cI cJ cG) (wsR ad cI cJ cG I J) sz)) (va_Qi (fun (r : Int32) (u : SI × SJ) => (r, u) = res) (atW D vwCl (tysR cI cJ cG) (va_A (wsR ad cI cJ cG I J) sz) (wsR ad cI cJ cG)) (va_A (wsR ad cI cJ cG I J) sz)) 0 0 (va_A (wsR ad cI cJ cG I J) sz) := by
  refine Met.ofW (cc := bR_most) (maxL := 2) (ret := (some .int)) (by decide) rfl ?_
  intro p e s m args below meth c s₁ B hml hv
  obtain ⟨rfl, hsz, hP, hK, hD0, hN⟩ := hv
  subst hsz
  have X : Cx p s m [.ref (ad 0), .int x1].toArray meth c bR_most (some .int) 2 RR := ⟨B.exec, B.bytes, B.returns, hml, findClass_of_methodNamed B.named, fun w h => atoms_spec (ws := (Cond.code yR_most bR_most 2 (some .int) :: gtb)) B.pre w (List.mem_cons_of_mem _ h), B.notSynchronized⟩
  have hl := lv_entry ([.ref (ad 0), .int x1]) (n := 2) (Nat.le_of_ble_eq_true rfl)
  rw [lg_entry_eq]
  generalize (lg_sl ([.ref (ad 0), .int x1]) ++ List.replicate (2 - (lg_sl ([.ref (ad 0), .int x1])).length) Slot.unset).toArray = ls at hl ⊢
  have hl : lv_has ls 2 [(0, .ref (ad 0)), (1, .int x1)] := hl
  have hA : ∀ q, s.heap.size ≤ q → va_A (wsR ad cI cJ cG I J) s.heap.size q := fun q h => Or.inr h
  exact w_R_most_0 X hK hN hA  x1 I J hm _ _ _ hP hD0.self va_S.rf hl
def b_R_fix_0 (x1 : Int32) (x2 : Int32) (I : SI) (J : SJ) : Option (SI × SJ) :=
  if (I 0 0) ≤ x1 then
    gd (vin x1 4) <|
    nm (va_up I 12 (upd (I 12) x1.toNatClampNeg (-1))) fun I3 =>
    some (I3, J)
  else
    gd (vin x1 4) <|
    nm (I 6 x1.toNatClampNeg) fun v5 =>
    if v5 ≤ 0 then
      gd (vin x1 4) <|
      nm (va_up I 12 (upd (I 12) x1.toNatClampNeg (-1))) fun I8 =>
      some (I8, J)
    else
      gd (vin x1 4) <|
      nm (I 6 x1.toNatClampNeg) fun v10 =>
      nm (x2 * v10) fun v11 =>
      gd (vin x1 4) <|
      nm (va_up I 12 (upd (I 12) x1.toNatClampNeg v11)) fun I13 =>
      some (I13, J)
def m_R_fix (x1 : Int32) (x2 : Int32) (I : SI) (J : SJ) : Option (SI × SJ) := b_R_fix_0 x1 x2 I J
def rm_R_fix : Room := { frames := 0, cells := 0, slots := 0, locals := 0 }
set_option maxHeartbeats 4000000 in
set_option maxRecDepth 100000 in
theorem w_R_fix_0 {p : Program} {l : Launch} {e : Env} {s : State} {m : MethodId} {args : Array Value} {below : List Frame} {meth : Method} {c : Code} {D : va_G} {A : Nat → Prop} {ad : Nat → Nat} {cI cJ cG : ClassId} {res : SI × SJ} (X : Cx p s m args meth c bR_fix none 3 RR) (hK : va_K D vwCl (tysR cI cJ cG) s) (hN : NWs s) (hA : ∀ q, s.heap.size ≤ q → A q)
     (x1 : Int32) (x2 : Int32) (I : SI) (J : SJ) (hm : b_R_fix_0  x1 x2 I J = some res) : WB p l e (headSpec (Cond.code yR_fix bR_fix 3 none :: gtb) rm_R_fix).room s m args below meth c (MQ below (va_Qv (fun (u : SI × SJ) => u = res) (atW D vwCl (tysR cI cJ cG) A (wsR ad cI cJ cG)) A) args s 0 0 A) D vwCl A 3 (wsR ad cI cJ cG I J) 0 [(0, .ref (ad 0)), (1, .int x1), (2, .int x2)] [] := by
  obtain ⟨hx, hb, hr, hml, hown, hT, hlk⟩ := X
  intro H locs ls hP hD hS hl
  unfold b_R_fix_0 at hm
  refine lv_aload_n hx hb dR_fix_0 rfl (lv_at hl 0 rfl) ?_
  refine va_get (D := D) (ci := 6) (v := .ref (ad 12)) (C := RR) (T := TR) (N := 31) hx hb hT inR hown hK hP 0 rfl rfl 21 (by decide) (hT _ wd_556) (fun _ h9 => h9) rfl dR_fix_1 ?_
  refine lv_iload_n hx hb dR_fix_4 rfl (lv_at hl 1 rfl) ?_
  refine lv_iload_n hx hb dR_fix_5 rfl (lv_at hl 1 rfl) ?_
  refine lv_aload_n hx hb dR_fix_6 rfl (lv_at hl 0 rfl) ?_
  refine va_get (D := D) (ci := 6) (v := .int (I 0 0)) (C := RR) (T := TR) (N := 31) hx hb hT inR hown hK hP 0 rfl rfl 0 (by decide) (hT _ wd_535) (fun _ h9 => h9) rfl dR_fix_7 ?_
  refine lv_icmp_ge (tgt := 33) hx hb dR_fix_10 (by decide) (fun c1 => ?_) (fun c1 => ?_)
  · have hm := brp hm c1
    refine lv_iconst (v := (-1)) hx hb dR_fix_33 (by decide) ?_
    obtain ⟨g2, hm⟩ := gd_to hm
    refine va_iast hx hb hK hP hD hS 12 0 rfl rfl g2 dR_fix_34 (fun H locs hP hD hS => ?_)
    obtain ⟨I3, eI3⟩ : ∃ z : SI, z = va_up I 12 (upd (I 12) x1.toNatClampNeg (-1)) := ⟨_, rfl⟩
    have hm := nm_to eI3 hm
    have hP := P_eq (ws2 := wsR ad cI cJ cG I3 J) hP (by rw [eI3]; rfl)
    have hD := D_eq (ws2 := wsR ad cI cJ cG I3 J) hD (by rw [eI3]; rfl)
    exact W.vret hx hb hr (fun t ht hW => ⟨⟨(I3, J), rfl, Option.some.inj hm, ht ▸ hP, va_K.moved hW.alike hK, hD⟩, hS.F ht⟩) hS.2.2 dR_fix_35 hlk
  · have hm := brn hm c1
    refine lv_aload_n hx hb dR_fix_13 rfl (lv_at hl 0 rfl) ?_
    refine va_get (D := D) (ci := 6) (v := .ref (ad 6)) (C := RR) (T := TR) (N := 31) hx hb hT inR hown hK hP 0 rfl rfl 6 (by decide) (hT _ wd_541) (fun _ h9 => h9) rfl dR_fix_14 ?_
    refine lv_iload_n hx hb dR_fix_17 rfl (lv_at hl 1 rfl) ?_
    obtain ⟨g4, hm⟩ := gd_to hm
    refine va_iald hx hb hK hP 6 0 rfl rfl g4 dR_fix_18 ?_
    refine lv_topi (fun v5 ev5 => ?_)
    have hm := nm_to ev5 hm
    refine lv_if_le (tgt := 33) hx hb dR_fix_19 (by decide) (fun c6 => ?_) (fun c6 => ?_)
    · have hm := brp hm c6
      refine lv_iconst (v := (-1)) hx hb dR_fix_33 (by decide) ?_
      obtain ⟨g7, hm⟩ := gd_to hm
      refine va_iast hx hb hK hP hD hS 12 0 rfl rfl g7 dR_fix_34 (fun H locs hP hD hS => ?_)
      obtain ⟨I8, eI8⟩ : ∃ z : SI, z = va_up I 12 (upd (I 12) x1.toNatClampNeg (-1)) := ⟨_, rfl⟩
      have hm := nm_to eI8 hm
      have hP := P_eq (ws2 := wsR ad cI cJ cG I8 J) hP (by rw [eI8]; rfl)
      have hD := D_eq (ws2 := wsR ad cI cJ cG I8 J) hD (by rw [eI8]; rfl)
      exact W.vret hx hb hr (fun t ht hW => ⟨⟨(I8, J), rfl, Option.some.inj hm, ht ▸ hP, va_K.moved hW.alike hK, hD⟩, hS.F ht⟩) hS.2.2 dR_fix_35 hlk
    · have hm := brn hm c6
      refine lv_iload_n hx hb dR_fix_22 rfl (lv_at hl 2 rfl) ?_
      refine lv_aload_n hx hb dR_fix_23 rfl (lv_at hl 0 rfl) ?_
      refine va_get (D := D) (ci := 6) (v := .ref (ad 6)) (C := RR) (T := TR) (N := 31) hx hb hT inR hown hK hP 0 rfl rfl 6 (by decide) (hT _ wd_541) (fun _ h9 => h9) rfl dR_fix_24 ?_
      refine lv_iload_n hx hb dR_fix_27 rfl (lv_at hl 1 rfl) ?_
      obtain ⟨g9, hm⟩ := gd_to hm
      refine va_iald hx hb hK hP 6 0 rfl rfl g9 dR_fix_28 ?_
      refine lv_topi (fun v10 ev10 => ?_)
      have hm := nm_to ev10 hm
      refine lv_imul hx hb dR_fix_29 ?_
      refine lv_topi (fun v11 ev11 => ?_)
      have hm := nm_to ev11 hm
      refine lv_goto (tgt := 34) hx hb dR_fix_30 (by decide) ?_
      obtain ⟨g12, hm⟩ := gd_to hm
      refine va_iast hx hb hK hP hD hS 12 0 rfl rfl g12 dR_fix_34 (fun H locs hP hD hS => ?_)
      obtain ⟨I13, eI13⟩ : ∃ z : SI, z = va_up I 12 (upd (I 12) x1.toNatClampNeg v11) := ⟨_, rfl⟩
      have hm := nm_to eI13 hm
      have hP := P_eq (ws2 := wsR ad cI cJ cG I13 J) hP (by rw [eI13]; rfl)
      have hD := D_eq (ws2 := wsR ad cI cJ cG I13 J) hD (by rw [eI13]; rfl)
      exact W.vret hx hb hr (fun t ht hW => ⟨⟨(I13, J), rfl, Option.some.inj hm, ht ▸ hP, va_K.moved hW.alike hK, hD⟩, hS.F ht⟩) hS.2.2 dR_fix_35 hlk
set_option maxHeartbeats 4000000 in
set_option maxRecDepth 100000 in
theorem c_R_fix (l : Launch) (D : va_G) (ad : Nat → Nat) (cI cJ cG : ClassId) (sz : Nat) (x1 : Int32) (x2 : Int32) (I : SI) (J : SJ) (res : SI × SJ) (hm : m_R_fix x1 x2 I J = some res) : Met l yR_fix (Cond.code yR_fix bR_fix 3 none :: gtb) rm_R_fix (va_Pc [.ref (ad 0), .int x1, .int x2] (preW D vwCl (tysR cI cJ cG) (wsR ad cI cJ cG I J) sz)) (va_Qv (fun (u : SI × SJ) => u = res) (atW D vwCl (tysR cI cJ cG) (va_A (wsR ad cI cJ cG I J) sz) (wsR ad cI cJ cG)) (va_A (wsR ad cI cJ cG I J) sz)) 0 0 (va_A (wsR ad cI cJ cG I J) sz) := by
  refine Met.ofW (cc := bR_fix) (maxL := 3) (ret := none) (by decide) rfl ?_
  intro p e s m args below meth c s₁ B hml hv
  obtain ⟨rfl, hsz, hP, hK, hD0, hN⟩ := hv
  subst hsz
  have X : Cx p s m [.ref (ad 0), .int x1, .int x2].toArray meth c bR_fix none 3 RR := ⟨B.exec, B.bytes, B.returns, hml, findClass_of_methodNamed B.named, fun w h => atoms_spec (ws := (Cond.code yR_fix bR_fix 3 none :: gtb)) B.pre w (List.mem_cons_of_mem _ h), B.notSynchronized⟩
  have hl := lv_entry ([.ref (ad 0), .int x1, .int x2]) (n := 3) (Nat.le_of_ble_eq_true rfl)
  rw [lg_entry_eq]
  generalize (lg_sl ([.ref (ad 0), .int x1, .int x2]) ++ List.replicate (3 - (lg_sl ([.ref (ad 0), .int x1, .int x2])).length) Slot.unset).toArray = ls at hl ⊢
  have hl : lv_has ls 3 [(0, .ref (ad 0)), (1, .int x1), (2, .int x2)] := hl
  have hA : ∀ q, s.heap.size ≤ q → va_A (wsR ad cI cJ cG I J) s.heap.size q := fun q h => Or.inr h
  exact w_R_fix_0 X hK hN hA  x1 x2 I J hm _ _ _ hP hD0.self va_S.rf hl
def b_R_mixes_11 (k22 : Int32 → Int32 → Int32 → SI → SJ → Option (Int32 × SI × SJ)) (x1 : Int32) (x2 : Int32) (I : SI) (J : SJ) : Option (Int32 × SI × SJ) :=
  cl3 (m_R_most 0 I J) fun r1 I2 J3 =>
  if r1 < x2 then
    gd (narrow .boolean (.int (I2 0 28)) = .int (I2 0 28)) <|
    some (I2 0 28, I2, J3)
  else
    k22 x1 x2 0 I2 J3
def b_R_mixes_22 (k11 : Int32 → Int32 → SI → SJ → Option (Int32 × SI × SJ)) (k34 : Int32 → Int32 → Int32 → Int32 → SI → SJ → Option (Int32 × SI × SJ)) (x1 : Int32) (x2 : Int32) (x3 : Int32) (I : SI) (J : SJ) : Option (Int32 × SI × SJ) :=
  cl3 (m_R_most 1 I J) fun r1 I2 J3 =>
  if r1 < x3 then
    nm (x2 + 1) fun v6 =>
    k11 x1 v6 I2 J3
  else
    k34 x1 x2 x3 0 I2 J3
def b_R_mixes_34 (k22 : Int32 → Int32 → Int32 → SI → SJ → Option (Int32 × SI × SJ)) (k47 : Int32 → Int32 → Int32 → Int32 → Int32 → SI → SJ → Option (Int32 × SI × SJ)) (x1 : Int32) (x2 : Int32) (x3 : Int32) (x4 : Int32) (I : SI) (J : SJ) : Option (Int32 × SI × SJ) :=
  cl3 (m_R_most 2 I J) fun r1 I2 J3 =>
  if r1 < x4 then
    nm (x3 + 1) fun v6 =>
    k22 x1 x2 v6 I2 J3
  else
    k47 x1 x2 x3 x4 0 I2 J3
def b_R_mixes_47 (k34 : Int32 → Int32 → Int32 → Int32 → SI → SJ → Option (Int32 × SI × SJ)) (k47 : Int32 → Int32 → Int32 → Int32 → Int32 → SI → SJ → Option (Int32 × SI × SJ)) (x1 : Int32) (x2 : Int32) (x3 : Int32) (x4 : Int32) (x5 : Int32) (I : SI) (J : SJ) : Option (Int32 × SI × SJ) :=
  cl3 (m_R_most 3 I J) fun r1 I2 J3 =>
  if r1 < x5 then
    nm (x4 + 1) fun v6 =>
    k34 x1 x2 x3 v6 I2 J3
  else
    cl2 (m_R_fix 0 x2 I2 J3) fun I8 J9 =>
    cl2 (m_R_fix 1 x3 I8 J9) fun I12 J13 =>
    cl2 (m_R_fix 2 x4 I12 J13) fun I16 J17 =>
    cl2 (m_R_fix 3 x5 I16 J17) fun I20 J21 =>
    cl2 (m_R_corners x1 0 I20 J21) fun I24 J25 =>
    nm (x5 + 1) fun v27 =>
    k47 x1 x2 x3 x4 v27 I24 J25
def b_R_mixes_0 (k11 : Int32 → Int32 → SI → SJ → Option (Int32 × SI × SJ)) (x1 : Int32) (I : SI) (J : SJ) : Option (Int32 × SI × SJ) :=
  cl2 (m_R_countAll I J) fun I2 J3 =>
  nm (va_up I2 0 (upd (I2 0) 28 0)) fun I5 =>
  k11 x1 0 I5 J3
def g_R_mixes : Nat → (Int32 → Int32 → SI → SJ → Option (Int32 × SI × SJ)) × (Int32 → Int32 → Int32 → SI → SJ → Option (Int32 × SI × SJ)) × (Int32 → Int32 → Int32 → Int32 → SI → SJ → Option (Int32 × SI × SJ)) × (Int32 → Int32 → Int32 → Int32 → Int32 → SI → SJ → Option (Int32 × SI × SJ))
  | 0 => (fun _ _ _ _ => none, fun _ _ _ _ _ => none, fun _ _ _ _ _ _ => none, fun _ _ _ _ _ _ _ => none)
  | n + 1 => (fun x1 x2 I J => b_R_mixes_11 (g_R_mixes n).2.1 x1 x2 I J, fun x1 x2 x3 I J => b_R_mixes_22 (g_R_mixes n).1 (g_R_mixes n).2.2.1 x1 x2 x3 I J, fun x1 x2 x3 x4 I J => b_R_mixes_34 (g_R_mixes n).2.1 (g_R_mixes n).2.2.2 x1 x2 x3 x4 I J, fun x1 x2 x3 x4 x5 I J => b_R_mixes_47 (g_R_mixes n).2.2.1 (g_R_mixes n).2.2.2 x1 x2 x3 x4 x5 I J)
def m_R_mixes (x1 : Int32) (I : SI) (J : SJ) : Option (Int32 × SI × SJ) := b_R_mixes_0 (g_R_mixes fuel).1 x1 I J
def rm_R_mixes : Room := { frames := 5, cells := 0, slots := 0, locals := 125 }
set_option maxHeartbeats 4000000 in
set_option maxRecDepth 100000 in
theorem w_R_mixes_11 {p : Program} {l : Launch} {e : Env} {s : State} {m : MethodId} {args : Array Value} {below : List Frame} {meth : Method} {c : Code} {D : va_G} {A : Nat → Prop} {ad : Nat → Nat} {cI cJ cG : ClassId} {res : Int32 × SI × SJ} (X : Cx p s m args meth c bR_mixes (some .boolean) 6 RR) (hK : va_K D vwCl (tysR cI cJ cG) s) (hN : NWs s) (hA : ∀ q, s.heap.size ≤ q → A q)
    {k22 : Int32 → Int32 → Int32 → SI → SJ → Option (Int32 × SI × SJ)} (hk22 : ∀ (x1 : Int32) (x2 : Int32) (x3 : Int32) (I : SI) (J : SJ), k22 x1 x2 x3 I J = some res → WB p l e (headSpec (Cond.code yR_mixes bR_mixes 6 (some .boolean) :: gtb) rm_R_mixes).room s m args below meth c (MQ below (va_Qi (fun (r : Int32) (u : SI × SJ) => (r, u) = res) (atW D vwCl (tysR cI cJ cG) A (wsR ad cI cJ cG)) A) args s 0 0 A) D vwCl A 6 (wsR ad cI cJ cG I J) 22 [(0, .ref (ad 0)), (1, .int x1), (2, .int x2), (3, .int x3)] [])
     (x1 : Int32) (x2 : Int32) (I : SI) (J : SJ) (hm : b_R_mixes_11 k22 x1 x2 I J = some res) : WB p l e (headSpec (Cond.code yR_mixes bR_mixes 6 (some .boolean) :: gtb) rm_R_mixes).room s m args below meth c (MQ below (va_Qi (fun (r : Int32) (u : SI × SJ) => (r, u) = res) (atW D vwCl (tysR cI cJ cG) A (wsR ad cI cJ cG)) A) args s 0 0 A) D vwCl A 6 (wsR ad cI cJ cG I J) 11 [(0, .ref (ad 0)), (1, .int x1), (2, .int x2)] [] := by
  obtain ⟨hx, hb, hr, hml, hown, hT, hlk⟩ := X
  intro H locs ls hP hD hS hl
  unfold b_R_mixes_11 at hm
  refine lv_iload_n hx hb dR_mixes_11 rfl (lv_at hl 2 rfl) ?_
  refine lv_aload_n hx hb dR_mixes_12 rfl (lv_at hl 0 rfl) ?_
  refine lv_iconst (v := 0) hx hb dR_mixes_13 (by decide) ?_
  obtain ⟨r1, I2, J3, hc4, hm⟩ := cl3_to hm
  refine pst_i (wf := wsR ad cI cJ cG) hD hS hA (va_runV (As := [.int 0]) (rest := [.int x2]) ⟨hx, hb, hml, hown, hT⟩ (c_R_most l D ad cI cJ cG _ 0 I J _ hc4) (cwV 1 hT (gV wd_730 wd_732 wd_47 wd_57 wd_733) rfl rfl rfl (by decide +kernel) ⟨Nat.le_of_ble_eq_true rfl, Nat.le_of_ble_eq_true rfl⟩) ⟨preW_fb, va_recv hK hP (ci := 6) (q0 := 0) rfl rfl, preW_at hP hK hN hD⟩ rfl rfl hl.1 rfl (lv_room (Nat.le_of_ble_eq_true rfl)) dR_mixes_14 ⟨Nat.zero_le _, Nat.zero_le _⟩) (fun H locs hP hD hS => ?_)
  refine lv_icmp_gt (tgt := 113) hx hb dR_mixes_17 (by decide) (fun c5 => ?_) (fun c5 => ?_)
  · have hm := brp hm c5
    refine lv_aload_n hx hb dR_mixes_113 rfl (lv_at hl 0 rfl) ?_
    refine va_get (D := D) (ci := 6) (v := .int (I2 0 28)) (C := RR) (T := TR) (N := 31) hx hb hT inR hown hK hP 0 rfl rfl 28 (by decide) (hT _ wd_563) (fun _ h9 => h9) rfl dR_mixes_114 ?_
    obtain ⟨g6, hm⟩ := gd_to hm
    exact W.zret hx hb hr g6 (fun t ht hW => ⟨⟨I2 0 28, (I2, J3), rfl, Option.some.inj hm, ht ▸ hP, va_K.moved hW.alike hK, hD⟩, hS.F ht⟩) hS.2.2 dR_mixes_117 hlk
  · have hm := brn hm c5
    refine lv_iconst (v := 0) hx hb dR_mixes_20 (by decide) ?_
    refine lv_istore_n (lv' := [(3, .int 0), (0, .ref (ad 0)), (1, .int x1), (2, .int x2)]) hx hb dR_mixes_21 rfl hl (by decide) rfl (fun ls hl => ?_)
    exact hk22 x1 x2 0 I2 J3 hm _ _ _ hP hD hS (lv_sub hl [1, 2, 3, 0] rfl)
set_option maxHeartbeats 4000000 in
set_option maxRecDepth 100000 in
theorem w_R_mixes_22 {p : Program} {l : Launch} {e : Env} {s : State} {m : MethodId} {args : Array Value} {below : List Frame} {meth : Method} {c : Code} {D : va_G} {A : Nat → Prop} {ad : Nat → Nat} {cI cJ cG : ClassId} {res : Int32 × SI × SJ} (X : Cx p s m args meth c bR_mixes (some .boolean) 6 RR) (hK : va_K D vwCl (tysR cI cJ cG) s) (hN : NWs s) (hA : ∀ q, s.heap.size ≤ q → A q)
    {k11 : Int32 → Int32 → SI → SJ → Option (Int32 × SI × SJ)} (hk11 : ∀ (x1 : Int32) (x2 : Int32) (I : SI) (J : SJ), k11 x1 x2 I J = some res → WB p l e (headSpec (Cond.code yR_mixes bR_mixes 6 (some .boolean) :: gtb) rm_R_mixes).room s m args below meth c (MQ below (va_Qi (fun (r : Int32) (u : SI × SJ) => (r, u) = res) (atW D vwCl (tysR cI cJ cG) A (wsR ad cI cJ cG)) A) args s 0 0 A) D vwCl A 6 (wsR ad cI cJ cG I J) 11 [(0, .ref (ad 0)), (1, .int x1), (2, .int x2)] [])
    {k34 : Int32 → Int32 → Int32 → Int32 → SI → SJ → Option (Int32 × SI × SJ)} (hk34 : ∀ (x1 : Int32) (x2 : Int32) (x3 : Int32) (x4 : Int32) (I : SI) (J : SJ), k34 x1 x2 x3 x4 I J = some res → WB p l e (headSpec (Cond.code yR_mixes bR_mixes 6 (some .boolean) :: gtb) rm_R_mixes).room s m args below meth c (MQ below (va_Qi (fun (r : Int32) (u : SI × SJ) => (r, u) = res) (atW D vwCl (tysR cI cJ cG) A (wsR ad cI cJ cG)) A) args s 0 0 A) D vwCl A 6 (wsR ad cI cJ cG I J) 34 [(0, .ref (ad 0)), (1, .int x1), (2, .int x2), (3, .int x3), (4, .int x4)] [])
     (x1 : Int32) (x2 : Int32) (x3 : Int32) (I : SI) (J : SJ) (hm : b_R_mixes_22 k11 k34 x1 x2 x3 I J = some res) : WB p l e (headSpec (Cond.code yR_mixes bR_mixes 6 (some .boolean) :: gtb) rm_R_mixes).room s m args below meth c (MQ below (va_Qi (fun (r : Int32) (u : SI × SJ) => (r, u) = res) (atW D vwCl (tysR cI cJ cG) A (wsR ad cI cJ cG)) A) args s 0 0 A) D vwCl A 6 (wsR ad cI cJ cG I J) 22 [(0, .ref (ad 0)), (1, .int x1), (2, .int x2), (3, .int x3)] [] := by
  obtain ⟨hx, hb, hr, hml, hown, hT, hlk⟩ := X
  intro H locs ls hP hD hS hl
  unfold b_R_mixes_22 at hm
  refine lv_iload_n hx hb dR_mixes_22 rfl (lv_at hl 3 rfl) ?_
  refine lv_aload_n hx hb dR_mixes_23 rfl (lv_at hl 0 rfl) ?_
  refine lv_iconst (v := 1) hx hb dR_mixes_24 (by decide) ?_
  obtain ⟨r1, I2, J3, hc4, hm⟩ := cl3_to hm
  refine pst_i (wf := wsR ad cI cJ cG) hD hS hA (va_runV (As := [.int 1]) (rest := [.int x3]) ⟨hx, hb, hml, hown, hT⟩ (c_R_most l D ad cI cJ cG _ 1 I J _ hc4) (cwV 1 hT (gV wd_730 wd_732 wd_47 wd_57 wd_733) rfl rfl rfl (by decide +kernel) ⟨Nat.le_of_ble_eq_true rfl, Nat.le_of_ble_eq_true rfl⟩) ⟨preW_fb, va_recv hK hP (ci := 6) (q0 := 0) rfl rfl, preW_at hP hK hN hD⟩ rfl rfl hl.1 rfl (lv_room (Nat.le_of_ble_eq_true rfl)) dR_mixes_25 ⟨Nat.zero_le _, Nat.zero_le _⟩) (fun H locs hP hD hS => ?_)
  refine lv_icmp_gt (tgt := 107) hx hb dR_mixes_28 (by decide) (fun c5 => ?_) (fun c5 => ?_)
  · have hm := brp hm c5
    obtain ⟨v6, ev6⟩ : ∃ z : Int32, z = x2 + 1 := ⟨_, rfl⟩
    have hm := nm_to ev6 hm
    refine lv_iinc (v := v6) (lv' := [(2, .int v6), (0, .ref (ad 0)), (1, .int x1), (3, .int x3)]) hx hb dR_mixes_107 hl (k := 2) rfl (by rw [ev6]; rfl) (by decide) rfl (fun ls hl => ?_)
    refine lv_goto (tgt := 11) hx hb dR_mixes_110 (by decide) ?_
    exact hk11 x1 v6 I2 J3 hm _ _ _ hP hD hS (lv_sub hl [1, 2, 0] rfl)
  · have hm := brn hm c5
    refine lv_iconst (v := 0) hx hb dR_mixes_31 (by decide) ?_
    refine lv_istore (lv' := [(4, .int 0), (0, .ref (ad 0)), (1, .int x1), (2, .int x2), (3, .int x3)]) hx hb dR_mixes_32 hl (by decide) rfl (fun ls hl => ?_)
    exact hk34 x1 x2 x3 0 I2 J3 hm _ _ _ hP hD hS (lv_sub hl [1, 2, 3, 4, 0] rfl)
set_option maxHeartbeats 4000000 in
set_option maxRecDepth 100000 in
theorem w_R_mixes_34 {p : Program} {l : Launch} {e : Env} {s : State} {m : MethodId} {args : Array Value} {below : List Frame} {meth : Method} {c : Code} {D : va_G} {A : Nat → Prop} {ad : Nat → Nat} {cI cJ cG : ClassId} {res : Int32 × SI × SJ} (X : Cx p s m args meth c bR_mixes (some .boolean) 6 RR) (hK : va_K D vwCl (tysR cI cJ cG) s) (hN : NWs s) (hA : ∀ q, s.heap.size ≤ q → A q)
    {k22 : Int32 → Int32 → Int32 → SI → SJ → Option (Int32 × SI × SJ)} (hk22 : ∀ (x1 : Int32) (x2 : Int32) (x3 : Int32) (I : SI) (J : SJ), k22 x1 x2 x3 I J = some res → WB p l e (headSpec (Cond.code yR_mixes bR_mixes 6 (some .boolean) :: gtb) rm_R_mixes).room s m args below meth c (MQ below (va_Qi (fun (r : Int32) (u : SI × SJ) => (r, u) = res) (atW D vwCl (tysR cI cJ cG) A (wsR ad cI cJ cG)) A) args s 0 0 A) D vwCl A 6 (wsR ad cI cJ cG I J) 22 [(0, .ref (ad 0)), (1, .int x1), (2, .int x2), (3, .int x3)] [])
    {k47 : Int32 → Int32 → Int32 → Int32 → Int32 → SI → SJ → Option (Int32 × SI × SJ)} (hk47 : ∀ (x1 : Int32) (x2 : Int32) (x3 : Int32) (x4 : Int32) (x5 : Int32) (I : SI) (J : SJ), k47 x1 x2 x3 x4 x5 I J = some res → WB p l e (headSpec (Cond.code yR_mixes bR_mixes 6 (some .boolean) :: gtb) rm_R_mixes).room s m args below meth c (MQ below (va_Qi (fun (r : Int32) (u : SI × SJ) => (r, u) = res) (atW D vwCl (tysR cI cJ cG) A (wsR ad cI cJ cG)) A) args s 0 0 A) D vwCl A 6 (wsR ad cI cJ cG I J) 47 [(0, .ref (ad 0)), (1, .int x1), (2, .int x2), (3, .int x3), (4, .int x4), (5, .int x5)] [])
     (x1 : Int32) (x2 : Int32) (x3 : Int32) (x4 : Int32) (I : SI) (J : SJ) (hm : b_R_mixes_34 k22 k47 x1 x2 x3 x4 I J = some res) : WB p l e (headSpec (Cond.code yR_mixes bR_mixes 6 (some .boolean) :: gtb) rm_R_mixes).room s m args below meth c (MQ below (va_Qi (fun (r : Int32) (u : SI × SJ) => (r, u) = res) (atW D vwCl (tysR cI cJ cG) A (wsR ad cI cJ cG)) A) args s 0 0 A) D vwCl A 6 (wsR ad cI cJ cG I J) 34 [(0, .ref (ad 0)), (1, .int x1), (2, .int x2), (3, .int x3), (4, .int x4)] [] := by
  obtain ⟨hx, hb, hr, hml, hown, hT, hlk⟩ := X
  intro H locs ls hP hD hS hl
  unfold b_R_mixes_34 at hm
  refine lv_iload hx hb dR_mixes_34 (lv_at hl 4 rfl) ?_
  refine lv_aload_n hx hb dR_mixes_36 rfl (lv_at hl 0 rfl) ?_
  refine lv_iconst (v := 2) hx hb dR_mixes_37 (by decide) ?_
  obtain ⟨r1, I2, J3, hc4, hm⟩ := cl3_to hm
  refine pst_i (wf := wsR ad cI cJ cG) hD hS hA (va_runV (As := [.int 2]) (rest := [.int x4]) ⟨hx, hb, hml, hown, hT⟩ (c_R_most l D ad cI cJ cG _ 2 I J _ hc4) (cwV 1 hT (gV wd_730 wd_732 wd_47 wd_57 wd_733) rfl rfl rfl (by decide +kernel) ⟨Nat.le_of_ble_eq_true rfl, Nat.le_of_ble_eq_true rfl⟩) ⟨preW_fb, va_recv hK hP (ci := 6) (q0 := 0) rfl rfl, preW_at hP hK hN hD⟩ rfl rfl hl.1 rfl (lv_room (Nat.le_of_ble_eq_true rfl)) dR_mixes_38 ⟨Nat.zero_le _, Nat.zero_le _⟩) (fun H locs hP hD hS => ?_)
  refine lv_icmp_gt (tgt := 101) hx hb dR_mixes_41 (by decide) (fun c5 => ?_) (fun c5 => ?_)
  · have hm := brp hm c5
    obtain ⟨v6, ev6⟩ : ∃ z : Int32, z = x3 + 1 := ⟨_, rfl⟩
    have hm := nm_to ev6 hm
    refine lv_iinc (v := v6) (lv' := [(3, .int v6), (0, .ref (ad 0)), (1, .int x1), (2, .int x2), (4, .int x4)]) hx hb dR_mixes_101 hl (k := 3) rfl (by rw [ev6]; rfl) (by decide) rfl (fun ls hl => ?_)
    refine lv_goto (tgt := 22) hx hb dR_mixes_104 (by decide) ?_
    exact hk22 x1 x2 v6 I2 J3 hm _ _ _ hP hD hS (lv_sub hl [1, 2, 3, 0] rfl)
  · have hm := brn hm c5
    refine lv_iconst (v := 0) hx hb dR_mixes_44 (by decide) ?_
    refine lv_istore (lv' := [(5, .int 0), (0, .ref (ad 0)), (1, .int x1), (2, .int x2), (3, .int x3), (4, .int x4)]) hx hb dR_mixes_45 hl (by decide) rfl (fun ls hl => ?_)
    exact hk47 x1 x2 x3 x4 0 I2 J3 hm _ _ _ hP hD hS (lv_sub hl [1, 2, 3, 4, 5, 0] rfl)
set_option maxHeartbeats 4000000 in
set_option maxRecDepth 100000 in
theorem w_R_mixes_47 {p : Program} {l : Launch} {e : Env} {s : State} {m : MethodId} {args : Array Value} {below : List Frame} {meth : Method} {c : Code} {D : va_G} {A : Nat → Prop} {ad : Nat → Nat} {cI cJ cG : ClassId} {res : Int32 × SI × SJ} (X : Cx p s m args meth c bR_mixes (some .boolean) 6 RR) (hK : va_K D vwCl (tysR cI cJ cG) s) (hN : NWs s) (hA : ∀ q, s.heap.size ≤ q → A q)
    {k34 : Int32 → Int32 → Int32 → Int32 → SI → SJ → Option (Int32 × SI × SJ)} (hk34 : ∀ (x1 : Int32) (x2 : Int32) (x3 : Int32) (x4 : Int32) (I : SI) (J : SJ), k34 x1 x2 x3 x4 I J = some res → WB p l e (headSpec (Cond.code yR_mixes bR_mixes 6 (some .boolean) :: gtb) rm_R_mixes).room s m args below meth c (MQ below (va_Qi (fun (r : Int32) (u : SI × SJ) => (r, u) = res) (atW D vwCl (tysR cI cJ cG) A (wsR ad cI cJ cG)) A) args s 0 0 A) D vwCl A 6 (wsR ad cI cJ cG I J) 34 [(0, .ref (ad 0)), (1, .int x1), (2, .int x2), (3, .int x3), (4, .int x4)] [])
    {k47 : Int32 → Int32 → Int32 → Int32 → Int32 → SI → SJ → Option (Int32 × SI × SJ)} (hk47 : ∀ (x1 : Int32) (x2 : Int32) (x3 : Int32) (x4 : Int32) (x5 : Int32) (I : SI) (J : SJ), k47 x1 x2 x3 x4 x5 I J = some res → WB p l e (headSpec (Cond.code yR_mixes bR_mixes 6 (some .boolean) :: gtb) rm_R_mixes).room s m args below meth c (MQ below (va_Qi (fun (r : Int32) (u : SI × SJ) => (r, u) = res) (atW D vwCl (tysR cI cJ cG) A (wsR ad cI cJ cG)) A) args s 0 0 A) D vwCl A 6 (wsR ad cI cJ cG I J) 47 [(0, .ref (ad 0)), (1, .int x1), (2, .int x2), (3, .int x3), (4, .int x4), (5, .int x5)] [])
     (x1 : Int32) (x2 : Int32) (x3 : Int32) (x4 : Int32) (x5 : Int32) (I : SI) (J : SJ) (hm : b_R_mixes_47 k34 k47 x1 x2 x3 x4 x5 I J = some res) : WB p l e (headSpec (Cond.code yR_mixes bR_mixes 6 (some .boolean) :: gtb) rm_R_mixes).room s m args below meth c (MQ below (va_Qi (fun (r : Int32) (u : SI × SJ) => (r, u) = res) (atW D vwCl (tysR cI cJ cG) A (wsR ad cI cJ cG)) A) args s 0 0 A) D vwCl A 6 (wsR ad cI cJ cG I J) 47 [(0, .ref (ad 0)), (1, .int x1), (2, .int x2), (3, .int x3), (4, .int x4), (5, .int x5)] [] := by
  obtain ⟨hx, hb, hr, hml, hown, hT, hlk⟩ := X
  intro H locs ls hP hD hS hl
  unfold b_R_mixes_47 at hm
  refine lv_iload hx hb dR_mixes_47 (lv_at hl 5 rfl) ?_
  refine lv_aload_n hx hb dR_mixes_49 rfl (lv_at hl 0 rfl) ?_
  refine lv_iconst (v := 3) hx hb dR_mixes_50 (by decide) ?_
  obtain ⟨r1, I2, J3, hc4, hm⟩ := cl3_to hm
  refine pst_i (wf := wsR ad cI cJ cG) hD hS hA (va_runV (As := [.int 3]) (rest := [.int x5]) ⟨hx, hb, hml, hown, hT⟩ (c_R_most l D ad cI cJ cG _ 3 I J _ hc4) (cwV 1 hT (gV wd_730 wd_732 wd_47 wd_57 wd_733) rfl rfl rfl (by decide +kernel) ⟨Nat.le_of_ble_eq_true rfl, Nat.le_of_ble_eq_true rfl⟩) ⟨preW_fb, va_recv hK hP (ci := 6) (q0 := 0) rfl rfl, preW_at hP hK hN hD⟩ rfl rfl hl.1 rfl (lv_room (Nat.le_of_ble_eq_true rfl)) dR_mixes_51 ⟨Nat.zero_le _, Nat.zero_le _⟩) (fun H locs hP hD hS => ?_)
  refine lv_icmp_gt (tgt := 95) hx hb dR_mixes_54 (by decide) (fun c5 => ?_) (fun c5 => ?_)
  · have hm := brp hm c5
    obtain ⟨v6, ev6⟩ : ∃ z : Int32, z = x4 + 1 := ⟨_, rfl⟩
    have hm := nm_to ev6 hm
    refine lv_iinc (v := v6) (lv' := [(4, .int v6), (0, .ref (ad 0)), (1, .int x1), (2, .int x2), (3, .int x3), (5, .int x5)]) hx hb dR_mixes_95 hl (k := 4) rfl (by rw [ev6]; rfl) (by decide) rfl (fun ls hl => ?_)
    refine lv_goto (tgt := 34) hx hb dR_mixes_98 (by decide) ?_
    exact hk34 x1 x2 x3 v6 I2 J3 hm _ _ _ hP hD hS (lv_sub hl [1, 2, 3, 4, 0] rfl)
  · have hm := brn hm c5
    refine lv_aload_n hx hb dR_mixes_57 rfl (lv_at hl 0 rfl) ?_
    refine lv_iconst (v := 0) hx hb dR_mixes_58 (by decide) ?_
    refine lv_iload_n hx hb dR_mixes_59 rfl (lv_at hl 2 rfl) ?_
    obtain ⟨I8, J9, hc10, hm⟩ := cl2_to hm
    refine pst_v (wf := wsR ad cI cJ cG) hD hS hA (va_runV (As := [.int 0, .int x2]) (rest := []) ⟨hx, hb, hml, hown, hT⟩ (c_R_fix l D ad cI cJ cG _ 0 x2 I2 J3 _ hc10) (cwV 2 hT (gV wd_734 wd_736 wd_48 wd_57 wd_737) rfl rfl rfl (by decide +kernel) ⟨Nat.le_of_ble_eq_true rfl, Nat.le_of_ble_eq_true rfl⟩) ⟨preW_fb, va_recv hK hP (ci := 6) (q0 := 0) rfl rfl, preW_at hP hK hN hD⟩ rfl rfl hl.1 rfl (lv_room (Nat.le_of_ble_eq_true rfl)) dR_mixes_60 ⟨Nat.zero_le _, Nat.zero_le _⟩) (fun H locs hP hD hS => ?_)
    refine lv_aload_n hx hb dR_mixes_63 rfl (lv_at hl 0 rfl) ?_
    refine lv_iconst (v := 1) hx hb dR_mixes_64 (by decide) ?_
    refine lv_iload_n hx hb dR_mixes_65 rfl (lv_at hl 3 rfl) ?_
    obtain ⟨I12, J13, hc14, hm⟩ := cl2_to hm
    refine pst_v (wf := wsR ad cI cJ cG) hD hS hA (va_runV (As := [.int 1, .int x3]) (rest := []) ⟨hx, hb, hml, hown, hT⟩ (c_R_fix l D ad cI cJ cG _ 1 x3 I8 J9 _ hc14) (cwV 2 hT (gV wd_734 wd_736 wd_48 wd_57 wd_737) rfl rfl rfl (by decide +kernel) ⟨Nat.le_of_ble_eq_true rfl, Nat.le_of_ble_eq_true rfl⟩) ⟨preW_fb, va_recv hK hP (ci := 6) (q0 := 0) rfl rfl, preW_at hP hK hN hD⟩ rfl rfl hl.1 rfl (lv_room (Nat.le_of_ble_eq_true rfl)) dR_mixes_66 ⟨Nat.zero_le _, Nat.zero_le _⟩) (fun H locs hP hD hS => ?_)
    refine lv_aload_n hx hb dR_mixes_69 rfl (lv_at hl 0 rfl) ?_
    refine lv_iconst (v := 2) hx hb dR_mixes_70 (by decide) ?_
    refine lv_iload hx hb dR_mixes_71 (lv_at hl 4 rfl) ?_
    obtain ⟨I16, J17, hc18, hm⟩ := cl2_to hm
    refine pst_v (wf := wsR ad cI cJ cG) hD hS hA (va_runV (As := [.int 2, .int x4]) (rest := []) ⟨hx, hb, hml, hown, hT⟩ (c_R_fix l D ad cI cJ cG _ 2 x4 I12 J13 _ hc18) (cwV 2 hT (gV wd_734 wd_736 wd_48 wd_57 wd_737) rfl rfl rfl (by decide +kernel) ⟨Nat.le_of_ble_eq_true rfl, Nat.le_of_ble_eq_true rfl⟩) ⟨preW_fb, va_recv hK hP (ci := 6) (q0 := 0) rfl rfl, preW_at hP hK hN hD⟩ rfl rfl hl.1 rfl (lv_room (Nat.le_of_ble_eq_true rfl)) dR_mixes_73 ⟨Nat.zero_le _, Nat.zero_le _⟩) (fun H locs hP hD hS => ?_)
    refine lv_aload_n hx hb dR_mixes_76 rfl (lv_at hl 0 rfl) ?_
    refine lv_iconst (v := 3) hx hb dR_mixes_77 (by decide) ?_
    refine lv_iload hx hb dR_mixes_78 (lv_at hl 5 rfl) ?_
    obtain ⟨I20, J21, hc22, hm⟩ := cl2_to hm
    refine pst_v (wf := wsR ad cI cJ cG) hD hS hA (va_runV (As := [.int 3, .int x5]) (rest := []) ⟨hx, hb, hml, hown, hT⟩ (c_R_fix l D ad cI cJ cG _ 3 x5 I16 J17 _ hc22) (cwV 2 hT (gV wd_734 wd_736 wd_48 wd_57 wd_737) rfl rfl rfl (by decide +kernel) ⟨Nat.le_of_ble_eq_true rfl, Nat.le_of_ble_eq_true rfl⟩) ⟨preW_fb, va_recv hK hP (ci := 6) (q0 := 0) rfl rfl, preW_at hP hK hN hD⟩ rfl rfl hl.1 rfl (lv_room (Nat.le_of_ble_eq_true rfl)) dR_mixes_80 ⟨Nat.zero_le _, Nat.zero_le _⟩) (fun H locs hP hD hS => ?_)
    refine lv_aload_n hx hb dR_mixes_83 rfl (lv_at hl 0 rfl) ?_
    refine lv_iload_n hx hb dR_mixes_84 rfl (lv_at hl 1 rfl) ?_
    refine lv_iconst (v := 0) hx hb dR_mixes_85 (by decide) ?_
    obtain ⟨I24, J25, hc26, hm⟩ := cl2_to hm
    refine pst_v (wf := wsR ad cI cJ cG) hD hS hA (va_runV (As := [.int x1, .int 0]) (rest := []) ⟨hx, hb, hml, hown, hT⟩ (c_R_corners l D ad cI cJ cG _ x1 0 I20 J21 _ hc26) (cwV 2 hT (gV wd_685 wd_687 wd_37 wd_57 wd_688) rfl rfl rfl (by decide +kernel) ⟨Nat.le_of_ble_eq_true rfl, Nat.le_of_ble_eq_true rfl⟩) ⟨preW_fb, va_recv hK hP (ci := 6) (q0 := 0) rfl rfl, preW_at hP hK hN hD⟩ rfl rfl hl.1 rfl (lv_room (Nat.le_of_ble_eq_true rfl)) dR_mixes_86 ⟨Nat.zero_le _, Nat.zero_le _⟩) (fun H locs hP hD hS => ?_)
    obtain ⟨v27, ev27⟩ : ∃ z : Int32, z = x5 + 1 := ⟨_, rfl⟩
    have hm := nm_to ev27 hm
    refine lv_iinc (v := v27) (lv' := [(5, .int v27), (0, .ref (ad 0)), (1, .int x1), (2, .int x2), (3, .int x3), (4, .int x4)]) hx hb dR_mixes_89 hl (k := 5) rfl (by rw [ev27]; rfl) (by decide) rfl (fun ls hl => ?_)
    refine lv_goto (tgt := 47) hx hb dR_mixes_92 (by decide) ?_
    exact hk47 x1 x2 x3 x4 v27 I24 J25 hm _ _ _ hP hD hS (lv_sub hl [1, 2, 3, 4, 5, 0] rfl)
set_option maxHeartbeats 4000000 in
set_option maxRecDepth 100000 in
theorem w_R_mixes_0 {p : Program} {l : Launch} {e : Env} {s : State} {m : MethodId} {args : Array Value} {below : List Frame} {meth : Method} {c : Code} {D : va_G} {A : Nat → Prop} {ad : Nat → Nat} {cI cJ cG : ClassId} {res : Int32 × SI × SJ} (X : Cx p s m args meth c bR_mixes (some .boolean) 6 RR) (hK : va_K D vwCl (tysR cI cJ cG) s) (hN : NWs s) (hA : ∀ q, s.heap.size ≤ q → A q)
    {k11 : Int32 → Int32 → SI → SJ → Option (Int32 × SI × SJ)} (hk11 : ∀ (x1 : Int32) (x2 : Int32) (I : SI) (J : SJ), k11 x1 x2 I J = some res → WB p l e (headSpec (Cond.code yR_mixes bR_mixes 6 (some .boolean) :: gtb) rm_R_mixes).room s m args below meth c (MQ below (va_Qi (fun (r : Int32) (u : SI × SJ) => (r, u) = res) (atW D vwCl (tysR cI cJ cG) A (wsR ad cI cJ cG)) A) args s 0 0 A) D vwCl A 6 (wsR ad cI cJ cG I J) 11 [(0, .ref (ad 0)), (1, .int x1), (2, .int x2)] [])
     (x1 : Int32) (I : SI) (J : SJ) (hm : b_R_mixes_0 k11 x1 I J = some res) : WB p l e (headSpec (Cond.code yR_mixes bR_mixes 6 (some .boolean) :: gtb) rm_R_mixes).room s m args below meth c (MQ below (va_Qi (fun (r : Int32) (u : SI × SJ) => (r, u) = res) (atW D vwCl (tysR cI cJ cG) A (wsR ad cI cJ cG)) A) args s 0 0 A) D vwCl A 6 (wsR ad cI cJ cG I J) 0 [(0, .ref (ad 0)), (1, .int x1)] [] := by
  obtain ⟨hx, hb, hr, hml, hown, hT, hlk⟩ := X
  intro H locs ls hP hD hS hl
  unfold b_R_mixes_0 at hm
  refine lv_aload_n hx hb dR_mixes_0 rfl (lv_at hl 0 rfl) ?_
  obtain ⟨I2, J3, hc4, hm⟩ := cl2_to hm
  refine pst_v (wf := wsR ad cI cJ cG) hD hS hA (va_runV (As := []) (rest := []) ⟨hx, hb, hml, hown, hT⟩ (c_R_countAll l D ad cI cJ cG _ I J _ hc4) (cwV 0 hT (gV wd_669 wd_671 wd_33 wd_57 wd_672) rfl rfl rfl (by decide +kernel) ⟨Nat.le_of_ble_eq_true rfl, Nat.le_of_ble_eq_true rfl⟩) ⟨preW_fb, va_recv hK hP (ci := 6) (q0 := 0) rfl rfl, preW_at hP hK hN hD⟩ rfl rfl hl.1 rfl (lv_room (Nat.le_of_ble_eq_true rfl)) dR_mixes_1 ⟨Nat.zero_le _, Nat.zero_le _⟩) (fun H locs hP hD hS => ?_)
  refine lv_aload_n hx hb dR_mixes_4 rfl (lv_at hl 0 rfl) ?_
  refine lv_iconst (v := 0) hx hb dR_mixes_5 (by decide) ?_
  refine va_put (D := D) (ci := 6) (v := .int 0) (ty := .boolean) (C := RR) (T := TR) (N := 31) hx hb hT inR tyR okR nmR hown hK hP hD hS 0 rfl rfl 28 (by decide) (hT _ wd_563) (fun _ h9 => h9) rfl pf_Z rfl rfl (Nat.le_of_ble_eq_true rfl) dR_mixes_6 (fun H locs hP hD hS => ?_)
  obtain ⟨I5, eI5⟩ : ∃ z : SI, z = va_up I2 0 (upd (I2 0) 28 0) := ⟨_, rfl⟩
  have hm := nm_to eI5 hm
  have hP := P_eq (ws2 := wsR ad cI cJ cG I5 J3) hP (by rw [eI5]; rfl)
  have hD := D_eq (ws2 := wsR ad cI cJ cG I5 J3) hD (by rw [eI5]; rfl)
  refine lv_iconst (v := 0) hx hb dR_mixes_9 (by decide) ?_
  refine lv_istore_n (lv' := [(2, .int 0), (0, .ref (ad 0)), (1, .int x1)]) hx hb dR_mixes_10 rfl hl (by decide) rfl (fun ls hl => ?_)
  exact hk11 x1 0 I5 J3 hm _ _ _ hP hD hS (lv_sub hl [1, 2, 0] rfl)
set_option maxHeartbeats 4000000 in
theorem gw_R_mixes {p : Program} {l : Launch} {e : Env} {s : State} {m : MethodId} {args : Array Value} {below : List Frame} {meth : Method} {c : Code} {D : va_G} {A : Nat → Prop} {ad : Nat → Nat} {cI cJ cG : ClassId} {res : Int32 × SI × SJ} (X : Cx p s m args meth c bR_mixes (some .boolean) 6 RR) (hK : va_K D vwCl (tysR cI cJ cG) s) (hN : NWs s) (hA : ∀ q, s.heap.size ≤ q → A q) : ∀ n : Nat, (∀ (x1 : Int32) (x2 : Int32) (I : SI) (J : SJ), (g_R_mixes n).1 x1 x2 I J = some res → WB p l e (headSpec (Cond.code yR_mixes bR_mixes 6 (some .boolean) :: gtb) rm_R_mixes).room s m args below meth c (MQ below (va_Qi (fun (r : Int32) (u : SI × SJ) => (r, u) = res) (atW D vwCl (tysR cI cJ cG) A (wsR ad cI cJ cG)) A) args s 0 0 A) D vwCl A 6 (wsR ad cI cJ cG I J) 11 [(0, .ref (ad 0)), (1, .int x1), (2, .int x2)] []) ∧ (∀ (x1 : Int32) (x2 : Int32) (x3 : Int32) (I : SI) (J : SJ), (g_R_mixes n).2.1 x1 x2 x3 I J = some res → WB p l e (headSpec (Cond.code yR_mixes bR_mixes 6 (some .boolean) :: gtb) rm_R_mixes).room s m args below meth c (MQ below (va_Qi (fun (r : Int32) (u : SI × SJ) => (r, u) = res) (atW D vwCl (tysR cI cJ cG) A (wsR ad cI cJ cG)) A) args s 0 0 A) D vwCl A 6 (wsR ad cI cJ cG I J) 22 [(0, .ref (ad 0)), (1, .int x1), (2, .int x2), (3, .int x3)] []) ∧ (∀ (x1 : Int32) (x2 : Int32) (x3 : Int32) (x4 : Int32) (I : SI) (J : SJ), (g_R_mixes n).2.2.1 x1 x2 x3 x4 I J = some res → WB p l e (headSpec (Cond.code yR_mixes bR_mixes 6 (some .boolean) :: gtb) rm_R_mixes).room s m args below meth c (MQ below (va_Qi (fun (r : Int32) (u : SI × SJ) => (r, u) = res) (atW D vwCl (tysR cI cJ cG) A (wsR ad cI cJ cG)) A) args s 0 0 A) D vwCl A 6 (wsR ad cI cJ cG I J) 34 [(0, .ref (ad 0)), (1, .int x1), (2, .int x2), (3, .int x3), (4, .int x4)] []) ∧ (∀ (x1 : Int32) (x2 : Int32) (x3 : Int32) (x4 : Int32) (x5 : Int32) (I : SI) (J : SJ), (g_R_mixes n).2.2.2 x1 x2 x3 x4 x5 I J = some res → WB p l e (headSpec (Cond.code yR_mixes bR_mixes 6 (some .boolean) :: gtb) rm_R_mixes).room s m args below meth c (MQ below (va_Qi (fun (r : Int32) (u : SI × SJ) => (r, u) = res) (atW D vwCl (tysR cI cJ cG) A (wsR ad cI cJ cG)) A) args s 0 0 A) D vwCl A 6 (wsR ad cI cJ cG I J) 47 [(0, .ref (ad 0)), (1, .int x1), (2, .int x2), (3, .int x3), (4, .int x4), (5, .int x5)] []) := by
  intro n
  induction n with
  | zero => exact ⟨fun _ _ _ _ h => (by cases h), fun _ _ _ _ _ h => (by cases h), fun _ _ _ _ _ _ h => (by cases h), fun _ _ _ _ _ _ _ h => (by cases h)⟩
  | succ n ih =>
    obtain ⟨ih11, ih22, ih34, ih47⟩ := ih
    exact ⟨fun x1 x2 I J h => w_R_mixes_11 X hK hN hA ih22 x1 x2 I J h, fun x1 x2 x3 I J h => w_R_mixes_22 X hK hN hA ih11 ih34 x1 x2 x3 I J h, fun x1 x2 x3 x4 I J h => w_R_mixes_34 X hK hN hA ih22 ih47 x1 x2 x3 x4 I J h, fun x1 x2 x3 x4 x5 I J h => w_R_mixes_47 X hK hN hA ih34 ih47 x1 x2 x3 x4 x5 I J h⟩
set_option maxHeartbeats 4000000 in
set_option maxRecDepth 100000 in
theorem c_R_mixes (l : Launch) (D : va_G) (ad : Nat → Nat) (cI cJ cG : ClassId) (sz : Nat) (x1 : Int32) (I : SI) (J : SJ) (res : Int32 × SI × SJ) (hm : m_R_mixes x1 I J = some res) : Met l yR_mixes (Cond.code yR_mixes bR_mixes 6 (some .boolean) :: gtb) rm_R_mixes (va_Pc [.ref (ad 0), .int x1] (preW D vwCl (tysR cI cJ cG) (wsR ad cI cJ cG I J) sz)) (va_Qi (fun (r : Int32) (u : SI × SJ) => (r, u) = res) (atW D vwCl (tysR cI cJ cG) (va_A (wsR ad cI cJ cG I J) sz) (wsR ad cI cJ cG)) (va_A (wsR ad cI cJ cG I J) sz)) 0 0 (va_A (wsR ad cI cJ cG I J) sz) := by
  refine Met.ofW (cc := bR_mixes) (maxL := 6) (ret := (some .boolean)) (by decide) rfl ?_
  intro p e s m args below meth c s₁ B hml hv
  obtain ⟨rfl, hsz, hP, hK, hD0, hN⟩ := hv
  subst hsz
  have X : Cx p s m [.ref (ad 0), .int x1].toArray meth c bR_mixes (some .boolean) 6 RR := ⟨B.exec, B.bytes, B.returns, hml, findClass_of_methodNamed B.named, fun w h => atoms_spec (ws := (Cond.code yR_mixes bR_mixes 6 (some .boolean) :: gtb)) B.pre w (List.mem_cons_of_mem _ h), B.notSynchronized⟩
  have hl := lv_entry ([.ref (ad 0), .int x1]) (n := 6) (Nat.le_of_ble_eq_true rfl)
  rw [lg_entry_eq]
  generalize (lg_sl ([.ref (ad 0), .int x1]) ++ List.replicate (6 - (lg_sl ([.ref (ad 0), .int x1])).length) Slot.unset).toArray = ls at hl ⊢
  have hl : lv_has ls 6 [(0, .ref (ad 0)), (1, .int x1)] := hl
  have hA : ∀ q, s.heap.size ≤ q → va_A (wsR ad cI cJ cG I J) s.heap.size q := fun q h => Or.inr h
  exact w_R_mixes_0 X hK hN hA (gw_R_mixes X hK hN hA fuel).1 x1 I J hm _ _ _ hP hD0.self va_S.rf hl
def b_R_keepMix_12 (k12 : Int32 → Int32 → SI → SJ → Option (SI × SJ)) (k107 : Int32 → Int32 → SI → SJ → Option (SI × SJ)) (x1 : Int32) (x2 : Int32) (I : SI) (J : SJ) : Option (SI × SJ) :=
  if (I 0 0) ≤ x2 then
    cl3 (m_R_costOf 17 I J) fun r2 I3 J4 =>
    cl1 (m_R_divisor r2 (J4 0 30)) fun r6 =>
    gd (¬ r6 = 0) <|
    nm (r2 / r6) fun v9 =>
    nm (va_up J4 0 (vp_updL (J4 0) 14 v9)) fun J10 =>
    gd (¬ r6 = 0) <|
    nm ((J10 0 30) / r6) fun v12 =>
    nm (va_up J10 0 (vp_updL (J10 0) 15 v12)) fun J13 =>
    k107 x1 0 I3 J13
  else
    gd (vin x2 4) <|
    nm (J 17 x2.toNatClampNeg) fun v15 =>
    cl1 (m_R_divisor v15 (J 0 30)) fun r16 =>
    gd (vin x2 4) <|
    nm (J 17 x2.toNatClampNeg) fun v19 =>
    gd (¬ r16 = 0) <|
    nm (v19 / r16) fun v21 =>
    gd (vin x2 4) <|
    nm (va_up J 9 (vp_updL (J 9) x2.toNatClampNeg v21)) fun J23 =>
    gd (¬ r16 = 0) <|
    nm ((J23 0 30) / r16) fun v25 =>
    gd (vin x2 4) <|
    nm (va_up J23 10 (vp_updL (J23 10) x2.toNatClampNeg v25)) fun J27 =>
    nm (x2 + 1) fun v28 =>
    k12 x1 v28 I J27
def b_R_keepMix_107 (k107 : Int32 → Int32 → SI → SJ → Option (SI × SJ)) (x1 : Int32) (x6 : Int32) (I : SI) (J : SJ) : Option (SI × SJ) :=
  if 18 ≤ x6 then
    some (I, J)
  else
    cl3 (m_R_isThere x6 I J) fun r2 I3 J4 =>
    if r2 = 0 then
      nm ((I 0 16) ||| 0) fun v7 =>
      nm (va_up I3 0 (upd (I3 0) 16 v7)) fun I8 =>
      nm (x6 + 1) fun v9 =>
      k107 x1 v9 I8 J4
    else
      cl3 (m_R_over x6 x1 17 (J4 0 30) I3 J4) fun r10 I11 J12 =>
      nm (lg_cmp r10 0) fun v14 =>
      if v14 = 0 then
        nm (1 <<< (x6 &&& 31)) fun v19 =>
        nm ((I 0 16) ||| v19) fun v20 =>
        nm (va_up I11 0 (upd (I11 0) 16 v20)) fun I21 =>
        nm (x6 + 1) fun v22 =>
        k107 x1 v22 I21 J12
      else
        nm ((I 0 16) ||| 0) fun v16 =>
        nm (va_up I11 0 (upd (I11 0) 16 v16)) fun I17 =>
        nm (x6 + 1) fun v18 =>
        k107 x1 v18 I17 J12
def b_R_keepMix_0 (k12 : Int32 → Int32 → SI → SJ → Option (SI × SJ)) (x1 : Int32) (I : SI) (J : SJ) : Option (SI × SJ) :=
  nm (va_up I 0 (upd (I 0) 10 0)) fun I1 =>
  nm (va_up I1 0 (upd (I1 0) 16 0)) fun I2 =>
  k12 x1 0 I2 J
def g_R_keepMix : Nat → (Int32 → Int32 → SI → SJ → Option (SI × SJ)) × (Int32 → Int32 → SI → SJ → Option (SI × SJ))
  | 0 => (fun _ _ _ _ => none, fun _ _ _ _ => none)
  | n + 1 => (fun x1 x2 I J => b_R_keepMix_12 (g_R_keepMix n).1 (g_R_keepMix n).2 x1 x2 I J, fun x1 x6 I J => b_R_keepMix_107 (g_R_keepMix n).2 x1 x6 I J)
def m_R_keepMix (x1 : Int32) (I : SI) (J : SJ) : Option (SI × SJ) := b_R_keepMix_0 (g_R_keepMix fuel).1 x1 I J
def rm_R_keepMix : Room := { frames := 2, cells := 0, slots := 0, locals := 50 }
set_option maxHeartbeats 4000000 in
set_option maxRecDepth 100000 in
theorem w_R_keepMix_12 {p : Program} {l : Launch} {e : Env} {s : State} {m : MethodId} {args : Array Value} {below : List Frame} {meth : Method} {c : Code} {D : va_G} {A : Nat → Prop} {ad : Nat → Nat} {cI cJ cG : ClassId} {res : SI × SJ} (X : Cx p s m args meth c bR_keepMix none 7 RR) (hK : va_K D vwCl (tysR cI cJ cG) s) (hN : NWs s) (hA : ∀ q, s.heap.size ≤ q → A q)
    {k12 : Int32 → Int32 → SI → SJ → Option (SI × SJ)} (hk12 : ∀ (x1 : Int32) (x2 : Int32) (I : SI) (J : SJ), k12 x1 x2 I J = some res → WB p l e (headSpec (Cond.code yR_keepMix bR_keepMix 7 none :: gtb) rm_R_keepMix).room s m args below meth c (MQ below (va_Qv (fun (u : SI × SJ) => u = res) (atW D vwCl (tysR cI cJ cG) A (wsR ad cI cJ cG)) A) args s 0 0 A) D vwCl A 7 (wsR ad cI cJ cG I J) 12 [(0, .ref (ad 0)), (1, .int x1), (2, .int x2)] [])
    {k107 : Int32 → Int32 → SI → SJ → Option (SI × SJ)} (hk107 : ∀ (x1 : Int32) (x6 : Int32) (I : SI) (J : SJ), k107 x1 x6 I J = some res → WB p l e (headSpec (Cond.code yR_keepMix bR_keepMix 7 none :: gtb) rm_R_keepMix).room s m args below meth c (MQ below (va_Qv (fun (u : SI × SJ) => u = res) (atW D vwCl (tysR cI cJ cG) A (wsR ad cI cJ cG)) A) args s 0 0 A) D vwCl A 7 (wsR ad cI cJ cG I J) 107 [(0, .ref (ad 0)), (1, .int x1), (6, .int x6)] [])
     (x1 : Int32) (x2 : Int32) (I : SI) (J : SJ) (hm : b_R_keepMix_12 k12 k107 x1 x2 I J = some res) : WB p l e (headSpec (Cond.code yR_keepMix bR_keepMix 7 none :: gtb) rm_R_keepMix).room s m args below meth c (MQ below (va_Qv (fun (u : SI × SJ) => u = res) (atW D vwCl (tysR cI cJ cG) A (wsR ad cI cJ cG)) A) args s 0 0 A) D vwCl A 7 (wsR ad cI cJ cG I J) 12 [(0, .ref (ad 0)), (1, .int x1), (2, .int x2)] [] := by
  obtain ⟨hx, hb, hr, hml, hown, hT, hlk⟩ := X
  intro H locs ls hP hD hS hl
  unfold b_R_keepMix_12 at hm
  refine lv_iload_n hx hb dR_keepMix_12 rfl (lv_at hl 2 rfl) ?_
  refine lv_aload_n hx hb dR_keepMix_13 rfl (lv_at hl 0 rfl) ?_
  refine va_get (D := D) (ci := 6) (v := .int (I 0 0)) (C := RR) (T := TR) (N := 31) hx hb hT inR hown hK hP 0 rfl rfl 0 (by decide) (hT _ wd_535) (fun _ h9 => h9) rfl dR_keepMix_14 ?_
  refine lv_icmp_ge (tgt := 66) hx hb dR_keepMix_17 (by decide) (fun c1 => ?_) (fun c1 => ?_)
  · have hm := brp hm c1
    refine lv_aload_n hx hb dR_keepMix_66 rfl (lv_at hl 0 rfl) ?_
    refine lv_aload_n hx hb dR_keepMix_67 rfl (lv_at hl 0 rfl) ?_
    refine va_get (D := D) (ci := 6) (v := .ref (ad 17)) (C := RR) (T := TR) (N := 31) hx hb hT inR hown hK hP 0 rfl rfl 29 (by decide) (hT _ wd_564) (fun _ h9 => h9) rfl dR_keepMix_68 ?_
    obtain ⟨r2, I3, J4, hc5, hm⟩ := cl3_to hm
    refine pst_l (wf := wsR ad cI cJ cG) hD hS hA (va_runV (As := [.ref (ad 17)]) (rest := []) ⟨hx, hb, hml, hown, hT⟩ (c_R_costOf l D ad cI cJ cG _ 17 I J _ hc5) (cwV 1 hT (gV wd_722 wd_724 wd_45 wd_57 wd_725) rfl rfl rfl (by decide +kernel) ⟨Nat.le_of_ble_eq_true rfl, Nat.le_of_ble_eq_true rfl⟩) ⟨preW_fb, va_recv hK hP (ci := 6) (q0 := 0) rfl rfl, preW_at hP hK hN hD⟩ rfl rfl hl.1 rfl (lv_room (Nat.le_of_ble_eq_true rfl)) dR_keepMix_71 ⟨Nat.zero_le _, Nat.zero_le _⟩) (fun H locs hP hD hS => ?_)
    refine lv_lstore_n (lv' := [(2, .long r2), (0, .ref (ad 0)), (1, .int x1)]) hx hb dR_keepMix_74 rfl hl (by decide) rfl (fun ls hl => ?_)
    refine lv_lload_n hx hb dR_keepMix_75 rfl (lv_at hl 0 rfl) ?_
    refine lv_aload_n hx hb dR_keepMix_76 rfl (lv_at hl 1 rfl) ?_
    refine va_get (D := D) (ci := 6) (v := .long (J4 0 30)) (C := RR) (T := TR) (N := 31) hx hb hT inR hown hK hP 0 rfl rfl 30 (by decide) (hT _ wd_565) (fun _ h9 => h9) rfl dR_keepMix_77 ?_
    obtain ⟨r6, hc7, hm⟩ := cl1_to hm
    refine pstZ_l hS (va_runS (As := [.long r2, .long (J4 0 30)]) (rest := []) ⟨hx, hb, hml, hown, hT⟩ (c_R_divisor l r2 (J4 0 30) _ hc7) (va_cwS 2 hT (gS wd_742 wd_743 wd_57 wd_744) rfl rfl rfl (by decide +kernel) ⟨Nat.le_of_ble_eq_true rfl, Nat.le_of_ble_eq_true rfl⟩) ⟨preZ_fb, preZ_at⟩ rfl rfl hl.1 rfl (lv_room (Nat.le_of_ble_eq_true rfl)) dR_keepMix_80 ⟨Nat.zero_le _, Nat.zero_le _⟩) (fun H1 locs hq hS => ?_)
    have hP := keptP hP hq
    refine lv_lstore (lv' := [(4, .long r6), (2, .long r2), (0, .ref (ad 0)), (1, .int x1)]) hx hb dR_keepMix_83 hl (by decide) rfl (fun ls hl => ?_)
    refine lv_aload_n hx hb dR_keepMix_85 rfl (lv_at hl 2 rfl) ?_
    refine lv_lload_n hx hb dR_keepMix_86 rfl (lv_at hl 1 rfl) ?_
    refine lv_lload hx hb dR_keepMix_87 (lv_at hl 0 rfl) ?_
    obtain ⟨g8, hm⟩ := gd_to hm
    refine lv_ldiv hx hb dR_keepMix_89 g8 ?_
    refine lv_topl (fun v9 ev9 => ?_)
    have hm := nm_to ev9 hm
    refine va_put (D := D) (ci := 6) (v := .long v9) (ty := .long) (C := RR) (T := TR) (N := 31) hx hb hT inR tyR okR nmR hown hK hP hD hS 0 rfl rfl 14 (by decide) (hT _ wd_549) (fun _ h9 => h9) rfl pf_J rfl rfl (Nat.le_of_ble_eq_true rfl) dR_keepMix_90 (fun H locs hP hD hS => ?_)
    obtain ⟨J10, eJ10⟩ : ∃ z : SJ, z = va_up J4 0 (vp_updL (J4 0) 14 v9) := ⟨_, rfl⟩
    have hm := nm_to eJ10 hm
    have hP := P_eq (ws2 := wsR ad cI cJ cG I3 J10) hP (by rw [eJ10]; rfl)
    have hD := D_eq (ws2 := wsR ad cI cJ cG I3 J10) hD (by rw [eJ10]; rfl)
    refine lv_aload_n hx hb dR_keepMix_93 rfl (lv_at hl 2 rfl) ?_
    refine lv_aload_n hx hb dR_keepMix_94 rfl (lv_at hl 2 rfl) ?_
    refine va_get (D := D) (ci := 6) (v := .long (J10 0 30)) (C := RR) (T := TR) (N := 31) hx hb hT inR hown hK hP 0 rfl rfl 30 (by decide) (hT _ wd_565) (fun _ h9 => h9) rfl dR_keepMix_95 ?_
    refine lv_lload hx hb dR_keepMix_98 (lv_at hl 0 rfl) ?_
    obtain ⟨g11, hm⟩ := gd_to hm
    refine lv_ldiv hx hb dR_keepMix_100 g11 ?_
    refine lv_topl (fun v12 ev12 => ?_)
    have hm := nm_to ev12 hm
    refine va_put (D := D) (ci := 6) (v := .long v12) (ty := .long) (C := RR) (T := TR) (N := 31) hx hb hT inR tyR okR nmR hown hK hP hD hS 0 rfl rfl 15 (by decide) (hT _ wd_550) (fun _ h9 => h9) rfl pf_J rfl rfl (Nat.le_of_ble_eq_true rfl) dR_keepMix_101 (fun H locs hP hD hS => ?_)
    obtain ⟨J13, eJ13⟩ : ∃ z : SJ, z = va_up J10 0 (vp_updL (J10 0) 15 v12) := ⟨_, rfl⟩
    have hm := nm_to eJ13 hm
    have hP := P_eq (ws2 := wsR ad cI cJ cG I3 J13) hP (by rw [eJ13]; rfl)
    have hD := D_eq (ws2 := wsR ad cI cJ cG I3 J13) hD (by rw [eJ13]; rfl)
    refine lv_iconst (v := 0) hx hb dR_keepMix_104 (by decide) ?_
    refine lv_istore (lv' := [(6, .int 0), (4, .long r6), (2, .long r2), (0, .ref (ad 0)), (1, .int x1)]) hx hb dR_keepMix_105 hl (by decide) rfl (fun ls hl => ?_)
    exact hk107 x1 0 I3 J13 hm _ _ _ hP hD hS (lv_sub hl [3, 4, 0] rfl)
  · have hm := brn hm c1
    refine lv_aload_n hx hb dR_keepMix_20 rfl (lv_at hl 0 rfl) ?_
    refine va_get (D := D) (ci := 6) (v := .ref (ad 17)) (C := RR) (T := TR) (N := 31) hx hb hT inR hown hK hP 0 rfl rfl 29 (by decide) (hT _ wd_564) (fun _ h9 => h9) rfl dR_keepMix_21 ?_
    refine lv_iload_n hx hb dR_keepMix_24 rfl (lv_at hl 2 rfl) ?_
    obtain ⟨g14, hm⟩ := gd_to hm
    refine va_lald hx hb hK hP 17 1 rfl rfl g14 dR_keepMix_25 ?_
    refine lv_topl (fun v15 ev15 => ?_)
    have hm := nm_to ev15 hm
    refine lv_aload_n hx hb dR_keepMix_26 rfl (lv_at hl 0 rfl) ?_
    refine va_get (D := D) (ci := 6) (v := .long (J 0 30)) (C := RR) (T := TR) (N := 31) hx hb hT inR hown hK hP 0 rfl rfl 30 (by decide) (hT _ wd_565) (fun _ h9 => h9) rfl dR_keepMix_27 ?_
    obtain ⟨r16, hc17, hm⟩ := cl1_to hm
    refine pstZ_l hS (va_runS (As := [.long v15, .long (J 0 30)]) (rest := []) ⟨hx, hb, hml, hown, hT⟩ (c_R_divisor l v15 (J 0 30) _ hc17) (va_cwS 2 hT (gS wd_742 wd_743 wd_57 wd_744) rfl rfl rfl (by decide +kernel) ⟨Nat.le_of_ble_eq_true rfl, Nat.le_of_ble_eq_true rfl⟩) ⟨preZ_fb, preZ_at⟩ rfl rfl hl.1 rfl (lv_room (Nat.le_of_ble_eq_true rfl)) dR_keepMix_30 ⟨Nat.zero_le _, Nat.zero_le _⟩) (fun H1 locs hq hS => ?_)
    have hP := keptP hP hq
    refine lv_lstore_n (lv' := [(3, .long r16), (0, .ref (ad 0)), (1, .int x1), (2, .int x2)]) hx hb dR_keepMix_33 rfl hl (by decide) rfl (fun ls hl => ?_)
    refine lv_aload_n hx hb dR_keepMix_34 rfl (lv_at hl 1 rfl) ?_
    refine va_get (D := D) (ci := 6) (v := .ref (ad 9)) (C := RR) (T := TR) (N := 31) hx hb hT inR hown hK hP 0 rfl rfl 12 (by decide) (hT _ wd_547) (fun _ h9 => h9) rfl dR_keepMix_35 ?_
    refine lv_iload_n hx hb dR_keepMix_38 rfl (lv_at hl 3 rfl) ?_
    refine lv_aload_n hx hb dR_keepMix_39 rfl (lv_at hl 1 rfl) ?_
    refine va_get (D := D) (ci := 6) (v := .ref (ad 17)) (C := RR) (T := TR) (N := 31) hx hb hT inR hown hK hP 0 rfl rfl 29 (by decide) (hT _ wd_564) (fun _ h9 => h9) rfl dR_keepMix_40 ?_
    refine lv_iload_n hx hb dR_keepMix_43 rfl (lv_at hl 3 rfl) ?_
    obtain ⟨g18, hm⟩ := gd_to hm
    refine va_lald hx hb hK hP 17 1 rfl rfl g18 dR_keepMix_44 ?_
    refine lv_topl (fun v19 ev19 => ?_)
    have hm := nm_to ev19 hm
    refine lv_lload_n hx hb dR_keepMix_45 rfl (lv_at hl 0 rfl) ?_
    obtain ⟨g20, hm⟩ := gd_to hm
    refine lv_ldiv hx hb dR_keepMix_46 g20 ?_
    refine lv_topl (fun v21 ev21 => ?_)
    have hm := nm_to ev21 hm
    obtain ⟨g22, hm⟩ := gd_to hm
    refine va_last hx hb hK hP hD hS 9 1 rfl rfl g22 dR_keepMix_47 (fun H locs hP hD hS => ?_)
    obtain ⟨J23, eJ23⟩ : ∃ z : SJ, z = va_up J 9 (vp_updL (J 9) x2.toNatClampNeg v21) := ⟨_, rfl⟩
    have hm := nm_to eJ23 hm
    have hP := P_eq (ws2 := wsR ad cI cJ cG I J23) hP (by rw [eJ23]; rfl)
    have hD := D_eq (ws2 := wsR ad cI cJ cG I J23) hD (by rw [eJ23]; rfl)
    refine lv_aload_n hx hb dR_keepMix_48 rfl (lv_at hl 1 rfl) ?_
    refine va_get (D := D) (ci := 6) (v := .ref (ad 10)) (C := RR) (T := TR) (N := 31) hx hb hT inR hown hK hP 0 rfl rfl 13 (by decide) (hT _ wd_548) (fun _ h9 => h9) rfl dR_keepMix_49 ?_
    refine lv_iload_n hx hb dR_keepMix_52 rfl (lv_at hl 3 rfl) ?_
    refine lv_aload_n hx hb dR_keepMix_53 rfl (lv_at hl 1 rfl) ?_
    refine va_get (D := D) (ci := 6) (v := .long (J23 0 30)) (C := RR) (T := TR) (N := 31) hx hb hT inR hown hK hP 0 rfl rfl 30 (by decide) (hT _ wd_565) (fun _ h9 => h9) rfl dR_keepMix_54 ?_
    refine lv_lload_n hx hb dR_keepMix_57 rfl (lv_at hl 0 rfl) ?_
    obtain ⟨g24, hm⟩ := gd_to hm
    refine lv_ldiv hx hb dR_keepMix_58 g24 ?_
    refine lv_topl (fun v25 ev25 => ?_)
    have hm := nm_to ev25 hm
    obtain ⟨g26, hm⟩ := gd_to hm
    refine va_last hx hb hK hP hD hS 10 1 rfl rfl g26 dR_keepMix_59 (fun H locs hP hD hS => ?_)
    obtain ⟨J27, eJ27⟩ : ∃ z : SJ, z = va_up J23 10 (vp_updL (J23 10) x2.toNatClampNeg v25) := ⟨_, rfl⟩
    have hm := nm_to eJ27 hm
    have hP := P_eq (ws2 := wsR ad cI cJ cG I J27) hP (by rw [eJ27]; rfl)
    have hD := D_eq (ws2 := wsR ad cI cJ cG I J27) hD (by rw [eJ27]; rfl)
    obtain ⟨v28, ev28⟩ : ∃ z : Int32, z = x2 + 1 := ⟨_, rfl⟩
    have hm := nm_to ev28 hm
    refine lv_iinc (v := v28) (lv' := [(2, .int v28), (3, .long r16), (0, .ref (ad 0)), (1, .int x1)]) hx hb dR_keepMix_60 hl (k := 3) rfl (by rw [ev28]; rfl) (by decide) rfl (fun ls hl => ?_)
    refine lv_goto (tgt := 12) hx hb dR_keepMix_63 (by decide) ?_
    exact hk12 x1 v28 I J27 hm _ _ _ hP hD hS (lv_sub hl [2, 3, 0] rfl)
set_option maxHeartbeats 4000000 in
set_option maxRecDepth 100000 in
theorem w_R_keepMix_107 {p : Program} {l : Launch} {e : Env} {s : State} {m : MethodId} {args : Array Value} {below : List Frame} {meth : Method} {c : Code} {D : va_G} {A : Nat → Prop} {ad : Nat → Nat} {cI cJ cG : ClassId} {res : SI × SJ} (X : Cx p s m args meth c bR_keepMix none 7 RR) (hK : va_K D vwCl (tysR cI cJ cG) s) (hN : NWs s) (hA : ∀ q, s.heap.size ≤ q → A q)
    {k107 : Int32 → Int32 → SI → SJ → Option (SI × SJ)} (hk107 : ∀ (x1 : Int32) (x6 : Int32) (I : SI) (J : SJ), k107 x1 x6 I J = some res → WB p l e (headSpec (Cond.code yR_keepMix bR_keepMix 7 none :: gtb) rm_R_keepMix).room s m args below meth c (MQ below (va_Qv (fun (u : SI × SJ) => u = res) (atW D vwCl (tysR cI cJ cG) A (wsR ad cI cJ cG)) A) args s 0 0 A) D vwCl A 7 (wsR ad cI cJ cG I J) 107 [(0, .ref (ad 0)), (1, .int x1), (6, .int x6)] [])
     (x1 : Int32) (x6 : Int32) (I : SI) (J : SJ) (hm : b_R_keepMix_107 k107 x1 x6 I J = some res) : WB p l e (headSpec (Cond.code yR_keepMix bR_keepMix 7 none :: gtb) rm_R_keepMix).room s m args below meth c (MQ below (va_Qv (fun (u : SI × SJ) => u = res) (atW D vwCl (tysR cI cJ cG) A (wsR ad cI cJ cG)) A) args s 0 0 A) D vwCl A 7 (wsR ad cI cJ cG I J) 107 [(0, .ref (ad 0)), (1, .int x1), (6, .int x6)] [] := by
  obtain ⟨hx, hb, hr, hml, hown, hT, hlk⟩ := X
  intro H locs ls hP hD hS hl
  unfold b_R_keepMix_107 at hm
  refine lv_iload hx hb dR_keepMix_107 (lv_at hl 2 rfl) ?_
  refine lv_bipush (v := 18) hx hb dR_keepMix_109 (by decide) ?_
  refine lv_icmp_ge (tgt := 166) hx hb dR_keepMix_111 (by decide) (fun c1 => ?_) (fun c1 => ?_)
  · have hm := brp hm c1
    exact W.vret hx hb hr (fun t ht hW => ⟨⟨(I, J), rfl, Option.some.inj hm, ht ▸ hP, va_K.moved hW.alike hK, hD⟩, hS.F ht⟩) hS.2.2 dR_keepMix_166 hlk
  · have hm := brn hm c1
    refine lv_aload_n hx hb dR_keepMix_114 rfl (lv_at hl 0 rfl) ?_
    refine lv_dup hx hb dR_keepMix_115 rfl ?_
    refine va_get (D := D) (ci := 6) (v := .int (I 0 16)) (C := RR) (T := TR) (N := 31) hx hb hT inR hown hK hP 0 rfl rfl 16 (by decide) (hT _ wd_551) (fun _ h9 => h9) rfl dR_keepMix_116 ?_
    refine lv_aload_n hx hb dR_keepMix_119 rfl (lv_at hl 0 rfl) ?_
    refine lv_iload hx hb dR_keepMix_120 (lv_at hl 2 rfl) ?_
    obtain ⟨r2, I3, J4, hc5, hm⟩ := cl3_to hm
    refine pst_i (wf := wsR ad cI cJ cG) hD hS hA (va_runV (As := [.int x6]) (rest := [.int (I 0 16), .ref (ad 0)]) ⟨hx, hb, hml, hown, hT⟩ (c_R_isThere l D ad cI cJ cG _ x6 I J _ hc5) (cwV 1 hT (gV wd_673 wd_675 wd_34 wd_57 wd_676) rfl rfl rfl (by decide +kernel) ⟨Nat.le_of_ble_eq_true rfl, Nat.le_of_ble_eq_true rfl⟩) ⟨preW_fb, va_recv hK hP (ci := 6) (q0 := 0) rfl rfl, preW_at hP hK hN hD⟩ rfl rfl hl.1 rfl (lv_room (Nat.le_of_ble_eq_true rfl)) dR_keepMix_122 ⟨Nat.zero_le _, Nat.zero_le _⟩) (fun H locs hP hD hS => ?_)
    refine lv_if_eq (tgt := 155) hx hb dR_keepMix_125 (by decide) (fun c6 => ?_) (fun c6 => ?_)
    · have hm := brp hm c6
      refine lv_iconst (v := 0) hx hb dR_keepMix_155 (by decide) ?_
      refine lv_ior hx hb dR_keepMix_156 ?_
      refine lv_topi (fun v7 ev7 => ?_)
      have hm := nm_to ev7 hm
      refine va_put (D := D) (ci := 6) (v := .int v7) (ty := .int) (C := RR) (T := TR) (N := 31) hx hb hT inR tyR okR nmR hown hK hP hD hS 0 rfl rfl 16 (by decide) (hT _ wd_551) (fun _ h9 => h9) rfl pf_I rfl rfl (Nat.le_of_ble_eq_true rfl) dR_keepMix_157 (fun H locs hP hD hS => ?_)
      obtain ⟨I8, eI8⟩ : ∃ z : SI, z = va_up I3 0 (upd (I3 0) 16 v7) := ⟨_, rfl⟩
      have hm := nm_to eI8 hm
      have hP := P_eq (ws2 := wsR ad cI cJ cG I8 J4) hP (by rw [eI8]; rfl)
      have hD := D_eq (ws2 := wsR ad cI cJ cG I8 J4) hD (by rw [eI8]; rfl)
      obtain ⟨v9, ev9⟩ : ∃ z : Int32, z = x6 + 1 := ⟨_, rfl⟩
      have hm := nm_to ev9 hm
      refine lv_iinc (v := v9) (lv' := [(6, .int v9), (0, .ref (ad 0)), (1, .int x1)]) hx hb dR_keepMix_160 hl (k := 2) rfl (by rw [ev9]; rfl) (by decide) rfl (fun ls hl => ?_)
      refine lv_goto (tgt := 107) hx hb dR_keepMix_163 (by decide) ?_
      exact hk107 x1 v9 I8 J4 hm _ _ _ hP hD hS (lv_sub hl [1, 2, 0] rfl)
    · have hm := brn hm c6
      refine lv_aload_n hx hb dR_keepMix_128 rfl (lv_at hl 0 rfl) ?_
      refine lv_iload hx hb dR_keepMix_129 (lv_at hl 2 rfl) ?_
      refine lv_iload_n hx hb dR_keepMix_131 rfl (lv_at hl 1 rfl) ?_
      refine lv_aload_n hx hb dR_keepMix_132 rfl (lv_at hl 0 rfl) ?_
      refine va_get (D := D) (ci := 6) (v := .ref (ad 17)) (C := RR) (T := TR) (N := 31) hx hb hT inR hown hK hP 0 rfl rfl 29 (by decide) (hT _ wd_564) (fun _ h9 => h9) rfl dR_keepMix_133 ?_
      refine lv_aload_n hx hb dR_keepMix_136 rfl (lv_at hl 0 rfl) ?_
      refine va_get (D := D) (ci := 6) (v := .long (J4 0 30)) (C := RR) (T := TR) (N := 31) hx hb hT inR hown hK hP 0 rfl rfl 30 (by decide) (hT _ wd_565) (fun _ h9 => h9) rfl dR_keepMix_137 ?_
      obtain ⟨r10, I11, J12, hc13, hm⟩ := cl3_to hm
      refine pst_l (wf := wsR ad cI cJ cG) hD hS hA (va_runV (As := [.int x6, .int x1, .ref (ad 17), .long (J4 0 30)]) (rest := [.int (I 0 16), .ref (ad 0)]) ⟨hx, hb, hml, hown, hT⟩ (c_R_over l D ad cI cJ cG _ x6 x1 17 (J4 0 30) I3 J4 _ hc13) (cwV 4 hT (gV wd_711 wd_713 wd_43 wd_57 wd_714) rfl rfl rfl (by decide +kernel) ⟨Nat.le_of_ble_eq_true rfl, Nat.le_of_ble_eq_true rfl⟩) ⟨preW_fb, va_recv hK hP (ci := 6) (q0 := 0) rfl rfl, preW_at hP hK hN hD⟩ rfl rfl hl.1 rfl (lv_room (Nat.le_of_ble_eq_true rfl)) dR_keepMix_140 ⟨Nat.zero_le _, Nat.zero_le _⟩) (fun H locs hP hD hS => ?_)
      refine lv_lconst (v := 0) hx hb dR_keepMix_143 (by decide) ?_
      refine W.lcmp hx hb dR_keepMix_144 ?_
      refine lv_topi (fun v14 ev14 => ?_)
      have hm := nm_to ev14 hm
      refine lv_if_ne (tgt := 155) hx hb dR_keepMix_145 (by decide) (fun c15 => ?_) (fun c15 => ?_)
      · have hm := brn hm c15
        refine lv_iconst (v := 0) hx hb dR_keepMix_155 (by decide) ?_
        refine lv_ior hx hb dR_keepMix_156 ?_
        refine lv_topi (fun v16 ev16 => ?_)
        have hm := nm_to ev16 hm
        refine va_put (D := D) (ci := 6) (v := .int v16) (ty := .int) (C := RR) (T := TR) (N := 31) hx hb hT inR tyR okR nmR hown hK hP hD hS 0 rfl rfl 16 (by decide) (hT _ wd_551) (fun _ h9 => h9) rfl pf_I rfl rfl (Nat.le_of_ble_eq_true rfl) dR_keepMix_157 (fun H locs hP hD hS => ?_)
        obtain ⟨I17, eI17⟩ : ∃ z : SI, z = va_up I11 0 (upd (I11 0) 16 v16) := ⟨_, rfl⟩
        have hm := nm_to eI17 hm
        have hP := P_eq (ws2 := wsR ad cI cJ cG I17 J12) hP (by rw [eI17]; rfl)
        have hD := D_eq (ws2 := wsR ad cI cJ cG I17 J12) hD (by rw [eI17]; rfl)
        obtain ⟨v18, ev18⟩ : ∃ z : Int32, z = x6 + 1 := ⟨_, rfl⟩
        have hm := nm_to ev18 hm
        refine lv_iinc (v := v18) (lv' := [(6, .int v18), (0, .ref (ad 0)), (1, .int x1)]) hx hb dR_keepMix_160 hl (k := 2) rfl (by rw [ev18]; rfl) (by decide) rfl (fun ls hl => ?_)
        refine lv_goto (tgt := 107) hx hb dR_keepMix_163 (by decide) ?_
        exact hk107 x1 v18 I17 J12 hm _ _ _ hP hD hS (lv_sub hl [1, 2, 0] rfl)
      · have hm := brp hm c15
        refine lv_iconst (v := 1) hx hb dR_keepMix_148 (by decide) ?_
        refine lv_iload hx hb dR_keepMix_149 (lv_at hl 2 rfl) ?_
        refine lv_ishl hx hb dR_keepMix_151 ?_
        refine lv_topi (fun v19 ev19 => ?_)
        have hm := nm_to ev19 hm
        refine lv_goto (tgt := 156) hx hb dR_keepMix_152 (by decide) ?_
        refine lv_ior hx hb dR_keepMix_156 ?_
        refine lv_topi (fun v20 ev20 => ?_)
        have hm := nm_to ev20 hm
        refine va_put (D := D) (ci := 6) (v := .int v20) (ty := .int) (C := RR) (T := TR) (N := 31) hx hb hT inR tyR okR nmR hown hK hP hD hS 0 rfl rfl 16 (by decide) (hT _ wd_551) (fun _ h9 => h9) rfl pf_I rfl rfl (Nat.le_of_ble_eq_true rfl) dR_keepMix_157 (fun H locs hP hD hS => ?_)
        obtain ⟨I21, eI21⟩ : ∃ z : SI, z = va_up I11 0 (upd (I11 0) 16 v20) := ⟨_, rfl⟩
        have hm := nm_to eI21 hm
        have hP := P_eq (ws2 := wsR ad cI cJ cG I21 J12) hP (by rw [eI21]; rfl)
        have hD := D_eq (ws2 := wsR ad cI cJ cG I21 J12) hD (by rw [eI21]; rfl)
        obtain ⟨v22, ev22⟩ : ∃ z : Int32, z = x6 + 1 := ⟨_, rfl⟩
        have hm := nm_to ev22 hm
        refine lv_iinc (v := v22) (lv' := [(6, .int v22), (0, .ref (ad 0)), (1, .int x1)]) hx hb dR_keepMix_160 hl (k := 2) rfl (by rw [ev22]; rfl) (by decide) rfl (fun ls hl => ?_)
        refine lv_goto (tgt := 107) hx hb dR_keepMix_163 (by decide) ?_
        exact hk107 x1 v22 I21 J12 hm _ _ _ hP hD hS (lv_sub hl [1, 2, 0] rfl)
set_option maxHeartbeats 4000000 in
set_option maxRecDepth 100000 in
theorem w_R_keepMix_0 {p : Program} {l : Launch} {e : Env} {s : State} {m : MethodId} {args : Array Value} {below : List Frame} {meth : Method} {c : Code} {D : va_G} {A : Nat → Prop} {ad : Nat → Nat} {cI cJ cG : ClassId} {res : SI × SJ} (X : Cx p s m args meth c bR_keepMix none 7 RR) (hK : va_K D vwCl (tysR cI cJ cG) s) (hN : NWs s) (hA : ∀ q, s.heap.size ≤ q → A q)
    {k12 : Int32 → Int32 → SI → SJ → Option (SI × SJ)} (hk12 : ∀ (x1 : Int32) (x2 : Int32) (I : SI) (J : SJ), k12 x1 x2 I J = some res → WB p l e (headSpec (Cond.code yR_keepMix bR_keepMix 7 none :: gtb) rm_R_keepMix).room s m args below meth c (MQ below (va_Qv (fun (u : SI × SJ) => u = res) (atW D vwCl (tysR cI cJ cG) A (wsR ad cI cJ cG)) A) args s 0 0 A) D vwCl A 7 (wsR ad cI cJ cG I J) 12 [(0, .ref (ad 0)), (1, .int x1), (2, .int x2)] [])
     (x1 : Int32) (I : SI) (J : SJ) (hm : b_R_keepMix_0 k12 x1 I J = some res) : WB p l e (headSpec (Cond.code yR_keepMix bR_keepMix 7 none :: gtb) rm_R_keepMix).room s m args below meth c (MQ below (va_Qv (fun (u : SI × SJ) => u = res) (atW D vwCl (tysR cI cJ cG) A (wsR ad cI cJ cG)) A) args s 0 0 A) D vwCl A 7 (wsR ad cI cJ cG I J) 0 [(0, .ref (ad 0)), (1, .int x1)] [] := by
  obtain ⟨hx, hb, hr, hml, hown, hT, hlk⟩ := X
  intro H locs ls hP hD hS hl
  unfold b_R_keepMix_0 at hm
  refine lv_aload_n hx hb dR_keepMix_0 rfl (lv_at hl 0 rfl) ?_
  refine lv_iconst (v := 0) hx hb dR_keepMix_1 (by decide) ?_
  refine va_put (D := D) (ci := 6) (v := .int 0) (ty := .int) (C := RR) (T := TR) (N := 31) hx hb hT inR tyR okR nmR hown hK hP hD hS 0 rfl rfl 10 (by decide) (hT _ wd_545) (fun _ h9 => h9) rfl pf_I rfl rfl (Nat.le_of_ble_eq_true rfl) dR_keepMix_2 (fun H locs hP hD hS => ?_)
  obtain ⟨I1, eI1⟩ : ∃ z : SI, z = va_up I 0 (upd (I 0) 10 0) := ⟨_, rfl⟩
  have hm := nm_to eI1 hm
  have hP := P_eq (ws2 := wsR ad cI cJ cG I1 J) hP (by rw [eI1]; rfl)
  have hD := D_eq (ws2 := wsR ad cI cJ cG I1 J) hD (by rw [eI1]; rfl)
  refine lv_aload_n hx hb dR_keepMix_5 rfl (lv_at hl 0 rfl) ?_
  refine lv_iconst (v := 0) hx hb dR_keepMix_6 (by decide) ?_
  refine va_put (D := D) (ci := 6) (v := .int 0) (ty := .int) (C := RR) (T := TR) (N := 31) hx hb hT inR tyR okR nmR hown hK hP hD hS 0 rfl rfl 16 (by decide) (hT _ wd_551) (fun _ h9 => h9) rfl pf_I rfl rfl (Nat.le_of_ble_eq_true rfl) dR_keepMix_7 (fun H locs hP hD hS => ?_)
  obtain ⟨I2, eI2⟩ : ∃ z : SI, z = va_up I1 0 (upd (I1 0) 16 0) := ⟨_, rfl⟩
  have hm := nm_to eI2 hm
  have hP := P_eq (ws2 := wsR ad cI cJ cG I2 J) hP (by rw [eI2]; rfl)
  have hD := D_eq (ws2 := wsR ad cI cJ cG I2 J) hD (by rw [eI2]; rfl)
  refine lv_iconst (v := 0) hx hb dR_keepMix_10 (by decide) ?_
  refine lv_istore_n (lv' := [(2, .int 0), (0, .ref (ad 0)), (1, .int x1)]) hx hb dR_keepMix_11 rfl hl (by decide) rfl (fun ls hl => ?_)
  exact hk12 x1 0 I2 J hm _ _ _ hP hD hS (lv_sub hl [1, 2, 0] rfl)
set_option maxHeartbeats 4000000 in
theorem gw_R_keepMix {p : Program} {l : Launch} {e : Env} {s : State} {m : MethodId} {args : Array Value} {below : List Frame} {meth : Method} {c : Code} {D : va_G} {A : Nat → Prop} {ad : Nat → Nat} {cI cJ cG : ClassId} {res : SI × SJ} (X : Cx p s m args meth c bR_keepMix none 7 RR) (hK : va_K D vwCl (tysR cI cJ cG) s) (hN : NWs s) (hA : ∀ q, s.heap.size ≤ q → A q) : ∀ n : Nat, (∀ (x1 : Int32) (x2 : Int32) (I : SI) (J : SJ), (g_R_keepMix n).1 x1 x2 I J = some res → WB p l e (headSpec (Cond.code yR_keepMix bR_keepMix 7 none :: gtb) rm_R_keepMix).room s m args below meth c (MQ below (va_Qv (fun (u : SI × SJ) => u = res) (atW D vwCl (tysR cI cJ cG) A (wsR ad cI cJ cG)) A) args s 0 0 A) D vwCl A 7 (wsR ad cI cJ cG I J) 12 [(0, .ref (ad 0)), (1, .int x1), (2, .int x2)] []) ∧ (∀ (x1 : Int32) (x6 : Int32) (I : SI) (J : SJ), (g_R_keepMix n).2 x1 x6 I J = some res → WB p l e (headSpec (Cond.code yR_keepMix bR_keepMix 7 none :: gtb) rm_R_keepMix).room s m args below meth c (MQ below (va_Qv (fun (u : SI × SJ) => u = res) (atW D vwCl (tysR cI cJ cG) A (wsR ad cI cJ cG)) A) args s 0 0 A) D vwCl A 7 (wsR ad cI cJ cG I J) 107 [(0, .ref (ad 0)), (1, .int x1), (6, .int x6)] []) := by
  intro n
  induction n with
  | zero => exact ⟨fun _ _ _ _ h => (by cases h), fun _ _ _ _ h => (by cases h)⟩
  | succ n ih =>
    obtain ⟨ih12, ih107⟩ := ih
    exact ⟨fun x1 x2 I J h => w_R_keepMix_12 X hK hN hA ih12 ih107 x1 x2 I J h, fun x1 x6 I J h => w_R_keepMix_107 X hK hN hA ih107 x1 x6 I J h⟩
set_option maxHeartbeats 4000000 in
set_option maxRecDepth 100000 in
theorem c_R_keepMix (l : Launch) (D : va_G) (ad : Nat → Nat) (cI cJ cG : ClassId) (sz : Nat) (x1 : Int32) (I : SI) (J : SJ) (res : SI × SJ) (hm : m_R_keepMix x1 I J = some res) : Met l yR_keepMix (Cond.code yR_keepMix bR_keepMix 7 none :: gtb) rm_R_keepMix (va_Pc [.ref (ad 0), .int x1] (preW D vwCl (tysR cI cJ cG) (wsR ad cI cJ cG I J) sz)) (va_Qv (fun (u : SI × SJ) => u = res) (atW D vwCl (tysR cI cJ cG) (va_A (wsR ad cI cJ cG I J) sz) (wsR ad cI cJ cG)) (va_A (wsR ad cI cJ cG I J) sz)) 0 0 (va_A (wsR ad cI cJ cG I J) sz) := by
  refine Met.ofW (cc := bR_keepMix) (maxL := 7) (ret := none) (by decide) rfl ?_
  intro p e s m args below meth c s₁ B hml hv
  obtain ⟨rfl, hsz, hP, hK, hD0, hN⟩ := hv
  subst hsz
  have X : Cx p s m [.ref (ad 0), .int x1].toArray meth c bR_keepMix none 7 RR := ⟨B.exec, B.bytes, B.returns, hml, findClass_of_methodNamed B.named, fun w h => atoms_spec (ws := (Cond.code yR_keepMix bR_keepMix 7 none :: gtb)) B.pre w (List.mem_cons_of_mem _ h), B.notSynchronized⟩
  have hl := lv_entry ([.ref (ad 0), .int x1]) (n := 7) (Nat.le_of_ble_eq_true rfl)
  rw [lg_entry_eq]
  generalize (lg_sl ([.ref (ad 0), .int x1]) ++ List.replicate (7 - (lg_sl ([.ref (ad 0), .int x1])).length) Slot.unset).toArray = ls at hl ⊢
  have hl : lv_has ls 7 [(0, .ref (ad 0)), (1, .int x1)] := hl
  have hA : ∀ q, s.heap.size ≤ q → va_A (wsR ad cI cJ cG I J) s.heap.size q := fun q h => Or.inr h
  exact w_R_keepMix_0 X hK hN hA (gw_R_keepMix X hK hN hA fuel).1 x1 I J hm _ _ _ hP hD0.self va_S.rf hl
def b_R_run_56 (k56 : Int32 → Int32 → SI → SJ → Option (Int32 × SI × SJ)) (x1 : Int32) (x2 : Int32) (I : SI) (J : SJ) : Option (Int32 × SI × SJ) :=
  if 18 ≤ x2 then
    some (1, I, J)
  else
    gd (vin x2 22) <|
    nm (I 11 x2.toNatClampNeg) fun v3 =>
    if v3 = 0 then
      nm (x2 + 1) fun v5 =>
      k56 x1 v5 I J
    else
      gd (vin x2 22) <|
      nm (va_up I 11 (upd (I 11) x2.toNatClampNeg (vp_nar .boolean 0))) fun I7 =>
      cl3 (m_R_isPossible x1 I7 J) fun r8 I9 J10 =>
      if r8 = 0 then
        nm (x2 + 1) fun v13 =>
        k56 x1 v13 I9 J10
      else
        gd (vin x2 22) <|
        nm (va_up I9 11 (upd (I9 11) x2.toNatClampNeg (vp_nar .boolean 1))) fun I15 =>
        nm (1 <<< (x2 &&& 31)) fun v16 =>
        nm ((I15 0 17) ||| v16) fun v17 =>
        nm (va_up I15 0 (upd (I15 0) 17 v17)) fun I18 =>
        nm (x2 + 1) fun v19 =>
        k56 x1 v19 I18 J10
def b_R_run_0 (k56 : Int32 → Int32 → SI → SJ → Option (Int32 × SI × SJ)) (x1 : Int32) (I : SI) (J : SJ) : Option (Int32 × SI × SJ) :=
  cl1 (m_R_in x1 1 40) fun r1 =>
  if r1 = 0 then
    some (-1, I, J)
  else
    if (I 0 0) = 0 then
      some (-1, I, J)
    else
      nm (va_up I 0 (upd (I 0) 9 x1)) fun I5 =>
      nm (va_up I5 0 (upd (I5 0) 11 (I5 0 0))) fun I6 =>
      cl2 (m_R_countAll I6 J) fun I8 J9 =>
      cl3 (m_R_isPossible x1 I8 J9) fun r11 I12 J13 =>
      if r11 = 0 then
        nm (va_up I12 0 (upd (I12 0) 10 1)) fun I26 =>
        nm (va_up I26 0 (upd (I26 0) 17 0)) fun I27 =>
        k56 x1 0 I27 J13
      else
        cl3 (m_R_mixes x1 I12 J13) fun r16 I17 J18 =>
        if r16 = 0 then
          nm (va_up I17 0 (upd (I17 0) 10 2)) fun I21 =>
          some (I21 0 10, I21, J18)
        else
          cl2 (m_R_keepMix x1 I17 J18) fun I23 J24 =>
          some (I23 0 10, I23, J24)
def g_R_run : Nat → (Int32 → Int32 → SI → SJ → Option (Int32 × SI × SJ))
  | 0 => (fun _ _ _ _ => none)
  | n + 1 => (fun x1 x2 I J => b_R_run_56 (g_R_run n) x1 x2 I J)
def m_R_run (x1 : Int32) (I : SI) (J : SJ) : Option (Int32 × SI × SJ) := b_R_run_0 (g_R_run fuel) x1 I J
def rm_R_run : Room := { frames := 6, cells := 0, slots := 0, locals := 150 }
set_option maxHeartbeats 4000000 in
set_option maxRecDepth 100000 in
theorem w_R_run_56 {p : Program} {l : Launch} {e : Env} {s : State} {m : MethodId} {args : Array Value} {below : List Frame} {meth : Method} {c : Code} {D : va_G} {A : Nat → Prop} {ad : Nat → Nat} {cI cJ cG : ClassId} {res : Int32 × SI × SJ} (X : Cx p s m args meth c bR_run (some .int) 3 RR) (hK : va_K D vwCl (tysR cI cJ cG) s) (hN : NWs s) (hA : ∀ q, s.heap.size ≤ q → A q)
    {k56 : Int32 → Int32 → SI → SJ → Option (Int32 × SI × SJ)} (hk56 : ∀ (x1 : Int32) (x2 : Int32) (I : SI) (J : SJ), k56 x1 x2 I J = some res → WB p l e (headSpec (Cond.code yR_run bR_run 3 (some .int) :: gtb) rm_R_run).room s m args below meth c (MQ below (va_Qi (fun (r : Int32) (u : SI × SJ) => (r, u) = res) (atW D vwCl (tysR cI cJ cG) A (wsR ad cI cJ cG)) A) args s 0 0 A) D vwCl A 3 (wsR ad cI cJ cG I J) 56 [(0, .ref (ad 0)), (1, .int x1), (2, .int x2)] [])
     (x1 : Int32) (x2 : Int32) (I : SI) (J : SJ) (hm : b_R_run_56 k56 x1 x2 I J = some res) : WB p l e (headSpec (Cond.code yR_run bR_run 3 (some .int) :: gtb) rm_R_run).room s m args below meth c (MQ below (va_Qi (fun (r : Int32) (u : SI × SJ) => (r, u) = res) (atW D vwCl (tysR cI cJ cG) A (wsR ad cI cJ cG)) A) args s 0 0 A) D vwCl A 3 (wsR ad cI cJ cG I J) 56 [(0, .ref (ad 0)), (1, .int x1), (2, .int x2)] [] := by
  obtain ⟨hx, hb, hr, hml, hown, hT, hlk⟩ := X
  intro H locs ls hP hD hS hl
  unfold b_R_run_56 at hm
  refine lv_iload_n hx hb dR_run_56 rfl (lv_at hl 2 rfl) ?_
  refine lv_bipush (v := 18) hx hb dR_run_57 (by decide) ?_
  refine lv_icmp_ge (tgt := 111) hx hb dR_run_59 (by decide) (fun c1 => ?_) (fun c1 => ?_)
  · have hm := brp hm c1
    refine lv_iconst (v := 1) hx hb dR_run_111 (by decide) ?_
    exact W.iret hx hb hr (fun t ht hW => ⟨⟨1, (I, J), rfl, Option.some.inj hm, ht ▸ hP, va_K.moved hW.alike hK, hD⟩, hS.F ht⟩) hS.2.2 dR_run_112 hlk
  · have hm := brn hm c1
    refine lv_aload_n hx hb dR_run_62 rfl (lv_at hl 0 rfl) ?_
    refine va_get (D := D) (ci := 6) (v := .ref (ad 11)) (C := RR) (T := TR) (N := 31) hx hb hT inR hown hK hP 0 rfl rfl 20 (by decide) (hT _ wd_555) (fun _ h9 => h9) rfl dR_run_63 ?_
    refine lv_iload_n hx hb dR_run_66 rfl (lv_at hl 2 rfl) ?_
    obtain ⟨g2, hm⟩ := gd_to hm
    refine va_zald hx hb hK hP 11 2 rfl rfl g2 dR_run_67 ?_
    refine lv_topi (fun v3 ev3 => ?_)
    have hm := nm_to ev3 hm
    refine lv_if_eq (tgt := 105) hx hb dR_run_68 (by decide) (fun c4 => ?_) (fun c4 => ?_)
    · have hm := brp hm c4
      obtain ⟨v5, ev5⟩ : ∃ z : Int32, z = x2 + 1 := ⟨_, rfl⟩
      have hm := nm_to ev5 hm
      refine lv_iinc (v := v5) (lv' := [(2, .int v5), (0, .ref (ad 0)), (1, .int x1)]) hx hb dR_run_105 hl (k := 2) rfl (by rw [ev5]; rfl) (by decide) rfl (fun ls hl => ?_)
      refine lv_goto (tgt := 56) hx hb dR_run_108 (by decide) ?_
      exact hk56 x1 v5 I J hm _ _ _ hP hD hS (lv_sub hl [1, 2, 0] rfl)
    · have hm := brn hm c4
      refine lv_aload_n hx hb dR_run_71 rfl (lv_at hl 0 rfl) ?_
      refine va_get (D := D) (ci := 6) (v := .ref (ad 11)) (C := RR) (T := TR) (N := 31) hx hb hT inR hown hK hP 0 rfl rfl 20 (by decide) (hT _ wd_555) (fun _ h9 => h9) rfl dR_run_72 ?_
      refine lv_iload_n hx hb dR_run_75 rfl (lv_at hl 2 rfl) ?_
      refine lv_iconst (v := 0) hx hb dR_run_76 (by decide) ?_
      obtain ⟨g6, hm⟩ := gd_to hm
      refine va_zast hx hb hK hP hD hS 11 2 rfl rfl g6 dR_run_77 (fun H locs hP hD hS => ?_)
      obtain ⟨I7, eI7⟩ : ∃ z : SI, z = va_up I 11 (upd (I 11) x2.toNatClampNeg (vp_nar .boolean 0)) := ⟨_, rfl⟩
      have hm := nm_to eI7 hm
      have hP := P_eq (ws2 := wsR ad cI cJ cG I7 J) hP (by rw [eI7]; rfl)
      have hD := D_eq (ws2 := wsR ad cI cJ cG I7 J) hD (by rw [eI7]; rfl)
      refine lv_aload_n hx hb dR_run_78 rfl (lv_at hl 0 rfl) ?_
      refine lv_iload_n hx hb dR_run_79 rfl (lv_at hl 1 rfl) ?_
      obtain ⟨r8, I9, J10, hc11, hm⟩ := cl3_to hm
      refine pst_i (wf := wsR ad cI cJ cG) hD hS hA (va_runV (As := [.int x1]) (rest := []) ⟨hx, hb, hml, hown, hT⟩ (c_R_isPossible l D ad cI cJ cG _ x1 I7 J _ hc11) (cwV 1 hT (gV wd_677 wd_679 wd_35 wd_57 wd_680) rfl rfl rfl (by decide +kernel) ⟨Nat.le_of_ble_eq_true rfl, Nat.le_of_ble_eq_true rfl⟩) ⟨preW_fb, va_recv hK hP (ci := 6) (q0 := 0) rfl rfl, preW_at hP hK hN hD⟩ rfl rfl hl.1 rfl (lv_room (Nat.le_of_ble_eq_true rfl)) dR_run_80 ⟨Nat.zero_le _, Nat.zero_le _⟩) (fun H locs hP hD hS => ?_)
      refine lv_if_eq (tgt := 105) hx hb dR_run_83 (by decide) (fun c12 => ?_) (fun c12 => ?_)
      · have hm := brp hm c12
        obtain ⟨v13, ev13⟩ : ∃ z : Int32, z = x2 + 1 := ⟨_, rfl⟩
        have hm := nm_to ev13 hm
        refine lv_iinc (v := v13) (lv' := [(2, .int v13), (0, .ref (ad 0)), (1, .int x1)]) hx hb dR_run_105 hl (k := 2) rfl (by rw [ev13]; rfl) (by decide) rfl (fun ls hl => ?_)
        refine lv_goto (tgt := 56) hx hb dR_run_108 (by decide) ?_
        exact hk56 x1 v13 I9 J10 hm _ _ _ hP hD hS (lv_sub hl [1, 2, 0] rfl)
      · have hm := brn hm c12
        refine lv_aload_n hx hb dR_run_86 rfl (lv_at hl 0 rfl) ?_
        refine va_get (D := D) (ci := 6) (v := .ref (ad 11)) (C := RR) (T := TR) (N := 31) hx hb hT inR hown hK hP 0 rfl rfl 20 (by decide) (hT _ wd_555) (fun _ h9 => h9) rfl dR_run_87 ?_
        refine lv_iload_n hx hb dR_run_90 rfl (lv_at hl 2 rfl) ?_
        refine lv_iconst (v := 1) hx hb dR_run_91 (by decide) ?_
        obtain ⟨g14, hm⟩ := gd_to hm
        refine va_zast hx hb hK hP hD hS 11 2 rfl rfl g14 dR_run_92 (fun H locs hP hD hS => ?_)
        obtain ⟨I15, eI15⟩ : ∃ z : SI, z = va_up I9 11 (upd (I9 11) x2.toNatClampNeg (vp_nar .boolean 1)) := ⟨_, rfl⟩
        have hm := nm_to eI15 hm
        have hP := P_eq (ws2 := wsR ad cI cJ cG I15 J10) hP (by rw [eI15]; rfl)
        have hD := D_eq (ws2 := wsR ad cI cJ cG I15 J10) hD (by rw [eI15]; rfl)
        refine lv_aload_n hx hb dR_run_93 rfl (lv_at hl 0 rfl) ?_
        refine lv_dup hx hb dR_run_94 rfl ?_
        refine va_get (D := D) (ci := 6) (v := .int (I15 0 17)) (C := RR) (T := TR) (N := 31) hx hb hT inR hown hK hP 0 rfl rfl 17 (by decide) (hT _ wd_552) (fun _ h9 => h9) rfl dR_run_95 ?_
        refine lv_iconst (v := 1) hx hb dR_run_98 (by decide) ?_
        refine lv_iload_n hx hb dR_run_99 rfl (lv_at hl 2 rfl) ?_
        refine lv_ishl hx hb dR_run_100 ?_
        refine lv_topi (fun v16 ev16 => ?_)
        have hm := nm_to ev16 hm
        refine lv_ior hx hb dR_run_101 ?_
        refine lv_topi (fun v17 ev17 => ?_)
        have hm := nm_to ev17 hm
        refine va_put (D := D) (ci := 6) (v := .int v17) (ty := .int) (C := RR) (T := TR) (N := 31) hx hb hT inR tyR okR nmR hown hK hP hD hS 0 rfl rfl 17 (by decide) (hT _ wd_552) (fun _ h9 => h9) rfl pf_I rfl rfl (Nat.le_of_ble_eq_true rfl) dR_run_102 (fun H locs hP hD hS => ?_)
        obtain ⟨I18, eI18⟩ : ∃ z : SI, z = va_up I15 0 (upd (I15 0) 17 v17) := ⟨_, rfl⟩
        have hm := nm_to eI18 hm
        have hP := P_eq (ws2 := wsR ad cI cJ cG I18 J10) hP (by rw [eI18]; rfl)
        have hD := D_eq (ws2 := wsR ad cI cJ cG I18 J10) hD (by rw [eI18]; rfl)
        obtain ⟨v19, ev19⟩ : ∃ z : Int32, z = x2 + 1 := ⟨_, rfl⟩
        have hm := nm_to ev19 hm
        refine lv_iinc (v := v19) (lv' := [(2, .int v19), (0, .ref (ad 0)), (1, .int x1)]) hx hb dR_run_105 hl (k := 2) rfl (by rw [ev19]; rfl) (by decide) rfl (fun ls hl => ?_)
        refine lv_goto (tgt := 56) hx hb dR_run_108 (by decide) ?_
        exact hk56 x1 v19 I18 J10 hm _ _ _ hP hD hS (lv_sub hl [1, 2, 0] rfl)
set_option maxHeartbeats 4000000 in
set_option maxRecDepth 100000 in
theorem w_R_run_0 {p : Program} {l : Launch} {e : Env} {s : State} {m : MethodId} {args : Array Value} {below : List Frame} {meth : Method} {c : Code} {D : va_G} {A : Nat → Prop} {ad : Nat → Nat} {cI cJ cG : ClassId} {res : Int32 × SI × SJ} (X : Cx p s m args meth c bR_run (some .int) 3 RR) (hK : va_K D vwCl (tysR cI cJ cG) s) (hN : NWs s) (hA : ∀ q, s.heap.size ≤ q → A q)
    {k56 : Int32 → Int32 → SI → SJ → Option (Int32 × SI × SJ)} (hk56 : ∀ (x1 : Int32) (x2 : Int32) (I : SI) (J : SJ), k56 x1 x2 I J = some res → WB p l e (headSpec (Cond.code yR_run bR_run 3 (some .int) :: gtb) rm_R_run).room s m args below meth c (MQ below (va_Qi (fun (r : Int32) (u : SI × SJ) => (r, u) = res) (atW D vwCl (tysR cI cJ cG) A (wsR ad cI cJ cG)) A) args s 0 0 A) D vwCl A 3 (wsR ad cI cJ cG I J) 56 [(0, .ref (ad 0)), (1, .int x1), (2, .int x2)] [])
     (x1 : Int32) (I : SI) (J : SJ) (hm : b_R_run_0 k56 x1 I J = some res) : WB p l e (headSpec (Cond.code yR_run bR_run 3 (some .int) :: gtb) rm_R_run).room s m args below meth c (MQ below (va_Qi (fun (r : Int32) (u : SI × SJ) => (r, u) = res) (atW D vwCl (tysR cI cJ cG) A (wsR ad cI cJ cG)) A) args s 0 0 A) D vwCl A 3 (wsR ad cI cJ cG I J) 0 [(0, .ref (ad 0)), (1, .int x1)] [] := by
  obtain ⟨hx, hb, hr, hml, hown, hT, hlk⟩ := X
  intro H locs ls hP hD hS hl
  unfold b_R_run_0 at hm
  refine lv_iload_n hx hb dR_run_0 rfl (lv_at hl 1 rfl) ?_
  refine lv_iconst (v := 1) hx hb dR_run_1 (by decide) ?_
  refine lv_bipush (v := 40) hx hb dR_run_2 (by decide) ?_
  obtain ⟨r1, hc2, hm⟩ := cl1_to hm
  refine pstZ_i hS (va_runS (As := [.int x1, .int 1, .int 40]) (rest := []) ⟨hx, hb, hml, hown, hT⟩ (c_R_in l x1 1 40 _ hc2) (va_cwS 3 hT (gS wd_634 wd_635 wd_57 wd_636) rfl rfl rfl (by decide +kernel) ⟨Nat.le_of_ble_eq_true rfl, Nat.le_of_ble_eq_true rfl⟩) ⟨preZ_fb, preZ_at⟩ rfl rfl hl.1 rfl (lv_room (Nat.le_of_ble_eq_true rfl)) dR_run_4 ⟨Nat.zero_le _, Nat.zero_le _⟩) (fun H1 locs hq hS => ?_)
  have hP := keptP hP hq
  refine lv_if_eq (tgt := 17) hx hb dR_run_7 (by decide) (fun c3 => ?_) (fun c3 => ?_)
  · have hm := brp hm c3
    refine lv_iconst (v := (-1)) hx hb dR_run_17 (by decide) ?_
    exact W.iret hx hb hr (fun t ht hW => ⟨⟨-1, (I, J), rfl, Option.some.inj hm, ht ▸ hP, va_K.moved hW.alike hK, hD⟩, hS.F ht⟩) hS.2.2 dR_run_18 hlk
  · have hm := brn hm c3
    refine lv_aload_n hx hb dR_run_10 rfl (lv_at hl 0 rfl) ?_
    refine va_get (D := D) (ci := 6) (v := .int (I 0 0)) (C := RR) (T := TR) (N := 31) hx hb hT inR hown hK hP 0 rfl rfl 0 (by decide) (hT _ wd_535) (fun _ h9 => h9) rfl dR_run_11 ?_
    refine lv_if_ne (tgt := 19) hx hb dR_run_14 (by decide) (fun c4 => ?_) (fun c4 => ?_)
    · have hm := brn hm c4
      refine lv_aload_n hx hb dR_run_19 rfl (lv_at hl 0 rfl) ?_
      refine lv_iload_n hx hb dR_run_20 rfl (lv_at hl 1 rfl) ?_
      refine va_put (D := D) (ci := 6) (v := .int x1) (ty := .int) (C := RR) (T := TR) (N := 31) hx hb hT inR tyR okR nmR hown hK hP hD hS 0 rfl rfl 9 (by decide) (hT _ wd_544) (fun _ h9 => h9) rfl pf_I rfl rfl (Nat.le_of_ble_eq_true rfl) dR_run_21 (fun H locs hP hD hS => ?_)
      obtain ⟨I5, eI5⟩ : ∃ z : SI, z = va_up I 0 (upd (I 0) 9 x1) := ⟨_, rfl⟩
      have hm := nm_to eI5 hm
      have hP := P_eq (ws2 := wsR ad cI cJ cG I5 J) hP (by rw [eI5]; rfl)
      have hD := D_eq (ws2 := wsR ad cI cJ cG I5 J) hD (by rw [eI5]; rfl)
      refine lv_aload_n hx hb dR_run_24 rfl (lv_at hl 0 rfl) ?_
      refine lv_aload_n hx hb dR_run_25 rfl (lv_at hl 0 rfl) ?_
      refine va_get (D := D) (ci := 6) (v := .int (I5 0 0)) (C := RR) (T := TR) (N := 31) hx hb hT inR hown hK hP 0 rfl rfl 0 (by decide) (hT _ wd_535) (fun _ h9 => h9) rfl dR_run_26 ?_
      refine va_put (D := D) (ci := 6) (v := .int (I5 0 0)) (ty := .int) (C := RR) (T := TR) (N := 31) hx hb hT inR tyR okR nmR hown hK hP hD hS 0 rfl rfl 11 (by decide) (hT _ wd_546) (fun _ h9 => h9) rfl pf_I rfl rfl (Nat.le_of_ble_eq_true rfl) dR_run_29 (fun H locs hP hD hS => ?_)
      obtain ⟨I6, eI6⟩ : ∃ z : SI, z = va_up I5 0 (upd (I5 0) 11 (I5 0 0)) := ⟨_, rfl⟩
      have hm := nm_to eI6 hm
      have hP := P_eq (ws2 := wsR ad cI cJ cG I6 J) hP (by rw [eI6]; rfl)
      have hD := D_eq (ws2 := wsR ad cI cJ cG I6 J) hD (by rw [eI6]; rfl)
      refine lv_aload_n hx hb dR_run_32 rfl (lv_at hl 0 rfl) ?_
      obtain ⟨I8, J9, hc10, hm⟩ := cl2_to hm
      refine pst_v (wf := wsR ad cI cJ cG) hD hS hA (va_runV (As := []) (rest := []) ⟨hx, hb, hml, hown, hT⟩ (c_R_countAll l D ad cI cJ cG _ I6 J _ hc10) (cwV 0 hT (gV wd_669 wd_671 wd_33 wd_57 wd_672) rfl rfl rfl (by decide +kernel) ⟨Nat.le_of_ble_eq_true rfl, Nat.le_of_ble_eq_true rfl⟩) ⟨preW_fb, va_recv hK hP (ci := 6) (q0 := 0) rfl rfl, preW_at hP hK hN hD⟩ rfl rfl hl.1 rfl (lv_room (Nat.le_of_ble_eq_true rfl)) dR_run_33 ⟨Nat.zero_le _, Nat.zero_le _⟩) (fun H locs hP hD hS => ?_)
      refine lv_aload_n hx hb dR_run_36 rfl (lv_at hl 0 rfl) ?_
      refine lv_iload_n hx hb dR_run_37 rfl (lv_at hl 1 rfl) ?_
      obtain ⟨r11, I12, J13, hc14, hm⟩ := cl3_to hm
      refine pst_i (wf := wsR ad cI cJ cG) hD hS hA (va_runV (As := [.int x1]) (rest := []) ⟨hx, hb, hml, hown, hT⟩ (c_R_isPossible l D ad cI cJ cG _ x1 I8 J9 _ hc14) (cwV 1 hT (gV wd_677 wd_679 wd_35 wd_57 wd_680) rfl rfl rfl (by decide +kernel) ⟨Nat.le_of_ble_eq_true rfl, Nat.le_of_ble_eq_true rfl⟩) ⟨preW_fb, va_recv hK hP (ci := 6) (q0 := 0) rfl rfl, preW_at hP hK hN hD⟩ rfl rfl hl.1 rfl (lv_room (Nat.le_of_ble_eq_true rfl)) dR_run_38 ⟨Nat.zero_le _, Nat.zero_le _⟩) (fun H locs hP hD hS => ?_)
      refine lv_if_ne (tgt := 113) hx hb dR_run_41 (by decide) (fun c15 => ?_) (fun c15 => ?_)
      · have hm := brn hm c15
        refine lv_aload_n hx hb dR_run_113 rfl (lv_at hl 0 rfl) ?_
        refine lv_iload_n hx hb dR_run_114 rfl (lv_at hl 1 rfl) ?_
        obtain ⟨r16, I17, J18, hc19, hm⟩ := cl3_to hm
        refine pst_i (wf := wsR ad cI cJ cG) hD hS hA (va_runV (As := [.int x1]) (rest := []) ⟨hx, hb, hml, hown, hT⟩ (c_R_mixes l D ad cI cJ cG _ x1 I12 J13 _ hc19) (cwV 1 hT (gV wd_726 wd_728 wd_46 wd_57 wd_729) rfl rfl rfl (by decide +kernel) ⟨Nat.le_of_ble_eq_true rfl, Nat.le_of_ble_eq_true rfl⟩) ⟨preW_fb, va_recv hK hP (ci := 6) (q0 := 0) rfl rfl, preW_at hP hK hN hD⟩ rfl rfl hl.1 rfl (lv_room (Nat.le_of_ble_eq_true rfl)) dR_run_115 ⟨Nat.zero_le _, Nat.zero_le _⟩) (fun H locs hP hD hS => ?_)
        refine lv_if_eq (tgt := 129) hx hb dR_run_118 (by decide) (fun c20 => ?_) (fun c20 => ?_)
        · have hm := brp hm c20
          refine lv_aload_n hx hb dR_run_129 rfl (lv_at hl 0 rfl) ?_
          refine lv_iconst (v := 2) hx hb dR_run_130 (by decide) ?_
          refine va_put (D := D) (ci := 6) (v := .int 2) (ty := .int) (C := RR) (T := TR) (N := 31) hx hb hT inR tyR okR nmR hown hK hP hD hS 0 rfl rfl 10 (by decide) (hT _ wd_545) (fun _ h9 => h9) rfl pf_I rfl rfl (Nat.le_of_ble_eq_true rfl) dR_run_131 (fun H locs hP hD hS => ?_)
          obtain ⟨I21, eI21⟩ : ∃ z : SI, z = va_up I17 0 (upd (I17 0) 10 2) := ⟨_, rfl⟩
          have hm := nm_to eI21 hm
          have hP := P_eq (ws2 := wsR ad cI cJ cG I21 J18) hP (by rw [eI21]; rfl)
          have hD := D_eq (ws2 := wsR ad cI cJ cG I21 J18) hD (by rw [eI21]; rfl)
          refine lv_aload_n hx hb dR_run_134 rfl (lv_at hl 0 rfl) ?_
          refine va_get (D := D) (ci := 6) (v := .int (I21 0 10)) (C := RR) (T := TR) (N := 31) hx hb hT inR hown hK hP 0 rfl rfl 10 (by decide) (hT _ wd_545) (fun _ h9 => h9) rfl dR_run_135 ?_
          exact W.iret hx hb hr (fun t ht hW => ⟨⟨I21 0 10, (I21, J18), rfl, Option.some.inj hm, ht ▸ hP, va_K.moved hW.alike hK, hD⟩, hS.F ht⟩) hS.2.2 dR_run_138 hlk
        · have hm := brn hm c20
          refine lv_aload_n hx hb dR_run_121 rfl (lv_at hl 0 rfl) ?_
          refine lv_iload_n hx hb dR_run_122 rfl (lv_at hl 1 rfl) ?_
          obtain ⟨I23, J24, hc25, hm⟩ := cl2_to hm
          refine pst_v (wf := wsR ad cI cJ cG) hD hS hA (va_runV (As := [.int x1]) (rest := []) ⟨hx, hb, hml, hown, hT⟩ (c_R_keepMix l D ad cI cJ cG _ x1 I17 J18 _ hc25) (cwV 1 hT (gV wd_738 wd_740 wd_49 wd_57 wd_741) rfl rfl rfl (by decide +kernel) ⟨Nat.le_of_ble_eq_true rfl, Nat.le_of_ble_eq_true rfl⟩) ⟨preW_fb, va_recv hK hP (ci := 6) (q0 := 0) rfl rfl, preW_at hP hK hN hD⟩ rfl rfl hl.1 rfl (lv_room (Nat.le_of_ble_eq_true rfl)) dR_run_123 ⟨Nat.zero_le _, Nat.zero_le _⟩) (fun H locs hP hD hS => ?_)
          refine lv_goto (tgt := 134) hx hb dR_run_126 (by decide) ?_
          refine lv_aload_n hx hb dR_run_134 rfl (lv_at hl 0 rfl) ?_
          refine va_get (D := D) (ci := 6) (v := .int (I23 0 10)) (C := RR) (T := TR) (N := 31) hx hb hT inR hown hK hP 0 rfl rfl 10 (by decide) (hT _ wd_545) (fun _ h9 => h9) rfl dR_run_135 ?_
          exact W.iret hx hb hr (fun t ht hW => ⟨⟨I23 0 10, (I23, J24), rfl, Option.some.inj hm, ht ▸ hP, va_K.moved hW.alike hK, hD⟩, hS.F ht⟩) hS.2.2 dR_run_138 hlk
      · have hm := brp hm c15
        refine lv_aload_n hx hb dR_run_44 rfl (lv_at hl 0 rfl) ?_
        refine lv_iconst (v := 1) hx hb dR_run_45 (by decide) ?_
        refine va_put (D := D) (ci := 6) (v := .int 1) (ty := .int) (C := RR) (T := TR) (N := 31) hx hb hT inR tyR okR nmR hown hK hP hD hS 0 rfl rfl 10 (by decide) (hT _ wd_545) (fun _ h9 => h9) rfl pf_I rfl rfl (Nat.le_of_ble_eq_true rfl) dR_run_46 (fun H locs hP hD hS => ?_)
        obtain ⟨I26, eI26⟩ : ∃ z : SI, z = va_up I12 0 (upd (I12 0) 10 1) := ⟨_, rfl⟩
        have hm := nm_to eI26 hm
        have hP := P_eq (ws2 := wsR ad cI cJ cG I26 J13) hP (by rw [eI26]; rfl)
        have hD := D_eq (ws2 := wsR ad cI cJ cG I26 J13) hD (by rw [eI26]; rfl)
        refine lv_aload_n hx hb dR_run_49 rfl (lv_at hl 0 rfl) ?_
        refine lv_iconst (v := 0) hx hb dR_run_50 (by decide) ?_
        refine va_put (D := D) (ci := 6) (v := .int 0) (ty := .int) (C := RR) (T := TR) (N := 31) hx hb hT inR tyR okR nmR hown hK hP hD hS 0 rfl rfl 17 (by decide) (hT _ wd_552) (fun _ h9 => h9) rfl pf_I rfl rfl (Nat.le_of_ble_eq_true rfl) dR_run_51 (fun H locs hP hD hS => ?_)
        obtain ⟨I27, eI27⟩ : ∃ z : SI, z = va_up I26 0 (upd (I26 0) 17 0) := ⟨_, rfl⟩
        have hm := nm_to eI27 hm
        have hP := P_eq (ws2 := wsR ad cI cJ cG I27 J13) hP (by rw [eI27]; rfl)
        have hD := D_eq (ws2 := wsR ad cI cJ cG I27 J13) hD (by rw [eI27]; rfl)
        refine lv_iconst (v := 0) hx hb dR_run_54 (by decide) ?_
        refine lv_istore_n (lv' := [(2, .int 0), (0, .ref (ad 0)), (1, .int x1)]) hx hb dR_run_55 rfl hl (by decide) rfl (fun ls hl => ?_)
        exact hk56 x1 0 I27 J13 hm _ _ _ hP hD hS (lv_sub hl [1, 2, 0] rfl)
    · have hm := brp hm c4
      refine lv_iconst (v := (-1)) hx hb dR_run_17 (by decide) ?_
      exact W.iret hx hb hr (fun t ht hW => ⟨⟨-1, (I, J), rfl, Option.some.inj hm, ht ▸ hP, va_K.moved hW.alike hK, hD⟩, hS.F ht⟩) hS.2.2 dR_run_18 hlk
set_option maxHeartbeats 4000000 in
theorem gw_R_run {p : Program} {l : Launch} {e : Env} {s : State} {m : MethodId} {args : Array Value} {below : List Frame} {meth : Method} {c : Code} {D : va_G} {A : Nat → Prop} {ad : Nat → Nat} {cI cJ cG : ClassId} {res : Int32 × SI × SJ} (X : Cx p s m args meth c bR_run (some .int) 3 RR) (hK : va_K D vwCl (tysR cI cJ cG) s) (hN : NWs s) (hA : ∀ q, s.heap.size ≤ q → A q) : ∀ n : Nat, (∀ (x1 : Int32) (x2 : Int32) (I : SI) (J : SJ), (g_R_run n) x1 x2 I J = some res → WB p l e (headSpec (Cond.code yR_run bR_run 3 (some .int) :: gtb) rm_R_run).room s m args below meth c (MQ below (va_Qi (fun (r : Int32) (u : SI × SJ) => (r, u) = res) (atW D vwCl (tysR cI cJ cG) A (wsR ad cI cJ cG)) A) args s 0 0 A) D vwCl A 3 (wsR ad cI cJ cG I J) 56 [(0, .ref (ad 0)), (1, .int x1), (2, .int x2)] []) := by
  intro n
  induction n with
  | zero => exact fun _ _ _ _ h => (by cases h)
  | succ n ih =>
    have ih56 := ih
    exact fun x1 x2 I J h => w_R_run_56 X hK hN hA ih56 x1 x2 I J h
set_option maxHeartbeats 4000000 in
set_option maxRecDepth 100000 in
theorem c_R_run (l : Launch) (D : va_G) (ad : Nat → Nat) (cI cJ cG : ClassId) (sz : Nat) (x1 : Int32) (I : SI) (J : SJ) (res : Int32 × SI × SJ) (hm : m_R_run x1 I J = some res) : Met l yR_run (Cond.code yR_run bR_run 3 (some .int) :: gtb) rm_R_run (va_Pc [.ref (ad 0), .int x1] (preW D vwCl (tysR cI cJ cG) (wsR ad cI cJ cG I J) sz)) (va_Qi (fun (r : Int32) (u : SI × SJ) => (r, u) = res) (atW D vwCl (tysR cI cJ cG) (va_A (wsR ad cI cJ cG I J) sz) (wsR ad cI cJ cG)) (va_A (wsR ad cI cJ cG I J) sz)) 0 0 (va_A (wsR ad cI cJ cG I J) sz) := by
  refine Met.ofW (cc := bR_run) (maxL := 3) (ret := (some .int)) (by decide) rfl ?_
  intro p e s m args below meth c s₁ B hml hv
  obtain ⟨rfl, hsz, hP, hK, hD0, hN⟩ := hv
  subst hsz
  have X : Cx p s m [.ref (ad 0), .int x1].toArray meth c bR_run (some .int) 3 RR := ⟨B.exec, B.bytes, B.returns, hml, findClass_of_methodNamed B.named, fun w h => atoms_spec (ws := (Cond.code yR_run bR_run 3 (some .int) :: gtb)) B.pre w (List.mem_cons_of_mem _ h), B.notSynchronized⟩
  have hl := lv_entry ([.ref (ad 0), .int x1]) (n := 3) (Nat.le_of_ble_eq_true rfl)
  rw [lg_entry_eq]
  generalize (lg_sl ([.ref (ad 0), .int x1]) ++ List.replicate (3 - (lg_sl ([.ref (ad 0), .int x1])).length) Slot.unset).toArray = ls at hl ⊢
  have hl : lv_has ls 3 [(0, .ref (ad 0)), (1, .int x1)] := hl
  have hA : ∀ q, s.heap.size ≤ q → va_A (wsR ad cI cJ cG I J) s.heap.size q := fun q h => Or.inr h
  exact w_R_run_0 X hK hN hA (gw_R_run X hK hN hA fuel) x1 I J hm _ _ _ hP hD0.self va_S.rf hl
def b_R_amount_0 (x1 : Int32) (x2 : Int32) (I : SI) (J : SJ) : Option (Int64 × SI × SJ) :=
  if (I 0 10) = 0 then
    if x1 < 0 then
      some (-1, I, J)
    else
      if (I 0 11) ≤ x1 then
        some (-1, I, J)
      else
        cl1 (m_R_in x2 0 1) fun r4 =>
        if r4 = 0 then
          some (-1, I, J)
        else
          if x2 = 0 then
            gd (vin x1 4) <|
            nm (J 9 x1.toNatClampNeg) fun v11 =>
            some (v11, I, J)
          else
            gd (vin x1 4) <|
            nm (J 10 x1.toNatClampNeg) fun v9 =>
            some (v9, I, J)
  else
    some (-1, I, J)
def m_R_amount (x1 : Int32) (x2 : Int32) (I : SI) (J : SJ) : Option (Int64 × SI × SJ) := b_R_amount_0 x1 x2 I J
def rm_R_amount : Room := { frames := 1, cells := 0, slots := 0, locals := 22 }
set_option maxHeartbeats 4000000 in
set_option maxRecDepth 100000 in
theorem w_R_amount_0 {p : Program} {l : Launch} {e : Env} {s : State} {m : MethodId} {args : Array Value} {below : List Frame} {meth : Method} {c : Code} {D : va_G} {A : Nat → Prop} {ad : Nat → Nat} {cI cJ cG : ClassId} {res : Int64 × SI × SJ} (X : Cx p s m args meth c bR_amount (some .long) 3 RR) (hK : va_K D vwCl (tysR cI cJ cG) s) (hN : NWs s) (hA : ∀ q, s.heap.size ≤ q → A q)
     (x1 : Int32) (x2 : Int32) (I : SI) (J : SJ) (hm : b_R_amount_0  x1 x2 I J = some res) : WB p l e (headSpec (Cond.code yR_amount bR_amount 3 (some .long) :: gtb) rm_R_amount).room s m args below meth c (MQ below (va_Ql (fun (r : Int64) (u : SI × SJ) => (r, u) = res) (atW D vwCl (tysR cI cJ cG) A (wsR ad cI cJ cG)) A) args s 0 0 A) D vwCl A 3 (wsR ad cI cJ cG I J) 0 [(0, .ref (ad 0)), (1, .int x1), (2, .int x2)] [] := by
  obtain ⟨hx, hb, hr, hml, hown, hT, hlk⟩ := X
  intro H locs ls hP hD hS hl
  unfold b_R_amount_0 at hm
  refine lv_aload_n hx hb dR_amount_0 rfl (lv_at hl 0 rfl) ?_
  refine va_get (D := D) (ci := 6) (v := .int (I 0 10)) (C := RR) (T := TR) (N := 31) hx hb hT inR hown hK hP 0 rfl rfl 10 (by decide) (hT _ wd_545) (fun _ h9 => h9) rfl dR_amount_1 ?_
  refine lv_if_ne (tgt := 28) hx hb dR_amount_4 (by decide) (fun c1 => ?_) (fun c1 => ?_)
  · have hm := brn hm c1
    refine lv_ldc2 (v := (-1)) hx hb hown (hT _ wd_706) dR_amount_28 ?_
    refine lv_goto (tgt := 53) hx hb dR_amount_31 (by decide) ?_
    exact W.lret hx hb hr (fun t ht hW => ⟨⟨-1, (I, J), rfl, Option.some.inj hm, ht ▸ hP, va_K.moved hW.alike hK, hD⟩, hS.F ht⟩) hS.2.2 dR_amount_53 hlk
  · have hm := brp hm c1
    refine lv_iload_n hx hb dR_amount_7 rfl (lv_at hl 1 rfl) ?_
    refine lv_if_lt (tgt := 28) hx hb dR_amount_8 (by decide) (fun c2 => ?_) (fun c2 => ?_)
    · have hm := brp hm c2
      refine lv_ldc2 (v := (-1)) hx hb hown (hT _ wd_706) dR_amount_28 ?_
      refine lv_goto (tgt := 53) hx hb dR_amount_31 (by decide) ?_
      exact W.lret hx hb hr (fun t ht hW => ⟨⟨-1, (I, J), rfl, Option.some.inj hm, ht ▸ hP, va_K.moved hW.alike hK, hD⟩, hS.F ht⟩) hS.2.2 dR_amount_53 hlk
    · have hm := brn hm c2
      refine lv_iload_n hx hb dR_amount_11 rfl (lv_at hl 1 rfl) ?_
      refine lv_aload_n hx hb dR_amount_12 rfl (lv_at hl 0 rfl) ?_
      refine va_get (D := D) (ci := 6) (v := .int (I 0 11)) (C := RR) (T := TR) (N := 31) hx hb hT inR hown hK hP 0 rfl rfl 11 (by decide) (hT _ wd_546) (fun _ h9 => h9) rfl dR_amount_13 ?_
      refine lv_icmp_ge (tgt := 28) hx hb dR_amount_16 (by decide) (fun c3 => ?_) (fun c3 => ?_)
      · have hm := brp hm c3
        refine lv_ldc2 (v := (-1)) hx hb hown (hT _ wd_706) dR_amount_28 ?_
        refine lv_goto (tgt := 53) hx hb dR_amount_31 (by decide) ?_
        exact W.lret hx hb hr (fun t ht hW => ⟨⟨-1, (I, J), rfl, Option.some.inj hm, ht ▸ hP, va_K.moved hW.alike hK, hD⟩, hS.F ht⟩) hS.2.2 dR_amount_53 hlk
      · have hm := brn hm c3
        refine lv_iload_n hx hb dR_amount_19 rfl (lv_at hl 2 rfl) ?_
        refine lv_iconst (v := 0) hx hb dR_amount_20 (by decide) ?_
        refine lv_iconst (v := 1) hx hb dR_amount_21 (by decide) ?_
        obtain ⟨r4, hc5, hm⟩ := cl1_to hm
        refine pstZ_i hS (va_runS (As := [.int x2, .int 0, .int 1]) (rest := []) ⟨hx, hb, hml, hown, hT⟩ (c_R_in l x2 0 1 _ hc5) (va_cwS 3 hT (gS wd_634 wd_635 wd_57 wd_636) rfl rfl rfl (by decide +kernel) ⟨Nat.le_of_ble_eq_true rfl, Nat.le_of_ble_eq_true rfl⟩) ⟨preZ_fb, preZ_at⟩ rfl rfl hl.1 rfl (lv_room (Nat.le_of_ble_eq_true rfl)) dR_amount_22 ⟨Nat.zero_le _, Nat.zero_le _⟩) (fun H1 locs hq hS => ?_)
        have hP := keptP hP hq
        refine lv_if_ne (tgt := 34) hx hb dR_amount_25 (by decide) (fun c6 => ?_) (fun c6 => ?_)
        · have hm := brn hm c6
          refine lv_iload_n hx hb dR_amount_34 rfl (lv_at hl 2 rfl) ?_
          refine lv_if_ne (tgt := 47) hx hb dR_amount_35 (by decide) (fun c7 => ?_) (fun c7 => ?_)
          · have hm := brn hm c7
            refine lv_aload_n hx hb dR_amount_47 rfl (lv_at hl 0 rfl) ?_
            refine va_get (D := D) (ci := 6) (v := .ref (ad 10)) (C := RR) (T := TR) (N := 31) hx hb hT inR hown hK hP 0 rfl rfl 13 (by decide) (hT _ wd_548) (fun _ h9 => h9) rfl dR_amount_48 ?_
            refine lv_iload_n hx hb dR_amount_51 rfl (lv_at hl 1 rfl) ?_
            obtain ⟨g8, hm⟩ := gd_to hm
            refine va_lald hx hb hK hP 10 1 rfl rfl g8 dR_amount_52 ?_
            refine lv_topl (fun v9 ev9 => ?_)
            have hm := nm_to ev9 hm
            exact W.lret hx hb hr (fun t ht hW => ⟨⟨v9, (I, J), rfl, Option.some.inj hm, ht ▸ hP, va_K.moved hW.alike hK, hD⟩, hS.F ht⟩) hS.2.2 dR_amount_53 hlk
          · have hm := brp hm c7
            refine lv_aload_n hx hb dR_amount_38 rfl (lv_at hl 0 rfl) ?_
            refine va_get (D := D) (ci := 6) (v := .ref (ad 9)) (C := RR) (T := TR) (N := 31) hx hb hT inR hown hK hP 0 rfl rfl 12 (by decide) (hT _ wd_547) (fun _ h9 => h9) rfl dR_amount_39 ?_
            refine lv_iload_n hx hb dR_amount_42 rfl (lv_at hl 1 rfl) ?_
            obtain ⟨g10, hm⟩ := gd_to hm
            refine va_lald hx hb hK hP 9 1 rfl rfl g10 dR_amount_43 ?_
            refine lv_topl (fun v11 ev11 => ?_)
            have hm := nm_to ev11 hm
            refine lv_goto (tgt := 53) hx hb dR_amount_44 (by decide) ?_
            exact W.lret hx hb hr (fun t ht hW => ⟨⟨v11, (I, J), rfl, Option.some.inj hm, ht ▸ hP, va_K.moved hW.alike hK, hD⟩, hS.F ht⟩) hS.2.2 dR_amount_53 hlk
        · have hm := brp hm c6
          refine lv_ldc2 (v := (-1)) hx hb hown (hT _ wd_706) dR_amount_28 ?_
          refine lv_goto (tgt := 53) hx hb dR_amount_31 (by decide) ?_
          exact W.lret hx hb hr (fun t ht hW => ⟨⟨-1, (I, J), rfl, Option.some.inj hm, ht ▸ hP, va_K.moved hW.alike hK, hD⟩, hS.F ht⟩) hS.2.2 dR_amount_53 hlk
set_option maxHeartbeats 4000000 in
set_option maxRecDepth 100000 in
theorem c_R_amount (l : Launch) (D : va_G) (ad : Nat → Nat) (cI cJ cG : ClassId) (sz : Nat) (x1 : Int32) (x2 : Int32) (I : SI) (J : SJ) (res : Int64 × SI × SJ) (hm : m_R_amount x1 x2 I J = some res) : Met l yR_amount (Cond.code yR_amount bR_amount 3 (some .long) :: gtb) rm_R_amount (va_Pc [.ref (ad 0), .int x1, .int x2] (preW D vwCl (tysR cI cJ cG) (wsR ad cI cJ cG I J) sz)) (va_Ql (fun (r : Int64) (u : SI × SJ) => (r, u) = res) (atW D vwCl (tysR cI cJ cG) (va_A (wsR ad cI cJ cG I J) sz) (wsR ad cI cJ cG)) (va_A (wsR ad cI cJ cG I J) sz)) 0 0 (va_A (wsR ad cI cJ cG I J) sz) := by
  refine Met.ofW (cc := bR_amount) (maxL := 3) (ret := (some .long)) (by decide) rfl ?_
  intro p e s m args below meth c s₁ B hml hv
  obtain ⟨rfl, hsz, hP, hK, hD0, hN⟩ := hv
  subst hsz
  have X : Cx p s m [.ref (ad 0), .int x1, .int x2].toArray meth c bR_amount (some .long) 3 RR := ⟨B.exec, B.bytes, B.returns, hml, findClass_of_methodNamed B.named, fun w h => atoms_spec (ws := (Cond.code yR_amount bR_amount 3 (some .long) :: gtb)) B.pre w (List.mem_cons_of_mem _ h), B.notSynchronized⟩
  have hl := lv_entry ([.ref (ad 0), .int x1, .int x2]) (n := 3) (Nat.le_of_ble_eq_true rfl)
  rw [lg_entry_eq]
  generalize (lg_sl ([.ref (ad 0), .int x1, .int x2]) ++ List.replicate (3 - (lg_sl ([.ref (ad 0), .int x1, .int x2])).length) Slot.unset).toArray = ls at hl ⊢
  have hl : lv_has ls 3 [(0, .ref (ad 0)), (1, .int x1), (2, .int x2)] := hl
  have hA : ∀ q, s.heap.size ≤ q → va_A (wsR ad cI cJ cG I J) s.heap.size q := fun q h => Or.inr h
  exact w_R_amount_0 X hK hN hA  x1 x2 I J hm _ _ _ hP hD0.self va_S.rf hl
def b_R_cost_0 (x1 : Int32) (I : SI) (J : SJ) : Option (Int64 × SI × SJ) :=
  if (I 0 10) = 0 then
    cl1 (m_R_in x1 0 1) fun r2 =>
    if r2 = 0 then
      some (-1, I, J)
    else
      if x1 = 0 then
        some (J 0 14, I, J)
      else
        some (J 0 15, I, J)
  else
    some (-1, I, J)
def m_R_cost (x1 : Int32) (I : SI) (J : SJ) : Option (Int64 × SI × SJ) := b_R_cost_0 x1 I J
def rm_R_cost : Room := { frames := 1, cells := 0, slots := 0, locals := 22 }
set_option maxHeartbeats 4000000 in
set_option maxRecDepth 100000 in
theorem w_R_cost_0 {p : Program} {l : Launch} {e : Env} {s : State} {m : MethodId} {args : Array Value} {below : List Frame} {meth : Method} {c : Code} {D : va_G} {A : Nat → Prop} {ad : Nat → Nat} {cI cJ cG : ClassId} {res : Int64 × SI × SJ} (X : Cx p s m args meth c bR_cost (some .long) 2 RR) (hK : va_K D vwCl (tysR cI cJ cG) s) (hN : NWs s) (hA : ∀ q, s.heap.size ≤ q → A q)
     (x1 : Int32) (I : SI) (J : SJ) (hm : b_R_cost_0  x1 I J = some res) : WB p l e (headSpec (Cond.code yR_cost bR_cost 2 (some .long) :: gtb) rm_R_cost).room s m args below meth c (MQ below (va_Ql (fun (r : Int64) (u : SI × SJ) => (r, u) = res) (atW D vwCl (tysR cI cJ cG) A (wsR ad cI cJ cG)) A) args s 0 0 A) D vwCl A 2 (wsR ad cI cJ cG I J) 0 [(0, .ref (ad 0)), (1, .int x1)] [] := by
  obtain ⟨hx, hb, hr, hml, hown, hT, hlk⟩ := X
  intro H locs ls hP hD hS hl
  unfold b_R_cost_0 at hm
  refine lv_aload_n hx hb dR_cost_0 rfl (lv_at hl 0 rfl) ?_
  refine va_get (D := D) (ci := 6) (v := .int (I 0 10)) (C := RR) (T := TR) (N := 31) hx hb hT inR hown hK hP 0 rfl rfl 10 (by decide) (hT _ wd_545) (fun _ h9 => h9) rfl dR_cost_1 ?_
  refine lv_if_ne (tgt := 16) hx hb dR_cost_4 (by decide) (fun c1 => ?_) (fun c1 => ?_)
  · have hm := brn hm c1
    refine lv_ldc2 (v := (-1)) hx hb hown (hT _ wd_706) dR_cost_16 ?_
    refine lv_goto (tgt := 37) hx hb dR_cost_19 (by decide) ?_
    exact W.lret hx hb hr (fun t ht hW => ⟨⟨-1, (I, J), rfl, Option.some.inj hm, ht ▸ hP, va_K.moved hW.alike hK, hD⟩, hS.F ht⟩) hS.2.2 dR_cost_37 hlk
  · have hm := brp hm c1
    refine lv_iload_n hx hb dR_cost_7 rfl (lv_at hl 1 rfl) ?_
    refine lv_iconst (v := 0) hx hb dR_cost_8 (by decide) ?_
    refine lv_iconst (v := 1) hx hb dR_cost_9 (by decide) ?_
    obtain ⟨r2, hc3, hm⟩ := cl1_to hm
    refine pstZ_i hS (va_runS (As := [.int x1, .int 0, .int 1]) (rest := []) ⟨hx, hb, hml, hown, hT⟩ (c_R_in l x1 0 1 _ hc3) (va_cwS 3 hT (gS wd_634 wd_635 wd_57 wd_636) rfl rfl rfl (by decide +kernel) ⟨Nat.le_of_ble_eq_true rfl, Nat.le_of_ble_eq_true rfl⟩) ⟨preZ_fb, preZ_at⟩ rfl rfl hl.1 rfl (lv_room (Nat.le_of_ble_eq_true rfl)) dR_cost_10 ⟨Nat.zero_le _, Nat.zero_le _⟩) (fun H1 locs hq hS => ?_)
    have hP := keptP hP hq
    refine lv_if_ne (tgt := 22) hx hb dR_cost_13 (by decide) (fun c4 => ?_) (fun c4 => ?_)
    · have hm := brn hm c4
      refine lv_iload_n hx hb dR_cost_22 rfl (lv_at hl 1 rfl) ?_
      refine lv_if_ne (tgt := 33) hx hb dR_cost_23 (by decide) (fun c5 => ?_) (fun c5 => ?_)
      · have hm := brn hm c5
        refine lv_aload_n hx hb dR_cost_33 rfl (lv_at hl 0 rfl) ?_
        refine va_get (D := D) (ci := 6) (v := .long (J 0 15)) (C := RR) (T := TR) (N := 31) hx hb hT inR hown hK hP 0 rfl rfl 15 (by decide) (hT _ wd_550) (fun _ h9 => h9) rfl dR_cost_34 ?_
        exact W.lret hx hb hr (fun t ht hW => ⟨⟨J 0 15, (I, J), rfl, Option.some.inj hm, ht ▸ hP, va_K.moved hW.alike hK, hD⟩, hS.F ht⟩) hS.2.2 dR_cost_37 hlk
      · have hm := brp hm c5
        refine lv_aload_n hx hb dR_cost_26 rfl (lv_at hl 0 rfl) ?_
        refine va_get (D := D) (ci := 6) (v := .long (J 0 14)) (C := RR) (T := TR) (N := 31) hx hb hT inR hown hK hP 0 rfl rfl 14 (by decide) (hT _ wd_549) (fun _ h9 => h9) rfl dR_cost_27 ?_
        refine lv_goto (tgt := 37) hx hb dR_cost_30 (by decide) ?_
        exact W.lret hx hb hr (fun t ht hW => ⟨⟨J 0 14, (I, J), rfl, Option.some.inj hm, ht ▸ hP, va_K.moved hW.alike hK, hD⟩, hS.F ht⟩) hS.2.2 dR_cost_37 hlk
    · have hm := brp hm c4
      refine lv_ldc2 (v := (-1)) hx hb hown (hT _ wd_706) dR_cost_16 ?_
      refine lv_goto (tgt := 37) hx hb dR_cost_19 (by decide) ?_
      exact W.lret hx hb hr (fun t ht hW => ⟨⟨-1, (I, J), rfl, Option.some.inj hm, ht ▸ hP, va_K.moved hW.alike hK, hD⟩, hS.F ht⟩) hS.2.2 dR_cost_37 hlk
set_option maxHeartbeats 4000000 in
set_option maxRecDepth 100000 in
theorem c_R_cost (l : Launch) (D : va_G) (ad : Nat → Nat) (cI cJ cG : ClassId) (sz : Nat) (x1 : Int32) (I : SI) (J : SJ) (res : Int64 × SI × SJ) (hm : m_R_cost x1 I J = some res) : Met l yR_cost (Cond.code yR_cost bR_cost 2 (some .long) :: gtb) rm_R_cost (va_Pc [.ref (ad 0), .int x1] (preW D vwCl (tysR cI cJ cG) (wsR ad cI cJ cG I J) sz)) (va_Ql (fun (r : Int64) (u : SI × SJ) => (r, u) = res) (atW D vwCl (tysR cI cJ cG) (va_A (wsR ad cI cJ cG I J) sz) (wsR ad cI cJ cG)) (va_A (wsR ad cI cJ cG I J) sz)) 0 0 (va_A (wsR ad cI cJ cG I J) sz) := by
  refine Met.ofW (cc := bR_cost) (maxL := 2) (ret := (some .long)) (by decide) rfl ?_
  intro p e s m args below meth c s₁ B hml hv
  obtain ⟨rfl, hsz, hP, hK, hD0, hN⟩ := hv
  subst hsz
  have X : Cx p s m [.ref (ad 0), .int x1].toArray meth c bR_cost (some .long) 2 RR := ⟨B.exec, B.bytes, B.returns, hml, findClass_of_methodNamed B.named, fun w h => atoms_spec (ws := (Cond.code yR_cost bR_cost 2 (some .long) :: gtb)) B.pre w (List.mem_cons_of_mem _ h), B.notSynchronized⟩
  have hl := lv_entry ([.ref (ad 0), .int x1]) (n := 2) (Nat.le_of_ble_eq_true rfl)
  rw [lg_entry_eq]
  generalize (lg_sl ([.ref (ad 0), .int x1]) ++ List.replicate (2 - (lg_sl ([.ref (ad 0), .int x1])).length) Slot.unset).toArray = ls at hl ⊢
  have hl : lv_has ls 2 [(0, .ref (ad 0)), (1, .int x1)] := hl
  have hA : ∀ q, s.heap.size ≤ q → va_A (wsR ad cI cJ cG I J) s.heap.size q := fun q h => Or.inr h
  exact w_R_cost_0 X hK hN hA  x1 I J hm _ _ _ hP hD0.self va_S.rf hl
def b_R_tight_0 (I : SI) (J : SJ) : Option (Int32 × SI × SJ) :=
  if (I 0 10) = 0 then
    some (I 0 16, I, J)
  else
    some (-1, I, J)
def m_R_tight (I : SI) (J : SJ) : Option (Int32 × SI × SJ) := b_R_tight_0  I J
def rm_R_tight : Room := { frames := 0, cells := 0, slots := 0, locals := 0 }
set_option maxHeartbeats 4000000 in
set_option maxRecDepth 100000 in
theorem w_R_tight_0 {p : Program} {l : Launch} {e : Env} {s : State} {m : MethodId} {args : Array Value} {below : List Frame} {meth : Method} {c : Code} {D : va_G} {A : Nat → Prop} {ad : Nat → Nat} {cI cJ cG : ClassId} {res : Int32 × SI × SJ} (X : Cx p s m args meth c bR_tight (some .int) 1 RR) (hK : va_K D vwCl (tysR cI cJ cG) s) (hN : NWs s) (hA : ∀ q, s.heap.size ≤ q → A q)
     (I : SI) (J : SJ) (hm : b_R_tight_0   I J = some res) : WB p l e (headSpec (Cond.code yR_tight bR_tight 1 (some .int) :: gtb) rm_R_tight).room s m args below meth c (MQ below (va_Qi (fun (r : Int32) (u : SI × SJ) => (r, u) = res) (atW D vwCl (tysR cI cJ cG) A (wsR ad cI cJ cG)) A) args s 0 0 A) D vwCl A 1 (wsR ad cI cJ cG I J) 0 [(0, .ref (ad 0))] [] := by
  obtain ⟨hx, hb, hr, hml, hown, hT, hlk⟩ := X
  intro H locs ls hP hD hS hl
  unfold b_R_tight_0 at hm
  refine lv_aload_n hx hb dR_tight_0 rfl (lv_at hl 0 rfl) ?_
  refine va_get (D := D) (ci := 6) (v := .int (I 0 10)) (C := RR) (T := TR) (N := 31) hx hb hT inR hown hK hP 0 rfl rfl 10 (by decide) (hT _ wd_545) (fun _ h9 => h9) rfl dR_tight_1 ?_
  refine lv_if_eq (tgt := 11) hx hb dR_tight_4 (by decide) (fun c1 => ?_) (fun c1 => ?_)
  · have hm := brp hm c1
    refine lv_aload_n hx hb dR_tight_11 rfl (lv_at hl 0 rfl) ?_
    refine va_get (D := D) (ci := 6) (v := .int (I 0 16)) (C := RR) (T := TR) (N := 31) hx hb hT inR hown hK hP 0 rfl rfl 16 (by decide) (hT _ wd_551) (fun _ h9 => h9) rfl dR_tight_12 ?_
    exact W.iret hx hb hr (fun t ht hW => ⟨⟨I 0 16, (I, J), rfl, Option.some.inj hm, ht ▸ hP, va_K.moved hW.alike hK, hD⟩, hS.F ht⟩) hS.2.2 dR_tight_15 hlk
  · have hm := brn hm c1
    refine lv_iconst (v := (-1)) hx hb dR_tight_7 (by decide) ?_
    refine lv_goto (tgt := 15) hx hb dR_tight_8 (by decide) ?_
    exact W.iret hx hb hr (fun t ht hW => ⟨⟨-1, (I, J), rfl, Option.some.inj hm, ht ▸ hP, va_K.moved hW.alike hK, hD⟩, hS.F ht⟩) hS.2.2 dR_tight_15 hlk
set_option maxHeartbeats 4000000 in
set_option maxRecDepth 100000 in
theorem c_R_tight (l : Launch) (D : va_G) (ad : Nat → Nat) (cI cJ cG : ClassId) (sz : Nat) (I : SI) (J : SJ) (res : Int32 × SI × SJ) (hm : m_R_tight  I J = some res) : Met l yR_tight (Cond.code yR_tight bR_tight 1 (some .int) :: gtb) rm_R_tight (va_Pc [.ref (ad 0)] (preW D vwCl (tysR cI cJ cG) (wsR ad cI cJ cG I J) sz)) (va_Qi (fun (r : Int32) (u : SI × SJ) => (r, u) = res) (atW D vwCl (tysR cI cJ cG) (va_A (wsR ad cI cJ cG I J) sz) (wsR ad cI cJ cG)) (va_A (wsR ad cI cJ cG I J) sz)) 0 0 (va_A (wsR ad cI cJ cG I J) sz) := by
  refine Met.ofW (cc := bR_tight) (maxL := 1) (ret := (some .int)) (by decide) rfl ?_
  intro p e s m args below meth c s₁ B hml hv
  obtain ⟨rfl, hsz, hP, hK, hD0, hN⟩ := hv
  subst hsz
  have X : Cx p s m [.ref (ad 0)].toArray meth c bR_tight (some .int) 1 RR := ⟨B.exec, B.bytes, B.returns, hml, findClass_of_methodNamed B.named, fun w h => atoms_spec (ws := (Cond.code yR_tight bR_tight 1 (some .int) :: gtb)) B.pre w (List.mem_cons_of_mem _ h), B.notSynchronized⟩
  have hl := lv_entry ([.ref (ad 0)]) (n := 1) (Nat.le_of_ble_eq_true rfl)
  rw [lg_entry_eq]
  generalize (lg_sl ([.ref (ad 0)]) ++ List.replicate (1 - (lg_sl ([.ref (ad 0)])).length) Slot.unset).toArray = ls at hl ⊢
  have hl : lv_has ls 1 [(0, .ref (ad 0))] := hl
  have hA : ∀ q, s.heap.size ≤ q → va_A (wsR ad cI cJ cG I J) s.heap.size q := fun q h => Or.inr h
  exact w_R_tight_0 X hK hN hA   I J hm _ _ _ hP hD0.self va_S.rf hl
def b_R_clash_18 (k18 : Int32 → Int32 → Int32 → SI → SJ → Option (Int32 × SI × SJ)) (x1 : Int32) (x2 : Int32) (x3 : Int32) (I : SI) (J : SJ) : Option (Int32 × SI × SJ) :=
  if 18 ≤ x3 then
    some (-1, I, J)
  else
    nm ((I 0 17) >>> (x3 &&& 31)) fun v2 =>
    nm (v2 &&& 1) fun v3 =>
    if v3 = 1 then
      if x2 = x1 then
        some (x3, I, J)
      else
        nm (x2 + 1) fun v7 =>
        nm (x3 + 1) fun v8 =>
        k18 x1 v7 v8 I J
    else
      nm (x3 + 1) fun v5 =>
      k18 x1 x2 v5 I J
def b_R_clash_0 (k18 : Int32 → Int32 → Int32 → SI → SJ → Option (Int32 × SI × SJ)) (x1 : Int32) (I : SI) (J : SJ) : Option (Int32 × SI × SJ) :=
  if (I 0 10) = 1 then
    if 0 ≤ x1 then
      k18 x1 0 0 I J
    else
      some (-1, I, J)
  else
    some (-1, I, J)
def g_R_clash : Nat → (Int32 → Int32 → Int32 → SI → SJ → Option (Int32 × SI × SJ))
  | 0 => (fun _ _ _ _ _ => none)
  | n + 1 => (fun x1 x2 x3 I J => b_R_clash_18 (g_R_clash n) x1 x2 x3 I J)
def m_R_clash (x1 : Int32) (I : SI) (J : SJ) : Option (Int32 × SI × SJ) := b_R_clash_0 (g_R_clash fuel) x1 I J
def rm_R_clash : Room := { frames := 0, cells := 0, slots := 0, locals := 0 }
set_option maxHeartbeats 4000000 in
set_option maxRecDepth 100000 in
theorem w_R_clash_18 {p : Program} {l : Launch} {e : Env} {s : State} {m : MethodId} {args : Array Value} {below : List Frame} {meth : Method} {c : Code} {D : va_G} {A : Nat → Prop} {ad : Nat → Nat} {cI cJ cG : ClassId} {res : Int32 × SI × SJ} (X : Cx p s m args meth c bR_clash (some .int) 4 RR) (hK : va_K D vwCl (tysR cI cJ cG) s) (hN : NWs s) (hA : ∀ q, s.heap.size ≤ q → A q)
    {k18 : Int32 → Int32 → Int32 → SI → SJ → Option (Int32 × SI × SJ)} (hk18 : ∀ (x1 : Int32) (x2 : Int32) (x3 : Int32) (I : SI) (J : SJ), k18 x1 x2 x3 I J = some res → WB p l e (headSpec (Cond.code yR_clash bR_clash 4 (some .int) :: gtb) rm_R_clash).room s m args below meth c (MQ below (va_Qi (fun (r : Int32) (u : SI × SJ) => (r, u) = res) (atW D vwCl (tysR cI cJ cG) A (wsR ad cI cJ cG)) A) args s 0 0 A) D vwCl A 4 (wsR ad cI cJ cG I J) 18 [(0, .ref (ad 0)), (1, .int x1), (2, .int x2), (3, .int x3)] [])
     (x1 : Int32) (x2 : Int32) (x3 : Int32) (I : SI) (J : SJ) (hm : b_R_clash_18 k18 x1 x2 x3 I J = some res) : WB p l e (headSpec (Cond.code yR_clash bR_clash 4 (some .int) :: gtb) rm_R_clash).room s m args below meth c (MQ below (va_Qi (fun (r : Int32) (u : SI × SJ) => (r, u) = res) (atW D vwCl (tysR cI cJ cG) A (wsR ad cI cJ cG)) A) args s 0 0 A) D vwCl A 4 (wsR ad cI cJ cG I J) 18 [(0, .ref (ad 0)), (1, .int x1), (2, .int x2), (3, .int x3)] [] := by
  obtain ⟨hx, hb, hr, hml, hown, hT, hlk⟩ := X
  intro H locs ls hP hD hS hl
  unfold b_R_clash_18 at hm
  refine lv_iload_n hx hb dR_clash_18 rfl (lv_at hl 3 rfl) ?_
  refine lv_bipush (v := 18) hx hb dR_clash_19 (by decide) ?_
  refine lv_icmp_ge (tgt := 52) hx hb dR_clash_21 (by decide) (fun c1 => ?_) (fun c1 => ?_)
  · have hm := brp hm c1
    refine lv_iconst (v := (-1)) hx hb dR_clash_52 (by decide) ?_
    exact W.iret hx hb hr (fun t ht hW => ⟨⟨-1, (I, J), rfl, Option.some.inj hm, ht ▸ hP, va_K.moved hW.alike hK, hD⟩, hS.F ht⟩) hS.2.2 dR_clash_53 hlk
  · have hm := brn hm c1
    refine lv_aload_n hx hb dR_clash_24 rfl (lv_at hl 0 rfl) ?_
    refine va_get (D := D) (ci := 6) (v := .int (I 0 17)) (C := RR) (T := TR) (N := 31) hx hb hT inR hown hK hP 0 rfl rfl 17 (by decide) (hT _ wd_552) (fun _ h9 => h9) rfl dR_clash_25 ?_
    refine lv_iload_n hx hb dR_clash_28 rfl (lv_at hl 3 rfl) ?_
    refine lv_ishr hx hb dR_clash_29 ?_
    refine lv_topi (fun v2 ev2 => ?_)
    have hm := nm_to ev2 hm
    refine lv_iconst (v := 1) hx hb dR_clash_30 (by decide) ?_
    refine lv_iand hx hb dR_clash_31 ?_
    refine lv_topi (fun v3 ev3 => ?_)
    have hm := nm_to ev3 hm
    refine lv_iconst (v := 1) hx hb dR_clash_32 (by decide) ?_
    refine lv_icmp_ne (tgt := 46) hx hb dR_clash_33 (by decide) (fun c4 => ?_) (fun c4 => ?_)
    · have hm := brn hm c4
      obtain ⟨v5, ev5⟩ : ∃ z : Int32, z = x3 + 1 := ⟨_, rfl⟩
      have hm := nm_to ev5 hm
      refine lv_iinc (v := v5) (lv' := [(3, .int v5), (0, .ref (ad 0)), (1, .int x1), (2, .int x2)]) hx hb dR_clash_46 hl (k := 3) rfl (by rw [ev5]; rfl) (by decide) rfl (fun ls hl => ?_)
      refine lv_goto (tgt := 18) hx hb dR_clash_49 (by decide) ?_
      exact hk18 x1 x2 v5 I J hm _ _ _ hP hD hS (lv_sub hl [1, 2, 3, 0] rfl)
    · have hm := brp hm c4
      refine lv_iload_n hx hb dR_clash_36 rfl (lv_at hl 2 rfl) ?_
      refine lv_iload_n hx hb dR_clash_37 rfl (lv_at hl 1 rfl) ?_
      refine lv_icmp_ne (tgt := 43) hx hb dR_clash_38 (by decide) (fun c6 => ?_) (fun c6 => ?_)
      · have hm := brn hm c6
        obtain ⟨v7, ev7⟩ : ∃ z : Int32, z = x2 + 1 := ⟨_, rfl⟩
        have hm := nm_to ev7 hm
        refine lv_iinc (v := v7) (lv' := [(2, .int v7), (0, .ref (ad 0)), (1, .int x1), (3, .int x3)]) hx hb dR_clash_43 hl (k := 2) rfl (by rw [ev7]; rfl) (by decide) rfl (fun ls hl => ?_)
        obtain ⟨v8, ev8⟩ : ∃ z : Int32, z = x3 + 1 := ⟨_, rfl⟩
        have hm := nm_to ev8 hm
        refine lv_iinc (v := v8) (lv' := [(3, .int v8), (2, .int v7), (0, .ref (ad 0)), (1, .int x1)]) hx hb dR_clash_46 hl (k := 3) rfl (by rw [ev8]; rfl) (by decide) rfl (fun ls hl => ?_)
        refine lv_goto (tgt := 18) hx hb dR_clash_49 (by decide) ?_
        exact hk18 x1 v7 v8 I J hm _ _ _ hP hD hS (lv_sub hl [2, 3, 1, 0] rfl)
      · have hm := brp hm c6
        refine lv_iload_n hx hb dR_clash_41 rfl (lv_at hl 3 rfl) ?_
        exact W.iret hx hb hr (fun t ht hW => ⟨⟨x3, (I, J), rfl, Option.some.inj hm, ht ▸ hP, va_K.moved hW.alike hK, hD⟩, hS.F ht⟩) hS.2.2 dR_clash_42 hlk
set_option maxHeartbeats 4000000 in
set_option maxRecDepth 100000 in
theorem w_R_clash_0 {p : Program} {l : Launch} {e : Env} {s : State} {m : MethodId} {args : Array Value} {below : List Frame} {meth : Method} {c : Code} {D : va_G} {A : Nat → Prop} {ad : Nat → Nat} {cI cJ cG : ClassId} {res : Int32 × SI × SJ} (X : Cx p s m args meth c bR_clash (some .int) 4 RR) (hK : va_K D vwCl (tysR cI cJ cG) s) (hN : NWs s) (hA : ∀ q, s.heap.size ≤ q → A q)
    {k18 : Int32 → Int32 → Int32 → SI → SJ → Option (Int32 × SI × SJ)} (hk18 : ∀ (x1 : Int32) (x2 : Int32) (x3 : Int32) (I : SI) (J : SJ), k18 x1 x2 x3 I J = some res → WB p l e (headSpec (Cond.code yR_clash bR_clash 4 (some .int) :: gtb) rm_R_clash).room s m args below meth c (MQ below (va_Qi (fun (r : Int32) (u : SI × SJ) => (r, u) = res) (atW D vwCl (tysR cI cJ cG) A (wsR ad cI cJ cG)) A) args s 0 0 A) D vwCl A 4 (wsR ad cI cJ cG I J) 18 [(0, .ref (ad 0)), (1, .int x1), (2, .int x2), (3, .int x3)] [])
     (x1 : Int32) (I : SI) (J : SJ) (hm : b_R_clash_0 k18 x1 I J = some res) : WB p l e (headSpec (Cond.code yR_clash bR_clash 4 (some .int) :: gtb) rm_R_clash).room s m args below meth c (MQ below (va_Qi (fun (r : Int32) (u : SI × SJ) => (r, u) = res) (atW D vwCl (tysR cI cJ cG) A (wsR ad cI cJ cG)) A) args s 0 0 A) D vwCl A 4 (wsR ad cI cJ cG I J) 0 [(0, .ref (ad 0)), (1, .int x1)] [] := by
  obtain ⟨hx, hb, hr, hml, hown, hT, hlk⟩ := X
  intro H locs ls hP hD hS hl
  unfold b_R_clash_0 at hm
  refine lv_aload_n hx hb dR_clash_0 rfl (lv_at hl 0 rfl) ?_
  refine va_get (D := D) (ci := 6) (v := .int (I 0 10)) (C := RR) (T := TR) (N := 31) hx hb hT inR hown hK hP 0 rfl rfl 10 (by decide) (hT _ wd_545) (fun _ h9 => h9) rfl dR_clash_1 ?_
  refine lv_iconst (v := 1) hx hb dR_clash_4 (by decide) ?_
  refine lv_icmp_ne (tgt := 12) hx hb dR_clash_5 (by decide) (fun c1 => ?_) (fun c1 => ?_)
  · have hm := brn hm c1
    refine lv_iconst (v := (-1)) hx hb dR_clash_12 (by decide) ?_
    exact W.iret hx hb hr (fun t ht hW => ⟨⟨-1, (I, J), rfl, Option.some.inj hm, ht ▸ hP, va_K.moved hW.alike hK, hD⟩, hS.F ht⟩) hS.2.2 dR_clash_13 hlk
  · have hm := brp hm c1
    refine lv_iload_n hx hb dR_clash_8 rfl (lv_at hl 1 rfl) ?_
    refine lv_if_ge (tgt := 14) hx hb dR_clash_9 (by decide) (fun c2 => ?_) (fun c2 => ?_)
    · have hm := brp hm c2
      refine lv_iconst (v := 0) hx hb dR_clash_14 (by decide) ?_
      refine lv_istore_n (lv' := [(2, .int 0), (0, .ref (ad 0)), (1, .int x1)]) hx hb dR_clash_15 rfl hl (by decide) rfl (fun ls hl => ?_)
      refine lv_iconst (v := 0) hx hb dR_clash_16 (by decide) ?_
      refine lv_istore_n (lv' := [(3, .int 0), (2, .int 0), (0, .ref (ad 0)), (1, .int x1)]) hx hb dR_clash_17 rfl hl (by decide) rfl (fun ls hl => ?_)
      exact hk18 x1 0 0 I J hm _ _ _ hP hD hS (lv_sub hl [2, 3, 1, 0] rfl)
    · have hm := brn hm c2
      refine lv_iconst (v := (-1)) hx hb dR_clash_12 (by decide) ?_
      exact W.iret hx hb hr (fun t ht hW => ⟨⟨-1, (I, J), rfl, Option.some.inj hm, ht ▸ hP, va_K.moved hW.alike hK, hD⟩, hS.F ht⟩) hS.2.2 dR_clash_13 hlk
set_option maxHeartbeats 4000000 in
theorem gw_R_clash {p : Program} {l : Launch} {e : Env} {s : State} {m : MethodId} {args : Array Value} {below : List Frame} {meth : Method} {c : Code} {D : va_G} {A : Nat → Prop} {ad : Nat → Nat} {cI cJ cG : ClassId} {res : Int32 × SI × SJ} (X : Cx p s m args meth c bR_clash (some .int) 4 RR) (hK : va_K D vwCl (tysR cI cJ cG) s) (hN : NWs s) (hA : ∀ q, s.heap.size ≤ q → A q) : ∀ n : Nat, (∀ (x1 : Int32) (x2 : Int32) (x3 : Int32) (I : SI) (J : SJ), (g_R_clash n) x1 x2 x3 I J = some res → WB p l e (headSpec (Cond.code yR_clash bR_clash 4 (some .int) :: gtb) rm_R_clash).room s m args below meth c (MQ below (va_Qi (fun (r : Int32) (u : SI × SJ) => (r, u) = res) (atW D vwCl (tysR cI cJ cG) A (wsR ad cI cJ cG)) A) args s 0 0 A) D vwCl A 4 (wsR ad cI cJ cG I J) 18 [(0, .ref (ad 0)), (1, .int x1), (2, .int x2), (3, .int x3)] []) := by
  intro n
  induction n with
  | zero => exact fun _ _ _ _ _ h => (by cases h)
  | succ n ih =>
    have ih18 := ih
    exact fun x1 x2 x3 I J h => w_R_clash_18 X hK hN hA ih18 x1 x2 x3 I J h
set_option maxHeartbeats 4000000 in
set_option maxRecDepth 100000 in
theorem c_R_clash (l : Launch) (D : va_G) (ad : Nat → Nat) (cI cJ cG : ClassId) (sz : Nat) (x1 : Int32) (I : SI) (J : SJ) (res : Int32 × SI × SJ) (hm : m_R_clash x1 I J = some res) : Met l yR_clash (Cond.code yR_clash bR_clash 4 (some .int) :: gtb) rm_R_clash (va_Pc [.ref (ad 0), .int x1] (preW D vwCl (tysR cI cJ cG) (wsR ad cI cJ cG I J) sz)) (va_Qi (fun (r : Int32) (u : SI × SJ) => (r, u) = res) (atW D vwCl (tysR cI cJ cG) (va_A (wsR ad cI cJ cG I J) sz) (wsR ad cI cJ cG)) (va_A (wsR ad cI cJ cG I J) sz)) 0 0 (va_A (wsR ad cI cJ cG I J) sz) := by
  refine Met.ofW (cc := bR_clash) (maxL := 4) (ret := (some .int)) (by decide) rfl ?_
  intro p e s m args below meth c s₁ B hml hv
  obtain ⟨rfl, hsz, hP, hK, hD0, hN⟩ := hv
  subst hsz
  have X : Cx p s m [.ref (ad 0), .int x1].toArray meth c bR_clash (some .int) 4 RR := ⟨B.exec, B.bytes, B.returns, hml, findClass_of_methodNamed B.named, fun w h => atoms_spec (ws := (Cond.code yR_clash bR_clash 4 (some .int) :: gtb)) B.pre w (List.mem_cons_of_mem _ h), B.notSynchronized⟩
  have hl := lv_entry ([.ref (ad 0), .int x1]) (n := 4) (Nat.le_of_ble_eq_true rfl)
  rw [lg_entry_eq]
  generalize (lg_sl ([.ref (ad 0), .int x1]) ++ List.replicate (4 - (lg_sl ([.ref (ad 0), .int x1])).length) Slot.unset).toArray = ls at hl ⊢
  have hl : lv_has ls 4 [(0, .ref (ad 0)), (1, .int x1)] := hl
  have hA : ∀ q, s.heap.size ≤ q → va_A (wsR ad cI cJ cG I J) s.heap.size q := fun q h => Or.inr h
  exact w_R_clash_0 X hK hN hA (gw_R_clash X hK hN hA fuel) x1 I J hm _ _ _ hP hD0.self va_S.rf hl
def b_R_dearer_0 (x1 : Int32) (x2 : Int32) (I : SI) (J : SJ) : Option (Int64 × SI × SJ) :=
  if (I 0 10) < 0 then
    some (-1, I, J)
  else
    cl1 (m_R_in x1 0 2) fun r2 =>
    if r2 = 0 then
      some (-1, I, J)
    else
      cl1 (m_R_in x2 0 1) fun r5 =>
      if r5 = 0 then
        some (-1, I, J)
      else
        gd (vin x1 3) <|
        nm (I 7 x1.toNatClampNeg) fun v9 =>
        gd (vin x1 3) <|
        nm (I 8 x1.toNatClampNeg) fun v11 =>
        if v9 = v11 then
          some (-1, I, J)
        else
          cl3 (m_R_mixes (I 0 9) I J) fun r13 I14 J15 =>
          if r13 = 0 then
            some (-1, I14, J15)
          else
            cl3 (m_R_costOf 17 I14 J15) fun r18 I19 J20 =>
            gd (vin x1 3) <|
            nm (I19 7 x1.toNatClampNeg) fun v23 =>
            nm (v23 + 1) fun v24 =>
            gd (vin x1 3) <|
            nm (va_up I19 7 (upd (I19 7) x1.toNatClampNeg v24)) fun I26 =>
            cl3 (m_R_mixes (I26 0 9) I26 J20) fun r27 I28 J29 =>
            gd (vin x1 3) <|
            nm (I28 7 x1.toNatClampNeg) fun v32 =>
            nm (v32 - 1) fun v33 =>
            gd (vin x1 3) <|
            nm (va_up I28 7 (upd (I28 7) x1.toNatClampNeg v33)) fun I35 =>
            if r27 = 0 then
              some (-1, I35, J29)
            else
              cl3 (m_R_costOf 17 I35 J29) fun r37 I38 J39 =>
              nm (r37 * (J20 0 30)) fun v41 =>
              nm (r18 * (J39 0 30)) fun v42 =>
              nm (v41 - v42) fun v43 =>
              nm ((J20 0 30) * (J39 0 30)) fun v44 =>
              cl1 (m_R_divisor v43 v44) fun r45 =>
              if x2 = 0 then
                gd (¬ r45 = 0) <|
                nm (v43 / r45) fun v51 =>
                some (v51, I38, J39)
              else
                gd (¬ r45 = 0) <|
                nm (v44 / r45) fun v49 =>
                some (v49, I38, J39)
def m_R_dearer (x1 : Int32) (x2 : Int32) (I : SI) (J : SJ) : Option (Int64 × SI × SJ) := b_R_dearer_0 x1 x2 I J
def rm_R_dearer : Room := { frames := 6, cells := 0, slots := 0, locals := 150 }
set_option maxHeartbeats 4000000 in
set_option maxRecDepth 100000 in
theorem w_R_dearer_0 {p : Program} {l : Launch} {e : Env} {s : State} {m : MethodId} {args : Array Value} {below : List Frame} {meth : Method} {c : Code} {D : va_G} {A : Nat → Prop} {ad : Nat → Nat} {cI cJ cG : ClassId} {res : Int64 × SI × SJ} (X : Cx p s m args meth c bR_dearer (some .long) 14 RR) (hK : va_K D vwCl (tysR cI cJ cG) s) (hN : NWs s) (hA : ∀ q, s.heap.size ≤ q → A q)
     (x1 : Int32) (x2 : Int32) (I : SI) (J : SJ) (hm : b_R_dearer_0  x1 x2 I J = some res) : WB p l e (headSpec (Cond.code yR_dearer bR_dearer 14 (some .long) :: gtb) rm_R_dearer).room s m args below meth c (MQ below (va_Ql (fun (r : Int64) (u : SI × SJ) => (r, u) = res) (atW D vwCl (tysR cI cJ cG) A (wsR ad cI cJ cG)) A) args s 0 0 A) D vwCl A 14 (wsR ad cI cJ cG I J) 0 [(0, .ref (ad 0)), (1, .int x1), (2, .int x2)] [] := by
  obtain ⟨hx, hb, hr, hml, hown, hT, hlk⟩ := X
  intro H locs ls hP hD hS hl
  unfold b_R_dearer_0 at hm
  refine lv_aload_n hx hb dR_dearer_0 rfl (lv_at hl 0 rfl) ?_
  refine va_get (D := D) (ci := 6) (v := .int (I 0 10)) (C := RR) (T := TR) (N := 31) hx hb hT inR hown hK hP 0 rfl rfl 10 (by decide) (hT _ wd_545) (fun _ h9 => h9) rfl dR_dearer_1 ?_
  refine lv_if_lt (tgt := 51) hx hb dR_dearer_4 (by decide) (fun c1 => ?_) (fun c1 => ?_)
  · have hm := brp hm c1
    refine lv_ldc2 (v := (-1)) hx hb hown (hT _ wd_706) dR_dearer_51 ?_
    exact W.lret hx hb hr (fun t ht hW => ⟨⟨-1, (I, J), rfl, Option.some.inj hm, ht ▸ hP, va_K.moved hW.alike hK, hD⟩, hS.F ht⟩) hS.2.2 dR_dearer_54 hlk
  · have hm := brn hm c1
    refine lv_iload_n hx hb dR_dearer_7 rfl (lv_at hl 1 rfl) ?_
    refine lv_iconst (v := 0) hx hb dR_dearer_8 (by decide) ?_
    refine lv_iconst (v := 2) hx hb dR_dearer_9 (by decide) ?_
    obtain ⟨r2, hc3, hm⟩ := cl1_to hm
    refine pstZ_i hS (va_runS (As := [.int x1, .int 0, .int 2]) (rest := []) ⟨hx, hb, hml, hown, hT⟩ (c_R_in l x1 0 2 _ hc3) (va_cwS 3 hT (gS wd_634 wd_635 wd_57 wd_636) rfl rfl rfl (by decide +kernel) ⟨Nat.le_of_ble_eq_true rfl, Nat.le_of_ble_eq_true rfl⟩) ⟨preZ_fb, preZ_at⟩ rfl rfl hl.1 rfl (lv_room (Nat.le_of_ble_eq_true rfl)) dR_dearer_10 ⟨Nat.zero_le _, Nat.zero_le _⟩) (fun H1 locs hq hS => ?_)
    have hP := keptP hP hq
    refine lv_if_eq (tgt := 51) hx hb dR_dearer_13 (by decide) (fun c4 => ?_) (fun c4 => ?_)
    · have hm := brp hm c4
      refine lv_ldc2 (v := (-1)) hx hb hown (hT _ wd_706) dR_dearer_51 ?_
      exact W.lret hx hb hr (fun t ht hW => ⟨⟨-1, (I, J), rfl, Option.some.inj hm, ht ▸ hP, va_K.moved hW.alike hK, hD⟩, hS.F ht⟩) hS.2.2 dR_dearer_54 hlk
    · have hm := brn hm c4
      refine lv_iload_n hx hb dR_dearer_16 rfl (lv_at hl 2 rfl) ?_
      refine lv_iconst (v := 0) hx hb dR_dearer_17 (by decide) ?_
      refine lv_iconst (v := 1) hx hb dR_dearer_18 (by decide) ?_
      obtain ⟨r5, hc6, hm⟩ := cl1_to hm
      refine pstZ_i hS (va_runS (As := [.int x2, .int 0, .int 1]) (rest := []) ⟨hx, hb, hml, hown, hT⟩ (c_R_in l x2 0 1 _ hc6) (va_cwS 3 hT (gS wd_634 wd_635 wd_57 wd_636) rfl rfl rfl (by decide +kernel) ⟨Nat.le_of_ble_eq_true rfl, Nat.le_of_ble_eq_true rfl⟩) ⟨preZ_fb, preZ_at⟩ rfl rfl hl.1 rfl (lv_room (Nat.le_of_ble_eq_true rfl)) dR_dearer_19 ⟨Nat.zero_le _, Nat.zero_le _⟩) (fun H1 locs hq hS => ?_)
      have hP := keptP hP hq
      refine lv_if_eq (tgt := 51) hx hb dR_dearer_22 (by decide) (fun c7 => ?_) (fun c7 => ?_)
      · have hm := brp hm c7
        refine lv_ldc2 (v := (-1)) hx hb hown (hT _ wd_706) dR_dearer_51 ?_
        exact W.lret hx hb hr (fun t ht hW => ⟨⟨-1, (I, J), rfl, Option.some.inj hm, ht ▸ hP, va_K.moved hW.alike hK, hD⟩, hS.F ht⟩) hS.2.2 dR_dearer_54 hlk
      · have hm := brn hm c7
        refine lv_aload_n hx hb dR_dearer_25 rfl (lv_at hl 0 rfl) ?_
        refine va_get (D := D) (ci := 6) (v := .ref (ad 7)) (C := RR) (T := TR) (N := 31) hx hb hT inR hown hK hP 0 rfl rfl 7 (by decide) (hT _ wd_542) (fun _ h9 => h9) rfl dR_dearer_26 ?_
        refine lv_iload_n hx hb dR_dearer_29 rfl (lv_at hl 1 rfl) ?_
        obtain ⟨g8, hm⟩ := gd_to hm
        refine va_iald hx hb hK hP 7 0 rfl rfl g8 dR_dearer_30 ?_
        refine lv_topi (fun v9 ev9 => ?_)
        have hm := nm_to ev9 hm
        refine lv_aload_n hx hb dR_dearer_31 rfl (lv_at hl 0 rfl) ?_
        refine va_get (D := D) (ci := 6) (v := .ref (ad 8)) (C := RR) (T := TR) (N := 31) hx hb hT inR hown hK hP 0 rfl rfl 8 (by decide) (hT _ wd_543) (fun _ h9 => h9) rfl dR_dearer_32 ?_
        refine lv_iload_n hx hb dR_dearer_35 rfl (lv_at hl 1 rfl) ?_
        obtain ⟨g10, hm⟩ := gd_to hm
        refine va_iald hx hb hK hP 8 0 rfl rfl g10 dR_dearer_36 ?_
        refine lv_topi (fun v11 ev11 => ?_)
        have hm := nm_to ev11 hm
        refine lv_icmp_eq (tgt := 51) hx hb dR_dearer_37 (by decide) (fun c12 => ?_) (fun c12 => ?_)
        · have hm := brp hm c12
          refine lv_ldc2 (v := (-1)) hx hb hown (hT _ wd_706) dR_dearer_51 ?_
          exact W.lret hx hb hr (fun t ht hW => ⟨⟨-1, (I, J), rfl, Option.some.inj hm, ht ▸ hP, va_K.moved hW.alike hK, hD⟩, hS.F ht⟩) hS.2.2 dR_dearer_54 hlk
        · have hm := brn hm c12
          refine lv_aload_n hx hb dR_dearer_40 rfl (lv_at hl 0 rfl) ?_
          refine lv_aload_n hx hb dR_dearer_41 rfl (lv_at hl 0 rfl) ?_
          refine va_get (D := D) (ci := 6) (v := .int (I 0 9)) (C := RR) (T := TR) (N := 31) hx hb hT inR hown hK hP 0 rfl rfl 9 (by decide) (hT _ wd_544) (fun _ h9 => h9) rfl dR_dearer_42 ?_
          obtain ⟨r13, I14, J15, hc16, hm⟩ := cl3_to hm
          refine pst_i (wf := wsR ad cI cJ cG) hD hS hA (va_runV (As := [.int (I 0 9)]) (rest := []) ⟨hx, hb, hml, hown, hT⟩ (c_R_mixes l D ad cI cJ cG _ (I 0 9) I J _ hc16) (cwV 1 hT (gV wd_726 wd_728 wd_46 wd_57 wd_729) rfl rfl rfl (by decide +kernel) ⟨Nat.le_of_ble_eq_true rfl, Nat.le_of_ble_eq_true rfl⟩) ⟨preW_fb, va_recv hK hP (ci := 6) (q0 := 0) rfl rfl, preW_at hP hK hN hD⟩ rfl rfl hl.1 rfl (lv_room (Nat.le_of_ble_eq_true rfl)) dR_dearer_45 ⟨Nat.zero_le _, Nat.zero_le _⟩) (fun H locs hP hD hS => ?_)
          refine lv_if_ne (tgt := 55) hx hb dR_dearer_48 (by decide) (fun c17 => ?_) (fun c17 => ?_)
          · have hm := brn hm c17
            refine lv_aload_n hx hb dR_dearer_55 rfl (lv_at hl 0 rfl) ?_
            refine lv_aload_n hx hb dR_dearer_56 rfl (lv_at hl 0 rfl) ?_
            refine va_get (D := D) (ci := 6) (v := .ref (ad 17)) (C := RR) (T := TR) (N := 31) hx hb hT inR hown hK hP 0 rfl rfl 29 (by decide) (hT _ wd_564) (fun _ h9 => h9) rfl dR_dearer_57 ?_
            obtain ⟨r18, I19, J20, hc21, hm⟩ := cl3_to hm
            refine pst_l (wf := wsR ad cI cJ cG) hD hS hA (va_runV (As := [.ref (ad 17)]) (rest := []) ⟨hx, hb, hml, hown, hT⟩ (c_R_costOf l D ad cI cJ cG _ 17 I14 J15 _ hc21) (cwV 1 hT (gV wd_722 wd_724 wd_45 wd_57 wd_725) rfl rfl rfl (by decide +kernel) ⟨Nat.le_of_ble_eq_true rfl, Nat.le_of_ble_eq_true rfl⟩) ⟨preW_fb, va_recv hK hP (ci := 6) (q0 := 0) rfl rfl, preW_at hP hK hN hD⟩ rfl rfl hl.1 rfl (lv_room (Nat.le_of_ble_eq_true rfl)) dR_dearer_60 ⟨Nat.zero_le _, Nat.zero_le _⟩) (fun H locs hP hD hS => ?_)
            refine lv_lstore_n (lv' := [(3, .long r18), (0, .ref (ad 0)), (1, .int x1), (2, .int x2)]) hx hb dR_dearer_63 rfl hl (by decide) rfl (fun ls hl => ?_)
            refine lv_aload_n hx hb dR_dearer_64 rfl (lv_at hl 1 rfl) ?_
            refine va_get (D := D) (ci := 6) (v := .long (J20 0 30)) (C := RR) (T := TR) (N := 31) hx hb hT inR hown hK hP 0 rfl rfl 30 (by decide) (hT _ wd_565) (fun _ h9 => h9) rfl dR_dearer_65 ?_
            refine lv_lstore (lv' := [(5, .long (J20 0 30)), (3, .long r18), (0, .ref (ad 0)), (1, .int x1), (2, .int x2)]) hx hb dR_dearer_68 hl (by decide) rfl (fun ls hl => ?_)
            refine lv_aload_n hx hb dR_dearer_70 rfl (lv_at hl 2 rfl) ?_
            refine va_get (D := D) (ci := 6) (v := .ref (ad 7)) (C := RR) (T := TR) (N := 31) hx hb hT inR hown hK hP 0 rfl rfl 7 (by decide) (hT _ wd_542) (fun _ h9 => h9) rfl dR_dearer_71 ?_
            refine lv_iload_n hx hb dR_dearer_74 rfl (lv_at hl 3 rfl) ?_
            refine lv_dup2_11 hx hb dR_dearer_75 rfl rfl ?_
            obtain ⟨g22, hm⟩ := gd_to hm
            refine va_iald hx hb hK hP 7 0 rfl rfl g22 dR_dearer_76 ?_
            refine lv_topi (fun v23 ev23 => ?_)
            have hm := nm_to ev23 hm
            refine lv_iconst (v := 1) hx hb dR_dearer_77 (by decide) ?_
            refine lv_iadd hx hb dR_dearer_78 ?_
            refine lv_topi (fun v24 ev24 => ?_)
            have hm := nm_to ev24 hm
            obtain ⟨g25, hm⟩ := gd_to hm
            refine va_iast hx hb hK hP hD hS 7 0 rfl rfl g25 dR_dearer_79 (fun H locs hP hD hS => ?_)
            obtain ⟨I26, eI26⟩ : ∃ z : SI, z = va_up I19 7 (upd (I19 7) x1.toNatClampNeg v24) := ⟨_, rfl⟩
            have hm := nm_to eI26 hm
            have hP := P_eq (ws2 := wsR ad cI cJ cG I26 J20) hP (by rw [eI26]; rfl)
            have hD := D_eq (ws2 := wsR ad cI cJ cG I26 J20) hD (by rw [eI26]; rfl)
            refine lv_aload_n hx hb dR_dearer_80 rfl (lv_at hl 2 rfl) ?_
            refine lv_aload_n hx hb dR_dearer_81 rfl (lv_at hl 2 rfl) ?_
            refine va_get (D := D) (ci := 6) (v := .int (I26 0 9)) (C := RR) (T := TR) (N := 31) hx hb hT inR hown hK hP 0 rfl rfl 9 (by decide) (hT _ wd_544) (fun _ h9 => h9) rfl dR_dearer_82 ?_
            obtain ⟨r27, I28, J29, hc30, hm⟩ := cl3_to hm
            refine pst_i (wf := wsR ad cI cJ cG) hD hS hA (va_runV (As := [.int (I26 0 9)]) (rest := []) ⟨hx, hb, hml, hown, hT⟩ (c_R_mixes l D ad cI cJ cG _ (I26 0 9) I26 J20 _ hc30) (cwV 1 hT (gV wd_726 wd_728 wd_46 wd_57 wd_729) rfl rfl rfl (by decide +kernel) ⟨Nat.le_of_ble_eq_true rfl, Nat.le_of_ble_eq_true rfl⟩) ⟨preW_fb, va_recv hK hP (ci := 6) (q0 := 0) rfl rfl, preW_at hP hK hN hD⟩ rfl rfl hl.1 rfl (lv_room (Nat.le_of_ble_eq_true rfl)) dR_dearer_85 ⟨Nat.zero_le _, Nat.zero_le _⟩) (fun H locs hP hD hS => ?_)
            refine lv_istore (lv' := [(7, .int r27), (5, .long (J20 0 30)), (3, .long r18), (0, .ref (ad 0)), (1, .int x1), (2, .int x2)]) hx hb dR_dearer_88 hl (by decide) rfl (fun ls hl => ?_)
            refine lv_aload_n hx hb dR_dearer_90 rfl (lv_at hl 3 rfl) ?_
            refine va_get (D := D) (ci := 6) (v := .ref (ad 7)) (C := RR) (T := TR) (N := 31) hx hb hT inR hown hK hP 0 rfl rfl 7 (by decide) (hT _ wd_542) (fun _ h9 => h9) rfl dR_dearer_91 ?_
            refine lv_iload_n hx hb dR_dearer_94 rfl (lv_at hl 4 rfl) ?_
            refine lv_dup2_11 hx hb dR_dearer_95 rfl rfl ?_
            obtain ⟨g31, hm⟩ := gd_to hm
            refine va_iald hx hb hK hP 7 0 rfl rfl g31 dR_dearer_96 ?_
            refine lv_topi (fun v32 ev32 => ?_)
            have hm := nm_to ev32 hm
            refine lv_iconst (v := 1) hx hb dR_dearer_97 (by decide) ?_
            refine lv_isub hx hb dR_dearer_98 ?_
            refine lv_topi (fun v33 ev33 => ?_)
            have hm := nm_to ev33 hm
            obtain ⟨g34, hm⟩ := gd_to hm
            refine va_iast hx hb hK hP hD hS 7 0 rfl rfl g34 dR_dearer_99 (fun H locs hP hD hS => ?_)
            obtain ⟨I35, eI35⟩ : ∃ z : SI, z = va_up I28 7 (upd (I28 7) x1.toNatClampNeg v33) := ⟨_, rfl⟩
            have hm := nm_to eI35 hm
            have hP := P_eq (ws2 := wsR ad cI cJ cG I35 J29) hP (by rw [eI35]; rfl)
            have hD := D_eq (ws2 := wsR ad cI cJ cG I35 J29) hD (by rw [eI35]; rfl)
            refine lv_iload hx hb dR_dearer_100 (lv_at hl 0 rfl) ?_
            refine lv_if_ne (tgt := 109) hx hb dR_dearer_102 (by decide) (fun c36 => ?_) (fun c36 => ?_)
            · have hm := brn hm c36
              refine lv_aload_n hx hb dR_dearer_109 rfl (lv_at hl 3 rfl) ?_
              refine lv_aload_n hx hb dR_dearer_110 rfl (lv_at hl 3 rfl) ?_
              refine va_get (D := D) (ci := 6) (v := .ref (ad 17)) (C := RR) (T := TR) (N := 31) hx hb hT inR hown hK hP 0 rfl rfl 29 (by decide) (hT _ wd_564) (fun _ h9 => h9) rfl dR_dearer_111 ?_
              obtain ⟨r37, I38, J39, hc40, hm⟩ := cl3_to hm
              refine pst_l (wf := wsR ad cI cJ cG) hD hS hA (va_runV (As := [.ref (ad 17)]) (rest := []) ⟨hx, hb, hml, hown, hT⟩ (c_R_costOf l D ad cI cJ cG _ 17 I35 J29 _ hc40) (cwV 1 hT (gV wd_722 wd_724 wd_45 wd_57 wd_725) rfl rfl rfl (by decide +kernel) ⟨Nat.le_of_ble_eq_true rfl, Nat.le_of_ble_eq_true rfl⟩) ⟨preW_fb, va_recv hK hP (ci := 6) (q0 := 0) rfl rfl, preW_at hP hK hN hD⟩ rfl rfl hl.1 rfl (lv_room (Nat.le_of_ble_eq_true rfl)) dR_dearer_114 ⟨Nat.zero_le _, Nat.zero_le _⟩) (fun H locs hP hD hS => ?_)
              refine lv_lload hx hb dR_dearer_117 (lv_at hl 1 rfl) ?_
              refine lv_lmul hx hb dR_dearer_119 ?_
              refine lv_topl (fun v41 ev41 => ?_)
              have hm := nm_to ev41 hm
              refine lv_lload_n hx hb dR_dearer_120 rfl (lv_at hl 2 rfl) ?_
              refine lv_aload_n hx hb dR_dearer_121 rfl (lv_at hl 3 rfl) ?_
              refine va_get (D := D) (ci := 6) (v := .long (J39 0 30)) (C := RR) (T := TR) (N := 31) hx hb hT inR hown hK hP 0 rfl rfl 30 (by decide) (hT _ wd_565) (fun _ h9 => h9) rfl dR_dearer_122 ?_
              refine lv_lmul hx hb dR_dearer_125 ?_
              refine lv_topl (fun v42 ev42 => ?_)
              have hm := nm_to ev42 hm
              refine lv_lsub hx hb dR_dearer_126 ?_
              refine lv_topl (fun v43 ev43 => ?_)
              have hm := nm_to ev43 hm
              refine lv_lstore (lv' := [(8, .long v43), (7, .int r27), (5, .long (J20 0 30)), (3, .long r18), (0, .ref (ad 0)), (1, .int x1), (2, .int x2)]) hx hb dR_dearer_127 hl (by decide) rfl (fun ls hl => ?_)
              refine lv_lload hx hb dR_dearer_129 (lv_at hl 2 rfl) ?_
              refine lv_aload_n hx hb dR_dearer_131 rfl (lv_at hl 4 rfl) ?_
              refine va_get (D := D) (ci := 6) (v := .long (J39 0 30)) (C := RR) (T := TR) (N := 31) hx hb hT inR hown hK hP 0 rfl rfl 30 (by decide) (hT _ wd_565) (fun _ h9 => h9) rfl dR_dearer_132 ?_
              refine lv_lmul hx hb dR_dearer_135 ?_
              refine lv_topl (fun v44 ev44 => ?_)
              have hm := nm_to ev44 hm
              refine lv_lstore (lv' := [(10, .long v44), (8, .long v43), (7, .int r27), (5, .long (J20 0 30)), (3, .long r18), (0, .ref (ad 0)), (1, .int x1), (2, .int x2)]) hx hb dR_dearer_136 hl (by decide) rfl (fun ls hl => ?_)
              refine lv_lload hx hb dR_dearer_138 (lv_at hl 1 rfl) ?_
              refine lv_lload hx hb dR_dearer_140 (lv_at hl 0 rfl) ?_
              obtain ⟨r45, hc46, hm⟩ := cl1_to hm
              refine pstZ_l hS (va_runS (As := [.long v43, .long v44]) (rest := []) ⟨hx, hb, hml, hown, hT⟩ (c_R_divisor l v43 v44 _ hc46) (va_cwS 2 hT (gS wd_742 wd_743 wd_57 wd_744) rfl rfl rfl (by decide +kernel) ⟨Nat.le_of_ble_eq_true rfl, Nat.le_of_ble_eq_true rfl⟩) ⟨preZ_fb, preZ_at⟩ rfl rfl hl.1 rfl (lv_room (Nat.le_of_ble_eq_true rfl)) dR_dearer_142 ⟨Nat.zero_le _, Nat.zero_le _⟩) (fun H1 locs hq hS => ?_)
              have hP := keptP hP hq
              refine lv_lstore (lv' := [(12, .long r45), (10, .long v44), (8, .long v43), (7, .int r27), (5, .long (J20 0 30)), (3, .long r18), (0, .ref (ad 0)), (1, .int x1), (2, .int x2)]) hx hb dR_dearer_145 hl (by decide) rfl (fun ls hl => ?_)
              refine lv_iload_n hx hb dR_dearer_147 rfl (lv_at hl 8 rfl) ?_
              refine lv_if_ne (tgt := 159) hx hb dR_dearer_148 (by decide) (fun c47 => ?_) (fun c47 => ?_)
              · have hm := brn hm c47
                refine lv_lload hx hb dR_dearer_159 (lv_at hl 1 rfl) ?_
                refine lv_lload hx hb dR_dearer_161 (lv_at hl 0 rfl) ?_
                obtain ⟨g48, hm⟩ := gd_to hm
                refine lv_ldiv hx hb dR_dearer_163 g48 ?_
                refine lv_topl (fun v49 ev49 => ?_)
                have hm := nm_to ev49 hm
                exact W.lret hx hb hr (fun t ht hW => ⟨⟨v49, (I38, J39), rfl, Option.some.inj hm, ht ▸ hP, va_K.moved hW.alike hK, hD⟩, hS.F ht⟩) hS.2.2 dR_dearer_164 hlk
              · have hm := brp hm c47
                refine lv_lload hx hb dR_dearer_151 (lv_at hl 2 rfl) ?_
                refine lv_lload hx hb dR_dearer_153 (lv_at hl 0 rfl) ?_
                obtain ⟨g50, hm⟩ := gd_to hm
                refine lv_ldiv hx hb dR_dearer_155 g50 ?_
                refine lv_topl (fun v51 ev51 => ?_)
                have hm := nm_to ev51 hm
                refine lv_goto (tgt := 164) hx hb dR_dearer_156 (by decide) ?_
                exact W.lret hx hb hr (fun t ht hW => ⟨⟨v51, (I38, J39), rfl, Option.some.inj hm, ht ▸ hP, va_K.moved hW.alike hK, hD⟩, hS.F ht⟩) hS.2.2 dR_dearer_164 hlk
            · have hm := brp hm c36
              refine lv_ldc2 (v := (-1)) hx hb hown (hT _ wd_706) dR_dearer_105 ?_
              exact W.lret hx hb hr (fun t ht hW => ⟨⟨-1, (I35, J29), rfl, Option.some.inj hm, ht ▸ hP, va_K.moved hW.alike hK, hD⟩, hS.F ht⟩) hS.2.2 dR_dearer_108 hlk
          · have hm := brp hm c17
            refine lv_ldc2 (v := (-1)) hx hb hown (hT _ wd_706) dR_dearer_51 ?_
            exact W.lret hx hb hr (fun t ht hW => ⟨⟨-1, (I14, J15), rfl, Option.some.inj hm, ht ▸ hP, va_K.moved hW.alike hK, hD⟩, hS.F ht⟩) hS.2.2 dR_dearer_54 hlk
set_option maxHeartbeats 4000000 in
set_option maxRecDepth 100000 in
theorem c_R_dearer (l : Launch) (D : va_G) (ad : Nat → Nat) (cI cJ cG : ClassId) (sz : Nat) (x1 : Int32) (x2 : Int32) (I : SI) (J : SJ) (res : Int64 × SI × SJ) (hm : m_R_dearer x1 x2 I J = some res) : Met l yR_dearer (Cond.code yR_dearer bR_dearer 14 (some .long) :: gtb) rm_R_dearer (va_Pc [.ref (ad 0), .int x1, .int x2] (preW D vwCl (tysR cI cJ cG) (wsR ad cI cJ cG I J) sz)) (va_Ql (fun (r : Int64) (u : SI × SJ) => (r, u) = res) (atW D vwCl (tysR cI cJ cG) (va_A (wsR ad cI cJ cG I J) sz) (wsR ad cI cJ cG)) (va_A (wsR ad cI cJ cG I J) sz)) 0 0 (va_A (wsR ad cI cJ cG I J) sz) := by
  refine Met.ofW (cc := bR_dearer) (maxL := 14) (ret := (some .long)) (by decide) rfl ?_
  intro p e s m args below meth c s₁ B hml hv
  obtain ⟨rfl, hsz, hP, hK, hD0, hN⟩ := hv
  subst hsz
  have X : Cx p s m [.ref (ad 0), .int x1, .int x2].toArray meth c bR_dearer (some .long) 14 RR := ⟨B.exec, B.bytes, B.returns, hml, findClass_of_methodNamed B.named, fun w h => atoms_spec (ws := (Cond.code yR_dearer bR_dearer 14 (some .long) :: gtb)) B.pre w (List.mem_cons_of_mem _ h), B.notSynchronized⟩
  have hl := lv_entry ([.ref (ad 0), .int x1, .int x2]) (n := 14) (Nat.le_of_ble_eq_true rfl)
  rw [lg_entry_eq]
  generalize (lg_sl ([.ref (ad 0), .int x1, .int x2]) ++ List.replicate (14 - (lg_sl ([.ref (ad 0), .int x1, .int x2])).length) Slot.unset).toArray = ls at hl ⊢
  have hl : lv_has ls 14 [(0, .ref (ad 0)), (1, .int x1), (2, .int x2)] := hl
  have hA : ∀ q, s.heap.size ≤ q → va_A (wsR ad cI cJ cG I J) s.heap.size q := fun q h => Or.inr h
  exact w_R_dearer_0 X hK hN hA  x1 x2 I J hm _ _ _ hP hD0.self va_S.rf hl
def b_R_line_0 (x1 : Int32) (I : SI) (J : SJ) : Option (Int32 × SI × SJ) :=
  cl1 (m_R_in x1 0 3) fun r1 =>
  if r1 = 0 then
    some (-1, I, J)
  else
    if (I 0 10) = 0 then
      if (I 0 18) = 0 then
        nm (va_up I 0 (upd (I 0) 18 x1)) fun I6 =>
        nm ((I6 0 19) + 1) fun v7 =>
        nm (va_up I6 0 (upd (I6 0) 19 v7)) fun I8 =>
        some (0, I8, J)
      else
        if (I 0 18) = x1 then
          nm (va_up I 0 (upd (I 0) 18 x1)) fun I10 =>
          nm ((I10 0 19) + 1) fun v11 =>
          nm (va_up I10 0 (upd (I10 0) 19 v11)) fun I12 =>
          some (0, I12, J)
        else
          some (1, I, J)
    else
      some (-1, I, J)
def m_R_line (x1 : Int32) (I : SI) (J : SJ) : Option (Int32 × SI × SJ) := b_R_line_0 x1 I J
def rm_R_line : Room := { frames := 1, cells := 0, slots := 0, locals := 22 }
set_option maxHeartbeats 4000000 in
set_option maxRecDepth 100000 in
theorem w_R_line_0 {p : Program} {l : Launch} {e : Env} {s : State} {m : MethodId} {args : Array Value} {below : List Frame} {meth : Method} {c : Code} {D : va_G} {A : Nat → Prop} {ad : Nat → Nat} {cI cJ cG : ClassId} {res : Int32 × SI × SJ} (X : Cx p s m args meth c bR_line (some .int) 2 RR) (hK : va_K D vwCl (tysR cI cJ cG) s) (hN : NWs s) (hA : ∀ q, s.heap.size ≤ q → A q)
     (x1 : Int32) (I : SI) (J : SJ) (hm : b_R_line_0  x1 I J = some res) : WB p l e (headSpec (Cond.code yR_line bR_line 2 (some .int) :: gtb) rm_R_line).room s m args below meth c (MQ below (va_Qi (fun (r : Int32) (u : SI × SJ) => (r, u) = res) (atW D vwCl (tysR cI cJ cG) A (wsR ad cI cJ cG)) A) args s 0 0 A) D vwCl A 2 (wsR ad cI cJ cG I J) 0 [(0, .ref (ad 0)), (1, .int x1)] [] := by
  obtain ⟨hx, hb, hr, hml, hown, hT, hlk⟩ := X
  intro H locs ls hP hD hS hl
  unfold b_R_line_0 at hm
  refine lv_iload_n hx hb dR_line_0 rfl (lv_at hl 1 rfl) ?_
  refine lv_iconst (v := 0) hx hb dR_line_1 (by decide) ?_
  refine lv_iconst (v := 3) hx hb dR_line_2 (by decide) ?_
  obtain ⟨r1, hc2, hm⟩ := cl1_to hm
  refine pstZ_i hS (va_runS (As := [.int x1, .int 0, .int 3]) (rest := []) ⟨hx, hb, hml, hown, hT⟩ (c_R_in l x1 0 3 _ hc2) (va_cwS 3 hT (gS wd_634 wd_635 wd_57 wd_636) rfl rfl rfl (by decide +kernel) ⟨Nat.le_of_ble_eq_true rfl, Nat.le_of_ble_eq_true rfl⟩) ⟨preZ_fb, preZ_at⟩ rfl rfl hl.1 rfl (lv_room (Nat.le_of_ble_eq_true rfl)) dR_line_3 ⟨Nat.zero_le _, Nat.zero_le _⟩) (fun H1 locs hq hS => ?_)
  have hP := keptP hP hq
  refine lv_if_eq (tgt := 16) hx hb dR_line_6 (by decide) (fun c3 => ?_) (fun c3 => ?_)
  · have hm := brp hm c3
    refine lv_iconst (v := (-1)) hx hb dR_line_16 (by decide) ?_
    exact W.iret hx hb hr (fun t ht hW => ⟨⟨-1, (I, J), rfl, Option.some.inj hm, ht ▸ hP, va_K.moved hW.alike hK, hD⟩, hS.F ht⟩) hS.2.2 dR_line_17 hlk
  · have hm := brn hm c3
    refine lv_aload_n hx hb dR_line_9 rfl (lv_at hl 0 rfl) ?_
    refine va_get (D := D) (ci := 6) (v := .int (I 0 10)) (C := RR) (T := TR) (N := 31) hx hb hT inR hown hK hP 0 rfl rfl 10 (by decide) (hT _ wd_545) (fun _ h9 => h9) rfl dR_line_10 ?_
    refine lv_if_eq (tgt := 18) hx hb dR_line_13 (by decide) (fun c4 => ?_) (fun c4 => ?_)
    · have hm := brp hm c4
      refine lv_aload_n hx hb dR_line_18 rfl (lv_at hl 0 rfl) ?_
      refine va_get (D := D) (ci := 6) (v := .int (I 0 18)) (C := RR) (T := TR) (N := 31) hx hb hT inR hown hK hP 0 rfl rfl 18 (by decide) (hT _ wd_553) (fun _ h9 => h9) rfl dR_line_19 ?_
      refine lv_if_eq (tgt := 35) hx hb dR_line_22 (by decide) (fun c5 => ?_) (fun c5 => ?_)
      · have hm := brp hm c5
        refine lv_aload_n hx hb dR_line_35 rfl (lv_at hl 0 rfl) ?_
        refine lv_iload_n hx hb dR_line_36 rfl (lv_at hl 1 rfl) ?_
        refine va_put (D := D) (ci := 6) (v := .int x1) (ty := .int) (C := RR) (T := TR) (N := 31) hx hb hT inR tyR okR nmR hown hK hP hD hS 0 rfl rfl 18 (by decide) (hT _ wd_553) (fun _ h9 => h9) rfl pf_I rfl rfl (Nat.le_of_ble_eq_true rfl) dR_line_37 (fun H locs hP hD hS => ?_)
        obtain ⟨I6, eI6⟩ : ∃ z : SI, z = va_up I 0 (upd (I 0) 18 x1) := ⟨_, rfl⟩
        have hm := nm_to eI6 hm
        have hP := P_eq (ws2 := wsR ad cI cJ cG I6 J) hP (by rw [eI6]; rfl)
        have hD := D_eq (ws2 := wsR ad cI cJ cG I6 J) hD (by rw [eI6]; rfl)
        refine lv_aload_n hx hb dR_line_40 rfl (lv_at hl 0 rfl) ?_
        refine lv_dup hx hb dR_line_41 rfl ?_
        refine va_get (D := D) (ci := 6) (v := .int (I6 0 19)) (C := RR) (T := TR) (N := 31) hx hb hT inR hown hK hP 0 rfl rfl 19 (by decide) (hT _ wd_554) (fun _ h9 => h9) rfl dR_line_42 ?_
        refine lv_iconst (v := 1) hx hb dR_line_45 (by decide) ?_
        refine lv_iadd hx hb dR_line_46 ?_
        refine lv_topi (fun v7 ev7 => ?_)
        have hm := nm_to ev7 hm
        refine va_put (D := D) (ci := 6) (v := .int v7) (ty := .int) (C := RR) (T := TR) (N := 31) hx hb hT inR tyR okR nmR hown hK hP hD hS 0 rfl rfl 19 (by decide) (hT _ wd_554) (fun _ h9 => h9) rfl pf_I rfl rfl (Nat.le_of_ble_eq_true rfl) dR_line_47 (fun H locs hP hD hS => ?_)
        obtain ⟨I8, eI8⟩ : ∃ z : SI, z = va_up I6 0 (upd (I6 0) 19 v7) := ⟨_, rfl⟩
        have hm := nm_to eI8 hm
        have hP := P_eq (ws2 := wsR ad cI cJ cG I8 J) hP (by rw [eI8]; rfl)
        have hD := D_eq (ws2 := wsR ad cI cJ cG I8 J) hD (by rw [eI8]; rfl)
        refine lv_iconst (v := 0) hx hb dR_line_50 (by decide) ?_
        exact W.iret hx hb hr (fun t ht hW => ⟨⟨0, (I8, J), rfl, Option.some.inj hm, ht ▸ hP, va_K.moved hW.alike hK, hD⟩, hS.F ht⟩) hS.2.2 dR_line_51 hlk
      · have hm := brn hm c5
        refine lv_aload_n hx hb dR_line_25 rfl (lv_at hl 0 rfl) ?_
        refine va_get (D := D) (ci := 6) (v := .int (I 0 18)) (C := RR) (T := TR) (N := 31) hx hb hT inR hown hK hP 0 rfl rfl 18 (by decide) (hT _ wd_553) (fun _ h9 => h9) rfl dR_line_26 ?_
        refine lv_iload_n hx hb dR_line_29 rfl (lv_at hl 1 rfl) ?_
        refine lv_icmp_eq (tgt := 35) hx hb dR_line_30 (by decide) (fun c9 => ?_) (fun c9 => ?_)
        · have hm := brp hm c9
          refine lv_aload_n hx hb dR_line_35 rfl (lv_at hl 0 rfl) ?_
          refine lv_iload_n hx hb dR_line_36 rfl (lv_at hl 1 rfl) ?_
          refine va_put (D := D) (ci := 6) (v := .int x1) (ty := .int) (C := RR) (T := TR) (N := 31) hx hb hT inR tyR okR nmR hown hK hP hD hS 0 rfl rfl 18 (by decide) (hT _ wd_553) (fun _ h9 => h9) rfl pf_I rfl rfl (Nat.le_of_ble_eq_true rfl) dR_line_37 (fun H locs hP hD hS => ?_)
          obtain ⟨I10, eI10⟩ : ∃ z : SI, z = va_up I 0 (upd (I 0) 18 x1) := ⟨_, rfl⟩
          have hm := nm_to eI10 hm
          have hP := P_eq (ws2 := wsR ad cI cJ cG I10 J) hP (by rw [eI10]; rfl)
          have hD := D_eq (ws2 := wsR ad cI cJ cG I10 J) hD (by rw [eI10]; rfl)
          refine lv_aload_n hx hb dR_line_40 rfl (lv_at hl 0 rfl) ?_
          refine lv_dup hx hb dR_line_41 rfl ?_
          refine va_get (D := D) (ci := 6) (v := .int (I10 0 19)) (C := RR) (T := TR) (N := 31) hx hb hT inR hown hK hP 0 rfl rfl 19 (by decide) (hT _ wd_554) (fun _ h9 => h9) rfl dR_line_42 ?_
          refine lv_iconst (v := 1) hx hb dR_line_45 (by decide) ?_
          refine lv_iadd hx hb dR_line_46 ?_
          refine lv_topi (fun v11 ev11 => ?_)
          have hm := nm_to ev11 hm
          refine va_put (D := D) (ci := 6) (v := .int v11) (ty := .int) (C := RR) (T := TR) (N := 31) hx hb hT inR tyR okR nmR hown hK hP hD hS 0 rfl rfl 19 (by decide) (hT _ wd_554) (fun _ h9 => h9) rfl pf_I rfl rfl (Nat.le_of_ble_eq_true rfl) dR_line_47 (fun H locs hP hD hS => ?_)
          obtain ⟨I12, eI12⟩ : ∃ z : SI, z = va_up I10 0 (upd (I10 0) 19 v11) := ⟨_, rfl⟩
          have hm := nm_to eI12 hm
          have hP := P_eq (ws2 := wsR ad cI cJ cG I12 J) hP (by rw [eI12]; rfl)
          have hD := D_eq (ws2 := wsR ad cI cJ cG I12 J) hD (by rw [eI12]; rfl)
          refine lv_iconst (v := 0) hx hb dR_line_50 (by decide) ?_
          exact W.iret hx hb hr (fun t ht hW => ⟨⟨0, (I12, J), rfl, Option.some.inj hm, ht ▸ hP, va_K.moved hW.alike hK, hD⟩, hS.F ht⟩) hS.2.2 dR_line_51 hlk
        · have hm := brn hm c9
          refine lv_iconst (v := 1) hx hb dR_line_33 (by decide) ?_
          exact W.iret hx hb hr (fun t ht hW => ⟨⟨1, (I, J), rfl, Option.some.inj hm, ht ▸ hP, va_K.moved hW.alike hK, hD⟩, hS.F ht⟩) hS.2.2 dR_line_34 hlk
    · have hm := brn hm c4
      refine lv_iconst (v := (-1)) hx hb dR_line_16 (by decide) ?_
      exact W.iret hx hb hr (fun t ht hW => ⟨⟨-1, (I, J), rfl, Option.some.inj hm, ht ▸ hP, va_K.moved hW.alike hK, hD⟩, hS.F ht⟩) hS.2.2 dR_line_17 hlk
set_option maxHeartbeats 4000000 in
set_option maxRecDepth 100000 in
theorem c_R_line (l : Launch) (D : va_G) (ad : Nat → Nat) (cI cJ cG : ClassId) (sz : Nat) (x1 : Int32) (I : SI) (J : SJ) (res : Int32 × SI × SJ) (hm : m_R_line x1 I J = some res) : Met l yR_line (Cond.code yR_line bR_line 2 (some .int) :: gtb) rm_R_line (va_Pc [.ref (ad 0), .int x1] (preW D vwCl (tysR cI cJ cG) (wsR ad cI cJ cG I J) sz)) (va_Qi (fun (r : Int32) (u : SI × SJ) => (r, u) = res) (atW D vwCl (tysR cI cJ cG) (va_A (wsR ad cI cJ cG I J) sz) (wsR ad cI cJ cG)) (va_A (wsR ad cI cJ cG I J) sz)) 0 0 (va_A (wsR ad cI cJ cG I J) sz) := by
  refine Met.ofW (cc := bR_line) (maxL := 2) (ret := (some .int)) (by decide) rfl ?_
  intro p e s m args below meth c s₁ B hml hv
  obtain ⟨rfl, hsz, hP, hK, hD0, hN⟩ := hv
  subst hsz
  have X : Cx p s m [.ref (ad 0), .int x1].toArray meth c bR_line (some .int) 2 RR := ⟨B.exec, B.bytes, B.returns, hml, findClass_of_methodNamed B.named, fun w h => atoms_spec (ws := (Cond.code yR_line bR_line 2 (some .int) :: gtb)) B.pre w (List.mem_cons_of_mem _ h), B.notSynchronized⟩
  have hl := lv_entry ([.ref (ad 0), .int x1]) (n := 2) (Nat.le_of_ble_eq_true rfl)
  rw [lg_entry_eq]
  generalize (lg_sl ([.ref (ad 0), .int x1]) ++ List.replicate (2 - (lg_sl ([.ref (ad 0), .int x1])).length) Slot.unset).toArray = ls at hl ⊢
  have hl : lv_has ls 2 [(0, .ref (ad 0)), (1, .int x1)] := hl
  have hA : ∀ q, s.heap.size ≤ q → va_A (wsR ad cI cJ cG I J) s.heap.size q := fun q h => Or.inr h
  exact w_R_line_0 X hK hN hA  x1 I J hm _ _ _ hP hD0.self va_S.rf hl
def b_R_clean_0 (I : SI) (J : SJ) : Option (Int32 × SI × SJ) :=
  nm (va_up I 0 (upd (I 0) 18 0)) fun I1 =>
  some (I 0 18, I1, J)
def m_R_clean (I : SI) (J : SJ) : Option (Int32 × SI × SJ) := b_R_clean_0  I J
def rm_R_clean : Room := { frames := 0, cells := 0, slots := 0, locals := 0 }
set_option maxHeartbeats 4000000 in
set_option maxRecDepth 100000 in
theorem w_R_clean_0 {p : Program} {l : Launch} {e : Env} {s : State} {m : MethodId} {args : Array Value} {below : List Frame} {meth : Method} {c : Code} {D : va_G} {A : Nat → Prop} {ad : Nat → Nat} {cI cJ cG : ClassId} {res : Int32 × SI × SJ} (X : Cx p s m args meth c bR_clean (some .int) 2 RR) (hK : va_K D vwCl (tysR cI cJ cG) s) (hN : NWs s) (hA : ∀ q, s.heap.size ≤ q → A q)
     (I : SI) (J : SJ) (hm : b_R_clean_0   I J = some res) : WB p l e (headSpec (Cond.code yR_clean bR_clean 2 (some .int) :: gtb) rm_R_clean).room s m args below meth c (MQ below (va_Qi (fun (r : Int32) (u : SI × SJ) => (r, u) = res) (atW D vwCl (tysR cI cJ cG) A (wsR ad cI cJ cG)) A) args s 0 0 A) D vwCl A 2 (wsR ad cI cJ cG I J) 0 [(0, .ref (ad 0))] [] := by
  obtain ⟨hx, hb, hr, hml, hown, hT, hlk⟩ := X
  intro H locs ls hP hD hS hl
  unfold b_R_clean_0 at hm
  refine lv_aload_n hx hb dR_clean_0 rfl (lv_at hl 0 rfl) ?_
  refine va_get (D := D) (ci := 6) (v := .int (I 0 18)) (C := RR) (T := TR) (N := 31) hx hb hT inR hown hK hP 0 rfl rfl 18 (by decide) (hT _ wd_553) (fun _ h9 => h9) rfl dR_clean_1 ?_
  refine lv_istore_n (lv' := [(1, .int (I 0 18)), (0, .ref (ad 0))]) hx hb dR_clean_4 rfl hl (by decide) rfl (fun ls hl => ?_)
  refine lv_aload_n hx hb dR_clean_5 rfl (lv_at hl 1 rfl) ?_
  refine lv_iconst (v := 0) hx hb dR_clean_6 (by decide) ?_
  refine va_put (D := D) (ci := 6) (v := .int 0) (ty := .int) (C := RR) (T := TR) (N := 31) hx hb hT inR tyR okR nmR hown hK hP hD hS 0 rfl rfl 18 (by decide) (hT _ wd_553) (fun _ h9 => h9) rfl pf_I rfl rfl (Nat.le_of_ble_eq_true rfl) dR_clean_7 (fun H locs hP hD hS => ?_)
  obtain ⟨I1, eI1⟩ : ∃ z : SI, z = va_up I 0 (upd (I 0) 18 0) := ⟨_, rfl⟩
  have hm := nm_to eI1 hm
  have hP := P_eq (ws2 := wsR ad cI cJ cG I1 J) hP (by rw [eI1]; rfl)
  have hD := D_eq (ws2 := wsR ad cI cJ cG I1 J) hD (by rw [eI1]; rfl)
  refine lv_iload_n hx hb dR_clean_10 rfl (lv_at hl 0 rfl) ?_
  exact W.iret hx hb hr (fun t ht hW => ⟨⟨I 0 18, (I1, J), rfl, Option.some.inj hm, ht ▸ hP, va_K.moved hW.alike hK, hD⟩, hS.F ht⟩) hS.2.2 dR_clean_11 hlk
set_option maxHeartbeats 4000000 in
set_option maxRecDepth 100000 in
theorem c_R_clean (l : Launch) (D : va_G) (ad : Nat → Nat) (cI cJ cG : ClassId) (sz : Nat) (I : SI) (J : SJ) (res : Int32 × SI × SJ) (hm : m_R_clean  I J = some res) : Met l yR_clean (Cond.code yR_clean bR_clean 2 (some .int) :: gtb) rm_R_clean (va_Pc [.ref (ad 0)] (preW D vwCl (tysR cI cJ cG) (wsR ad cI cJ cG I J) sz)) (va_Qi (fun (r : Int32) (u : SI × SJ) => (r, u) = res) (atW D vwCl (tysR cI cJ cG) (va_A (wsR ad cI cJ cG I J) sz) (wsR ad cI cJ cG)) (va_A (wsR ad cI cJ cG I J) sz)) 0 0 (va_A (wsR ad cI cJ cG I J) sz) := by
  refine Met.ofW (cc := bR_clean) (maxL := 2) (ret := (some .int)) (by decide) rfl ?_
  intro p e s m args below meth c s₁ B hml hv
  obtain ⟨rfl, hsz, hP, hK, hD0, hN⟩ := hv
  subst hsz
  have X : Cx p s m [.ref (ad 0)].toArray meth c bR_clean (some .int) 2 RR := ⟨B.exec, B.bytes, B.returns, hml, findClass_of_methodNamed B.named, fun w h => atoms_spec (ws := (Cond.code yR_clean bR_clean 2 (some .int) :: gtb)) B.pre w (List.mem_cons_of_mem _ h), B.notSynchronized⟩
  have hl := lv_entry ([.ref (ad 0)]) (n := 2) (Nat.le_of_ble_eq_true rfl)
  rw [lg_entry_eq]
  generalize (lg_sl ([.ref (ad 0)]) ++ List.replicate (2 - (lg_sl ([.ref (ad 0)])).length) Slot.unset).toArray = ls at hl ⊢
  have hl : lv_has ls 2 [(0, .ref (ad 0))] := hl
  have hA : ∀ q, s.heap.size ≤ q → va_A (wsR ad cI cJ cG I J) s.heap.size q := fun q h => Or.inr h
  exact w_R_clean_0 X hK hN hA   I J hm _ _ _ hP hD0.self va_S.rf hl
def b_R_made_0 (I : SI) (J : SJ) : Option (Int32 × SI × SJ) :=
  some (I 0 19, I, J)
def m_R_made (I : SI) (J : SJ) : Option (Int32 × SI × SJ) := b_R_made_0  I J
def rm_R_made : Room := { frames := 0, cells := 0, slots := 0, locals := 0 }
set_option maxHeartbeats 4000000 in
set_option maxRecDepth 100000 in
theorem w_R_made_0 {p : Program} {l : Launch} {e : Env} {s : State} {m : MethodId} {args : Array Value} {below : List Frame} {meth : Method} {c : Code} {D : va_G} {A : Nat → Prop} {ad : Nat → Nat} {cI cJ cG : ClassId} {res : Int32 × SI × SJ} (X : Cx p s m args meth c bR_made (some .int) 1 RR) (hK : va_K D vwCl (tysR cI cJ cG) s) (hN : NWs s) (hA : ∀ q, s.heap.size ≤ q → A q)
     (I : SI) (J : SJ) (hm : b_R_made_0   I J = some res) : WB p l e (headSpec (Cond.code yR_made bR_made 1 (some .int) :: gtb) rm_R_made).room s m args below meth c (MQ below (va_Qi (fun (r : Int32) (u : SI × SJ) => (r, u) = res) (atW D vwCl (tysR cI cJ cG) A (wsR ad cI cJ cG)) A) args s 0 0 A) D vwCl A 1 (wsR ad cI cJ cG I J) 0 [(0, .ref (ad 0))] [] := by
  obtain ⟨hx, hb, hr, hml, hown, hT, hlk⟩ := X
  intro H locs ls hP hD hS hl
  unfold b_R_made_0 at hm
  refine lv_aload_n hx hb dR_made_0 rfl (lv_at hl 0 rfl) ?_
  refine va_get (D := D) (ci := 6) (v := .int (I 0 19)) (C := RR) (T := TR) (N := 31) hx hb hT inR hown hK hP 0 rfl rfl 19 (by decide) (hT _ wd_554) (fun _ h9 => h9) rfl dR_made_1 ?_
  exact W.iret hx hb hr (fun t ht hW => ⟨⟨I 0 19, (I, J), rfl, Option.some.inj hm, ht ▸ hP, va_K.moved hW.alike hK, hD⟩, hS.F ht⟩) hS.2.2 dR_made_4 hlk
set_option maxHeartbeats 4000000 in
set_option maxRecDepth 100000 in
theorem c_R_made (l : Launch) (D : va_G) (ad : Nat → Nat) (cI cJ cG : ClassId) (sz : Nat) (I : SI) (J : SJ) (res : Int32 × SI × SJ) (hm : m_R_made  I J = some res) : Met l yR_made (Cond.code yR_made bR_made 1 (some .int) :: gtb) rm_R_made (va_Pc [.ref (ad 0)] (preW D vwCl (tysR cI cJ cG) (wsR ad cI cJ cG I J) sz)) (va_Qi (fun (r : Int32) (u : SI × SJ) => (r, u) = res) (atW D vwCl (tysR cI cJ cG) (va_A (wsR ad cI cJ cG I J) sz) (wsR ad cI cJ cG)) (va_A (wsR ad cI cJ cG I J) sz)) 0 0 (va_A (wsR ad cI cJ cG I J) sz) := by
  refine Met.ofW (cc := bR_made) (maxL := 1) (ret := (some .int)) (by decide) rfl ?_
  intro p e s m args below meth c s₁ B hml hv
  obtain ⟨rfl, hsz, hP, hK, hD0, hN⟩ := hv
  subst hsz
  have X : Cx p s m [.ref (ad 0)].toArray meth c bR_made (some .int) 1 RR := ⟨B.exec, B.bytes, B.returns, hml, findClass_of_methodNamed B.named, fun w h => atoms_spec (ws := (Cond.code yR_made bR_made 1 (some .int) :: gtb)) B.pre w (List.mem_cons_of_mem _ h), B.notSynchronized⟩
  have hl := lv_entry ([.ref (ad 0)]) (n := 1) (Nat.le_of_ble_eq_true rfl)
  rw [lg_entry_eq]
  generalize (lg_sl ([.ref (ad 0)]) ++ List.replicate (1 - (lg_sl ([.ref (ad 0)])).length) Slot.unset).toArray = ls at hl ⊢
  have hl : lv_has ls 1 [(0, .ref (ad 0))] := hl
  have hA : ∀ q, s.heap.size ≤ q → va_A (wsR ad cI cJ cG I J) s.heap.size q := fun q h => Or.inr h
  exact w_R_made_0 X hK hN hA   I J hm _ _ _ hP hD0.self va_S.rf hl
end
