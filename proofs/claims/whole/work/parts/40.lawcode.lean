theorem wd_279 : Cond.methodLink RW 13 yF_stuff ∈ gtb := gtb_in (i := 279) (by decide +kernel) (by decide +kernel)
theorem wd_280 : Cond.instanceMethod yF_stuff ∈ gtb := gtb_in (i := 280) (by decide +kernel) (by decide +kernel)
theorem wd_281 : Cond.selects RF yF_stuff yF_stuff ∈ gtb := gtb_in (i := 281) (by decide +kernel) (by decide +kernel)
set_option maxRecDepth 100000 in
theorem wd_282 : Cond.code yF_stuff bF_stuff 4 (some .int) ∈ gtb := gtb_in (i := 282) rfl (by decide +kernel)
theorem wd_292 : Cond.methodLink RW 18 yF_price ∈ gtb := gtb_in (i := 292) (by decide +kernel) (by decide +kernel)
theorem wd_293 : Cond.instanceMethod yF_price ∈ gtb := gtb_in (i := 293) (by decide +kernel) (by decide +kernel)
theorem wd_294 : Cond.selects RF yF_price yF_price ∈ gtb := gtb_in (i := 294) (by decide +kernel) (by decide +kernel)
set_option maxRecDepth 100000 in
theorem wd_295 : Cond.code yF_price bF_price 4 (some .int) ∈ gtb := gtb_in (i := 295) rfl (by decide +kernel)
theorem wd_300 : Cond.methodLink RW 22 yF_stock ∈ gtb := gtb_in (i := 300) (by decide +kernel) (by decide +kernel)
theorem wd_301 : Cond.instanceMethod yF_stock ∈ gtb := gtb_in (i := 301) (by decide +kernel) (by decide +kernel)
theorem wd_302 : Cond.selects RF yF_stock yF_stock ∈ gtb := gtb_in (i := 302) (by decide +kernel) (by decide +kernel)
set_option maxRecDepth 100000 in
theorem wd_303 : Cond.code yF_stock bF_stock 4 (some .int) ∈ gtb := gtb_in (i := 303) rfl (by decide +kernel)
theorem wd_304 : Cond.methodLink RW 26 yF_holds ∈ gtb := gtb_in (i := 304) (by decide +kernel) (by decide +kernel)
theorem wd_305 : Cond.instanceMethod yF_holds ∈ gtb := gtb_in (i := 305) (by decide +kernel) (by decide +kernel)
theorem wd_306 : Cond.selects RF yF_holds yF_holds ∈ gtb := gtb_in (i := 306) (by decide +kernel) (by decide +kernel)
set_option maxRecDepth 100000 in
theorem wd_307 : Cond.code yF_holds bF_holds 4 (some .boolean) ∈ gtb := gtb_in (i := 307) rfl (by decide +kernel)
theorem wd_311 : Cond.methodLink RW 31 yF_need ∈ gtb := gtb_in (i := 311) (by decide +kernel) (by decide +kernel)
theorem wd_312 : Cond.instanceMethod yF_need ∈ gtb := gtb_in (i := 312) (by decide +kernel) (by decide +kernel)
theorem wd_313 : Cond.selects RF yF_need yF_need ∈ gtb := gtb_in (i := 313) (by decide +kernel) (by decide +kernel)
set_option maxRecDepth 100000 in
theorem wd_314 : Cond.code yF_need bF_need 4 (some .boolean) ∈ gtb := gtb_in (i := 314) rfl (by decide +kernel)
theorem wd_318 : Cond.methodLink RW 35 yF_shares ∈ gtb := gtb_in (i := 318) (by decide +kernel) (by decide +kernel)
theorem wd_319 : Cond.instanceMethod yF_shares ∈ gtb := gtb_in (i := 319) (by decide +kernel) (by decide +kernel)
theorem wd_320 : Cond.selects RF yF_shares yF_shares ∈ gtb := gtb_in (i := 320) (by decide +kernel) (by decide +kernel)
set_option maxRecDepth 100000 in
theorem wd_321 : Cond.code yF_shares bF_shares 4 (some .boolean) ∈ gtb := gtb_in (i := 321) rfl (by decide +kernel)
theorem wd_322 : Cond.methodLink RW 39 yF_silo ∈ gtb := gtb_in (i := 322) (by decide +kernel) (by decide +kernel)
theorem wd_323 : Cond.instanceMethod yF_silo ∈ gtb := gtb_in (i := 323) (by decide +kernel) (by decide +kernel)
theorem wd_324 : Cond.selects RF yF_silo yF_silo ∈ gtb := gtb_in (i := 324) (by decide +kernel) (by decide +kernel)
set_option maxRecDepth 100000 in
theorem wd_325 : Cond.code yF_silo bF_silo 3 (some .boolean) ∈ gtb := gtb_in (i := 325) rfl (by decide +kernel)
theorem wd_326 : Cond.methodLink RW 44 yF_run ∈ gtb := gtb_in (i := 326) (by decide +kernel) (by decide +kernel)
theorem wd_327 : Cond.instanceMethod yF_run ∈ gtb := gtb_in (i := 327) (by decide +kernel) (by decide +kernel)
theorem wd_328 : Cond.selects RF yF_run yF_run ∈ gtb := gtb_in (i := 328) (by decide +kernel) (by decide +kernel)
set_option maxRecDepth 100000 in
theorem wd_329 : Cond.code yF_run bF_run 2 (some .int) ∈ gtb := gtb_in (i := 329) rfl (by decide +kernel)
theorem wd_488 : Cond.methodLink RW 49 yF_amount ∈ gtb := gtb_in (i := 488) (by decide +kernel) (by decide +kernel)
theorem wd_489 : Cond.instanceMethod yF_amount ∈ gtb := gtb_in (i := 489) (by decide +kernel) (by decide +kernel)
theorem wd_490 : Cond.selects RF yF_amount yF_amount ∈ gtb := gtb_in (i := 490) (by decide +kernel) (by decide +kernel)
set_option maxRecDepth 100000 in
theorem wd_491 : Cond.code yF_amount bF_amount 3 (some .long) ∈ gtb := gtb_in (i := 491) rfl (by decide +kernel)
theorem wd_500 : Cond.methodLink RW 54 yF_cost ∈ gtb := gtb_in (i := 500) (by decide +kernel) (by decide +kernel)
theorem wd_501 : Cond.instanceMethod yF_cost ∈ gtb := gtb_in (i := 501) (by decide +kernel) (by decide +kernel)
theorem wd_502 : Cond.selects RF yF_cost yF_cost ∈ gtb := gtb_in (i := 502) (by decide +kernel) (by decide +kernel)
set_option maxRecDepth 100000 in
theorem wd_503 : Cond.code yF_cost bF_cost 2 (some .long) ∈ gtb := gtb_in (i := 503) rfl (by decide +kernel)
theorem wd_504 : Cond.methodLink RW 59 yF_tight ∈ gtb := gtb_in (i := 504) (by decide +kernel) (by decide +kernel)
theorem wd_505 : Cond.instanceMethod yF_tight ∈ gtb := gtb_in (i := 505) (by decide +kernel) (by decide +kernel)
theorem wd_506 : Cond.selects RF yF_tight yF_tight ∈ gtb := gtb_in (i := 506) (by decide +kernel) (by decide +kernel)
set_option maxRecDepth 100000 in
theorem wd_507 : Cond.code yF_tight bF_tight 1 (some .int) ∈ gtb := gtb_in (i := 507) rfl (by decide +kernel)
theorem wd_508 : Cond.methodLink RW 64 yF_clash ∈ gtb := gtb_in (i := 508) (by decide +kernel) (by decide +kernel)
theorem wd_509 : Cond.instanceMethod yF_clash ∈ gtb := gtb_in (i := 509) (by decide +kernel) (by decide +kernel)
theorem wd_510 : Cond.selects RF yF_clash yF_clash ∈ gtb := gtb_in (i := 510) (by decide +kernel) (by decide +kernel)
set_option maxRecDepth 100000 in
theorem wd_511 : Cond.code yF_clash bF_clash 4 (some .int) ∈ gtb := gtb_in (i := 511) rfl (by decide +kernel)
theorem wd_513 : Cond.methodLink RW 68 yF_dearer ∈ gtb := gtb_in (i := 513) (by decide +kernel) (by decide +kernel)
theorem wd_514 : Cond.instanceMethod yF_dearer ∈ gtb := gtb_in (i := 514) (by decide +kernel) (by decide +kernel)
theorem wd_515 : Cond.selects RF yF_dearer yF_dearer ∈ gtb := gtb_in (i := 515) (by decide +kernel) (by decide +kernel)
set_option maxRecDepth 100000 in
theorem wd_516 : Cond.code yF_dearer bF_dearer 7 (some .long) ∈ gtb := gtb_in (i := 516) rfl (by decide +kernel)
theorem wd_517 : Cond.methodLink RW 72 yF_line ∈ gtb := gtb_in (i := 517) (by decide +kernel) (by decide +kernel)
theorem wd_518 : Cond.instanceMethod yF_line ∈ gtb := gtb_in (i := 518) (by decide +kernel) (by decide +kernel)
theorem wd_519 : Cond.selects RF yF_line yF_line ∈ gtb := gtb_in (i := 519) (by decide +kernel) (by decide +kernel)
set_option maxRecDepth 100000 in
theorem wd_520 : Cond.code yF_line bF_line 2 (some .int) ∈ gtb := gtb_in (i := 520) rfl (by decide +kernel)
theorem wd_521 : Cond.methodLink RW 76 yF_clean ∈ gtb := gtb_in (i := 521) (by decide +kernel) (by decide +kernel)
theorem wd_522 : Cond.instanceMethod yF_clean ∈ gtb := gtb_in (i := 522) (by decide +kernel) (by decide +kernel)
theorem wd_523 : Cond.selects RF yF_clean yF_clean ∈ gtb := gtb_in (i := 523) (by decide +kernel) (by decide +kernel)
set_option maxRecDepth 100000 in
theorem wd_524 : Cond.code yF_clean bF_clean 2 (some .int) ∈ gtb := gtb_in (i := 524) rfl (by decide +kernel)
theorem wd_525 : Cond.methodLink RW 80 yF_made ∈ gtb := gtb_in (i := 525) (by decide +kernel) (by decide +kernel)
theorem wd_526 : Cond.instanceMethod yF_made ∈ gtb := gtb_in (i := 526) (by decide +kernel) (by decide +kernel)
theorem wd_527 : Cond.selects RF yF_made yF_made ∈ gtb := gtb_in (i := 527) (by decide +kernel) (by decide +kernel)
set_option maxRecDepth 100000 in
theorem wd_528 : Cond.code yF_made bF_made 1 (some .int) ∈ gtb := gtb_in (i := 528) rfl (by decide +kernel)
theorem wd_630 : Cond.methodLink RW 17 yR_stuff ∈ gtb := gtb_in (i := 630) (by decide +kernel) (by decide +kernel)
theorem wd_631 : Cond.instanceMethod yR_stuff ∈ gtb := gtb_in (i := 631) (by decide +kernel) (by decide +kernel)
theorem wd_632 : Cond.selects RR yR_stuff yR_stuff ∈ gtb := gtb_in (i := 632) (by decide +kernel) (by decide +kernel)
set_option maxRecDepth 100000 in
theorem wd_633 : Cond.code yR_stuff bR_stuff 3 (some .int) ∈ gtb := gtb_in (i := 633) rfl (by decide +kernel)
theorem wd_637 : Cond.methodLink RW 21 yR_price ∈ gtb := gtb_in (i := 637) (by decide +kernel) (by decide +kernel)
theorem wd_638 : Cond.instanceMethod yR_price ∈ gtb := gtb_in (i := 638) (by decide +kernel) (by decide +kernel)
theorem wd_639 : Cond.selects RR yR_price yR_price ∈ gtb := gtb_in (i := 639) (by decide +kernel) (by decide +kernel)
set_option maxRecDepth 100000 in
theorem wd_640 : Cond.code yR_price bR_price 4 (some .int) ∈ gtb := gtb_in (i := 640) rfl (by decide +kernel)
theorem wd_645 : Cond.methodLink RW 25 yR_stock ∈ gtb := gtb_in (i := 645) (by decide +kernel) (by decide +kernel)
theorem wd_646 : Cond.instanceMethod yR_stock ∈ gtb := gtb_in (i := 646) (by decide +kernel) (by decide +kernel)
theorem wd_647 : Cond.selects RR yR_stock yR_stock ∈ gtb := gtb_in (i := 647) (by decide +kernel) (by decide +kernel)
set_option maxRecDepth 100000 in
theorem wd_648 : Cond.code yR_stock bR_stock 4 (some .int) ∈ gtb := gtb_in (i := 648) rfl (by decide +kernel)
theorem wd_649 : Cond.methodLink RW 30 yR_holds ∈ gtb := gtb_in (i := 649) (by decide +kernel) (by decide +kernel)
theorem wd_650 : Cond.instanceMethod yR_holds ∈ gtb := gtb_in (i := 650) (by decide +kernel) (by decide +kernel)
theorem wd_651 : Cond.selects RR yR_holds yR_holds ∈ gtb := gtb_in (i := 651) (by decide +kernel) (by decide +kernel)
set_option maxRecDepth 100000 in
theorem wd_652 : Cond.code yR_holds bR_holds 4 (some .boolean) ∈ gtb := gtb_in (i := 652) rfl (by decide +kernel)
theorem wd_653 : Cond.methodLink RW 34 yR_need ∈ gtb := gtb_in (i := 653) (by decide +kernel) (by decide +kernel)
theorem wd_654 : Cond.instanceMethod yR_need ∈ gtb := gtb_in (i := 654) (by decide +kernel) (by decide +kernel)
theorem wd_655 : Cond.selects RR yR_need yR_need ∈ gtb := gtb_in (i := 655) (by decide +kernel) (by decide +kernel)
set_option maxRecDepth 100000 in
theorem wd_656 : Cond.code yR_need bR_need 4 (some .boolean) ∈ gtb := gtb_in (i := 656) rfl (by decide +kernel)
theorem wd_657 : Cond.methodLink RW 38 yR_shares ∈ gtb := gtb_in (i := 657) (by decide +kernel) (by decide +kernel)
theorem wd_658 : Cond.instanceMethod yR_shares ∈ gtb := gtb_in (i := 658) (by decide +kernel) (by decide +kernel)
theorem wd_659 : Cond.selects RR yR_shares yR_shares ∈ gtb := gtb_in (i := 659) (by decide +kernel) (by decide +kernel)
set_option maxRecDepth 100000 in
theorem wd_660 : Cond.code yR_shares bR_shares 4 (some .boolean) ∈ gtb := gtb_in (i := 660) rfl (by decide +kernel)
theorem wd_661 : Cond.methodLink RW 43 yR_silo ∈ gtb := gtb_in (i := 661) (by decide +kernel) (by decide +kernel)
theorem wd_662 : Cond.instanceMethod yR_silo ∈ gtb := gtb_in (i := 662) (by decide +kernel) (by decide +kernel)
theorem wd_663 : Cond.selects RR yR_silo yR_silo ∈ gtb := gtb_in (i := 663) (by decide +kernel) (by decide +kernel)
set_option maxRecDepth 100000 in
theorem wd_664 : Cond.code yR_silo bR_silo 3 (some .boolean) ∈ gtb := gtb_in (i := 664) rfl (by decide +kernel)
theorem wd_665 : Cond.methodLink RW 48 yR_run ∈ gtb := gtb_in (i := 665) (by decide +kernel) (by decide +kernel)
theorem wd_666 : Cond.instanceMethod yR_run ∈ gtb := gtb_in (i := 666) (by decide +kernel) (by decide +kernel)
theorem wd_667 : Cond.selects RR yR_run yR_run ∈ gtb := gtb_in (i := 667) (by decide +kernel) (by decide +kernel)
set_option maxRecDepth 100000 in
theorem wd_668 : Cond.code yR_run bR_run 3 (some .int) ∈ gtb := gtb_in (i := 668) rfl (by decide +kernel)
theorem wd_745 : Cond.methodLink RW 53 yR_amount ∈ gtb := gtb_in (i := 745) (by decide +kernel) (by decide +kernel)
theorem wd_746 : Cond.instanceMethod yR_amount ∈ gtb := gtb_in (i := 746) (by decide +kernel) (by decide +kernel)
theorem wd_747 : Cond.selects RR yR_amount yR_amount ∈ gtb := gtb_in (i := 747) (by decide +kernel) (by decide +kernel)
set_option maxRecDepth 100000 in
theorem wd_748 : Cond.code yR_amount bR_amount 3 (some .long) ∈ gtb := gtb_in (i := 748) rfl (by decide +kernel)
theorem wd_749 : Cond.methodLink RW 58 yR_cost ∈ gtb := gtb_in (i := 749) (by decide +kernel) (by decide +kernel)
theorem wd_750 : Cond.instanceMethod yR_cost ∈ gtb := gtb_in (i := 750) (by decide +kernel) (by decide +kernel)
theorem wd_751 : Cond.selects RR yR_cost yR_cost ∈ gtb := gtb_in (i := 751) (by decide +kernel) (by decide +kernel)
set_option maxRecDepth 100000 in
theorem wd_752 : Cond.code yR_cost bR_cost 2 (some .long) ∈ gtb := gtb_in (i := 752) rfl (by decide +kernel)
theorem wd_753 : Cond.methodLink RW 63 yR_tight ∈ gtb := gtb_in (i := 753) (by decide +kernel) (by decide +kernel)
theorem wd_754 : Cond.instanceMethod yR_tight ∈ gtb := gtb_in (i := 754) (by decide +kernel) (by decide +kernel)
theorem wd_755 : Cond.selects RR yR_tight yR_tight ∈ gtb := gtb_in (i := 755) (by decide +kernel) (by decide +kernel)
set_option maxRecDepth 100000 in
theorem wd_756 : Cond.code yR_tight bR_tight 1 (some .int) ∈ gtb := gtb_in (i := 756) rfl (by decide +kernel)
theorem wd_757 : Cond.methodLink RW 67 yR_clash ∈ gtb := gtb_in (i := 757) (by decide +kernel) (by decide +kernel)
theorem wd_758 : Cond.instanceMethod yR_clash ∈ gtb := gtb_in (i := 758) (by decide +kernel) (by decide +kernel)
theorem wd_759 : Cond.selects RR yR_clash yR_clash ∈ gtb := gtb_in (i := 759) (by decide +kernel) (by decide +kernel)
set_option maxRecDepth 100000 in
theorem wd_760 : Cond.code yR_clash bR_clash 4 (some .int) ∈ gtb := gtb_in (i := 760) rfl (by decide +kernel)
theorem wd_761 : Cond.methodLink RW 71 yR_dearer ∈ gtb := gtb_in (i := 761) (by decide +kernel) (by decide +kernel)
theorem wd_762 : Cond.instanceMethod yR_dearer ∈ gtb := gtb_in (i := 762) (by decide +kernel) (by decide +kernel)
theorem wd_763 : Cond.selects RR yR_dearer yR_dearer ∈ gtb := gtb_in (i := 763) (by decide +kernel) (by decide +kernel)
set_option maxRecDepth 100000 in
theorem wd_764 : Cond.code yR_dearer bR_dearer 14 (some .long) ∈ gtb := gtb_in (i := 764) rfl (by decide +kernel)
theorem wd_765 : Cond.methodLink RW 75 yR_line ∈ gtb := gtb_in (i := 765) (by decide +kernel) (by decide +kernel)
theorem wd_766 : Cond.instanceMethod yR_line ∈ gtb := gtb_in (i := 766) (by decide +kernel) (by decide +kernel)
theorem wd_767 : Cond.selects RR yR_line yR_line ∈ gtb := gtb_in (i := 767) (by decide +kernel) (by decide +kernel)
set_option maxRecDepth 100000 in
theorem wd_768 : Cond.code yR_line bR_line 2 (some .int) ∈ gtb := gtb_in (i := 768) rfl (by decide +kernel)
theorem wd_769 : Cond.methodLink RW 79 yR_clean ∈ gtb := gtb_in (i := 769) (by decide +kernel) (by decide +kernel)
theorem wd_770 : Cond.instanceMethod yR_clean ∈ gtb := gtb_in (i := 770) (by decide +kernel) (by decide +kernel)
theorem wd_771 : Cond.selects RR yR_clean yR_clean ∈ gtb := gtb_in (i := 771) (by decide +kernel) (by decide +kernel)
set_option maxRecDepth 100000 in
theorem wd_772 : Cond.code yR_clean bR_clean 2 (some .int) ∈ gtb := gtb_in (i := 772) rfl (by decide +kernel)
theorem wd_773 : Cond.methodLink RW 83 yR_made ∈ gtb := gtb_in (i := 773) (by decide +kernel) (by decide +kernel)
theorem wd_774 : Cond.instanceMethod yR_made ∈ gtb := gtb_in (i := 774) (by decide +kernel) (by decide +kernel)
theorem wd_775 : Cond.selects RR yR_made yR_made ∈ gtb := gtb_in (i := 775) (by decide +kernel) (by decide +kernel)
set_option maxRecDepth 100000 in
theorem wd_776 : Cond.code yR_made bR_made 1 (some .int) ∈ gtb := gtb_in (i := 776) rfl (by decide +kernel)
def R_law : String := "FeedMixesLaw"
def lw_P (b : Addr) (xs : List Int32) (args : Array Value) (s : State) : Prop := args = #[.ref b] ∧ s.IntsAt b xs ∧ xs.length ≤ 2048 ∧ (Jvm.Cond.and given_1 narrow_1).before args s = true
def lw_Q (_ : Array Value) (s : State) (o : Outcome) (t : State) : Prop := o = .returned (some (.int 1)) ∧ Framed s o t [] 638008 7188225
def lw_Z (below : List Frame) (a : Array Value) (s : State) : State → Prop := fun t => ∃ o, t.status = .running ∧ Ended t below o ∧ lw_Q a s o t
/-- the law's own end, with 1 on the stack, nothing written that was there before, its room as the claim has it -/
theorem lw_ret {p : Program} {l : Launch} {e : Env} {s : State} {m : MethodId} {below : List Frame} {meth : Method} {c : Code} {b : Nat} (hx : p.tables.exec = Jvm.exec) (hb : c.code = code) (hr : meth.sig.returnType = ret) (hlocks : meth.locks = false) {pc : Nat} {H : Heap} {ls : Array Slot} (hdg : decode code pc = .ok (.ireturn, 1)) : W p l e room_1 s m #[Value.ref b] below meth c H [] 638008 7188225 (lw_Z below #[Value.ref b] s) (F0 m pc ls [.int 1]) := by
  intro T hT X
  obtain ⟨fs, hret, hrun, hended, hW, hframe⟩ := X.leave (v := some (.int 1)) (hlocks := hlocks) (fun h => by rw [hr] at h; cases h)
  have hmeth' : T.vm.method? m = some meth := X.method'
  refine ⟨T.setFrames fs, ?_, .returned (some (.int 1)), hrun, hended, rfl, ⟨_, rfl⟩, hW, hframe⟩
  jvm_step X.here [X.here.top, hx, hb, hdg, hmeth', hr, ret, narrow_b1]
  (try refine ⟨rfl, ?_⟩); (try refine ⟨rfl, ?_⟩)
  first | (intro acts; rw [hret _ acts rfl rfl rfl]) | rw [hret _ _ rfl rfl rfl]
  exact Steps.refl _
/-- what holds at the law's entry: the machine, the code, the tables' words (any of lw_tbl by 'hts w (by decide +kernel)'), the script of L ints xs at the cell b, what the Statement gives of the start (any of its parts by flat_of_before) -/
def lw_At (p : Program) (s : State) (m : MethodId) (meth : Method) (c : Code) (b L : Nat) (xs : Nat → Int32) : Prop :=
  p.tables.exec = Jvm.exec ∧ c.code = code ∧ meth.sig.returnType = ret ∧ c.maxLocals = 4 ∧ s.vm.findClass R_law = some m.cls ∧ (∀ w ∈ lw_tbl, w.before #[Value.ref b] s = true) ∧ va_X b L xs s s.heap ∧ b < s.heap.size ∧ meth.locks = false ∧ (Jvm.Cond.and given_1 narrow_1).before #[Value.ref b] s = true
theorem dlaw_0 : decode code 0 = .ok (.new 7, 3) := by decide +kernel
theorem dlaw_3 : decode code 3 = .ok (.dup, 1) := by decide +kernel
theorem dlaw_4 : decode code 4 = .ok (.invokespecial 9, 3) := by decide +kernel
theorem dlaw_7 : decode code 7 = .ok (.astore_n 1, 1) := by decide +kernel
theorem dlaw_8 : decode code 8 = .ok (.new 10, 3) := by decide +kernel
theorem dlaw_11 : decode code 11 = .ok (.dup, 1) := by decide +kernel
theorem dlaw_12 : decode code 12 = .ok (.invokespecial 12, 3) := by decide +kernel
theorem dlaw_15 : decode code 15 = .ok (.astore_n 2, 1) := by decide +kernel
theorem dlaw_16 : decode code 16 = .ok (.iconst 0, 1) := by decide +kernel
theorem dlaw_17 : decode code 17 = .ok (.istore_n 3, 1) := by decide +kernel
theorem dlaw_18 : decode code 18 = .ok (.iload_n 3, 1) := by decide +kernel
theorem dlaw_19 : decode code 19 = .ok (.aload_n 0, 1) := by decide +kernel
theorem dlaw_20 : decode code 20 = .ok (.arraylength, 1) := by decide +kernel
theorem dlaw_21 : decode code 21 = .ok (.iconst 4, 1) := by decide +kernel
theorem dlaw_22 : decode code 22 = .ok (.isub, 1) := by decide +kernel
theorem dlaw_23 : decode code 23 = .ok (.if_icmp .gt 556, 3) := by decide +kernel
theorem dlaw_26 : decode code 26 = .ok (.aload_n 0, 1) := by decide +kernel
theorem dlaw_27 : decode code 27 = .ok (.iload_n 3, 1) := by decide +kernel
theorem dlaw_28 : decode code 28 = .ok (.iaload, 1) := by decide +kernel
theorem dlaw_29 : decode code 29 = .ok (.bipush 15, 2) := by decide +kernel
theorem dlaw_31 : decode code 31 = .ok (.iand, 1) := by decide +kernel
theorem dlaw_112 : decode code 112 = .ok (.aload_n 1, 1) := by decide +kernel
theorem dlaw_113 : decode code 113 = .ok (.aload_n 0, 1) := by decide +kernel
theorem dlaw_114 : decode code 114 = .ok (.iload_n 3, 1) := by decide +kernel
theorem dlaw_115 : decode code 115 = .ok (.iconst 1, 1) := by decide +kernel
theorem dlaw_116 : decode code 116 = .ok (.iadd, 1) := by decide +kernel
theorem dlaw_117 : decode code 117 = .ok (.iaload, 1) := by decide +kernel
theorem dlaw_118 : decode code 118 = .ok (.aload_n 0, 1) := by decide +kernel
theorem dlaw_119 : decode code 119 = .ok (.iload_n 3, 1) := by decide +kernel
theorem dlaw_120 : decode code 120 = .ok (.iconst 2, 1) := by decide +kernel
theorem dlaw_121 : decode code 121 = .ok (.iadd, 1) := by decide +kernel
theorem dlaw_122 : decode code 122 = .ok (.iaload, 1) := by decide +kernel
theorem dlaw_123 : decode code 123 = .ok (.invokevirtual 13, 3) := by decide +kernel
theorem dlaw_126 : decode code 126 = .ok (.aload_n 2, 1) := by decide +kernel
theorem dlaw_127 : decode code 127 = .ok (.aload_n 0, 1) := by decide +kernel
theorem dlaw_128 : decode code 128 = .ok (.iload_n 3, 1) := by decide +kernel
theorem dlaw_129 : decode code 129 = .ok (.iconst 1, 1) := by decide +kernel
theorem dlaw_130 : decode code 130 = .ok (.iadd, 1) := by decide +kernel
theorem dlaw_131 : decode code 131 = .ok (.iaload, 1) := by decide +kernel
theorem dlaw_132 : decode code 132 = .ok (.aload_n 0, 1) := by decide +kernel
theorem dlaw_133 : decode code 133 = .ok (.iload_n 3, 1) := by decide +kernel
theorem dlaw_134 : decode code 134 = .ok (.iconst 2, 1) := by decide +kernel
theorem dlaw_135 : decode code 135 = .ok (.iadd, 1) := by decide +kernel
theorem dlaw_136 : decode code 136 = .ok (.iaload, 1) := by decide +kernel
theorem dlaw_137 : decode code 137 = .ok (.invokevirtual 17, 3) := by decide +kernel
theorem dlaw_140 : decode code 140 = .ok (.if_icmp .eq 433, 3) := by decide +kernel
theorem dlaw_143 : decode code 143 = .ok (.iconst 0, 1) := by decide +kernel
theorem dlaw_144 : decode code 144 = .ok (.ireturn, 1) := by decide +kernel
theorem dlaw_145 : decode code 145 = .ok (.aload_n 1, 1) := by decide +kernel
theorem dlaw_146 : decode code 146 = .ok (.aload_n 0, 1) := by decide +kernel
theorem dlaw_147 : decode code 147 = .ok (.iload_n 3, 1) := by decide +kernel
theorem dlaw_148 : decode code 148 = .ok (.iconst 1, 1) := by decide +kernel
theorem dlaw_149 : decode code 149 = .ok (.iadd, 1) := by decide +kernel
theorem dlaw_150 : decode code 150 = .ok (.iaload, 1) := by decide +kernel
theorem dlaw_151 : decode code 151 = .ok (.aload_n 0, 1) := by decide +kernel
theorem dlaw_152 : decode code 152 = .ok (.iload_n 3, 1) := by decide +kernel
theorem dlaw_153 : decode code 153 = .ok (.iconst 2, 1) := by decide +kernel
theorem dlaw_154 : decode code 154 = .ok (.iadd, 1) := by decide +kernel
theorem dlaw_155 : decode code 155 = .ok (.iaload, 1) := by decide +kernel
theorem dlaw_156 : decode code 156 = .ok (.invokevirtual 18, 3) := by decide +kernel
theorem dlaw_159 : decode code 159 = .ok (.aload_n 2, 1) := by decide +kernel
theorem dlaw_160 : decode code 160 = .ok (.aload_n 0, 1) := by decide +kernel
theorem dlaw_161 : decode code 161 = .ok (.iload_n 3, 1) := by decide +kernel
theorem dlaw_162 : decode code 162 = .ok (.iconst 1, 1) := by decide +kernel
theorem dlaw_163 : decode code 163 = .ok (.iadd, 1) := by decide +kernel
theorem dlaw_164 : decode code 164 = .ok (.iaload, 1) := by decide +kernel
theorem dlaw_165 : decode code 165 = .ok (.aload_n 0, 1) := by decide +kernel
theorem dlaw_166 : decode code 166 = .ok (.iload_n 3, 1) := by decide +kernel
theorem dlaw_167 : decode code 167 = .ok (.iconst 2, 1) := by decide +kernel
theorem dlaw_168 : decode code 168 = .ok (.iadd, 1) := by decide +kernel
theorem dlaw_169 : decode code 169 = .ok (.iaload, 1) := by decide +kernel
theorem dlaw_170 : decode code 170 = .ok (.invokevirtual 21, 3) := by decide +kernel
theorem dlaw_173 : decode code 173 = .ok (.if_icmp .eq 400, 3) := by decide +kernel
theorem dlaw_176 : decode code 176 = .ok (.iconst 0, 1) := by decide +kernel
theorem dlaw_177 : decode code 177 = .ok (.ireturn, 1) := by decide +kernel
theorem dlaw_178 : decode code 178 = .ok (.aload_n 1, 1) := by decide +kernel
theorem dlaw_179 : decode code 179 = .ok (.aload_n 0, 1) := by decide +kernel
theorem dlaw_180 : decode code 180 = .ok (.iload_n 3, 1) := by decide +kernel
theorem dlaw_181 : decode code 181 = .ok (.iconst 1, 1) := by decide +kernel
theorem dlaw_182 : decode code 182 = .ok (.iadd, 1) := by decide +kernel
theorem dlaw_183 : decode code 183 = .ok (.iaload, 1) := by decide +kernel
theorem dlaw_184 : decode code 184 = .ok (.aload_n 0, 1) := by decide +kernel
theorem dlaw_185 : decode code 185 = .ok (.iload_n 3, 1) := by decide +kernel
theorem dlaw_186 : decode code 186 = .ok (.iconst 2, 1) := by decide +kernel
theorem dlaw_187 : decode code 187 = .ok (.iadd, 1) := by decide +kernel
theorem dlaw_188 : decode code 188 = .ok (.iaload, 1) := by decide +kernel
theorem dlaw_189 : decode code 189 = .ok (.invokevirtual 22, 3) := by decide +kernel
theorem dlaw_192 : decode code 192 = .ok (.aload_n 2, 1) := by decide +kernel
theorem dlaw_193 : decode code 193 = .ok (.aload_n 0, 1) := by decide +kernel
theorem dlaw_194 : decode code 194 = .ok (.iload_n 3, 1) := by decide +kernel
theorem dlaw_195 : decode code 195 = .ok (.iconst 1, 1) := by decide +kernel
theorem dlaw_196 : decode code 196 = .ok (.iadd, 1) := by decide +kernel
theorem dlaw_197 : decode code 197 = .ok (.iaload, 1) := by decide +kernel
theorem dlaw_198 : decode code 198 = .ok (.aload_n 0, 1) := by decide +kernel
theorem dlaw_199 : decode code 199 = .ok (.iload_n 3, 1) := by decide +kernel
theorem dlaw_200 : decode code 200 = .ok (.iconst 2, 1) := by decide +kernel
theorem dlaw_201 : decode code 201 = .ok (.iadd, 1) := by decide +kernel
theorem dlaw_202 : decode code 202 = .ok (.iaload, 1) := by decide +kernel
theorem dlaw_203 : decode code 203 = .ok (.invokevirtual 25, 3) := by decide +kernel
theorem dlaw_206 : decode code 206 = .ok (.if_icmp .eq 367, 3) := by decide +kernel
theorem dlaw_209 : decode code 209 = .ok (.iconst 0, 1) := by decide +kernel
theorem dlaw_210 : decode code 210 = .ok (.ireturn, 1) := by decide +kernel
theorem dlaw_211 : decode code 211 = .ok (.aload_n 1, 1) := by decide +kernel
theorem dlaw_212 : decode code 212 = .ok (.aload_n 0, 1) := by decide +kernel
theorem dlaw_213 : decode code 213 = .ok (.iload_n 3, 1) := by decide +kernel
theorem dlaw_214 : decode code 214 = .ok (.iconst 1, 1) := by decide +kernel
theorem dlaw_215 : decode code 215 = .ok (.iadd, 1) := by decide +kernel
theorem dlaw_216 : decode code 216 = .ok (.iaload, 1) := by decide +kernel
theorem dlaw_217 : decode code 217 = .ok (.aload_n 0, 1) := by decide +kernel
theorem dlaw_218 : decode code 218 = .ok (.iload_n 3, 1) := by decide +kernel
theorem dlaw_219 : decode code 219 = .ok (.iconst 2, 1) := by decide +kernel
theorem dlaw_220 : decode code 220 = .ok (.iadd, 1) := by decide +kernel
theorem dlaw_221 : decode code 221 = .ok (.iaload, 1) := by decide +kernel
theorem dlaw_222 : decode code 222 = .ok (.aload_n 0, 1) := by decide +kernel
theorem dlaw_223 : decode code 223 = .ok (.iload_n 3, 1) := by decide +kernel
theorem dlaw_224 : decode code 224 = .ok (.iconst 3, 1) := by decide +kernel
theorem dlaw_225 : decode code 225 = .ok (.iadd, 1) := by decide +kernel
theorem dlaw_226 : decode code 226 = .ok (.iaload, 1) := by decide +kernel
theorem dlaw_227 : decode code 227 = .ok (.invokevirtual 26, 3) := by decide +kernel
theorem dlaw_230 : decode code 230 = .ok (.aload_n 2, 1) := by decide +kernel
theorem dlaw_231 : decode code 231 = .ok (.aload_n 0, 1) := by decide +kernel
theorem dlaw_232 : decode code 232 = .ok (.iload_n 3, 1) := by decide +kernel
theorem dlaw_233 : decode code 233 = .ok (.iconst 1, 1) := by decide +kernel
theorem dlaw_234 : decode code 234 = .ok (.iadd, 1) := by decide +kernel
theorem dlaw_235 : decode code 235 = .ok (.iaload, 1) := by decide +kernel
theorem dlaw_236 : decode code 236 = .ok (.aload_n 0, 1) := by decide +kernel
theorem dlaw_237 : decode code 237 = .ok (.iload_n 3, 1) := by decide +kernel
theorem dlaw_238 : decode code 238 = .ok (.iconst 2, 1) := by decide +kernel
theorem dlaw_239 : decode code 239 = .ok (.iadd, 1) := by decide +kernel
theorem dlaw_240 : decode code 240 = .ok (.iaload, 1) := by decide +kernel
theorem dlaw_241 : decode code 241 = .ok (.aload_n 0, 1) := by decide +kernel
theorem dlaw_242 : decode code 242 = .ok (.iload_n 3, 1) := by decide +kernel
theorem dlaw_243 : decode code 243 = .ok (.iconst 3, 1) := by decide +kernel
theorem dlaw_244 : decode code 244 = .ok (.iadd, 1) := by decide +kernel
theorem dlaw_245 : decode code 245 = .ok (.iaload, 1) := by decide +kernel
theorem dlaw_246 : decode code 246 = .ok (.invokevirtual 30, 3) := by decide +kernel
theorem dlaw_249 : decode code 249 = .ok (.if_icmp .eq 324, 3) := by decide +kernel
theorem dlaw_252 : decode code 252 = .ok (.iconst 0, 1) := by decide +kernel
theorem dlaw_253 : decode code 253 = .ok (.ireturn, 1) := by decide +kernel
theorem dlaw_254 : decode code 254 = .ok (.aload_n 1, 1) := by decide +kernel
theorem dlaw_255 : decode code 255 = .ok (.aload_n 0, 1) := by decide +kernel
theorem dlaw_256 : decode code 256 = .ok (.iload_n 3, 1) := by decide +kernel
theorem dlaw_257 : decode code 257 = .ok (.iconst 1, 1) := by decide +kernel
theorem dlaw_258 : decode code 258 = .ok (.iadd, 1) := by decide +kernel
theorem dlaw_259 : decode code 259 = .ok (.iaload, 1) := by decide +kernel
theorem dlaw_260 : decode code 260 = .ok (.aload_n 0, 1) := by decide +kernel
theorem dlaw_261 : decode code 261 = .ok (.iload_n 3, 1) := by decide +kernel
theorem dlaw_262 : decode code 262 = .ok (.iconst 2, 1) := by decide +kernel
theorem dlaw_263 : decode code 263 = .ok (.iadd, 1) := by decide +kernel
theorem dlaw_264 : decode code 264 = .ok (.iaload, 1) := by decide +kernel
theorem dlaw_265 : decode code 265 = .ok (.aload_n 0, 1) := by decide +kernel
theorem dlaw_266 : decode code 266 = .ok (.iload_n 3, 1) := by decide +kernel
theorem dlaw_267 : decode code 267 = .ok (.iconst 3, 1) := by decide +kernel
theorem dlaw_268 : decode code 268 = .ok (.iadd, 1) := by decide +kernel
theorem dlaw_269 : decode code 269 = .ok (.iaload, 1) := by decide +kernel
theorem dlaw_270 : decode code 270 = .ok (.invokevirtual 31, 3) := by decide +kernel
theorem dlaw_273 : decode code 273 = .ok (.aload_n 2, 1) := by decide +kernel
theorem dlaw_274 : decode code 274 = .ok (.aload_n 0, 1) := by decide +kernel
theorem dlaw_275 : decode code 275 = .ok (.iload_n 3, 1) := by decide +kernel
theorem dlaw_276 : decode code 276 = .ok (.iconst 1, 1) := by decide +kernel
theorem dlaw_277 : decode code 277 = .ok (.iadd, 1) := by decide +kernel
theorem dlaw_278 : decode code 278 = .ok (.iaload, 1) := by decide +kernel
theorem dlaw_279 : decode code 279 = .ok (.aload_n 0, 1) := by decide +kernel
theorem dlaw_280 : decode code 280 = .ok (.iload_n 3, 1) := by decide +kernel
theorem dlaw_281 : decode code 281 = .ok (.iconst 2, 1) := by decide +kernel
theorem dlaw_282 : decode code 282 = .ok (.iadd, 1) := by decide +kernel
theorem dlaw_283 : decode code 283 = .ok (.iaload, 1) := by decide +kernel
theorem dlaw_284 : decode code 284 = .ok (.aload_n 0, 1) := by decide +kernel
theorem dlaw_285 : decode code 285 = .ok (.iload_n 3, 1) := by decide +kernel
theorem dlaw_286 : decode code 286 = .ok (.iconst 3, 1) := by decide +kernel
theorem dlaw_287 : decode code 287 = .ok (.iadd, 1) := by decide +kernel
theorem dlaw_288 : decode code 288 = .ok (.iaload, 1) := by decide +kernel
theorem dlaw_289 : decode code 289 = .ok (.invokevirtual 34, 3) := by decide +kernel
theorem dlaw_292 : decode code 292 = .ok (.if_icmp .eq 281, 3) := by decide +kernel
theorem dlaw_295 : decode code 295 = .ok (.iconst 0, 1) := by decide +kernel
theorem dlaw_296 : decode code 296 = .ok (.ireturn, 1) := by decide +kernel
theorem dlaw_297 : decode code 297 = .ok (.aload_n 1, 1) := by decide +kernel
theorem dlaw_298 : decode code 298 = .ok (.aload_n 0, 1) := by decide +kernel
theorem dlaw_299 : decode code 299 = .ok (.iload_n 3, 1) := by decide +kernel
theorem dlaw_300 : decode code 300 = .ok (.iconst 1, 1) := by decide +kernel
theorem dlaw_301 : decode code 301 = .ok (.iadd, 1) := by decide +kernel
theorem dlaw_302 : decode code 302 = .ok (.iaload, 1) := by decide +kernel
theorem dlaw_303 : decode code 303 = .ok (.aload_n 0, 1) := by decide +kernel
theorem dlaw_304 : decode code 304 = .ok (.iload_n 3, 1) := by decide +kernel
theorem dlaw_305 : decode code 305 = .ok (.iconst 2, 1) := by decide +kernel
theorem dlaw_306 : decode code 306 = .ok (.iadd, 1) := by decide +kernel
theorem dlaw_307 : decode code 307 = .ok (.iaload, 1) := by decide +kernel
theorem dlaw_308 : decode code 308 = .ok (.aload_n 0, 1) := by decide +kernel
theorem dlaw_309 : decode code 309 = .ok (.iload_n 3, 1) := by decide +kernel
theorem dlaw_310 : decode code 310 = .ok (.iconst 3, 1) := by decide +kernel
theorem dlaw_311 : decode code 311 = .ok (.iadd, 1) := by decide +kernel
theorem dlaw_312 : decode code 312 = .ok (.iaload, 1) := by decide +kernel
theorem dlaw_313 : decode code 313 = .ok (.invokevirtual 35, 3) := by decide +kernel
theorem dlaw_316 : decode code 316 = .ok (.aload_n 2, 1) := by decide +kernel
theorem dlaw_317 : decode code 317 = .ok (.aload_n 0, 1) := by decide +kernel
theorem dlaw_318 : decode code 318 = .ok (.iload_n 3, 1) := by decide +kernel
theorem dlaw_319 : decode code 319 = .ok (.iconst 1, 1) := by decide +kernel
theorem dlaw_320 : decode code 320 = .ok (.iadd, 1) := by decide +kernel
theorem dlaw_321 : decode code 321 = .ok (.iaload, 1) := by decide +kernel
theorem dlaw_322 : decode code 322 = .ok (.aload_n 0, 1) := by decide +kernel
theorem dlaw_323 : decode code 323 = .ok (.iload_n 3, 1) := by decide +kernel
theorem dlaw_324 : decode code 324 = .ok (.iconst 2, 1) := by decide +kernel
theorem dlaw_325 : decode code 325 = .ok (.iadd, 1) := by decide +kernel
theorem dlaw_326 : decode code 326 = .ok (.iaload, 1) := by decide +kernel
theorem dlaw_327 : decode code 327 = .ok (.aload_n 0, 1) := by decide +kernel
theorem dlaw_328 : decode code 328 = .ok (.iload_n 3, 1) := by decide +kernel
theorem dlaw_329 : decode code 329 = .ok (.iconst 3, 1) := by decide +kernel
theorem dlaw_330 : decode code 330 = .ok (.iadd, 1) := by decide +kernel
theorem dlaw_331 : decode code 331 = .ok (.iaload, 1) := by decide +kernel
theorem dlaw_332 : decode code 332 = .ok (.invokevirtual 38, 3) := by decide +kernel
theorem dlaw_335 : decode code 335 = .ok (.if_icmp .eq 238, 3) := by decide +kernel
theorem dlaw_338 : decode code 338 = .ok (.iconst 0, 1) := by decide +kernel
theorem dlaw_339 : decode code 339 = .ok (.ireturn, 1) := by decide +kernel
theorem dlaw_340 : decode code 340 = .ok (.aload_n 1, 1) := by decide +kernel
theorem dlaw_341 : decode code 341 = .ok (.aload_n 0, 1) := by decide +kernel
theorem dlaw_342 : decode code 342 = .ok (.iload_n 3, 1) := by decide +kernel
theorem dlaw_343 : decode code 343 = .ok (.iconst 1, 1) := by decide +kernel
theorem dlaw_344 : decode code 344 = .ok (.iadd, 1) := by decide +kernel
theorem dlaw_345 : decode code 345 = .ok (.iaload, 1) := by decide +kernel
theorem dlaw_346 : decode code 346 = .ok (.aload_n 0, 1) := by decide +kernel
theorem dlaw_347 : decode code 347 = .ok (.iload_n 3, 1) := by decide +kernel
theorem dlaw_348 : decode code 348 = .ok (.iconst 2, 1) := by decide +kernel
theorem dlaw_349 : decode code 349 = .ok (.iadd, 1) := by decide +kernel
theorem dlaw_350 : decode code 350 = .ok (.iaload, 1) := by decide +kernel
theorem dlaw_351 : decode code 351 = .ok (.invokevirtual 39, 3) := by decide +kernel
theorem dlaw_354 : decode code 354 = .ok (.aload_n 2, 1) := by decide +kernel
theorem dlaw_355 : decode code 355 = .ok (.aload_n 0, 1) := by decide +kernel
theorem dlaw_356 : decode code 356 = .ok (.iload_n 3, 1) := by decide +kernel
theorem dlaw_357 : decode code 357 = .ok (.iconst 1, 1) := by decide +kernel
theorem dlaw_358 : decode code 358 = .ok (.iadd, 1) := by decide +kernel
theorem dlaw_359 : decode code 359 = .ok (.iaload, 1) := by decide +kernel
theorem dlaw_360 : decode code 360 = .ok (.aload_n 0, 1) := by decide +kernel
theorem dlaw_361 : decode code 361 = .ok (.iload_n 3, 1) := by decide +kernel
theorem dlaw_362 : decode code 362 = .ok (.iconst 2, 1) := by decide +kernel
theorem dlaw_363 : decode code 363 = .ok (.iadd, 1) := by decide +kernel
theorem dlaw_364 : decode code 364 = .ok (.iaload, 1) := by decide +kernel
theorem dlaw_365 : decode code 365 = .ok (.invokevirtual 43, 3) := by decide +kernel
theorem dlaw_368 : decode code 368 = .ok (.if_icmp .eq 205, 3) := by decide +kernel
theorem dlaw_371 : decode code 371 = .ok (.iconst 0, 1) := by decide +kernel
theorem dlaw_372 : decode code 372 = .ok (.ireturn, 1) := by decide +kernel
theorem dlaw_373 : decode code 373 = .ok (.aload_n 1, 1) := by decide +kernel
theorem dlaw_374 : decode code 374 = .ok (.aload_n 0, 1) := by decide +kernel
theorem dlaw_375 : decode code 375 = .ok (.iload_n 3, 1) := by decide +kernel
theorem dlaw_376 : decode code 376 = .ok (.iconst 1, 1) := by decide +kernel
theorem dlaw_377 : decode code 377 = .ok (.iadd, 1) := by decide +kernel
theorem dlaw_378 : decode code 378 = .ok (.iaload, 1) := by decide +kernel
theorem dlaw_379 : decode code 379 = .ok (.invokevirtual 44, 3) := by decide +kernel
theorem dlaw_382 : decode code 382 = .ok (.aload_n 2, 1) := by decide +kernel
theorem dlaw_383 : decode code 383 = .ok (.aload_n 0, 1) := by decide +kernel
theorem dlaw_384 : decode code 384 = .ok (.iload_n 3, 1) := by decide +kernel
theorem dlaw_385 : decode code 385 = .ok (.iconst 1, 1) := by decide +kernel
theorem dlaw_386 : decode code 386 = .ok (.iadd, 1) := by decide +kernel
theorem dlaw_387 : decode code 387 = .ok (.iaload, 1) := by decide +kernel
theorem dlaw_388 : decode code 388 = .ok (.invokevirtual 48, 3) := by decide +kernel
theorem dlaw_391 : decode code 391 = .ok (.if_icmp .eq 182, 3) := by decide +kernel
theorem dlaw_394 : decode code 394 = .ok (.iconst 0, 1) := by decide +kernel
theorem dlaw_395 : decode code 395 = .ok (.ireturn, 1) := by decide +kernel
theorem dlaw_396 : decode code 396 = .ok (.aload_n 1, 1) := by decide +kernel
theorem dlaw_397 : decode code 397 = .ok (.aload_n 0, 1) := by decide +kernel
theorem dlaw_398 : decode code 398 = .ok (.iload_n 3, 1) := by decide +kernel
theorem dlaw_399 : decode code 399 = .ok (.iconst 1, 1) := by decide +kernel
theorem dlaw_400 : decode code 400 = .ok (.iadd, 1) := by decide +kernel
theorem dlaw_401 : decode code 401 = .ok (.iaload, 1) := by decide +kernel
theorem dlaw_402 : decode code 402 = .ok (.aload_n 0, 1) := by decide +kernel
theorem dlaw_403 : decode code 403 = .ok (.iload_n 3, 1) := by decide +kernel
theorem dlaw_404 : decode code 404 = .ok (.iconst 2, 1) := by decide +kernel
theorem dlaw_405 : decode code 405 = .ok (.iadd, 1) := by decide +kernel
theorem dlaw_406 : decode code 406 = .ok (.iaload, 1) := by decide +kernel
theorem dlaw_407 : decode code 407 = .ok (.invokevirtual 49, 3) := by decide +kernel
theorem dlaw_410 : decode code 410 = .ok (.aload_n 2, 1) := by decide +kernel
theorem dlaw_411 : decode code 411 = .ok (.aload_n 0, 1) := by decide +kernel
theorem dlaw_412 : decode code 412 = .ok (.iload_n 3, 1) := by decide +kernel
theorem dlaw_413 : decode code 413 = .ok (.iconst 1, 1) := by decide +kernel
theorem dlaw_414 : decode code 414 = .ok (.iadd, 1) := by decide +kernel
theorem dlaw_415 : decode code 415 = .ok (.iaload, 1) := by decide +kernel
theorem dlaw_416 : decode code 416 = .ok (.aload_n 0, 1) := by decide +kernel
theorem dlaw_417 : decode code 417 = .ok (.iload_n 3, 1) := by decide +kernel
theorem dlaw_418 : decode code 418 = .ok (.iconst 2, 1) := by decide +kernel
theorem dlaw_419 : decode code 419 = .ok (.iadd, 1) := by decide +kernel
theorem dlaw_420 : decode code 420 = .ok (.iaload, 1) := by decide +kernel
theorem dlaw_421 : decode code 421 = .ok (.invokevirtual 53, 3) := by decide +kernel
theorem dlaw_424 : decode code 424 = .ok (.lcmp, 1) := by decide +kernel
theorem dlaw_425 : decode code 425 = .ok (.ifCond .eq 148, 3) := by decide +kernel
theorem dlaw_428 : decode code 428 = .ok (.iconst 0, 1) := by decide +kernel
theorem dlaw_429 : decode code 429 = .ok (.ireturn, 1) := by decide +kernel
theorem dlaw_430 : decode code 430 = .ok (.aload_n 1, 1) := by decide +kernel
theorem dlaw_431 : decode code 431 = .ok (.aload_n 0, 1) := by decide +kernel
theorem dlaw_432 : decode code 432 = .ok (.iload_n 3, 1) := by decide +kernel
theorem dlaw_433 : decode code 433 = .ok (.iconst 1, 1) := by decide +kernel
theorem dlaw_434 : decode code 434 = .ok (.iadd, 1) := by decide +kernel
theorem dlaw_435 : decode code 435 = .ok (.iaload, 1) := by decide +kernel
theorem dlaw_436 : decode code 436 = .ok (.invokevirtual 54, 3) := by decide +kernel
theorem dlaw_439 : decode code 439 = .ok (.aload_n 2, 1) := by decide +kernel
theorem dlaw_440 : decode code 440 = .ok (.aload_n 0, 1) := by decide +kernel
theorem dlaw_441 : decode code 441 = .ok (.iload_n 3, 1) := by decide +kernel
theorem dlaw_442 : decode code 442 = .ok (.iconst 1, 1) := by decide +kernel
theorem dlaw_443 : decode code 443 = .ok (.iadd, 1) := by decide +kernel
theorem dlaw_444 : decode code 444 = .ok (.iaload, 1) := by decide +kernel
theorem dlaw_445 : decode code 445 = .ok (.invokevirtual 58, 3) := by decide +kernel
theorem dlaw_448 : decode code 448 = .ok (.lcmp, 1) := by decide +kernel
theorem dlaw_449 : decode code 449 = .ok (.ifCond .eq 124, 3) := by decide +kernel
theorem dlaw_452 : decode code 452 = .ok (.iconst 0, 1) := by decide +kernel
theorem dlaw_453 : decode code 453 = .ok (.ireturn, 1) := by decide +kernel
theorem dlaw_454 : decode code 454 = .ok (.aload_n 1, 1) := by decide +kernel
theorem dlaw_455 : decode code 455 = .ok (.invokevirtual 59, 3) := by decide +kernel
theorem dlaw_458 : decode code 458 = .ok (.aload_n 2, 1) := by decide +kernel
theorem dlaw_459 : decode code 459 = .ok (.invokevirtual 63, 3) := by decide +kernel
theorem dlaw_462 : decode code 462 = .ok (.if_icmp .eq 111, 3) := by decide +kernel
theorem dlaw_465 : decode code 465 = .ok (.iconst 0, 1) := by decide +kernel
theorem dlaw_466 : decode code 466 = .ok (.ireturn, 1) := by decide +kernel
theorem dlaw_467 : decode code 467 = .ok (.aload_n 1, 1) := by decide +kernel
theorem dlaw_468 : decode code 468 = .ok (.aload_n 0, 1) := by decide +kernel
theorem dlaw_469 : decode code 469 = .ok (.iload_n 3, 1) := by decide +kernel
theorem dlaw_470 : decode code 470 = .ok (.iconst 1, 1) := by decide +kernel
theorem dlaw_471 : decode code 471 = .ok (.iadd, 1) := by decide +kernel
theorem dlaw_472 : decode code 472 = .ok (.iaload, 1) := by decide +kernel
theorem dlaw_473 : decode code 473 = .ok (.invokevirtual 64, 3) := by decide +kernel
theorem dlaw_476 : decode code 476 = .ok (.aload_n 2, 1) := by decide +kernel
theorem dlaw_477 : decode code 477 = .ok (.aload_n 0, 1) := by decide +kernel
theorem dlaw_478 : decode code 478 = .ok (.iload_n 3, 1) := by decide +kernel
theorem dlaw_479 : decode code 479 = .ok (.iconst 1, 1) := by decide +kernel
theorem dlaw_480 : decode code 480 = .ok (.iadd, 1) := by decide +kernel
theorem dlaw_481 : decode code 481 = .ok (.iaload, 1) := by decide +kernel
theorem dlaw_482 : decode code 482 = .ok (.invokevirtual 67, 3) := by decide +kernel
theorem dlaw_485 : decode code 485 = .ok (.if_icmp .eq 88, 3) := by decide +kernel
theorem dlaw_488 : decode code 488 = .ok (.iconst 0, 1) := by decide +kernel
theorem dlaw_489 : decode code 489 = .ok (.ireturn, 1) := by decide +kernel
theorem dlaw_490 : decode code 490 = .ok (.aload_n 1, 1) := by decide +kernel
theorem dlaw_491 : decode code 491 = .ok (.aload_n 0, 1) := by decide +kernel
theorem dlaw_492 : decode code 492 = .ok (.iload_n 3, 1) := by decide +kernel
theorem dlaw_493 : decode code 493 = .ok (.iconst 1, 1) := by decide +kernel
theorem dlaw_494 : decode code 494 = .ok (.iadd, 1) := by decide +kernel
theorem dlaw_495 : decode code 495 = .ok (.iaload, 1) := by decide +kernel
theorem dlaw_496 : decode code 496 = .ok (.aload_n 0, 1) := by decide +kernel
theorem dlaw_497 : decode code 497 = .ok (.iload_n 3, 1) := by decide +kernel
theorem dlaw_498 : decode code 498 = .ok (.iconst 2, 1) := by decide +kernel
theorem dlaw_499 : decode code 499 = .ok (.iadd, 1) := by decide +kernel
theorem dlaw_500 : decode code 500 = .ok (.iaload, 1) := by decide +kernel
theorem dlaw_501 : decode code 501 = .ok (.invokevirtual 68, 3) := by decide +kernel
theorem dlaw_504 : decode code 504 = .ok (.aload_n 2, 1) := by decide +kernel
theorem dlaw_505 : decode code 505 = .ok (.aload_n 0, 1) := by decide +kernel
theorem dlaw_506 : decode code 506 = .ok (.iload_n 3, 1) := by decide +kernel
theorem dlaw_507 : decode code 507 = .ok (.iconst 1, 1) := by decide +kernel
theorem dlaw_508 : decode code 508 = .ok (.iadd, 1) := by decide +kernel
theorem dlaw_509 : decode code 509 = .ok (.iaload, 1) := by decide +kernel
theorem dlaw_510 : decode code 510 = .ok (.aload_n 0, 1) := by decide +kernel
theorem dlaw_511 : decode code 511 = .ok (.iload_n 3, 1) := by decide +kernel
theorem dlaw_512 : decode code 512 = .ok (.iconst 2, 1) := by decide +kernel
theorem dlaw_513 : decode code 513 = .ok (.iadd, 1) := by decide +kernel
theorem dlaw_514 : decode code 514 = .ok (.iaload, 1) := by decide +kernel
theorem dlaw_515 : decode code 515 = .ok (.invokevirtual 71, 3) := by decide +kernel
theorem dlaw_518 : decode code 518 = .ok (.lcmp, 1) := by decide +kernel
theorem dlaw_519 : decode code 519 = .ok (.ifCond .eq 54, 3) := by decide +kernel
theorem dlaw_522 : decode code 522 = .ok (.iconst 0, 1) := by decide +kernel
theorem dlaw_523 : decode code 523 = .ok (.ireturn, 1) := by decide +kernel
theorem dlaw_524 : decode code 524 = .ok (.aload_n 1, 1) := by decide +kernel
theorem dlaw_525 : decode code 525 = .ok (.aload_n 0, 1) := by decide +kernel
theorem dlaw_526 : decode code 526 = .ok (.iload_n 3, 1) := by decide +kernel
theorem dlaw_527 : decode code 527 = .ok (.iconst 1, 1) := by decide +kernel
theorem dlaw_528 : decode code 528 = .ok (.iadd, 1) := by decide +kernel
theorem dlaw_529 : decode code 529 = .ok (.iaload, 1) := by decide +kernel
theorem dlaw_530 : decode code 530 = .ok (.invokevirtual 72, 3) := by decide +kernel
theorem dlaw_533 : decode code 533 = .ok (.aload_n 2, 1) := by decide +kernel
theorem dlaw_534 : decode code 534 = .ok (.aload_n 0, 1) := by decide +kernel
theorem dlaw_535 : decode code 535 = .ok (.iload_n 3, 1) := by decide +kernel
theorem dlaw_536 : decode code 536 = .ok (.iconst 1, 1) := by decide +kernel
theorem dlaw_537 : decode code 537 = .ok (.iadd, 1) := by decide +kernel
theorem dlaw_538 : decode code 538 = .ok (.iaload, 1) := by decide +kernel
theorem dlaw_539 : decode code 539 = .ok (.invokevirtual 75, 3) := by decide +kernel
theorem dlaw_542 : decode code 542 = .ok (.if_icmp .eq 31, 3) := by decide +kernel
theorem dlaw_545 : decode code 545 = .ok (.iconst 0, 1) := by decide +kernel
theorem dlaw_546 : decode code 546 = .ok (.ireturn, 1) := by decide +kernel
theorem dlaw_547 : decode code 547 = .ok (.aload_n 1, 1) := by decide +kernel
theorem dlaw_548 : decode code 548 = .ok (.invokevirtual 76, 3) := by decide +kernel
theorem dlaw_551 : decode code 551 = .ok (.aload_n 2, 1) := by decide +kernel
theorem dlaw_552 : decode code 552 = .ok (.invokevirtual 79, 3) := by decide +kernel
theorem dlaw_555 : decode code 555 = .ok (.if_icmp .eq 18, 3) := by decide +kernel
theorem dlaw_558 : decode code 558 = .ok (.iconst 0, 1) := by decide +kernel
theorem dlaw_559 : decode code 559 = .ok (.ireturn, 1) := by decide +kernel
theorem dlaw_560 : decode code 560 = .ok (.aload_n 1, 1) := by decide +kernel
theorem dlaw_561 : decode code 561 = .ok (.invokevirtual 80, 3) := by decide +kernel
theorem dlaw_564 : decode code 564 = .ok (.aload_n 2, 1) := by decide +kernel
theorem dlaw_565 : decode code 565 = .ok (.invokevirtual 83, 3) := by decide +kernel
theorem dlaw_568 : decode code 568 = .ok (.if_icmp .eq 5, 3) := by decide +kernel
theorem dlaw_571 : decode code 571 = .ok (.iconst 0, 1) := by decide +kernel
theorem dlaw_572 : decode code 572 = .ok (.ireturn, 1) := by decide +kernel
theorem dlaw_573 : decode code 573 = .ok (.iinc 3 4, 3) := by decide +kernel
theorem dlaw_576 : decode code 576 = .ok (.goto (-558), 3) := by decide +kernel
theorem dlaw_579 : decode code 579 = .ok (.iconst 1, 1) := by decide +kernel
theorem dlaw_580 : decode code 580 = .ok (.ireturn, 1) := by decide +kernel
theorem dlaw_32 : decode code 32 = .ok (.tableswitch 541 0 15 #[80, 113, 146, 179, 222, 265, 308, 341, 364, 398, 422, 435, 458, 492, 515, 528], 80) := by decide +kernel
/-! The law over two worlds side by side: a call changes its own alone. -/
theorem P_left {D : va_G} {cl : List vw_C} {a b : va_W} {H : Heap} (h : va_P D cl (a ++ b) H) : va_P D cl a H := fun k q hk => h k q (by rw [List.getElem?_append_left (List.getElem?_eq_some_iff.mp hk).1]; exact hk)
theorem P_right {D : va_G} {cl : List vw_C} {a b : va_W} {H : Heap} (h : va_P D cl (a ++ b) H) : va_P D cl b H := fun k q hk => h (a.length + k) q (by rw [List.getElem?_append_right (by omega), Nat.add_sub_cancel_left]; exact hk)
theorem D_left {A : Nat → Prop} {a b : va_W} (h : va_D A (a ++ b)) : va_D A a := by
  have at' : ∀ (k : Nat) (q : Nat × va_E), a[k]? = some q → (a ++ b)[k]? = some q := fun k q hk => by rw [List.getElem?_append_left (List.getElem?_eq_some_iff.mp hk).1]; exact hk
  exact ⟨fun i j p q hi hj e => h.1 i j p q (at' i p hi) (at' j q hj) e, fun k q hk => h.2 k q (at' k q hk)⟩
theorem D_right {A : Nat → Prop} {a b : va_W} (h : va_D A (a ++ b)) : va_D A b := by
  have at' : ∀ (k : Nat) (q : Nat × va_E), b[k]? = some q → (a ++ b)[a.length + k]? = some q := fun k q hk => by rw [List.getElem?_append_right (by omega), Nat.add_sub_cancel_left]; exact hk
  refine ⟨fun i j p q hi hj e => ?_, fun k q hk => h.2 _ q (at' k q hk)⟩
  have := h.1 _ _ p q (at' i p hi) (at' j q hj) e
  omega
theorem D_cross {A : Nat → Prop} {a b : va_W} (h : va_D A (a ++ b)) {i j : Nat} {p q : Nat × va_E} (hi : a[i]? = some p) (hj : b[j]? = some q) : p.1 ≠ q.1 := fun e => by
  have hl := (List.getElem?_eq_some_iff.mp hi).1
  have := h.1 i (a.length + j) p q (by rw [List.getElem?_append_left hl]; exact hi) (by rw [List.getElem?_append_right (by omega), Nat.add_sub_cancel_left]; exact hj) e
  omega
theorem joinL {D : va_G} {cl : List vw_C} {a b a2 : va_W} {A : Nat → Prop} {H H1 : Heap} (hP : va_P D cl (a ++ b) H) (hD : va_D A (a ++ b)) (hF : ∀ q, va_A a H.size q → A q) (hk : ∀ q : Nat, q < H.size → ¬ va_A a H.size q → H1[q]? = H[q]?) (hP1 : va_P D cl a2 H1) (hD1 : va_D (va_A a H.size) a2) : va_P D cl (a2 ++ b) H1 ∧ va_D A (a2 ++ b) := by
  have hPb := P_right hP
  have apart : ∀ (k : Nat) (q : Nat × va_E), b[k]? = some q → q.1 < H.size ∧ ¬ va_A a H.size q.1 := by
    intro k q hq
    have hl := (hPb k q hq).lt
    refine ⟨hl, fun h => ?_⟩
    rcases h with ⟨k2, e, h⟩ | h
    · exact D_cross hD h hq rfl
    · omega
  refine ⟨hP1.app (hPb.kept (fun k q hq => hk q.1 (apart k q hq).1 (apart k q hq).2)), va_D.app (hD1.weaken (fun _ q _ h => hF q.1 h)) (D_right hD) (fun i j x y hx hy e => ?_)⟩
  exact (apart j y hy).2 (e ▸ hD1.2 i x hx)
theorem joinR {D : va_G} {cl : List vw_C} {a b b2 : va_W} {A : Nat → Prop} {H H1 : Heap} (hP : va_P D cl (a ++ b) H) (hD : va_D A (a ++ b)) (hF : ∀ q, va_A b H.size q → A q) (hk : ∀ q : Nat, q < H.size → ¬ va_A b H.size q → H1[q]? = H[q]?) (hP1 : va_P D cl b2 H1) (hD1 : va_D (va_A b H.size) b2) : va_P D cl (a ++ b2) H1 ∧ va_D A (a ++ b2) := by
  have hPa := P_left hP
  have apart : ∀ (k : Nat) (q : Nat × va_E), a[k]? = some q → q.1 < H.size ∧ ¬ va_A b H.size q.1 := by
    intro k q hq
    have hl := (hPa k q hq).lt
    refine ⟨hl, fun h => ?_⟩
    rcases h with ⟨k2, e, h⟩ | h
    · exact D_cross hD hq h rfl
    · omega
  refine ⟨(hPa.kept (fun k q hq => hk q.1 (apart k q hq).1 (apart k q hq).2)).app hP1, va_D.app (D_left hD) (hD1.weaken (fun _ q _ h => hF q.1 h)) (fun i j x y hx hy e => ?_)⟩
  exact (apart i x hx).2 (e ▸ hD1.2 j y hy)
section PSL
variable {p : Program} {l : Launch} {e : Env} {R : Room} {s : State} {m : MethodId} {args : Array Value} {below : List Frame} {meth : Method} {c : Code} {H : Heap} {locs : List Loc} {Q : State → Prop} {cells slots : Nat}
variable {pc : Nat} {ls : Array Slot} {rest st0 : List Value} {av : Array Value} {A : Nat → Prop} {D : va_G} {cl : List vw_C} {tys : List (ClassId × FieldType)} {wf : SI → SJ → va_W} {I1 : SI} {J1 : SJ} {a b : va_W}
theorem pL_i {r1 : Int32} (hP : va_P D cl (a ++ b) H) (hD : va_D A (a ++ b)) (hS : va_S A s.heap H locs) (hA : ∀ q, s.heap.size ≤ q → A q) (hr : va_Run p l e R s m args below meth c H locs cells slots 0 0 (F0 m pc ls st0) rest (va_Qi (fun (r : Int32) (u : SI × SJ) => (r, u) = (r1, I1, J1)) (atW D cl tys (va_A a H.size) wf) (va_A a H.size) av) (va_A a H.size))
    (kk : ∀ (H1 : Heap) (locs1 : List Loc), va_P D cl (wf I1 J1 ++ b) H1 → va_D A (wf I1 J1 ++ b) → va_S A s.heap H1 locs1 → W p l e R s m args below meth c H1 locs1 cells slots Q (F0 m (pc + 3) ls (.int r1 :: rest))) : W p l e R s m args below meth c H locs cells slots Q (F0 m pc ls st0) :=
  va_calli hr hS (fun q _ h => inA (D_left hD) hS hA q h) (inA (D_left hD) hS hA) (fun r u t H1 locs1 ht hvm hw hB hz hk hS1 => by
    cases hw
    obtain ⟨h1, h2⟩ := joinL hP hD (inA (D_left hD) hS hA) hk (ht ▸ hB.1) hB.2.2
    exact kk H1 locs1 h1 h2 hS1)
theorem pL_l {r1 : Int64} (hP : va_P D cl (a ++ b) H) (hD : va_D A (a ++ b)) (hS : va_S A s.heap H locs) (hA : ∀ q, s.heap.size ≤ q → A q) (hr : va_Run p l e R s m args below meth c H locs cells slots 0 0 (F0 m pc ls st0) rest (va_Ql (fun (r : Int64) (u : SI × SJ) => (r, u) = (r1, I1, J1)) (atW D cl tys (va_A a H.size) wf) (va_A a H.size) av) (va_A a H.size))
    (kk : ∀ (H1 : Heap) (locs1 : List Loc), va_P D cl (wf I1 J1 ++ b) H1 → va_D A (wf I1 J1 ++ b) → va_S A s.heap H1 locs1 → W p l e R s m args below meth c H1 locs1 cells slots Q (F0 m (pc + 3) ls (.long r1 :: rest))) : W p l e R s m args below meth c H locs cells slots Q (F0 m pc ls st0) :=
  va_calll hr hS (fun q _ h => inA (D_left hD) hS hA q h) (inA (D_left hD) hS hA) (fun r u t H1 locs1 ht hvm hw hB hz hk hS1 => by
    cases hw
    obtain ⟨h1, h2⟩ := joinL hP hD (inA (D_left hD) hS hA) hk (ht ▸ hB.1) hB.2.2
    exact kk H1 locs1 h1 h2 hS1)
theorem pR_i {r1 : Int32} (hP : va_P D cl (a ++ b) H) (hD : va_D A (a ++ b)) (hS : va_S A s.heap H locs) (hA : ∀ q, s.heap.size ≤ q → A q) (hr : va_Run p l e R s m args below meth c H locs cells slots 0 0 (F0 m pc ls st0) rest (va_Qi (fun (r : Int32) (u : SI × SJ) => (r, u) = (r1, I1, J1)) (atW D cl tys (va_A b H.size) wf) (va_A b H.size) av) (va_A b H.size))
    (kk : ∀ (H1 : Heap) (locs1 : List Loc), va_P D cl (a ++ wf I1 J1) H1 → va_D A (a ++ wf I1 J1) → va_S A s.heap H1 locs1 → W p l e R s m args below meth c H1 locs1 cells slots Q (F0 m (pc + 3) ls (.int r1 :: rest))) : W p l e R s m args below meth c H locs cells slots Q (F0 m pc ls st0) :=
  va_calli hr hS (fun q _ h => inA (D_right hD) hS hA q h) (inA (D_right hD) hS hA) (fun r u t H1 locs1 ht hvm hw hB hz hk hS1 => by
    cases hw
    obtain ⟨h1, h2⟩ := joinR hP hD (inA (D_right hD) hS hA) hk (ht ▸ hB.1) hB.2.2
    exact kk H1 locs1 h1 h2 hS1)
theorem pR_l {r1 : Int64} (hP : va_P D cl (a ++ b) H) (hD : va_D A (a ++ b)) (hS : va_S A s.heap H locs) (hA : ∀ q, s.heap.size ≤ q → A q) (hr : va_Run p l e R s m args below meth c H locs cells slots 0 0 (F0 m pc ls st0) rest (va_Ql (fun (r : Int64) (u : SI × SJ) => (r, u) = (r1, I1, J1)) (atW D cl tys (va_A b H.size) wf) (va_A b H.size) av) (va_A b H.size))
    (kk : ∀ (H1 : Heap) (locs1 : List Loc), va_P D cl (a ++ wf I1 J1) H1 → va_D A (a ++ wf I1 J1) → va_S A s.heap H1 locs1 → W p l e R s m args below meth c H1 locs1 cells slots Q (F0 m (pc + 3) ls (.long r1 :: rest))) : W p l e R s m args below meth c H locs cells slots Q (F0 m pc ls st0) :=
  va_calll hr hS (fun q _ h => inA (D_right hD) hS hA q h) (inA (D_right hD) hS hA) (fun r u t H1 locs1 ht hvm hw hB hz hk hS1 => by
    cases hw
    obtain ⟨h1, h2⟩ := joinR hP hD (inA (D_right hD) hS hA) hk (ht ▸ hB.1) hB.2.2
    exact kk H1 locs1 h1 h2 hS1)
end PSL
theorem lg_self (x : Int64) : lg_cmp x x = 0 := by
  have h : ¬ x < x := Int64.lt_irrefl
  simp [lg_cmp, h]
/-- both answer, and alike -/
def Agree {α : Type} (Inv : SI → SJ → SI → SJ → Prop) (f g : Option (α × SI × SJ)) : Prop := ∃ (r : α) (I : SI) (J : SJ) (I2 : SI) (J2 : SJ), f = some (r, I, J) ∧ g = some (r, I2, J2) ∧ Inv I J I2 J2
