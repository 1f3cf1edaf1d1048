theorem wd_0 : Cond.selects RF yF_isStuff yF_isStuff ∈ gtb := gtb_in (i := 0) (by decide +kernel) (by decide +kernel)
theorem wd_1 : Cond.selects RE yE_findBest yE_findBest ∈ gtb := gtb_in (i := 1) (by decide +kernel) (by decide +kernel)
theorem wd_28 : Cond.selects RE yE_tightBounds yE_tightBounds ∈ gtb := gtb_in (i := 28) (by decide +kernel) (by decide +kernel)
theorem wd_29 : Cond.selects RE yE_canKeepBounds yE_canKeepBounds ∈ gtb := gtb_in (i := 29) (by decide +kernel) (by decide +kernel)
theorem wd_30 : Cond.selects RE yE_clashingBounds yE_clashingBounds ∈ gtb := gtb_in (i := 30) (by decide +kernel) (by decide +kernel)
theorem wd_242 : Cond.fieldLink RF 12 "FeedMixes" "told" "LFeedMixes$Told;" ∈ gtb := gtb_in (i := 242) (by decide +kernel) (by decide +kernel)
theorem wd_243 : Cond.fieldLink RF 21 "FeedMixes" "mixer" "LFeedMixes$Mixer;" ∈ gtb := gtb_in (i := 243) (by decide +kernel) (by decide +kernel)
theorem wd_244 : Cond.fieldLink RF 25 "FeedMixes" "lastAnswer" "I" ∈ gtb := gtb_in (i := 244) (by decide +kernel) (by decide +kernel)
theorem wd_245 : Cond.fieldLink RF 29 "FeedMixes" "lastWeight" "I" ∈ gtb := gtb_in (i := 245) (by decide +kernel) (by decide +kernel)
theorem wd_246 : Cond.fieldLink RF 32 "FeedMixes" "lastStuffs" "I" ∈ gtb := gtb_in (i := 246) (by decide +kernel) (by decide +kernel)
theorem wd_247 : Cond.fieldLink RF 35 "FeedMixes" "lastTight" "I" ∈ gtb := gtb_in (i := 247) (by decide +kernel) (by decide +kernel)
theorem wd_248 : Cond.fieldLink RF 38 "FeedMixes" "lastClash" "I" ∈ gtb := gtb_in (i := 248) (by decide +kernel) (by decide +kernel)
theorem wd_249 : Cond.fieldLink RF 44 "FeedMixes" "lastMix" "LFeedMixes$Mix;" ∈ gtb := gtb_in (i := 249) (by decide +kernel) (by decide +kernel)
theorem wd_250 : Cond.fieldLink RF 48 "FeedMixes" "mixNow" "LFeedMixes$Mix;" ∈ gtb := gtb_in (i := 250) (by decide +kernel) (by decide +kernel)
theorem wd_251 : Cond.fieldLink RF 51 "FeedMixes" "mixThen" "LFeedMixes$Mix;" ∈ gtb := gtb_in (i := 251) (by decide +kernel) (by decide +kernel)
theorem wd_252 : Cond.fieldLink RF 54 "FeedMixes" "medicineOnLine" "I" ∈ gtb := gtb_in (i := 252) (by decide +kernel) (by decide +kernel)
theorem wd_253 : Cond.fieldLink RF 57 "FeedMixes" "mixesOverLine" "I" ∈ gtb := gtb_in (i := 253) (by decide +kernel) (by decide +kernel)
theorem wd_283 : Cond.methodLink RF 63 yF_isPrice ∈ gtb := gtb_in (i := 283) (by decide +kernel) (by decide +kernel)
theorem wd_284 : Cond.static yF_isPrice ∈ gtb := gtb_in (i := 284) (by decide +kernel) (by decide +kernel)
set_option maxRecDepth 100000 in
theorem wd_285 : Cond.code yF_isPrice bF_isPrice 1 (some .boolean) ∈ gtb := gtb_in (i := 285) rfl (by decide +kernel)
theorem wd_289 : Cond.methodLink RF 67 yF_isStock ∈ gtb := gtb_in (i := 289) (by decide +kernel) (by decide +kernel)
theorem wd_290 : Cond.static yF_isStock ∈ gtb := gtb_in (i := 290) (by decide +kernel) (by decide +kernel)
set_option maxRecDepth 100000 in
theorem wd_291 : Cond.code yF_isStock bF_isStock 1 (some .boolean) ∈ gtb := gtb_in (i := 291) rfl (by decide +kernel)
theorem wd_296 : Cond.methodLink RF 80 yF_isStuff ∈ gtb := gtb_in (i := 296) (by decide +kernel) (by decide +kernel)
theorem wd_298 : Cond.instanceMethod yF_isStuff ∈ gtb := gtb_in (i := 298) (by decide +kernel) (by decide +kernel)
set_option maxRecDepth 100000 in
theorem wd_299 : Cond.code yF_isStuff bF_isStuff 2 (some .boolean) ∈ gtb := gtb_in (i := 299) rfl (by decide +kernel)
theorem wd_308 : Cond.methodLink RF 83 yF_isNutrient ∈ gtb := gtb_in (i := 308) (by decide +kernel) (by decide +kernel)
theorem wd_309 : Cond.static yF_isNutrient ∈ gtb := gtb_in (i := 309) (by decide +kernel) (by decide +kernel)
set_option maxRecDepth 100000 in
theorem wd_310 : Cond.code yF_isNutrient bF_isNutrient 1 (some .boolean) ∈ gtb := gtb_in (i := 310) rfl (by decide +kernel)
theorem wd_315 : Cond.methodLink RF 94 yF_isRange ∈ gtb := gtb_in (i := 315) (by decide +kernel) (by decide +kernel)
theorem wd_316 : Cond.static yF_isRange ∈ gtb := gtb_in (i := 316) (by decide +kernel) (by decide +kernel)
set_option maxRecDepth 100000 in
theorem wd_317 : Cond.code yF_isRange bF_isRange 3 (some .boolean) ∈ gtb := gtb_in (i := 317) rfl (by decide +kernel)
theorem wd_332 : Cond.instanceMethod yE_findBest ∈ gtb := gtb_in (i := 332) (by decide +kernel) (by decide +kernel)
set_option maxRecDepth 100000 in
theorem wd_333 : Cond.code yE_findBest bE_findBest 3 (some .boolean) ∈ gtb := gtb_in (i := 333) rfl (by decide +kernel)
theorem wd_465 : Cond.instanceMethod yE_tightBounds ∈ gtb := gtb_in (i := 465) (by decide +kernel) (by decide +kernel)
set_option maxRecDepth 100000 in
theorem wd_466 : Cond.code yE_tightBounds bE_tightBounds 4 (some .int) ∈ gtb := gtb_in (i := 466) rfl (by decide +kernel)
theorem wd_473 : Cond.instanceMethod yE_canKeepBounds ∈ gtb := gtb_in (i := 473) (by decide +kernel) (by decide +kernel)
set_option maxRecDepth 100000 in
theorem wd_474 : Cond.code yE_canKeepBounds bE_canKeepBounds 2 (some .boolean) ∈ gtb := gtb_in (i := 474) rfl (by decide +kernel)
theorem wd_477 : Cond.instanceMethod yE_clashingBounds ∈ gtb := gtb_in (i := 477) (by decide +kernel) (by decide +kernel)
set_option maxRecDepth 100000 in
theorem wd_478 : Cond.code yE_clashingBounds bE_clashingBounds 3 (some .int) ∈ gtb := gtb_in (i := 478) rfl (by decide +kernel)
theorem wd_493 : Cond.constantLong RF 130 (10) ∈ gtb := gtb_in (i := 493) (by decide +kernel) (by decide +kernel)
theorem wd_494 : Cond.methodLink RF 136 yF_partOf ∈ gtb := gtb_in (i := 494) (by decide +kernel) (by decide +kernel)
theorem wd_495 : Cond.static yF_partOf ∈ gtb := gtb_in (i := 495) (by decide +kernel) (by decide +kernel)
set_option maxRecDepth 100000 in
theorem wd_496 : Cond.code yF_partOf bF_partOf 7 (some .long) ∈ gtb := gtb_in (i := 496) rfl (by decide +kernel)
theorem wd_512 : Cond.methodLink RF 142 yF_hasBound ∈ gtb := gtb_in (i := 512) (by decide +kernel) (by decide +kernel)
theorem nw_475 : Cond.methodLinkNest RF 120 yE_clashingBounds RF ∈ nwt := nwt_in (i := 475) (by decide +kernel) rfl
theorem nw_471 : Cond.methodLinkNest RF 117 yE_canKeepBounds RF ∈ nwt := nwt_in (i := 471) (by decide +kernel) rfl
theorem nw_463 : Cond.methodLinkNest RF 113 yE_tightBounds RF ∈ nwt := nwt_in (i := 463) (by decide +kernel) rfl
theorem nw_330 : Cond.methodLinkNest RF 109 yE_findBest RF ∈ nwt := nwt_in (i := 330) (by decide +kernel) rfl
theorem nw_189 : Cond.fieldLinkNest RF 132 "FeedMixes$Mix" "under" "J" RF ∈ nwt := nwt_in (i := 189) (by decide +kernel) rfl
theorem nw_185 : Cond.fieldLinkNest RF 140 "FeedMixes$Mix" "price" "J" RF ∈ nwt := nwt_in (i := 185) (by decide +kernel) rfl
theorem nw_181 : Cond.fieldLinkNest RF 126 "FeedMixes$Mix" "amount" "[J" RF ∈ nwt := nwt_in (i := 181) (by decide +kernel) rfl
theorem nw_103 : Cond.fieldLinkNest RF 100 "FeedMixes$Told" "mostNeed" "[I" RF ∈ nwt := nwt_in (i := 103) (by decide +kernel) rfl
theorem nw_100 : Cond.fieldLinkNest RF 97 "FeedMixes$Told" "leastNeed" "[I" RF ∈ nwt := nwt_in (i := 100) (by decide +kernel) rfl
theorem nw_98 : Cond.fieldLinkNest RF 90 "FeedMixes$Told" "points" "[[I" RF ∈ nwt := nwt_in (i := 98) (by decide +kernel) rfl
theorem nw_94 : Cond.fieldLinkNest RF 106 "FeedMixes$Told" "silo" "[I" RF ∈ nwt := nwt_in (i := 94) (by decide +kernel) rfl
theorem nw_90 : Cond.fieldLinkNest RF 77 "FeedMixes$Told" "mostShare" "[I" RF ∈ nwt := nwt_in (i := 90) (by decide +kernel) rfl
theorem nw_87 : Cond.fieldLinkNest RF 103 "FeedMixes$Told" "leastShare" "[I" RF ∈ nwt := nwt_in (i := 87) (by decide +kernel) rfl
theorem nw_84 : Cond.fieldLinkNest RF 74 "FeedMixes$Told" "stock" "[I" RF ∈ nwt := nwt_in (i := 84) (by decide +kernel) rfl
theorem nw_81 : Cond.fieldLinkNest RF 70 "FeedMixes$Told" "price" "[I" RF ∈ nwt := nwt_in (i := 81) (by decide +kernel) rfl
theorem nw_77 : Cond.fieldLinkNest RF 60 "FeedMixes$Told" "stuffs" "I" RF ∈ nwt := nwt_in (i := 77) (by decide +kernel) rfl
abbrev tysF (cI cJ cG : ClassId) : List (ClassId × FieldType) := [(cI, .int), (cJ, .long), (cG, .array .int)]
def wsF (ad : Nat → Nat) (cI cJ cG : ClassId) (I : Nat → Nat → Int32) (J : Nat → Nat → Int64) : va_W :=
  [(ad 0, .inr (4, [.int (I 0 0), .ref (ad 1), .ref (ad 2), .ref (ad 3), .ref (ad 4), .ref (ad 5), .ref (ad 6), .ref (ad 10), .ref (ad 11)])),
   (ad 1, .inl (cI, 4, .inl (I 1))),
   (ad 2, .inl (cI, 4, .inl (I 2))),
   (ad 3, .inl (cI, 4, .inl (I 3))),
   (ad 4, .inl (cI, 4, .inl (I 4))),
   (ad 5, .inl (cI, 4, .inl (I 5))),
   (ad 6, .inl (cG, 3, .inr (.inr (.inr (.inr (fun i => [ad 7, ad 8, ad 9][i]?)))))),
   (ad 7, .inl (cI, 4, .inl (I 7))),
   (ad 8, .inl (cI, 4, .inl (I 8))),
   (ad 9, .inl (cI, 4, .inl (I 9))),
   (ad 10, .inl (cI, 3, .inl (I 10))),
   (ad 11, .inl (cI, 3, .inl (I 11))),
   (ad 12, .inr (1, [.ref (ad 0), .int (I 12 1), .int (I 12 2), .int (I 12 3), .ref (ad 13), .ref (ad 14), .ref (ad 15)])),
   (ad 13, .inl (cI, 7, .inl (I 13))),
   (ad 14, .inl (cI, 7, .inl (I 14))),
   (ad 15, .inl (cG, 3, .inr (.inr (.inr (.inr (fun i => [ad 16, ad 17, ad 18][i]?)))))),
   (ad 16, .inl (cI, 4, .inl (I 16))),
   (ad 17, .inl (cI, 4, .inl (I 17))),
   (ad 18, .inl (cI, 4, .inl (I 18))),
   (ad 19, .inr (0, [.ref (ad 0), .ref (ad 12), .ref (ad 20), .ref (ad 21), .ref (ad 29), .ref (ad 30), .int (I 19 6), .int (I 19 7), .ref (ad 31), .ref (ad 32)])),
   (ad 20, .inl (cI, 7, .inl (I 20))),
   (ad 21, .inl (cG, 7, .inr (.inr (.inr (.inr (fun i => [ad 22, ad 23, ad 24, ad 25, ad 26, ad 27, ad 28][i]?)))))),
   (ad 22, .inl (cI, 3, .inl (I 22))),
   (ad 23, .inl (cI, 3, .inl (I 23))),
   (ad 24, .inl (cI, 3, .inl (I 24))),
   (ad 25, .inl (cI, 3, .inl (I 25))),
   (ad 26, .inl (cI, 3, .inl (I 26))),
   (ad 27, .inl (cI, 3, .inl (I 27))),
   (ad 28, .inl (cI, 3, .inl (I 28))),
   (ad 29, .inl (cI, 14, .inl (I 29))),
   (ad 30, .inl (cI, 14, .inl (I 30))),
   (ad 31, .inl (cJ, 3, .inr (.inl (J 31)))),
   (ad 32, .inr (2, [.ref (ad 33), .long (J 32 1), .long (J 32 2)])),
   (ad 33, .inl (cJ, 4, .inr (.inl (J 33)))),
   (ad 34, .inr (3, [.ref (ad 0), .ref (ad 12), .ref (ad 19)])),
   (ad 35, .inr (2, [.ref (ad 36), .long (J 35 1), .long (J 35 2)])),
   (ad 36, .inl (cJ, 4, .inr (.inl (J 36)))),
   (ad 37, .inr (2, [.ref (ad 38), .long (J 37 1), .long (J 37 2)])),
   (ad 38, .inl (cJ, 4, .inr (.inl (J 38)))),
   (ad 39, .inr (2, [.ref (ad 40), .long (J 39 1), .long (J 39 2)])),
   (ad 40, .inl (cJ, 4, .inr (.inl (J 40)))),
   (ad 41, .inr (5, [.ref (ad 0), .ref (ad 34), .int (I 41 2), .int (I 41 3), .int (I 41 4), .int (I 41 5), .int (I 41 6), .ref (ad 35), .ref (ad 37), .ref (ad 39), .int (I 41 10), .int (I 41 11)]))]
theorem rowF_6 {ad : Nat → Nat} {cI cJ cG : ClassId} {I : Nat → Nat → Int32} {J : Nat → Nat → Int64} {j : Nat} (h : j < 3) : (wsF ad cI cJ cG I J)[7 + j]? = some (ad (7 + j), .inl (cI, 4, .inl (I (7 + j)))) := by
  match j, h with
  | 0, _ => rfl
  | 1, _ => rfl
  | 2, _ => rfl
theorem outF_6 {ad : Nat → Nat} {j : Nat} (h : j < 3) : [ad 7, ad 8, ad 9][j]? = some (ad (7 + j)) := by
  match j, h with
  | 0, _ => rfl
  | 1, _ => rfl
  | 2, _ => rfl
theorem rsetF_6 {ad : Nat → Nat} {cI cJ cG : ClassId} {I : Nat → Nat → Int32} {J : Nat → Nat → Int64} {j : Nat} {f : Nat → Int32} (h : j < 3) : (wsF ad cI cJ cG I J).set (7 + j) (ad (7 + j), .inl (cI, 4, .inl f)) = (wsF ad cI cJ cG (va_up I (7 + j) f) J) := by
  match j, h with
  | 0, _ => rfl
  | 1, _ => rfl
  | 2, _ => rfl
theorem rowF_15 {ad : Nat → Nat} {cI cJ cG : ClassId} {I : Nat → Nat → Int32} {J : Nat → Nat → Int64} {j : Nat} (h : j < 3) : (wsF ad cI cJ cG I J)[16 + j]? = some (ad (16 + j), .inl (cI, 4, .inl (I (16 + j)))) := by
  match j, h with
  | 0, _ => rfl
  | 1, _ => rfl
  | 2, _ => rfl
theorem outF_15 {ad : Nat → Nat} {j : Nat} (h : j < 3) : [ad 16, ad 17, ad 18][j]? = some (ad (16 + j)) := by
  match j, h with
  | 0, _ => rfl
  | 1, _ => rfl
  | 2, _ => rfl
theorem rsetF_15 {ad : Nat → Nat} {cI cJ cG : ClassId} {I : Nat → Nat → Int32} {J : Nat → Nat → Int64} {j : Nat} {f : Nat → Int32} (h : j < 3) : (wsF ad cI cJ cG I J).set (16 + j) (ad (16 + j), .inl (cI, 4, .inl f)) = (wsF ad cI cJ cG (va_up I (16 + j) f) J) := by
  match j, h with
  | 0, _ => rfl
  | 1, _ => rfl
  | 2, _ => rfl
theorem rowF_21 {ad : Nat → Nat} {cI cJ cG : ClassId} {I : Nat → Nat → Int32} {J : Nat → Nat → Int64} {j : Nat} (h : j < 7) : (wsF ad cI cJ cG I J)[22 + j]? = some (ad (22 + j), .inl (cI, 3, .inl (I (22 + j)))) := by
  match j, h with
  | 0, _ => rfl
  | 1, _ => rfl
  | 2, _ => rfl
  | 3, _ => rfl
  | 4, _ => rfl
  | 5, _ => rfl
  | 6, _ => rfl
theorem outF_21 {ad : Nat → Nat} {j : Nat} (h : j < 7) : [ad 22, ad 23, ad 24, ad 25, ad 26, ad 27, ad 28][j]? = some (ad (22 + j)) := by
  match j, h with
  | 0, _ => rfl
  | 1, _ => rfl
  | 2, _ => rfl
  | 3, _ => rfl
  | 4, _ => rfl
  | 5, _ => rfl
  | 6, _ => rfl
theorem rsetF_21 {ad : Nat → Nat} {cI cJ cG : ClassId} {I : Nat → Nat → Int32} {J : Nat → Nat → Int64} {j : Nat} {f : Nat → Int32} (h : j < 7) : (wsF ad cI cJ cG I J).set (22 + j) (ad (22 + j), .inl (cI, 3, .inl f)) = (wsF ad cI cJ cG (va_up I (22 + j) f) J) := by
  match j, h with
  | 0, _ => rfl
  | 1, _ => rfl
  | 2, _ => rfl
  | 3, _ => rfl
  | 4, _ => rfl
  | 5, _ => rfl
  | 6, _ => rfl
/-! Calls from the whole object's world into its mixer's: one mix of three is the best one there. -/
/-- places of the mixer's world in the object's: the best mix at b -/
def rho (b : Nat) (k : Nat) : Nat := if k < 35 then k else k - 35 + b
def mrg {α : Type} (b : Nat) (f g : Nat → α) : Nat → α := fun k => if k < 35 then g k else if k = b then g 35 else if k = b + 1 then g 36 else f k
abbrev sI (b : Nat) (I : SI) : SI := fun k => I (rho b k)
abbrev sJ (b : Nat) (J : SJ) : SJ := fun k => J (rho b k)
section PSX
variable {p : Program} {l : Launch} {e : Env} {R : Room} {s : State} {m : MethodId} {args : Array Value} {below : List Frame} {meth : Method} {c : Code} {H : Heap} {locs : List Loc} {Q : State → Prop}
variable {pc : Nat} {ls : Array Slot} {rest st0 : List Value} {a : Array Value} {A : Nat → Prop} {D : va_G} {cl : List vw_C} {tys : List (ClassId × FieldType)} {wf : SI → SJ → va_W} {I1 : SI} {J1 : SJ} {ws wc wr : va_W}
theorem pstX_i {r1 : Int32} (hP : va_P D cl ws H) (hD : va_D A ws) (hS : va_S A s.heap H locs) (hA : ∀ q, s.heap.size ≤ q → A q) (isC isR : List Nat) (hC : isC.map (fun i => ws[i]?) = wc.map some) (hR : isR.map (fun i => ws[i]?) = wr.map some) (hn : va_nd isR = true) (hdis : ∀ i ∈ isR, i ∉ isC)
    (hr : va_Run p l e R s m args below meth c H locs 0 0 0 0 (F0 m pc ls st0) rest (va_Qi (fun (r : Int32) (u : SI × SJ) => (r, u) = (r1, I1, J1)) (atW D cl tys (va_A wc H.size) wf) (va_A wc H.size) a) (va_A wc H.size))
    (kk : ∀ (H1 : Heap) (locs1 : List Loc), va_P D cl (wr ++ wf I1 J1) H1 → va_D A (wr ++ wf I1 J1) → va_S A s.heap H1 locs1 → W p l e R s m args below meth c H1 locs1 0 0 Q (F0 m (pc + 3) ls (.int r1 :: rest))) : W p l e R s m args below meth c H locs 0 0 Q (F0 m pc ls st0) :=
  va_calli hr hS (fun q _ h => va_free hD hS hA isC hC q h) (va_free hD hS hA isC hC) (fun r u t H1 locs1 ht hvm hw hB hz hk hS1 => by
    cases hw
    obtain ⟨hP1, hK1, hD1⟩ := hB
    rw [ht] at hP1
    obtain ⟨hP2, hD2⟩ := va_join hP hD isC isR hC hR hn hdis hk (va_free hD hS hA isC hC) hP1 hD1
    exact kk H1 locs1 hP2 hD2 hS1)
end PSX
