def b_JL_compare_0 (x0 : Int64) (x2 : Int64) : Option (Int32) :=
  nm (lg_cmp x0 x2) fun v1 =>
  if 0 ≤ v1 then
    nm (lg_cmp x0 x2) fun v3 =>
    if v3 = 0 then
      some (0)
    else
      some (1)
  else
    some (-1)
def m_JL_compare (x0 : Int64) (x2 : Int64) : Option (Int32) := b_JL_compare_0 x0 x2
def rm_JL_compare : Room := { frames := 0, cells := 0, slots := 0, locals := 0 }
set_option maxHeartbeats 4000000 in
set_option maxRecDepth 100000 in
theorem w_JL_compare_0 {p : Program} {l : Launch} {e : Env} {s : State} {m : MethodId} {args : Array Value} {below : List Frame} {meth : Method} {c : Code} {res : Int32} (X : Cx p s m args meth c bJL_compare (some .int) 4 RJL)
     (x0 : Int64) (x2 : Int64) (hm : b_JL_compare_0  x0 x2 = some res) : WZ p l e (headSpec (Cond.code yJL_compare bJL_compare 4 (some .int) :: gtb) rm_JL_compare).room s m args below meth c (MQ below (va_Qi (fun (r : Int32) (_ : Unit) => r = res) (fun _ _ => True) (fun _ => False)) args s 0 0 (fun _ => False)) 4 0 [(0, .long x0), (2, .long x2)] [] := by
  obtain ⟨hx, hb, hr, hml, hown, hT, hlk⟩ := X
  intro H locs ls hS hl
  unfold b_JL_compare_0 at hm
  refine lv_lload_n hx hb dJL_compare_0 rfl (lv_at hl 0 rfl) ?_
  refine lv_lload_n hx hb dJL_compare_1 rfl (lv_at hl 1 rfl) ?_
  refine W.lcmp hx hb dJL_compare_2 ?_
  refine lv_topi (fun v1 ev1 => ?_)
  have hm := nm_to ev1 hm
  refine lv_if_ge (tgt := 10) hx hb dJL_compare_3 (by decide) (fun c2 => ?_) (fun c2 => ?_)
  · have hm := brp hm c2
    refine lv_lload_n hx hb dJL_compare_10 rfl (lv_at hl 0 rfl) ?_
    refine lv_lload_n hx hb dJL_compare_11 rfl (lv_at hl 1 rfl) ?_
    refine W.lcmp hx hb dJL_compare_12 ?_
    refine lv_topi (fun v3 ev3 => ?_)
    have hm := nm_to ev3 hm
    refine lv_if_ne (tgt := 20) hx hb dJL_compare_13 (by decide) (fun c4 => ?_) (fun c4 => ?_)
    · have hm := brn hm c4
      refine lv_iconst (v := 1) hx hb dJL_compare_20 (by decide) ?_
      exact W.iret hx hb hr (fun t ht hW => ⟨⟨1, (), rfl, Option.some.inj hm, trivial⟩, hS.F ht⟩) hS.2.2 dJL_compare_21 hlk
    · have hm := brp hm c4
      refine lv_iconst (v := 0) hx hb dJL_compare_16 (by decide) ?_
      refine lv_goto (tgt := 21) hx hb dJL_compare_17 (by decide) ?_
      exact W.iret hx hb hr (fun t ht hW => ⟨⟨0, (), rfl, Option.some.inj hm, trivial⟩, hS.F ht⟩) hS.2.2 dJL_compare_21 hlk
  · have hm := brn hm c2
    refine lv_iconst (v := (-1)) hx hb dJL_compare_6 (by decide) ?_
    refine lv_goto (tgt := 21) hx hb dJL_compare_7 (by decide) ?_
    exact W.iret hx hb hr (fun t ht hW => ⟨⟨-1, (), rfl, Option.some.inj hm, trivial⟩, hS.F ht⟩) hS.2.2 dJL_compare_21 hlk
set_option maxHeartbeats 4000000 in
set_option maxRecDepth 100000 in
theorem c_JL_compare (l : Launch) (x0 : Int64) (x2 : Int64) (res : Int32) (hm : m_JL_compare x0 x2 = some res) : Met l yJL_compare (Cond.code yJL_compare bJL_compare 4 (some .int) :: gtb) rm_JL_compare (va_Pc [.long x0, .long x2] (fun _ => True)) (va_Qi (fun (r : Int32) (_ : Unit) => r = res) (fun _ _ => True) (fun _ => False)) 0 0 (fun _ => False) := by
  refine Met.ofW (cc := bJL_compare) (maxL := 4) (ret := (some .int)) (by decide) rfl ?_
  intro p e s m args below meth c s₁ B hml hv
  obtain ⟨rfl, -⟩ := hv
  have X : Cx p s m [.long x0, .long x2].toArray meth c bJL_compare (some .int) 4 RJL := ⟨B.exec, B.bytes, B.returns, hml, findClass_of_methodNamed B.named, fun w h => atoms_spec (ws := (Cond.code yJL_compare bJL_compare 4 (some .int) :: gtb)) B.pre w (List.mem_cons_of_mem _ h), B.notSynchronized⟩
  have hl := lv_entry ([.long x0, .long x2]) (n := 4) (Nat.le_of_ble_eq_true rfl)
  rw [lg_entry_eq]
  generalize (lg_sl ([.long x0, .long x2]) ++ List.replicate (4 - (lg_sl ([.long x0, .long x2])).length) Slot.unset).toArray = ls at hl ⊢
  have hl : lv_has ls 4 [(0, .long x0), (2, .long x2)] := hl
  exact w_JL_compare_0 X  x0 x2 hm _ _ _ va_S.rf hl
def b_F_isWithin_0 (x0 : Int32) (x1 : Int32) (x2 : Int32) : Option (Int32) :=
  if x0 < x1 then
    some (0)
  else
    if x2 < x0 then
      some (0)
    else
      some (1)
def m_F_isWithin (x0 : Int32) (x1 : Int32) (x2 : Int32) : Option (Int32) := b_F_isWithin_0 x0 x1 x2
def rm_F_isWithin : Room := { frames := 0, cells := 0, slots := 0, locals := 0 }
set_option maxHeartbeats 4000000 in
set_option maxRecDepth 100000 in
theorem w_F_isWithin_0 {p : Program} {l : Launch} {e : Env} {s : State} {m : MethodId} {args : Array Value} {below : List Frame} {meth : Method} {c : Code} {res : Int32} (X : Cx p s m args meth c bF_isWithin (some .boolean) 3 RF)
     (x0 : Int32) (x1 : Int32) (x2 : Int32) (hm : b_F_isWithin_0  x0 x1 x2 = some res) : WZ p l e (headSpec (Cond.code yF_isWithin bF_isWithin 3 (some .boolean) :: gtb) rm_F_isWithin).room s m args below meth c (MQ below (va_Qi (fun (r : Int32) (_ : Unit) => r = res) (fun _ _ => True) (fun _ => False)) args s 0 0 (fun _ => False)) 3 0 [(0, .int x0), (1, .int x1), (2, .int x2)] [] := by
  obtain ⟨hx, hb, hr, hml, hown, hT, hlk⟩ := X
  intro H locs ls hS hl
  unfold b_F_isWithin_0 at hm
  refine lv_iload_n hx hb dF_isWithin_0 rfl (lv_at hl 0 rfl) ?_
  refine lv_iload_n hx hb dF_isWithin_1 rfl (lv_at hl 1 rfl) ?_
  refine lv_icmp_lt (tgt := 14) hx hb dF_isWithin_2 (by decide) (fun c1 => ?_) (fun c1 => ?_)
  · have hm := brp hm c1
    refine lv_iconst (v := 0) hx hb dF_isWithin_14 (by decide) ?_
    exact W.zret hx hb hr rfl (fun t ht hW => ⟨⟨0, (), rfl, Option.some.inj hm, trivial⟩, hS.F ht⟩) hS.2.2 dF_isWithin_15 hlk
  · have hm := brn hm c1
    refine lv_iload_n hx hb dF_isWithin_5 rfl (lv_at hl 0 rfl) ?_
    refine lv_iload_n hx hb dF_isWithin_6 rfl (lv_at hl 2 rfl) ?_
    refine lv_icmp_gt (tgt := 14) hx hb dF_isWithin_7 (by decide) (fun c2 => ?_) (fun c2 => ?_)
    · have hm := brp hm c2
      refine lv_iconst (v := 0) hx hb dF_isWithin_14 (by decide) ?_
      exact W.zret hx hb hr rfl (fun t ht hW => ⟨⟨0, (), rfl, Option.some.inj hm, trivial⟩, hS.F ht⟩) hS.2.2 dF_isWithin_15 hlk
    · have hm := brn hm c2
      refine lv_iconst (v := 1) hx hb dF_isWithin_10 (by decide) ?_
      refine lv_goto (tgt := 15) hx hb dF_isWithin_11 (by decide) ?_
      exact W.zret hx hb hr rfl (fun t ht hW => ⟨⟨1, (), rfl, Option.some.inj hm, trivial⟩, hS.F ht⟩) hS.2.2 dF_isWithin_15 hlk
set_option maxHeartbeats 4000000 in
set_option maxRecDepth 100000 in
theorem c_F_isWithin (l : Launch) (x0 : Int32) (x1 : Int32) (x2 : Int32) (res : Int32) (hm : m_F_isWithin x0 x1 x2 = some res) : Met l yF_isWithin (Cond.code yF_isWithin bF_isWithin 3 (some .boolean) :: gtb) rm_F_isWithin (va_Pc [.int x0, .int x1, .int x2] (fun _ => True)) (va_Qi (fun (r : Int32) (_ : Unit) => r = res) (fun _ _ => True) (fun _ => False)) 0 0 (fun _ => False) := by
  refine Met.ofW (cc := bF_isWithin) (maxL := 3) (ret := (some .boolean)) (by decide) rfl ?_
  intro p e s m args below meth c s₁ B hml hv
  obtain ⟨rfl, -⟩ := hv
  have X : Cx p s m [.int x0, .int x1, .int x2].toArray meth c bF_isWithin (some .boolean) 3 RF := ⟨B.exec, B.bytes, B.returns, hml, findClass_of_methodNamed B.named, fun w h => atoms_spec (ws := (Cond.code yF_isWithin bF_isWithin 3 (some .boolean) :: gtb)) B.pre w (List.mem_cons_of_mem _ h), B.notSynchronized⟩
  have hl := lv_entry ([.int x0, .int x1, .int x2]) (n := 3) (Nat.le_of_ble_eq_true rfl)
  rw [lg_entry_eq]
  generalize (lg_sl ([.int x0, .int x1, .int x2]) ++ List.replicate (3 - (lg_sl ([.int x0, .int x1, .int x2])).length) Slot.unset).toArray = ls at hl ⊢
  have hl : lv_has ls 3 [(0, .int x0), (1, .int x1), (2, .int x2)] := hl
  exact w_F_isWithin_0 X  x0 x1 x2 hm _ _ _ va_S.rf hl
def b_F_isNutrient_0 (x0 : Int32) : Option (Int32) :=
  cl1 (m_F_isWithin x0 0 2) fun r1 =>
  gd (narrow .boolean (.int r1) = .int r1) <|
  some (r1)
def m_F_isNutrient (x0 : Int32) : Option (Int32) := b_F_isNutrient_0 x0
def rm_F_isNutrient : Room := { frames := 1, cells := 0, slots := 0, locals := 22 }
set_option maxHeartbeats 4000000 in
set_option maxRecDepth 100000 in
theorem w_F_isNutrient_0 {p : Program} {l : Launch} {e : Env} {s : State} {m : MethodId} {args : Array Value} {below : List Frame} {meth : Method} {c : Code} {res : Int32} (X : Cx p s m args meth c bF_isNutrient (some .boolean) 1 RF)
     (x0 : Int32) (hm : b_F_isNutrient_0  x0 = some res) : WZ p l e (headSpec (Cond.code yF_isNutrient bF_isNutrient 1 (some .boolean) :: gtb) rm_F_isNutrient).room s m args below meth c (MQ below (va_Qi (fun (r : Int32) (_ : Unit) => r = res) (fun _ _ => True) (fun _ => False)) args s 0 0 (fun _ => False)) 1 0 [(0, .int x0)] [] := by
  obtain ⟨hx, hb, hr, hml, hown, hT, hlk⟩ := X
  intro H locs ls hS hl
  unfold b_F_isNutrient_0 at hm
  refine lv_iload_n hx hb dF_isNutrient_0 rfl (lv_at hl 0 rfl) ?_
  refine lv_iconst (v := 0) hx hb dF_isNutrient_1 (by decide) ?_
  refine lv_iconst (v := 2) hx hb dF_isNutrient_2 (by decide) ?_
  obtain ⟨r1, hc2, hm⟩ := cl1_to hm
  refine pstZ_i hS (va_runS (As := [.int x0, .int 0, .int 2]) (rest := []) ⟨hx, hb, hml, hown, hT⟩ (c_F_isWithin l x0 0 2 _ hc2) (va_cwS 3 hT (gS wd_286 wd_287 wd_51 wd_288) rfl rfl rfl (by decide +kernel) ⟨Nat.le_of_ble_eq_true rfl, Nat.le_of_ble_eq_true rfl⟩) ⟨preZ_fb, preZ_at⟩ rfl rfl hl.1 rfl (lv_room (Nat.le_of_ble_eq_true rfl)) dF_isNutrient_3 ⟨Nat.zero_le _, Nat.zero_le _⟩) (fun H1 locs hq hS => ?_)
  obtain ⟨g3, hm⟩ := gd_to hm
  exact W.zret hx hb hr g3 (fun t ht hW => ⟨⟨r1, (), rfl, Option.some.inj hm, trivial⟩, hS.F ht⟩) hS.2.2 dF_isNutrient_6 hlk
set_option maxHeartbeats 4000000 in
set_option maxRecDepth 100000 in
theorem c_F_isNutrient (l : Launch) (x0 : Int32) (res : Int32) (hm : m_F_isNutrient x0 = some res) : Met l yF_isNutrient (Cond.code yF_isNutrient bF_isNutrient 1 (some .boolean) :: gtb) rm_F_isNutrient (va_Pc [.int x0] (fun _ => True)) (va_Qi (fun (r : Int32) (_ : Unit) => r = res) (fun _ _ => True) (fun _ => False)) 0 0 (fun _ => False) := by
  refine Met.ofW (cc := bF_isNutrient) (maxL := 1) (ret := (some .boolean)) (by decide) rfl ?_
  intro p e s m args below meth c s₁ B hml hv
  obtain ⟨rfl, -⟩ := hv
  have X : Cx p s m [.int x0].toArray meth c bF_isNutrient (some .boolean) 1 RF := ⟨B.exec, B.bytes, B.returns, hml, findClass_of_methodNamed B.named, fun w h => atoms_spec (ws := (Cond.code yF_isNutrient bF_isNutrient 1 (some .boolean) :: gtb)) B.pre w (List.mem_cons_of_mem _ h), B.notSynchronized⟩
  have hl := lv_entry ([.int x0]) (n := 1) (Nat.le_of_ble_eq_true rfl)
  rw [lg_entry_eq]
  generalize (lg_sl ([.int x0]) ++ List.replicate (1 - (lg_sl ([.int x0])).length) Slot.unset).toArray = ls at hl ⊢
  have hl : lv_has ls 1 [(0, .int x0)] := hl
  exact w_F_isNutrient_0 X  x0 hm _ _ _ va_S.rf hl
def b_F_isPrice_0 (x0 : Int32) : Option (Int32) :=
  cl1 (m_F_isWithin x0 0 1000) fun r1 =>
  gd (narrow .boolean (.int r1) = .int r1) <|
  some (r1)
def m_F_isPrice (x0 : Int32) : Option (Int32) := b_F_isPrice_0 x0
def rm_F_isPrice : Room := { frames := 1, cells := 0, slots := 0, locals := 22 }
set_option maxHeartbeats 4000000 in
set_option maxRecDepth 100000 in
theorem w_F_isPrice_0 {p : Program} {l : Launch} {e : Env} {s : State} {m : MethodId} {args : Array Value} {below : List Frame} {meth : Method} {c : Code} {res : Int32} (X : Cx p s m args meth c bF_isPrice (some .boolean) 1 RF)
     (x0 : Int32) (hm : b_F_isPrice_0  x0 = some res) : WZ p l e (headSpec (Cond.code yF_isPrice bF_isPrice 1 (some .boolean) :: gtb) rm_F_isPrice).room s m args below meth c (MQ below (va_Qi (fun (r : Int32) (_ : Unit) => r = res) (fun _ _ => True) (fun _ => False)) args s 0 0 (fun _ => False)) 1 0 [(0, .int x0)] [] := by
  obtain ⟨hx, hb, hr, hml, hown, hT, hlk⟩ := X
  intro H locs ls hS hl
  unfold b_F_isPrice_0 at hm
  refine lv_iload_n hx hb dF_isPrice_0 rfl (lv_at hl 0 rfl) ?_
  refine lv_iconst (v := 0) hx hb dF_isPrice_1 (by decide) ?_
  refine lv_sipush (v := 1000) hx hb dF_isPrice_2 (by decide) ?_
  obtain ⟨r1, hc2, hm⟩ := cl1_to hm
  refine pstZ_i hS (va_runS (As := [.int x0, .int 0, .int 1000]) (rest := []) ⟨hx, hb, hml, hown, hT⟩ (c_F_isWithin l x0 0 1000 _ hc2) (va_cwS 3 hT (gS wd_286 wd_287 wd_51 wd_288) rfl rfl rfl (by decide +kernel) ⟨Nat.le_of_ble_eq_true rfl, Nat.le_of_ble_eq_true rfl⟩) ⟨preZ_fb, preZ_at⟩ rfl rfl hl.1 rfl (lv_room (Nat.le_of_ble_eq_true rfl)) dF_isPrice_5 ⟨Nat.zero_le _, Nat.zero_le _⟩) (fun H1 locs hq hS => ?_)
  obtain ⟨g3, hm⟩ := gd_to hm
  exact W.zret hx hb hr g3 (fun t ht hW => ⟨⟨r1, (), rfl, Option.some.inj hm, trivial⟩, hS.F ht⟩) hS.2.2 dF_isPrice_8 hlk
set_option maxHeartbeats 4000000 in
set_option maxRecDepth 100000 in
theorem c_F_isPrice (l : Launch) (x0 : Int32) (res : Int32) (hm : m_F_isPrice x0 = some res) : Met l yF_isPrice (Cond.code yF_isPrice bF_isPrice 1 (some .boolean) :: gtb) rm_F_isPrice (va_Pc [.int x0] (fun _ => True)) (va_Qi (fun (r : Int32) (_ : Unit) => r = res) (fun _ _ => True) (fun _ => False)) 0 0 (fun _ => False) := by
  refine Met.ofW (cc := bF_isPrice) (maxL := 1) (ret := (some .boolean)) (by decide) rfl ?_
  intro p e s m args below meth c s₁ B hml hv
  obtain ⟨rfl, -⟩ := hv
  have X : Cx p s m [.int x0].toArray meth c bF_isPrice (some .boolean) 1 RF := ⟨B.exec, B.bytes, B.returns, hml, findClass_of_methodNamed B.named, fun w h => atoms_spec (ws := (Cond.code yF_isPrice bF_isPrice 1 (some .boolean) :: gtb)) B.pre w (List.mem_cons_of_mem _ h), B.notSynchronized⟩
  have hl := lv_entry ([.int x0]) (n := 1) (Nat.le_of_ble_eq_true rfl)
  rw [lg_entry_eq]
  generalize (lg_sl ([.int x0]) ++ List.replicate (1 - (lg_sl ([.int x0])).length) Slot.unset).toArray = ls at hl ⊢
  have hl : lv_has ls 1 [(0, .int x0)] := hl
  exact w_F_isPrice_0 X  x0 hm _ _ _ va_S.rf hl
def b_F_isStock_0 (x0 : Int32) : Option (Int32) :=
  cl1 (m_F_isWithin x0 0 40) fun r1 =>
  gd (narrow .boolean (.int r1) = .int r1) <|
  some (r1)
def m_F_isStock (x0 : Int32) : Option (Int32) := b_F_isStock_0 x0
def rm_F_isStock : Room := { frames := 1, cells := 0, slots := 0, locals := 22 }
set_option maxHeartbeats 4000000 in
set_option maxRecDepth 100000 in
theorem w_F_isStock_0 {p : Program} {l : Launch} {e : Env} {s : State} {m : MethodId} {args : Array Value} {below : List Frame} {meth : Method} {c : Code} {res : Int32} (X : Cx p s m args meth c bF_isStock (some .boolean) 1 RF)
     (x0 : Int32) (hm : b_F_isStock_0  x0 = some res) : WZ p l e (headSpec (Cond.code yF_isStock bF_isStock 1 (some .boolean) :: gtb) rm_F_isStock).room s m args below meth c (MQ below (va_Qi (fun (r : Int32) (_ : Unit) => r = res) (fun _ _ => True) (fun _ => False)) args s 0 0 (fun _ => False)) 1 0 [(0, .int x0)] [] := by
  obtain ⟨hx, hb, hr, hml, hown, hT, hlk⟩ := X
  intro H locs ls hS hl
  unfold b_F_isStock_0 at hm
  refine lv_iload_n hx hb dF_isStock_0 rfl (lv_at hl 0 rfl) ?_
  refine lv_iconst (v := 0) hx hb dF_isStock_1 (by decide) ?_
  refine lv_bipush (v := 40) hx hb dF_isStock_2 (by decide) ?_
  obtain ⟨r1, hc2, hm⟩ := cl1_to hm
  refine pstZ_i hS (va_runS (As := [.int x0, .int 0, .int 40]) (rest := []) ⟨hx, hb, hml, hown, hT⟩ (c_F_isWithin l x0 0 40 _ hc2) (va_cwS 3 hT (gS wd_286 wd_287 wd_51 wd_288) rfl rfl rfl (by decide +kernel) ⟨Nat.le_of_ble_eq_true rfl, Nat.le_of_ble_eq_true rfl⟩) ⟨preZ_fb, preZ_at⟩ rfl rfl hl.1 rfl (lv_room (Nat.le_of_ble_eq_true rfl)) dF_isStock_4 ⟨Nat.zero_le _, Nat.zero_le _⟩) (fun H1 locs hq hS => ?_)
  obtain ⟨g3, hm⟩ := gd_to hm
  exact W.zret hx hb hr g3 (fun t ht hW => ⟨⟨r1, (), rfl, Option.some.inj hm, trivial⟩, hS.F ht⟩) hS.2.2 dF_isStock_7 hlk
set_option maxHeartbeats 4000000 in
set_option maxRecDepth 100000 in
theorem c_F_isStock (l : Launch) (x0 : Int32) (res : Int32) (hm : m_F_isStock x0 = some res) : Met l yF_isStock (Cond.code yF_isStock bF_isStock 1 (some .boolean) :: gtb) rm_F_isStock (va_Pc [.int x0] (fun _ => True)) (va_Qi (fun (r : Int32) (_ : Unit) => r = res) (fun _ _ => True) (fun _ => False)) 0 0 (fun _ => False) := by
  refine Met.ofW (cc := bF_isStock) (maxL := 1) (ret := (some .boolean)) (by decide) rfl ?_
  intro p e s m args below meth c s₁ B hml hv
  obtain ⟨rfl, -⟩ := hv
  have X : Cx p s m [.int x0].toArray meth c bF_isStock (some .boolean) 1 RF := ⟨B.exec, B.bytes, B.returns, hml, findClass_of_methodNamed B.named, fun w h => atoms_spec (ws := (Cond.code yF_isStock bF_isStock 1 (some .boolean) :: gtb)) B.pre w (List.mem_cons_of_mem _ h), B.notSynchronized⟩
  have hl := lv_entry ([.int x0]) (n := 1) (Nat.le_of_ble_eq_true rfl)
  rw [lg_entry_eq]
  generalize (lg_sl ([.int x0]) ++ List.replicate (1 - (lg_sl ([.int x0])).length) Slot.unset).toArray = ls at hl ⊢
  have hl : lv_has ls 1 [(0, .int x0)] := hl
  exact w_F_isStock_0 X  x0 hm _ _ _ va_S.rf hl
def b_F_isRange_0 (x0 : Int32) (x1 : Int32) (x2 : Int32) : Option (Int32) :=
  if x0 < 0 then
    some (0)
  else
    if x1 < x0 then
      some (0)
    else
      if x2 < x1 then
        some (0)
      else
        some (1)
def m_F_isRange (x0 : Int32) (x1 : Int32) (x2 : Int32) : Option (Int32) := b_F_isRange_0 x0 x1 x2
def rm_F_isRange : Room := { frames := 0, cells := 0, slots := 0, locals := 0 }
set_option maxHeartbeats 4000000 in
set_option maxRecDepth 100000 in
theorem w_F_isRange_0 {p : Program} {l : Launch} {e : Env} {s : State} {m : MethodId} {args : Array Value} {below : List Frame} {meth : Method} {c : Code} {res : Int32} (X : Cx p s m args meth c bF_isRange (some .boolean) 3 RF)
     (x0 : Int32) (x1 : Int32) (x2 : Int32) (hm : b_F_isRange_0  x0 x1 x2 = some res) : WZ p l e (headSpec (Cond.code yF_isRange bF_isRange 3 (some .boolean) :: gtb) rm_F_isRange).room s m args below meth c (MQ below (va_Qi (fun (r : Int32) (_ : Unit) => r = res) (fun _ _ => True) (fun _ => False)) args s 0 0 (fun _ => False)) 3 0 [(0, .int x0), (1, .int x1), (2, .int x2)] [] := by
  obtain ⟨hx, hb, hr, hml, hown, hT, hlk⟩ := X
  intro H locs ls hS hl
  unfold b_F_isRange_0 at hm
  refine lv_iload_n hx hb dF_isRange_0 rfl (lv_at hl 0 rfl) ?_
  refine lv_if_lt (tgt := 18) hx hb dF_isRange_1 (by decide) (fun c1 => ?_) (fun c1 => ?_)
  · have hm := brp hm c1
    refine lv_iconst (v := 0) hx hb dF_isRange_18 (by decide) ?_
    exact W.zret hx hb hr rfl (fun t ht hW => ⟨⟨0, (), rfl, Option.some.inj hm, trivial⟩, hS.F ht⟩) hS.2.2 dF_isRange_19 hlk
  · have hm := brn hm c1
    refine lv_iload_n hx hb dF_isRange_4 rfl (lv_at hl 0 rfl) ?_
    refine lv_iload_n hx hb dF_isRange_5 rfl (lv_at hl 1 rfl) ?_
    refine lv_icmp_gt (tgt := 18) hx hb dF_isRange_6 (by decide) (fun c2 => ?_) (fun c2 => ?_)
    · have hm := brp hm c2
      refine lv_iconst (v := 0) hx hb dF_isRange_18 (by decide) ?_
      exact W.zret hx hb hr rfl (fun t ht hW => ⟨⟨0, (), rfl, Option.some.inj hm, trivial⟩, hS.F ht⟩) hS.2.2 dF_isRange_19 hlk
    · have hm := brn hm c2
      refine lv_iload_n hx hb dF_isRange_9 rfl (lv_at hl 1 rfl) ?_
      refine lv_iload_n hx hb dF_isRange_10 rfl (lv_at hl 2 rfl) ?_
      refine lv_icmp_gt (tgt := 18) hx hb dF_isRange_11 (by decide) (fun c3 => ?_) (fun c3 => ?_)
      · have hm := brp hm c3
        refine lv_iconst (v := 0) hx hb dF_isRange_18 (by decide) ?_
        exact W.zret hx hb hr rfl (fun t ht hW => ⟨⟨0, (), rfl, Option.some.inj hm, trivial⟩, hS.F ht⟩) hS.2.2 dF_isRange_19 hlk
      · have hm := brn hm c3
        refine lv_iconst (v := 1) hx hb dF_isRange_14 (by decide) ?_
        refine lv_goto (tgt := 19) hx hb dF_isRange_15 (by decide) ?_
        exact W.zret hx hb hr rfl (fun t ht hW => ⟨⟨1, (), rfl, Option.some.inj hm, trivial⟩, hS.F ht⟩) hS.2.2 dF_isRange_19 hlk
set_option maxHeartbeats 4000000 in
set_option maxRecDepth 100000 in
theorem c_F_isRange (l : Launch) (x0 : Int32) (x1 : Int32) (x2 : Int32) (res : Int32) (hm : m_F_isRange x0 x1 x2 = some res) : Met l yF_isRange (Cond.code yF_isRange bF_isRange 3 (some .boolean) :: gtb) rm_F_isRange (va_Pc [.int x0, .int x1, .int x2] (fun _ => True)) (va_Qi (fun (r : Int32) (_ : Unit) => r = res) (fun _ _ => True) (fun _ => False)) 0 0 (fun _ => False) := by
  refine Met.ofW (cc := bF_isRange) (maxL := 3) (ret := (some .boolean)) (by decide) rfl ?_
  intro p e s m args below meth c s₁ B hml hv
  obtain ⟨rfl, -⟩ := hv
  have X : Cx p s m [.int x0, .int x1, .int x2].toArray meth c bF_isRange (some .boolean) 3 RF := ⟨B.exec, B.bytes, B.returns, hml, findClass_of_methodNamed B.named, fun w h => atoms_spec (ws := (Cond.code yF_isRange bF_isRange 3 (some .boolean) :: gtb)) B.pre w (List.mem_cons_of_mem _ h), B.notSynchronized⟩
  have hl := lv_entry ([.int x0, .int x1, .int x2]) (n := 3) (Nat.le_of_ble_eq_true rfl)
  rw [lg_entry_eq]
  generalize (lg_sl ([.int x0, .int x1, .int x2]) ++ List.replicate (3 - (lg_sl ([.int x0, .int x1, .int x2])).length) Slot.unset).toArray = ls at hl ⊢
  have hl : lv_has ls 3 [(0, .int x0), (1, .int x1), (2, .int x2)] := hl
  exact w_F_isRange_0 X  x0 x1 x2 hm _ _ _ va_S.rf hl
def b_F_hasBound_0 (x0 : Int32) (x1 : Int32) : Option (Int32) :=
  nm (x0 >>> (x1 &&& 31)) fun v1 =>
  nm (v1 &&& 1) fun v2 =>
  if v2 = 0 then
    some (0)
  else
    some (1)
def m_F_hasBound (x0 : Int32) (x1 : Int32) : Option (Int32) := b_F_hasBound_0 x0 x1
def rm_F_hasBound : Room := { frames := 0, cells := 0, slots := 0, locals := 0 }
set_option maxHeartbeats 4000000 in
set_option maxRecDepth 100000 in
theorem w_F_hasBound_0 {p : Program} {l : Launch} {e : Env} {s : State} {m : MethodId} {args : Array Value} {below : List Frame} {meth : Method} {c : Code} {res : Int32} (X : Cx p s m args meth c bF_hasBound (some .boolean) 2 RF)
     (x0 : Int32) (x1 : Int32) (hm : b_F_hasBound_0  x0 x1 = some res) : WZ p l e (headSpec (Cond.code yF_hasBound bF_hasBound 2 (some .boolean) :: gtb) rm_F_hasBound).room s m args below meth c (MQ below (va_Qi (fun (r : Int32) (_ : Unit) => r = res) (fun _ _ => True) (fun _ => False)) args s 0 0 (fun _ => False)) 2 0 [(0, .int x0), (1, .int x1)] [] := by
  obtain ⟨hx, hb, hr, hml, hown, hT, hlk⟩ := X
  intro H locs ls hS hl
  unfold b_F_hasBound_0 at hm
  refine lv_iload_n hx hb dF_hasBound_0 rfl (lv_at hl 0 rfl) ?_
  refine lv_iload_n hx hb dF_hasBound_1 rfl (lv_at hl 1 rfl) ?_
  refine lv_ishr hx hb dF_hasBound_2 ?_
  refine lv_topi (fun v1 ev1 => ?_)
  have hm := nm_to ev1 hm
  refine lv_iconst (v := 1) hx hb dF_hasBound_3 (by decide) ?_
  refine lv_iand hx hb dF_hasBound_4 ?_
  refine lv_topi (fun v2 ev2 => ?_)
  have hm := nm_to ev2 hm
  refine lv_if_eq (tgt := 12) hx hb dF_hasBound_5 (by decide) (fun c3 => ?_) (fun c3 => ?_)
  · have hm := brp hm c3
    refine lv_iconst (v := 0) hx hb dF_hasBound_12 (by decide) ?_
    exact W.zret hx hb hr rfl (fun t ht hW => ⟨⟨0, (), rfl, Option.some.inj hm, trivial⟩, hS.F ht⟩) hS.2.2 dF_hasBound_13 hlk
  · have hm := brn hm c3
    refine lv_iconst (v := 1) hx hb dF_hasBound_8 (by decide) ?_
    refine lv_goto (tgt := 13) hx hb dF_hasBound_9 (by decide) ?_
    exact W.zret hx hb hr rfl (fun t ht hW => ⟨⟨1, (), rfl, Option.some.inj hm, trivial⟩, hS.F ht⟩) hS.2.2 dF_hasBound_13 hlk
set_option maxHeartbeats 4000000 in
set_option maxRecDepth 100000 in
theorem c_F_hasBound (l : Launch) (x0 : Int32) (x1 : Int32) (res : Int32) (hm : m_F_hasBound x0 x1 = some res) : Met l yF_hasBound (Cond.code yF_hasBound bF_hasBound 2 (some .boolean) :: gtb) rm_F_hasBound (va_Pc [.int x0, .int x1] (fun _ => True)) (va_Qi (fun (r : Int32) (_ : Unit) => r = res) (fun _ _ => True) (fun _ => False)) 0 0 (fun _ => False) := by
  refine Met.ofW (cc := bF_hasBound) (maxL := 2) (ret := (some .boolean)) (by decide) rfl ?_
  intro p e s m args below meth c s₁ B hml hv
  obtain ⟨rfl, -⟩ := hv
  have X : Cx p s m [.int x0, .int x1].toArray meth c bF_hasBound (some .boolean) 2 RF := ⟨B.exec, B.bytes, B.returns, hml, findClass_of_methodNamed B.named, fun w h => atoms_spec (ws := (Cond.code yF_hasBound bF_hasBound 2 (some .boolean) :: gtb)) B.pre w (List.mem_cons_of_mem _ h), B.notSynchronized⟩
  have hl := lv_entry ([.int x0, .int x1]) (n := 2) (Nat.le_of_ble_eq_true rfl)
  rw [lg_entry_eq]
  generalize (lg_sl ([.int x0, .int x1]) ++ List.replicate (2 - (lg_sl ([.int x0, .int x1])).length) Slot.unset).toArray = ls at hl ⊢
  have hl : lv_has ls 2 [(0, .int x0), (1, .int x1)] := hl
  exact w_F_hasBound_0 X  x0 x1 hm _ _ _ va_S.rf hl
def b_F_rowOf_0 (x0 : Int32) : Option (Int32) :=
  if 12 ≤ x0 then
    nm (x0 - 12) fun v2 =>
    nm (v2 - v2 / 3 * 3) fun v3 =>
    nm (4 + v3) fun v4 =>
    some (v4)
  else
    nm (x0 - x0 / 4 * 4) fun v5 =>
    some (v5)
def m_F_rowOf (x0 : Int32) : Option (Int32) := b_F_rowOf_0 x0
def rm_F_rowOf : Room := { frames := 0, cells := 0, slots := 0, locals := 0 }
set_option maxHeartbeats 4000000 in
set_option maxRecDepth 100000 in
theorem w_F_rowOf_0 {p : Program} {l : Launch} {e : Env} {s : State} {m : MethodId} {args : Array Value} {below : List Frame} {meth : Method} {c : Code} {res : Int32} (X : Cx p s m args meth c bF_rowOf (some .int) 1 RF)
     (x0 : Int32) (hm : b_F_rowOf_0  x0 = some res) : WZ p l e (headSpec (Cond.code yF_rowOf bF_rowOf 1 (some .int) :: gtb) rm_F_rowOf).room s m args below meth c (MQ below (va_Qi (fun (r : Int32) (_ : Unit) => r = res) (fun _ _ => True) (fun _ => False)) args s 0 0 (fun _ => False)) 1 0 [(0, .int x0)] [] := by
  obtain ⟨hx, hb, hr, hml, hown, hT, hlk⟩ := X
  intro H locs ls hS hl
  unfold b_F_rowOf_0 at hm
  refine lv_iload_n hx hb dF_rowOf_0 rfl (lv_at hl 0 rfl) ?_
  refine lv_bipush (v := 12) hx hb dF_rowOf_1 (by decide) ?_
  refine lv_icmp_ge (tgt := 12) hx hb dF_rowOf_3 (by decide) (fun c1 => ?_) (fun c1 => ?_)
  · have hm := brp hm c1
    refine lv_iconst (v := 4) hx hb dF_rowOf_12 (by decide) ?_
    refine lv_iload_n hx hb dF_rowOf_13 rfl (lv_at hl 0 rfl) ?_
    refine lv_bipush (v := 12) hx hb dF_rowOf_14 (by decide) ?_
    refine lv_isub hx hb dF_rowOf_16 ?_
    refine lv_topi (fun v2 ev2 => ?_)
    have hm := nm_to ev2 hm
    refine lv_iconst (v := 3) hx hb dF_rowOf_17 (by decide) ?_
    refine lv_irem hx hb dF_rowOf_18 (by decide) ?_
    refine lv_topi (fun v3 ev3 => ?_)
    have hm := nm_to ev3 hm
    refine lv_iadd hx hb dF_rowOf_19 ?_
    refine lv_topi (fun v4 ev4 => ?_)
    have hm := nm_to ev4 hm
    exact W.iret hx hb hr (fun t ht hW => ⟨⟨v4, (), rfl, Option.some.inj hm, trivial⟩, hS.F ht⟩) hS.2.2 dF_rowOf_20 hlk
  · have hm := brn hm c1
    refine lv_iload_n hx hb dF_rowOf_6 rfl (lv_at hl 0 rfl) ?_
    refine lv_iconst (v := 4) hx hb dF_rowOf_7 (by decide) ?_
    refine lv_irem hx hb dF_rowOf_8 (by decide) ?_
    refine lv_topi (fun v5 ev5 => ?_)
    have hm := nm_to ev5 hm
    refine lv_goto (tgt := 20) hx hb dF_rowOf_9 (by decide) ?_
    exact W.iret hx hb hr (fun t ht hW => ⟨⟨v5, (), rfl, Option.some.inj hm, trivial⟩, hS.F ht⟩) hS.2.2 dF_rowOf_20 hlk
set_option maxHeartbeats 4000000 in
set_option maxRecDepth 100000 in
theorem c_F_rowOf (l : Launch) (x0 : Int32) (res : Int32) (hm : m_F_rowOf x0 = some res) : Met l yF_rowOf (Cond.code yF_rowOf bF_rowOf 1 (some .int) :: gtb) rm_F_rowOf (va_Pc [.int x0] (fun _ => True)) (va_Qi (fun (r : Int32) (_ : Unit) => r = res) (fun _ _ => True) (fun _ => False)) 0 0 (fun _ => False) := by
  refine Met.ofW (cc := bF_rowOf) (maxL := 1) (ret := (some .int)) (by decide) rfl ?_
  intro p e s m args below meth c s₁ B hml hv
  obtain ⟨rfl, -⟩ := hv
  have X : Cx p s m [.int x0].toArray meth c bF_rowOf (some .int) 1 RF := ⟨B.exec, B.bytes, B.returns, hml, findClass_of_methodNamed B.named, fun w h => atoms_spec (ws := (Cond.code yF_rowOf bF_rowOf 1 (some .int) :: gtb)) B.pre w (List.mem_cons_of_mem _ h), B.notSynchronized⟩
  have hl := lv_entry ([.int x0]) (n := 1) (Nat.le_of_ble_eq_true rfl)
  rw [lg_entry_eq]
  generalize (lg_sl ([.int x0]) ++ List.replicate (1 - (lg_sl ([.int x0])).length) Slot.unset).toArray = ls at hl ⊢
  have hl : lv_has ls 1 [(0, .int x0)] := hl
  exact w_F_rowOf_0 X  x0 hm _ _ _ va_S.rf hl
def b_F_isLeast_0 (x0 : Int32) : Option (Int32) :=
  cl1 (m_F_isWithin x0 4 7) fun r1 =>
  if r1 = 0 then
    cl1 (m_F_isWithin x0 12 14) fun r4 =>
    if r4 = 0 then
      some (0)
    else
      some (1)
  else
    some (1)
def m_F_isLeast (x0 : Int32) : Option (Int32) := b_F_isLeast_0 x0
def rm_F_isLeast : Room := { frames := 1, cells := 0, slots := 0, locals := 22 }
set_option maxHeartbeats 4000000 in
set_option maxRecDepth 100000 in
theorem w_F_isLeast_0 {p : Program} {l : Launch} {e : Env} {s : State} {m : MethodId} {args : Array Value} {below : List Frame} {meth : Method} {c : Code} {res : Int32} (X : Cx p s m args meth c bF_isLeast (some .boolean) 1 RF)
     (x0 : Int32) (hm : b_F_isLeast_0  x0 = some res) : WZ p l e (headSpec (Cond.code yF_isLeast bF_isLeast 1 (some .boolean) :: gtb) rm_F_isLeast).room s m args below meth c (MQ below (va_Qi (fun (r : Int32) (_ : Unit) => r = res) (fun _ _ => True) (fun _ => False)) args s 0 0 (fun _ => False)) 1 0 [(0, .int x0)] [] := by
  obtain ⟨hx, hb, hr, hml, hown, hT, hlk⟩ := X
  intro H locs ls hS hl
  unfold b_F_isLeast_0 at hm
  refine lv_iload_n hx hb dF_isLeast_0 rfl (lv_at hl 0 rfl) ?_
  refine lv_iconst (v := 4) hx hb dF_isLeast_1 (by decide) ?_
  refine lv_bipush (v := 7) hx hb dF_isLeast_2 (by decide) ?_
  obtain ⟨r1, hc2, hm⟩ := cl1_to hm
  refine pstZ_i hS (va_runS (As := [.int x0, .int 4, .int 7]) (rest := []) ⟨hx, hb, hml, hown, hT⟩ (c_F_isWithin l x0 4 7 _ hc2) (va_cwS 3 hT (gS wd_286 wd_287 wd_51 wd_288) rfl rfl rfl (by decide +kernel) ⟨Nat.le_of_ble_eq_true rfl, Nat.le_of_ble_eq_true rfl⟩) ⟨preZ_fb, preZ_at⟩ rfl rfl hl.1 rfl (lv_room (Nat.le_of_ble_eq_true rfl)) dF_isLeast_4 ⟨Nat.zero_le _, Nat.zero_le _⟩) (fun H1 locs hq hS => ?_)
  refine lv_if_ne (tgt := 21) hx hb dF_isLeast_7 (by decide) (fun c3 => ?_) (fun c3 => ?_)
  · have hm := brn hm c3
    refine lv_iconst (v := 1) hx hb dF_isLeast_21 (by decide) ?_
    refine lv_goto (tgt := 26) hx hb dF_isLeast_22 (by decide) ?_
    exact W.zret hx hb hr rfl (fun t ht hW => ⟨⟨1, (), rfl, Option.some.inj hm, trivial⟩, hS.F ht⟩) hS.2.2 dF_isLeast_26 hlk
  · have hm := brp hm c3
    refine lv_iload_n hx hb dF_isLeast_10 rfl (lv_at hl 0 rfl) ?_
    refine lv_bipush (v := 12) hx hb dF_isLeast_11 (by decide) ?_
    refine lv_bipush (v := 14) hx hb dF_isLeast_13 (by decide) ?_
    obtain ⟨r4, hc5, hm⟩ := cl1_to hm
    refine pstZ_i hS (va_runS (As := [.int x0, .int 12, .int 14]) (rest := []) ⟨hx, hb, hml, hown, hT⟩ (c_F_isWithin l x0 12 14 _ hc5) (va_cwS 3 hT (gS wd_286 wd_287 wd_51 wd_288) rfl rfl rfl (by decide +kernel) ⟨Nat.le_of_ble_eq_true rfl, Nat.le_of_ble_eq_true rfl⟩) ⟨preZ_fb, preZ_at⟩ rfl rfl hl.1 rfl (lv_room (Nat.le_of_ble_eq_true rfl)) dF_isLeast_15 ⟨Nat.zero_le _, Nat.zero_le _⟩) (fun H1 locs hq hS => ?_)
    refine lv_if_eq (tgt := 25) hx hb dF_isLeast_18 (by decide) (fun c6 => ?_) (fun c6 => ?_)
    · have hm := brp hm c6
      refine lv_iconst (v := 0) hx hb dF_isLeast_25 (by decide) ?_
      exact W.zret hx hb hr rfl (fun t ht hW => ⟨⟨0, (), rfl, Option.some.inj hm, trivial⟩, hS.F ht⟩) hS.2.2 dF_isLeast_26 hlk
    · have hm := brn hm c6
      refine lv_iconst (v := 1) hx hb dF_isLeast_21 (by decide) ?_
      refine lv_goto (tgt := 26) hx hb dF_isLeast_22 (by decide) ?_
      exact W.zret hx hb hr rfl (fun t ht hW => ⟨⟨1, (), rfl, Option.some.inj hm, trivial⟩, hS.F ht⟩) hS.2.2 dF_isLeast_26 hlk
set_option maxHeartbeats 4000000 in
set_option maxRecDepth 100000 in
theorem c_F_isLeast (l : Launch) (x0 : Int32) (res : Int32) (hm : m_F_isLeast x0 = some res) : Met l yF_isLeast (Cond.code yF_isLeast bF_isLeast 1 (some .boolean) :: gtb) rm_F_isLeast (va_Pc [.int x0] (fun _ => True)) (va_Qi (fun (r : Int32) (_ : Unit) => r = res) (fun _ _ => True) (fun _ => False)) 0 0 (fun _ => False) := by
  refine Met.ofW (cc := bF_isLeast) (maxL := 1) (ret := (some .boolean)) (by decide) rfl ?_
  intro p e s m args below meth c s₁ B hml hv
  obtain ⟨rfl, -⟩ := hv
  have X : Cx p s m [.int x0].toArray meth c bF_isLeast (some .boolean) 1 RF := ⟨B.exec, B.bytes, B.returns, hml, findClass_of_methodNamed B.named, fun w h => atoms_spec (ws := (Cond.code yF_isLeast bF_isLeast 1 (some .boolean) :: gtb)) B.pre w (List.mem_cons_of_mem _ h), B.notSynchronized⟩
  have hl := lv_entry ([.int x0]) (n := 1) (Nat.le_of_ble_eq_true rfl)
  rw [lg_entry_eq]
  generalize (lg_sl ([.int x0]) ++ List.replicate (1 - (lg_sl ([.int x0])).length) Slot.unset).toArray = ls at hl ⊢
  have hl : lv_has ls 1 [(0, .int x0)] := hl
  exact w_F_isLeast_0 X  x0 hm _ _ _ va_S.rf hl
def b_F_commonDivisor_9 (k9 : Int64 → Int64 → Int32 → Option (Int64)) (x4 : Int64) (x6 : Int64) (x8 : Int32) : Option (Int64) :=
  if 100 ≤ x8 then
    some (x4)
  else
    nm (lg_cmp x6 0) fun v2 =>
    if v2 = 0 then
      some (x4)
    else
      gd (¬ x6 = 0) <|
      nm (x4 - x4 / x6 * x6) fun v5 =>
      nm (x8 + 1) fun v6 =>
      k9 x6 v5 v6
def b_F_commonDivisor_0 (k9 : Int64 → Int64 → Int32 → Option (Int64)) (x0 : Int64) (x2 : Int64) : Option (Int64) :=
  k9 x0 x2 0
def g_F_commonDivisor : Nat → (Int64 → Int64 → Int32 → Option (Int64))
  | 0 => (fun _ _ _ => none)
  | n + 1 => (fun x4 x6 x8 => b_F_commonDivisor_9 (g_F_commonDivisor n) x4 x6 x8)
def m_F_commonDivisor (x0 : Int64) (x2 : Int64) : Option (Int64) := b_F_commonDivisor_0 (g_F_commonDivisor fuel) x0 x2
def rm_F_commonDivisor : Room := { frames := 0, cells := 0, slots := 0, locals := 0 }
set_option maxHeartbeats 4000000 in
set_option maxRecDepth 100000 in
theorem w_F_commonDivisor_9 {p : Program} {l : Launch} {e : Env} {s : State} {m : MethodId} {args : Array Value} {below : List Frame} {meth : Method} {c : Code} {res : Int64} (X : Cx p s m args meth c bF_commonDivisor (some .long) 11 RF)
    {k9 : Int64 → Int64 → Int32 → Option (Int64)} (hk9 : ∀ (x4 : Int64) (x6 : Int64) (x8 : Int32), k9 x4 x6 x8 = some res → WZ p l e (headSpec (Cond.code yF_commonDivisor bF_commonDivisor 11 (some .long) :: gtb) rm_F_commonDivisor).room s m args below meth c (MQ below (va_Ql (fun (r : Int64) (_ : Unit) => r = res) (fun _ _ => True) (fun _ => False)) args s 0 0 (fun _ => False)) 11 9 [(4, .long x4), (6, .long x6), (8, .int x8)] [])
     (x4 : Int64) (x6 : Int64) (x8 : Int32) (hm : b_F_commonDivisor_9 k9 x4 x6 x8 = some res) : WZ p l e (headSpec (Cond.code yF_commonDivisor bF_commonDivisor 11 (some .long) :: gtb) rm_F_commonDivisor).room s m args below meth c (MQ below (va_Ql (fun (r : Int64) (_ : Unit) => r = res) (fun _ _ => True) (fun _ => False)) args s 0 0 (fun _ => False)) 11 9 [(4, .long x4), (6, .long x6), (8, .int x8)] [] := by
  obtain ⟨hx, hb, hr, hml, hown, hT, hlk⟩ := X
  intro H locs ls hS hl
  unfold b_F_commonDivisor_9 at hm
  refine lv_iload hx hb dF_commonDivisor_9 (lv_at hl 2 rfl) ?_
  refine lv_bipush (v := 100) hx hb dF_commonDivisor_11 (by decide) ?_
  refine lv_icmp_ge (tgt := 44) hx hb dF_commonDivisor_13 (by decide) (fun c1 => ?_) (fun c1 => ?_)
  · have hm := brp hm c1
    refine lv_lload hx hb dF_commonDivisor_44 (lv_at hl 0 rfl) ?_
    exact W.lret hx hb hr (fun t ht hW => ⟨⟨x4, (), rfl, Option.some.inj hm, trivial⟩, hS.F ht⟩) hS.2.2 dF_commonDivisor_46 hlk
  · have hm := brn hm c1
    refine lv_lload hx hb dF_commonDivisor_16 (lv_at hl 1 rfl) ?_
    refine lv_lconst (v := 0) hx hb dF_commonDivisor_18 (by decide) ?_
    refine W.lcmp hx hb dF_commonDivisor_19 ?_
    refine lv_topi (fun v2 ev2 => ?_)
    have hm := nm_to ev2 hm
    refine lv_if_eq (tgt := 44) hx hb dF_commonDivisor_20 (by decide) (fun c3 => ?_) (fun c3 => ?_)
    · have hm := brp hm c3
      refine lv_lload hx hb dF_commonDivisor_44 (lv_at hl 0 rfl) ?_
      exact W.lret hx hb hr (fun t ht hW => ⟨⟨x4, (), rfl, Option.some.inj hm, trivial⟩, hS.F ht⟩) hS.2.2 dF_commonDivisor_46 hlk
    · have hm := brn hm c3
      refine lv_lload hx hb dF_commonDivisor_23 (lv_at hl 0 rfl) ?_
      refine lv_lload hx hb dF_commonDivisor_25 (lv_at hl 1 rfl) ?_
      obtain ⟨g4, hm⟩ := gd_to hm
      refine lv_lrem hx hb dF_commonDivisor_27 g4 ?_
      refine lv_topl (fun v5 ev5 => ?_)
      have hm := nm_to ev5 hm
      refine lv_lstore (lv' := [(9, .long v5), (4, .long x4), (6, .long x6), (8, .int x8)]) hx hb dF_commonDivisor_28 hl (by decide) rfl (fun ls hl => ?_)
      refine lv_lload hx hb dF_commonDivisor_30 (lv_at hl 2 rfl) ?_
      refine lv_lstore (lv' := [(4, .long x6), (9, .long v5), (6, .long x6), (8, .int x8)]) hx hb dF_commonDivisor_32 hl (by decide) rfl (fun ls hl => ?_)
      refine lv_lload hx hb dF_commonDivisor_34 (lv_at hl 1 rfl) ?_
      refine lv_lstore (lv' := [(6, .long v5), (4, .long x6), (9, .long v5), (8, .int x8)]) hx hb dF_commonDivisor_36 hl (by decide) rfl (fun ls hl => ?_)
      obtain ⟨v6, ev6⟩ : ∃ z : Int32, z = x8 + 1 := ⟨_, rfl⟩
      have hm := nm_to ev6 hm
      refine lv_iinc (v := v6) (lv' := [(8, .int v6), (6, .long v5), (4, .long x6), (9, .long v5)]) hx hb dF_commonDivisor_38 hl (k := 3) rfl (by rw [ev6]; rfl) (by decide) rfl (fun ls hl => ?_)
      refine lv_goto (tgt := 9) hx hb dF_commonDivisor_41 (by decide) ?_
      exact hk9 x6 v5 v6 hm _ _ _ hS (lv_sub hl [2, 1, 0] rfl)
set_option maxHeartbeats 4000000 in
set_option maxRecDepth 100000 in
theorem w_F_commonDivisor_0 {p : Program} {l : Launch} {e : Env} {s : State} {m : MethodId} {args : Array Value} {below : List Frame} {meth : Method} {c : Code} {res : Int64} (X : Cx p s m args meth c bF_commonDivisor (some .long) 11 RF)
    {k9 : Int64 → Int64 → Int32 → Option (Int64)} (hk9 : ∀ (x4 : Int64) (x6 : Int64) (x8 : Int32), k9 x4 x6 x8 = some res → WZ p l e (headSpec (Cond.code yF_commonDivisor bF_commonDivisor 11 (some .long) :: gtb) rm_F_commonDivisor).room s m args below meth c (MQ below (va_Ql (fun (r : Int64) (_ : Unit) => r = res) (fun _ _ => True) (fun _ => False)) args s 0 0 (fun _ => False)) 11 9 [(4, .long x4), (6, .long x6), (8, .int x8)] [])
     (x0 : Int64) (x2 : Int64) (hm : b_F_commonDivisor_0 k9 x0 x2 = some res) : WZ p l e (headSpec (Cond.code yF_commonDivisor bF_commonDivisor 11 (some .long) :: gtb) rm_F_commonDivisor).room s m args below meth c (MQ below (va_Ql (fun (r : Int64) (_ : Unit) => r = res) (fun _ _ => True) (fun _ => False)) args s 0 0 (fun _ => False)) 11 0 [(0, .long x0), (2, .long x2)] [] := by
  obtain ⟨hx, hb, hr, hml, hown, hT, hlk⟩ := X
  intro H locs ls hS hl
  unfold b_F_commonDivisor_0 at hm
  refine lv_lload_n hx hb dF_commonDivisor_0 rfl (lv_at hl 0 rfl) ?_
  refine lv_lstore (lv' := [(4, .long x0), (0, .long x0), (2, .long x2)]) hx hb dF_commonDivisor_1 hl (by decide) rfl (fun ls hl => ?_)
  refine lv_lload_n hx hb dF_commonDivisor_3 rfl (lv_at hl 2 rfl) ?_
  refine lv_lstore (lv' := [(6, .long x2), (4, .long x0), (0, .long x0), (2, .long x2)]) hx hb dF_commonDivisor_4 hl (by decide) rfl (fun ls hl => ?_)
  refine lv_iconst (v := 0) hx hb dF_commonDivisor_6 (by decide) ?_
  refine lv_istore (lv' := [(8, .int 0), (6, .long x2), (4, .long x0), (0, .long x0), (2, .long x2)]) hx hb dF_commonDivisor_7 hl (by decide) rfl (fun ls hl => ?_)
  exact hk9 x0 x2 0 hm _ _ _ hS (lv_sub hl [2, 1, 0] rfl)
set_option maxHeartbeats 4000000 in
theorem gw_F_commonDivisor {p : Program} {l : Launch} {e : Env} {s : State} {m : MethodId} {args : Array Value} {below : List Frame} {meth : Method} {c : Code} {res : Int64} (X : Cx p s m args meth c bF_commonDivisor (some .long) 11 RF) : ∀ n : Nat, (∀ (x4 : Int64) (x6 : Int64) (x8 : Int32), (g_F_commonDivisor n) x4 x6 x8 = some res → WZ p l e (headSpec (Cond.code yF_commonDivisor bF_commonDivisor 11 (some .long) :: gtb) rm_F_commonDivisor).room s m args below meth c (MQ below (va_Ql (fun (r : Int64) (_ : Unit) => r = res) (fun _ _ => True) (fun _ => False)) args s 0 0 (fun _ => False)) 11 9 [(4, .long x4), (6, .long x6), (8, .int x8)] []) := by
  intro n
  induction n with
  | zero => exact fun _ _ _ h => (by cases h)
  | succ n ih =>
    have ih9 := ih
    exact fun x4 x6 x8 h => w_F_commonDivisor_9 X ih9 x4 x6 x8 h
set_option maxHeartbeats 4000000 in
set_option maxRecDepth 100000 in
theorem c_F_commonDivisor (l : Launch) (x0 : Int64) (x2 : Int64) (res : Int64) (hm : m_F_commonDivisor x0 x2 = some res) : Met l yF_commonDivisor (Cond.code yF_commonDivisor bF_commonDivisor 11 (some .long) :: gtb) rm_F_commonDivisor (va_Pc [.long x0, .long x2] (fun _ => True)) (va_Ql (fun (r : Int64) (_ : Unit) => r = res) (fun _ _ => True) (fun _ => False)) 0 0 (fun _ => False) := by
  refine Met.ofW (cc := bF_commonDivisor) (maxL := 11) (ret := (some .long)) (by decide) rfl ?_
  intro p e s m args below meth c s₁ B hml hv
  obtain ⟨rfl, -⟩ := hv
  have X : Cx p s m [.long x0, .long x2].toArray meth c bF_commonDivisor (some .long) 11 RF := ⟨B.exec, B.bytes, B.returns, hml, findClass_of_methodNamed B.named, fun w h => atoms_spec (ws := (Cond.code yF_commonDivisor bF_commonDivisor 11 (some .long) :: gtb)) B.pre w (List.mem_cons_of_mem _ h), B.notSynchronized⟩
  have hl := lv_entry ([.long x0, .long x2]) (n := 11) (Nat.le_of_ble_eq_true rfl)
  rw [lg_entry_eq]
  generalize (lg_sl ([.long x0, .long x2]) ++ List.replicate (11 - (lg_sl ([.long x0, .long x2])).length) Slot.unset).toArray = ls at hl ⊢
  have hl : lv_has ls 11 [(0, .long x0), (2, .long x2)] := hl
  exact w_F_commonDivisor_0 X (gw_F_commonDivisor X fuel) x0 x2 hm _ _ _ va_S.rf hl
def b_F_partOf_0 (x0 : Int64) (x2 : Int64) (x4 : Int32) : Option (Int64) :=
  cl1 (m_F_commonDivisor x0 x2) fun r1 =>
  nm (lg_cmp r1 0) fun v3 =>
  if v3 ≤ 0 then
    some (-1)
  else
    cl1 (m_F_isWithin x4 0 1) fun r5 =>
    if r5 = 0 then
      some (-1)
    else
      if x4 = 0 then
        gd (¬ r1 = 0) <|
        nm (x0 / r1) fun v12 =>
        some (v12)
      else
        gd (¬ r1 = 0) <|
        nm (x2 / r1) fun v10 =>
        some (v10)
def m_F_partOf (x0 : Int64) (x2 : Int64) (x4 : Int32) : Option (Int64) := b_F_partOf_0 x0 x2 x4
def rm_F_partOf : Room := { frames := 1, cells := 0, slots := 0, locals := 30 }
set_option maxHeartbeats 4000000 in
set_option maxRecDepth 100000 in
theorem w_F_partOf_0 {p : Program} {l : Launch} {e : Env} {s : State} {m : MethodId} {args : Array Value} {below : List Frame} {meth : Method} {c : Code} {res : Int64} (X : Cx p s m args meth c bF_partOf (some .long) 7 RF)
     (x0 : Int64) (x2 : Int64) (x4 : Int32) (hm : b_F_partOf_0  x0 x2 x4 = some res) : WZ p l e (headSpec (Cond.code yF_partOf bF_partOf 7 (some .long) :: gtb) rm_F_partOf).room s m args below meth c (MQ below (va_Ql (fun (r : Int64) (_ : Unit) => r = res) (fun _ _ => True) (fun _ => False)) args s 0 0 (fun _ => False)) 7 0 [(0, .long x0), (2, .long x2), (4, .int x4)] [] := by
  obtain ⟨hx, hb, hr, hml, hown, hT, hlk⟩ := X
  intro H locs ls hS hl
  unfold b_F_partOf_0 at hm
  refine lv_lload_n hx hb dF_partOf_0 rfl (lv_at hl 0 rfl) ?_
  refine lv_lload_n hx hb dF_partOf_1 rfl (lv_at hl 1 rfl) ?_
  obtain ⟨r1, hc2, hm⟩ := cl1_to hm
  refine pstZ_l hS (va_runS (As := [.long x0, .long x2]) (rest := []) ⟨hx, hb, hml, hown, hT⟩ (c_F_commonDivisor l x0 x2 _ hc2) (va_cwS 2 hT (gS wd_497 wd_498 wd_51 wd_499) rfl rfl rfl (by decide +kernel) ⟨Nat.le_of_ble_eq_true rfl, Nat.le_of_ble_eq_true rfl⟩) ⟨preZ_fb, preZ_at⟩ rfl rfl hl.1 rfl (lv_room (Nat.le_of_ble_eq_true rfl)) dF_partOf_2 ⟨Nat.zero_le _, Nat.zero_le _⟩) (fun H1 locs hq hS => ?_)
  refine lv_lstore (lv' := [(5, .long r1), (0, .long x0), (2, .long x2), (4, .int x4)]) hx hb dF_partOf_5 hl (by decide) rfl (fun ls hl => ?_)
  refine lv_lload hx hb dF_partOf_7 (lv_at hl 0 rfl) ?_
  refine lv_lconst (v := 0) hx hb dF_partOf_9 (by decide) ?_
  refine W.lcmp hx hb dF_partOf_10 ?_
  refine lv_topi (fun v3 ev3 => ?_)
  have hm := nm_to ev3 hm
  refine lv_if_le (tgt := 24) hx hb dF_partOf_11 (by decide) (fun c4 => ?_) (fun c4 => ?_)
  · have hm := brp hm c4
    refine lv_ldc2 (v := (-1)) hx hb hown (hT _ wd_492) dF_partOf_24 ?_
    exact W.lret hx hb hr (fun t ht hW => ⟨⟨-1, (), rfl, Option.some.inj hm, trivial⟩, hS.F ht⟩) hS.2.2 dF_partOf_27 hlk
  · have hm := brn hm c4
    refine lv_iload hx hb dF_partOf_14 (lv_at hl 3 rfl) ?_
    refine lv_iconst (v := 0) hx hb dF_partOf_16 (by decide) ?_
    refine lv_iconst (v := 1) hx hb dF_partOf_17 (by decide) ?_
    obtain ⟨r5, hc6, hm⟩ := cl1_to hm
    refine pstZ_i hS (va_runS (As := [.int x4, .int 0, .int 1]) (rest := []) ⟨hx, hb, hml, hown, hT⟩ (c_F_isWithin l x4 0 1 _ hc6) (va_cwS 3 hT (gS wd_286 wd_287 wd_51 wd_288) rfl rfl rfl (by decide +kernel) ⟨Nat.le_of_ble_eq_true rfl, Nat.le_of_ble_eq_true rfl⟩) ⟨preZ_fb, preZ_at⟩ rfl rfl hl.1 rfl (lv_room (Nat.le_of_ble_eq_true rfl)) dF_partOf_18 ⟨Nat.zero_le _, Nat.zero_le _⟩) (fun H1 locs hq hS => ?_)
    refine lv_if_ne (tgt := 28) hx hb dF_partOf_21 (by decide) (fun c7 => ?_) (fun c7 => ?_)
    · have hm := brn hm c7
      refine lv_iload hx hb dF_partOf_28 (lv_at hl 3 rfl) ?_
      refine lv_if_ne (tgt := 40) hx hb dF_partOf_30 (by decide) (fun c8 => ?_) (fun c8 => ?_)
      · have hm := brn hm c8
        refine lv_lload_n hx hb dF_partOf_40 rfl (lv_at hl 2 rfl) ?_
        refine lv_lload hx hb dF_partOf_41 (lv_at hl 0 rfl) ?_
        obtain ⟨g9, hm⟩ := gd_to hm
        refine lv_ldiv hx hb dF_partOf_43 g9 ?_
        refine lv_topl (fun v10 ev10 => ?_)
        have hm := nm_to ev10 hm
        exact W.lret hx hb hr (fun t ht hW => ⟨⟨v10, (), rfl, Option.some.inj hm, trivial⟩, hS.F ht⟩) hS.2.2 dF_partOf_44 hlk
      · have hm := brp hm c8
        refine lv_lload_n hx hb dF_partOf_33 rfl (lv_at hl 1 rfl) ?_
        refine lv_lload hx hb dF_partOf_34 (lv_at hl 0 rfl) ?_
        obtain ⟨g11, hm⟩ := gd_to hm
        refine lv_ldiv hx hb dF_partOf_36 g11 ?_
        refine lv_topl (fun v12 ev12 => ?_)
        have hm := nm_to ev12 hm
        refine lv_goto (tgt := 44) hx hb dF_partOf_37 (by decide) ?_
        exact W.lret hx hb hr (fun t ht hW => ⟨⟨v12, (), rfl, Option.some.inj hm, trivial⟩, hS.F ht⟩) hS.2.2 dF_partOf_44 hlk
    · have hm := brp hm c7
      refine lv_ldc2 (v := (-1)) hx hb hown (hT _ wd_492) dF_partOf_24 ?_
      exact W.lret hx hb hr (fun t ht hW => ⟨⟨-1, (), rfl, Option.some.inj hm, trivial⟩, hS.F ht⟩) hS.2.2 dF_partOf_27 hlk
set_option maxHeartbeats 4000000 in
set_option maxRecDepth 100000 in
theorem c_F_partOf (l : Launch) (x0 : Int64) (x2 : Int64) (x4 : Int32) (res : Int64) (hm : m_F_partOf x0 x2 x4 = some res) : Met l yF_partOf (Cond.code yF_partOf bF_partOf 7 (some .long) :: gtb) rm_F_partOf (va_Pc [.long x0, .long x2, .int x4] (fun _ => True)) (va_Ql (fun (r : Int64) (_ : Unit) => r = res) (fun _ _ => True) (fun _ => False)) 0 0 (fun _ => False) := by
  refine Met.ofW (cc := bF_partOf) (maxL := 7) (ret := (some .long)) (by decide) rfl ?_
  intro p e s m args below meth c s₁ B hml hv
  obtain ⟨rfl, -⟩ := hv
  have X : Cx p s m [.long x0, .long x2, .int x4].toArray meth c bF_partOf (some .long) 7 RF := ⟨B.exec, B.bytes, B.returns, hml, findClass_of_methodNamed B.named, fun w h => atoms_spec (ws := (Cond.code yF_partOf bF_partOf 7 (some .long) :: gtb)) B.pre w (List.mem_cons_of_mem _ h), B.notSynchronized⟩
  have hl := lv_entry ([.long x0, .long x2, .int x4]) (n := 7) (Nat.le_of_ble_eq_true rfl)
  rw [lg_entry_eq]
  generalize (lg_sl ([.long x0, .long x2, .int x4]) ++ List.replicate (7 - (lg_sl ([.long x0, .long x2, .int x4])).length) Slot.unset).toArray = ls at hl ⊢
  have hl : lv_has ls 7 [(0, .long x0), (2, .long x2), (4, .int x4)] := hl
  exact w_F_partOf_0 X  x0 x2 x4 hm _ _ _ va_S.rf hl
