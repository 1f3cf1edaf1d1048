def b_R_in_0 (x0 : Int32) (x1 : Int32) (x2 : Int32) : Option (Int32) :=
  if x0 < x1 then
    some (0)
  else
    if x2 < x0 then
      some (0)
    else
      some (1)
def m_R_in (x0 : Int32) (x1 : Int32) (x2 : Int32) : Option (Int32) := b_R_in_0 x0 x1 x2
def rm_R_in : Room := { frames := 0, cells := 0, slots := 0, locals := 0 }
set_option maxHeartbeats 4000000 in
set_option maxRecDepth 100000 in
theorem w_R_in_0 {p : Program} {l : Launch} {e : Env} {s : State} {m : MethodId} {args : Array Value} {below : List Frame} {meth : Method} {c : Code} {res : Int32} (X : Cx p s m args meth c bR_in (some .boolean) 3 RR)
     (x0 : Int32) (x1 : Int32) (x2 : Int32) (hm : b_R_in_0  x0 x1 x2 = some res) : WZ p l e (headSpec (Cond.code yR_in bR_in 3 (some .boolean) :: gtb) rm_R_in).room s m args below meth c (MQ below (va_Qi (fun (r : Int32) (_ : Unit) => r = res) (fun _ _ => True) (fun _ => False)) args s 0 0 (fun _ => False)) 3 0 [(0, .int x0), (1, .int x1), (2, .int x2)] [] := by
  obtain ⟨hx, hb, hr, hml, hown, hT, hlk⟩ := X
  intro H locs ls hS hl
  unfold b_R_in_0 at hm
  refine lv_iload_n hx hb dR_in_0 rfl (lv_at hl 0 rfl) ?_
  refine lv_iload_n hx hb dR_in_1 rfl (lv_at hl 1 rfl) ?_
  refine lv_icmp_lt (tgt := 14) hx hb dR_in_2 (by decide) (fun c1 => ?_) (fun c1 => ?_)
  · have hm := brp hm c1
    refine lv_iconst (v := 0) hx hb dR_in_14 (by decide) ?_
    exact W.zret hx hb hr rfl (fun t ht hW => ⟨⟨0, (), rfl, Option.some.inj hm, trivial⟩, hS.F ht⟩) hS.2.2 dR_in_15 hlk
  · have hm := brn hm c1
    refine lv_iload_n hx hb dR_in_5 rfl (lv_at hl 0 rfl) ?_
    refine lv_iload_n hx hb dR_in_6 rfl (lv_at hl 2 rfl) ?_
    refine lv_icmp_gt (tgt := 14) hx hb dR_in_7 (by decide) (fun c2 => ?_) (fun c2 => ?_)
    · have hm := brp hm c2
      refine lv_iconst (v := 0) hx hb dR_in_14 (by decide) ?_
      exact W.zret hx hb hr rfl (fun t ht hW => ⟨⟨0, (), rfl, Option.some.inj hm, trivial⟩, hS.F ht⟩) hS.2.2 dR_in_15 hlk
    · have hm := brn hm c2
      refine lv_iconst (v := 1) hx hb dR_in_10 (by decide) ?_
      refine lv_goto (tgt := 15) hx hb dR_in_11 (by decide) ?_
      exact W.zret hx hb hr rfl (fun t ht hW => ⟨⟨1, (), rfl, Option.some.inj hm, trivial⟩, hS.F ht⟩) hS.2.2 dR_in_15 hlk
set_option maxHeartbeats 4000000 in
set_option maxRecDepth 100000 in
theorem c_R_in (l : Launch) (x0 : Int32) (x1 : Int32) (x2 : Int32) (res : Int32) (hm : m_R_in x0 x1 x2 = some res) : Met l yR_in (Cond.code yR_in bR_in 3 (some .boolean) :: gtb) rm_R_in (va_Pc [.int x0, .int x1, .int x2] (fun _ => True)) (va_Qi (fun (r : Int32) (_ : Unit) => r = res) (fun _ _ => True) (fun _ => False)) 0 0 (fun _ => False) := by
  refine Met.ofW (cc := bR_in) (maxL := 3) (ret := (some .boolean)) (by decide) rfl ?_
  intro p e s m args below meth c s₁ B hml hv
  obtain ⟨rfl, -⟩ := hv
  have X : Cx p s m [.int x0, .int x1, .int x2].toArray meth c bR_in (some .boolean) 3 RR := ⟨B.exec, B.bytes, B.returns, hml, findClass_of_methodNamed B.named, fun w h => atoms_spec (ws := (Cond.code yR_in bR_in 3 (some .boolean) :: gtb)) B.pre w (List.mem_cons_of_mem _ h), B.notSynchronized⟩
  have hl := lv_entry ([.int x0, .int x1, .int x2]) (n := 3) (Nat.le_of_ble_eq_true rfl)
  rw [lg_entry_eq]
  generalize (lg_sl ([.int x0, .int x1, .int x2]) ++ List.replicate (3 - (lg_sl ([.int x0, .int x1, .int x2])).length) Slot.unset).toArray = ls at hl ⊢
  have hl : lv_has ls 3 [(0, .int x0), (1, .int x1), (2, .int x2)] := hl
  exact w_R_in_0 X  x0 x1 x2 hm _ _ _ va_S.rf hl
def b_R_isLeast_18 (x0 : Int32) : Option (Int32) :=
  if x0 < 4 then
    some (0)
  else
    if 8 ≤ x0 then
      some (0)
    else
      some (1)
def b_R_isLeast_0 (k18 : Int32 → Option (Int32)) (x0 : Int32) : Option (Int32) :=
  if 18 ≤ x0 then
    some (1)
  else
    if x0 < 12 then
      k18 x0
    else
      if x0 < 15 then
        some (1)
      else
        k18 x0
def g_R_isLeast : Nat → (Int32 → Option (Int32))
  | 0 => (fun _ => none)
  | n + 1 => (fun x0 => b_R_isLeast_18  x0)
def m_R_isLeast (x0 : Int32) : Option (Int32) := b_R_isLeast_0 (g_R_isLeast fuel) x0
def rm_R_isLeast : Room := { frames := 0, cells := 0, slots := 0, locals := 0 }
set_option maxHeartbeats 4000000 in
set_option maxRecDepth 100000 in
theorem w_R_isLeast_18 {p : Program} {l : Launch} {e : Env} {s : State} {m : MethodId} {args : Array Value} {below : List Frame} {meth : Method} {c : Code} {res : Int32} (X : Cx p s m args meth c bR_isLeast (some .boolean) 1 RR)
     (x0 : Int32) (hm : b_R_isLeast_18  x0 = some res) : WZ p l e (headSpec (Cond.code yR_isLeast bR_isLeast 1 (some .boolean) :: gtb) rm_R_isLeast).room s m args below meth c (MQ below (va_Qi (fun (r : Int32) (_ : Unit) => r = res) (fun _ _ => True) (fun _ => False)) args s 0 0 (fun _ => False)) 1 18 [(0, .int x0)] [] := by
  obtain ⟨hx, hb, hr, hml, hown, hT, hlk⟩ := X
  intro H locs ls hS hl
  unfold b_R_isLeast_18 at hm
  refine lv_iload_n hx hb dR_isLeast_18 rfl (lv_at hl 0 rfl) ?_
  refine lv_iconst (v := 4) hx hb dR_isLeast_19 (by decide) ?_
  refine lv_icmp_lt (tgt := 33) hx hb dR_isLeast_20 (by decide) (fun c1 => ?_) (fun c1 => ?_)
  · have hm := brp hm c1
    refine lv_iconst (v := 0) hx hb dR_isLeast_33 (by decide) ?_
    exact W.zret hx hb hr rfl (fun t ht hW => ⟨⟨0, (), rfl, Option.some.inj hm, trivial⟩, hS.F ht⟩) hS.2.2 dR_isLeast_34 hlk
  · have hm := brn hm c1
    refine lv_iload_n hx hb dR_isLeast_23 rfl (lv_at hl 0 rfl) ?_
    refine lv_bipush (v := 8) hx hb dR_isLeast_24 (by decide) ?_
    refine lv_icmp_ge (tgt := 33) hx hb dR_isLeast_26 (by decide) (fun c2 => ?_) (fun c2 => ?_)
    · have hm := brp hm c2
      refine lv_iconst (v := 0) hx hb dR_isLeast_33 (by decide) ?_
      exact W.zret hx hb hr rfl (fun t ht hW => ⟨⟨0, (), rfl, Option.some.inj hm, trivial⟩, hS.F ht⟩) hS.2.2 dR_isLeast_34 hlk
    · have hm := brn hm c2
      refine lv_iconst (v := 1) hx hb dR_isLeast_29 (by decide) ?_
      refine lv_goto (tgt := 34) hx hb dR_isLeast_30 (by decide) ?_
      exact W.zret hx hb hr rfl (fun t ht hW => ⟨⟨1, (), rfl, Option.some.inj hm, trivial⟩, hS.F ht⟩) hS.2.2 dR_isLeast_34 hlk
set_option maxHeartbeats 4000000 in
set_option maxRecDepth 100000 in
theorem w_R_isLeast_0 {p : Program} {l : Launch} {e : Env} {s : State} {m : MethodId} {args : Array Value} {below : List Frame} {meth : Method} {c : Code} {res : Int32} (X : Cx p s m args meth c bR_isLeast (some .boolean) 1 RR)
    {k18 : Int32 → Option (Int32)} (hk18 : ∀ (x0 : Int32), k18 x0 = some res → WZ p l e (headSpec (Cond.code yR_isLeast bR_isLeast 1 (some .boolean) :: gtb) rm_R_isLeast).room s m args below meth c (MQ below (va_Qi (fun (r : Int32) (_ : Unit) => r = res) (fun _ _ => True) (fun _ => False)) args s 0 0 (fun _ => False)) 1 18 [(0, .int x0)] [])
     (x0 : Int32) (hm : b_R_isLeast_0 k18 x0 = some res) : WZ p l e (headSpec (Cond.code yR_isLeast bR_isLeast 1 (some .boolean) :: gtb) rm_R_isLeast).room s m args below meth c (MQ below (va_Qi (fun (r : Int32) (_ : Unit) => r = res) (fun _ _ => True) (fun _ => False)) args s 0 0 (fun _ => False)) 1 0 [(0, .int x0)] [] := by
  obtain ⟨hx, hb, hr, hml, hown, hT, hlk⟩ := X
  intro H locs ls hS hl
  unfold b_R_isLeast_0 at hm
  refine lv_iload_n hx hb dR_isLeast_0 rfl (lv_at hl 0 rfl) ?_
  refine lv_bipush (v := 18) hx hb dR_isLeast_1 (by decide) ?_
  refine lv_icmp_ge (tgt := 29) hx hb dR_isLeast_3 (by decide) (fun c1 => ?_) (fun c1 => ?_)
  · have hm := brp hm c1
    refine lv_iconst (v := 1) hx hb dR_isLeast_29 (by decide) ?_
    refine lv_goto (tgt := 34) hx hb dR_isLeast_30 (by decide) ?_
    exact W.zret hx hb hr rfl (fun t ht hW => ⟨⟨1, (), rfl, Option.some.inj hm, trivial⟩, hS.F ht⟩) hS.2.2 dR_isLeast_34 hlk
  · have hm := brn hm c1
    refine lv_iload_n hx hb dR_isLeast_6 rfl (lv_at hl 0 rfl) ?_
    refine lv_bipush (v := 12) hx hb dR_isLeast_7 (by decide) ?_
    refine lv_icmp_lt (tgt := 18) hx hb dR_isLeast_9 (by decide) (fun c2 => ?_) (fun c2 => ?_)
    · have hm := brp hm c2
      exact hk18 x0 hm _ _ _ hS (lv_sub hl [0] rfl)
    · have hm := brn hm c2
      refine lv_iload_n hx hb dR_isLeast_12 rfl (lv_at hl 0 rfl) ?_
      refine lv_bipush (v := 15) hx hb dR_isLeast_13 (by decide) ?_
      refine lv_icmp_lt (tgt := 29) hx hb dR_isLeast_15 (by decide) (fun c3 => ?_) (fun c3 => ?_)
      · have hm := brp hm c3
        refine lv_iconst (v := 1) hx hb dR_isLeast_29 (by decide) ?_
        refine lv_goto (tgt := 34) hx hb dR_isLeast_30 (by decide) ?_
        exact W.zret hx hb hr rfl (fun t ht hW => ⟨⟨1, (), rfl, Option.some.inj hm, trivial⟩, hS.F ht⟩) hS.2.2 dR_isLeast_34 hlk
      · have hm := brn hm c3
        exact hk18 x0 hm _ _ _ hS (lv_sub hl [0] rfl)
set_option maxHeartbeats 4000000 in
theorem gw_R_isLeast {p : Program} {l : Launch} {e : Env} {s : State} {m : MethodId} {args : Array Value} {below : List Frame} {meth : Method} {c : Code} {res : Int32} (X : Cx p s m args meth c bR_isLeast (some .boolean) 1 RR) : ∀ n : Nat, (∀ (x0 : Int32), (g_R_isLeast n) x0 = some res → WZ p l e (headSpec (Cond.code yR_isLeast bR_isLeast 1 (some .boolean) :: gtb) rm_R_isLeast).room s m args below meth c (MQ below (va_Qi (fun (r : Int32) (_ : Unit) => r = res) (fun _ _ => True) (fun _ => False)) args s 0 0 (fun _ => False)) 1 18 [(0, .int x0)] []) := by
  intro n
  induction n with
  | zero => exact fun _ h => (by cases h)
  | succ n ih =>
    have ih18 := ih
    exact fun x0 h => w_R_isLeast_18 X  x0 h
set_option maxHeartbeats 4000000 in
set_option maxRecDepth 100000 in
theorem c_R_isLeast (l : Launch) (x0 : Int32) (res : Int32) (hm : m_R_isLeast x0 = some res) : Met l yR_isLeast (Cond.code yR_isLeast bR_isLeast 1 (some .boolean) :: gtb) rm_R_isLeast (va_Pc [.int x0] (fun _ => True)) (va_Qi (fun (r : Int32) (_ : Unit) => r = res) (fun _ _ => True) (fun _ => False)) 0 0 (fun _ => False) := by
  refine Met.ofW (cc := bR_isLeast) (maxL := 1) (ret := (some .boolean)) (by decide) rfl ?_
  intro p e s m args below meth c s₁ B hml hv
  obtain ⟨rfl, -⟩ := hv
  have X : Cx p s m [.int x0].toArray meth c bR_isLeast (some .boolean) 1 RR := ⟨B.exec, B.bytes, B.returns, hml, findClass_of_methodNamed B.named, fun w h => atoms_spec (ws := (Cond.code yR_isLeast bR_isLeast 1 (some .boolean) :: gtb)) B.pre w (List.mem_cons_of_mem _ h), B.notSynchronized⟩
  have hl := lv_entry ([.int x0]) (n := 1) (Nat.le_of_ble_eq_true rfl)
  rw [lg_entry_eq]
  generalize (lg_sl ([.int x0]) ++ List.replicate (1 - (lg_sl ([.int x0])).length) Slot.unset).toArray = ls at hl ⊢
  have hl : lv_has ls 1 [(0, .int x0)] := hl
  exact w_R_isLeast_0 X (gw_R_isLeast X fuel) x0 hm _ _ _ va_S.rf hl
def b_R_divisor_17 (k17 : Int64 → Int64 → Option (Int64)) (x4 : Int64) (x6 : Int64) : Option (Int64) :=
  nm (lg_cmp x6 0) fun v1 =>
  if v1 = 0 then
    some (x4)
  else
    gd (¬ x6 = 0) <|
    nm (x4 - x4 / x6 * x6) fun v4 =>
    k17 x6 v4
def b_R_divisor_0 (k17 : Int64 → Int64 → Option (Int64)) (x0 : Int64) (x2 : Int64) : Option (Int64) :=
  nm (lg_cmp x0 0) fun v1 =>
  if 0 ≤ v1 then
    k17 x0 x2
  else
    nm (-x0) fun v3 =>
    k17 v3 x2
def g_R_divisor : Nat → (Int64 → Int64 → Option (Int64))
  | 0 => (fun _ _ => none)
  | n + 1 => (fun x4 x6 => b_R_divisor_17 (g_R_divisor n) x4 x6)
def m_R_divisor (x0 : Int64) (x2 : Int64) : Option (Int64) := b_R_divisor_0 (g_R_divisor fuel) x0 x2
def rm_R_divisor : Room := { frames := 0, cells := 0, slots := 0, locals := 0 }
set_option maxHeartbeats 4000000 in
set_option maxRecDepth 100000 in
theorem w_R_divisor_17 {p : Program} {l : Launch} {e : Env} {s : State} {m : MethodId} {args : Array Value} {below : List Frame} {meth : Method} {c : Code} {res : Int64} (X : Cx p s m args meth c bR_divisor (some .long) 10 RR)
    {k17 : Int64 → Int64 → Option (Int64)} (hk17 : ∀ (x4 : Int64) (x6 : Int64), k17 x4 x6 = some res → WZ p l e (headSpec (Cond.code yR_divisor bR_divisor 10 (some .long) :: gtb) rm_R_divisor).room s m args below meth c (MQ below (va_Ql (fun (r : Int64) (_ : Unit) => r = res) (fun _ _ => True) (fun _ => False)) args s 0 0 (fun _ => False)) 10 17 [(4, .long x4), (6, .long x6)] [])
     (x4 : Int64) (x6 : Int64) (hm : b_R_divisor_17 k17 x4 x6 = some res) : WZ p l e (headSpec (Cond.code yR_divisor bR_divisor 10 (some .long) :: gtb) rm_R_divisor).room s m args below meth c (MQ below (va_Ql (fun (r : Int64) (_ : Unit) => r = res) (fun _ _ => True) (fun _ => False)) args s 0 0 (fun _ => False)) 10 17 [(4, .long x4), (6, .long x6)] [] := by
  obtain ⟨hx, hb, hr, hml, hown, hT, hlk⟩ := X
  intro H locs ls hS hl
  unfold b_R_divisor_17 at hm
  refine lv_lload hx hb dR_divisor_17 (lv_at hl 1 rfl) ?_
  refine lv_lconst (v := 0) hx hb dR_divisor_19 (by decide) ?_
  refine W.lcmp hx hb dR_divisor_20 ?_
  refine lv_topi (fun v1 ev1 => ?_)
  have hm := nm_to ev1 hm
  refine lv_if_eq (tgt := 42) hx hb dR_divisor_21 (by decide) (fun c2 => ?_) (fun c2 => ?_)
  · have hm := brp hm c2
    refine lv_lload hx hb dR_divisor_42 (lv_at hl 0 rfl) ?_
    exact W.lret hx hb hr (fun t ht hW => ⟨⟨x4, (), rfl, Option.some.inj hm, trivial⟩, hS.F ht⟩) hS.2.2 dR_divisor_44 hlk
  · have hm := brn hm c2
    refine lv_lload hx hb dR_divisor_24 (lv_at hl 0 rfl) ?_
    refine lv_lload hx hb dR_divisor_26 (lv_at hl 1 rfl) ?_
    obtain ⟨g3, hm⟩ := gd_to hm
    refine lv_lrem hx hb dR_divisor_28 g3 ?_
    refine lv_topl (fun v4 ev4 => ?_)
    have hm := nm_to ev4 hm
    refine lv_lstore (lv' := [(8, .long v4), (4, .long x4), (6, .long x6)]) hx hb dR_divisor_29 hl (by decide) rfl (fun ls hl => ?_)
    refine lv_lload hx hb dR_divisor_31 (lv_at hl 2 rfl) ?_
    refine lv_lstore (lv' := [(4, .long x6), (8, .long v4), (6, .long x6)]) hx hb dR_divisor_33 hl (by decide) rfl (fun ls hl => ?_)
    refine lv_lload hx hb dR_divisor_35 (lv_at hl 1 rfl) ?_
    refine lv_lstore (lv' := [(6, .long v4), (4, .long x6), (8, .long v4)]) hx hb dR_divisor_37 hl (by decide) rfl (fun ls hl => ?_)
    refine lv_goto (tgt := 17) hx hb dR_divisor_39 (by decide) ?_
    exact hk17 x6 v4 hm _ _ _ hS (lv_sub hl [1, 0] rfl)
set_option maxHeartbeats 4000000 in
set_option maxRecDepth 100000 in
theorem w_R_divisor_0 {p : Program} {l : Launch} {e : Env} {s : State} {m : MethodId} {args : Array Value} {below : List Frame} {meth : Method} {c : Code} {res : Int64} (X : Cx p s m args meth c bR_divisor (some .long) 10 RR)
    {k17 : Int64 → Int64 → Option (Int64)} (hk17 : ∀ (x4 : Int64) (x6 : Int64), k17 x4 x6 = some res → WZ p l e (headSpec (Cond.code yR_divisor bR_divisor 10 (some .long) :: gtb) rm_R_divisor).room s m args below meth c (MQ below (va_Ql (fun (r : Int64) (_ : Unit) => r = res) (fun _ _ => True) (fun _ => False)) args s 0 0 (fun _ => False)) 10 17 [(4, .long x4), (6, .long x6)] [])
     (x0 : Int64) (x2 : Int64) (hm : b_R_divisor_0 k17 x0 x2 = some res) : WZ p l e (headSpec (Cond.code yR_divisor bR_divisor 10 (some .long) :: gtb) rm_R_divisor).room s m args below meth c (MQ below (va_Ql (fun (r : Int64) (_ : Unit) => r = res) (fun _ _ => True) (fun _ => False)) args s 0 0 (fun _ => False)) 10 0 [(0, .long x0), (2, .long x2)] [] := by
  obtain ⟨hx, hb, hr, hml, hown, hT, hlk⟩ := X
  intro H locs ls hS hl
  unfold b_R_divisor_0 at hm
  refine lv_lload_n hx hb dR_divisor_0 rfl (lv_at hl 0 rfl) ?_
  refine lv_lconst (v := 0) hx hb dR_divisor_1 (by decide) ?_
  refine W.lcmp hx hb dR_divisor_2 ?_
  refine lv_topi (fun v1 ev1 => ?_)
  have hm := nm_to ev1 hm
  refine lv_if_ge (tgt := 11) hx hb dR_divisor_3 (by decide) (fun c2 => ?_) (fun c2 => ?_)
  · have hm := brp hm c2
    refine lv_lload_n hx hb dR_divisor_11 rfl (lv_at hl 0 rfl) ?_
    refine lv_lstore (lv' := [(4, .long x0), (0, .long x0), (2, .long x2)]) hx hb dR_divisor_12 hl (by decide) rfl (fun ls hl => ?_)
    refine lv_lload_n hx hb dR_divisor_14 rfl (lv_at hl 2 rfl) ?_
    refine lv_lstore (lv' := [(6, .long x2), (4, .long x0), (0, .long x0), (2, .long x2)]) hx hb dR_divisor_15 hl (by decide) rfl (fun ls hl => ?_)
    exact hk17 x0 x2 hm _ _ _ hS (lv_sub hl [1, 0] rfl)
  · have hm := brn hm c2
    refine lv_lload_n hx hb dR_divisor_6 rfl (lv_at hl 0 rfl) ?_
    refine lv_lneg hx hb dR_divisor_7 ?_
    refine lv_topl (fun v3 ev3 => ?_)
    have hm := nm_to ev3 hm
    refine lv_goto (tgt := 12) hx hb dR_divisor_8 (by decide) ?_
    refine lv_lstore (lv' := [(4, .long v3), (0, .long x0), (2, .long x2)]) hx hb dR_divisor_12 hl (by decide) rfl (fun ls hl => ?_)
    refine lv_lload_n hx hb dR_divisor_14 rfl (lv_at hl 2 rfl) ?_
    refine lv_lstore (lv' := [(6, .long x2), (4, .long v3), (0, .long x0), (2, .long x2)]) hx hb dR_divisor_15 hl (by decide) rfl (fun ls hl => ?_)
    exact hk17 v3 x2 hm _ _ _ hS (lv_sub hl [1, 0] rfl)
set_option maxHeartbeats 4000000 in
theorem gw_R_divisor {p : Program} {l : Launch} {e : Env} {s : State} {m : MethodId} {args : Array Value} {below : List Frame} {meth : Method} {c : Code} {res : Int64} (X : Cx p s m args meth c bR_divisor (some .long) 10 RR) : ∀ n : Nat, (∀ (x4 : Int64) (x6 : Int64), (g_R_divisor n) x4 x6 = some res → WZ p l e (headSpec (Cond.code yR_divisor bR_divisor 10 (some .long) :: gtb) rm_R_divisor).room s m args below meth c (MQ below (va_Ql (fun (r : Int64) (_ : Unit) => r = res) (fun _ _ => True) (fun _ => False)) args s 0 0 (fun _ => False)) 10 17 [(4, .long x4), (6, .long x6)] []) := by
  intro n
  induction n with
  | zero => exact fun _ _ h => (by cases h)
  | succ n ih =>
    have ih17 := ih
    exact fun x4 x6 h => w_R_divisor_17 X ih17 x4 x6 h
set_option maxHeartbeats 4000000 in
set_option maxRecDepth 100000 in
theorem c_R_divisor (l : Launch) (x0 : Int64) (x2 : Int64) (res : Int64) (hm : m_R_divisor x0 x2 = some res) : Met l yR_divisor (Cond.code yR_divisor bR_divisor 10 (some .long) :: gtb) rm_R_divisor (va_Pc [.long x0, .long x2] (fun _ => True)) (va_Ql (fun (r : Int64) (_ : Unit) => r = res) (fun _ _ => True) (fun _ => False)) 0 0 (fun _ => False) := by
  refine Met.ofW (cc := bR_divisor) (maxL := 10) (ret := (some .long)) (by decide) rfl ?_
  intro p e s m args below meth c s₁ B hml hv
  obtain ⟨rfl, -⟩ := hv
  have X : Cx p s m [.long x0, .long x2].toArray meth c bR_divisor (some .long) 10 RR := ⟨B.exec, B.bytes, B.returns, hml, findClass_of_methodNamed B.named, fun w h => atoms_spec (ws := (Cond.code yR_divisor bR_divisor 10 (some .long) :: gtb)) B.pre w (List.mem_cons_of_mem _ h), B.notSynchronized⟩
  have hl := lv_entry ([.long x0, .long x2]) (n := 10) (Nat.le_of_ble_eq_true rfl)
  rw [lg_entry_eq]
  generalize (lg_sl ([.long x0, .long x2]) ++ List.replicate (10 - (lg_sl ([.long x0, .long x2])).length) Slot.unset).toArray = ls at hl ⊢
  have hl : lv_has ls 10 [(0, .long x0), (2, .long x2)] := hl
  exact w_R_divisor_0 X (gw_R_divisor X fuel) x0 x2 hm _ _ _ va_S.rf hl
def b_R_isStuff_0 (x1 : Int32) (I : SI) (J : SJ) : Option (Int32 × SI × SJ) :=
  if x1 < 0 then
    some (0, I, J)
  else
    if (I 0 0) ≤ x1 then
      some (0, I, J)
    else
      some (1, I, J)
def m_R_isStuff (x1 : Int32) (I : SI) (J : SJ) : Option (Int32 × SI × SJ) := b_R_isStuff_0 x1 I J
def rm_R_isStuff : Room := { frames := 0, cells := 0, slots := 0, locals := 0 }
set_option maxHeartbeats 4000000 in
set_option maxRecDepth 100000 in
theorem w_R_isStuff_0 {p : Program} {l : Launch} {e : Env} {s : State} {m : MethodId} {args : Array Value} {below : List Frame} {meth : Method} {c : Code} {D : va_G} {A : Nat → Prop} {ad : Nat → Nat} {cI cJ cG : ClassId} {res : Int32 × SI × SJ} (X : Cx p s m args meth c bR_isStuff (some .boolean) 2 RR) (hK : va_K D vwCl (tysR cI cJ cG) s) (hN : NWs s) (hA : ∀ q, s.heap.size ≤ q → A q)
     (x1 : Int32) (I : SI) (J : SJ) (hm : b_R_isStuff_0  x1 I J = some res) : WB p l e (headSpec (Cond.code yR_isStuff bR_isStuff 2 (some .boolean) :: gtb) rm_R_isStuff).room s m args below meth c (MQ below (va_Qi (fun (r : Int32) (u : SI × SJ) => (r, u) = res) (atW D vwCl (tysR cI cJ cG) A (wsR ad cI cJ cG)) A) args s 0 0 A) D vwCl A 2 (wsR ad cI cJ cG I J) 0 [(0, .ref (ad 0)), (1, .int x1)] [] := by
  obtain ⟨hx, hb, hr, hml, hown, hT, hlk⟩ := X
  intro H locs ls hP hD hS hl
  unfold b_R_isStuff_0 at hm
  refine lv_iload_n hx hb dR_isStuff_0 rfl (lv_at hl 1 rfl) ?_
  refine lv_if_lt (tgt := 16) hx hb dR_isStuff_1 (by decide) (fun c1 => ?_) (fun c1 => ?_)
  · have hm := brp hm c1
    refine lv_iconst (v := 0) hx hb dR_isStuff_16 (by decide) ?_
    exact W.zret hx hb hr rfl (fun t ht hW => ⟨⟨0, (I, J), rfl, Option.some.inj hm, ht ▸ hP, va_K.moved hW.alike hK, hD⟩, hS.F ht⟩) hS.2.2 dR_isStuff_17 hlk
  · have hm := brn hm c1
    refine lv_iload_n hx hb dR_isStuff_4 rfl (lv_at hl 1 rfl) ?_
    refine lv_aload_n hx hb dR_isStuff_5 rfl (lv_at hl 0 rfl) ?_
    refine va_get (D := D) (ci := 6) (v := .int (I 0 0)) (C := RR) (T := TR) (N := 31) hx hb hT inR hown hK hP 0 rfl rfl 0 (by decide) (hT _ wd_535) (fun _ h9 => h9) rfl dR_isStuff_6 ?_
    refine lv_icmp_ge (tgt := 16) hx hb dR_isStuff_9 (by decide) (fun c2 => ?_) (fun c2 => ?_)
    · have hm := brp hm c2
      refine lv_iconst (v := 0) hx hb dR_isStuff_16 (by decide) ?_
      exact W.zret hx hb hr rfl (fun t ht hW => ⟨⟨0, (I, J), rfl, Option.some.inj hm, ht ▸ hP, va_K.moved hW.alike hK, hD⟩, hS.F ht⟩) hS.2.2 dR_isStuff_17 hlk
    · have hm := brn hm c2
      refine lv_iconst (v := 1) hx hb dR_isStuff_12 (by decide) ?_
      refine lv_goto (tgt := 17) hx hb dR_isStuff_13 (by decide) ?_
      exact W.zret hx hb hr rfl (fun t ht hW => ⟨⟨1, (I, J), rfl, Option.some.inj hm, ht ▸ hP, va_K.moved hW.alike hK, hD⟩, hS.F ht⟩) hS.2.2 dR_isStuff_17 hlk
set_option maxHeartbeats 4000000 in
set_option maxRecDepth 100000 in
theorem c_R_isStuff (l : Launch) (D : va_G) (ad : Nat → Nat) (cI cJ cG : ClassId) (sz : Nat) (x1 : Int32) (I : SI) (J : SJ) (res : Int32 × SI × SJ) (hm : m_R_isStuff x1 I J = some res) : Met l yR_isStuff (Cond.code yR_isStuff bR_isStuff 2 (some .boolean) :: gtb) rm_R_isStuff (va_Pc [.ref (ad 0), .int x1] (preW D vwCl (tysR cI cJ cG) (wsR ad cI cJ cG I J) sz)) (va_Qi (fun (r : Int32) (u : SI × SJ) => (r, u) = res) (atW D vwCl (tysR cI cJ cG) (va_A (wsR ad cI cJ cG I J) sz) (wsR ad cI cJ cG)) (va_A (wsR ad cI cJ cG I J) sz)) 0 0 (va_A (wsR ad cI cJ cG I J) sz) := by
  refine Met.ofW (cc := bR_isStuff) (maxL := 2) (ret := (some .boolean)) (by decide) rfl ?_
  intro p e s m args below meth c s₁ B hml hv
  obtain ⟨rfl, hsz, hP, hK, hD0, hN⟩ := hv
  subst hsz
  have X : Cx p s m [.ref (ad 0), .int x1].toArray meth c bR_isStuff (some .boolean) 2 RR := ⟨B.exec, B.bytes, B.returns, hml, findClass_of_methodNamed B.named, fun w h => atoms_spec (ws := (Cond.code yR_isStuff bR_isStuff 2 (some .boolean) :: gtb)) B.pre w (List.mem_cons_of_mem _ h), B.notSynchronized⟩
  have hl := lv_entry ([.ref (ad 0), .int x1]) (n := 2) (Nat.le_of_ble_eq_true rfl)
  rw [lg_entry_eq]
  generalize (lg_sl ([.ref (ad 0), .int x1]) ++ List.replicate (2 - (lg_sl ([.ref (ad 0), .int x1])).length) Slot.unset).toArray = ls at hl ⊢
  have hl : lv_has ls 2 [(0, .ref (ad 0)), (1, .int x1)] := hl
  have hA : ∀ q, s.heap.size ≤ q → va_A (wsR ad cI cJ cG I J) s.heap.size q := fun q h => Or.inr h
  exact w_R_isStuff_0 X hK hN hA  x1 I J hm _ _ _ hP hD0.self va_S.rf hl
def b_R_isThere_28 (x1 : Int32) (I : SI) (J : SJ) : Option (Int32 × SI × SJ) :=
  if x1 < 18 then
    some (0, I, J)
  else
    nm (x1 - 18) fun v2 =>
    if (I 0 0) ≤ v2 then
      some (0, I, J)
    else
      some (1, I, J)
def b_R_isThere_0 (k28 : Int32 → SI → SJ → Option (Int32 × SI × SJ)) (x1 : Int32) (I : SI) (J : SJ) : Option (Int32 × SI × SJ) :=
  if x1 < 12 then
    nm (x1 - x1 / 4 * 4) fun v2 =>
    if (I 0 0) ≤ v2 then
      k28 x1 I J
    else
      if x1 < 12 then
        some (1, I, J)
      else
        k28 x1 I J
  else
    if x1 < 18 then
      some (1, I, J)
    else
      nm (x1 - x1 / 4 * 4) fun v6 =>
      if (I 0 0) ≤ v6 then
        k28 x1 I J
      else
        if x1 < 12 then
          some (1, I, J)
        else
          k28 x1 I J
def g_R_isThere : Nat → (Int32 → SI → SJ → Option (Int32 × SI × SJ))
  | 0 => (fun _ _ _ => none)
  | n + 1 => (fun x1 I J => b_R_isThere_28  x1 I J)
def m_R_isThere (x1 : Int32) (I : SI) (J : SJ) : Option (Int32 × SI × SJ) := b_R_isThere_0 (g_R_isThere fuel) x1 I J
def rm_R_isThere : Room := { frames := 0, cells := 0, slots := 0, locals := 0 }
set_option maxHeartbeats 4000000 in
set_option maxRecDepth 100000 in
theorem w_R_isThere_28 {p : Program} {l : Launch} {e : Env} {s : State} {m : MethodId} {args : Array Value} {below : List Frame} {meth : Method} {c : Code} {D : va_G} {A : Nat → Prop} {ad : Nat → Nat} {cI cJ cG : ClassId} {res : Int32 × SI × SJ} (X : Cx p s m args meth c bR_isThere (some .boolean) 2 RR) (hK : va_K D vwCl (tysR cI cJ cG) s) (hN : NWs s) (hA : ∀ q, s.heap.size ≤ q → A q)
     (x1 : Int32) (I : SI) (J : SJ) (hm : b_R_isThere_28  x1 I J = some res) : WB p l e (headSpec (Cond.code yR_isThere bR_isThere 2 (some .boolean) :: gtb) rm_R_isThere).room s m args below meth c (MQ below (va_Qi (fun (r : Int32) (u : SI × SJ) => (r, u) = res) (atW D vwCl (tysR cI cJ cG) A (wsR ad cI cJ cG)) A) args s 0 0 A) D vwCl A 2 (wsR ad cI cJ cG I J) 28 [(0, .ref (ad 0)), (1, .int x1)] [] := by
  obtain ⟨hx, hb, hr, hml, hown, hT, hlk⟩ := X
  intro H locs ls hP hD hS hl
  unfold b_R_isThere_28 at hm
  refine lv_iload_n hx hb dR_isThere_28 rfl (lv_at hl 1 rfl) ?_
  refine lv_bipush (v := 18) hx hb dR_isThere_29 (by decide) ?_
  refine lv_icmp_lt (tgt := 49) hx hb dR_isThere_31 (by decide) (fun c1 => ?_) (fun c1 => ?_)
  · have hm := brp hm c1
    refine lv_iconst (v := 0) hx hb dR_isThere_49 (by decide) ?_
    exact W.zret hx hb hr rfl (fun t ht hW => ⟨⟨0, (I, J), rfl, Option.some.inj hm, ht ▸ hP, va_K.moved hW.alike hK, hD⟩, hS.F ht⟩) hS.2.2 dR_isThere_50 hlk
  · have hm := brn hm c1
    refine lv_iload_n hx hb dR_isThere_34 rfl (lv_at hl 1 rfl) ?_
    refine lv_bipush (v := 18) hx hb dR_isThere_35 (by decide) ?_
    refine lv_isub hx hb dR_isThere_37 ?_
    refine lv_topi (fun v2 ev2 => ?_)
    have hm := nm_to ev2 hm
    refine lv_aload_n hx hb dR_isThere_38 rfl (lv_at hl 0 rfl) ?_
    refine va_get (D := D) (ci := 6) (v := .int (I 0 0)) (C := RR) (T := TR) (N := 31) hx hb hT inR hown hK hP 0 rfl rfl 0 (by decide) (hT _ wd_535) (fun _ h9 => h9) rfl dR_isThere_39 ?_
    refine lv_icmp_ge (tgt := 49) hx hb dR_isThere_42 (by decide) (fun c3 => ?_) (fun c3 => ?_)
    · have hm := brp hm c3
      refine lv_iconst (v := 0) hx hb dR_isThere_49 (by decide) ?_
      exact W.zret hx hb hr rfl (fun t ht hW => ⟨⟨0, (I, J), rfl, Option.some.inj hm, ht ▸ hP, va_K.moved hW.alike hK, hD⟩, hS.F ht⟩) hS.2.2 dR_isThere_50 hlk
    · have hm := brn hm c3
      refine lv_iconst (v := 1) hx hb dR_isThere_45 (by decide) ?_
      refine lv_goto (tgt := 50) hx hb dR_isThere_46 (by decide) ?_
      exact W.zret hx hb hr rfl (fun t ht hW => ⟨⟨1, (I, J), rfl, Option.some.inj hm, ht ▸ hP, va_K.moved hW.alike hK, hD⟩, hS.F ht⟩) hS.2.2 dR_isThere_50 hlk
set_option maxHeartbeats 4000000 in
set_option maxRecDepth 100000 in
theorem w_R_isThere_0 {p : Program} {l : Launch} {e : Env} {s : State} {m : MethodId} {args : Array Value} {below : List Frame} {meth : Method} {c : Code} {D : va_G} {A : Nat → Prop} {ad : Nat → Nat} {cI cJ cG : ClassId} {res : Int32 × SI × SJ} (X : Cx p s m args meth c bR_isThere (some .boolean) 2 RR) (hK : va_K D vwCl (tysR cI cJ cG) s) (hN : NWs s) (hA : ∀ q, s.heap.size ≤ q → A q)
    {k28 : Int32 → SI → SJ → Option (Int32 × SI × SJ)} (hk28 : ∀ (x1 : Int32) (I : SI) (J : SJ), k28 x1 I J = some res → WB p l e (headSpec (Cond.code yR_isThere bR_isThere 2 (some .boolean) :: gtb) rm_R_isThere).room s m args below meth c (MQ below (va_Qi (fun (r : Int32) (u : SI × SJ) => (r, u) = res) (atW D vwCl (tysR cI cJ cG) A (wsR ad cI cJ cG)) A) args s 0 0 A) D vwCl A 2 (wsR ad cI cJ cG I J) 28 [(0, .ref (ad 0)), (1, .int x1)] [])
     (x1 : Int32) (I : SI) (J : SJ) (hm : b_R_isThere_0 k28 x1 I J = some res) : WB p l e (headSpec (Cond.code yR_isThere bR_isThere 2 (some .boolean) :: gtb) rm_R_isThere).room s m args below meth c (MQ below (va_Qi (fun (r : Int32) (u : SI × SJ) => (r, u) = res) (atW D vwCl (tysR cI cJ cG) A (wsR ad cI cJ cG)) A) args s 0 0 A) D vwCl A 2 (wsR ad cI cJ cG I J) 0 [(0, .ref (ad 0)), (1, .int x1)] [] := by
  obtain ⟨hx, hb, hr, hml, hown, hT, hlk⟩ := X
  intro H locs ls hP hD hS hl
  unfold b_R_isThere_0 at hm
  refine lv_iload_n hx hb dR_isThere_0 rfl (lv_at hl 1 rfl) ?_
  refine lv_bipush (v := 12) hx hb dR_isThere_1 (by decide) ?_
  refine lv_icmp_lt (tgt := 12) hx hb dR_isThere_3 (by decide) (fun c1 => ?_) (fun c1 => ?_)
  · have hm := brp hm c1
    refine lv_iload_n hx hb dR_isThere_12 rfl (lv_at hl 1 rfl) ?_
    refine lv_iconst (v := 4) hx hb dR_isThere_13 (by decide) ?_
    refine lv_irem hx hb dR_isThere_14 (by decide) ?_
    refine lv_topi (fun v2 ev2 => ?_)
    have hm := nm_to ev2 hm
    refine lv_aload_n hx hb dR_isThere_15 rfl (lv_at hl 0 rfl) ?_
    refine va_get (D := D) (ci := 6) (v := .int (I 0 0)) (C := RR) (T := TR) (N := 31) hx hb hT inR hown hK hP 0 rfl rfl 0 (by decide) (hT _ wd_535) (fun _ h9 => h9) rfl dR_isThere_16 ?_
    refine lv_icmp_ge (tgt := 28) hx hb dR_isThere_19 (by decide) (fun c3 => ?_) (fun c3 => ?_)
    · have hm := brp hm c3
      exact hk28 x1 I J hm _ _ _ hP hD hS (lv_sub hl [0, 1] rfl)
    · have hm := brn hm c3
      refine lv_iload_n hx hb dR_isThere_22 rfl (lv_at hl 1 rfl) ?_
      refine lv_bipush (v := 12) hx hb dR_isThere_23 (by decide) ?_
      refine lv_icmp_lt (tgt := 45) hx hb dR_isThere_25 (by decide) (fun c4 => ?_) (fun c4 => ?_)
      · have hm := brp hm c4
        refine lv_iconst (v := 1) hx hb dR_isThere_45 (by decide) ?_
        refine lv_goto (tgt := 50) hx hb dR_isThere_46 (by decide) ?_
        exact W.zret hx hb hr rfl (fun t ht hW => ⟨⟨1, (I, J), rfl, Option.some.inj hm, ht ▸ hP, va_K.moved hW.alike hK, hD⟩, hS.F ht⟩) hS.2.2 dR_isThere_50 hlk
      · have hm := brn hm c4
        exact hk28 x1 I J hm _ _ _ hP hD hS (lv_sub hl [0, 1] rfl)
  · have hm := brn hm c1
    refine lv_iload_n hx hb dR_isThere_6 rfl (lv_at hl 1 rfl) ?_
    refine lv_bipush (v := 18) hx hb dR_isThere_7 (by decide) ?_
    refine lv_icmp_lt (tgt := 45) hx hb dR_isThere_9 (by decide) (fun c5 => ?_) (fun c5 => ?_)
    · have hm := brp hm c5
      refine lv_iconst (v := 1) hx hb dR_isThere_45 (by decide) ?_
      refine lv_goto (tgt := 50) hx hb dR_isThere_46 (by decide) ?_
      exact W.zret hx hb hr rfl (fun t ht hW => ⟨⟨1, (I, J), rfl, Option.some.inj hm, ht ▸ hP, va_K.moved hW.alike hK, hD⟩, hS.F ht⟩) hS.2.2 dR_isThere_50 hlk
    · have hm := brn hm c5
      refine lv_iload_n hx hb dR_isThere_12 rfl (lv_at hl 1 rfl) ?_
      refine lv_iconst (v := 4) hx hb dR_isThere_13 (by decide) ?_
      refine lv_irem hx hb dR_isThere_14 (by decide) ?_
      refine lv_topi (fun v6 ev6 => ?_)
      have hm := nm_to ev6 hm
      refine lv_aload_n hx hb dR_isThere_15 rfl (lv_at hl 0 rfl) ?_
      refine va_get (D := D) (ci := 6) (v := .int (I 0 0)) (C := RR) (T := TR) (N := 31) hx hb hT inR hown hK hP 0 rfl rfl 0 (by decide) (hT _ wd_535) (fun _ h9 => h9) rfl dR_isThere_16 ?_
      refine lv_icmp_ge (tgt := 28) hx hb dR_isThere_19 (by decide) (fun c7 => ?_) (fun c7 => ?_)
      · have hm := brp hm c7
        exact hk28 x1 I J hm _ _ _ hP hD hS (lv_sub hl [0, 1] rfl)
      · have hm := brn hm c7
        refine lv_iload_n hx hb dR_isThere_22 rfl (lv_at hl 1 rfl) ?_
        refine lv_bipush (v := 12) hx hb dR_isThere_23 (by decide) ?_
        refine lv_icmp_lt (tgt := 45) hx hb dR_isThere_25 (by decide) (fun c8 => ?_) (fun c8 => ?_)
        · have hm := brp hm c8
          refine lv_iconst (v := 1) hx hb dR_isThere_45 (by decide) ?_
          refine lv_goto (tgt := 50) hx hb dR_isThere_46 (by decide) ?_
          exact W.zret hx hb hr rfl (fun t ht hW => ⟨⟨1, (I, J), rfl, Option.some.inj hm, ht ▸ hP, va_K.moved hW.alike hK, hD⟩, hS.F ht⟩) hS.2.2 dR_isThere_50 hlk
        · have hm := brn hm c8
          exact hk28 x1 I J hm _ _ _ hP hD hS (lv_sub hl [0, 1] rfl)
set_option maxHeartbeats 4000000 in
theorem gw_R_isThere {p : Program} {l : Launch} {e : Env} {s : State} {m : MethodId} {args : Array Value} {below : List Frame} {meth : Method} {c : Code} {D : va_G} {A : Nat → Prop} {ad : Nat → Nat} {cI cJ cG : ClassId} {res : Int32 × SI × SJ} (X : Cx p s m args meth c bR_isThere (some .boolean) 2 RR) (hK : va_K D vwCl (tysR cI cJ cG) s) (hN : NWs s) (hA : ∀ q, s.heap.size ≤ q → A q) : ∀ n : Nat, (∀ (x1 : Int32) (I : SI) (J : SJ), (g_R_isThere n) x1 I J = some res → WB p l e (headSpec (Cond.code yR_isThere bR_isThere 2 (some .boolean) :: gtb) rm_R_isThere).room s m args below meth c (MQ below (va_Qi (fun (r : Int32) (u : SI × SJ) => (r, u) = res) (atW D vwCl (tysR cI cJ cG) A (wsR ad cI cJ cG)) A) args s 0 0 A) D vwCl A 2 (wsR ad cI cJ cG I J) 28 [(0, .ref (ad 0)), (1, .int x1)] []) := by
  intro n
  induction n with
  | zero => exact fun _ _ _ h => (by cases h)
  | succ n ih =>
    have ih28 := ih
    exact fun x1 I J h => w_R_isThere_28 X hK hN hA  x1 I J h
set_option maxHeartbeats 4000000 in
set_option maxRecDepth 100000 in
theorem c_R_isThere (l : Launch) (D : va_G) (ad : Nat → Nat) (cI cJ cG : ClassId) (sz : Nat) (x1 : Int32) (I : SI) (J : SJ) (res : Int32 × SI × SJ) (hm : m_R_isThere x1 I J = some res) : Met l yR_isThere (Cond.code yR_isThere bR_isThere 2 (some .boolean) :: gtb) rm_R_isThere (va_Pc [.ref (ad 0), .int x1] (preW D vwCl (tysR cI cJ cG) (wsR ad cI cJ cG I J) sz)) (va_Qi (fun (r : Int32) (u : SI × SJ) => (r, u) = res) (atW D vwCl (tysR cI cJ cG) (va_A (wsR ad cI cJ cG I J) sz) (wsR ad cI cJ cG)) (va_A (wsR ad cI cJ cG I J) sz)) 0 0 (va_A (wsR ad cI cJ cG I J) sz) := by
  refine Met.ofW (cc := bR_isThere) (maxL := 2) (ret := (some .boolean)) (by decide) rfl ?_
  intro p e s m args below meth c s₁ B hml hv
  obtain ⟨rfl, hsz, hP, hK, hD0, hN⟩ := hv
  subst hsz
  have X : Cx p s m [.ref (ad 0), .int x1].toArray meth c bR_isThere (some .boolean) 2 RR := ⟨B.exec, B.bytes, B.returns, hml, findClass_of_methodNamed B.named, fun w h => atoms_spec (ws := (Cond.code yR_isThere bR_isThere 2 (some .boolean) :: gtb)) B.pre w (List.mem_cons_of_mem _ h), B.notSynchronized⟩
  have hl := lv_entry ([.ref (ad 0), .int x1]) (n := 2) (Nat.le_of_ble_eq_true rfl)
  rw [lg_entry_eq]
  generalize (lg_sl ([.ref (ad 0), .int x1]) ++ List.replicate (2 - (lg_sl ([.ref (ad 0), .int x1])).length) Slot.unset).toArray = ls at hl ⊢
  have hl : lv_has ls 2 [(0, .ref (ad 0)), (1, .int x1)] := hl
  have hA : ∀ q, s.heap.size ≤ q → va_A (wsR ad cI cJ cG I J) s.heap.size q := fun q h => Or.inr h
  exact w_R_isThere_0 X hK hN hA (gw_R_isThere X hK hN hA fuel) x1 I J hm _ _ _ hP hD0.self va_S.rf hl
def b_R_factor_0 (x1 : Int32) (x2 : Int32) (I : SI) (J : SJ) : Option (Int64 × SI × SJ) :=
  if x1 < 18 then
    if x1 < 12 then
      nm (x1 - x1 / 4 * 4) fun v3 =>
      if v3 = x2 then
        if 4 ≤ x1 then
          some (10, I, J)
        else
          some (1, I, J)
      else
        some (0, I, J)
    else
      nm (x1 - 12) fun v6 =>
      nm (v6 - v6 / 3 * 3) fun v7 =>
      nm (4 * v7) fun v8 =>
      nm (v8 + x2) fun v9 =>
      gd (vin v9 12) <|
      nm (I 3 v9.toNatClampNeg) fun v11 =>
      nm (Int32.toInt64 v11) fun v12 =>
      some (v12, I, J)
  else
    nm (x1 - 18) fun v13 =>
    if v13 = x2 then
      some (1, I, J)
    else
      some (0, I, J)
def m_R_factor (x1 : Int32) (x2 : Int32) (I : SI) (J : SJ) : Option (Int64 × SI × SJ) := b_R_factor_0 x1 x2 I J
def rm_R_factor : Room := { frames := 0, cells := 0, slots := 0, locals := 0 }
set_option maxHeartbeats 4000000 in
set_option maxRecDepth 100000 in
theorem w_R_factor_0 {p : Program} {l : Launch} {e : Env} {s : State} {m : MethodId} {args : Array Value} {below : List Frame} {meth : Method} {c : Code} {D : va_G} {A : Nat → Prop} {ad : Nat → Nat} {cI cJ cG : ClassId} {res : Int64 × SI × SJ} (X : Cx p s m args meth c bR_factor (some .long) 3 RR) (hK : va_K D vwCl (tysR cI cJ cG) s) (hN : NWs s) (hA : ∀ q, s.heap.size ≤ q → A q)
     (x1 : Int32) (x2 : Int32) (I : SI) (J : SJ) (hm : b_R_factor_0  x1 x2 I J = some res) : WB p l e (headSpec (Cond.code yR_factor bR_factor 3 (some .long) :: gtb) rm_R_factor).room s m args below meth c (MQ below (va_Ql (fun (r : Int64) (u : SI × SJ) => (r, u) = res) (atW D vwCl (tysR cI cJ cG) A (wsR ad cI cJ cG)) A) args s 0 0 A) D vwCl A 3 (wsR ad cI cJ cG I J) 0 [(0, .ref (ad 0)), (1, .int x1), (2, .int x2)] [] := by
  obtain ⟨hx, hb, hr, hml, hown, hT, hlk⟩ := X
  intro H locs ls hP hD hS hl
  unfold b_R_factor_0 at hm
  refine lv_iload_n hx hb dR_factor_0 rfl (lv_at hl 1 rfl) ?_
  refine lv_bipush (v := 18) hx hb dR_factor_1 (by decide) ?_
  refine lv_icmp_lt (tgt := 20) hx hb dR_factor_3 (by decide) (fun c1 => ?_) (fun c1 => ?_)
  · have hm := brp hm c1
    refine lv_iload_n hx hb dR_factor_20 rfl (lv_at hl 1 rfl) ?_
    refine lv_bipush (v := 12) hx hb dR_factor_21 (by decide) ?_
    refine lv_icmp_lt (tgt := 43) hx hb dR_factor_23 (by decide) (fun c2 => ?_) (fun c2 => ?_)
    · have hm := brp hm c2
      refine lv_iload_n hx hb dR_factor_43 rfl (lv_at hl 1 rfl) ?_
      refine lv_iconst (v := 4) hx hb dR_factor_44 (by decide) ?_
      refine lv_irem hx hb dR_factor_45 (by decide) ?_
      refine lv_topi (fun v3 ev3 => ?_)
      have hm := nm_to ev3 hm
      refine lv_iload_n hx hb dR_factor_46 rfl (lv_at hl 2 rfl) ?_
      refine lv_icmp_eq (tgt := 54) hx hb dR_factor_47 (by decide) (fun c4 => ?_) (fun c4 => ?_)
      · have hm := brp hm c4
        refine lv_iload_n hx hb dR_factor_54 rfl (lv_at hl 1 rfl) ?_
        refine lv_iconst (v := 4) hx hb dR_factor_55 (by decide) ?_
        refine lv_icmp_ge (tgt := 63) hx hb dR_factor_56 (by decide) (fun c5 => ?_) (fun c5 => ?_)
        · have hm := brp hm c5
          refine lv_ldc2 (v := 10) hx hb hown (hT _ wd_705) dR_factor_63 ?_
          exact W.lret hx hb hr (fun t ht hW => ⟨⟨10, (I, J), rfl, Option.some.inj hm, ht ▸ hP, va_K.moved hW.alike hK, hD⟩, hS.F ht⟩) hS.2.2 dR_factor_66 hlk
        · have hm := brn hm c5
          refine lv_lconst (v := 1) hx hb dR_factor_59 (by decide) ?_
          refine lv_goto (tgt := 66) hx hb dR_factor_60 (by decide) ?_
          exact W.lret hx hb hr (fun t ht hW => ⟨⟨1, (I, J), rfl, Option.some.inj hm, ht ▸ hP, va_K.moved hW.alike hK, hD⟩, hS.F ht⟩) hS.2.2 dR_factor_66 hlk
      · have hm := brn hm c4
        refine lv_lconst (v := 0) hx hb dR_factor_50 (by decide) ?_
        refine lv_goto (tgt := 66) hx hb dR_factor_51 (by decide) ?_
        exact W.lret hx hb hr (fun t ht hW => ⟨⟨0, (I, J), rfl, Option.some.inj hm, ht ▸ hP, va_K.moved hW.alike hK, hD⟩, hS.F ht⟩) hS.2.2 dR_factor_66 hlk
    · have hm := brn hm c2
      refine lv_aload_n hx hb dR_factor_26 rfl (lv_at hl 0 rfl) ?_
      refine va_get (D := D) (ci := 6) (v := .ref (ad 3)) (C := RR) (T := TR) (N := 31) hx hb hT inR hown hK hP 0 rfl rfl 3 (by decide) (hT _ wd_538) (fun _ h9 => h9) rfl dR_factor_27 ?_
      refine lv_iconst (v := 4) hx hb dR_factor_30 (by decide) ?_
      refine lv_iload_n hx hb dR_factor_31 rfl (lv_at hl 1 rfl) ?_
      refine lv_bipush (v := 12) hx hb dR_factor_32 (by decide) ?_
      refine lv_isub hx hb dR_factor_34 ?_
      refine lv_topi (fun v6 ev6 => ?_)
      have hm := nm_to ev6 hm
      refine lv_iconst (v := 3) hx hb dR_factor_35 (by decide) ?_
      refine lv_irem hx hb dR_factor_36 (by decide) ?_
      refine lv_topi (fun v7 ev7 => ?_)
      have hm := nm_to ev7 hm
      refine lv_imul hx hb dR_factor_37 ?_
      refine lv_topi (fun v8 ev8 => ?_)
      have hm := nm_to ev8 hm
      refine lv_iload_n hx hb dR_factor_38 rfl (lv_at hl 2 rfl) ?_
      refine lv_iadd hx hb dR_factor_39 ?_
      refine lv_topi (fun v9 ev9 => ?_)
      have hm := nm_to ev9 hm
      obtain ⟨g10, hm⟩ := gd_to hm
      refine va_iald hx hb hK hP 3 0 rfl rfl g10 dR_factor_40 ?_
      refine lv_topi (fun v11 ev11 => ?_)
      have hm := nm_to ev11 hm
      refine lv_i2l hx hb dR_factor_41 rfl ?_
      refine lv_topl (fun v12 ev12 => ?_)
      have hm := nm_to ev12 hm
      exact W.lret hx hb hr (fun t ht hW => ⟨⟨v12, (I, J), rfl, Option.some.inj hm, ht ▸ hP, va_K.moved hW.alike hK, hD⟩, hS.F ht⟩) hS.2.2 dR_factor_42 hlk
  · have hm := brn hm c1
    refine lv_iload_n hx hb dR_factor_6 rfl (lv_at hl 1 rfl) ?_
    refine lv_bipush (v := 18) hx hb dR_factor_7 (by decide) ?_
    refine lv_isub hx hb dR_factor_9 ?_
    refine lv_topi (fun v13 ev13 => ?_)
    have hm := nm_to ev13 hm
    refine lv_iload_n hx hb dR_factor_10 rfl (lv_at hl 2 rfl) ?_
    refine lv_icmp_ne (tgt := 18) hx hb dR_factor_11 (by decide) (fun c14 => ?_) (fun c14 => ?_)
    · have hm := brn hm c14
      refine lv_lconst (v := 0) hx hb dR_factor_18 (by decide) ?_
      exact W.lret hx hb hr (fun t ht hW => ⟨⟨0, (I, J), rfl, Option.some.inj hm, ht ▸ hP, va_K.moved hW.alike hK, hD⟩, hS.F ht⟩) hS.2.2 dR_factor_19 hlk
    · have hm := brp hm c14
      refine lv_lconst (v := 1) hx hb dR_factor_14 (by decide) ?_
      refine lv_goto (tgt := 19) hx hb dR_factor_15 (by decide) ?_
      exact W.lret hx hb hr (fun t ht hW => ⟨⟨1, (I, J), rfl, Option.some.inj hm, ht ▸ hP, va_K.moved hW.alike hK, hD⟩, hS.F ht⟩) hS.2.2 dR_factor_19 hlk
set_option maxHeartbeats 4000000 in
set_option maxRecDepth 100000 in
theorem c_R_factor (l : Launch) (D : va_G) (ad : Nat → Nat) (cI cJ cG : ClassId) (sz : Nat) (x1 : Int32) (x2 : Int32) (I : SI) (J : SJ) (res : Int64 × SI × SJ) (hm : m_R_factor x1 x2 I J = some res) : Met l yR_factor (Cond.code yR_factor bR_factor 3 (some .long) :: gtb) rm_R_factor (va_Pc [.ref (ad 0), .int x1, .int x2] (preW D vwCl (tysR cI cJ cG) (wsR ad cI cJ cG I J) sz)) (va_Ql (fun (r : Int64) (u : SI × SJ) => (r, u) = res) (atW D vwCl (tysR cI cJ cG) (va_A (wsR ad cI cJ cG I J) sz) (wsR ad cI cJ cG)) (va_A (wsR ad cI cJ cG I J) sz)) 0 0 (va_A (wsR ad cI cJ cG I J) sz) := by
  refine Met.ofW (cc := bR_factor) (maxL := 3) (ret := (some .long)) (by decide) rfl ?_
  intro p e s m args below meth c s₁ B hml hv
  obtain ⟨rfl, hsz, hP, hK, hD0, hN⟩ := hv
  subst hsz
  have X : Cx p s m [.ref (ad 0), .int x1, .int x2].toArray meth c bR_factor (some .long) 3 RR := ⟨B.exec, B.bytes, B.returns, hml, findClass_of_methodNamed B.named, fun w h => atoms_spec (ws := (Cond.code yR_factor bR_factor 3 (some .long) :: gtb)) B.pre w (List.mem_cons_of_mem _ h), B.notSynchronized⟩
  have hl := lv_entry ([.ref (ad 0), .int x1, .int x2]) (n := 3) (Nat.le_of_ble_eq_true rfl)
  rw [lg_entry_eq]
  generalize (lg_sl ([.ref (ad 0), .int x1, .int x2]) ++ List.replicate (3 - (lg_sl ([.ref (ad 0), .int x1, .int x2])).length) Slot.unset).toArray = ls at hl ⊢
  have hl : lv_has ls 3 [(0, .ref (ad 0)), (1, .int x1), (2, .int x2)] := hl
  have hA : ∀ q, s.heap.size ≤ q → va_A (wsR ad cI cJ cG I J) s.heap.size q := fun q h => Or.inr h
  exact w_R_factor_0 X hK hN hA  x1 x2 I J hm _ _ _ hP hD0.self va_S.rf hl
def b_R_right_0 (x1 : Int32) (x2 : Int32) (I : SI) (J : SJ) : Option (Int64 × SI × SJ) :=
  if x1 < 18 then
    if x1 < 12 then
      if 4 ≤ x1 then
        nm (Int32.toInt64 x2) fun v4 =>
        if 8 ≤ x1 then
          nm (x1 - 8) fun v6 =>
          gd (vin v6 4) <|
          nm (I 5 v6.toNatClampNeg) fun v8 =>
          nm (Int32.toInt64 v8) fun v9 =>
          nm (v4 * v9) fun v10 =>
          some (v10, I, J)
        else
          nm (x1 - 4) fun v11 =>
          gd (vin v11 4) <|
          nm (I 4 v11.toNatClampNeg) fun v13 =>
          nm (Int32.toInt64 v13) fun v14 =>
          nm (v4 * v14) fun v15 =>
          some (v15, I, J)
      else
        gd (vin x1 4) <|
        nm (I 2 x1.toNatClampNeg) fun v17 =>
        nm (Int32.toInt64 v17) fun v18 =>
        some (v18, I, J)
    else
      nm (Int32.toInt64 x2) fun v19 =>
      if 15 ≤ x1 then
        nm (x1 - 15) fun v21 =>
        gd (vin v21 3) <|
        nm (I 8 v21.toNatClampNeg) fun v23 =>
        nm (Int32.toInt64 v23) fun v24 =>
        nm (v19 * v24) fun v25 =>
        some (v25, I, J)
      else
        nm (x1 - 12) fun v26 =>
        gd (vin v26 3) <|
        nm (I 7 v26.toNatClampNeg) fun v28 =>
        nm (Int32.toInt64 v28) fun v29 =>
        nm (v19 * v29) fun v30 =>
        some (v30, I, J)
  else
    some (0, I, J)
def m_R_right (x1 : Int32) (x2 : Int32) (I : SI) (J : SJ) : Option (Int64 × SI × SJ) := b_R_right_0 x1 x2 I J
def rm_R_right : Room := { frames := 0, cells := 0, slots := 0, locals := 0 }
set_option maxHeartbeats 4000000 in
set_option maxRecDepth 100000 in
theorem w_R_right_0 {p : Program} {l : Launch} {e : Env} {s : State} {m : MethodId} {args : Array Value} {below : List Frame} {meth : Method} {c : Code} {D : va_G} {A : Nat → Prop} {ad : Nat → Nat} {cI cJ cG : ClassId} {res : Int64 × SI × SJ} (X : Cx p s m args meth c bR_right (some .long) 3 RR) (hK : va_K D vwCl (tysR cI cJ cG) s) (hN : NWs s) (hA : ∀ q, s.heap.size ≤ q → A q)
     (x1 : Int32) (x2 : Int32) (I : SI) (J : SJ) (hm : b_R_right_0  x1 x2 I J = some res) : WB p l e (headSpec (Cond.code yR_right bR_right 3 (some .long) :: gtb) rm_R_right).room s m args below meth c (MQ below (va_Ql (fun (r : Int64) (u : SI × SJ) => (r, u) = res) (atW D vwCl (tysR cI cJ cG) A (wsR ad cI cJ cG)) A) args s 0 0 A) D vwCl A 3 (wsR ad cI cJ cG I J) 0 [(0, .ref (ad 0)), (1, .int x1), (2, .int x2)] [] := by
  obtain ⟨hx, hb, hr, hml, hown, hT, hlk⟩ := X
  intro H locs ls hP hD hS hl
  unfold b_R_right_0 at hm
  refine lv_iload_n hx hb dR_right_0 rfl (lv_at hl 1 rfl) ?_
  refine lv_bipush (v := 18) hx hb dR_right_1 (by decide) ?_
  refine lv_icmp_lt (tgt := 8) hx hb dR_right_3 (by decide) (fun c1 => ?_) (fun c1 => ?_)
  · have hm := brp hm c1
    refine lv_iload_n hx hb dR_right_8 rfl (lv_at hl 1 rfl) ?_
    refine lv_bipush (v := 12) hx hb dR_right_9 (by decide) ?_
    refine lv_icmp_lt (tgt := 46) hx hb dR_right_11 (by decide) (fun c2 => ?_) (fun c2 => ?_)
    · have hm := brp hm c2
      refine lv_iload_n hx hb dR_right_46 rfl (lv_at hl 1 rfl) ?_
      refine lv_iconst (v := 4) hx hb dR_right_47 (by decide) ?_
      refine lv_icmp_ge (tgt := 61) hx hb dR_right_48 (by decide) (fun c3 => ?_) (fun c3 => ?_)
      · have hm := brp hm c3
        refine lv_iload_n hx hb dR_right_61 rfl (lv_at hl 2 rfl) ?_
        refine lv_i2l hx hb dR_right_62 rfl ?_
        refine lv_topl (fun v4 ev4 => ?_)
        have hm := nm_to ev4 hm
        refine lv_iload_n hx hb dR_right_63 rfl (lv_at hl 1 rfl) ?_
        refine lv_bipush (v := 8) hx hb dR_right_64 (by decide) ?_
        refine lv_icmp_ge (tgt := 80) hx hb dR_right_66 (by decide) (fun c5 => ?_) (fun c5 => ?_)
        · have hm := brp hm c5
          refine lv_aload_n hx hb dR_right_80 rfl (lv_at hl 0 rfl) ?_
          refine va_get (D := D) (ci := 6) (v := .ref (ad 5)) (C := RR) (T := TR) (N := 31) hx hb hT inR hown hK hP 0 rfl rfl 5 (by decide) (hT _ wd_540) (fun _ h9 => h9) rfl dR_right_81 ?_
          refine lv_iload_n hx hb dR_right_84 rfl (lv_at hl 1 rfl) ?_
          refine lv_bipush (v := 8) hx hb dR_right_85 (by decide) ?_
          refine lv_isub hx hb dR_right_87 ?_
          refine lv_topi (fun v6 ev6 => ?_)
          have hm := nm_to ev6 hm
          obtain ⟨g7, hm⟩ := gd_to hm
          refine va_iald hx hb hK hP 5 0 rfl rfl g7 dR_right_88 ?_
          refine lv_topi (fun v8 ev8 => ?_)
          have hm := nm_to ev8 hm
          refine lv_i2l hx hb dR_right_89 rfl ?_
          refine lv_topl (fun v9 ev9 => ?_)
          have hm := nm_to ev9 hm
          refine lv_lmul hx hb dR_right_90 ?_
          refine lv_topl (fun v10 ev10 => ?_)
          have hm := nm_to ev10 hm
          exact W.lret hx hb hr (fun t ht hW => ⟨⟨v10, (I, J), rfl, Option.some.inj hm, ht ▸ hP, va_K.moved hW.alike hK, hD⟩, hS.F ht⟩) hS.2.2 dR_right_91 hlk
        · have hm := brn hm c5
          refine lv_aload_n hx hb dR_right_69 rfl (lv_at hl 0 rfl) ?_
          refine va_get (D := D) (ci := 6) (v := .ref (ad 4)) (C := RR) (T := TR) (N := 31) hx hb hT inR hown hK hP 0 rfl rfl 4 (by decide) (hT _ wd_539) (fun _ h9 => h9) rfl dR_right_70 ?_
          refine lv_iload_n hx hb dR_right_73 rfl (lv_at hl 1 rfl) ?_
          refine lv_iconst (v := 4) hx hb dR_right_74 (by decide) ?_
          refine lv_isub hx hb dR_right_75 ?_
          refine lv_topi (fun v11 ev11 => ?_)
          have hm := nm_to ev11 hm
          obtain ⟨g12, hm⟩ := gd_to hm
          refine va_iald hx hb hK hP 4 0 rfl rfl g12 dR_right_76 ?_
          refine lv_topi (fun v13 ev13 => ?_)
          have hm := nm_to ev13 hm
          refine lv_goto (tgt := 89) hx hb dR_right_77 (by decide) ?_
          refine lv_i2l hx hb dR_right_89 rfl ?_
          refine lv_topl (fun v14 ev14 => ?_)
          have hm := nm_to ev14 hm
          refine lv_lmul hx hb dR_right_90 ?_
          refine lv_topl (fun v15 ev15 => ?_)
          have hm := nm_to ev15 hm
          exact W.lret hx hb hr (fun t ht hW => ⟨⟨v15, (I, J), rfl, Option.some.inj hm, ht ▸ hP, va_K.moved hW.alike hK, hD⟩, hS.F ht⟩) hS.2.2 dR_right_91 hlk
      · have hm := brn hm c3
        refine lv_aload_n hx hb dR_right_51 rfl (lv_at hl 0 rfl) ?_
        refine va_get (D := D) (ci := 6) (v := .ref (ad 2)) (C := RR) (T := TR) (N := 31) hx hb hT inR hown hK hP 0 rfl rfl 2 (by decide) (hT _ wd_537) (fun _ h9 => h9) rfl dR_right_52 ?_
        refine lv_iload_n hx hb dR_right_55 rfl (lv_at hl 1 rfl) ?_
        obtain ⟨g16, hm⟩ := gd_to hm
        refine va_iald hx hb hK hP 2 0 rfl rfl g16 dR_right_56 ?_
        refine lv_topi (fun v17 ev17 => ?_)
        have hm := nm_to ev17 hm
        refine lv_i2l hx hb dR_right_57 rfl ?_
        refine lv_topl (fun v18 ev18 => ?_)
        have hm := nm_to ev18 hm
        refine lv_goto (tgt := 91) hx hb dR_right_58 (by decide) ?_
        exact W.lret hx hb hr (fun t ht hW => ⟨⟨v18, (I, J), rfl, Option.some.inj hm, ht ▸ hP, va_K.moved hW.alike hK, hD⟩, hS.F ht⟩) hS.2.2 dR_right_91 hlk
    · have hm := brn hm c2
      refine lv_iload_n hx hb dR_right_14 rfl (lv_at hl 2 rfl) ?_
      refine lv_i2l hx hb dR_right_15 rfl ?_
      refine lv_topl (fun v19 ev19 => ?_)
      have hm := nm_to ev19 hm
      refine lv_iload_n hx hb dR_right_16 rfl (lv_at hl 1 rfl) ?_
      refine lv_bipush (v := 15) hx hb dR_right_17 (by decide) ?_
      refine lv_icmp_ge (tgt := 34) hx hb dR_right_19 (by decide) (fun c20 => ?_) (fun c20 => ?_)
      · have hm := brp hm c20
        refine lv_aload_n hx hb dR_right_34 rfl (lv_at hl 0 rfl) ?_
        refine va_get (D := D) (ci := 6) (v := .ref (ad 8)) (C := RR) (T := TR) (N := 31) hx hb hT inR hown hK hP 0 rfl rfl 8 (by decide) (hT _ wd_543) (fun _ h9 => h9) rfl dR_right_35 ?_
        refine lv_iload_n hx hb dR_right_38 rfl (lv_at hl 1 rfl) ?_
        refine lv_bipush (v := 15) hx hb dR_right_39 (by decide) ?_
        refine lv_isub hx hb dR_right_41 ?_
        refine lv_topi (fun v21 ev21 => ?_)
        have hm := nm_to ev21 hm
        obtain ⟨g22, hm⟩ := gd_to hm
        refine va_iald hx hb hK hP 8 0 rfl rfl g22 dR_right_42 ?_
        refine lv_topi (fun v23 ev23 => ?_)
        have hm := nm_to ev23 hm
        refine lv_i2l hx hb dR_right_43 rfl ?_
        refine lv_topl (fun v24 ev24 => ?_)
        have hm := nm_to ev24 hm
        refine lv_lmul hx hb dR_right_44 ?_
        refine lv_topl (fun v25 ev25 => ?_)
        have hm := nm_to ev25 hm
        exact W.lret hx hb hr (fun t ht hW => ⟨⟨v25, (I, J), rfl, Option.some.inj hm, ht ▸ hP, va_K.moved hW.alike hK, hD⟩, hS.F ht⟩) hS.2.2 dR_right_45 hlk
      · have hm := brn hm c20
        refine lv_aload_n hx hb dR_right_22 rfl (lv_at hl 0 rfl) ?_
        refine va_get (D := D) (ci := 6) (v := .ref (ad 7)) (C := RR) (T := TR) (N := 31) hx hb hT inR hown hK hP 0 rfl rfl 7 (by decide) (hT _ wd_542) (fun _ h9 => h9) rfl dR_right_23 ?_
        refine lv_iload_n hx hb dR_right_26 rfl (lv_at hl 1 rfl) ?_
        refine lv_bipush (v := 12) hx hb dR_right_27 (by decide) ?_
        refine lv_isub hx hb dR_right_29 ?_
        refine lv_topi (fun v26 ev26 => ?_)
        have hm := nm_to ev26 hm
        obtain ⟨g27, hm⟩ := gd_to hm
        refine va_iald hx hb hK hP 7 0 rfl rfl g27 dR_right_30 ?_
        refine lv_topi (fun v28 ev28 => ?_)
        have hm := nm_to ev28 hm
        refine lv_goto (tgt := 43) hx hb dR_right_31 (by decide) ?_
        refine lv_i2l hx hb dR_right_43 rfl ?_
        refine lv_topl (fun v29 ev29 => ?_)
        have hm := nm_to ev29 hm
        refine lv_lmul hx hb dR_right_44 ?_
        refine lv_topl (fun v30 ev30 => ?_)
        have hm := nm_to ev30 hm
        exact W.lret hx hb hr (fun t ht hW => ⟨⟨v30, (I, J), rfl, Option.some.inj hm, ht ▸ hP, va_K.moved hW.alike hK, hD⟩, hS.F ht⟩) hS.2.2 dR_right_45 hlk
  · have hm := brn hm c1
    refine lv_lconst (v := 0) hx hb dR_right_6 (by decide) ?_
    exact W.lret hx hb hr (fun t ht hW => ⟨⟨0, (I, J), rfl, Option.some.inj hm, ht ▸ hP, va_K.moved hW.alike hK, hD⟩, hS.F ht⟩) hS.2.2 dR_right_7 hlk
set_option maxHeartbeats 4000000 in
set_option maxRecDepth 100000 in
theorem c_R_right (l : Launch) (D : va_G) (ad : Nat → Nat) (cI cJ cG : ClassId) (sz : Nat) (x1 : Int32) (x2 : Int32) (I : SI) (J : SJ) (res : Int64 × SI × SJ) (hm : m_R_right x1 x2 I J = some res) : Met l yR_right (Cond.code yR_right bR_right 3 (some .long) :: gtb) rm_R_right (va_Pc [.ref (ad 0), .int x1, .int x2] (preW D vwCl (tysR cI cJ cG) (wsR ad cI cJ cG I J) sz)) (va_Ql (fun (r : Int64) (u : SI × SJ) => (r, u) = res) (atW D vwCl (tysR cI cJ cG) (va_A (wsR ad cI cJ cG I J) sz) (wsR ad cI cJ cG)) (va_A (wsR ad cI cJ cG I J) sz)) 0 0 (va_A (wsR ad cI cJ cG I J) sz) := by
  refine Met.ofW (cc := bR_right) (maxL := 3) (ret := (some .long)) (by decide) rfl ?_
  intro p e s m args below meth c s₁ B hml hv
  obtain ⟨rfl, hsz, hP, hK, hD0, hN⟩ := hv
  subst hsz
  have X : Cx p s m [.ref (ad 0), .int x1, .int x2].toArray meth c bR_right (some .long) 3 RR := ⟨B.exec, B.bytes, B.returns, hml, findClass_of_methodNamed B.named, fun w h => atoms_spec (ws := (Cond.code yR_right bR_right 3 (some .long) :: gtb)) B.pre w (List.mem_cons_of_mem _ h), B.notSynchronized⟩
  have hl := lv_entry ([.ref (ad 0), .int x1, .int x2]) (n := 3) (Nat.le_of_ble_eq_true rfl)
  rw [lg_entry_eq]
  generalize (lg_sl ([.ref (ad 0), .int x1, .int x2]) ++ List.replicate (3 - (lg_sl ([.ref (ad 0), .int x1, .int x2])).length) Slot.unset).toArray = ls at hl ⊢
  have hl : lv_has ls 3 [(0, .ref (ad 0)), (1, .int x1), (2, .int x2)] := hl
  have hA : ∀ q, s.heap.size ≤ q → va_A (wsR ad cI cJ cG I J) s.heap.size q := fun q h => Or.inr h
  exact w_R_right_0 X hK hN hA  x1 x2 I J hm _ _ _ hP hD0.self va_S.rf hl
def b_R_stuff_0 (x1 : Int32) (x2 : Int32) (I : SI) (J : SJ) : Option (Int32 × SI × SJ) :=
  if (I 0 0) = 4 then
    some (-1, I, J)
  else
    cl1 (m_R_in x1 0 1000) fun r2 =>
    if r2 = 0 then
      some (-1, I, J)
    else
      cl1 (m_R_in x2 0 40) fun r5 =>
      if r5 = 0 then
        some (-1, I, J)
      else
        gd (vin (I 0 0) 4) <|
        nm (va_up I 1 (upd (I 1) (I 0 0).toNatClampNeg x1)) fun I9 =>
        gd (vin (I9 0 0) 4) <|
        nm (va_up I9 2 (upd (I9 2) (I9 0 0).toNatClampNeg x2)) fun I11 =>
        gd (vin (I11 0 0) 4) <|
        nm (va_up I11 5 (upd (I11 5) (I11 0 0).toNatClampNeg 10)) fun I13 =>
        nm ((I13 0 0) + 1) fun v14 =>
        nm (va_up I13 0 (upd (I13 0) 0 v14)) fun I15 =>
        nm ((I15 0 0) - 1) fun v16 =>
        some (v16, I15, J)
def m_R_stuff (x1 : Int32) (x2 : Int32) (I : SI) (J : SJ) : Option (Int32 × SI × SJ) := b_R_stuff_0 x1 x2 I J
def rm_R_stuff : Room := { frames := 1, cells := 0, slots := 0, locals := 22 }
set_option maxHeartbeats 4000000 in
set_option maxRecDepth 100000 in
theorem w_R_stuff_0 {p : Program} {l : Launch} {e : Env} {s : State} {m : MethodId} {args : Array Value} {below : List Frame} {meth : Method} {c : Code} {D : va_G} {A : Nat → Prop} {ad : Nat → Nat} {cI cJ cG : ClassId} {res : Int32 × SI × SJ} (X : Cx p s m args meth c bR_stuff (some .int) 3 RR) (hK : va_K D vwCl (tysR cI cJ cG) s) (hN : NWs s) (hA : ∀ q, s.heap.size ≤ q → A q)
     (x1 : Int32) (x2 : Int32) (I : SI) (J : SJ) (hm : b_R_stuff_0  x1 x2 I J = some res) : WB p l e (headSpec (Cond.code yR_stuff bR_stuff 3 (some .int) :: gtb) rm_R_stuff).room s m args below meth c (MQ below (va_Qi (fun (r : Int32) (u : SI × SJ) => (r, u) = res) (atW D vwCl (tysR cI cJ cG) A (wsR ad cI cJ cG)) A) args s 0 0 A) D vwCl A 3 (wsR ad cI cJ cG I J) 0 [(0, .ref (ad 0)), (1, .int x1), (2, .int x2)] [] := by
  obtain ⟨hx, hb, hr, hml, hown, hT, hlk⟩ := X
  intro H locs ls hP hD hS hl
  unfold b_R_stuff_0 at hm
  refine lv_aload_n hx hb dR_stuff_0 rfl (lv_at hl 0 rfl) ?_
  refine va_get (D := D) (ci := 6) (v := .int (I 0 0)) (C := RR) (T := TR) (N := 31) hx hb hT inR hown hK hP 0 rfl rfl 0 (by decide) (hT _ wd_535) (fun _ h9 => h9) rfl dR_stuff_1 ?_
  refine lv_iconst (v := 4) hx hb dR_stuff_4 (by decide) ?_
  refine lv_icmp_eq (tgt := 29) hx hb dR_stuff_5 (by decide) (fun c1 => ?_) (fun c1 => ?_)
  · have hm := brp hm c1
    refine lv_iconst (v := (-1)) hx hb dR_stuff_29 (by decide) ?_
    exact W.iret hx hb hr (fun t ht hW => ⟨⟨-1, (I, J), rfl, Option.some.inj hm, ht ▸ hP, va_K.moved hW.alike hK, hD⟩, hS.F ht⟩) hS.2.2 dR_stuff_30 hlk
  · have hm := brn hm c1
    refine lv_iload_n hx hb dR_stuff_8 rfl (lv_at hl 1 rfl) ?_
    refine lv_iconst (v := 0) hx hb dR_stuff_9 (by decide) ?_
    refine lv_sipush (v := 1000) hx hb dR_stuff_10 (by decide) ?_
    obtain ⟨r2, hc3, hm⟩ := cl1_to hm
    refine pstZ_i hS (va_runS (As := [.int x1, .int 0, .int 1000]) (rest := []) ⟨hx, hb, hml, hown, hT⟩ (c_R_in l x1 0 1000 _ hc3) (va_cwS 3 hT (gS wd_634 wd_635 wd_57 wd_636) rfl rfl rfl (by decide +kernel) ⟨Nat.le_of_ble_eq_true rfl, Nat.le_of_ble_eq_true rfl⟩) ⟨preZ_fb, preZ_at⟩ rfl rfl hl.1 rfl (lv_room (Nat.le_of_ble_eq_true rfl)) dR_stuff_13 ⟨Nat.zero_le _, Nat.zero_le _⟩) (fun H1 locs hq hS => ?_)
    have hP := keptP hP hq
    refine lv_if_eq (tgt := 29) hx hb dR_stuff_16 (by decide) (fun c4 => ?_) (fun c4 => ?_)
    · have hm := brp hm c4
      refine lv_iconst (v := (-1)) hx hb dR_stuff_29 (by decide) ?_
      exact W.iret hx hb hr (fun t ht hW => ⟨⟨-1, (I, J), rfl, Option.some.inj hm, ht ▸ hP, va_K.moved hW.alike hK, hD⟩, hS.F ht⟩) hS.2.2 dR_stuff_30 hlk
    · have hm := brn hm c4
      refine lv_iload_n hx hb dR_stuff_19 rfl (lv_at hl 2 rfl) ?_
      refine lv_iconst (v := 0) hx hb dR_stuff_20 (by decide) ?_
      refine lv_bipush (v := 40) hx hb dR_stuff_21 (by decide) ?_
      obtain ⟨r5, hc6, hm⟩ := cl1_to hm
      refine pstZ_i hS (va_runS (As := [.int x2, .int 0, .int 40]) (rest := []) ⟨hx, hb, hml, hown, hT⟩ (c_R_in l x2 0 40 _ hc6) (va_cwS 3 hT (gS wd_634 wd_635 wd_57 wd_636) rfl rfl rfl (by decide +kernel) ⟨Nat.le_of_ble_eq_true rfl, Nat.le_of_ble_eq_true rfl⟩) ⟨preZ_fb, preZ_at⟩ rfl rfl hl.1 rfl (lv_room (Nat.le_of_ble_eq_true rfl)) dR_stuff_23 ⟨Nat.zero_le _, Nat.zero_le _⟩) (fun H1 locs hq hS => ?_)
      have hP := keptP hP hq
      refine lv_if_ne (tgt := 31) hx hb dR_stuff_26 (by decide) (fun c7 => ?_) (fun c7 => ?_)
      · have hm := brn hm c7
        refine lv_aload_n hx hb dR_stuff_31 rfl (lv_at hl 0 rfl) ?_
        refine va_get (D := D) (ci := 6) (v := .ref (ad 1)) (C := RR) (T := TR) (N := 31) hx hb hT inR hown hK hP 0 rfl rfl 1 (by decide) (hT _ wd_536) (fun _ h9 => h9) rfl dR_stuff_32 ?_
        refine lv_aload_n hx hb dR_stuff_35 rfl (lv_at hl 0 rfl) ?_
        refine va_get (D := D) (ci := 6) (v := .int (I 0 0)) (C := RR) (T := TR) (N := 31) hx hb hT inR hown hK hP 0 rfl rfl 0 (by decide) (hT _ wd_535) (fun _ h9 => h9) rfl dR_stuff_36 ?_
        refine lv_iload_n hx hb dR_stuff_39 rfl (lv_at hl 1 rfl) ?_
        obtain ⟨g8, hm⟩ := gd_to hm
        refine va_iast hx hb hK hP hD hS 1 0 rfl rfl g8 dR_stuff_40 (fun H locs hP hD hS => ?_)
        obtain ⟨I9, eI9⟩ : ∃ z : SI, z = va_up I 1 (upd (I 1) (I 0 0).toNatClampNeg x1) := ⟨_, rfl⟩
        have hm := nm_to eI9 hm
        have hP := P_eq (ws2 := wsR ad cI cJ cG I9 J) hP (by rw [eI9]; rfl)
        have hD := D_eq (ws2 := wsR ad cI cJ cG I9 J) hD (by rw [eI9]; rfl)
        refine lv_aload_n hx hb dR_stuff_41 rfl (lv_at hl 0 rfl) ?_
        refine va_get (D := D) (ci := 6) (v := .ref (ad 2)) (C := RR) (T := TR) (N := 31) hx hb hT inR hown hK hP 0 rfl rfl 2 (by decide) (hT _ wd_537) (fun _ h9 => h9) rfl dR_stuff_42 ?_
        refine lv_aload_n hx hb dR_stuff_45 rfl (lv_at hl 0 rfl) ?_
        refine va_get (D := D) (ci := 6) (v := .int (I9 0 0)) (C := RR) (T := TR) (N := 31) hx hb hT inR hown hK hP 0 rfl rfl 0 (by decide) (hT _ wd_535) (fun _ h9 => h9) rfl dR_stuff_46 ?_
        refine lv_iload_n hx hb dR_stuff_49 rfl (lv_at hl 2 rfl) ?_
        obtain ⟨g10, hm⟩ := gd_to hm
        refine va_iast hx hb hK hP hD hS 2 0 rfl rfl g10 dR_stuff_50 (fun H locs hP hD hS => ?_)
        obtain ⟨I11, eI11⟩ : ∃ z : SI, z = va_up I9 2 (upd (I9 2) (I9 0 0).toNatClampNeg x2) := ⟨_, rfl⟩
        have hm := nm_to eI11 hm
        have hP := P_eq (ws2 := wsR ad cI cJ cG I11 J) hP (by rw [eI11]; rfl)
        have hD := D_eq (ws2 := wsR ad cI cJ cG I11 J) hD (by rw [eI11]; rfl)
        refine lv_aload_n hx hb dR_stuff_51 rfl (lv_at hl 0 rfl) ?_
        refine va_get (D := D) (ci := 6) (v := .ref (ad 5)) (C := RR) (T := TR) (N := 31) hx hb hT inR hown hK hP 0 rfl rfl 5 (by decide) (hT _ wd_540) (fun _ h9 => h9) rfl dR_stuff_52 ?_
        refine lv_aload_n hx hb dR_stuff_55 rfl (lv_at hl 0 rfl) ?_
        refine va_get (D := D) (ci := 6) (v := .int (I11 0 0)) (C := RR) (T := TR) (N := 31) hx hb hT inR hown hK hP 0 rfl rfl 0 (by decide) (hT _ wd_535) (fun _ h9 => h9) rfl dR_stuff_56 ?_
        refine lv_bipush (v := 10) hx hb dR_stuff_59 (by decide) ?_
        obtain ⟨g12, hm⟩ := gd_to hm
        refine va_iast hx hb hK hP hD hS 5 0 rfl rfl g12 dR_stuff_61 (fun H locs hP hD hS => ?_)
        obtain ⟨I13, eI13⟩ : ∃ z : SI, z = va_up I11 5 (upd (I11 5) (I11 0 0).toNatClampNeg 10) := ⟨_, rfl⟩
        have hm := nm_to eI13 hm
        have hP := P_eq (ws2 := wsR ad cI cJ cG I13 J) hP (by rw [eI13]; rfl)
        have hD := D_eq (ws2 := wsR ad cI cJ cG I13 J) hD (by rw [eI13]; rfl)
        refine lv_aload_n hx hb dR_stuff_62 rfl (lv_at hl 0 rfl) ?_
        refine lv_dup hx hb dR_stuff_63 rfl ?_
        refine va_get (D := D) (ci := 6) (v := .int (I13 0 0)) (C := RR) (T := TR) (N := 31) hx hb hT inR hown hK hP 0 rfl rfl 0 (by decide) (hT _ wd_535) (fun _ h9 => h9) rfl dR_stuff_64 ?_
        refine lv_iconst (v := 1) hx hb dR_stuff_67 (by decide) ?_
        refine lv_iadd hx hb dR_stuff_68 ?_
        refine lv_topi (fun v14 ev14 => ?_)
        have hm := nm_to ev14 hm
        refine va_put (D := D) (ci := 6) (v := .int v14) (ty := .int) (C := RR) (T := TR) (N := 31) hx hb hT inR tyR okR nmR hown hK hP hD hS 0 rfl rfl 0 (by decide) (hT _ wd_535) (fun _ h9 => h9) rfl pf_I rfl rfl (Nat.le_of_ble_eq_true rfl) dR_stuff_69 (fun H locs hP hD hS => ?_)
        obtain ⟨I15, eI15⟩ : ∃ z : SI, z = va_up I13 0 (upd (I13 0) 0 v14) := ⟨_, rfl⟩
        have hm := nm_to eI15 hm
        have hP := P_eq (ws2 := wsR ad cI cJ cG I15 J) hP (by rw [eI15]; rfl)
        have hD := D_eq (ws2 := wsR ad cI cJ cG I15 J) hD (by rw [eI15]; rfl)
        refine lv_aload_n hx hb dR_stuff_72 rfl (lv_at hl 0 rfl) ?_
        refine va_get (D := D) (ci := 6) (v := .int (I15 0 0)) (C := RR) (T := TR) (N := 31) hx hb hT inR hown hK hP 0 rfl rfl 0 (by decide) (hT _ wd_535) (fun _ h9 => h9) rfl dR_stuff_73 ?_
        refine lv_iconst (v := 1) hx hb dR_stuff_76 (by decide) ?_
        refine lv_isub hx hb dR_stuff_77 ?_
        refine lv_topi (fun v16 ev16 => ?_)
        have hm := nm_to ev16 hm
        exact W.iret hx hb hr (fun t ht hW => ⟨⟨v16, (I15, J), rfl, Option.some.inj hm, ht ▸ hP, va_K.moved hW.alike hK, hD⟩, hS.F ht⟩) hS.2.2 dR_stuff_78 hlk
      · have hm := brp hm c7
        refine lv_iconst (v := (-1)) hx hb dR_stuff_29 (by decide) ?_
        exact W.iret hx hb hr (fun t ht hW => ⟨⟨-1, (I, J), rfl, Option.some.inj hm, ht ▸ hP, va_K.moved hW.alike hK, hD⟩, hS.F ht⟩) hS.2.2 dR_stuff_30 hlk
set_option maxHeartbeats 4000000 in
set_option maxRecDepth 100000 in
theorem c_R_stuff (l : Launch) (D : va_G) (ad : Nat → Nat) (cI cJ cG : ClassId) (sz : Nat) (x1 : Int32) (x2 : Int32) (I : SI) (J : SJ) (res : Int32 × SI × SJ) (hm : m_R_stuff x1 x2 I J = some res) : Met l yR_stuff (Cond.code yR_stuff bR_stuff 3 (some .int) :: gtb) rm_R_stuff (va_Pc [.ref (ad 0), .int x1, .int x2] (preW D vwCl (tysR cI cJ cG) (wsR ad cI cJ cG I J) sz)) (va_Qi (fun (r : Int32) (u : SI × SJ) => (r, u) = res) (atW D vwCl (tysR cI cJ cG) (va_A (wsR ad cI cJ cG I J) sz) (wsR ad cI cJ cG)) (va_A (wsR ad cI cJ cG I J) sz)) 0 0 (va_A (wsR ad cI cJ cG I J) sz) := by
  refine Met.ofW (cc := bR_stuff) (maxL := 3) (ret := (some .int)) (by decide) rfl ?_
  intro p e s m args below meth c s₁ B hml hv
  obtain ⟨rfl, hsz, hP, hK, hD0, hN⟩ := hv
  subst hsz
  have X : Cx p s m [.ref (ad 0), .int x1, .int x2].toArray meth c bR_stuff (some .int) 3 RR := ⟨B.exec, B.bytes, B.returns, hml, findClass_of_methodNamed B.named, fun w h => atoms_spec (ws := (Cond.code yR_stuff bR_stuff 3 (some .int) :: gtb)) B.pre w (List.mem_cons_of_mem _ h), B.notSynchronized⟩
  have hl := lv_entry ([.ref (ad 0), .int x1, .int x2]) (n := 3) (Nat.le_of_ble_eq_true rfl)
  rw [lg_entry_eq]
  generalize (lg_sl ([.ref (ad 0), .int x1, .int x2]) ++ List.replicate (3 - (lg_sl ([.ref (ad 0), .int x1, .int x2])).length) Slot.unset).toArray = ls at hl ⊢
  have hl : lv_has ls 3 [(0, .ref (ad 0)), (1, .int x1), (2, .int x2)] := hl
  have hA : ∀ q, s.heap.size ≤ q → va_A (wsR ad cI cJ cG I J) s.heap.size q := fun q h => Or.inr h
  exact w_R_stuff_0 X hK hN hA  x1 x2 I J hm _ _ _ hP hD0.self va_S.rf hl
def b_R_price_0 (x1 : Int32) (x2 : Int32) (I : SI) (J : SJ) : Option (Int32 × SI × SJ) :=
  cl3 (m_R_isStuff x1 I J) fun r1 I2 J3 =>
  if r1 = 0 then
    some (-1, I2, J3)
  else
    cl1 (m_R_in x2 0 1000) fun r6 =>
    if r6 = 0 then
      some (-1, I2, J3)
    else
      gd (vin x1 4) <|
      nm (I2 1 x1.toNatClampNeg) fun v10 =>
      gd (vin x1 4) <|
      nm (va_up I2 1 (upd (I2 1) x1.toNatClampNeg x2)) fun I12 =>
      some (v10, I12, J3)
def m_R_price (x1 : Int32) (x2 : Int32) (I : SI) (J : SJ) : Option (Int32 × SI × SJ) := b_R_price_0 x1 x2 I J
def rm_R_price : Room := { frames := 1, cells := 0, slots := 0, locals := 22 }
set_option maxHeartbeats 4000000 in
set_option maxRecDepth 100000 in
theorem w_R_price_0 {p : Program} {l : Launch} {e : Env} {s : State} {m : MethodId} {args : Array Value} {below : List Frame} {meth : Method} {c : Code} {D : va_G} {A : Nat → Prop} {ad : Nat → Nat} {cI cJ cG : ClassId} {res : Int32 × SI × SJ} (X : Cx p s m args meth c bR_price (some .int) 4 RR) (hK : va_K D vwCl (tysR cI cJ cG) s) (hN : NWs s) (hA : ∀ q, s.heap.size ≤ q → A q)
     (x1 : Int32) (x2 : Int32) (I : SI) (J : SJ) (hm : b_R_price_0  x1 x2 I J = some res) : WB p l e (headSpec (Cond.code yR_price bR_price 4 (some .int) :: gtb) rm_R_price).room s m args below meth c (MQ below (va_Qi (fun (r : Int32) (u : SI × SJ) => (r, u) = res) (atW D vwCl (tysR cI cJ cG) A (wsR ad cI cJ cG)) A) args s 0 0 A) D vwCl A 4 (wsR ad cI cJ cG I J) 0 [(0, .ref (ad 0)), (1, .int x1), (2, .int x2)] [] := by
  obtain ⟨hx, hb, hr, hml, hown, hT, hlk⟩ := X
  intro H locs ls hP hD hS hl
  unfold b_R_price_0 at hm
  refine lv_aload_n hx hb dR_price_0 rfl (lv_at hl 0 rfl) ?_
  refine lv_iload_n hx hb dR_price_1 rfl (lv_at hl 1 rfl) ?_
  obtain ⟨r1, I2, J3, hc4, hm⟩ := cl3_to hm
  refine pst_i (wf := wsR ad cI cJ cG) hD hS hA (va_runV (As := [.int x1]) (rest := []) ⟨hx, hb, hml, hown, hT⟩ (c_R_isStuff l D ad cI cJ cG _ x1 I J _ hc4) (cwV 1 hT (gV wd_641 wd_643 wd_32 wd_57 wd_644) rfl rfl rfl (by decide +kernel) ⟨Nat.le_of_ble_eq_true rfl, Nat.le_of_ble_eq_true rfl⟩) ⟨preW_fb, va_recv hK hP (ci := 6) (q0 := 0) rfl rfl, preW_at hP hK hN hD⟩ rfl rfl hl.1 rfl (lv_room (Nat.le_of_ble_eq_true rfl)) dR_price_2 ⟨Nat.zero_le _, Nat.zero_le _⟩) (fun H locs hP hD hS => ?_)
  refine lv_if_eq (tgt := 19) hx hb dR_price_5 (by decide) (fun c5 => ?_) (fun c5 => ?_)
  · have hm := brp hm c5
    refine lv_iconst (v := (-1)) hx hb dR_price_19 (by decide) ?_
    exact W.iret hx hb hr (fun t ht hW => ⟨⟨-1, (I2, J3), rfl, Option.some.inj hm, ht ▸ hP, va_K.moved hW.alike hK, hD⟩, hS.F ht⟩) hS.2.2 dR_price_20 hlk
  · have hm := brn hm c5
    refine lv_iload_n hx hb dR_price_8 rfl (lv_at hl 2 rfl) ?_
    refine lv_iconst (v := 0) hx hb dR_price_9 (by decide) ?_
    refine lv_sipush (v := 1000) hx hb dR_price_10 (by decide) ?_
    obtain ⟨r6, hc7, hm⟩ := cl1_to hm
    refine pstZ_i hS (va_runS (As := [.int x2, .int 0, .int 1000]) (rest := []) ⟨hx, hb, hml, hown, hT⟩ (c_R_in l x2 0 1000 _ hc7) (va_cwS 3 hT (gS wd_634 wd_635 wd_57 wd_636) rfl rfl rfl (by decide +kernel) ⟨Nat.le_of_ble_eq_true rfl, Nat.le_of_ble_eq_true rfl⟩) ⟨preZ_fb, preZ_at⟩ rfl rfl hl.1 rfl (lv_room (Nat.le_of_ble_eq_true rfl)) dR_price_13 ⟨Nat.zero_le _, Nat.zero_le _⟩) (fun H1 locs hq hS => ?_)
    have hP := keptP hP hq
    refine lv_if_ne (tgt := 21) hx hb dR_price_16 (by decide) (fun c8 => ?_) (fun c8 => ?_)
    · have hm := brn hm c8
      refine lv_aload_n hx hb dR_price_21 rfl (lv_at hl 0 rfl) ?_
      refine va_get (D := D) (ci := 6) (v := .ref (ad 1)) (C := RR) (T := TR) (N := 31) hx hb hT inR hown hK hP 0 rfl rfl 1 (by decide) (hT _ wd_536) (fun _ h9 => h9) rfl dR_price_22 ?_
      refine lv_iload_n hx hb dR_price_25 rfl (lv_at hl 1 rfl) ?_
      obtain ⟨g9, hm⟩ := gd_to hm
      refine va_iald hx hb hK hP 1 0 rfl rfl g9 dR_price_26 ?_
      refine lv_topi (fun v10 ev10 => ?_)
      have hm := nm_to ev10 hm
      refine lv_istore_n (lv' := [(3, .int v10), (0, .ref (ad 0)), (1, .int x1), (2, .int x2)]) hx hb dR_price_27 rfl hl (by decide) rfl (fun ls hl => ?_)
      refine lv_aload_n hx hb dR_price_28 rfl (lv_at hl 1 rfl) ?_
      refine va_get (D := D) (ci := 6) (v := .ref (ad 1)) (C := RR) (T := TR) (N := 31) hx hb hT inR hown hK hP 0 rfl rfl 1 (by decide) (hT _ wd_536) (fun _ h9 => h9) rfl dR_price_29 ?_
      refine lv_iload_n hx hb dR_price_32 rfl (lv_at hl 2 rfl) ?_
      refine lv_iload_n hx hb dR_price_33 rfl (lv_at hl 3 rfl) ?_
      obtain ⟨g11, hm⟩ := gd_to hm
      refine va_iast hx hb hK hP hD hS 1 0 rfl rfl g11 dR_price_34 (fun H locs hP hD hS => ?_)
      obtain ⟨I12, eI12⟩ : ∃ z : SI, z = va_up I2 1 (upd (I2 1) x1.toNatClampNeg x2) := ⟨_, rfl⟩
      have hm := nm_to eI12 hm
      have hP := P_eq (ws2 := wsR ad cI cJ cG I12 J3) hP (by rw [eI12]; rfl)
      have hD := D_eq (ws2 := wsR ad cI cJ cG I12 J3) hD (by rw [eI12]; rfl)
      refine lv_iload_n hx hb dR_price_35 rfl (lv_at hl 0 rfl) ?_
      exact W.iret hx hb hr (fun t ht hW => ⟨⟨v10, (I12, J3), rfl, Option.some.inj hm, ht ▸ hP, va_K.moved hW.alike hK, hD⟩, hS.F ht⟩) hS.2.2 dR_price_36 hlk
    · have hm := brp hm c8
      refine lv_iconst (v := (-1)) hx hb dR_price_19 (by decide) ?_
      exact W.iret hx hb hr (fun t ht hW => ⟨⟨-1, (I2, J3), rfl, Option.some.inj hm, ht ▸ hP, va_K.moved hW.alike hK, hD⟩, hS.F ht⟩) hS.2.2 dR_price_20 hlk
set_option maxHeartbeats 4000000 in
set_option maxRecDepth 100000 in
theorem c_R_price (l : Launch) (D : va_G) (ad : Nat → Nat) (cI cJ cG : ClassId) (sz : Nat) (x1 : Int32) (x2 : Int32) (I : SI) (J : SJ) (res : Int32 × SI × SJ) (hm : m_R_price x1 x2 I J = some res) : Met l yR_price (Cond.code yR_price bR_price 4 (some .int) :: gtb) rm_R_price (va_Pc [.ref (ad 0), .int x1, .int x2] (preW D vwCl (tysR cI cJ cG) (wsR ad cI cJ cG I J) sz)) (va_Qi (fun (r : Int32) (u : SI × SJ) => (r, u) = res) (atW D vwCl (tysR cI cJ cG) (va_A (wsR ad cI cJ cG I J) sz) (wsR ad cI cJ cG)) (va_A (wsR ad cI cJ cG I J) sz)) 0 0 (va_A (wsR ad cI cJ cG I J) sz) := by
  refine Met.ofW (cc := bR_price) (maxL := 4) (ret := (some .int)) (by decide) rfl ?_
  intro p e s m args below meth c s₁ B hml hv
  obtain ⟨rfl, hsz, hP, hK, hD0, hN⟩ := hv
  subst hsz
  have X : Cx p s m [.ref (ad 0), .int x1, .int x2].toArray meth c bR_price (some .int) 4 RR := ⟨B.exec, B.bytes, B.returns, hml, findClass_of_methodNamed B.named, fun w h => atoms_spec (ws := (Cond.code yR_price bR_price 4 (some .int) :: gtb)) B.pre w (List.mem_cons_of_mem _ h), B.notSynchronized⟩
  have hl := lv_entry ([.ref (ad 0), .int x1, .int x2]) (n := 4) (Nat.le_of_ble_eq_true rfl)
  rw [lg_entry_eq]
  generalize (lg_sl ([.ref (ad 0), .int x1, .int x2]) ++ List.replicate (4 - (lg_sl ([.ref (ad 0), .int x1, .int x2])).length) Slot.unset).toArray = ls at hl ⊢
  have hl : lv_has ls 4 [(0, .ref (ad 0)), (1, .int x1), (2, .int x2)] := hl
  have hA : ∀ q, s.heap.size ≤ q → va_A (wsR ad cI cJ cG I J) s.heap.size q := fun q h => Or.inr h
  exact w_R_price_0 X hK hN hA  x1 x2 I J hm _ _ _ hP hD0.self va_S.rf hl
def b_R_stock_0 (x1 : Int32) (x2 : Int32) (I : SI) (J : SJ) : Option (Int32 × SI × SJ) :=
  cl3 (m_R_isStuff x1 I J) fun r1 I2 J3 =>
  if r1 = 0 then
    some (-1, I2, J3)
  else
    cl1 (m_R_in x2 0 40) fun r6 =>
    if r6 = 0 then
      some (-1, I2, J3)
    else
      gd (vin x1 4) <|
      nm (I2 2 x1.toNatClampNeg) fun v10 =>
      gd (vin x1 4) <|
      nm (va_up I2 2 (upd (I2 2) x1.toNatClampNeg x2)) fun I12 =>
      some (v10, I12, J3)
def m_R_stock (x1 : Int32) (x2 : Int32) (I : SI) (J : SJ) : Option (Int32 × SI × SJ) := b_R_stock_0 x1 x2 I J
def rm_R_stock : Room := { frames := 1, cells := 0, slots := 0, locals := 22 }
set_option maxHeartbeats 4000000 in
set_option maxRecDepth 100000 in
theorem w_R_stock_0 {p : Program} {l : Launch} {e : Env} {s : State} {m : MethodId} {args : Array Value} {below : List Frame} {meth : Method} {c : Code} {D : va_G} {A : Nat → Prop} {ad : Nat → Nat} {cI cJ cG : ClassId} {res : Int32 × SI × SJ} (X : Cx p s m args meth c bR_stock (some .int) 4 RR) (hK : va_K D vwCl (tysR cI cJ cG) s) (hN : NWs s) (hA : ∀ q, s.heap.size ≤ q → A q)
     (x1 : Int32) (x2 : Int32) (I : SI) (J : SJ) (hm : b_R_stock_0  x1 x2 I J = some res) : WB p l e (headSpec (Cond.code yR_stock bR_stock 4 (some .int) :: gtb) rm_R_stock).room s m args below meth c (MQ below (va_Qi (fun (r : Int32) (u : SI × SJ) => (r, u) = res) (atW D vwCl (tysR cI cJ cG) A (wsR ad cI cJ cG)) A) args s 0 0 A) D vwCl A 4 (wsR ad cI cJ cG I J) 0 [(0, .ref (ad 0)), (1, .int x1), (2, .int x2)] [] := by
  obtain ⟨hx, hb, hr, hml, hown, hT, hlk⟩ := X
  intro H locs ls hP hD hS hl
  unfold b_R_stock_0 at hm
  refine lv_aload_n hx hb dR_stock_0 rfl (lv_at hl 0 rfl) ?_
  refine lv_iload_n hx hb dR_stock_1 rfl (lv_at hl 1 rfl) ?_
  obtain ⟨r1, I2, J3, hc4, hm⟩ := cl3_to hm
  refine pst_i (wf := wsR ad cI cJ cG) hD hS hA (va_runV (As := [.int x1]) (rest := []) ⟨hx, hb, hml, hown, hT⟩ (c_R_isStuff l D ad cI cJ cG _ x1 I J _ hc4) (cwV 1 hT (gV wd_641 wd_643 wd_32 wd_57 wd_644) rfl rfl rfl (by decide +kernel) ⟨Nat.le_of_ble_eq_true rfl, Nat.le_of_ble_eq_true rfl⟩) ⟨preW_fb, va_recv hK hP (ci := 6) (q0 := 0) rfl rfl, preW_at hP hK hN hD⟩ rfl rfl hl.1 rfl (lv_room (Nat.le_of_ble_eq_true rfl)) dR_stock_2 ⟨Nat.zero_le _, Nat.zero_le _⟩) (fun H locs hP hD hS => ?_)
  refine lv_if_eq (tgt := 18) hx hb dR_stock_5 (by decide) (fun c5 => ?_) (fun c5 => ?_)
  · have hm := brp hm c5
    refine lv_iconst (v := (-1)) hx hb dR_stock_18 (by decide) ?_
    exact W.iret hx hb hr (fun t ht hW => ⟨⟨-1, (I2, J3), rfl, Option.some.inj hm, ht ▸ hP, va_K.moved hW.alike hK, hD⟩, hS.F ht⟩) hS.2.2 dR_stock_19 hlk
  · have hm := brn hm c5
    refine lv_iload_n hx hb dR_stock_8 rfl (lv_at hl 2 rfl) ?_
    refine lv_iconst (v := 0) hx hb dR_stock_9 (by decide) ?_
    refine lv_bipush (v := 40) hx hb dR_stock_10 (by decide) ?_
    obtain ⟨r6, hc7, hm⟩ := cl1_to hm
    refine pstZ_i hS (va_runS (As := [.int x2, .int 0, .int 40]) (rest := []) ⟨hx, hb, hml, hown, hT⟩ (c_R_in l x2 0 40 _ hc7) (va_cwS 3 hT (gS wd_634 wd_635 wd_57 wd_636) rfl rfl rfl (by decide +kernel) ⟨Nat.le_of_ble_eq_true rfl, Nat.le_of_ble_eq_true rfl⟩) ⟨preZ_fb, preZ_at⟩ rfl rfl hl.1 rfl (lv_room (Nat.le_of_ble_eq_true rfl)) dR_stock_12 ⟨Nat.zero_le _, Nat.zero_le _⟩) (fun H1 locs hq hS => ?_)
    have hP := keptP hP hq
    refine lv_if_ne (tgt := 20) hx hb dR_stock_15 (by decide) (fun c8 => ?_) (fun c8 => ?_)
    · have hm := brn hm c8
      refine lv_aload_n hx hb dR_stock_20 rfl (lv_at hl 0 rfl) ?_
      refine va_get (D := D) (ci := 6) (v := .ref (ad 2)) (C := RR) (T := TR) (N := 31) hx hb hT inR hown hK hP 0 rfl rfl 2 (by decide) (hT _ wd_537) (fun _ h9 => h9) rfl dR_stock_21 ?_
      refine lv_iload_n hx hb dR_stock_24 rfl (lv_at hl 1 rfl) ?_
      obtain ⟨g9, hm⟩ := gd_to hm
      refine va_iald hx hb hK hP 2 0 rfl rfl g9 dR_stock_25 ?_
      refine lv_topi (fun v10 ev10 => ?_)
      have hm := nm_to ev10 hm
      refine lv_istore_n (lv' := [(3, .int v10), (0, .ref (ad 0)), (1, .int x1), (2, .int x2)]) hx hb dR_stock_26 rfl hl (by decide) rfl (fun ls hl => ?_)
      refine lv_aload_n hx hb dR_stock_27 rfl (lv_at hl 1 rfl) ?_
      refine va_get (D := D) (ci := 6) (v := .ref (ad 2)) (C := RR) (T := TR) (N := 31) hx hb hT inR hown hK hP 0 rfl rfl 2 (by decide) (hT _ wd_537) (fun _ h9 => h9) rfl dR_stock_28 ?_
      refine lv_iload_n hx hb dR_stock_31 rfl (lv_at hl 2 rfl) ?_
      refine lv_iload_n hx hb dR_stock_32 rfl (lv_at hl 3 rfl) ?_
      obtain ⟨g11, hm⟩ := gd_to hm
      refine va_iast hx hb hK hP hD hS 2 0 rfl rfl g11 dR_stock_33 (fun H locs hP hD hS => ?_)
      obtain ⟨I12, eI12⟩ : ∃ z : SI, z = va_up I2 2 (upd (I2 2) x1.toNatClampNeg x2) := ⟨_, rfl⟩
      have hm := nm_to eI12 hm
      have hP := P_eq (ws2 := wsR ad cI cJ cG I12 J3) hP (by rw [eI12]; rfl)
      have hD := D_eq (ws2 := wsR ad cI cJ cG I12 J3) hD (by rw [eI12]; rfl)
      refine lv_iload_n hx hb dR_stock_34 rfl (lv_at hl 0 rfl) ?_
      exact W.iret hx hb hr (fun t ht hW => ⟨⟨v10, (I12, J3), rfl, Option.some.inj hm, ht ▸ hP, va_K.moved hW.alike hK, hD⟩, hS.F ht⟩) hS.2.2 dR_stock_35 hlk
    · have hm := brp hm c8
      refine lv_iconst (v := (-1)) hx hb dR_stock_18 (by decide) ?_
      exact W.iret hx hb hr (fun t ht hW => ⟨⟨-1, (I2, J3), rfl, Option.some.inj hm, ht ▸ hP, va_K.moved hW.alike hK, hD⟩, hS.F ht⟩) hS.2.2 dR_stock_19 hlk
set_option maxHeartbeats 4000000 in
set_option maxRecDepth 100000 in
theorem c_R_stock (l : Launch) (D : va_G) (ad : Nat → Nat) (cI cJ cG : ClassId) (sz : Nat) (x1 : Int32) (x2 : Int32) (I : SI) (J : SJ) (res : Int32 × SI × SJ) (hm : m_R_stock x1 x2 I J = some res) : Met l yR_stock (Cond.code yR_stock bR_stock 4 (some .int) :: gtb) rm_R_stock (va_Pc [.ref (ad 0), .int x1, .int x2] (preW D vwCl (tysR cI cJ cG) (wsR ad cI cJ cG I J) sz)) (va_Qi (fun (r : Int32) (u : SI × SJ) => (r, u) = res) (atW D vwCl (tysR cI cJ cG) (va_A (wsR ad cI cJ cG I J) sz) (wsR ad cI cJ cG)) (va_A (wsR ad cI cJ cG I J) sz)) 0 0 (va_A (wsR ad cI cJ cG I J) sz) := by
  refine Met.ofW (cc := bR_stock) (maxL := 4) (ret := (some .int)) (by decide) rfl ?_
  intro p e s m args below meth c s₁ B hml hv
  obtain ⟨rfl, hsz, hP, hK, hD0, hN⟩ := hv
  subst hsz
  have X : Cx p s m [.ref (ad 0), .int x1, .int x2].toArray meth c bR_stock (some .int) 4 RR := ⟨B.exec, B.bytes, B.returns, hml, findClass_of_methodNamed B.named, fun w h => atoms_spec (ws := (Cond.code yR_stock bR_stock 4 (some .int) :: gtb)) B.pre w (List.mem_cons_of_mem _ h), B.notSynchronized⟩
  have hl := lv_entry ([.ref (ad 0), .int x1, .int x2]) (n := 4) (Nat.le_of_ble_eq_true rfl)
  rw [lg_entry_eq]
  generalize (lg_sl ([.ref (ad 0), .int x1, .int x2]) ++ List.replicate (4 - (lg_sl ([.ref (ad 0), .int x1, .int x2])).length) Slot.unset).toArray = ls at hl ⊢
  have hl : lv_has ls 4 [(0, .ref (ad 0)), (1, .int x1), (2, .int x2)] := hl
  have hA : ∀ q, s.heap.size ≤ q → va_A (wsR ad cI cJ cG I J) s.heap.size q := fun q h => Or.inr h
  exact w_R_stock_0 X hK hN hA  x1 x2 I J hm _ _ _ hP hD0.self va_S.rf hl
def b_R_holds_0 (x1 : Int32) (x2 : Int32) (x3 : Int32) (I : SI) (J : SJ) : Option (Int32 × SI × SJ) :=
  cl3 (m_R_isStuff x1 I J) fun r1 I2 J3 =>
  if r1 = 0 then
    some (0, I2, J3)
  else
    cl1 (m_R_in x2 0 2) fun r6 =>
    if r6 = 0 then
      some (0, I2, J3)
    else
      cl1 (m_R_in x3 0 40) fun r9 =>
      if r9 = 0 then
        some (0, I2, J3)
      else
        nm (4 * x2) fun v12 =>
        nm (v12 + x1) fun v13 =>
        gd (vin v13 12) <|
        nm (va_up I2 3 (upd (I2 3) v13.toNatClampNeg x3)) fun I15 =>
        some (1, I15, J3)
def m_R_holds (x1 : Int32) (x2 : Int32) (x3 : Int32) (I : SI) (J : SJ) : Option (Int32 × SI × SJ) := b_R_holds_0 x1 x2 x3 I J
def rm_R_holds : Room := { frames := 1, cells := 0, slots := 0, locals := 22 }
set_option maxHeartbeats 4000000 in
set_option maxRecDepth 100000 in
theorem w_R_holds_0 {p : Program} {l : Launch} {e : Env} {s : State} {m : MethodId} {args : Array Value} {below : List Frame} {meth : Method} {c : Code} {D : va_G} {A : Nat → Prop} {ad : Nat → Nat} {cI cJ cG : ClassId} {res : Int32 × SI × SJ} (X : Cx p s m args meth c bR_holds (some .boolean) 4 RR) (hK : va_K D vwCl (tysR cI cJ cG) s) (hN : NWs s) (hA : ∀ q, s.heap.size ≤ q → A q)
     (x1 : Int32) (x2 : Int32) (x3 : Int32) (I : SI) (J : SJ) (hm : b_R_holds_0  x1 x2 x3 I J = some res) : WB p l e (headSpec (Cond.code yR_holds bR_holds 4 (some .boolean) :: gtb) rm_R_holds).room s m args below meth c (MQ below (va_Qi (fun (r : Int32) (u : SI × SJ) => (r, u) = res) (atW D vwCl (tysR cI cJ cG) A (wsR ad cI cJ cG)) A) args s 0 0 A) D vwCl A 4 (wsR ad cI cJ cG I J) 0 [(0, .ref (ad 0)), (1, .int x1), (2, .int x2), (3, .int x3)] [] := by
  obtain ⟨hx, hb, hr, hml, hown, hT, hlk⟩ := X
  intro H locs ls hP hD hS hl
  unfold b_R_holds_0 at hm
  refine lv_aload_n hx hb dR_holds_0 rfl (lv_at hl 0 rfl) ?_
  refine lv_iload_n hx hb dR_holds_1 rfl (lv_at hl 1 rfl) ?_
  obtain ⟨r1, I2, J3, hc4, hm⟩ := cl3_to hm
  refine pst_i (wf := wsR ad cI cJ cG) hD hS hA (va_runV (As := [.int x1]) (rest := []) ⟨hx, hb, hml, hown, hT⟩ (c_R_isStuff l D ad cI cJ cG _ x1 I J _ hc4) (cwV 1 hT (gV wd_641 wd_643 wd_32 wd_57 wd_644) rfl rfl rfl (by decide +kernel) ⟨Nat.le_of_ble_eq_true rfl, Nat.le_of_ble_eq_true rfl⟩) ⟨preW_fb, va_recv hK hP (ci := 6) (q0 := 0) rfl rfl, preW_at hP hK hN hD⟩ rfl rfl hl.1 rfl (lv_room (Nat.le_of_ble_eq_true rfl)) dR_holds_2 ⟨Nat.zero_le _, Nat.zero_le _⟩) (fun H locs hP hD hS => ?_)
  refine lv_if_eq (tgt := 27) hx hb dR_holds_5 (by decide) (fun c5 => ?_) (fun c5 => ?_)
  · have hm := brp hm c5
    refine lv_iconst (v := 0) hx hb dR_holds_27 (by decide) ?_
    exact W.zret hx hb hr rfl (fun t ht hW => ⟨⟨0, (I2, J3), rfl, Option.some.inj hm, ht ▸ hP, va_K.moved hW.alike hK, hD⟩, hS.F ht⟩) hS.2.2 dR_holds_28 hlk
  · have hm := brn hm c5
    refine lv_iload_n hx hb dR_holds_8 rfl (lv_at hl 2 rfl) ?_
    refine lv_iconst (v := 0) hx hb dR_holds_9 (by decide) ?_
    refine lv_iconst (v := 2) hx hb dR_holds_10 (by decide) ?_
    obtain ⟨r6, hc7, hm⟩ := cl1_to hm
    refine pstZ_i hS (va_runS (As := [.int x2, .int 0, .int 2]) (rest := []) ⟨hx, hb, hml, hown, hT⟩ (c_R_in l x2 0 2 _ hc7) (va_cwS 3 hT (gS wd_634 wd_635 wd_57 wd_636) rfl rfl rfl (by decide +kernel) ⟨Nat.le_of_ble_eq_true rfl, Nat.le_of_ble_eq_true rfl⟩) ⟨preZ_fb, preZ_at⟩ rfl rfl hl.1 rfl (lv_room (Nat.le_of_ble_eq_true rfl)) dR_holds_11 ⟨Nat.zero_le _, Nat.zero_le _⟩) (fun H1 locs hq hS => ?_)
    have hP := keptP hP hq
    refine lv_if_eq (tgt := 27) hx hb dR_holds_14 (by decide) (fun c8 => ?_) (fun c8 => ?_)
    · have hm := brp hm c8
      refine lv_iconst (v := 0) hx hb dR_holds_27 (by decide) ?_
      exact W.zret hx hb hr rfl (fun t ht hW => ⟨⟨0, (I2, J3), rfl, Option.some.inj hm, ht ▸ hP, va_K.moved hW.alike hK, hD⟩, hS.F ht⟩) hS.2.2 dR_holds_28 hlk
    · have hm := brn hm c8
      refine lv_iload_n hx hb dR_holds_17 rfl (lv_at hl 3 rfl) ?_
      refine lv_iconst (v := 0) hx hb dR_holds_18 (by decide) ?_
      refine lv_bipush (v := 40) hx hb dR_holds_19 (by decide) ?_
      obtain ⟨r9, hc10, hm⟩ := cl1_to hm
      refine pstZ_i hS (va_runS (As := [.int x3, .int 0, .int 40]) (rest := []) ⟨hx, hb, hml, hown, hT⟩ (c_R_in l x3 0 40 _ hc10) (va_cwS 3 hT (gS wd_634 wd_635 wd_57 wd_636) rfl rfl rfl (by decide +kernel) ⟨Nat.le_of_ble_eq_true rfl, Nat.le_of_ble_eq_true rfl⟩) ⟨preZ_fb, preZ_at⟩ rfl rfl hl.1 rfl (lv_room (Nat.le_of_ble_eq_true rfl)) dR_holds_21 ⟨Nat.zero_le _, Nat.zero_le _⟩) (fun H1 locs hq hS => ?_)
      have hP := keptP hP hq
      refine lv_if_ne (tgt := 29) hx hb dR_holds_24 (by decide) (fun c11 => ?_) (fun c11 => ?_)
      · have hm := brn hm c11
        refine lv_aload_n hx hb dR_holds_29 rfl (lv_at hl 0 rfl) ?_
        refine va_get (D := D) (ci := 6) (v := .ref (ad 3)) (C := RR) (T := TR) (N := 31) hx hb hT inR hown hK hP 0 rfl rfl 3 (by decide) (hT _ wd_538) (fun _ h9 => h9) rfl dR_holds_30 ?_
        refine lv_iconst (v := 4) hx hb dR_holds_33 (by decide) ?_
        refine lv_iload_n hx hb dR_holds_34 rfl (lv_at hl 2 rfl) ?_
        refine lv_imul hx hb dR_holds_35 ?_
        refine lv_topi (fun v12 ev12 => ?_)
        have hm := nm_to ev12 hm
        refine lv_iload_n hx hb dR_holds_36 rfl (lv_at hl 1 rfl) ?_
        refine lv_iadd hx hb dR_holds_37 ?_
        refine lv_topi (fun v13 ev13 => ?_)
        have hm := nm_to ev13 hm
        refine lv_iload_n hx hb dR_holds_38 rfl (lv_at hl 3 rfl) ?_
        obtain ⟨g14, hm⟩ := gd_to hm
        refine va_iast hx hb hK hP hD hS 3 0 rfl rfl g14 dR_holds_39 (fun H locs hP hD hS => ?_)
        obtain ⟨I15, eI15⟩ : ∃ z : SI, z = va_up I2 3 (upd (I2 3) v13.toNatClampNeg x3) := ⟨_, rfl⟩
        have hm := nm_to eI15 hm
        have hP := P_eq (ws2 := wsR ad cI cJ cG I15 J3) hP (by rw [eI15]; rfl)
        have hD := D_eq (ws2 := wsR ad cI cJ cG I15 J3) hD (by rw [eI15]; rfl)
        refine lv_iconst (v := 1) hx hb dR_holds_40 (by decide) ?_
        exact W.zret hx hb hr rfl (fun t ht hW => ⟨⟨1, (I15, J3), rfl, Option.some.inj hm, ht ▸ hP, va_K.moved hW.alike hK, hD⟩, hS.F ht⟩) hS.2.2 dR_holds_41 hlk
      · have hm := brp hm c11
        refine lv_iconst (v := 0) hx hb dR_holds_27 (by decide) ?_
        exact W.zret hx hb hr rfl (fun t ht hW => ⟨⟨0, (I2, J3), rfl, Option.some.inj hm, ht ▸ hP, va_K.moved hW.alike hK, hD⟩, hS.F ht⟩) hS.2.2 dR_holds_28 hlk
set_option maxHeartbeats 4000000 in
set_option maxRecDepth 100000 in
theorem c_R_holds (l : Launch) (D : va_G) (ad : Nat → Nat) (cI cJ cG : ClassId) (sz : Nat) (x1 : Int32) (x2 : Int32) (x3 : Int32) (I : SI) (J : SJ) (res : Int32 × SI × SJ) (hm : m_R_holds x1 x2 x3 I J = some res) : Met l yR_holds (Cond.code yR_holds bR_holds 4 (some .boolean) :: gtb) rm_R_holds (va_Pc [.ref (ad 0), .int x1, .int x2, .int x3] (preW D vwCl (tysR cI cJ cG) (wsR ad cI cJ cG I J) sz)) (va_Qi (fun (r : Int32) (u : SI × SJ) => (r, u) = res) (atW D vwCl (tysR cI cJ cG) (va_A (wsR ad cI cJ cG I J) sz) (wsR ad cI cJ cG)) (va_A (wsR ad cI cJ cG I J) sz)) 0 0 (va_A (wsR ad cI cJ cG I J) sz) := by
  refine Met.ofW (cc := bR_holds) (maxL := 4) (ret := (some .boolean)) (by decide) rfl ?_
  intro p e s m args below meth c s₁ B hml hv
  obtain ⟨rfl, hsz, hP, hK, hD0, hN⟩ := hv
  subst hsz
  have X : Cx p s m [.ref (ad 0), .int x1, .int x2, .int x3].toArray meth c bR_holds (some .boolean) 4 RR := ⟨B.exec, B.bytes, B.returns, hml, findClass_of_methodNamed B.named, fun w h => atoms_spec (ws := (Cond.code yR_holds bR_holds 4 (some .boolean) :: gtb)) B.pre w (List.mem_cons_of_mem _ h), B.notSynchronized⟩
  have hl := lv_entry ([.ref (ad 0), .int x1, .int x2, .int x3]) (n := 4) (Nat.le_of_ble_eq_true rfl)
  rw [lg_entry_eq]
  generalize (lg_sl ([.ref (ad 0), .int x1, .int x2, .int x3]) ++ List.replicate (4 - (lg_sl ([.ref (ad 0), .int x1, .int x2, .int x3])).length) Slot.unset).toArray = ls at hl ⊢
  have hl : lv_has ls 4 [(0, .ref (ad 0)), (1, .int x1), (2, .int x2), (3, .int x3)] := hl
  have hA : ∀ q, s.heap.size ≤ q → va_A (wsR ad cI cJ cG I J) s.heap.size q := fun q h => Or.inr h
  exact w_R_holds_0 X hK hN hA  x1 x2 x3 I J hm _ _ _ hP hD0.self va_S.rf hl
def b_R_need_0 (x1 : Int32) (x2 : Int32) (x3 : Int32) (I : SI) (J : SJ) : Option (Int32 × SI × SJ) :=
  cl1 (m_R_in x1 0 2) fun r1 =>
  if r1 = 0 then
    some (0, I, J)
  else
    cl1 (m_R_in x2 0 40) fun r4 =>
    if r4 = 0 then
      some (0, I, J)
    else
      cl1 (m_R_in x3 x2 40) fun r7 =>
      if r7 = 0 then
        some (0, I, J)
      else
        gd (vin x1 3) <|
        nm (va_up I 7 (upd (I 7) x1.toNatClampNeg x2)) fun I11 =>
        gd (vin x1 3) <|
        nm (va_up I11 8 (upd (I11 8) x1.toNatClampNeg x3)) fun I13 =>
        some (1, I13, J)
def m_R_need (x1 : Int32) (x2 : Int32) (x3 : Int32) (I : SI) (J : SJ) : Option (Int32 × SI × SJ) := b_R_need_0 x1 x2 x3 I J
def rm_R_need : Room := { frames := 1, cells := 0, slots := 0, locals := 22 }
set_option maxHeartbeats 4000000 in
set_option maxRecDepth 100000 in
theorem w_R_need_0 {p : Program} {l : Launch} {e : Env} {s : State} {m : MethodId} {args : Array Value} {below : List Frame} {meth : Method} {c : Code} {D : va_G} {A : Nat → Prop} {ad : Nat → Nat} {cI cJ cG : ClassId} {res : Int32 × SI × SJ} (X : Cx p s m args meth c bR_need (some .boolean) 4 RR) (hK : va_K D vwCl (tysR cI cJ cG) s) (hN : NWs s) (hA : ∀ q, s.heap.size ≤ q → A q)
     (x1 : Int32) (x2 : Int32) (x3 : Int32) (I : SI) (J : SJ) (hm : b_R_need_0  x1 x2 x3 I J = some res) : WB p l e (headSpec (Cond.code yR_need bR_need 4 (some .boolean) :: gtb) rm_R_need).room s m args below meth c (MQ below (va_Qi (fun (r : Int32) (u : SI × SJ) => (r, u) = res) (atW D vwCl (tysR cI cJ cG) A (wsR ad cI cJ cG)) A) args s 0 0 A) D vwCl A 4 (wsR ad cI cJ cG I J) 0 [(0, .ref (ad 0)), (1, .int x1), (2, .int x2), (3, .int x3)] [] := by
  obtain ⟨hx, hb, hr, hml, hown, hT, hlk⟩ := X
  intro H locs ls hP hD hS hl
  unfold b_R_need_0 at hm
  refine lv_iload_n hx hb dR_need_0 rfl (lv_at hl 1 rfl) ?_
  refine lv_iconst (v := 0) hx hb dR_need_1 (by decide) ?_
  refine lv_iconst (v := 2) hx hb dR_need_2 (by decide) ?_
  obtain ⟨r1, hc2, hm⟩ := cl1_to hm
  refine pstZ_i hS (va_runS (As := [.int x1, .int 0, .int 2]) (rest := []) ⟨hx, hb, hml, hown, hT⟩ (c_R_in l x1 0 2 _ hc2) (va_cwS 3 hT (gS wd_634 wd_635 wd_57 wd_636) rfl rfl rfl (by decide +kernel) ⟨Nat.le_of_ble_eq_true rfl, Nat.le_of_ble_eq_true rfl⟩) ⟨preZ_fb, preZ_at⟩ rfl rfl hl.1 rfl (lv_room (Nat.le_of_ble_eq_true rfl)) dR_need_3 ⟨Nat.zero_le _, Nat.zero_le _⟩) (fun H1 locs hq hS => ?_)
  have hP := keptP hP hq
  refine lv_if_eq (tgt := 29) hx hb dR_need_6 (by decide) (fun c3 => ?_) (fun c3 => ?_)
  · have hm := brp hm c3
    refine lv_iconst (v := 0) hx hb dR_need_29 (by decide) ?_
    exact W.zret hx hb hr rfl (fun t ht hW => ⟨⟨0, (I, J), rfl, Option.some.inj hm, ht ▸ hP, va_K.moved hW.alike hK, hD⟩, hS.F ht⟩) hS.2.2 dR_need_30 hlk
  · have hm := brn hm c3
    refine lv_iload_n hx hb dR_need_9 rfl (lv_at hl 2 rfl) ?_
    refine lv_iconst (v := 0) hx hb dR_need_10 (by decide) ?_
    refine lv_bipush (v := 40) hx hb dR_need_11 (by decide) ?_
    obtain ⟨r4, hc5, hm⟩ := cl1_to hm
    refine pstZ_i hS (va_runS (As := [.int x2, .int 0, .int 40]) (rest := []) ⟨hx, hb, hml, hown, hT⟩ (c_R_in l x2 0 40 _ hc5) (va_cwS 3 hT (gS wd_634 wd_635 wd_57 wd_636) rfl rfl rfl (by decide +kernel) ⟨Nat.le_of_ble_eq_true rfl, Nat.le_of_ble_eq_true rfl⟩) ⟨preZ_fb, preZ_at⟩ rfl rfl hl.1 rfl (lv_room (Nat.le_of_ble_eq_true rfl)) dR_need_13 ⟨Nat.zero_le _, Nat.zero_le _⟩) (fun H1 locs hq hS => ?_)
    have hP := keptP hP hq
    refine lv_if_eq (tgt := 29) hx hb dR_need_16 (by decide) (fun c6 => ?_) (fun c6 => ?_)
    · have hm := brp hm c6
      refine lv_iconst (v := 0) hx hb dR_need_29 (by decide) ?_
      exact W.zret hx hb hr rfl (fun t ht hW => ⟨⟨0, (I, J), rfl, Option.some.inj hm, ht ▸ hP, va_K.moved hW.alike hK, hD⟩, hS.F ht⟩) hS.2.2 dR_need_30 hlk
    · have hm := brn hm c6
      refine lv_iload_n hx hb dR_need_19 rfl (lv_at hl 3 rfl) ?_
      refine lv_iload_n hx hb dR_need_20 rfl (lv_at hl 2 rfl) ?_
      refine lv_bipush (v := 40) hx hb dR_need_21 (by decide) ?_
      obtain ⟨r7, hc8, hm⟩ := cl1_to hm
      refine pstZ_i hS (va_runS (As := [.int x3, .int x2, .int 40]) (rest := []) ⟨hx, hb, hml, hown, hT⟩ (c_R_in l x3 x2 40 _ hc8) (va_cwS 3 hT (gS wd_634 wd_635 wd_57 wd_636) rfl rfl rfl (by decide +kernel) ⟨Nat.le_of_ble_eq_true rfl, Nat.le_of_ble_eq_true rfl⟩) ⟨preZ_fb, preZ_at⟩ rfl rfl hl.1 rfl (lv_room (Nat.le_of_ble_eq_true rfl)) dR_need_23 ⟨Nat.zero_le _, Nat.zero_le _⟩) (fun H1 locs hq hS => ?_)
      have hP := keptP hP hq
      refine lv_if_ne (tgt := 31) hx hb dR_need_26 (by decide) (fun c9 => ?_) (fun c9 => ?_)
      · have hm := brn hm c9
        refine lv_aload_n hx hb dR_need_31 rfl (lv_at hl 0 rfl) ?_
        refine va_get (D := D) (ci := 6) (v := .ref (ad 7)) (C := RR) (T := TR) (N := 31) hx hb hT inR hown hK hP 0 rfl rfl 7 (by decide) (hT _ wd_542) (fun _ h9 => h9) rfl dR_need_32 ?_
        refine lv_iload_n hx hb dR_need_35 rfl (lv_at hl 1 rfl) ?_
        refine lv_iload_n hx hb dR_need_36 rfl (lv_at hl 2 rfl) ?_
        obtain ⟨g10, hm⟩ := gd_to hm
        refine va_iast hx hb hK hP hD hS 7 0 rfl rfl g10 dR_need_37 (fun H locs hP hD hS => ?_)
        obtain ⟨I11, eI11⟩ : ∃ z : SI, z = va_up I 7 (upd (I 7) x1.toNatClampNeg x2) := ⟨_, rfl⟩
        have hm := nm_to eI11 hm
        have hP := P_eq (ws2 := wsR ad cI cJ cG I11 J) hP (by rw [eI11]; rfl)
        have hD := D_eq (ws2 := wsR ad cI cJ cG I11 J) hD (by rw [eI11]; rfl)
        refine lv_aload_n hx hb dR_need_38 rfl (lv_at hl 0 rfl) ?_
        refine va_get (D := D) (ci := 6) (v := .ref (ad 8)) (C := RR) (T := TR) (N := 31) hx hb hT inR hown hK hP 0 rfl rfl 8 (by decide) (hT _ wd_543) (fun _ h9 => h9) rfl dR_need_39 ?_
        refine lv_iload_n hx hb dR_need_42 rfl (lv_at hl 1 rfl) ?_
        refine lv_iload_n hx hb dR_need_43 rfl (lv_at hl 3 rfl) ?_
        obtain ⟨g12, hm⟩ := gd_to hm
        refine va_iast hx hb hK hP hD hS 8 0 rfl rfl g12 dR_need_44 (fun H locs hP hD hS => ?_)
        obtain ⟨I13, eI13⟩ : ∃ z : SI, z = va_up I11 8 (upd (I11 8) x1.toNatClampNeg x3) := ⟨_, rfl⟩
        have hm := nm_to eI13 hm
        have hP := P_eq (ws2 := wsR ad cI cJ cG I13 J) hP (by rw [eI13]; rfl)
        have hD := D_eq (ws2 := wsR ad cI cJ cG I13 J) hD (by rw [eI13]; rfl)
        refine lv_iconst (v := 1) hx hb dR_need_45 (by decide) ?_
        exact W.zret hx hb hr rfl (fun t ht hW => ⟨⟨1, (I13, J), rfl, Option.some.inj hm, ht ▸ hP, va_K.moved hW.alike hK, hD⟩, hS.F ht⟩) hS.2.2 dR_need_46 hlk
      · have hm := brp hm c9
        refine lv_iconst (v := 0) hx hb dR_need_29 (by decide) ?_
        exact W.zret hx hb hr rfl (fun t ht hW => ⟨⟨0, (I, J), rfl, Option.some.inj hm, ht ▸ hP, va_K.moved hW.alike hK, hD⟩, hS.F ht⟩) hS.2.2 dR_need_30 hlk
set_option maxHeartbeats 4000000 in
set_option maxRecDepth 100000 in
theorem c_R_need (l : Launch) (D : va_G) (ad : Nat → Nat) (cI cJ cG : ClassId) (sz : Nat) (x1 : Int32) (x2 : Int32) (x3 : Int32) (I : SI) (J : SJ) (res : Int32 × SI × SJ) (hm : m_R_need x1 x2 x3 I J = some res) : Met l yR_need (Cond.code yR_need bR_need 4 (some .boolean) :: gtb) rm_R_need (va_Pc [.ref (ad 0), .int x1, .int x2, .int x3] (preW D vwCl (tysR cI cJ cG) (wsR ad cI cJ cG I J) sz)) (va_Qi (fun (r : Int32) (u : SI × SJ) => (r, u) = res) (atW D vwCl (tysR cI cJ cG) (va_A (wsR ad cI cJ cG I J) sz) (wsR ad cI cJ cG)) (va_A (wsR ad cI cJ cG I J) sz)) 0 0 (va_A (wsR ad cI cJ cG I J) sz) := by
  refine Met.ofW (cc := bR_need) (maxL := 4) (ret := (some .boolean)) (by decide) rfl ?_
  intro p e s m args below meth c s₁ B hml hv
  obtain ⟨rfl, hsz, hP, hK, hD0, hN⟩ := hv
  subst hsz
  have X : Cx p s m [.ref (ad 0), .int x1, .int x2, .int x3].toArray meth c bR_need (some .boolean) 4 RR := ⟨B.exec, B.bytes, B.returns, hml, findClass_of_methodNamed B.named, fun w h => atoms_spec (ws := (Cond.code yR_need bR_need 4 (some .boolean) :: gtb)) B.pre w (List.mem_cons_of_mem _ h), B.notSynchronized⟩
  have hl := lv_entry ([.ref (ad 0), .int x1, .int x2, .int x3]) (n := 4) (Nat.le_of_ble_eq_true rfl)
  rw [lg_entry_eq]
  generalize (lg_sl ([.ref (ad 0), .int x1, .int x2, .int x3]) ++ List.replicate (4 - (lg_sl ([.ref (ad 0), .int x1, .int x2, .int x3])).length) Slot.unset).toArray = ls at hl ⊢
  have hl : lv_has ls 4 [(0, .ref (ad 0)), (1, .int x1), (2, .int x2), (3, .int x3)] := hl
  have hA : ∀ q, s.heap.size ≤ q → va_A (wsR ad cI cJ cG I J) s.heap.size q := fun q h => Or.inr h
  exact w_R_need_0 X hK hN hA  x1 x2 x3 I J hm _ _ _ hP hD0.self va_S.rf hl
def b_R_shares_0 (x1 : Int32) (x2 : Int32) (x3 : Int32) (I : SI) (J : SJ) : Option (Int32 × SI × SJ) :=
  cl3 (m_R_isStuff x1 I J) fun r1 I2 J3 =>
  if r1 = 0 then
    some (0, I2, J3)
  else
    cl1 (m_R_in x2 0 10) fun r6 =>
    if r6 = 0 then
      some (0, I2, J3)
    else
      cl1 (m_R_in x3 x2 10) fun r9 =>
      if r9 = 0 then
        some (0, I2, J3)
      else
        gd (vin x1 4) <|
        nm (va_up I2 4 (upd (I2 4) x1.toNatClampNeg x2)) fun I13 =>
        gd (vin x1 4) <|
        nm (va_up I13 5 (upd (I13 5) x1.toNatClampNeg x3)) fun I15 =>
        some (1, I15, J3)
def m_R_shares (x1 : Int32) (x2 : Int32) (x3 : Int32) (I : SI) (J : SJ) : Option (Int32 × SI × SJ) := b_R_shares_0 x1 x2 x3 I J
def rm_R_shares : Room := { frames := 1, cells := 0, slots := 0, locals := 22 }
set_option maxHeartbeats 4000000 in
set_option maxRecDepth 100000 in
theorem w_R_shares_0 {p : Program} {l : Launch} {e : Env} {s : State} {m : MethodId} {args : Array Value} {below : List Frame} {meth : Method} {c : Code} {D : va_G} {A : Nat → Prop} {ad : Nat → Nat} {cI cJ cG : ClassId} {res : Int32 × SI × SJ} (X : Cx p s m args meth c bR_shares (some .boolean) 4 RR) (hK : va_K D vwCl (tysR cI cJ cG) s) (hN : NWs s) (hA : ∀ q, s.heap.size ≤ q → A q)
     (x1 : Int32) (x2 : Int32) (x3 : Int32) (I : SI) (J : SJ) (hm : b_R_shares_0  x1 x2 x3 I J = some res) : WB p l e (headSpec (Cond.code yR_shares bR_shares 4 (some .boolean) :: gtb) rm_R_shares).room s m args below meth c (MQ below (va_Qi (fun (r : Int32) (u : SI × SJ) => (r, u) = res) (atW D vwCl (tysR cI cJ cG) A (wsR ad cI cJ cG)) A) args s 0 0 A) D vwCl A 4 (wsR ad cI cJ cG I J) 0 [(0, .ref (ad 0)), (1, .int x1), (2, .int x2), (3, .int x3)] [] := by
  obtain ⟨hx, hb, hr, hml, hown, hT, hlk⟩ := X
  intro H locs ls hP hD hS hl
  unfold b_R_shares_0 at hm
  refine lv_aload_n hx hb dR_shares_0 rfl (lv_at hl 0 rfl) ?_
  refine lv_iload_n hx hb dR_shares_1 rfl (lv_at hl 1 rfl) ?_
  obtain ⟨r1, I2, J3, hc4, hm⟩ := cl3_to hm
  refine pst_i (wf := wsR ad cI cJ cG) hD hS hA (va_runV (As := [.int x1]) (rest := []) ⟨hx, hb, hml, hown, hT⟩ (c_R_isStuff l D ad cI cJ cG _ x1 I J _ hc4) (cwV 1 hT (gV wd_641 wd_643 wd_32 wd_57 wd_644) rfl rfl rfl (by decide +kernel) ⟨Nat.le_of_ble_eq_true rfl, Nat.le_of_ble_eq_true rfl⟩) ⟨preW_fb, va_recv hK hP (ci := 6) (q0 := 0) rfl rfl, preW_at hP hK hN hD⟩ rfl rfl hl.1 rfl (lv_room (Nat.le_of_ble_eq_true rfl)) dR_shares_2 ⟨Nat.zero_le _, Nat.zero_le _⟩) (fun H locs hP hD hS => ?_)
  refine lv_if_eq (tgt := 28) hx hb dR_shares_5 (by decide) (fun c5 => ?_) (fun c5 => ?_)
  · have hm := brp hm c5
    refine lv_iconst (v := 0) hx hb dR_shares_28 (by decide) ?_
    exact W.zret hx hb hr rfl (fun t ht hW => ⟨⟨0, (I2, J3), rfl, Option.some.inj hm, ht ▸ hP, va_K.moved hW.alike hK, hD⟩, hS.F ht⟩) hS.2.2 dR_shares_29 hlk
  · have hm := brn hm c5
    refine lv_iload_n hx hb dR_shares_8 rfl (lv_at hl 2 rfl) ?_
    refine lv_iconst (v := 0) hx hb dR_shares_9 (by decide) ?_
    refine lv_bipush (v := 10) hx hb dR_shares_10 (by decide) ?_
    obtain ⟨r6, hc7, hm⟩ := cl1_to hm
    refine pstZ_i hS (va_runS (As := [.int x2, .int 0, .int 10]) (rest := []) ⟨hx, hb, hml, hown, hT⟩ (c_R_in l x2 0 10 _ hc7) (va_cwS 3 hT (gS wd_634 wd_635 wd_57 wd_636) rfl rfl rfl (by decide +kernel) ⟨Nat.le_of_ble_eq_true rfl, Nat.le_of_ble_eq_true rfl⟩) ⟨preZ_fb, preZ_at⟩ rfl rfl hl.1 rfl (lv_room (Nat.le_of_ble_eq_true rfl)) dR_shares_12 ⟨Nat.zero_le _, Nat.zero_le _⟩) (fun H1 locs hq hS => ?_)
    have hP := keptP hP hq
    refine lv_if_eq (tgt := 28) hx hb dR_shares_15 (by decide) (fun c8 => ?_) (fun c8 => ?_)
    · have hm := brp hm c8
      refine lv_iconst (v := 0) hx hb dR_shares_28 (by decide) ?_
      exact W.zret hx hb hr rfl (fun t ht hW => ⟨⟨0, (I2, J3), rfl, Option.some.inj hm, ht ▸ hP, va_K.moved hW.alike hK, hD⟩, hS.F ht⟩) hS.2.2 dR_shares_29 hlk
    · have hm := brn hm c8
      refine lv_iload_n hx hb dR_shares_18 rfl (lv_at hl 3 rfl) ?_
      refine lv_iload_n hx hb dR_shares_19 rfl (lv_at hl 2 rfl) ?_
      refine lv_bipush (v := 10) hx hb dR_shares_20 (by decide) ?_
      obtain ⟨r9, hc10, hm⟩ := cl1_to hm
      refine pstZ_i hS (va_runS (As := [.int x3, .int x2, .int 10]) (rest := []) ⟨hx, hb, hml, hown, hT⟩ (c_R_in l x3 x2 10 _ hc10) (va_cwS 3 hT (gS wd_634 wd_635 wd_57 wd_636) rfl rfl rfl (by decide +kernel) ⟨Nat.le_of_ble_eq_true rfl, Nat.le_of_ble_eq_true rfl⟩) ⟨preZ_fb, preZ_at⟩ rfl rfl hl.1 rfl (lv_room (Nat.le_of_ble_eq_true rfl)) dR_shares_22 ⟨Nat.zero_le _, Nat.zero_le _⟩) (fun H1 locs hq hS => ?_)
      have hP := keptP hP hq
      refine lv_if_ne (tgt := 30) hx hb dR_shares_25 (by decide) (fun c11 => ?_) (fun c11 => ?_)
      · have hm := brn hm c11
        refine lv_aload_n hx hb dR_shares_30 rfl (lv_at hl 0 rfl) ?_
        refine va_get (D := D) (ci := 6) (v := .ref (ad 4)) (C := RR) (T := TR) (N := 31) hx hb hT inR hown hK hP 0 rfl rfl 4 (by decide) (hT _ wd_539) (fun _ h9 => h9) rfl dR_shares_31 ?_
        refine lv_iload_n hx hb dR_shares_34 rfl (lv_at hl 1 rfl) ?_
        refine lv_iload_n hx hb dR_shares_35 rfl (lv_at hl 2 rfl) ?_
        obtain ⟨g12, hm⟩ := gd_to hm
        refine va_iast hx hb hK hP hD hS 4 0 rfl rfl g12 dR_shares_36 (fun H locs hP hD hS => ?_)
        obtain ⟨I13, eI13⟩ : ∃ z : SI, z = va_up I2 4 (upd (I2 4) x1.toNatClampNeg x2) := ⟨_, rfl⟩
        have hm := nm_to eI13 hm
        have hP := P_eq (ws2 := wsR ad cI cJ cG I13 J3) hP (by rw [eI13]; rfl)
        have hD := D_eq (ws2 := wsR ad cI cJ cG I13 J3) hD (by rw [eI13]; rfl)
        refine lv_aload_n hx hb dR_shares_37 rfl (lv_at hl 0 rfl) ?_
        refine va_get (D := D) (ci := 6) (v := .ref (ad 5)) (C := RR) (T := TR) (N := 31) hx hb hT inR hown hK hP 0 rfl rfl 5 (by decide) (hT _ wd_540) (fun _ h9 => h9) rfl dR_shares_38 ?_
        refine lv_iload_n hx hb dR_shares_41 rfl (lv_at hl 1 rfl) ?_
        refine lv_iload_n hx hb dR_shares_42 rfl (lv_at hl 3 rfl) ?_
        obtain ⟨g14, hm⟩ := gd_to hm
        refine va_iast hx hb hK hP hD hS 5 0 rfl rfl g14 dR_shares_43 (fun H locs hP hD hS => ?_)
        obtain ⟨I15, eI15⟩ : ∃ z : SI, z = va_up I13 5 (upd (I13 5) x1.toNatClampNeg x3) := ⟨_, rfl⟩
        have hm := nm_to eI15 hm
        have hP := P_eq (ws2 := wsR ad cI cJ cG I15 J3) hP (by rw [eI15]; rfl)
        have hD := D_eq (ws2 := wsR ad cI cJ cG I15 J3) hD (by rw [eI15]; rfl)
        refine lv_iconst (v := 1) hx hb dR_shares_44 (by decide) ?_
        exact W.zret hx hb hr rfl (fun t ht hW => ⟨⟨1, (I15, J3), rfl, Option.some.inj hm, ht ▸ hP, va_K.moved hW.alike hK, hD⟩, hS.F ht⟩) hS.2.2 dR_shares_45 hlk
      · have hm := brp hm c11
        refine lv_iconst (v := 0) hx hb dR_shares_28 (by decide) ?_
        exact W.zret hx hb hr rfl (fun t ht hW => ⟨⟨0, (I2, J3), rfl, Option.some.inj hm, ht ▸ hP, va_K.moved hW.alike hK, hD⟩, hS.F ht⟩) hS.2.2 dR_shares_29 hlk
set_option maxHeartbeats 4000000 in
set_option maxRecDepth 100000 in
theorem c_R_shares (l : Launch) (D : va_G) (ad : Nat → Nat) (cI cJ cG : ClassId) (sz : Nat) (x1 : Int32) (x2 : Int32) (x3 : Int32) (I : SI) (J : SJ) (res : Int32 × SI × SJ) (hm : m_R_shares x1 x2 x3 I J = some res) : Met l yR_shares (Cond.code yR_shares bR_shares 4 (some .boolean) :: gtb) rm_R_shares (va_Pc [.ref (ad 0), .int x1, .int x2, .int x3] (preW D vwCl (tysR cI cJ cG) (wsR ad cI cJ cG I J) sz)) (va_Qi (fun (r : Int32) (u : SI × SJ) => (r, u) = res) (atW D vwCl (tysR cI cJ cG) (va_A (wsR ad cI cJ cG I J) sz) (wsR ad cI cJ cG)) (va_A (wsR ad cI cJ cG I J) sz)) 0 0 (va_A (wsR ad cI cJ cG I J) sz) := by
  refine Met.ofW (cc := bR_shares) (maxL := 4) (ret := (some .boolean)) (by decide) rfl ?_
  intro p e s m args below meth c s₁ B hml hv
  obtain ⟨rfl, hsz, hP, hK, hD0, hN⟩ := hv
  subst hsz
  have X : Cx p s m [.ref (ad 0), .int x1, .int x2, .int x3].toArray meth c bR_shares (some .boolean) 4 RR := ⟨B.exec, B.bytes, B.returns, hml, findClass_of_methodNamed B.named, fun w h => atoms_spec (ws := (Cond.code yR_shares bR_shares 4 (some .boolean) :: gtb)) B.pre w (List.mem_cons_of_mem _ h), B.notSynchronized⟩
  have hl := lv_entry ([.ref (ad 0), .int x1, .int x2, .int x3]) (n := 4) (Nat.le_of_ble_eq_true rfl)
  rw [lg_entry_eq]
  generalize (lg_sl ([.ref (ad 0), .int x1, .int x2, .int x3]) ++ List.replicate (4 - (lg_sl ([.ref (ad 0), .int x1, .int x2, .int x3])).length) Slot.unset).toArray = ls at hl ⊢
  have hl : lv_has ls 4 [(0, .ref (ad 0)), (1, .int x1), (2, .int x2), (3, .int x3)] := hl
  have hA : ∀ q, s.heap.size ≤ q → va_A (wsR ad cI cJ cG I J) s.heap.size q := fun q h => Or.inr h
  exact w_R_shares_0 X hK hN hA  x1 x2 x3 I J hm _ _ _ hP hD0.self va_S.rf hl
def b_R_silo_0 (x1 : Int32) (x2 : Int32) (I : SI) (J : SJ) : Option (Int32 × SI × SJ) :=
  cl3 (m_R_isStuff x1 I J) fun r1 I2 J3 =>
  if r1 = 0 then
    some (0, I2, J3)
  else
    if x2 = 0 then
      gd (vin x1 4) <|
      nm (va_up I2 6 (upd (I2 6) x1.toNatClampNeg x2)) fun I8 =>
      some (1, I8, J3)
    else
      cl1 (m_R_in x2 5 40) fun r9 =>
      if r9 = 0 then
        some (0, I2, J3)
      else
        gd (vin x1 4) <|
        nm (va_up I2 6 (upd (I2 6) x1.toNatClampNeg x2)) fun I13 =>
        some (1, I13, J3)
def m_R_silo (x1 : Int32) (x2 : Int32) (I : SI) (J : SJ) : Option (Int32 × SI × SJ) := b_R_silo_0 x1 x2 I J
def rm_R_silo : Room := { frames := 1, cells := 0, slots := 0, locals := 22 }
set_option maxHeartbeats 4000000 in
set_option maxRecDepth 100000 in
theorem w_R_silo_0 {p : Program} {l : Launch} {e : Env} {s : State} {m : MethodId} {args : Array Value} {below : List Frame} {meth : Method} {c : Code} {D : va_G} {A : Nat → Prop} {ad : Nat → Nat} {cI cJ cG : ClassId} {res : Int32 × SI × SJ} (X : Cx p s m args meth c bR_silo (some .boolean) 3 RR) (hK : va_K D vwCl (tysR cI cJ cG) s) (hN : NWs s) (hA : ∀ q, s.heap.size ≤ q → A q)
     (x1 : Int32) (x2 : Int32) (I : SI) (J : SJ) (hm : b_R_silo_0  x1 x2 I J = some res) : WB p l e (headSpec (Cond.code yR_silo bR_silo 3 (some .boolean) :: gtb) rm_R_silo).room s m args below meth c (MQ below (va_Qi (fun (r : Int32) (u : SI × SJ) => (r, u) = res) (atW D vwCl (tysR cI cJ cG) A (wsR ad cI cJ cG)) A) args s 0 0 A) D vwCl A 3 (wsR ad cI cJ cG I J) 0 [(0, .ref (ad 0)), (1, .int x1), (2, .int x2)] [] := by
  obtain ⟨hx, hb, hr, hml, hown, hT, hlk⟩ := X
  intro H locs ls hP hD hS hl
  unfold b_R_silo_0 at hm
  refine lv_aload_n hx hb dR_silo_0 rfl (lv_at hl 0 rfl) ?_
  refine lv_iload_n hx hb dR_silo_1 rfl (lv_at hl 1 rfl) ?_
  obtain ⟨r1, I2, J3, hc4, hm⟩ := cl3_to hm
  refine pst_i (wf := wsR ad cI cJ cG) hD hS hA (va_runV (As := [.int x1]) (rest := []) ⟨hx, hb, hml, hown, hT⟩ (c_R_isStuff l D ad cI cJ cG _ x1 I J _ hc4) (cwV 1 hT (gV wd_641 wd_643 wd_32 wd_57 wd_644) rfl rfl rfl (by decide +kernel) ⟨Nat.le_of_ble_eq_true rfl, Nat.le_of_ble_eq_true rfl⟩) ⟨preW_fb, va_recv hK hP (ci := 6) (q0 := 0) rfl rfl, preW_at hP hK hN hD⟩ rfl rfl hl.1 rfl (lv_room (Nat.le_of_ble_eq_true rfl)) dR_silo_2 ⟨Nat.zero_le _, Nat.zero_le _⟩) (fun H locs hP hD hS => ?_)
  refine lv_if_eq (tgt := 22) hx hb dR_silo_5 (by decide) (fun c5 => ?_) (fun c5 => ?_)
  · have hm := brp hm c5
    refine lv_iconst (v := 0) hx hb dR_silo_22 (by decide) ?_
    exact W.zret hx hb hr rfl (fun t ht hW => ⟨⟨0, (I2, J3), rfl, Option.some.inj hm, ht ▸ hP, va_K.moved hW.alike hK, hD⟩, hS.F ht⟩) hS.2.2 dR_silo_23 hlk
  · have hm := brn hm c5
    refine lv_iload_n hx hb dR_silo_8 rfl (lv_at hl 2 rfl) ?_
    refine lv_if_eq (tgt := 24) hx hb dR_silo_9 (by decide) (fun c6 => ?_) (fun c6 => ?_)
    · have hm := brp hm c6
      refine lv_aload_n hx hb dR_silo_24 rfl (lv_at hl 0 rfl) ?_
      refine va_get (D := D) (ci := 6) (v := .ref (ad 6)) (C := RR) (T := TR) (N := 31) hx hb hT inR hown hK hP 0 rfl rfl 6 (by decide) (hT _ wd_541) (fun _ h9 => h9) rfl dR_silo_25 ?_
      refine lv_iload_n hx hb dR_silo_28 rfl (lv_at hl 1 rfl) ?_
      refine lv_iload_n hx hb dR_silo_29 rfl (lv_at hl 2 rfl) ?_
      obtain ⟨g7, hm⟩ := gd_to hm
      refine va_iast hx hb hK hP hD hS 6 0 rfl rfl g7 dR_silo_30 (fun H locs hP hD hS => ?_)
      obtain ⟨I8, eI8⟩ : ∃ z : SI, z = va_up I2 6 (upd (I2 6) x1.toNatClampNeg x2) := ⟨_, rfl⟩
      have hm := nm_to eI8 hm
      have hP := P_eq (ws2 := wsR ad cI cJ cG I8 J3) hP (by rw [eI8]; rfl)
      have hD := D_eq (ws2 := wsR ad cI cJ cG I8 J3) hD (by rw [eI8]; rfl)
      refine lv_iconst (v := 1) hx hb dR_silo_31 (by decide) ?_
      exact W.zret hx hb hr rfl (fun t ht hW => ⟨⟨1, (I8, J3), rfl, Option.some.inj hm, ht ▸ hP, va_K.moved hW.alike hK, hD⟩, hS.F ht⟩) hS.2.2 dR_silo_32 hlk
    · have hm := brn hm c6
      refine lv_iload_n hx hb dR_silo_12 rfl (lv_at hl 2 rfl) ?_
      refine lv_iconst (v := 5) hx hb dR_silo_13 (by decide) ?_
      refine lv_bipush (v := 40) hx hb dR_silo_14 (by decide) ?_
      obtain ⟨r9, hc10, hm⟩ := cl1_to hm
      refine pstZ_i hS (va_runS (As := [.int x2, .int 5, .int 40]) (rest := []) ⟨hx, hb, hml, hown, hT⟩ (c_R_in l x2 5 40 _ hc10) (va_cwS 3 hT (gS wd_634 wd_635 wd_57 wd_636) rfl rfl rfl (by decide +kernel) ⟨Nat.le_of_ble_eq_true rfl, Nat.le_of_ble_eq_true rfl⟩) ⟨preZ_fb, preZ_at⟩ rfl rfl hl.1 rfl (lv_room (Nat.le_of_ble_eq_true rfl)) dR_silo_16 ⟨Nat.zero_le _, Nat.zero_le _⟩) (fun H1 locs hq hS => ?_)
      have hP := keptP hP hq
      refine lv_if_ne (tgt := 24) hx hb dR_silo_19 (by decide) (fun c11 => ?_) (fun c11 => ?_)
      · have hm := brn hm c11
        refine lv_aload_n hx hb dR_silo_24 rfl (lv_at hl 0 rfl) ?_
        refine va_get (D := D) (ci := 6) (v := .ref (ad 6)) (C := RR) (T := TR) (N := 31) hx hb hT inR hown hK hP 0 rfl rfl 6 (by decide) (hT _ wd_541) (fun _ h9 => h9) rfl dR_silo_25 ?_
        refine lv_iload_n hx hb dR_silo_28 rfl (lv_at hl 1 rfl) ?_
        refine lv_iload_n hx hb dR_silo_29 rfl (lv_at hl 2 rfl) ?_
        obtain ⟨g12, hm⟩ := gd_to hm
        refine va_iast hx hb hK hP hD hS 6 0 rfl rfl g12 dR_silo_30 (fun H locs hP hD hS => ?_)
        obtain ⟨I13, eI13⟩ : ∃ z : SI, z = va_up I2 6 (upd (I2 6) x1.toNatClampNeg x2) := ⟨_, rfl⟩
        have hm := nm_to eI13 hm
        have hP := P_eq (ws2 := wsR ad cI cJ cG I13 J3) hP (by rw [eI13]; rfl)
        have hD := D_eq (ws2 := wsR ad cI cJ cG I13 J3) hD (by rw [eI13]; rfl)
        refine lv_iconst (v := 1) hx hb dR_silo_31 (by decide) ?_
        exact W.zret hx hb hr rfl (fun t ht hW => ⟨⟨1, (I13, J3), rfl, Option.some.inj hm, ht ▸ hP, va_K.moved hW.alike hK, hD⟩, hS.F ht⟩) hS.2.2 dR_silo_32 hlk
      · have hm := brp hm c11
        refine lv_iconst (v := 0) hx hb dR_silo_22 (by decide) ?_
        exact W.zret hx hb hr rfl (fun t ht hW => ⟨⟨0, (I2, J3), rfl, Option.some.inj hm, ht ▸ hP, va_K.moved hW.alike hK, hD⟩, hS.F ht⟩) hS.2.2 dR_silo_23 hlk
set_option maxHeartbeats 4000000 in
set_option maxRecDepth 100000 in
theorem c_R_silo (l : Launch) (D : va_G) (ad : Nat → Nat) (cI cJ cG : ClassId) (sz : Nat) (x1 : Int32) (x2 : Int32) (I : SI) (J : SJ) (res : Int32 × SI × SJ) (hm : m_R_silo x1 x2 I J = some res) : Met l yR_silo (Cond.code yR_silo bR_silo 3 (some .boolean) :: gtb) rm_R_silo (va_Pc [.ref (ad 0), .int x1, .int x2] (preW D vwCl (tysR cI cJ cG) (wsR ad cI cJ cG I J) sz)) (va_Qi (fun (r : Int32) (u : SI × SJ) => (r, u) = res) (atW D vwCl (tysR cI cJ cG) (va_A (wsR ad cI cJ cG I J) sz) (wsR ad cI cJ cG)) (va_A (wsR ad cI cJ cG I J) sz)) 0 0 (va_A (wsR ad cI cJ cG I J) sz) := by
  refine Met.ofW (cc := bR_silo) (maxL := 3) (ret := (some .boolean)) (by decide) rfl ?_
  intro p e s m args below meth c s₁ B hml hv
  obtain ⟨rfl, hsz, hP, hK, hD0, hN⟩ := hv
  subst hsz
  have X : Cx p s m [.ref (ad 0), .int x1, .int x2].toArray meth c bR_silo (some .boolean) 3 RR := ⟨B.exec, B.bytes, B.returns, hml, findClass_of_methodNamed B.named, fun w h => atoms_spec (ws := (Cond.code yR_silo bR_silo 3 (some .boolean) :: gtb)) B.pre w (List.mem_cons_of_mem _ h), B.notSynchronized⟩
  have hl := lv_entry ([.ref (ad 0), .int x1, .int x2]) (n := 3) (Nat.le_of_ble_eq_true rfl)
  rw [lg_entry_eq]
  generalize (lg_sl ([.ref (ad 0), .int x1, .int x2]) ++ List.replicate (3 - (lg_sl ([.ref (ad 0), .int x1, .int x2])).length) Slot.unset).toArray = ls at hl ⊢
  have hl : lv_has ls 3 [(0, .ref (ad 0)), (1, .int x1), (2, .int x2)] := hl
  have hA : ∀ q, s.heap.size ≤ q → va_A (wsR ad cI cJ cG I J) s.heap.size q := fun q h => Or.inr h
  exact w_R_silo_0 X hK hN hA  x1 x2 I J hm _ _ _ hP hD0.self va_S.rf hl
