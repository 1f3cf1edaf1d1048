def b_K_pointsOf_0 (x1 : Int32) (x2 : Int32) (I : SI) (J : SJ) : Option (Int32 × SI × SJ) :=
  if 4 ≤ x1 then
    nm (x1 - 4) fun v2 =>
    gd (vin v2 3) <|
    gd (vin x2 4) <|
    nm (I (7 + v2.toNatClampNeg) x2.toNatClampNeg) fun v5 =>
    some (v5, I, J)
  else
    if x1 = x2 then
      some (1, I, J)
    else
      some (0, I, J)
def m_K_pointsOf (x1 : Int32) (x2 : Int32) (I : SI) (J : SJ) : Option (Int32 × SI × SJ) := b_K_pointsOf_0 x1 x2 I J
def rm_K_pointsOf : Room := { frames := 0, cells := 0, slots := 0, locals := 0 }
set_option maxHeartbeats 4000000 in
set_option maxRecDepth 100000 in
theorem w_K_pointsOf_0 {p : Program} {l : Launch} {e : Env} {s : State} {m : MethodId} {args : Array Value} {below : List Frame} {meth : Method} {c : Code} {D : va_G} {A : Nat → Prop} {ad : Nat → Nat} {cI cJ cG : ClassId} {res : Int32 × SI × SJ} (X : Cx p s m args meth c bK_pointsOf (some .int) 3 RK) (hK : va_K D vwCl (tysM cI cJ cG) s) (hN : NWs s) (hA : ∀ q, s.heap.size ≤ q → A q)
     (x1 : Int32) (x2 : Int32) (I : SI) (J : SJ) (hm : b_K_pointsOf_0  x1 x2 I J = some res) : WB p l e (headSpec (Cond.code yK_pointsOf bK_pointsOf 3 (some .int) :: gtb) rm_K_pointsOf).room s m args below meth c (MQ below (va_Qi (fun (r : Int32) (u : SI × SJ) => (r, u) = res) (atW D vwCl (tysM cI cJ cG) A (wsM ad cI cJ cG)) A) args s 0 0 A) D vwCl A 3 (wsM ad cI cJ cG I J) 0 [(0, .ref (ad 19)), (1, .int x1), (2, .int x2)] [] := by
  obtain ⟨hx, hb, hr, hml, hown, hT, hlk⟩ := X
  intro H locs ls hP hD hS hl
  unfold b_K_pointsOf_0 at hm
  refine lv_iload_n hx hb dK_pointsOf_0 rfl (lv_at hl 1 rfl) ?_
  refine lv_iconst (v := 4) hx hb dK_pointsOf_1 (by decide) ?_
  refine lv_icmp_ge (tgt := 16) hx hb dK_pointsOf_2 (by decide) (fun c1 => ?_) (fun c1 => ?_)
  · have hm := brp hm c1
    refine lv_aload_n hx hb dK_pointsOf_16 rfl (lv_at hl 0 rfl) ?_
    refine va_get (D := D) (ci := 0) (v := .ref (ad 0)) (C := RK) (T := TK) (N := 10) hx hb hT inK hown hK hP 19 rfl rfl 0 (by decide) (hT _ wd_199) (fun _ h9 => h9) rfl dK_pointsOf_17 ?_
    refine va_getN (D := D) (ci := 4) (v := .ref (ad 6)) (C := RT) (T := TT) (N := 9) hx hb hT inT hown hK hP 0 rfl rfl 6 (by decide) (va_Nw.use rfl (hN _ nw_97)) (fun _ h9 => h9) rfl dK_pointsOf_20 ?_
    refine lv_iload_n hx hb dK_pointsOf_23 rfl (lv_at hl 1 rfl) ?_
    refine lv_iconst (v := 4) hx hb dK_pointsOf_24 (by decide) ?_
    refine lv_isub hx hb dK_pointsOf_25 ?_
    refine lv_topi (fun v2 ev2 => ?_)
    have hm := nm_to ev2 hm
    obtain ⟨g3, hm⟩ := gd_to hm
    refine va_aldG hx hb hK hP 6 2 rfl rfl rfl g3 (outM_6 (vp_lt g3)) dK_pointsOf_26 ?_
    refine lv_iload_n hx hb dK_pointsOf_27 rfl (lv_at hl 2 rfl) ?_
    obtain ⟨g4, hm⟩ := gd_to hm
    refine va_iald hx hb hK hP (7 + v2.toNatClampNeg) 0 (rowM_6 (vp_lt g3)) rfl g4 dK_pointsOf_28 ?_
    refine lv_topi (fun v5 ev5 => ?_)
    have hm := nm_to ev5 hm
    exact W.iret hx hb hr (fun t ht hW => ⟨⟨v5, (I, J), rfl, Option.some.inj hm, ht ▸ hP, va_K.moved hW.alike hK, hD⟩, hS.F ht⟩) hS.2.2 dK_pointsOf_29 hlk
  · have hm := brn hm c1
    refine lv_iload_n hx hb dK_pointsOf_5 rfl (lv_at hl 1 rfl) ?_
    refine lv_iload_n hx hb dK_pointsOf_6 rfl (lv_at hl 2 rfl) ?_
    refine lv_icmp_ne (tgt := 14) hx hb dK_pointsOf_7 (by decide) (fun c6 => ?_) (fun c6 => ?_)
    · have hm := brn hm c6
      refine lv_iconst (v := 0) hx hb dK_pointsOf_14 (by decide) ?_
      exact W.iret hx hb hr (fun t ht hW => ⟨⟨0, (I, J), rfl, Option.some.inj hm, ht ▸ hP, va_K.moved hW.alike hK, hD⟩, hS.F ht⟩) hS.2.2 dK_pointsOf_15 hlk
    · have hm := brp hm c6
      refine lv_iconst (v := 1) hx hb dK_pointsOf_10 (by decide) ?_
      refine lv_goto (tgt := 15) hx hb dK_pointsOf_11 (by decide) ?_
      exact W.iret hx hb hr (fun t ht hW => ⟨⟨1, (I, J), rfl, Option.some.inj hm, ht ▸ hP, va_K.moved hW.alike hK, hD⟩, hS.F ht⟩) hS.2.2 dK_pointsOf_15 hlk
set_option maxHeartbeats 4000000 in
set_option maxRecDepth 100000 in
theorem c_K_pointsOf (l : Launch) (D : va_G) (ad : Nat → Nat) (cI cJ cG : ClassId) (sz : Nat) (x1 : Int32) (x2 : Int32) (I : SI) (J : SJ) (res : Int32 × SI × SJ) (hm : m_K_pointsOf x1 x2 I J = some res) : Met l yK_pointsOf (Cond.code yK_pointsOf bK_pointsOf 3 (some .int) :: gtb) rm_K_pointsOf (va_Pc [.ref (ad 19), .int x1, .int x2] (preW D vwCl (tysM cI cJ cG) (wsM ad cI cJ cG I J) sz)) (va_Qi (fun (r : Int32) (u : SI × SJ) => (r, u) = res) (atW D vwCl (tysM cI cJ cG) (va_A (wsM ad cI cJ cG I J) sz) (wsM ad cI cJ cG)) (va_A (wsM ad cI cJ cG I J) sz)) 0 0 (va_A (wsM ad cI cJ cG I J) sz) := by
  refine Met.ofW (cc := bK_pointsOf) (maxL := 3) (ret := (some .int)) (by decide) rfl ?_
  intro p e s m args below meth c s₁ B hml hv
  obtain ⟨rfl, hsz, hP, hK, hD0, hN⟩ := hv
  subst hsz
  have X : Cx p s m [.ref (ad 19), .int x1, .int x2].toArray meth c bK_pointsOf (some .int) 3 RK := ⟨B.exec, B.bytes, B.returns, hml, findClass_of_methodNamed B.named, fun w h => atoms_spec (ws := (Cond.code yK_pointsOf bK_pointsOf 3 (some .int) :: gtb)) B.pre w (List.mem_cons_of_mem _ h), B.notSynchronized⟩
  have hl := lv_entry ([.ref (ad 19), .int x1, .int x2]) (n := 3) (Nat.le_of_ble_eq_true rfl)
  rw [lg_entry_eq]
  generalize (lg_sl ([.ref (ad 19), .int x1, .int x2]) ++ List.replicate (3 - (lg_sl ([.ref (ad 19), .int x1, .int x2])).length) Slot.unset).toArray = ls at hl ⊢
  have hl : lv_has ls 3 [(0, .ref (ad 19)), (1, .int x1), (2, .int x2)] := hl
  have hA : ∀ q, s.heap.size ≤ q → va_A (wsM ad cI cJ cG I J) s.heap.size q := fun q h => Or.inr h
  exact w_K_pointsOf_0 X hK hN hA  x1 x2 I J hm _ _ _ hP hD0.self va_S.rf hl
def b_K_setSlopes_2 (k32 : Int32 → Int32 → Int32 → SI → SJ → Option (SI × SJ)) (x1 : Int32) (I : SI) (J : SJ) : Option (SI × SJ) :=
  if 7 ≤ x1 then
    some (I, J)
  else
    cl3 (m_K_pointsOf x1 3 I J) fun r2 I3 J4 =>
    nm (r2 * (I3 12 2)) fun v6 =>
    gd (vin x1 7) <|
    nm (va_up I3 20 (upd (I3 20) x1.toNatClampNeg v6)) fun I8 =>
    k32 x1 r2 0 I8 J4
def b_K_setSlopes_32 (k2 : Int32 → SI → SJ → Option (SI × SJ)) (k32 : Int32 → Int32 → Int32 → SI → SJ → Option (SI × SJ)) (x1 : Int32) (x2 : Int32) (x3 : Int32) (I : SI) (J : SJ) : Option (SI × SJ) :=
  if 3 ≤ x3 then
    nm (x1 + 1) fun v2 =>
    k2 v2 I J
  else
    gd (vin x1 7) <|
    cl3 (m_K_pointsOf x1 x3 I J) fun r4 I5 J6 =>
    nm (r4 - x2) fun v8 =>
    gd (vin x3 3) <|
    nm (va_up I5 (22 + x1.toNatClampNeg) (upd (I5 (22 + x1.toNatClampNeg)) x3.toNatClampNeg v8)) fun I10 =>
    nm (x3 + 1) fun v11 =>
    k32 x1 x2 v11 I10 J6
def b_K_setSlopes_0 (k2 : Int32 → SI → SJ → Option (SI × SJ)) (I : SI) (J : SJ) : Option (SI × SJ) :=
  k2 0 I J
def g_K_setSlopes : Nat → (Int32 → SI → SJ → Option (SI × SJ)) × (Int32 → Int32 → Int32 → SI → SJ → Option (SI × SJ))
  | 0 => (fun _ _ _ => none, fun _ _ _ _ _ => none)
  | n + 1 => (fun x1 I J => b_K_setSlopes_2 (g_K_setSlopes n).2 x1 I J, fun x1 x2 x3 I J => b_K_setSlopes_32 (g_K_setSlopes n).1 (g_K_setSlopes n).2 x1 x2 x3 I J)
def m_K_setSlopes (I : SI) (J : SJ) : Option (SI × SJ) := b_K_setSlopes_0 (g_K_setSlopes fuel).1  I J
def rm_K_setSlopes : Room := { frames := 1, cells := 0, slots := 0, locals := 22 }
set_option maxHeartbeats 4000000 in
set_option maxRecDepth 100000 in
theorem w_K_setSlopes_2 {p : Program} {l : Launch} {e : Env} {s : State} {m : MethodId} {args : Array Value} {below : List Frame} {meth : Method} {c : Code} {D : va_G} {A : Nat → Prop} {ad : Nat → Nat} {cI cJ cG : ClassId} {res : SI × SJ} (X : Cx p s m args meth c bK_setSlopes none 4 RK) (hK : va_K D vwCl (tysM cI cJ cG) s) (hN : NWs s) (hA : ∀ q, s.heap.size ≤ q → A q)
    {k32 : Int32 → Int32 → Int32 → SI → SJ → Option (SI × SJ)} (hk32 : ∀ (x1 : Int32) (x2 : Int32) (x3 : Int32) (I : SI) (J : SJ), k32 x1 x2 x3 I J = some res → WB p l e (headSpec (Cond.code yK_setSlopes bK_setSlopes 4 none :: gtb) rm_K_setSlopes).room s m args below meth c (MQ below (va_Qv (fun (u : SI × SJ) => u = res) (atW D vwCl (tysM cI cJ cG) A (wsM ad cI cJ cG)) A) args s 0 0 A) D vwCl A 4 (wsM ad cI cJ cG I J) 32 [(0, .ref (ad 19)), (1, .int x1), (2, .int x2), (3, .int x3)] [])
     (x1 : Int32) (I : SI) (J : SJ) (hm : b_K_setSlopes_2 k32 x1 I J = some res) : WB p l e (headSpec (Cond.code yK_setSlopes bK_setSlopes 4 none :: gtb) rm_K_setSlopes).room s m args below meth c (MQ below (va_Qv (fun (u : SI × SJ) => u = res) (atW D vwCl (tysM cI cJ cG) A (wsM ad cI cJ cG)) A) args s 0 0 A) D vwCl A 4 (wsM ad cI cJ cG I J) 2 [(0, .ref (ad 19)), (1, .int x1)] [] := by
  obtain ⟨hx, hb, hr, hml, hown, hT, hlk⟩ := X
  intro H locs ls hP hD hS hl
  unfold b_K_setSlopes_2 at hm
  refine lv_iload_n hx hb dK_setSlopes_2 rfl (lv_at hl 1 rfl) ?_
  refine lv_bipush (v := 7) hx hb dK_setSlopes_3 (by decide) ?_
  refine lv_icmp_ge (tgt := 65) hx hb dK_setSlopes_5 (by decide) (fun c1 => ?_) (fun c1 => ?_)
  · have hm := brp hm c1
    exact W.vret hx hb hr (fun t ht hW => ⟨⟨(I, J), rfl, Option.some.inj hm, ht ▸ hP, va_K.moved hW.alike hK, hD⟩, hS.F ht⟩) hS.2.2 dK_setSlopes_65 hlk
  · have hm := brn hm c1
    refine lv_aload_n hx hb dK_setSlopes_8 rfl (lv_at hl 0 rfl) ?_
    refine lv_iload_n hx hb dK_setSlopes_9 rfl (lv_at hl 1 rfl) ?_
    refine lv_iconst (v := 3) hx hb dK_setSlopes_10 (by decide) ?_
    obtain ⟨r2, I3, J4, hc5, hm⟩ := cl3_to hm
    refine pst_i (wf := wsM ad cI cJ cG) hD hS hA (va_runV (As := [.int x1, .int 3]) (rest := []) ⟨hx, hb, hml, hown, hT⟩ (c_K_pointsOf l D ad cI cJ cG _ x1 3 I J _ hc5) (cwV 2 hT (gV wd_377 wd_379 wd_9 wd_55 wd_380) rfl rfl rfl (by decide +kernel) ⟨Nat.le_of_ble_eq_true rfl, Nat.le_of_ble_eq_true rfl⟩) ⟨preW_fb, va_recv hK hP (ci := 0) (q0 := 19) rfl rfl, preW_at hP hK hN hD⟩ rfl rfl hl.1 rfl (lv_room (Nat.le_of_ble_eq_true rfl)) dK_setSlopes_11 ⟨Nat.zero_le _, Nat.zero_le _⟩) (fun H locs hP hD hS => ?_)
    refine lv_istore_n (lv' := [(2, .int r2), (0, .ref (ad 19)), (1, .int x1)]) hx hb dK_setSlopes_14 rfl hl (by decide) rfl (fun ls hl => ?_)
    refine lv_aload_n hx hb dK_setSlopes_15 rfl (lv_at hl 1 rfl) ?_
    refine va_get (D := D) (ci := 0) (v := .ref (ad 20)) (C := RK) (T := TK) (N := 10) hx hb hT inK hown hK hP 19 rfl rfl 2 (by decide) (hT _ wd_201) (fun _ h9 => h9) rfl dK_setSlopes_16 ?_
    refine lv_iload_n hx hb dK_setSlopes_19 rfl (lv_at hl 2 rfl) ?_
    refine lv_iload_n hx hb dK_setSlopes_20 rfl (lv_at hl 0 rfl) ?_
    refine lv_aload_n hx hb dK_setSlopes_21 rfl (lv_at hl 1 rfl) ?_
    refine va_get (D := D) (ci := 0) (v := .ref (ad 12)) (C := RK) (T := TK) (N := 10) hx hb hT inK hown hK hP 19 rfl rfl 1 (by decide) (hT _ wd_200) (fun _ h9 => h9) rfl dK_setSlopes_22 ?_
    refine va_getN (D := D) (ci := 1) (v := .int (I3 12 2)) (C := RL) (T := TL) (N := 7) hx hb hT inL hown hK hP 12 rfl rfl 2 (by decide) (va_Nw.use rfl (hN _ nw_141)) (fun _ h9 => h9) rfl dK_setSlopes_25 ?_
    refine lv_imul hx hb dK_setSlopes_28 ?_
    refine lv_topi (fun v6 ev6 => ?_)
    have hm := nm_to ev6 hm
    obtain ⟨g7, hm⟩ := gd_to hm
    refine va_iast hx hb hK hP hD hS 20 0 rfl rfl g7 dK_setSlopes_29 (fun H locs hP hD hS => ?_)
    obtain ⟨I8, eI8⟩ : ∃ z : SI, z = va_up I3 20 (upd (I3 20) x1.toNatClampNeg v6) := ⟨_, rfl⟩
    have hm := nm_to eI8 hm
    have hP := P_eq (ws2 := wsM ad cI cJ cG I8 J4) hP (by rw [eI8]; rfl)
    have hD := D_eq (ws2 := wsM ad cI cJ cG I8 J4) hD (by rw [eI8]; rfl)
    refine lv_iconst (v := 0) hx hb dK_setSlopes_30 (by decide) ?_
    refine lv_istore_n (lv' := [(3, .int 0), (2, .int r2), (0, .ref (ad 19)), (1, .int x1)]) hx hb dK_setSlopes_31 rfl hl (by decide) rfl (fun ls hl => ?_)
    exact hk32 x1 r2 0 I8 J4 hm _ _ _ hP hD hS (lv_sub hl [2, 3, 1, 0] rfl)
set_option maxHeartbeats 4000000 in
set_option maxRecDepth 100000 in
theorem w_K_setSlopes_32 {p : Program} {l : Launch} {e : Env} {s : State} {m : MethodId} {args : Array Value} {below : List Frame} {meth : Method} {c : Code} {D : va_G} {A : Nat → Prop} {ad : Nat → Nat} {cI cJ cG : ClassId} {res : SI × SJ} (X : Cx p s m args meth c bK_setSlopes none 4 RK) (hK : va_K D vwCl (tysM cI cJ cG) s) (hN : NWs s) (hA : ∀ q, s.heap.size ≤ q → A q)
    {k2 : Int32 → SI → SJ → Option (SI × SJ)} (hk2 : ∀ (x1 : Int32) (I : SI) (J : SJ), k2 x1 I J = some res → WB p l e (headSpec (Cond.code yK_setSlopes bK_setSlopes 4 none :: gtb) rm_K_setSlopes).room s m args below meth c (MQ below (va_Qv (fun (u : SI × SJ) => u = res) (atW D vwCl (tysM cI cJ cG) A (wsM ad cI cJ cG)) A) args s 0 0 A) D vwCl A 4 (wsM ad cI cJ cG I J) 2 [(0, .ref (ad 19)), (1, .int x1)] [])
    {k32 : Int32 → Int32 → Int32 → SI → SJ → Option (SI × SJ)} (hk32 : ∀ (x1 : Int32) (x2 : Int32) (x3 : Int32) (I : SI) (J : SJ), k32 x1 x2 x3 I J = some res → WB p l e (headSpec (Cond.code yK_setSlopes bK_setSlopes 4 none :: gtb) rm_K_setSlopes).room s m args below meth c (MQ below (va_Qv (fun (u : SI × SJ) => u = res) (atW D vwCl (tysM cI cJ cG) A (wsM ad cI cJ cG)) A) args s 0 0 A) D vwCl A 4 (wsM ad cI cJ cG I J) 32 [(0, .ref (ad 19)), (1, .int x1), (2, .int x2), (3, .int x3)] [])
     (x1 : Int32) (x2 : Int32) (x3 : Int32) (I : SI) (J : SJ) (hm : b_K_setSlopes_32 k2 k32 x1 x2 x3 I J = some res) : WB p l e (headSpec (Cond.code yK_setSlopes bK_setSlopes 4 none :: gtb) rm_K_setSlopes).room s m args below meth c (MQ below (va_Qv (fun (u : SI × SJ) => u = res) (atW D vwCl (tysM cI cJ cG) A (wsM ad cI cJ cG)) A) args s 0 0 A) D vwCl A 4 (wsM ad cI cJ cG I J) 32 [(0, .ref (ad 19)), (1, .int x1), (2, .int x2), (3, .int x3)] [] := by
  obtain ⟨hx, hb, hr, hml, hown, hT, hlk⟩ := X
  intro H locs ls hP hD hS hl
  unfold b_K_setSlopes_32 at hm
  refine lv_iload_n hx hb dK_setSlopes_32 rfl (lv_at hl 3 rfl) ?_
  refine lv_iconst (v := 3) hx hb dK_setSlopes_33 (by decide) ?_
  refine lv_icmp_ge (tgt := 59) hx hb dK_setSlopes_34 (by decide) (fun c1 => ?_) (fun c1 => ?_)
  · have hm := brp hm c1
    obtain ⟨v2, ev2⟩ : ∃ z : Int32, z = x1 + 1 := ⟨_, rfl⟩
    have hm := nm_to ev2 hm
    refine lv_iinc (v := v2) (lv' := [(1, .int v2), (0, .ref (ad 19)), (2, .int x2), (3, .int x3)]) hx hb dK_setSlopes_59 hl (k := 1) rfl (by rw [ev2]; rfl) (by decide) rfl (fun ls hl => ?_)
    refine lv_goto (tgt := 2) hx hb dK_setSlopes_62 (by decide) ?_
    exact hk2 v2 I J hm _ _ _ hP hD hS (lv_sub hl [1, 0] rfl)
  · have hm := brn hm c1
    refine lv_aload_n hx hb dK_setSlopes_37 rfl (lv_at hl 0 rfl) ?_
    refine va_get (D := D) (ci := 0) (v := .ref (ad 21)) (C := RK) (T := TK) (N := 10) hx hb hT inK hown hK hP 19 rfl rfl 3 (by decide) (hT _ wd_202) (fun _ h9 => h9) rfl dK_setSlopes_38 ?_
    refine lv_iload_n hx hb dK_setSlopes_41 rfl (lv_at hl 1 rfl) ?_
    obtain ⟨g3, hm⟩ := gd_to hm
    refine va_aldG hx hb hK hP 21 2 rfl rfl rfl g3 (outM_21 (vp_lt g3)) dK_setSlopes_42 ?_
    refine lv_iload_n hx hb dK_setSlopes_43 rfl (lv_at hl 3 rfl) ?_
    refine lv_aload_n hx hb dK_setSlopes_44 rfl (lv_at hl 0 rfl) ?_
    refine lv_iload_n hx hb dK_setSlopes_45 rfl (lv_at hl 1 rfl) ?_
    refine lv_iload_n hx hb dK_setSlopes_46 rfl (lv_at hl 3 rfl) ?_
    obtain ⟨r4, I5, J6, hc7, hm⟩ := cl3_to hm
    refine pst_i (wf := wsM ad cI cJ cG) hD hS hA (va_runV (As := [.int x1, .int x3]) (rest := [.int x3, .ref (ad (22 + x1.toNatClampNeg))]) ⟨hx, hb, hml, hown, hT⟩ (c_K_pointsOf l D ad cI cJ cG _ x1 x3 I J _ hc7) (cwV 2 hT (gV wd_377 wd_379 wd_9 wd_55 wd_380) rfl rfl rfl (by decide +kernel) ⟨Nat.le_of_ble_eq_true rfl, Nat.le_of_ble_eq_true rfl⟩) ⟨preW_fb, va_recv hK hP (ci := 0) (q0 := 19) rfl rfl, preW_at hP hK hN hD⟩ rfl rfl hl.1 rfl (lv_room (Nat.le_of_ble_eq_true rfl)) dK_setSlopes_47 ⟨Nat.zero_le _, Nat.zero_le _⟩) (fun H locs hP hD hS => ?_)
    refine lv_iload_n hx hb dK_setSlopes_50 rfl (lv_at hl 2 rfl) ?_
    refine lv_isub hx hb dK_setSlopes_51 ?_
    refine lv_topi (fun v8 ev8 => ?_)
    have hm := nm_to ev8 hm
    obtain ⟨g9, hm⟩ := gd_to hm
    refine va_iast hx hb hK hP hD hS (22 + x1.toNatClampNeg) 0 (rowM_21 (vp_lt g3)) rfl g9 dK_setSlopes_52 (fun H locs hP hD hS => ?_)
    obtain ⟨I10, eI10⟩ : ∃ z : SI, z = va_up I5 (22 + x1.toNatClampNeg) (upd (I5 (22 + x1.toNatClampNeg)) x3.toNatClampNeg v8) := ⟨_, rfl⟩
    have hm := nm_to eI10 hm
    have hP := P_eq (ws2 := wsM ad cI cJ cG I10 J6) hP (by rw [eI10]; exact (rsetM_21 (vp_lt g3)))
    have hD := D_eq (ws2 := wsM ad cI cJ cG I10 J6) hD (by rw [eI10]; exact (rsetM_21 (vp_lt g3)))
    obtain ⟨v11, ev11⟩ : ∃ z : Int32, z = x3 + 1 := ⟨_, rfl⟩
    have hm := nm_to ev11 hm
    refine lv_iinc (v := v11) (lv' := [(3, .int v11), (0, .ref (ad 19)), (1, .int x1), (2, .int x2)]) hx hb dK_setSlopes_53 hl (k := 3) rfl (by rw [ev11]; rfl) (by decide) rfl (fun ls hl => ?_)
    refine lv_goto (tgt := 32) hx hb dK_setSlopes_56 (by decide) ?_
    exact hk32 x1 x2 v11 I10 J6 hm _ _ _ hP hD hS (lv_sub hl [1, 2, 3, 0] rfl)
set_option maxHeartbeats 4000000 in
set_option maxRecDepth 100000 in
theorem w_K_setSlopes_0 {p : Program} {l : Launch} {e : Env} {s : State} {m : MethodId} {args : Array Value} {below : List Frame} {meth : Method} {c : Code} {D : va_G} {A : Nat → Prop} {ad : Nat → Nat} {cI cJ cG : ClassId} {res : SI × SJ} (X : Cx p s m args meth c bK_setSlopes none 4 RK) (hK : va_K D vwCl (tysM cI cJ cG) s) (hN : NWs s) (hA : ∀ q, s.heap.size ≤ q → A q)
    {k2 : Int32 → SI → SJ → Option (SI × SJ)} (hk2 : ∀ (x1 : Int32) (I : SI) (J : SJ), k2 x1 I J = some res → WB p l e (headSpec (Cond.code yK_setSlopes bK_setSlopes 4 none :: gtb) rm_K_setSlopes).room s m args below meth c (MQ below (va_Qv (fun (u : SI × SJ) => u = res) (atW D vwCl (tysM cI cJ cG) A (wsM ad cI cJ cG)) A) args s 0 0 A) D vwCl A 4 (wsM ad cI cJ cG I J) 2 [(0, .ref (ad 19)), (1, .int x1)] [])
     (I : SI) (J : SJ) (hm : b_K_setSlopes_0 k2  I J = some res) : WB p l e (headSpec (Cond.code yK_setSlopes bK_setSlopes 4 none :: gtb) rm_K_setSlopes).room s m args below meth c (MQ below (va_Qv (fun (u : SI × SJ) => u = res) (atW D vwCl (tysM cI cJ cG) A (wsM ad cI cJ cG)) A) args s 0 0 A) D vwCl A 4 (wsM ad cI cJ cG I J) 0 [(0, .ref (ad 19))] [] := by
  obtain ⟨hx, hb, hr, hml, hown, hT, hlk⟩ := X
  intro H locs ls hP hD hS hl
  unfold b_K_setSlopes_0 at hm
  refine lv_iconst (v := 0) hx hb dK_setSlopes_0 (by decide) ?_
  refine lv_istore_n (lv' := [(1, .int 0), (0, .ref (ad 19))]) hx hb dK_setSlopes_1 rfl hl (by decide) rfl (fun ls hl => ?_)
  exact hk2 0 I J hm _ _ _ hP hD hS (lv_sub hl [1, 0] rfl)
set_option maxHeartbeats 4000000 in
theorem gw_K_setSlopes {p : Program} {l : Launch} {e : Env} {s : State} {m : MethodId} {args : Array Value} {below : List Frame} {meth : Method} {c : Code} {D : va_G} {A : Nat → Prop} {ad : Nat → Nat} {cI cJ cG : ClassId} {res : SI × SJ} (X : Cx p s m args meth c bK_setSlopes none 4 RK) (hK : va_K D vwCl (tysM cI cJ cG) s) (hN : NWs s) (hA : ∀ q, s.heap.size ≤ q → A q) : ∀ n : Nat, (∀ (x1 : Int32) (I : SI) (J : SJ), (g_K_setSlopes n).1 x1 I J = some res → WB p l e (headSpec (Cond.code yK_setSlopes bK_setSlopes 4 none :: gtb) rm_K_setSlopes).room s m args below meth c (MQ below (va_Qv (fun (u : SI × SJ) => u = res) (atW D vwCl (tysM cI cJ cG) A (wsM ad cI cJ cG)) A) args s 0 0 A) D vwCl A 4 (wsM ad cI cJ cG I J) 2 [(0, .ref (ad 19)), (1, .int x1)] []) ∧ (∀ (x1 : Int32) (x2 : Int32) (x3 : Int32) (I : SI) (J : SJ), (g_K_setSlopes n).2 x1 x2 x3 I J = some res → WB p l e (headSpec (Cond.code yK_setSlopes bK_setSlopes 4 none :: gtb) rm_K_setSlopes).room s m args below meth c (MQ below (va_Qv (fun (u : SI × SJ) => u = res) (atW D vwCl (tysM cI cJ cG) A (wsM ad cI cJ cG)) A) args s 0 0 A) D vwCl A 4 (wsM ad cI cJ cG I J) 32 [(0, .ref (ad 19)), (1, .int x1), (2, .int x2), (3, .int x3)] []) := by
  intro n
  induction n with
  | zero => exact ⟨fun _ _ _ h => (by cases h), fun _ _ _ _ _ h => (by cases h)⟩
  | succ n ih =>
    obtain ⟨ih2, ih32⟩ := ih
    exact ⟨fun x1 I J h => w_K_setSlopes_2 X hK hN hA ih32 x1 I J h, fun x1 x2 x3 I J h => w_K_setSlopes_32 X hK hN hA ih2 ih32 x1 x2 x3 I J h⟩
set_option maxHeartbeats 4000000 in
set_option maxRecDepth 100000 in
theorem c_K_setSlopes (l : Launch) (D : va_G) (ad : Nat → Nat) (cI cJ cG : ClassId) (sz : Nat) (I : SI) (J : SJ) (res : SI × SJ) (hm : m_K_setSlopes  I J = some res) : Met l yK_setSlopes (Cond.code yK_setSlopes bK_setSlopes 4 none :: gtb) rm_K_setSlopes (va_Pc [.ref (ad 19)] (preW D vwCl (tysM cI cJ cG) (wsM ad cI cJ cG I J) sz)) (va_Qv (fun (u : SI × SJ) => u = res) (atW D vwCl (tysM cI cJ cG) (va_A (wsM ad cI cJ cG I J) sz) (wsM ad cI cJ cG)) (va_A (wsM ad cI cJ cG I J) sz)) 0 0 (va_A (wsM ad cI cJ cG I J) sz) := by
  refine Met.ofW (cc := bK_setSlopes) (maxL := 4) (ret := none) (by decide) rfl ?_
  intro p e s m args below meth c s₁ B hml hv
  obtain ⟨rfl, hsz, hP, hK, hD0, hN⟩ := hv
  subst hsz
  have X : Cx p s m [.ref (ad 19)].toArray meth c bK_setSlopes none 4 RK := ⟨B.exec, B.bytes, B.returns, hml, findClass_of_methodNamed B.named, fun w h => atoms_spec (ws := (Cond.code yK_setSlopes bK_setSlopes 4 none :: gtb)) B.pre w (List.mem_cons_of_mem _ h), B.notSynchronized⟩
  have hl := lv_entry ([.ref (ad 19)]) (n := 4) (Nat.le_of_ble_eq_true rfl)
  rw [lg_entry_eq]
  generalize (lg_sl ([.ref (ad 19)]) ++ List.replicate (4 - (lg_sl ([.ref (ad 19)])).length) Slot.unset).toArray = ls at hl ⊢
  have hl : lv_has ls 4 [(0, .ref (ad 19))] := hl
  have hA : ∀ q, s.heap.size ≤ q → va_A (wsM ad cI cJ cG I J) s.heap.size q := fun q h => Or.inr h
  exact w_K_setSlopes_0 X hK hN hA (gw_K_setSlopes X hK hN hA fuel).1  I J hm _ _ _ hP hD0.self va_S.rf hl
def b_K_addPlane_0 (x1 : Int32) (x2 : Int32) (I : SI) (J : SJ) : Option (SI × SJ) :=
  if 14 ≤ (I 19 6) then
    some (I, J)
  else
    gd (vin (I 19 6) 14) <|
    nm (va_up I 29 (upd (I 29) (I 19 6).toNatClampNeg x1)) fun I3 =>
    gd (vin x1 7) <|
    nm (I3 20 x1.toNatClampNeg) fun v5 =>
    nm (x2 - v5) fun v6 =>
    gd (vin (I3 19 6) 14) <|
    nm (va_up I3 30 (upd (I3 30) (I3 19 6).toNatClampNeg v6)) fun I8 =>
    nm ((I8 19 6) + 1) fun v9 =>
    nm (va_up I8 19 (upd (I8 19) 6 v9)) fun I10 =>
    some (I10, J)
def m_K_addPlane (x1 : Int32) (x2 : Int32) (I : SI) (J : SJ) : Option (SI × SJ) := b_K_addPlane_0 x1 x2 I J
def rm_K_addPlane : Room := { frames := 0, cells := 0, slots := 0, locals := 0 }
set_option maxHeartbeats 4000000 in
set_option maxRecDepth 100000 in
theorem w_K_addPlane_0 {p : Program} {l : Launch} {e : Env} {s : State} {m : MethodId} {args : Array Value} {below : List Frame} {meth : Method} {c : Code} {D : va_G} {A : Nat → Prop} {ad : Nat → Nat} {cI cJ cG : ClassId} {res : SI × SJ} (X : Cx p s m args meth c bK_addPlane none 3 RK) (hK : va_K D vwCl (tysM cI cJ cG) s) (hN : NWs s) (hA : ∀ q, s.heap.size ≤ q → A q)
     (x1 : Int32) (x2 : Int32) (I : SI) (J : SJ) (hm : b_K_addPlane_0  x1 x2 I J = some res) : WB p l e (headSpec (Cond.code yK_addPlane bK_addPlane 3 none :: gtb) rm_K_addPlane).room s m args below meth c (MQ below (va_Qv (fun (u : SI × SJ) => u = res) (atW D vwCl (tysM cI cJ cG) A (wsM ad cI cJ cG)) A) args s 0 0 A) D vwCl A 3 (wsM ad cI cJ cG I J) 0 [(0, .ref (ad 19)), (1, .int x1), (2, .int x2)] [] := by
  obtain ⟨hx, hb, hr, hml, hown, hT, hlk⟩ := X
  intro H locs ls hP hD hS hl
  unfold b_K_addPlane_0 at hm
  refine lv_aload_n hx hb dK_addPlane_0 rfl (lv_at hl 0 rfl) ?_
  refine va_get (D := D) (ci := 0) (v := .int (I 19 6)) (C := RK) (T := TK) (N := 10) hx hb hT inK hown hK hP 19 rfl rfl 6 (by decide) (hT _ wd_205) (fun _ h9 => h9) rfl dK_addPlane_1 ?_
  refine lv_aload_n hx hb dK_addPlane_4 rfl (lv_at hl 0 rfl) ?_
  refine va_get (D := D) (ci := 0) (v := .ref (ad 29)) (C := RK) (T := TK) (N := 10) hx hb hT inK hown hK hP 19 rfl rfl 4 (by decide) (hT _ wd_203) (fun _ h9 => h9) rfl dK_addPlane_5 ?_
  refine va_alen hx hb hK hP 29 0 rfl rfl (v := 14) rfl dK_addPlane_8 ?_
  refine lv_icmp_ge (tgt := 49) hx hb dK_addPlane_9 (by decide) (fun c1 => ?_) (fun c1 => ?_)
  · have hm := brp hm c1
    exact W.vret hx hb hr (fun t ht hW => ⟨⟨(I, J), rfl, Option.some.inj hm, ht ▸ hP, va_K.moved hW.alike hK, hD⟩, hS.F ht⟩) hS.2.2 dK_addPlane_49 hlk
  · have hm := brn hm c1
    refine lv_aload_n hx hb dK_addPlane_12 rfl (lv_at hl 0 rfl) ?_
    refine va_get (D := D) (ci := 0) (v := .ref (ad 29)) (C := RK) (T := TK) (N := 10) hx hb hT inK hown hK hP 19 rfl rfl 4 (by decide) (hT _ wd_203) (fun _ h9 => h9) rfl dK_addPlane_13 ?_
    refine lv_aload_n hx hb dK_addPlane_16 rfl (lv_at hl 0 rfl) ?_
    refine va_get (D := D) (ci := 0) (v := .int (I 19 6)) (C := RK) (T := TK) (N := 10) hx hb hT inK hown hK hP 19 rfl rfl 6 (by decide) (hT _ wd_205) (fun _ h9 => h9) rfl dK_addPlane_17 ?_
    refine lv_iload_n hx hb dK_addPlane_20 rfl (lv_at hl 1 rfl) ?_
    obtain ⟨g2, hm⟩ := gd_to hm
    refine va_iast hx hb hK hP hD hS 29 0 rfl rfl g2 dK_addPlane_21 (fun H locs hP hD hS => ?_)
    obtain ⟨I3, eI3⟩ : ∃ z : SI, z = va_up I 29 (upd (I 29) (I 19 6).toNatClampNeg x1) := ⟨_, rfl⟩
    have hm := nm_to eI3 hm
    have hP := P_eq (ws2 := wsM ad cI cJ cG I3 J) hP (by rw [eI3]; rfl)
    have hD := D_eq (ws2 := wsM ad cI cJ cG I3 J) hD (by rw [eI3]; rfl)
    refine lv_aload_n hx hb dK_addPlane_22 rfl (lv_at hl 0 rfl) ?_
    refine va_get (D := D) (ci := 0) (v := .ref (ad 30)) (C := RK) (T := TK) (N := 10) hx hb hT inK hown hK hP 19 rfl rfl 5 (by decide) (hT _ wd_204) (fun _ h9 => h9) rfl dK_addPlane_23 ?_
    refine lv_aload_n hx hb dK_addPlane_26 rfl (lv_at hl 0 rfl) ?_
    refine va_get (D := D) (ci := 0) (v := .int (I3 19 6)) (C := RK) (T := TK) (N := 10) hx hb hT inK hown hK hP 19 rfl rfl 6 (by decide) (hT _ wd_205) (fun _ h9 => h9) rfl dK_addPlane_27 ?_
    refine lv_iload_n hx hb dK_addPlane_30 rfl (lv_at hl 2 rfl) ?_
    refine lv_aload_n hx hb dK_addPlane_31 rfl (lv_at hl 0 rfl) ?_
    refine va_get (D := D) (ci := 0) (v := .ref (ad 20)) (C := RK) (T := TK) (N := 10) hx hb hT inK hown hK hP 19 rfl rfl 2 (by decide) (hT _ wd_201) (fun _ h9 => h9) rfl dK_addPlane_32 ?_
    refine lv_iload_n hx hb dK_addPlane_35 rfl (lv_at hl 1 rfl) ?_
    obtain ⟨g4, hm⟩ := gd_to hm
    refine va_iald hx hb hK hP 20 0 rfl rfl g4 dK_addPlane_36 ?_
    refine lv_topi (fun v5 ev5 => ?_)
    have hm := nm_to ev5 hm
    refine lv_isub hx hb dK_addPlane_37 ?_
    refine lv_topi (fun v6 ev6 => ?_)
    have hm := nm_to ev6 hm
    obtain ⟨g7, hm⟩ := gd_to hm
    refine va_iast hx hb hK hP hD hS 30 0 rfl rfl g7 dK_addPlane_38 (fun H locs hP hD hS => ?_)
    obtain ⟨I8, eI8⟩ : ∃ z : SI, z = va_up I3 30 (upd (I3 30) (I3 19 6).toNatClampNeg v6) := ⟨_, rfl⟩
    have hm := nm_to eI8 hm
    have hP := P_eq (ws2 := wsM ad cI cJ cG I8 J) hP (by rw [eI8]; rfl)
    have hD := D_eq (ws2 := wsM ad cI cJ cG I8 J) hD (by rw [eI8]; rfl)
    refine lv_aload_n hx hb dK_addPlane_39 rfl (lv_at hl 0 rfl) ?_
    refine lv_dup hx hb dK_addPlane_40 rfl ?_
    refine va_get (D := D) (ci := 0) (v := .int (I8 19 6)) (C := RK) (T := TK) (N := 10) hx hb hT inK hown hK hP 19 rfl rfl 6 (by decide) (hT _ wd_205) (fun _ h9 => h9) rfl dK_addPlane_41 ?_
    refine lv_iconst (v := 1) hx hb dK_addPlane_44 (by decide) ?_
    refine lv_iadd hx hb dK_addPlane_45 ?_
    refine lv_topi (fun v9 ev9 => ?_)
    have hm := nm_to ev9 hm
    refine va_put (D := D) (ci := 0) (v := .int v9) (ty := .int) (C := RK) (T := TK) (N := 10) hx hb hT inK tyK okK nmK hown hK hP hD hS 19 rfl rfl 6 (by decide) (hT _ wd_205) (fun _ h9 => h9) rfl pf_I rfl rfl (Nat.le_of_ble_eq_true rfl) dK_addPlane_46 (fun H locs hP hD hS => ?_)
    obtain ⟨I10, eI10⟩ : ∃ z : SI, z = va_up I8 19 (upd (I8 19) 6 v9) := ⟨_, rfl⟩
    have hm := nm_to eI10 hm
    have hP := P_eq (ws2 := wsM ad cI cJ cG I10 J) hP (by rw [eI10]; rfl)
    have hD := D_eq (ws2 := wsM ad cI cJ cG I10 J) hD (by rw [eI10]; rfl)
    exact W.vret hx hb hr (fun t ht hW => ⟨⟨(I10, J), rfl, Option.some.inj hm, ht ▸ hP, va_K.moved hW.alike hK, hD⟩, hS.F ht⟩) hS.2.2 dK_addPlane_49 hlk
set_option maxHeartbeats 4000000 in
set_option maxRecDepth 100000 in
theorem c_K_addPlane (l : Launch) (D : va_G) (ad : Nat → Nat) (cI cJ cG : ClassId) (sz : Nat) (x1 : Int32) (x2 : Int32) (I : SI) (J : SJ) (res : SI × SJ) (hm : m_K_addPlane x1 x2 I J = some res) : Met l yK_addPlane (Cond.code yK_addPlane bK_addPlane 3 none :: gtb) rm_K_addPlane (va_Pc [.ref (ad 19), .int x1, .int x2] (preW D vwCl (tysM cI cJ cG) (wsM ad cI cJ cG I J) sz)) (va_Qv (fun (u : SI × SJ) => u = res) (atW D vwCl (tysM cI cJ cG) (va_A (wsM ad cI cJ cG I J) sz) (wsM ad cI cJ cG)) (va_A (wsM ad cI cJ cG I J) sz)) 0 0 (va_A (wsM ad cI cJ cG I J) sz) := by
  refine Met.ofW (cc := bK_addPlane) (maxL := 3) (ret := none) (by decide) rfl ?_
  intro p e s m args below meth c s₁ B hml hv
  obtain ⟨rfl, hsz, hP, hK, hD0, hN⟩ := hv
  subst hsz
  have X : Cx p s m [.ref (ad 19), .int x1, .int x2].toArray meth c bK_addPlane none 3 RK := ⟨B.exec, B.bytes, B.returns, hml, findClass_of_methodNamed B.named, fun w h => atoms_spec (ws := (Cond.code yK_addPlane bK_addPlane 3 none :: gtb)) B.pre w (List.mem_cons_of_mem _ h), B.notSynchronized⟩
  have hl := lv_entry ([.ref (ad 19), .int x1, .int x2]) (n := 3) (Nat.le_of_ble_eq_true rfl)
  rw [lg_entry_eq]
  generalize (lg_sl ([.ref (ad 19), .int x1, .int x2]) ++ List.replicate (3 - (lg_sl ([.ref (ad 19), .int x1, .int x2])).length) Slot.unset).toArray = ls at hl ⊢
  have hl : lv_has ls 3 [(0, .ref (ad 19)), (1, .int x1), (2, .int x2)] := hl
  have hA : ∀ q, s.heap.size ≤ q → va_A (wsM ad cI cJ cG I J) s.heap.size q := fun q h => Or.inr h
  exact w_K_addPlane_0 X hK hN hA  x1 x2 I J hm _ _ _ hP hD0.self va_S.rf hl
def b_K_addPlanesOfOneAmount_2 (k2 : Int32 → SI → SJ → Option (SI × SJ)) (x1 : Int32) (I : SI) (J : SJ) : Option (SI × SJ) :=
  if 4 ≤ x1 then
    some (I, J)
  else
    gd (vin x1 7) <|
    nm (I 13 x1.toNatClampNeg) fun v3 =>
    gd (vin x1 7) <|
    nm (I 14 x1.toNatClampNeg) fun v5 =>
    if v3 = v5 then
      gd (vin x1 7) <|
      nm (I 13 x1.toNatClampNeg) fun v9 =>
      cl2 (m_K_addPlane x1 v9 I J) fun I11 J12 =>
      nm (x1 + 1) fun v14 =>
      k2 v14 I11 J12
    else
      nm (x1 + 1) fun v7 =>
      k2 v7 I J
def b_K_addPlanesOfOneAmount_0 (k2 : Int32 → SI → SJ → Option (SI × SJ)) (I : SI) (J : SJ) : Option (SI × SJ) :=
  k2 0 I J
def g_K_addPlanesOfOneAmount : Nat → (Int32 → SI → SJ → Option (SI × SJ))
  | 0 => (fun _ _ _ => none)
  | n + 1 => (fun x1 I J => b_K_addPlanesOfOneAmount_2 (g_K_addPlanesOfOneAmount n) x1 I J)
def m_K_addPlanesOfOneAmount (I : SI) (J : SJ) : Option (SI × SJ) := b_K_addPlanesOfOneAmount_0 (g_K_addPlanesOfOneAmount fuel)  I J
def rm_K_addPlanesOfOneAmount : Room := { frames := 1, cells := 0, slots := 0, locals := 22 }
set_option maxHeartbeats 4000000 in
set_option maxRecDepth 100000 in
theorem w_K_addPlanesOfOneAmount_2 {p : Program} {l : Launch} {e : Env} {s : State} {m : MethodId} {args : Array Value} {below : List Frame} {meth : Method} {c : Code} {D : va_G} {A : Nat → Prop} {ad : Nat → Nat} {cI cJ cG : ClassId} {res : SI × SJ} (X : Cx p s m args meth c bK_addPlanesOfOneAmount none 2 RK) (hK : va_K D vwCl (tysM cI cJ cG) s) (hN : NWs s) (hA : ∀ q, s.heap.size ≤ q → A q)
    {k2 : Int32 → SI → SJ → Option (SI × SJ)} (hk2 : ∀ (x1 : Int32) (I : SI) (J : SJ), k2 x1 I J = some res → WB p l e (headSpec (Cond.code yK_addPlanesOfOneAmount bK_addPlanesOfOneAmount 2 none :: gtb) rm_K_addPlanesOfOneAmount).room s m args below meth c (MQ below (va_Qv (fun (u : SI × SJ) => u = res) (atW D vwCl (tysM cI cJ cG) A (wsM ad cI cJ cG)) A) args s 0 0 A) D vwCl A 2 (wsM ad cI cJ cG I J) 2 [(0, .ref (ad 19)), (1, .int x1)] [])
     (x1 : Int32) (I : SI) (J : SJ) (hm : b_K_addPlanesOfOneAmount_2 k2 x1 I J = some res) : WB p l e (headSpec (Cond.code yK_addPlanesOfOneAmount bK_addPlanesOfOneAmount 2 none :: gtb) rm_K_addPlanesOfOneAmount).room s m args below meth c (MQ below (va_Qv (fun (u : SI × SJ) => u = res) (atW D vwCl (tysM cI cJ cG) A (wsM ad cI cJ cG)) A) args s 0 0 A) D vwCl A 2 (wsM ad cI cJ cG I J) 2 [(0, .ref (ad 19)), (1, .int x1)] [] := by
  obtain ⟨hx, hb, hr, hml, hown, hT, hlk⟩ := X
  intro H locs ls hP hD hS hl
  unfold b_K_addPlanesOfOneAmount_2 at hm
  refine lv_iload_n hx hb dK_addPlanesOfOneAmount_2 rfl (lv_at hl 1 rfl) ?_
  refine lv_iconst (v := 4) hx hb dK_addPlanesOfOneAmount_3 (by decide) ?_
  refine lv_icmp_ge (tgt := 48) hx hb dK_addPlanesOfOneAmount_4 (by decide) (fun c1 => ?_) (fun c1 => ?_)
  · have hm := brp hm c1
    exact W.vret hx hb hr (fun t ht hW => ⟨⟨(I, J), rfl, Option.some.inj hm, ht ▸ hP, va_K.moved hW.alike hK, hD⟩, hS.F ht⟩) hS.2.2 dK_addPlanesOfOneAmount_48 hlk
  · have hm := brn hm c1
    refine lv_aload_n hx hb dK_addPlanesOfOneAmount_7 rfl (lv_at hl 0 rfl) ?_
    refine va_get (D := D) (ci := 0) (v := .ref (ad 12)) (C := RK) (T := TK) (N := 10) hx hb hT inK hown hK hP 19 rfl rfl 1 (by decide) (hT _ wd_200) (fun _ h9 => h9) rfl dK_addPlanesOfOneAmount_8 ?_
    refine va_getN (D := D) (ci := 1) (v := .ref (ad 13)) (C := RL) (T := TL) (N := 7) hx hb hT inL hown hK hP 12 rfl rfl 4 (by decide) (va_Nw.use rfl (hN _ nw_147)) (fun _ h9 => h9) rfl dK_addPlanesOfOneAmount_11 ?_
    refine lv_iload_n hx hb dK_addPlanesOfOneAmount_14 rfl (lv_at hl 1 rfl) ?_
    obtain ⟨g2, hm⟩ := gd_to hm
    refine va_iald hx hb hK hP 13 0 rfl rfl g2 dK_addPlanesOfOneAmount_15 ?_
    refine lv_topi (fun v3 ev3 => ?_)
    have hm := nm_to ev3 hm
    refine lv_aload_n hx hb dK_addPlanesOfOneAmount_16 rfl (lv_at hl 0 rfl) ?_
    refine va_get (D := D) (ci := 0) (v := .ref (ad 12)) (C := RK) (T := TK) (N := 10) hx hb hT inK hown hK hP 19 rfl rfl 1 (by decide) (hT _ wd_200) (fun _ h9 => h9) rfl dK_addPlanesOfOneAmount_17 ?_
    refine va_getN (D := D) (ci := 1) (v := .ref (ad 14)) (C := RL) (T := TL) (N := 7) hx hb hT inL hown hK hP 12 rfl rfl 5 (by decide) (va_Nw.use rfl (hN _ nw_150)) (fun _ h9 => h9) rfl dK_addPlanesOfOneAmount_20 ?_
    refine lv_iload_n hx hb dK_addPlanesOfOneAmount_23 rfl (lv_at hl 1 rfl) ?_
    obtain ⟨g4, hm⟩ := gd_to hm
    refine va_iald hx hb hK hP 14 0 rfl rfl g4 dK_addPlanesOfOneAmount_24 ?_
    refine lv_topi (fun v5 ev5 => ?_)
    have hm := nm_to ev5 hm
    refine lv_icmp_ne (tgt := 42) hx hb dK_addPlanesOfOneAmount_25 (by decide) (fun c6 => ?_) (fun c6 => ?_)
    · have hm := brn hm c6
      obtain ⟨v7, ev7⟩ : ∃ z : Int32, z = x1 + 1 := ⟨_, rfl⟩
      have hm := nm_to ev7 hm
      refine lv_iinc (v := v7) (lv' := [(1, .int v7), (0, .ref (ad 19))]) hx hb dK_addPlanesOfOneAmount_42 hl (k := 1) rfl (by rw [ev7]; rfl) (by decide) rfl (fun ls hl => ?_)
      refine lv_goto (tgt := 2) hx hb dK_addPlanesOfOneAmount_45 (by decide) ?_
      exact hk2 v7 I J hm _ _ _ hP hD hS (lv_sub hl [1, 0] rfl)
    · have hm := brp hm c6
      refine lv_aload_n hx hb dK_addPlanesOfOneAmount_28 rfl (lv_at hl 0 rfl) ?_
      refine lv_iload_n hx hb dK_addPlanesOfOneAmount_29 rfl (lv_at hl 1 rfl) ?_
      refine lv_aload_n hx hb dK_addPlanesOfOneAmount_30 rfl (lv_at hl 0 rfl) ?_
      refine va_get (D := D) (ci := 0) (v := .ref (ad 12)) (C := RK) (T := TK) (N := 10) hx hb hT inK hown hK hP 19 rfl rfl 1 (by decide) (hT _ wd_200) (fun _ h9 => h9) rfl dK_addPlanesOfOneAmount_31 ?_
      refine va_getN (D := D) (ci := 1) (v := .ref (ad 13)) (C := RL) (T := TL) (N := 7) hx hb hT inL hown hK hP 12 rfl rfl 4 (by decide) (va_Nw.use rfl (hN _ nw_147)) (fun _ h9 => h9) rfl dK_addPlanesOfOneAmount_34 ?_
      refine lv_iload_n hx hb dK_addPlanesOfOneAmount_37 rfl (lv_at hl 1 rfl) ?_
      obtain ⟨g8, hm⟩ := gd_to hm
      refine va_iald hx hb hK hP 13 0 rfl rfl g8 dK_addPlanesOfOneAmount_38 ?_
      refine lv_topi (fun v9 ev9 => ?_)
      have hm := nm_to ev9 hm
      obtain ⟨I11, J12, hc13, hm⟩ := cl2_to hm
      refine pst_v (wf := wsM ad cI cJ cG) hD hS hA (va_runV (As := [.int x1, .int v9]) (rest := []) ⟨hx, hb, hml, hown, hT⟩ (c_K_addPlane l D ad cI cJ cG _ x1 v9 I J _ hc13) (cwV 2 hT (gV wd_404 wd_406 wd_15 wd_55 wd_407) rfl rfl rfl (by decide +kernel) ⟨Nat.le_of_ble_eq_true rfl, Nat.le_of_ble_eq_true rfl⟩) ⟨preW_fb, va_recv hK hP (ci := 0) (q0 := 19) rfl rfl, preW_at hP hK hN hD⟩ rfl rfl hl.1 rfl (lv_room (Nat.le_of_ble_eq_true rfl)) dK_addPlanesOfOneAmount_39 ⟨Nat.zero_le _, Nat.zero_le _⟩) (fun H locs hP hD hS => ?_)
      obtain ⟨v14, ev14⟩ : ∃ z : Int32, z = x1 + 1 := ⟨_, rfl⟩
      have hm := nm_to ev14 hm
      refine lv_iinc (v := v14) (lv' := [(1, .int v14), (0, .ref (ad 19))]) hx hb dK_addPlanesOfOneAmount_42 hl (k := 1) rfl (by rw [ev14]; rfl) (by decide) rfl (fun ls hl => ?_)
      refine lv_goto (tgt := 2) hx hb dK_addPlanesOfOneAmount_45 (by decide) ?_
      exact hk2 v14 I11 J12 hm _ _ _ hP hD hS (lv_sub hl [1, 0] rfl)
set_option maxHeartbeats 4000000 in
set_option maxRecDepth 100000 in
theorem w_K_addPlanesOfOneAmount_0 {p : Program} {l : Launch} {e : Env} {s : State} {m : MethodId} {args : Array Value} {below : List Frame} {meth : Method} {c : Code} {D : va_G} {A : Nat → Prop} {ad : Nat → Nat} {cI cJ cG : ClassId} {res : SI × SJ} (X : Cx p s m args meth c bK_addPlanesOfOneAmount none 2 RK) (hK : va_K D vwCl (tysM cI cJ cG) s) (hN : NWs s) (hA : ∀ q, s.heap.size ≤ q → A q)
    {k2 : Int32 → SI → SJ → Option (SI × SJ)} (hk2 : ∀ (x1 : Int32) (I : SI) (J : SJ), k2 x1 I J = some res → WB p l e (headSpec (Cond.code yK_addPlanesOfOneAmount bK_addPlanesOfOneAmount 2 none :: gtb) rm_K_addPlanesOfOneAmount).room s m args below meth c (MQ below (va_Qv (fun (u : SI × SJ) => u = res) (atW D vwCl (tysM cI cJ cG) A (wsM ad cI cJ cG)) A) args s 0 0 A) D vwCl A 2 (wsM ad cI cJ cG I J) 2 [(0, .ref (ad 19)), (1, .int x1)] [])
     (I : SI) (J : SJ) (hm : b_K_addPlanesOfOneAmount_0 k2  I J = some res) : WB p l e (headSpec (Cond.code yK_addPlanesOfOneAmount bK_addPlanesOfOneAmount 2 none :: gtb) rm_K_addPlanesOfOneAmount).room s m args below meth c (MQ below (va_Qv (fun (u : SI × SJ) => u = res) (atW D vwCl (tysM cI cJ cG) A (wsM ad cI cJ cG)) A) args s 0 0 A) D vwCl A 2 (wsM ad cI cJ cG I J) 0 [(0, .ref (ad 19))] [] := by
  obtain ⟨hx, hb, hr, hml, hown, hT, hlk⟩ := X
  intro H locs ls hP hD hS hl
  unfold b_K_addPlanesOfOneAmount_0 at hm
  refine lv_iconst (v := 0) hx hb dK_addPlanesOfOneAmount_0 (by decide) ?_
  refine lv_istore_n (lv' := [(1, .int 0), (0, .ref (ad 19))]) hx hb dK_addPlanesOfOneAmount_1 rfl hl (by decide) rfl (fun ls hl => ?_)
  exact hk2 0 I J hm _ _ _ hP hD hS (lv_sub hl [1, 0] rfl)
set_option maxHeartbeats 4000000 in
theorem gw_K_addPlanesOfOneAmount {p : Program} {l : Launch} {e : Env} {s : State} {m : MethodId} {args : Array Value} {below : List Frame} {meth : Method} {c : Code} {D : va_G} {A : Nat → Prop} {ad : Nat → Nat} {cI cJ cG : ClassId} {res : SI × SJ} (X : Cx p s m args meth c bK_addPlanesOfOneAmount none 2 RK) (hK : va_K D vwCl (tysM cI cJ cG) s) (hN : NWs s) (hA : ∀ q, s.heap.size ≤ q → A q) : ∀ n : Nat, (∀ (x1 : Int32) (I : SI) (J : SJ), (g_K_addPlanesOfOneAmount n) x1 I J = some res → WB p l e (headSpec (Cond.code yK_addPlanesOfOneAmount bK_addPlanesOfOneAmount 2 none :: gtb) rm_K_addPlanesOfOneAmount).room s m args below meth c (MQ below (va_Qv (fun (u : SI × SJ) => u = res) (atW D vwCl (tysM cI cJ cG) A (wsM ad cI cJ cG)) A) args s 0 0 A) D vwCl A 2 (wsM ad cI cJ cG I J) 2 [(0, .ref (ad 19)), (1, .int x1)] []) := by
  intro n
  induction n with
  | zero => exact fun _ _ _ h => (by cases h)
  | succ n ih =>
    have ih2 := ih
    exact fun x1 I J h => w_K_addPlanesOfOneAmount_2 X hK hN hA ih2 x1 I J h
set_option maxHeartbeats 4000000 in
set_option maxRecDepth 100000 in
theorem c_K_addPlanesOfOneAmount (l : Launch) (D : va_G) (ad : Nat → Nat) (cI cJ cG : ClassId) (sz : Nat) (I : SI) (J : SJ) (res : SI × SJ) (hm : m_K_addPlanesOfOneAmount  I J = some res) : Met l yK_addPlanesOfOneAmount (Cond.code yK_addPlanesOfOneAmount bK_addPlanesOfOneAmount 2 none :: gtb) rm_K_addPlanesOfOneAmount (va_Pc [.ref (ad 19)] (preW D vwCl (tysM cI cJ cG) (wsM ad cI cJ cG I J) sz)) (va_Qv (fun (u : SI × SJ) => u = res) (atW D vwCl (tysM cI cJ cG) (va_A (wsM ad cI cJ cG I J) sz) (wsM ad cI cJ cG)) (va_A (wsM ad cI cJ cG I J) sz)) 0 0 (va_A (wsM ad cI cJ cG I J) sz) := by
  refine Met.ofW (cc := bK_addPlanesOfOneAmount) (maxL := 2) (ret := none) (by decide) rfl ?_
  intro p e s m args below meth c s₁ B hml hv
  obtain ⟨rfl, hsz, hP, hK, hD0, hN⟩ := hv
  subst hsz
  have X : Cx p s m [.ref (ad 19)].toArray meth c bK_addPlanesOfOneAmount none 2 RK := ⟨B.exec, B.bytes, B.returns, hml, findClass_of_methodNamed B.named, fun w h => atoms_spec (ws := (Cond.code yK_addPlanesOfOneAmount bK_addPlanesOfOneAmount 2 none :: gtb)) B.pre w (List.mem_cons_of_mem _ h), B.notSynchronized⟩
  have hl := lv_entry ([.ref (ad 19)]) (n := 2) (Nat.le_of_ble_eq_true rfl)
  rw [lg_entry_eq]
  generalize (lg_sl ([.ref (ad 19)]) ++ List.replicate (2 - (lg_sl ([.ref (ad 19)])).length) Slot.unset).toArray = ls at hl ⊢
  have hl : lv_has ls 2 [(0, .ref (ad 19))] := hl
  have hA : ∀ q, s.heap.size ≤ q → va_A (wsM ad cI cJ cG I J) s.heap.size q := fun q h => Or.inr h
  exact w_K_addPlanesOfOneAmount_0 X hK hN hA (gw_K_addPlanesOfOneAmount X hK hN hA fuel)  I J hm _ _ _ hP hD0.self va_S.rf hl
def b_K_addPlanesOfStuffs_2 (k2 : Int32 → SI → SJ → Option (SI × SJ)) (x1 : Int32) (I : SI) (J : SJ) : Option (SI × SJ) :=
  if 4 ≤ x1 then
    some (I, J)
  else
    gd (vin x1 7) <|
    nm (I 13 x1.toNatClampNeg) fun v3 =>
    gd (vin x1 7) <|
    nm (I 14 x1.toNatClampNeg) fun v5 =>
    if v5 ≤ v3 then
      nm (x1 + 1) fun v7 =>
      k2 v7 I J
    else
      gd (vin x1 7) <|
      nm (I 13 x1.toNatClampNeg) fun v9 =>
      cl2 (m_K_addPlane x1 v9 I J) fun I11 J12 =>
      gd (vin x1 7) <|
      nm (I11 14 x1.toNatClampNeg) fun v15 =>
      if (I11 12 2) ≤ v15 then
        nm (x1 + 1) fun v17 =>
        k2 v17 I11 J12
      else
        gd (vin x1 7) <|
        nm (I11 14 x1.toNatClampNeg) fun v19 =>
        cl2 (m_K_addPlane x1 v19 I11 J12) fun I21 J22 =>
        nm (x1 + 1) fun v24 =>
        k2 v24 I21 J22
def b_K_addPlanesOfStuffs_0 (k2 : Int32 → SI → SJ → Option (SI × SJ)) (I : SI) (J : SJ) : Option (SI × SJ) :=
  k2 0 I J
def g_K_addPlanesOfStuffs : Nat → (Int32 → SI → SJ → Option (SI × SJ))
  | 0 => (fun _ _ _ => none)
  | n + 1 => (fun x1 I J => b_K_addPlanesOfStuffs_2 (g_K_addPlanesOfStuffs n) x1 I J)
def m_K_addPlanesOfStuffs (I : SI) (J : SJ) : Option (SI × SJ) := b_K_addPlanesOfStuffs_0 (g_K_addPlanesOfStuffs fuel)  I J
def rm_K_addPlanesOfStuffs : Room := { frames := 1, cells := 0, slots := 0, locals := 22 }
set_option maxHeartbeats 4000000 in
set_option maxRecDepth 100000 in
theorem w_K_addPlanesOfStuffs_2 {p : Program} {l : Launch} {e : Env} {s : State} {m : MethodId} {args : Array Value} {below : List Frame} {meth : Method} {c : Code} {D : va_G} {A : Nat → Prop} {ad : Nat → Nat} {cI cJ cG : ClassId} {res : SI × SJ} (X : Cx p s m args meth c bK_addPlanesOfStuffs none 2 RK) (hK : va_K D vwCl (tysM cI cJ cG) s) (hN : NWs s) (hA : ∀ q, s.heap.size ≤ q → A q)
    {k2 : Int32 → SI → SJ → Option (SI × SJ)} (hk2 : ∀ (x1 : Int32) (I : SI) (J : SJ), k2 x1 I J = some res → WB p l e (headSpec (Cond.code yK_addPlanesOfStuffs bK_addPlanesOfStuffs 2 none :: gtb) rm_K_addPlanesOfStuffs).room s m args below meth c (MQ below (va_Qv (fun (u : SI × SJ) => u = res) (atW D vwCl (tysM cI cJ cG) A (wsM ad cI cJ cG)) A) args s 0 0 A) D vwCl A 2 (wsM ad cI cJ cG I J) 2 [(0, .ref (ad 19)), (1, .int x1)] [])
     (x1 : Int32) (I : SI) (J : SJ) (hm : b_K_addPlanesOfStuffs_2 k2 x1 I J = some res) : WB p l e (headSpec (Cond.code yK_addPlanesOfStuffs bK_addPlanesOfStuffs 2 none :: gtb) rm_K_addPlanesOfStuffs).room s m args below meth c (MQ below (va_Qv (fun (u : SI × SJ) => u = res) (atW D vwCl (tysM cI cJ cG) A (wsM ad cI cJ cG)) A) args s 0 0 A) D vwCl A 2 (wsM ad cI cJ cG I J) 2 [(0, .ref (ad 19)), (1, .int x1)] [] := by
  obtain ⟨hx, hb, hr, hml, hown, hT, hlk⟩ := X
  intro H locs ls hP hD hS hl
  unfold b_K_addPlanesOfStuffs_2 at hm
  refine lv_iload_n hx hb dK_addPlanesOfStuffs_2 rfl (lv_at hl 1 rfl) ?_
  refine lv_iconst (v := 4) hx hb dK_addPlanesOfStuffs_3 (by decide) ?_
  refine lv_icmp_ge (tgt := 81) hx hb dK_addPlanesOfStuffs_4 (by decide) (fun c1 => ?_) (fun c1 => ?_)
  · have hm := brp hm c1
    exact W.vret hx hb hr (fun t ht hW => ⟨⟨(I, J), rfl, Option.some.inj hm, ht ▸ hP, va_K.moved hW.alike hK, hD⟩, hS.F ht⟩) hS.2.2 dK_addPlanesOfStuffs_81 hlk
  · have hm := brn hm c1
    refine lv_aload_n hx hb dK_addPlanesOfStuffs_7 rfl (lv_at hl 0 rfl) ?_
    refine va_get (D := D) (ci := 0) (v := .ref (ad 12)) (C := RK) (T := TK) (N := 10) hx hb hT inK hown hK hP 19 rfl rfl 1 (by decide) (hT _ wd_200) (fun _ h9 => h9) rfl dK_addPlanesOfStuffs_8 ?_
    refine va_getN (D := D) (ci := 1) (v := .ref (ad 13)) (C := RL) (T := TL) (N := 7) hx hb hT inL hown hK hP 12 rfl rfl 4 (by decide) (va_Nw.use rfl (hN _ nw_147)) (fun _ h9 => h9) rfl dK_addPlanesOfStuffs_11 ?_
    refine lv_iload_n hx hb dK_addPlanesOfStuffs_14 rfl (lv_at hl 1 rfl) ?_
    obtain ⟨g2, hm⟩ := gd_to hm
    refine va_iald hx hb hK hP 13 0 rfl rfl g2 dK_addPlanesOfStuffs_15 ?_
    refine lv_topi (fun v3 ev3 => ?_)
    have hm := nm_to ev3 hm
    refine lv_aload_n hx hb dK_addPlanesOfStuffs_16 rfl (lv_at hl 0 rfl) ?_
    refine va_get (D := D) (ci := 0) (v := .ref (ad 12)) (C := RK) (T := TK) (N := 10) hx hb hT inK hown hK hP 19 rfl rfl 1 (by decide) (hT _ wd_200) (fun _ h9 => h9) rfl dK_addPlanesOfStuffs_17 ?_
    refine va_getN (D := D) (ci := 1) (v := .ref (ad 14)) (C := RL) (T := TL) (N := 7) hx hb hT inL hown hK hP 12 rfl rfl 5 (by decide) (va_Nw.use rfl (hN _ nw_150)) (fun _ h9 => h9) rfl dK_addPlanesOfStuffs_20 ?_
    refine lv_iload_n hx hb dK_addPlanesOfStuffs_23 rfl (lv_at hl 1 rfl) ?_
    obtain ⟨g4, hm⟩ := gd_to hm
    refine va_iald hx hb hK hP 14 0 rfl rfl g4 dK_addPlanesOfStuffs_24 ?_
    refine lv_topi (fun v5 ev5 => ?_)
    have hm := nm_to ev5 hm
    refine lv_icmp_ge (tgt := 75) hx hb dK_addPlanesOfStuffs_25 (by decide) (fun c6 => ?_) (fun c6 => ?_)
    · have hm := brp hm c6
      obtain ⟨v7, ev7⟩ : ∃ z : Int32, z = x1 + 1 := ⟨_, rfl⟩
      have hm := nm_to ev7 hm
      refine lv_iinc (v := v7) (lv' := [(1, .int v7), (0, .ref (ad 19))]) hx hb dK_addPlanesOfStuffs_75 hl (k := 1) rfl (by rw [ev7]; rfl) (by decide) rfl (fun ls hl => ?_)
      refine lv_goto (tgt := 2) hx hb dK_addPlanesOfStuffs_78 (by decide) ?_
      exact hk2 v7 I J hm _ _ _ hP hD hS (lv_sub hl [1, 0] rfl)
    · have hm := brn hm c6
      refine lv_aload_n hx hb dK_addPlanesOfStuffs_28 rfl (lv_at hl 0 rfl) ?_
      refine lv_iload_n hx hb dK_addPlanesOfStuffs_29 rfl (lv_at hl 1 rfl) ?_
      refine lv_aload_n hx hb dK_addPlanesOfStuffs_30 rfl (lv_at hl 0 rfl) ?_
      refine va_get (D := D) (ci := 0) (v := .ref (ad 12)) (C := RK) (T := TK) (N := 10) hx hb hT inK hown hK hP 19 rfl rfl 1 (by decide) (hT _ wd_200) (fun _ h9 => h9) rfl dK_addPlanesOfStuffs_31 ?_
      refine va_getN (D := D) (ci := 1) (v := .ref (ad 13)) (C := RL) (T := TL) (N := 7) hx hb hT inL hown hK hP 12 rfl rfl 4 (by decide) (va_Nw.use rfl (hN _ nw_147)) (fun _ h9 => h9) rfl dK_addPlanesOfStuffs_34 ?_
      refine lv_iload_n hx hb dK_addPlanesOfStuffs_37 rfl (lv_at hl 1 rfl) ?_
      obtain ⟨g8, hm⟩ := gd_to hm
      refine va_iald hx hb hK hP 13 0 rfl rfl g8 dK_addPlanesOfStuffs_38 ?_
      refine lv_topi (fun v9 ev9 => ?_)
      have hm := nm_to ev9 hm
      obtain ⟨I11, J12, hc13, hm⟩ := cl2_to hm
      refine pst_v (wf := wsM ad cI cJ cG) hD hS hA (va_runV (As := [.int x1, .int v9]) (rest := []) ⟨hx, hb, hml, hown, hT⟩ (c_K_addPlane l D ad cI cJ cG _ x1 v9 I J _ hc13) (cwV 2 hT (gV wd_404 wd_406 wd_15 wd_55 wd_407) rfl rfl rfl (by decide +kernel) ⟨Nat.le_of_ble_eq_true rfl, Nat.le_of_ble_eq_true rfl⟩) ⟨preW_fb, va_recv hK hP (ci := 0) (q0 := 19) rfl rfl, preW_at hP hK hN hD⟩ rfl rfl hl.1 rfl (lv_room (Nat.le_of_ble_eq_true rfl)) dK_addPlanesOfStuffs_39 ⟨Nat.zero_le _, Nat.zero_le _⟩) (fun H locs hP hD hS => ?_)
      refine lv_aload_n hx hb dK_addPlanesOfStuffs_42 rfl (lv_at hl 0 rfl) ?_
      refine va_get (D := D) (ci := 0) (v := .ref (ad 12)) (C := RK) (T := TK) (N := 10) hx hb hT inK hown hK hP 19 rfl rfl 1 (by decide) (hT _ wd_200) (fun _ h9 => h9) rfl dK_addPlanesOfStuffs_43 ?_
      refine va_getN (D := D) (ci := 1) (v := .ref (ad 14)) (C := RL) (T := TL) (N := 7) hx hb hT inL hown hK hP 12 rfl rfl 5 (by decide) (va_Nw.use rfl (hN _ nw_150)) (fun _ h9 => h9) rfl dK_addPlanesOfStuffs_46 ?_
      refine lv_iload_n hx hb dK_addPlanesOfStuffs_49 rfl (lv_at hl 1 rfl) ?_
      obtain ⟨g14, hm⟩ := gd_to hm
      refine va_iald hx hb hK hP 14 0 rfl rfl g14 dK_addPlanesOfStuffs_50 ?_
      refine lv_topi (fun v15 ev15 => ?_)
      have hm := nm_to ev15 hm
      refine lv_aload_n hx hb dK_addPlanesOfStuffs_51 rfl (lv_at hl 0 rfl) ?_
      refine va_get (D := D) (ci := 0) (v := .ref (ad 12)) (C := RK) (T := TK) (N := 10) hx hb hT inK hown hK hP 19 rfl rfl 1 (by decide) (hT _ wd_200) (fun _ h9 => h9) rfl dK_addPlanesOfStuffs_52 ?_
      refine va_getN (D := D) (ci := 1) (v := .int (I11 12 2)) (C := RL) (T := TL) (N := 7) hx hb hT inL hown hK hP 12 rfl rfl 2 (by decide) (va_Nw.use rfl (hN _ nw_141)) (fun _ h9 => h9) rfl dK_addPlanesOfStuffs_55 ?_
      refine lv_icmp_ge (tgt := 75) hx hb dK_addPlanesOfStuffs_58 (by decide) (fun c16 => ?_) (fun c16 => ?_)
      · have hm := brp hm c16
        obtain ⟨v17, ev17⟩ : ∃ z : Int32, z = x1 + 1 := ⟨_, rfl⟩
        have hm := nm_to ev17 hm
        refine lv_iinc (v := v17) (lv' := [(1, .int v17), (0, .ref (ad 19))]) hx hb dK_addPlanesOfStuffs_75 hl (k := 1) rfl (by rw [ev17]; rfl) (by decide) rfl (fun ls hl => ?_)
        refine lv_goto (tgt := 2) hx hb dK_addPlanesOfStuffs_78 (by decide) ?_
        exact hk2 v17 I11 J12 hm _ _ _ hP hD hS (lv_sub hl [1, 0] rfl)
      · have hm := brn hm c16
        refine lv_aload_n hx hb dK_addPlanesOfStuffs_61 rfl (lv_at hl 0 rfl) ?_
        refine lv_iload_n hx hb dK_addPlanesOfStuffs_62 rfl (lv_at hl 1 rfl) ?_
        refine lv_aload_n hx hb dK_addPlanesOfStuffs_63 rfl (lv_at hl 0 rfl) ?_
        refine va_get (D := D) (ci := 0) (v := .ref (ad 12)) (C := RK) (T := TK) (N := 10) hx hb hT inK hown hK hP 19 rfl rfl 1 (by decide) (hT _ wd_200) (fun _ h9 => h9) rfl dK_addPlanesOfStuffs_64 ?_
        refine va_getN (D := D) (ci := 1) (v := .ref (ad 14)) (C := RL) (T := TL) (N := 7) hx hb hT inL hown hK hP 12 rfl rfl 5 (by decide) (va_Nw.use rfl (hN _ nw_150)) (fun _ h9 => h9) rfl dK_addPlanesOfStuffs_67 ?_
        refine lv_iload_n hx hb dK_addPlanesOfStuffs_70 rfl (lv_at hl 1 rfl) ?_
        obtain ⟨g18, hm⟩ := gd_to hm
        refine va_iald hx hb hK hP 14 0 rfl rfl g18 dK_addPlanesOfStuffs_71 ?_
        refine lv_topi (fun v19 ev19 => ?_)
        have hm := nm_to ev19 hm
        obtain ⟨I21, J22, hc23, hm⟩ := cl2_to hm
        refine pst_v (wf := wsM ad cI cJ cG) hD hS hA (va_runV (As := [.int x1, .int v19]) (rest := []) ⟨hx, hb, hml, hown, hT⟩ (c_K_addPlane l D ad cI cJ cG _ x1 v19 I11 J12 _ hc23) (cwV 2 hT (gV wd_404 wd_406 wd_15 wd_55 wd_407) rfl rfl rfl (by decide +kernel) ⟨Nat.le_of_ble_eq_true rfl, Nat.le_of_ble_eq_true rfl⟩) ⟨preW_fb, va_recv hK hP (ci := 0) (q0 := 19) rfl rfl, preW_at hP hK hN hD⟩ rfl rfl hl.1 rfl (lv_room (Nat.le_of_ble_eq_true rfl)) dK_addPlanesOfStuffs_72 ⟨Nat.zero_le _, Nat.zero_le _⟩) (fun H locs hP hD hS => ?_)
        obtain ⟨v24, ev24⟩ : ∃ z : Int32, z = x1 + 1 := ⟨_, rfl⟩
        have hm := nm_to ev24 hm
        refine lv_iinc (v := v24) (lv' := [(1, .int v24), (0, .ref (ad 19))]) hx hb dK_addPlanesOfStuffs_75 hl (k := 1) rfl (by rw [ev24]; rfl) (by decide) rfl (fun ls hl => ?_)
        refine lv_goto (tgt := 2) hx hb dK_addPlanesOfStuffs_78 (by decide) ?_
        exact hk2 v24 I21 J22 hm _ _ _ hP hD hS (lv_sub hl [1, 0] rfl)
set_option maxHeartbeats 4000000 in
set_option maxRecDepth 100000 in
theorem w_K_addPlanesOfStuffs_0 {p : Program} {l : Launch} {e : Env} {s : State} {m : MethodId} {args : Array Value} {below : List Frame} {meth : Method} {c : Code} {D : va_G} {A : Nat → Prop} {ad : Nat → Nat} {cI cJ cG : ClassId} {res : SI × SJ} (X : Cx p s m args meth c bK_addPlanesOfStuffs none 2 RK) (hK : va_K D vwCl (tysM cI cJ cG) s) (hN : NWs s) (hA : ∀ q, s.heap.size ≤ q → A q)
    {k2 : Int32 → SI → SJ → Option (SI × SJ)} (hk2 : ∀ (x1 : Int32) (I : SI) (J : SJ), k2 x1 I J = some res → WB p l e (headSpec (Cond.code yK_addPlanesOfStuffs bK_addPlanesOfStuffs 2 none :: gtb) rm_K_addPlanesOfStuffs).room s m args below meth c (MQ below (va_Qv (fun (u : SI × SJ) => u = res) (atW D vwCl (tysM cI cJ cG) A (wsM ad cI cJ cG)) A) args s 0 0 A) D vwCl A 2 (wsM ad cI cJ cG I J) 2 [(0, .ref (ad 19)), (1, .int x1)] [])
     (I : SI) (J : SJ) (hm : b_K_addPlanesOfStuffs_0 k2  I J = some res) : WB p l e (headSpec (Cond.code yK_addPlanesOfStuffs bK_addPlanesOfStuffs 2 none :: gtb) rm_K_addPlanesOfStuffs).room s m args below meth c (MQ below (va_Qv (fun (u : SI × SJ) => u = res) (atW D vwCl (tysM cI cJ cG) A (wsM ad cI cJ cG)) A) args s 0 0 A) D vwCl A 2 (wsM ad cI cJ cG I J) 0 [(0, .ref (ad 19))] [] := by
  obtain ⟨hx, hb, hr, hml, hown, hT, hlk⟩ := X
  intro H locs ls hP hD hS hl
  unfold b_K_addPlanesOfStuffs_0 at hm
  refine lv_iconst (v := 0) hx hb dK_addPlanesOfStuffs_0 (by decide) ?_
  refine lv_istore_n (lv' := [(1, .int 0), (0, .ref (ad 19))]) hx hb dK_addPlanesOfStuffs_1 rfl hl (by decide) rfl (fun ls hl => ?_)
  exact hk2 0 I J hm _ _ _ hP hD hS (lv_sub hl [1, 0] rfl)
set_option maxHeartbeats 4000000 in
theorem gw_K_addPlanesOfStuffs {p : Program} {l : Launch} {e : Env} {s : State} {m : MethodId} {args : Array Value} {below : List Frame} {meth : Method} {c : Code} {D : va_G} {A : Nat → Prop} {ad : Nat → Nat} {cI cJ cG : ClassId} {res : SI × SJ} (X : Cx p s m args meth c bK_addPlanesOfStuffs none 2 RK) (hK : va_K D vwCl (tysM cI cJ cG) s) (hN : NWs s) (hA : ∀ q, s.heap.size ≤ q → A q) : ∀ n : Nat, (∀ (x1 : Int32) (I : SI) (J : SJ), (g_K_addPlanesOfStuffs n) x1 I J = some res → WB p l e (headSpec (Cond.code yK_addPlanesOfStuffs bK_addPlanesOfStuffs 2 none :: gtb) rm_K_addPlanesOfStuffs).room s m args below meth c (MQ below (va_Qv (fun (u : SI × SJ) => u = res) (atW D vwCl (tysM cI cJ cG) A (wsM ad cI cJ cG)) A) args s 0 0 A) D vwCl A 2 (wsM ad cI cJ cG I J) 2 [(0, .ref (ad 19)), (1, .int x1)] []) := by
  intro n
  induction n with
  | zero => exact fun _ _ _ h => (by cases h)
  | succ n ih =>
    have ih2 := ih
    exact fun x1 I J h => w_K_addPlanesOfStuffs_2 X hK hN hA ih2 x1 I J h
set_option maxHeartbeats 4000000 in
set_option maxRecDepth 100000 in
theorem c_K_addPlanesOfStuffs (l : Launch) (D : va_G) (ad : Nat → Nat) (cI cJ cG : ClassId) (sz : Nat) (I : SI) (J : SJ) (res : SI × SJ) (hm : m_K_addPlanesOfStuffs  I J = some res) : Met l yK_addPlanesOfStuffs (Cond.code yK_addPlanesOfStuffs bK_addPlanesOfStuffs 2 none :: gtb) rm_K_addPlanesOfStuffs (va_Pc [.ref (ad 19)] (preW D vwCl (tysM cI cJ cG) (wsM ad cI cJ cG I J) sz)) (va_Qv (fun (u : SI × SJ) => u = res) (atW D vwCl (tysM cI cJ cG) (va_A (wsM ad cI cJ cG I J) sz) (wsM ad cI cJ cG)) (va_A (wsM ad cI cJ cG I J) sz)) 0 0 (va_A (wsM ad cI cJ cG I J) sz) := by
  refine Met.ofW (cc := bK_addPlanesOfStuffs) (maxL := 2) (ret := none) (by decide) rfl ?_
  intro p e s m args below meth c s₁ B hml hv
  obtain ⟨rfl, hsz, hP, hK, hD0, hN⟩ := hv
  subst hsz
  have X : Cx p s m [.ref (ad 19)].toArray meth c bK_addPlanesOfStuffs none 2 RK := ⟨B.exec, B.bytes, B.returns, hml, findClass_of_methodNamed B.named, fun w h => atoms_spec (ws := (Cond.code yK_addPlanesOfStuffs bK_addPlanesOfStuffs 2 none :: gtb)) B.pre w (List.mem_cons_of_mem _ h), B.notSynchronized⟩
  have hl := lv_entry ([.ref (ad 19)]) (n := 2) (Nat.le_of_ble_eq_true rfl)
  rw [lg_entry_eq]
  generalize (lg_sl ([.ref (ad 19)]) ++ List.replicate (2 - (lg_sl ([.ref (ad 19)])).length) Slot.unset).toArray = ls at hl ⊢
  have hl : lv_has ls 2 [(0, .ref (ad 19))] := hl
  have hA : ∀ q, s.heap.size ≤ q → va_A (wsM ad cI cJ cG I J) s.heap.size q := fun q h => Or.inr h
  exact w_K_addPlanesOfStuffs_0 X hK hN hA (gw_K_addPlanesOfStuffs X hK hN hA fuel)  I J hm _ _ _ hP hD0.self va_S.rf hl
def b_K_addPlanesOfNutrients_2 (k88 : Int32 → Int32 → Int32 → SI → SJ → Option (Int32 × SI × SJ)) (x1 : Int32) (I : SI) (J : SJ) : Option (Int32 × SI × SJ) :=
  if 3 ≤ x1 then
    some (1, I, J)
  else
    nm (4 + x1) fun v2 =>
    cl3 (m_L_extremeOf x1 0 I J) fun r3 I4 J5 =>
    cl3 (m_L_extremeOf x1 1 I4 J5) fun r7 I8 J9 =>
    gd (vin v2 7) <|
    nm (I8 13 v2.toNatClampNeg) fun v12 =>
    if r7 < v12 then
      some (0, I8, J9)
    else
      gd (vin v2 7) <|
      nm (I8 14 v2.toNatClampNeg) fun v15 =>
      if r3 ≤ v15 then
        gd (vin v2 7) <|
        nm (I8 13 v2.toNatClampNeg) fun v18 =>
        if v18 ≤ r3 then
          k88 x1 v2 r7 I8 J9
        else
          gd (vin v2 7) <|
          nm (I8 13 v2.toNatClampNeg) fun v21 =>
          cl2 (m_K_addPlane v2 v21 I8 J9) fun I23 J24 =>
          k88 x1 v2 r7 I23 J24
      else
        some (0, I8, J9)
def b_K_addPlanesOfNutrients_88 (k2 : Int32 → SI → SJ → Option (Int32 × SI × SJ)) (x1 : Int32) (x2 : Int32) (x4 : Int32) (I : SI) (J : SJ) : Option (Int32 × SI × SJ) :=
  gd (vin x2 7) <|
  nm (I 14 x2.toNatClampNeg) fun v2 =>
  if x4 ≤ v2 then
    nm (x1 + 1) fun v4 =>
    k2 v4 I J
  else
    gd (vin x2 7) <|
    nm (I 14 x2.toNatClampNeg) fun v6 =>
    cl2 (m_K_addPlane x2 v6 I J) fun I8 J9 =>
    nm (x1 + 1) fun v11 =>
    k2 v11 I8 J9
def b_K_addPlanesOfNutrients_0 (k2 : Int32 → SI → SJ → Option (Int32 × SI × SJ)) (I : SI) (J : SJ) : Option (Int32 × SI × SJ) :=
  k2 0 I J
def g_K_addPlanesOfNutrients : Nat → (Int32 → SI → SJ → Option (Int32 × SI × SJ)) × (Int32 → Int32 → Int32 → SI → SJ → Option (Int32 × SI × SJ))
  | 0 => (fun _ _ _ => none, fun _ _ _ _ _ => none)
  | n + 1 => (fun x1 I J => b_K_addPlanesOfNutrients_2 (g_K_addPlanesOfNutrients n).2 x1 I J, fun x1 x2 x4 I J => b_K_addPlanesOfNutrients_88 (g_K_addPlanesOfNutrients n).1 x1 x2 x4 I J)
def m_K_addPlanesOfNutrients (I : SI) (J : SJ) : Option (Int32 × SI × SJ) := b_K_addPlanesOfNutrients_0 (g_K_addPlanesOfNutrients fuel).1  I J
def rm_K_addPlanesOfNutrients : Room := { frames := 2, cells := 0, slots := 0, locals := 59 }
set_option maxHeartbeats 4000000 in
set_option maxRecDepth 100000 in
theorem w_K_addPlanesOfNutrients_2 {p : Program} {l : Launch} {e : Env} {s : State} {m : MethodId} {args : Array Value} {below : List Frame} {meth : Method} {c : Code} {D : va_G} {A : Nat → Prop} {ad : Nat → Nat} {cI cJ cG : ClassId} {res : Int32 × SI × SJ} (X : Cx p s m args meth c bK_addPlanesOfNutrients (some .boolean) 5 RK) (hK : va_K D vwCl (tysM cI cJ cG) s) (hN : NWs s) (hA : ∀ q, s.heap.size ≤ q → A q)
    {k88 : Int32 → Int32 → Int32 → SI → SJ → Option (Int32 × SI × SJ)} (hk88 : ∀ (x1 : Int32) (x2 : Int32) (x4 : Int32) (I : SI) (J : SJ), k88 x1 x2 x4 I J = some res → WB p l e (headSpec (Cond.code yK_addPlanesOfNutrients bK_addPlanesOfNutrients 5 (some .boolean) :: gtb) rm_K_addPlanesOfNutrients).room s m args below meth c (MQ below (va_Qi (fun (r : Int32) (u : SI × SJ) => (r, u) = res) (atW D vwCl (tysM cI cJ cG) A (wsM ad cI cJ cG)) A) args s 0 0 A) D vwCl A 5 (wsM ad cI cJ cG I J) 88 [(0, .ref (ad 19)), (1, .int x1), (2, .int x2), (4, .int x4)] [])
     (x1 : Int32) (I : SI) (J : SJ) (hm : b_K_addPlanesOfNutrients_2 k88 x1 I J = some res) : WB p l e (headSpec (Cond.code yK_addPlanesOfNutrients bK_addPlanesOfNutrients 5 (some .boolean) :: gtb) rm_K_addPlanesOfNutrients).room s m args below meth c (MQ below (va_Qi (fun (r : Int32) (u : SI × SJ) => (r, u) = res) (atW D vwCl (tysM cI cJ cG) A (wsM ad cI cJ cG)) A) args s 0 0 A) D vwCl A 5 (wsM ad cI cJ cG I J) 2 [(0, .ref (ad 19)), (1, .int x1)] [] := by
  obtain ⟨hx, hb, hr, hml, hown, hT, hlk⟩ := X
  intro H locs ls hP hD hS hl
  unfold b_K_addPlanesOfNutrients_2 at hm
  refine lv_iload_n hx hb dK_addPlanesOfNutrients_2 rfl (lv_at hl 1 rfl) ?_
  refine lv_iconst (v := 3) hx hb dK_addPlanesOfNutrients_3 (by decide) ?_
  refine lv_icmp_ge (tgt := 122) hx hb dK_addPlanesOfNutrients_4 (by decide) (fun c1 => ?_) (fun c1 => ?_)
  · have hm := brp hm c1
    refine lv_iconst (v := 1) hx hb dK_addPlanesOfNutrients_122 (by decide) ?_
    exact W.zret hx hb hr rfl (fun t ht hW => ⟨⟨1, (I, J), rfl, Option.some.inj hm, ht ▸ hP, va_K.moved hW.alike hK, hD⟩, hS.F ht⟩) hS.2.2 dK_addPlanesOfNutrients_123 hlk
  · have hm := brn hm c1
    refine lv_iconst (v := 4) hx hb dK_addPlanesOfNutrients_7 (by decide) ?_
    refine lv_iload_n hx hb dK_addPlanesOfNutrients_8 rfl (lv_at hl 1 rfl) ?_
    refine lv_iadd hx hb dK_addPlanesOfNutrients_9 ?_
    refine lv_topi (fun v2 ev2 => ?_)
    have hm := nm_to ev2 hm
    refine lv_istore_n (lv' := [(2, .int v2), (0, .ref (ad 19)), (1, .int x1)]) hx hb dK_addPlanesOfNutrients_10 rfl hl (by decide) rfl (fun ls hl => ?_)
    refine lv_aload_n hx hb dK_addPlanesOfNutrients_11 rfl (lv_at hl 1 rfl) ?_
    refine va_get (D := D) (ci := 0) (v := .ref (ad 12)) (C := RK) (T := TK) (N := 10) hx hb hT inK hown hK hP 19 rfl rfl 1 (by decide) (hT _ wd_200) (fun _ h9 => h9) rfl dK_addPlanesOfNutrients_12 ?_
    refine lv_iload_n hx hb dK_addPlanesOfNutrients_15 rfl (lv_at hl 2 rfl) ?_
    refine lv_iconst (v := 0) hx hb dK_addPlanesOfNutrients_16 (by decide) ?_
    obtain ⟨r3, I4, J5, hc6, hm⟩ := cl3_to hm
    refine pst_i (wf := wsM ad cI cJ cG) hD hS hA (va_runVN (As := [.int x1, .int 0]) (rest := []) ⟨hx, hb, hml, hown, hT⟩ (c_L_extremeOf l D ad cI cJ cG _ x1 0 I J _ hc6) ⟨va_cnB 2 hT (gtb_good wd_419) rfl rfl rfl (hN _ nw_416) (hT _ wd_54) (by decide +kernel) ⟨Nat.le_of_ble_eq_true rfl, Nat.le_of_ble_eq_true rfl⟩, hT _ wd_418, hT _ wd_18⟩ ⟨preW_fb, va_recv hK hP (ci := 1) (q0 := 12) rfl rfl, preW_at hP hK hN hD⟩ rfl rfl hl.1 rfl (lv_room (Nat.le_of_ble_eq_true rfl)) dK_addPlanesOfNutrients_17 ⟨Nat.zero_le _, Nat.zero_le _⟩) (fun H locs hP hD hS => ?_)
    refine lv_istore_n (lv' := [(3, .int r3), (2, .int v2), (0, .ref (ad 19)), (1, .int x1)]) hx hb dK_addPlanesOfNutrients_20 rfl hl (by decide) rfl (fun ls hl => ?_)
    refine lv_aload_n hx hb dK_addPlanesOfNutrients_21 rfl (lv_at hl 2 rfl) ?_
    refine va_get (D := D) (ci := 0) (v := .ref (ad 12)) (C := RK) (T := TK) (N := 10) hx hb hT inK hown hK hP 19 rfl rfl 1 (by decide) (hT _ wd_200) (fun _ h9 => h9) rfl dK_addPlanesOfNutrients_22 ?_
    refine lv_iload_n hx hb dK_addPlanesOfNutrients_25 rfl (lv_at hl 3 rfl) ?_
    refine lv_iconst (v := 1) hx hb dK_addPlanesOfNutrients_26 (by decide) ?_
    obtain ⟨r7, I8, J9, hc10, hm⟩ := cl3_to hm
    refine pst_i (wf := wsM ad cI cJ cG) hD hS hA (va_runVN (As := [.int x1, .int 1]) (rest := []) ⟨hx, hb, hml, hown, hT⟩ (c_L_extremeOf l D ad cI cJ cG _ x1 1 I4 J5 _ hc10) ⟨va_cnB 2 hT (gtb_good wd_419) rfl rfl rfl (hN _ nw_416) (hT _ wd_54) (by decide +kernel) ⟨Nat.le_of_ble_eq_true rfl, Nat.le_of_ble_eq_true rfl⟩, hT _ wd_418, hT _ wd_18⟩ ⟨preW_fb, va_recv hK hP (ci := 1) (q0 := 12) rfl rfl, preW_at hP hK hN hD⟩ rfl rfl hl.1 rfl (lv_room (Nat.le_of_ble_eq_true rfl)) dK_addPlanesOfNutrients_27 ⟨Nat.zero_le _, Nat.zero_le _⟩) (fun H locs hP hD hS => ?_)
    refine lv_istore (lv' := [(4, .int r7), (3, .int r3), (2, .int v2), (0, .ref (ad 19)), (1, .int x1)]) hx hb dK_addPlanesOfNutrients_30 hl (by decide) rfl (fun ls hl => ?_)
    refine lv_iload hx hb dK_addPlanesOfNutrients_32 (lv_at hl 0 rfl) ?_
    refine lv_aload_n hx hb dK_addPlanesOfNutrients_34 rfl (lv_at hl 3 rfl) ?_
    refine va_get (D := D) (ci := 0) (v := .ref (ad 12)) (C := RK) (T := TK) (N := 10) hx hb hT inK hown hK hP 19 rfl rfl 1 (by decide) (hT _ wd_200) (fun _ h9 => h9) rfl dK_addPlanesOfNutrients_35 ?_
    refine va_getN (D := D) (ci := 1) (v := .ref (ad 13)) (C := RL) (T := TL) (N := 7) hx hb hT inL hown hK hP 12 rfl rfl 4 (by decide) (va_Nw.use rfl (hN _ nw_147)) (fun _ h9 => h9) rfl dK_addPlanesOfNutrients_38 ?_
    refine lv_iload_n hx hb dK_addPlanesOfNutrients_41 rfl (lv_at hl 2 rfl) ?_
    obtain ⟨g11, hm⟩ := gd_to hm
    refine va_iald hx hb hK hP 13 0 rfl rfl g11 dK_addPlanesOfNutrients_42 ?_
    refine lv_topi (fun v12 ev12 => ?_)
    have hm := nm_to ev12 hm
    refine lv_icmp_lt (tgt := 59) hx hb dK_addPlanesOfNutrients_43 (by decide) (fun c13 => ?_) (fun c13 => ?_)
    · have hm := brp hm c13
      refine lv_iconst (v := 0) hx hb dK_addPlanesOfNutrients_59 (by decide) ?_
      exact W.zret hx hb hr rfl (fun t ht hW => ⟨⟨0, (I8, J9), rfl, Option.some.inj hm, ht ▸ hP, va_K.moved hW.alike hK, hD⟩, hS.F ht⟩) hS.2.2 dK_addPlanesOfNutrients_60 hlk
    · have hm := brn hm c13
      refine lv_iload_n hx hb dK_addPlanesOfNutrients_46 rfl (lv_at hl 1 rfl) ?_
      refine lv_aload_n hx hb dK_addPlanesOfNutrients_47 rfl (lv_at hl 3 rfl) ?_
      refine va_get (D := D) (ci := 0) (v := .ref (ad 12)) (C := RK) (T := TK) (N := 10) hx hb hT inK hown hK hP 19 rfl rfl 1 (by decide) (hT _ wd_200) (fun _ h9 => h9) rfl dK_addPlanesOfNutrients_48 ?_
      refine va_getN (D := D) (ci := 1) (v := .ref (ad 14)) (C := RL) (T := TL) (N := 7) hx hb hT inL hown hK hP 12 rfl rfl 5 (by decide) (va_Nw.use rfl (hN _ nw_150)) (fun _ h9 => h9) rfl dK_addPlanesOfNutrients_51 ?_
      refine lv_iload_n hx hb dK_addPlanesOfNutrients_54 rfl (lv_at hl 2 rfl) ?_
      obtain ⟨g14, hm⟩ := gd_to hm
      refine va_iald hx hb hK hP 14 0 rfl rfl g14 dK_addPlanesOfNutrients_55 ?_
      refine lv_topi (fun v15 ev15 => ?_)
      have hm := nm_to ev15 hm
      refine lv_icmp_le (tgt := 61) hx hb dK_addPlanesOfNutrients_56 (by decide) (fun c16 => ?_) (fun c16 => ?_)
      · have hm := brp hm c16
        refine lv_iload_n hx hb dK_addPlanesOfNutrients_61 rfl (lv_at hl 1 rfl) ?_
        refine lv_aload_n hx hb dK_addPlanesOfNutrients_62 rfl (lv_at hl 3 rfl) ?_
        refine va_get (D := D) (ci := 0) (v := .ref (ad 12)) (C := RK) (T := TK) (N := 10) hx hb hT inK hown hK hP 19 rfl rfl 1 (by decide) (hT _ wd_200) (fun _ h9 => h9) rfl dK_addPlanesOfNutrients_63 ?_
        refine va_getN (D := D) (ci := 1) (v := .ref (ad 13)) (C := RL) (T := TL) (N := 7) hx hb hT inL hown hK hP 12 rfl rfl 4 (by decide) (va_Nw.use rfl (hN _ nw_147)) (fun _ h9 => h9) rfl dK_addPlanesOfNutrients_66 ?_
        refine lv_iload_n hx hb dK_addPlanesOfNutrients_69 rfl (lv_at hl 2 rfl) ?_
        obtain ⟨g17, hm⟩ := gd_to hm
        refine va_iald hx hb hK hP 13 0 rfl rfl g17 dK_addPlanesOfNutrients_70 ?_
        refine lv_topi (fun v18 ev18 => ?_)
        have hm := nm_to ev18 hm
        refine lv_icmp_ge (tgt := 88) hx hb dK_addPlanesOfNutrients_71 (by decide) (fun c19 => ?_) (fun c19 => ?_)
        · have hm := brp hm c19
          exact hk88 x1 v2 r7 I8 J9 hm _ _ _ hP hD hS (lv_sub hl [3, 4, 2, 0] rfl)
        · have hm := brn hm c19
          refine lv_aload_n hx hb dK_addPlanesOfNutrients_74 rfl (lv_at hl 3 rfl) ?_
          refine lv_iload_n hx hb dK_addPlanesOfNutrients_75 rfl (lv_at hl 2 rfl) ?_
          refine lv_aload_n hx hb dK_addPlanesOfNutrients_76 rfl (lv_at hl 3 rfl) ?_
          refine va_get (D := D) (ci := 0) (v := .ref (ad 12)) (C := RK) (T := TK) (N := 10) hx hb hT inK hown hK hP 19 rfl rfl 1 (by decide) (hT _ wd_200) (fun _ h9 => h9) rfl dK_addPlanesOfNutrients_77 ?_
          refine va_getN (D := D) (ci := 1) (v := .ref (ad 13)) (C := RL) (T := TL) (N := 7) hx hb hT inL hown hK hP 12 rfl rfl 4 (by decide) (va_Nw.use rfl (hN _ nw_147)) (fun _ h9 => h9) rfl dK_addPlanesOfNutrients_80 ?_
          refine lv_iload_n hx hb dK_addPlanesOfNutrients_83 rfl (lv_at hl 2 rfl) ?_
          obtain ⟨g20, hm⟩ := gd_to hm
          refine va_iald hx hb hK hP 13 0 rfl rfl g20 dK_addPlanesOfNutrients_84 ?_
          refine lv_topi (fun v21 ev21 => ?_)
          have hm := nm_to ev21 hm
          obtain ⟨I23, J24, hc25, hm⟩ := cl2_to hm
          refine pst_v (wf := wsM ad cI cJ cG) hD hS hA (va_runV (As := [.int v2, .int v21]) (rest := []) ⟨hx, hb, hml, hown, hT⟩ (c_K_addPlane l D ad cI cJ cG _ v2 v21 I8 J9 _ hc25) (cwV 2 hT (gV wd_404 wd_406 wd_15 wd_55 wd_407) rfl rfl rfl (by decide +kernel) ⟨Nat.le_of_ble_eq_true rfl, Nat.le_of_ble_eq_true rfl⟩) ⟨preW_fb, va_recv hK hP (ci := 0) (q0 := 19) rfl rfl, preW_at hP hK hN hD⟩ rfl rfl hl.1 rfl (lv_room (Nat.le_of_ble_eq_true rfl)) dK_addPlanesOfNutrients_85 ⟨Nat.zero_le _, Nat.zero_le _⟩) (fun H locs hP hD hS => ?_)
          exact hk88 x1 v2 r7 I23 J24 hm _ _ _ hP hD hS (lv_sub hl [3, 4, 2, 0] rfl)
      · have hm := brn hm c16
        refine lv_iconst (v := 0) hx hb dK_addPlanesOfNutrients_59 (by decide) ?_
        exact W.zret hx hb hr rfl (fun t ht hW => ⟨⟨0, (I8, J9), rfl, Option.some.inj hm, ht ▸ hP, va_K.moved hW.alike hK, hD⟩, hS.F ht⟩) hS.2.2 dK_addPlanesOfNutrients_60 hlk
set_option maxHeartbeats 4000000 in
set_option maxRecDepth 100000 in
theorem w_K_addPlanesOfNutrients_88 {p : Program} {l : Launch} {e : Env} {s : State} {m : MethodId} {args : Array Value} {below : List Frame} {meth : Method} {c : Code} {D : va_G} {A : Nat → Prop} {ad : Nat → Nat} {cI cJ cG : ClassId} {res : Int32 × SI × SJ} (X : Cx p s m args meth c bK_addPlanesOfNutrients (some .boolean) 5 RK) (hK : va_K D vwCl (tysM cI cJ cG) s) (hN : NWs s) (hA : ∀ q, s.heap.size ≤ q → A q)
    {k2 : Int32 → SI → SJ → Option (Int32 × SI × SJ)} (hk2 : ∀ (x1 : Int32) (I : SI) (J : SJ), k2 x1 I J = some res → WB p l e (headSpec (Cond.code yK_addPlanesOfNutrients bK_addPlanesOfNutrients 5 (some .boolean) :: gtb) rm_K_addPlanesOfNutrients).room s m args below meth c (MQ below (va_Qi (fun (r : Int32) (u : SI × SJ) => (r, u) = res) (atW D vwCl (tysM cI cJ cG) A (wsM ad cI cJ cG)) A) args s 0 0 A) D vwCl A 5 (wsM ad cI cJ cG I J) 2 [(0, .ref (ad 19)), (1, .int x1)] [])
     (x1 : Int32) (x2 : Int32) (x4 : Int32) (I : SI) (J : SJ) (hm : b_K_addPlanesOfNutrients_88 k2 x1 x2 x4 I J = some res) : WB p l e (headSpec (Cond.code yK_addPlanesOfNutrients bK_addPlanesOfNutrients 5 (some .boolean) :: gtb) rm_K_addPlanesOfNutrients).room s m args below meth c (MQ below (va_Qi (fun (r : Int32) (u : SI × SJ) => (r, u) = res) (atW D vwCl (tysM cI cJ cG) A (wsM ad cI cJ cG)) A) args s 0 0 A) D vwCl A 5 (wsM ad cI cJ cG I J) 88 [(0, .ref (ad 19)), (1, .int x1), (2, .int x2), (4, .int x4)] [] := by
  obtain ⟨hx, hb, hr, hml, hown, hT, hlk⟩ := X
  intro H locs ls hP hD hS hl
  unfold b_K_addPlanesOfNutrients_88 at hm
  refine lv_iload hx hb dK_addPlanesOfNutrients_88 (lv_at hl 3 rfl) ?_
  refine lv_aload_n hx hb dK_addPlanesOfNutrients_90 rfl (lv_at hl 0 rfl) ?_
  refine va_get (D := D) (ci := 0) (v := .ref (ad 12)) (C := RK) (T := TK) (N := 10) hx hb hT inK hown hK hP 19 rfl rfl 1 (by decide) (hT _ wd_200) (fun _ h9 => h9) rfl dK_addPlanesOfNutrients_91 ?_
  refine va_getN (D := D) (ci := 1) (v := .ref (ad 14)) (C := RL) (T := TL) (N := 7) hx hb hT inL hown hK hP 12 rfl rfl 5 (by decide) (va_Nw.use rfl (hN _ nw_150)) (fun _ h9 => h9) rfl dK_addPlanesOfNutrients_94 ?_
  refine lv_iload_n hx hb dK_addPlanesOfNutrients_97 rfl (lv_at hl 2 rfl) ?_
  obtain ⟨g1, hm⟩ := gd_to hm
  refine va_iald hx hb hK hP 14 0 rfl rfl g1 dK_addPlanesOfNutrients_98 ?_
  refine lv_topi (fun v2 ev2 => ?_)
  have hm := nm_to ev2 hm
  refine lv_icmp_le (tgt := 116) hx hb dK_addPlanesOfNutrients_99 (by decide) (fun c3 => ?_) (fun c3 => ?_)
  · have hm := brp hm c3
    obtain ⟨v4, ev4⟩ : ∃ z : Int32, z = x1 + 1 := ⟨_, rfl⟩
    have hm := nm_to ev4 hm
    refine lv_iinc (v := v4) (lv' := [(1, .int v4), (0, .ref (ad 19)), (2, .int x2), (4, .int x4)]) hx hb dK_addPlanesOfNutrients_116 hl (k := 1) rfl (by rw [ev4]; rfl) (by decide) rfl (fun ls hl => ?_)
    refine lv_goto (tgt := 2) hx hb dK_addPlanesOfNutrients_119 (by decide) ?_
    exact hk2 v4 I J hm _ _ _ hP hD hS (lv_sub hl [1, 0] rfl)
  · have hm := brn hm c3
    refine lv_aload_n hx hb dK_addPlanesOfNutrients_102 rfl (lv_at hl 0 rfl) ?_
    refine lv_iload_n hx hb dK_addPlanesOfNutrients_103 rfl (lv_at hl 2 rfl) ?_
    refine lv_aload_n hx hb dK_addPlanesOfNutrients_104 rfl (lv_at hl 0 rfl) ?_
    refine va_get (D := D) (ci := 0) (v := .ref (ad 12)) (C := RK) (T := TK) (N := 10) hx hb hT inK hown hK hP 19 rfl rfl 1 (by decide) (hT _ wd_200) (fun _ h9 => h9) rfl dK_addPlanesOfNutrients_105 ?_
    refine va_getN (D := D) (ci := 1) (v := .ref (ad 14)) (C := RL) (T := TL) (N := 7) hx hb hT inL hown hK hP 12 rfl rfl 5 (by decide) (va_Nw.use rfl (hN _ nw_150)) (fun _ h9 => h9) rfl dK_addPlanesOfNutrients_108 ?_
    refine lv_iload_n hx hb dK_addPlanesOfNutrients_111 rfl (lv_at hl 2 rfl) ?_
    obtain ⟨g5, hm⟩ := gd_to hm
    refine va_iald hx hb hK hP 14 0 rfl rfl g5 dK_addPlanesOfNutrients_112 ?_
    refine lv_topi (fun v6 ev6 => ?_)
    have hm := nm_to ev6 hm
    obtain ⟨I8, J9, hc10, hm⟩ := cl2_to hm
    refine pst_v (wf := wsM ad cI cJ cG) hD hS hA (va_runV (As := [.int x2, .int v6]) (rest := []) ⟨hx, hb, hml, hown, hT⟩ (c_K_addPlane l D ad cI cJ cG _ x2 v6 I J _ hc10) (cwV 2 hT (gV wd_404 wd_406 wd_15 wd_55 wd_407) rfl rfl rfl (by decide +kernel) ⟨Nat.le_of_ble_eq_true rfl, Nat.le_of_ble_eq_true rfl⟩) ⟨preW_fb, va_recv hK hP (ci := 0) (q0 := 19) rfl rfl, preW_at hP hK hN hD⟩ rfl rfl hl.1 rfl (lv_room (Nat.le_of_ble_eq_true rfl)) dK_addPlanesOfNutrients_113 ⟨Nat.zero_le _, Nat.zero_le _⟩) (fun H locs hP hD hS => ?_)
    obtain ⟨v11, ev11⟩ : ∃ z : Int32, z = x1 + 1 := ⟨_, rfl⟩
    have hm := nm_to ev11 hm
    refine lv_iinc (v := v11) (lv' := [(1, .int v11), (0, .ref (ad 19)), (2, .int x2), (4, .int x4)]) hx hb dK_addPlanesOfNutrients_116 hl (k := 1) rfl (by rw [ev11]; rfl) (by decide) rfl (fun ls hl => ?_)
    refine lv_goto (tgt := 2) hx hb dK_addPlanesOfNutrients_119 (by decide) ?_
    exact hk2 v11 I8 J9 hm _ _ _ hP hD hS (lv_sub hl [1, 0] rfl)
set_option maxHeartbeats 4000000 in
set_option maxRecDepth 100000 in
theorem w_K_addPlanesOfNutrients_0 {p : Program} {l : Launch} {e : Env} {s : State} {m : MethodId} {args : Array Value} {below : List Frame} {meth : Method} {c : Code} {D : va_G} {A : Nat → Prop} {ad : Nat → Nat} {cI cJ cG : ClassId} {res : Int32 × SI × SJ} (X : Cx p s m args meth c bK_addPlanesOfNutrients (some .boolean) 5 RK) (hK : va_K D vwCl (tysM cI cJ cG) s) (hN : NWs s) (hA : ∀ q, s.heap.size ≤ q → A q)
    {k2 : Int32 → SI → SJ → Option (Int32 × SI × SJ)} (hk2 : ∀ (x1 : Int32) (I : SI) (J : SJ), k2 x1 I J = some res → WB p l e (headSpec (Cond.code yK_addPlanesOfNutrients bK_addPlanesOfNutrients 5 (some .boolean) :: gtb) rm_K_addPlanesOfNutrients).room s m args below meth c (MQ below (va_Qi (fun (r : Int32) (u : SI × SJ) => (r, u) = res) (atW D vwCl (tysM cI cJ cG) A (wsM ad cI cJ cG)) A) args s 0 0 A) D vwCl A 5 (wsM ad cI cJ cG I J) 2 [(0, .ref (ad 19)), (1, .int x1)] [])
     (I : SI) (J : SJ) (hm : b_K_addPlanesOfNutrients_0 k2  I J = some res) : WB p l e (headSpec (Cond.code yK_addPlanesOfNutrients bK_addPlanesOfNutrients 5 (some .boolean) :: gtb) rm_K_addPlanesOfNutrients).room s m args below meth c (MQ below (va_Qi (fun (r : Int32) (u : SI × SJ) => (r, u) = res) (atW D vwCl (tysM cI cJ cG) A (wsM ad cI cJ cG)) A) args s 0 0 A) D vwCl A 5 (wsM ad cI cJ cG I J) 0 [(0, .ref (ad 19))] [] := by
  obtain ⟨hx, hb, hr, hml, hown, hT, hlk⟩ := X
  intro H locs ls hP hD hS hl
  unfold b_K_addPlanesOfNutrients_0 at hm
  refine lv_iconst (v := 0) hx hb dK_addPlanesOfNutrients_0 (by decide) ?_
  refine lv_istore_n (lv' := [(1, .int 0), (0, .ref (ad 19))]) hx hb dK_addPlanesOfNutrients_1 rfl hl (by decide) rfl (fun ls hl => ?_)
  exact hk2 0 I J hm _ _ _ hP hD hS (lv_sub hl [1, 0] rfl)
set_option maxHeartbeats 4000000 in
theorem gw_K_addPlanesOfNutrients {p : Program} {l : Launch} {e : Env} {s : State} {m : MethodId} {args : Array Value} {below : List Frame} {meth : Method} {c : Code} {D : va_G} {A : Nat → Prop} {ad : Nat → Nat} {cI cJ cG : ClassId} {res : Int32 × SI × SJ} (X : Cx p s m args meth c bK_addPlanesOfNutrients (some .boolean) 5 RK) (hK : va_K D vwCl (tysM cI cJ cG) s) (hN : NWs s) (hA : ∀ q, s.heap.size ≤ q → A q) : ∀ n : Nat, (∀ (x1 : Int32) (I : SI) (J : SJ), (g_K_addPlanesOfNutrients n).1 x1 I J = some res → WB p l e (headSpec (Cond.code yK_addPlanesOfNutrients bK_addPlanesOfNutrients 5 (some .boolean) :: gtb) rm_K_addPlanesOfNutrients).room s m args below meth c (MQ below (va_Qi (fun (r : Int32) (u : SI × SJ) => (r, u) = res) (atW D vwCl (tysM cI cJ cG) A (wsM ad cI cJ cG)) A) args s 0 0 A) D vwCl A 5 (wsM ad cI cJ cG I J) 2 [(0, .ref (ad 19)), (1, .int x1)] []) ∧ (∀ (x1 : Int32) (x2 : Int32) (x4 : Int32) (I : SI) (J : SJ), (g_K_addPlanesOfNutrients n).2 x1 x2 x4 I J = some res → WB p l e (headSpec (Cond.code yK_addPlanesOfNutrients bK_addPlanesOfNutrients 5 (some .boolean) :: gtb) rm_K_addPlanesOfNutrients).room s m args below meth c (MQ below (va_Qi (fun (r : Int32) (u : SI × SJ) => (r, u) = res) (atW D vwCl (tysM cI cJ cG) A (wsM ad cI cJ cG)) A) args s 0 0 A) D vwCl A 5 (wsM ad cI cJ cG I J) 88 [(0, .ref (ad 19)), (1, .int x1), (2, .int x2), (4, .int x4)] []) := by
  intro n
  induction n with
  | zero => exact ⟨fun _ _ _ h => (by cases h), fun _ _ _ _ _ h => (by cases h)⟩
  | succ n ih =>
    obtain ⟨ih2, ih88⟩ := ih
    exact ⟨fun x1 I J h => w_K_addPlanesOfNutrients_2 X hK hN hA ih88 x1 I J h, fun x1 x2 x4 I J h => w_K_addPlanesOfNutrients_88 X hK hN hA ih2 x1 x2 x4 I J h⟩
set_option maxHeartbeats 4000000 in
set_option maxRecDepth 100000 in
theorem c_K_addPlanesOfNutrients (l : Launch) (D : va_G) (ad : Nat → Nat) (cI cJ cG : ClassId) (sz : Nat) (I : SI) (J : SJ) (res : Int32 × SI × SJ) (hm : m_K_addPlanesOfNutrients  I J = some res) : Met l yK_addPlanesOfNutrients (Cond.code yK_addPlanesOfNutrients bK_addPlanesOfNutrients 5 (some .boolean) :: gtb) rm_K_addPlanesOfNutrients (va_Pc [.ref (ad 19)] (preW D vwCl (tysM cI cJ cG) (wsM ad cI cJ cG I J) sz)) (va_Qi (fun (r : Int32) (u : SI × SJ) => (r, u) = res) (atW D vwCl (tysM cI cJ cG) (va_A (wsM ad cI cJ cG I J) sz) (wsM ad cI cJ cG)) (va_A (wsM ad cI cJ cG I J) sz)) 0 0 (va_A (wsM ad cI cJ cG I J) sz) := by
  refine Met.ofW (cc := bK_addPlanesOfNutrients) (maxL := 5) (ret := (some .boolean)) (by decide) rfl ?_
  intro p e s m args below meth c s₁ B hml hv
  obtain ⟨rfl, hsz, hP, hK, hD0, hN⟩ := hv
  subst hsz
  have X : Cx p s m [.ref (ad 19)].toArray meth c bK_addPlanesOfNutrients (some .boolean) 5 RK := ⟨B.exec, B.bytes, B.returns, hml, findClass_of_methodNamed B.named, fun w h => atoms_spec (ws := (Cond.code yK_addPlanesOfNutrients bK_addPlanesOfNutrients 5 (some .boolean) :: gtb)) B.pre w (List.mem_cons_of_mem _ h), B.notSynchronized⟩
  have hl := lv_entry ([.ref (ad 19)]) (n := 5) (Nat.le_of_ble_eq_true rfl)
  rw [lg_entry_eq]
  generalize (lg_sl ([.ref (ad 19)]) ++ List.replicate (5 - (lg_sl ([.ref (ad 19)])).length) Slot.unset).toArray = ls at hl ⊢
  have hl : lv_has ls 5 [(0, .ref (ad 19))] := hl
  have hA : ∀ q, s.heap.size ≤ q → va_A (wsM ad cI cJ cG I J) s.heap.size q := fun q h => Or.inr h
  exact w_K_addPlanesOfNutrients_0 X hK hN hA (gw_K_addPlanesOfNutrients X hK hN hA fuel).1  I J hm _ _ _ hP hD0.self va_S.rf hl
def b_K_setPlanes_0 (I : SI) (J : SJ) : Option (Int32 × SI × SJ) :=
  nm (va_up I 19 (upd (I 19) 6 0)) fun I1 =>
  cl2 (m_K_addPlanesOfOneAmount I1 J) fun I3 J4 =>
  nm (va_up I3 19 (upd (I3 19) 7 (I3 19 6))) fun I6 =>
  if (I6 19 7) < 3 then
    cl2 (m_K_addPlanesOfStuffs I6 J4) fun I9 J10 =>
    cl3 (m_K_addPlanesOfNutrients I9 J10) fun r12 I13 J14 =>
    gd (narrow .boolean (.int r12) = .int r12) <|
    some (r12, I13, J14)
  else
    some (1, I6, J4)
def m_K_setPlanes (I : SI) (J : SJ) : Option (Int32 × SI × SJ) := b_K_setPlanes_0  I J
def rm_K_setPlanes : Room := { frames := 3, cells := 0, slots := 0, locals := 83 }
set_option maxHeartbeats 4000000 in
set_option maxRecDepth 100000 in
theorem w_K_setPlanes_0 {p : Program} {l : Launch} {e : Env} {s : State} {m : MethodId} {args : Array Value} {below : List Frame} {meth : Method} {c : Code} {D : va_G} {A : Nat → Prop} {ad : Nat → Nat} {cI cJ cG : ClassId} {res : Int32 × SI × SJ} (X : Cx p s m args meth c bK_setPlanes (some .boolean) 1 RK) (hK : va_K D vwCl (tysM cI cJ cG) s) (hN : NWs s) (hA : ∀ q, s.heap.size ≤ q → A q)
     (I : SI) (J : SJ) (hm : b_K_setPlanes_0   I J = some res) : WB p l e (headSpec (Cond.code yK_setPlanes bK_setPlanes 1 (some .boolean) :: gtb) rm_K_setPlanes).room s m args below meth c (MQ below (va_Qi (fun (r : Int32) (u : SI × SJ) => (r, u) = res) (atW D vwCl (tysM cI cJ cG) A (wsM ad cI cJ cG)) A) args s 0 0 A) D vwCl A 1 (wsM ad cI cJ cG I J) 0 [(0, .ref (ad 19))] [] := by
  obtain ⟨hx, hb, hr, hml, hown, hT, hlk⟩ := X
  intro H locs ls hP hD hS hl
  unfold b_K_setPlanes_0 at hm
  refine lv_aload_n hx hb dK_setPlanes_0 rfl (lv_at hl 0 rfl) ?_
  refine lv_iconst (v := 0) hx hb dK_setPlanes_1 (by decide) ?_
  refine va_put (D := D) (ci := 0) (v := .int 0) (ty := .int) (C := RK) (T := TK) (N := 10) hx hb hT inK tyK okK nmK hown hK hP hD hS 19 rfl rfl 6 (by decide) (hT _ wd_205) (fun _ h9 => h9) rfl pf_I rfl rfl (Nat.le_of_ble_eq_true rfl) dK_setPlanes_2 (fun H locs hP hD hS => ?_)
  obtain ⟨I1, eI1⟩ : ∃ z : SI, z = va_up I 19 (upd (I 19) 6 0) := ⟨_, rfl⟩
  have hm := nm_to eI1 hm
  have hP := P_eq (ws2 := wsM ad cI cJ cG I1 J) hP (by rw [eI1]; rfl)
  have hD := D_eq (ws2 := wsM ad cI cJ cG I1 J) hD (by rw [eI1]; rfl)
  refine lv_aload_n hx hb dK_setPlanes_5 rfl (lv_at hl 0 rfl) ?_
  obtain ⟨I3, J4, hc5, hm⟩ := cl2_to hm
  refine pst_v (wf := wsM ad cI cJ cG) hD hS hA (va_runV (As := []) (rest := []) ⟨hx, hb, hml, hown, hT⟩ (c_K_addPlanesOfOneAmount l D ad cI cJ cG _ I1 J _ hc5) (cwV 0 hT (gV wd_400 wd_402 wd_14 wd_55 wd_403) rfl rfl rfl (by decide +kernel) ⟨Nat.le_of_ble_eq_true rfl, Nat.le_of_ble_eq_true rfl⟩) ⟨preW_fb, va_recv hK hP (ci := 0) (q0 := 19) rfl rfl, preW_at hP hK hN hD⟩ rfl rfl hl.1 rfl (lv_room (Nat.le_of_ble_eq_true rfl)) dK_setPlanes_6 ⟨Nat.zero_le _, Nat.zero_le _⟩) (fun H locs hP hD hS => ?_)
  refine lv_aload_n hx hb dK_setPlanes_9 rfl (lv_at hl 0 rfl) ?_
  refine lv_aload_n hx hb dK_setPlanes_10 rfl (lv_at hl 0 rfl) ?_
  refine va_get (D := D) (ci := 0) (v := .int (I3 19 6)) (C := RK) (T := TK) (N := 10) hx hb hT inK hown hK hP 19 rfl rfl 6 (by decide) (hT _ wd_205) (fun _ h9 => h9) rfl dK_setPlanes_11 ?_
  refine va_put (D := D) (ci := 0) (v := .int (I3 19 6)) (ty := .int) (C := RK) (T := TK) (N := 10) hx hb hT inK tyK okK nmK hown hK hP hD hS 19 rfl rfl 7 (by decide) (hT _ wd_206) (fun _ h9 => h9) rfl pf_I rfl rfl (Nat.le_of_ble_eq_true rfl) dK_setPlanes_14 (fun H locs hP hD hS => ?_)
  obtain ⟨I6, eI6⟩ : ∃ z : SI, z = va_up I3 19 (upd (I3 19) 7 (I3 19 6)) := ⟨_, rfl⟩
  have hm := nm_to eI6 hm
  have hP := P_eq (ws2 := wsM ad cI cJ cG I6 J4) hP (by rw [eI6]; rfl)
  have hD := D_eq (ws2 := wsM ad cI cJ cG I6 J4) hD (by rw [eI6]; rfl)
  refine lv_aload_n hx hb dK_setPlanes_17 rfl (lv_at hl 0 rfl) ?_
  refine va_get (D := D) (ci := 0) (v := .int (I6 19 7)) (C := RK) (T := TK) (N := 10) hx hb hT inK hown hK hP 19 rfl rfl 7 (by decide) (hT _ wd_206) (fun _ h9 => h9) rfl dK_setPlanes_18 ?_
  refine lv_iconst (v := 3) hx hb dK_setPlanes_21 (by decide) ?_
  refine lv_icmp_lt (tgt := 27) hx hb dK_setPlanes_22 (by decide) (fun c7 => ?_) (fun c7 => ?_)
  · have hm := brp hm c7
    refine lv_aload_n hx hb dK_setPlanes_27 rfl (lv_at hl 0 rfl) ?_
    obtain ⟨I9, J10, hc11, hm⟩ := cl2_to hm
    refine pst_v (wf := wsM ad cI cJ cG) hD hS hA (va_runV (As := []) (rest := []) ⟨hx, hb, hml, hown, hT⟩ (c_K_addPlanesOfStuffs l D ad cI cJ cG _ I6 J4 _ hc11) (cwV 0 hT (gV wd_408 wd_410 wd_16 wd_55 wd_411) rfl rfl rfl (by decide +kernel) ⟨Nat.le_of_ble_eq_true rfl, Nat.le_of_ble_eq_true rfl⟩) ⟨preW_fb, va_recv hK hP (ci := 0) (q0 := 19) rfl rfl, preW_at hP hK hN hD⟩ rfl rfl hl.1 rfl (lv_room (Nat.le_of_ble_eq_true rfl)) dK_setPlanes_28 ⟨Nat.zero_le _, Nat.zero_le _⟩) (fun H locs hP hD hS => ?_)
    refine lv_aload_n hx hb dK_setPlanes_31 rfl (lv_at hl 0 rfl) ?_
    obtain ⟨r12, I13, J14, hc15, hm⟩ := cl3_to hm
    refine pst_i (wf := wsM ad cI cJ cG) hD hS hA (va_runV (As := []) (rest := []) ⟨hx, hb, hml, hown, hT⟩ (c_K_addPlanesOfNutrients l D ad cI cJ cG _ I9 J10 _ hc15) (cwV 0 hT (gV wd_412 wd_414 wd_17 wd_55 wd_415) rfl rfl rfl (by decide +kernel) ⟨Nat.le_of_ble_eq_true rfl, Nat.le_of_ble_eq_true rfl⟩) ⟨preW_fb, va_recv hK hP (ci := 0) (q0 := 19) rfl rfl, preW_at hP hK hN hD⟩ rfl rfl hl.1 rfl (lv_room (Nat.le_of_ble_eq_true rfl)) dK_setPlanes_32 ⟨Nat.zero_le _, Nat.zero_le _⟩) (fun H locs hP hD hS => ?_)
    obtain ⟨g16, hm⟩ := gd_to hm
    exact W.zret hx hb hr g16 (fun t ht hW => ⟨⟨r12, (I13, J14), rfl, Option.some.inj hm, ht ▸ hP, va_K.moved hW.alike hK, hD⟩, hS.F ht⟩) hS.2.2 dK_setPlanes_35 hlk
  · have hm := brn hm c7
    refine lv_iconst (v := 1) hx hb dK_setPlanes_25 (by decide) ?_
    exact W.zret hx hb hr rfl (fun t ht hW => ⟨⟨1, (I6, J4), rfl, Option.some.inj hm, ht ▸ hP, va_K.moved hW.alike hK, hD⟩, hS.F ht⟩) hS.2.2 dK_setPlanes_26 hlk
set_option maxHeartbeats 4000000 in
set_option maxRecDepth 100000 in
theorem c_K_setPlanes (l : Launch) (D : va_G) (ad : Nat → Nat) (cI cJ cG : ClassId) (sz : Nat) (I : SI) (J : SJ) (res : Int32 × SI × SJ) (hm : m_K_setPlanes  I J = some res) : Met l yK_setPlanes (Cond.code yK_setPlanes bK_setPlanes 1 (some .boolean) :: gtb) rm_K_setPlanes (va_Pc [.ref (ad 19)] (preW D vwCl (tysM cI cJ cG) (wsM ad cI cJ cG I J) sz)) (va_Qi (fun (r : Int32) (u : SI × SJ) => (r, u) = res) (atW D vwCl (tysM cI cJ cG) (va_A (wsM ad cI cJ cG I J) sz) (wsM ad cI cJ cG)) (va_A (wsM ad cI cJ cG I J) sz)) 0 0 (va_A (wsM ad cI cJ cG I J) sz) := by
  refine Met.ofW (cc := bK_setPlanes) (maxL := 1) (ret := (some .boolean)) (by decide) rfl ?_
  intro p e s m args below meth c s₁ B hml hv
  obtain ⟨rfl, hsz, hP, hK, hD0, hN⟩ := hv
  subst hsz
  have X : Cx p s m [.ref (ad 19)].toArray meth c bK_setPlanes (some .boolean) 1 RK := ⟨B.exec, B.bytes, B.returns, hml, findClass_of_methodNamed B.named, fun w h => atoms_spec (ws := (Cond.code yK_setPlanes bK_setPlanes 1 (some .boolean) :: gtb)) B.pre w (List.mem_cons_of_mem _ h), B.notSynchronized⟩
  have hl := lv_entry ([.ref (ad 19)]) (n := 1) (Nat.le_of_ble_eq_true rfl)
  rw [lg_entry_eq]
  generalize (lg_sl ([.ref (ad 19)]) ++ List.replicate (1 - (lg_sl ([.ref (ad 19)])).length) Slot.unset).toArray = ls at hl ⊢
  have hl : lv_has ls 1 [(0, .ref (ad 19))] := hl
  have hA : ∀ q, s.heap.size ≤ q → va_A (wsM ad cI cJ cG I J) s.heap.size q := fun q h => Or.inr h
  exact w_K_setPlanes_0 X hK hN hA   I J hm _ _ _ hP hD0.self va_S.rf hl
def b_K_cross_25 (aa : Nat) (bb : Nat) (x3 : Int32) (k0 : Int32) (I : SI) (J : SJ) : Option (Int64 × SI × SJ) :=
  gd (aa ∈ [22, 23, 24, 25, 26, 27, 28]) <|
  gd (bb ∈ [22, 23, 24, 25, 26, 27, 28]) <|
  gd (vin x3 3) <|
  nm (I aa x3.toNatClampNeg) fun v2 =>
  gd (vin k0 3) <|
  nm (I bb k0.toNatClampNeg) fun v4 =>
  nm (v2 * v4) fun v5 =>
  gd (vin k0 3) <|
  nm (I aa k0.toNatClampNeg) fun v7 =>
  gd (vin x3 3) <|
  nm (I bb x3.toNatClampNeg) fun v9 =>
  nm (v7 * v9) fun v10 =>
  nm (v5 - v10) fun v11 =>
  nm (Int32.toInt64 v11) fun v12 =>
  some (v12, I, J)
def b_K_cross_0 (k25 : Nat → Nat → Int32 → Int32 → SI → SJ → Option (Int64 × SI × SJ)) (aa : Nat) (bb : Nat) (x2 : Int32) (I : SI) (J : SJ) : Option (Int64 × SI × SJ) :=
  gd (aa ∈ [22, 23, 24, 25, 26, 27, 28]) <|
  gd (bb ∈ [22, 23, 24, 25, 26, 27, 28]) <|
  if 2 ≤ x2 then
    if (2 : Int32) ≤ 0 then
      k25 aa bb 0 0 I J
    else
      nm ((0 + 1 : Int32)) fun v3 =>
      k25 aa bb 0 v3 I J
  else
    nm (x2 + 1) fun v4 =>
    if 2 ≤ v4 then
      k25 aa bb v4 0 I J
    else
      nm (v4 + 1) fun v6 =>
      k25 aa bb v4 v6 I J
def g_K_cross : Nat → (Nat → Nat → Int32 → Int32 → SI → SJ → Option (Int64 × SI × SJ))
  | 0 => (fun _ _ _ _ _ _ => none)
  | n + 1 => (fun aa bb x3 k0 I J => b_K_cross_25  aa bb x3 k0 I J)
def m_K_cross (aa : Nat) (bb : Nat) (x2 : Int32) (I : SI) (J : SJ) : Option (Int64 × SI × SJ) := b_K_cross_0 (g_K_cross fuel) aa bb x2 I J
def rm_K_cross : Room := { frames := 0, cells := 0, slots := 0, locals := 0 }
set_option maxHeartbeats 4000000 in
set_option maxRecDepth 100000 in
theorem w_K_cross_25 {p : Program} {l : Launch} {e : Env} {s : State} {m : MethodId} {args : Array Value} {below : List Frame} {meth : Method} {c : Code} {D : va_G} {A : Nat → Prop} {ad : Nat → Nat} {cI cJ cG : ClassId} {res : Int64 × SI × SJ} (X : Cx p s m args meth c bK_cross (some .long) 5 RK) (hK : va_K D vwCl (tysM cI cJ cG) s) (hN : NWs s) (hA : ∀ q, s.heap.size ≤ q → A q)
     (aa : Nat) (bb : Nat) (x3 : Int32) (k0 : Int32) (I : SI) (J : SJ) (hm : b_K_cross_25  aa bb x3 k0 I J = some res) : WB p l e (headSpec (Cond.code yK_cross bK_cross 5 (some .long) :: gtb) rm_K_cross).room s m args below meth c (MQ below (va_Ql (fun (r : Int64) (u : SI × SJ) => (r, u) = res) (atW D vwCl (tysM cI cJ cG) A (wsM ad cI cJ cG)) A) args s 0 0 A) D vwCl A 5 (wsM ad cI cJ cG I J) 25 [(0, .ref (ad aa)), (1, .ref (ad bb)), (3, .int x3)] [.int k0] := by
  obtain ⟨hx, hb, hr, hml, hown, hT, hlk⟩ := X
  intro H locs ls hP hD hS hl
  unfold b_K_cross_25 at hm
  obtain ⟨hf_aa, hm⟩ := gd_to hm
  obtain ⟨hf_bb, hm⟩ := gd_to hm
  refine lv_istore (lv' := [(4, .int k0), (0, .ref (ad aa)), (1, .ref (ad bb)), (3, .int x3)]) hx hb dK_cross_25 hl (by decide) rfl (fun ls hl => ?_)
  refine lv_aload_n hx hb dK_cross_27 rfl (lv_at hl 1 rfl) ?_
  refine lv_iload_n hx hb dK_cross_28 rfl (lv_at hl 3 rfl) ?_
  obtain ⟨g1, hm⟩ := gd_to hm
  refine va_iald hx hb hK hP aa 0 (famM_slope hf_aa) rfl g1 dK_cross_29 ?_
  refine lv_topi (fun v2 ev2 => ?_)
  have hm := nm_to ev2 hm
  refine lv_aload_n hx hb dK_cross_30 rfl (lv_at hl 2 rfl) ?_
  refine lv_iload hx hb dK_cross_31 (lv_at hl 0 rfl) ?_
  obtain ⟨g3, hm⟩ := gd_to hm
  refine va_iald hx hb hK hP bb 0 (famM_slope hf_bb) rfl g3 dK_cross_33 ?_
  refine lv_topi (fun v4 ev4 => ?_)
  have hm := nm_to ev4 hm
  refine lv_imul hx hb dK_cross_34 ?_
  refine lv_topi (fun v5 ev5 => ?_)
  have hm := nm_to ev5 hm
  refine lv_aload_n hx hb dK_cross_35 rfl (lv_at hl 1 rfl) ?_
  refine lv_iload hx hb dK_cross_36 (lv_at hl 0 rfl) ?_
  obtain ⟨g6, hm⟩ := gd_to hm
  refine va_iald hx hb hK hP aa 0 (famM_slope hf_aa) rfl g6 dK_cross_38 ?_
  refine lv_topi (fun v7 ev7 => ?_)
  have hm := nm_to ev7 hm
  refine lv_aload_n hx hb dK_cross_39 rfl (lv_at hl 2 rfl) ?_
  refine lv_iload_n hx hb dK_cross_40 rfl (lv_at hl 3 rfl) ?_
  obtain ⟨g8, hm⟩ := gd_to hm
  refine va_iald hx hb hK hP bb 0 (famM_slope hf_bb) rfl g8 dK_cross_41 ?_
  refine lv_topi (fun v9 ev9 => ?_)
  have hm := nm_to ev9 hm
  refine lv_imul hx hb dK_cross_42 ?_
  refine lv_topi (fun v10 ev10 => ?_)
  have hm := nm_to ev10 hm
  refine lv_isub hx hb dK_cross_43 ?_
  refine lv_topi (fun v11 ev11 => ?_)
  have hm := nm_to ev11 hm
  refine lv_i2l hx hb dK_cross_44 rfl ?_
  refine lv_topl (fun v12 ev12 => ?_)
  have hm := nm_to ev12 hm
  exact W.lret hx hb hr (fun t ht hW => ⟨⟨v12, (I, J), rfl, Option.some.inj hm, ht ▸ hP, va_K.moved hW.alike hK, hD⟩, hS.F ht⟩) hS.2.2 dK_cross_45 hlk
set_option maxHeartbeats 4000000 in
set_option maxRecDepth 100000 in
theorem w_K_cross_0 {p : Program} {l : Launch} {e : Env} {s : State} {m : MethodId} {args : Array Value} {below : List Frame} {meth : Method} {c : Code} {D : va_G} {A : Nat → Prop} {ad : Nat → Nat} {cI cJ cG : ClassId} {res : Int64 × SI × SJ} (X : Cx p s m args meth c bK_cross (some .long) 5 RK) (hK : va_K D vwCl (tysM cI cJ cG) s) (hN : NWs s) (hA : ∀ q, s.heap.size ≤ q → A q)
    {k25 : Nat → Nat → Int32 → Int32 → SI → SJ → Option (Int64 × SI × SJ)} (hk25 : ∀ (aa : Nat) (bb : Nat) (x3 : Int32) (k0 : Int32) (I : SI) (J : SJ), k25 aa bb x3 k0 I J = some res → WB p l e (headSpec (Cond.code yK_cross bK_cross 5 (some .long) :: gtb) rm_K_cross).room s m args below meth c (MQ below (va_Ql (fun (r : Int64) (u : SI × SJ) => (r, u) = res) (atW D vwCl (tysM cI cJ cG) A (wsM ad cI cJ cG)) A) args s 0 0 A) D vwCl A 5 (wsM ad cI cJ cG I J) 25 [(0, .ref (ad aa)), (1, .ref (ad bb)), (3, .int x3)] [.int k0])
     (aa : Nat) (bb : Nat) (x2 : Int32) (I : SI) (J : SJ) (hm : b_K_cross_0 k25 aa bb x2 I J = some res) : WB p l e (headSpec (Cond.code yK_cross bK_cross 5 (some .long) :: gtb) rm_K_cross).room s m args below meth c (MQ below (va_Ql (fun (r : Int64) (u : SI × SJ) => (r, u) = res) (atW D vwCl (tysM cI cJ cG) A (wsM ad cI cJ cG)) A) args s 0 0 A) D vwCl A 5 (wsM ad cI cJ cG I J) 0 [(0, .ref (ad aa)), (1, .ref (ad bb)), (2, .int x2)] [] := by
  obtain ⟨hx, hb, hr, hml, hown, hT, hlk⟩ := X
  intro H locs ls hP hD hS hl
  unfold b_K_cross_0 at hm
  obtain ⟨hf_aa, hm⟩ := gd_to hm
  obtain ⟨hf_bb, hm⟩ := gd_to hm
  refine lv_iload_n hx hb dK_cross_0 rfl (lv_at hl 2 rfl) ?_
  refine lv_iconst (v := 2) hx hb dK_cross_1 (by decide) ?_
  refine lv_icmp_ge (tgt := 11) hx hb dK_cross_2 (by decide) (fun c1 => ?_) (fun c1 => ?_)
  · have hm := brp hm c1
    refine lv_iconst (v := 0) hx hb dK_cross_11 (by decide) ?_
    refine lv_istore_n (lv' := [(3, .int 0), (0, .ref (ad aa)), (1, .ref (ad bb)), (2, .int x2)]) hx hb dK_cross_12 rfl hl (by decide) rfl (fun ls hl => ?_)
    refine lv_iload_n hx hb dK_cross_13 rfl (lv_at hl 0 rfl) ?_
    refine lv_iconst (v := 2) hx hb dK_cross_14 (by decide) ?_
    refine lv_icmp_ge (tgt := 24) hx hb dK_cross_15 (by decide) (fun c2 => ?_) (fun c2 => ?_)
    · have hm := brp hm c2
      refine lv_iconst (v := 0) hx hb dK_cross_24 (by decide) ?_
      exact hk25 aa bb 0 0 I J hm _ _ _ hP hD hS (lv_sub hl [1, 2, 0] rfl)
    · have hm := brn hm c2
      refine lv_iload_n hx hb dK_cross_18 rfl (lv_at hl 0 rfl) ?_
      refine lv_iconst (v := 1) hx hb dK_cross_19 (by decide) ?_
      refine lv_iadd hx hb dK_cross_20 ?_
      refine lv_topi (fun v3 ev3 => ?_)
      have hm := nm_to ev3 hm
      refine lv_goto (tgt := 25) hx hb dK_cross_21 (by decide) ?_
      exact hk25 aa bb 0 v3 I J hm _ _ _ hP hD hS (lv_sub hl [1, 2, 0] rfl)
  · have hm := brn hm c1
    refine lv_iload_n hx hb dK_cross_5 rfl (lv_at hl 2 rfl) ?_
    refine lv_iconst (v := 1) hx hb dK_cross_6 (by decide) ?_
    refine lv_iadd hx hb dK_cross_7 ?_
    refine lv_topi (fun v4 ev4 => ?_)
    have hm := nm_to ev4 hm
    refine lv_goto (tgt := 12) hx hb dK_cross_8 (by decide) ?_
    refine lv_istore_n (lv' := [(3, .int v4), (0, .ref (ad aa)), (1, .ref (ad bb)), (2, .int x2)]) hx hb dK_cross_12 rfl hl (by decide) rfl (fun ls hl => ?_)
    refine lv_iload_n hx hb dK_cross_13 rfl (lv_at hl 0 rfl) ?_
    refine lv_iconst (v := 2) hx hb dK_cross_14 (by decide) ?_
    refine lv_icmp_ge (tgt := 24) hx hb dK_cross_15 (by decide) (fun c5 => ?_) (fun c5 => ?_)
    · have hm := brp hm c5
      refine lv_iconst (v := 0) hx hb dK_cross_24 (by decide) ?_
      exact hk25 aa bb v4 0 I J hm _ _ _ hP hD hS (lv_sub hl [1, 2, 0] rfl)
    · have hm := brn hm c5
      refine lv_iload_n hx hb dK_cross_18 rfl (lv_at hl 0 rfl) ?_
      refine lv_iconst (v := 1) hx hb dK_cross_19 (by decide) ?_
      refine lv_iadd hx hb dK_cross_20 ?_
      refine lv_topi (fun v6 ev6 => ?_)
      have hm := nm_to ev6 hm
      refine lv_goto (tgt := 25) hx hb dK_cross_21 (by decide) ?_
      exact hk25 aa bb v4 v6 I J hm _ _ _ hP hD hS (lv_sub hl [1, 2, 0] rfl)
set_option maxHeartbeats 4000000 in
theorem gw_K_cross {p : Program} {l : Launch} {e : Env} {s : State} {m : MethodId} {args : Array Value} {below : List Frame} {meth : Method} {c : Code} {D : va_G} {A : Nat → Prop} {ad : Nat → Nat} {cI cJ cG : ClassId} {res : Int64 × SI × SJ} (X : Cx p s m args meth c bK_cross (some .long) 5 RK) (hK : va_K D vwCl (tysM cI cJ cG) s) (hN : NWs s) (hA : ∀ q, s.heap.size ≤ q → A q) : ∀ n : Nat, (∀ (aa : Nat) (bb : Nat) (x3 : Int32) (k0 : Int32) (I : SI) (J : SJ), (g_K_cross n) aa bb x3 k0 I J = some res → WB p l e (headSpec (Cond.code yK_cross bK_cross 5 (some .long) :: gtb) rm_K_cross).room s m args below meth c (MQ below (va_Ql (fun (r : Int64) (u : SI × SJ) => (r, u) = res) (atW D vwCl (tysM cI cJ cG) A (wsM ad cI cJ cG)) A) args s 0 0 A) D vwCl A 5 (wsM ad cI cJ cG I J) 25 [(0, .ref (ad aa)), (1, .ref (ad bb)), (3, .int x3)] [.int k0]) := by
  intro n
  induction n with
  | zero => exact fun _ _ _ _ _ _ h => (by cases h)
  | succ n ih =>
    have ih25 := ih
    exact fun aa bb x3 k0 I J h => w_K_cross_25 X hK hN hA  aa bb x3 k0 I J h
set_option maxHeartbeats 4000000 in
set_option maxRecDepth 100000 in
theorem c_K_cross (l : Launch) (D : va_G) (ad : Nat → Nat) (cI cJ cG : ClassId) (sz : Nat) (aa : Nat) (bb : Nat) (x2 : Int32) (I : SI) (J : SJ) (res : Int64 × SI × SJ) (hm : m_K_cross aa bb x2 I J = some res) : Met l yK_cross (Cond.code yK_cross bK_cross 5 (some .long) :: gtb) rm_K_cross (va_Pc [.ref (ad aa), .ref (ad bb), .int x2] (preW D vwCl (tysM cI cJ cG) (wsM ad cI cJ cG I J) sz)) (va_Ql (fun (r : Int64) (u : SI × SJ) => (r, u) = res) (atW D vwCl (tysM cI cJ cG) (va_A (wsM ad cI cJ cG I J) sz) (wsM ad cI cJ cG)) (va_A (wsM ad cI cJ cG I J) sz)) 0 0 (va_A (wsM ad cI cJ cG I J) sz) := by
  refine Met.ofW (cc := bK_cross) (maxL := 5) (ret := (some .long)) (by decide) rfl ?_
  intro p e s m args below meth c s₁ B hml hv
  obtain ⟨rfl, hsz, hP, hK, hD0, hN⟩ := hv
  subst hsz
  have X : Cx p s m [.ref (ad aa), .ref (ad bb), .int x2].toArray meth c bK_cross (some .long) 5 RK := ⟨B.exec, B.bytes, B.returns, hml, findClass_of_methodNamed B.named, fun w h => atoms_spec (ws := (Cond.code yK_cross bK_cross 5 (some .long) :: gtb)) B.pre w (List.mem_cons_of_mem _ h), B.notSynchronized⟩
  have hl := lv_entry ([.ref (ad aa), .ref (ad bb), .int x2]) (n := 5) (Nat.le_of_ble_eq_true rfl)
  rw [lg_entry_eq]
  generalize (lg_sl ([.ref (ad aa), .ref (ad bb), .int x2]) ++ List.replicate (5 - (lg_sl ([.ref (ad aa), .ref (ad bb), .int x2])).length) Slot.unset).toArray = ls at hl ⊢
  have hl : lv_has ls 5 [(0, .ref (ad aa)), (1, .ref (ad bb)), (2, .int x2)] := hl
  have hA : ∀ q, s.heap.size ≤ q → va_A (wsM ad cI cJ cG I J) s.heap.size q := fun q h => Or.inr h
  exact w_K_cross_0 X hK hN hA (gw_K_cross X hK hN hA fuel) aa bb x2 I J hm _ _ _ hP hD0.self va_S.rf hl
def b_K_setCrossOf_2 (k2 : Int32 → Int32 → Int32 → SI → SJ → Option (SI × SJ)) (x1 : Int32) (x2 : Int32) (x3 : Int32) (I : SI) (J : SJ) : Option (SI × SJ) :=
  if 3 ≤ x3 then
    some (I, J)
  else
    gd (vin x1 14) <|
    nm (I 29 x1.toNatClampNeg) fun v3 =>
    gd (vin v3 7) <|
    gd (vin x2 14) <|
    nm (I 29 x2.toNatClampNeg) fun v6 =>
    gd (vin v6 7) <|
    cl3 (m_K_cross (22 + v3.toNatClampNeg) (22 + v6.toNatClampNeg) x3 I J) fun r8 I9 J10 =>
    gd (vin x3 3) <|
    nm (va_up J10 31 (vp_updL (J10 31) x3.toNatClampNeg r8)) fun J13 =>
    nm (x3 + 1) fun v14 =>
    k2 x1 x2 v14 I9 J13
def b_K_setCrossOf_0 (k2 : Int32 → Int32 → Int32 → SI → SJ → Option (SI × SJ)) (x1 : Int32) (x2 : Int32) (I : SI) (J : SJ) : Option (SI × SJ) :=
  k2 x1 x2 0 I J
def g_K_setCrossOf : Nat → (Int32 → Int32 → Int32 → SI → SJ → Option (SI × SJ))
  | 0 => (fun _ _ _ _ _ => none)
  | n + 1 => (fun x1 x2 x3 I J => b_K_setCrossOf_2 (g_K_setCrossOf n) x1 x2 x3 I J)
def m_K_setCrossOf (x1 : Int32) (x2 : Int32) (I : SI) (J : SJ) : Option (SI × SJ) := b_K_setCrossOf_0 (g_K_setCrossOf fuel) x1 x2 I J
def rm_K_setCrossOf : Room := { frames := 1, cells := 0, slots := 0, locals := 24 }
set_option maxHeartbeats 4000000 in
set_option maxRecDepth 100000 in
theorem w_K_setCrossOf_2 {p : Program} {l : Launch} {e : Env} {s : State} {m : MethodId} {args : Array Value} {below : List Frame} {meth : Method} {c : Code} {D : va_G} {A : Nat → Prop} {ad : Nat → Nat} {cI cJ cG : ClassId} {res : SI × SJ} (X : Cx p s m args meth c bK_setCrossOf none 4 RK) (hK : va_K D vwCl (tysM cI cJ cG) s) (hN : NWs s) (hA : ∀ q, s.heap.size ≤ q → A q)
    {k2 : Int32 → Int32 → Int32 → SI → SJ → Option (SI × SJ)} (hk2 : ∀ (x1 : Int32) (x2 : Int32) (x3 : Int32) (I : SI) (J : SJ), k2 x1 x2 x3 I J = some res → WB p l e (headSpec (Cond.code yK_setCrossOf bK_setCrossOf 4 none :: gtb) rm_K_setCrossOf).room s m args below meth c (MQ below (va_Qv (fun (u : SI × SJ) => u = res) (atW D vwCl (tysM cI cJ cG) A (wsM ad cI cJ cG)) A) args s 0 0 A) D vwCl A 4 (wsM ad cI cJ cG I J) 2 [(0, .ref (ad 19)), (1, .int x1), (2, .int x2), (3, .int x3)] [])
     (x1 : Int32) (x2 : Int32) (x3 : Int32) (I : SI) (J : SJ) (hm : b_K_setCrossOf_2 k2 x1 x2 x3 I J = some res) : WB p l e (headSpec (Cond.code yK_setCrossOf bK_setCrossOf 4 none :: gtb) rm_K_setCrossOf).room s m args below meth c (MQ below (va_Qv (fun (u : SI × SJ) => u = res) (atW D vwCl (tysM cI cJ cG) A (wsM ad cI cJ cG)) A) args s 0 0 A) D vwCl A 4 (wsM ad cI cJ cG I J) 2 [(0, .ref (ad 19)), (1, .int x1), (2, .int x2), (3, .int x3)] [] := by
  obtain ⟨hx, hb, hr, hml, hown, hT, hlk⟩ := X
  intro H locs ls hP hD hS hl
  unfold b_K_setCrossOf_2 at hm
  refine lv_iload_n hx hb dK_setCrossOf_2 rfl (lv_at hl 3 rfl) ?_
  refine lv_iconst (v := 3) hx hb dK_setCrossOf_3 (by decide) ?_
  refine lv_icmp_ge (tgt := 45) hx hb dK_setCrossOf_4 (by decide) (fun c1 => ?_) (fun c1 => ?_)
  · have hm := brp hm c1
    exact W.vret hx hb hr (fun t ht hW => ⟨⟨(I, J), rfl, Option.some.inj hm, ht ▸ hP, va_K.moved hW.alike hK, hD⟩, hS.F ht⟩) hS.2.2 dK_setCrossOf_45 hlk
  · have hm := brn hm c1
    refine lv_aload_n hx hb dK_setCrossOf_7 rfl (lv_at hl 0 rfl) ?_
    refine va_get (D := D) (ci := 0) (v := .ref (ad 31)) (C := RK) (T := TK) (N := 10) hx hb hT inK hown hK hP 19 rfl rfl 8 (by decide) (hT _ wd_207) (fun _ h9 => h9) rfl dK_setCrossOf_8 ?_
    refine lv_iload_n hx hb dK_setCrossOf_11 rfl (lv_at hl 3 rfl) ?_
    refine lv_aload_n hx hb dK_setCrossOf_12 rfl (lv_at hl 0 rfl) ?_
    refine va_get (D := D) (ci := 0) (v := .ref (ad 21)) (C := RK) (T := TK) (N := 10) hx hb hT inK hown hK hP 19 rfl rfl 3 (by decide) (hT _ wd_202) (fun _ h9 => h9) rfl dK_setCrossOf_13 ?_
    refine lv_aload_n hx hb dK_setCrossOf_16 rfl (lv_at hl 0 rfl) ?_
    refine va_get (D := D) (ci := 0) (v := .ref (ad 29)) (C := RK) (T := TK) (N := 10) hx hb hT inK hown hK hP 19 rfl rfl 4 (by decide) (hT _ wd_203) (fun _ h9 => h9) rfl dK_setCrossOf_17 ?_
    refine lv_iload_n hx hb dK_setCrossOf_20 rfl (lv_at hl 1 rfl) ?_
    obtain ⟨g2, hm⟩ := gd_to hm
    refine va_iald hx hb hK hP 29 0 rfl rfl g2 dK_setCrossOf_21 ?_
    refine lv_topi (fun v3 ev3 => ?_)
    have hm := nm_to ev3 hm
    obtain ⟨g4, hm⟩ := gd_to hm
    refine va_aldG hx hb hK hP 21 2 rfl rfl rfl g4 (outM_21 (vp_lt g4)) dK_setCrossOf_22 ?_
    refine lv_aload_n hx hb dK_setCrossOf_23 rfl (lv_at hl 0 rfl) ?_
    refine va_get (D := D) (ci := 0) (v := .ref (ad 21)) (C := RK) (T := TK) (N := 10) hx hb hT inK hown hK hP 19 rfl rfl 3 (by decide) (hT _ wd_202) (fun _ h9 => h9) rfl dK_setCrossOf_24 ?_
    refine lv_aload_n hx hb dK_setCrossOf_27 rfl (lv_at hl 0 rfl) ?_
    refine va_get (D := D) (ci := 0) (v := .ref (ad 29)) (C := RK) (T := TK) (N := 10) hx hb hT inK hown hK hP 19 rfl rfl 4 (by decide) (hT _ wd_203) (fun _ h9 => h9) rfl dK_setCrossOf_28 ?_
    refine lv_iload_n hx hb dK_setCrossOf_31 rfl (lv_at hl 2 rfl) ?_
    obtain ⟨g5, hm⟩ := gd_to hm
    refine va_iald hx hb hK hP 29 0 rfl rfl g5 dK_setCrossOf_32 ?_
    refine lv_topi (fun v6 ev6 => ?_)
    have hm := nm_to ev6 hm
    obtain ⟨g7, hm⟩ := gd_to hm
    refine va_aldG hx hb hK hP 21 2 rfl rfl rfl g7 (outM_21 (vp_lt g7)) dK_setCrossOf_33 ?_
    refine lv_iload_n hx hb dK_setCrossOf_34 rfl (lv_at hl 3 rfl) ?_
    obtain ⟨r8, I9, J10, hc11, hm⟩ := cl3_to hm
    refine pst_l (wf := wsM ad cI cJ cG) hD hS hA (va_runS (As := [.ref (ad (22 + v3.toNatClampNeg)), .ref (ad (22 + v6.toNatClampNeg)), .int x3]) (rest := [.int x3, .ref (ad 31)]) ⟨hx, hb, hml, hown, hT⟩ (c_K_cross l D ad cI cJ cG _ (22 + v3.toNatClampNeg) (22 + v6.toNatClampNeg) x3 I J _ hc11) (va_cwS 3 hT (gS wd_424 wd_425 wd_55 wd_426) rfl rfl rfl (by decide +kernel) ⟨Nat.le_of_ble_eq_true rfl, Nat.le_of_ble_eq_true rfl⟩) ⟨preW_fb, preW_at hP hK hN hD⟩ rfl rfl hl.1 rfl (lv_room (Nat.le_of_ble_eq_true rfl)) dK_setCrossOf_35 ⟨Nat.zero_le _, Nat.zero_le _⟩) (fun H locs hP hD hS => ?_)
    obtain ⟨g12, hm⟩ := gd_to hm
    refine va_last hx hb hK hP hD hS 31 1 rfl rfl g12 dK_setCrossOf_38 (fun H locs hP hD hS => ?_)
    obtain ⟨J13, eJ13⟩ : ∃ z : SJ, z = va_up J10 31 (vp_updL (J10 31) x3.toNatClampNeg r8) := ⟨_, rfl⟩
    have hm := nm_to eJ13 hm
    have hP := P_eq (ws2 := wsM ad cI cJ cG I9 J13) hP (by rw [eJ13]; rfl)
    have hD := D_eq (ws2 := wsM ad cI cJ cG I9 J13) hD (by rw [eJ13]; rfl)
    obtain ⟨v14, ev14⟩ : ∃ z : Int32, z = x3 + 1 := ⟨_, rfl⟩
    have hm := nm_to ev14 hm
    refine lv_iinc (v := v14) (lv' := [(3, .int v14), (0, .ref (ad 19)), (1, .int x1), (2, .int x2)]) hx hb dK_setCrossOf_39 hl (k := 3) rfl (by rw [ev14]; rfl) (by decide) rfl (fun ls hl => ?_)
    refine lv_goto (tgt := 2) hx hb dK_setCrossOf_42 (by decide) ?_
    exact hk2 x1 x2 v14 I9 J13 hm _ _ _ hP hD hS (lv_sub hl [1, 2, 3, 0] rfl)
set_option maxHeartbeats 4000000 in
set_option maxRecDepth 100000 in
theorem w_K_setCrossOf_0 {p : Program} {l : Launch} {e : Env} {s : State} {m : MethodId} {args : Array Value} {below : List Frame} {meth : Method} {c : Code} {D : va_G} {A : Nat → Prop} {ad : Nat → Nat} {cI cJ cG : ClassId} {res : SI × SJ} (X : Cx p s m args meth c bK_setCrossOf none 4 RK) (hK : va_K D vwCl (tysM cI cJ cG) s) (hN : NWs s) (hA : ∀ q, s.heap.size ≤ q → A q)
    {k2 : Int32 → Int32 → Int32 → SI → SJ → Option (SI × SJ)} (hk2 : ∀ (x1 : Int32) (x2 : Int32) (x3 : Int32) (I : SI) (J : SJ), k2 x1 x2 x3 I J = some res → WB p l e (headSpec (Cond.code yK_setCrossOf bK_setCrossOf 4 none :: gtb) rm_K_setCrossOf).room s m args below meth c (MQ below (va_Qv (fun (u : SI × SJ) => u = res) (atW D vwCl (tysM cI cJ cG) A (wsM ad cI cJ cG)) A) args s 0 0 A) D vwCl A 4 (wsM ad cI cJ cG I J) 2 [(0, .ref (ad 19)), (1, .int x1), (2, .int x2), (3, .int x3)] [])
     (x1 : Int32) (x2 : Int32) (I : SI) (J : SJ) (hm : b_K_setCrossOf_0 k2 x1 x2 I J = some res) : WB p l e (headSpec (Cond.code yK_setCrossOf bK_setCrossOf 4 none :: gtb) rm_K_setCrossOf).room s m args below meth c (MQ below (va_Qv (fun (u : SI × SJ) => u = res) (atW D vwCl (tysM cI cJ cG) A (wsM ad cI cJ cG)) A) args s 0 0 A) D vwCl A 4 (wsM ad cI cJ cG I J) 0 [(0, .ref (ad 19)), (1, .int x1), (2, .int x2)] [] := by
  obtain ⟨hx, hb, hr, hml, hown, hT, hlk⟩ := X
  intro H locs ls hP hD hS hl
  unfold b_K_setCrossOf_0 at hm
  refine lv_iconst (v := 0) hx hb dK_setCrossOf_0 (by decide) ?_
  refine lv_istore_n (lv' := [(3, .int 0), (0, .ref (ad 19)), (1, .int x1), (2, .int x2)]) hx hb dK_setCrossOf_1 rfl hl (by decide) rfl (fun ls hl => ?_)
  exact hk2 x1 x2 0 I J hm _ _ _ hP hD hS (lv_sub hl [1, 2, 3, 0] rfl)
set_option maxHeartbeats 4000000 in
theorem gw_K_setCrossOf {p : Program} {l : Launch} {e : Env} {s : State} {m : MethodId} {args : Array Value} {below : List Frame} {meth : Method} {c : Code} {D : va_G} {A : Nat → Prop} {ad : Nat → Nat} {cI cJ cG : ClassId} {res : SI × SJ} (X : Cx p s m args meth c bK_setCrossOf none 4 RK) (hK : va_K D vwCl (tysM cI cJ cG) s) (hN : NWs s) (hA : ∀ q, s.heap.size ≤ q → A q) : ∀ n : Nat, (∀ (x1 : Int32) (x2 : Int32) (x3 : Int32) (I : SI) (J : SJ), (g_K_setCrossOf n) x1 x2 x3 I J = some res → WB p l e (headSpec (Cond.code yK_setCrossOf bK_setCrossOf 4 none :: gtb) rm_K_setCrossOf).room s m args below meth c (MQ below (va_Qv (fun (u : SI × SJ) => u = res) (atW D vwCl (tysM cI cJ cG) A (wsM ad cI cJ cG)) A) args s 0 0 A) D vwCl A 4 (wsM ad cI cJ cG I J) 2 [(0, .ref (ad 19)), (1, .int x1), (2, .int x2), (3, .int x3)] []) := by
  intro n
  induction n with
  | zero => exact fun _ _ _ _ _ h => (by cases h)
  | succ n ih =>
    have ih2 := ih
    exact fun x1 x2 x3 I J h => w_K_setCrossOf_2 X hK hN hA ih2 x1 x2 x3 I J h
set_option maxHeartbeats 4000000 in
set_option maxRecDepth 100000 in
theorem c_K_setCrossOf (l : Launch) (D : va_G) (ad : Nat → Nat) (cI cJ cG : ClassId) (sz : Nat) (x1 : Int32) (x2 : Int32) (I : SI) (J : SJ) (res : SI × SJ) (hm : m_K_setCrossOf x1 x2 I J = some res) : Met l yK_setCrossOf (Cond.code yK_setCrossOf bK_setCrossOf 4 none :: gtb) rm_K_setCrossOf (va_Pc [.ref (ad 19), .int x1, .int x2] (preW D vwCl (tysM cI cJ cG) (wsM ad cI cJ cG I J) sz)) (va_Qv (fun (u : SI × SJ) => u = res) (atW D vwCl (tysM cI cJ cG) (va_A (wsM ad cI cJ cG I J) sz) (wsM ad cI cJ cG)) (va_A (wsM ad cI cJ cG I J) sz)) 0 0 (va_A (wsM ad cI cJ cG I J) sz) := by
  refine Met.ofW (cc := bK_setCrossOf) (maxL := 4) (ret := none) (by decide) rfl ?_
  intro p e s m args below meth c s₁ B hml hv
  obtain ⟨rfl, hsz, hP, hK, hD0, hN⟩ := hv
  subst hsz
  have X : Cx p s m [.ref (ad 19), .int x1, .int x2].toArray meth c bK_setCrossOf none 4 RK := ⟨B.exec, B.bytes, B.returns, hml, findClass_of_methodNamed B.named, fun w h => atoms_spec (ws := (Cond.code yK_setCrossOf bK_setCrossOf 4 none :: gtb)) B.pre w (List.mem_cons_of_mem _ h), B.notSynchronized⟩
  have hl := lv_entry ([.ref (ad 19), .int x1, .int x2]) (n := 4) (Nat.le_of_ble_eq_true rfl)
  rw [lg_entry_eq]
  generalize (lg_sl ([.ref (ad 19), .int x1, .int x2]) ++ List.replicate (4 - (lg_sl ([.ref (ad 19), .int x1, .int x2])).length) Slot.unset).toArray = ls at hl ⊢
  have hl : lv_has ls 4 [(0, .ref (ad 19)), (1, .int x1), (2, .int x2)] := hl
  have hA : ∀ q, s.heap.size ≤ q → va_A (wsM ad cI cJ cG I J) s.heap.size q := fun q h => Or.inr h
  exact w_K_setCrossOf_0 X hK hN hA (gw_K_setCrossOf X hK hN hA fuel) x1 x2 I J hm _ _ _ hP hD0.self va_S.rf hl
def b_K_isCorner_100 (k136 : Int32 → Int32 → Int32 → Nat → Nat → Nat → Int32 → Int64 → Int32 → SI → SJ → Option (Int32 × SI × SJ)) (x1 : Int32) (x2 : Int32) (x3 : Int32) (j4 : Nat) (j5 : Nat) (j6 : Nat) (x7 : Int64) (k0 : Int32) (I : SI) (J : SJ) : Option (Int32 × SI × SJ) :=
  gd (j4 < 7) <|
  gd (j5 < 7) <|
  gd (j6 < 7) <|
  nm (Int32.toInt64 k0) fun v1 =>
  nm (v1 * x7) fun v2 =>
  nm (va_up J 32 (vp_updL (J 32) 2 v2)) fun J3 =>
  nm (Int32.toInt64 (I 12 2)) fun v4 =>
  nm (v4 * (J3 32 2)) fun v5 =>
  k136 x1 x2 x3 j4 j5 j6 k0 v5 0 I J3
def b_K_isCorner_136 (k136 : Int32 → Int32 → Int32 → Nat → Nat → Nat → Int32 → Int64 → Int32 → SI → SJ → Option (Int32 × SI × SJ)) (k269 : Int32 → SI → SJ → Option (Int32 × SI × SJ)) (x1 : Int32) (x2 : Int32) (x3 : Int32) (j4 : Nat) (j5 : Nat) (j6 : Nat) (x9 : Int32) (x10 : Int64) (x12 : Int32) (I : SI) (J : SJ) : Option (Int32 × SI × SJ) :=
  gd (j4 < 7) <|
  gd (j5 < 7) <|
  gd (j6 < 7) <|
  if 3 ≤ x12 then
    gd (vin 3 4) <|
    nm (va_up J 33 (vp_updL (J 33) (Int32.toNatClampNeg 3) x10)) fun J3 =>
    k269 3 I J3
  else
    gd (vin x1 14) <|
    nm (I 30 x1.toNatClampNeg) fun v5 =>
    nm (Int32.toInt64 v5) fun v6 =>
    cl3 (m_K_cross (22 + j5) (22 + j6) x12 I J) fun r7 I8 J9 =>
    nm (v6 * r7) fun v11 =>
    gd (vin x2 14) <|
    nm (I8 30 x2.toNatClampNeg) fun v13 =>
    nm (Int32.toInt64 v13) fun v14 =>
    cl3 (m_K_cross (22 + j6) (22 + j4) x12 I8 J9) fun r15 I16 J17 =>
    nm (v14 * r15) fun v19 =>
    nm (v11 + v19) fun v20 =>
    gd (vin x3 14) <|
    nm (I16 30 x3.toNatClampNeg) fun v22 =>
    nm (Int32.toInt64 v22) fun v23 =>
    gd (vin x12 3) <|
    nm (J17 31 x12.toNatClampNeg) fun v25 =>
    nm (v23 * v25) fun v26 =>
    nm (v20 + v26) fun v27 =>
    nm (Int32.toInt64 x9) fun v28 =>
    nm (v28 * v27) fun v29 =>
    cl3 (m_L_allow x12 v29 (J17 32 2) I16 J17) fun r30 I31 J32 =>
    if r30 = 0 then
      some (0, I31, J32)
    else
      nm (Int32.toInt64 x9) fun v35 =>
      nm (v35 * v27) fun v36 =>
      gd (vin x12 4) <|
      nm (va_up J32 33 (vp_updL (J32 33) x12.toNatClampNeg v36)) fun J38 =>
      nm (Int32.toInt64 x9) fun v39 =>
      nm (v39 * v27) fun v40 =>
      nm (x10 - v40) fun v41 =>
      nm (x12 + 1) fun v42 =>
      k136 x1 x2 x3 j4 j5 j6 x9 v41 v42 I31 J38
def b_K_isCorner_269 (k269 : Int32 → SI → SJ → Option (Int32 × SI × SJ)) (x12 : Int32) (I : SI) (J : SJ) : Option (Int32 × SI × SJ) :=
  if 7 ≤ x12 then
    some (1, I, J)
  else
    cl3 (m_L_allOf x12 32 I J) fun r2 I3 J4 =>
    cl3 (m_L_allow x12 r2 (J4 32 2) I3 J4) fun r6 I7 J8 =>
    if r6 = 0 then
      some (0, I7, J8)
    else
      nm (x12 + 1) fun v11 =>
      k269 v11 I7 J8
def b_K_isCorner_0 (k100 : Int32 → Int32 → Int32 → Nat → Nat → Nat → Int64 → Int32 → SI → SJ → Option (Int32 × SI × SJ)) (x1 : Int32) (x2 : Int32) (x3 : Int32) (I : SI) (J : SJ) : Option (Int32 × SI × SJ) :=
  gd (vin x1 14) <|
  nm (I 29 x1.toNatClampNeg) fun v2 =>
  gd (vin v2 7) <|
  gd (vin x2 14) <|
  nm (I 29 x2.toNatClampNeg) fun v5 =>
  gd (vin v5 7) <|
  gd (vin x3 14) <|
  nm (I 29 x3.toNatClampNeg) fun v8 =>
  gd (vin v8 7) <|
  gd (vin 0 3) <|
  nm (J 31 (Int32.toNatClampNeg 0)) fun v11 =>
  gd (vin 0 3) <|
  nm (I (22 + v8.toNatClampNeg) (Int32.toNatClampNeg 0)) fun v13 =>
  nm (Int32.toInt64 v13) fun v14 =>
  nm (v11 * v14) fun v15 =>
  gd (vin 1 3) <|
  nm (J 31 (Int32.toNatClampNeg 1)) fun v17 =>
  gd (vin 1 3) <|
  nm (I (22 + v8.toNatClampNeg) (Int32.toNatClampNeg 1)) fun v19 =>
  nm (Int32.toInt64 v19) fun v20 =>
  nm (v17 * v20) fun v21 =>
  nm (v15 + v21) fun v22 =>
  gd (vin 2 3) <|
  nm (J 31 (Int32.toNatClampNeg 2)) fun v24 =>
  gd (vin 2 3) <|
  nm (I (22 + v8.toNatClampNeg) (Int32.toNatClampNeg 2)) fun v26 =>
  nm (Int32.toInt64 v26) fun v27 =>
  nm (v24 * v27) fun v28 =>
  nm (v22 + v28) fun v29 =>
  nm (lg_cmp v29 0) fun v30 =>
  if v30 = 0 then
    some (0, I, J)
  else
    nm (lg_cmp v29 0) fun v32 =>
    if 0 ≤ v32 then
      k100 x1 x2 x3 v2.toNatClampNeg v5.toNatClampNeg v8.toNatClampNeg v29 1 I J
    else
      k100 x1 x2 x3 v2.toNatClampNeg v5.toNatClampNeg v8.toNatClampNeg v29 (-1) I J
def g_K_isCorner : Nat → (Int32 → Int32 → Int32 → Nat → Nat → Nat → Int64 → Int32 → SI → SJ → Option (Int32 × SI × SJ)) × (Int32 → Int32 → Int32 → Nat → Nat → Nat → Int32 → Int64 → Int32 → SI → SJ → Option (Int32 × SI × SJ)) × (Int32 → SI → SJ → Option (Int32 × SI × SJ))
  | 0 => (fun _ _ _ _ _ _ _ _ _ _ => none, fun _ _ _ _ _ _ _ _ _ _ _ => none, fun _ _ _ => none)
  | n + 1 => (fun x1 x2 x3 j4 j5 j6 x7 k0 I J => b_K_isCorner_100 (g_K_isCorner n).2.1 x1 x2 x3 j4 j5 j6 x7 k0 I J, fun x1 x2 x3 j4 j5 j6 x9 x10 x12 I J => b_K_isCorner_136 (g_K_isCorner n).2.1 (g_K_isCorner n).2.2 x1 x2 x3 j4 j5 j6 x9 x10 x12 I J, fun x12 I J => b_K_isCorner_269 (g_K_isCorner n).2.2 x12 I J)
def m_K_isCorner (x1 : Int32) (x2 : Int32) (x3 : Int32) (I : SI) (J : SJ) : Option (Int32 × SI × SJ) := b_K_isCorner_0 (g_K_isCorner fuel).1 x1 x2 x3 I J
def rm_K_isCorner : Room := { frames := 2, cells := 0, slots := 0, locals := 43 }
set_option maxHeartbeats 4000000 in
set_option maxRecDepth 100000 in
theorem w_K_isCorner_100 {p : Program} {l : Launch} {e : Env} {s : State} {m : MethodId} {args : Array Value} {below : List Frame} {meth : Method} {c : Code} {D : va_G} {A : Nat → Prop} {ad : Nat → Nat} {cI cJ cG : ClassId} {res : Int32 × SI × SJ} (X : Cx p s m args meth c bK_isCorner (some .boolean) 15 RK) (hK : va_K D vwCl (tysM cI cJ cG) s) (hN : NWs s) (hA : ∀ q, s.heap.size ≤ q → A q)
    {k136 : Int32 → Int32 → Int32 → Nat → Nat → Nat → Int32 → Int64 → Int32 → SI → SJ → Option (Int32 × SI × SJ)} (hk136 : ∀ (x1 : Int32) (x2 : Int32) (x3 : Int32) (j4 : Nat) (j5 : Nat) (j6 : Nat) (x9 : Int32) (x10 : Int64) (x12 : Int32) (I : SI) (J : SJ), k136 x1 x2 x3 j4 j5 j6 x9 x10 x12 I J = some res → WB p l e (headSpec (Cond.code yK_isCorner bK_isCorner 15 (some .boolean) :: gtb) rm_K_isCorner).room s m args below meth c (MQ below (va_Qi (fun (r : Int32) (u : SI × SJ) => (r, u) = res) (atW D vwCl (tysM cI cJ cG) A (wsM ad cI cJ cG)) A) args s 0 0 A) D vwCl A 15 (wsM ad cI cJ cG I J) 136 [(0, .ref (ad 19)), (1, .int x1), (2, .int x2), (3, .int x3), (4, .ref (ad (22 + j4))), (5, .ref (ad (22 + j5))), (6, .ref (ad (22 + j6))), (9, .int x9), (10, .long x10), (12, .int x12)] [])
     (x1 : Int32) (x2 : Int32) (x3 : Int32) (j4 : Nat) (j5 : Nat) (j6 : Nat) (x7 : Int64) (k0 : Int32) (I : SI) (J : SJ) (hm : b_K_isCorner_100 k136 x1 x2 x3 j4 j5 j6 x7 k0 I J = some res) : WB p l e (headSpec (Cond.code yK_isCorner bK_isCorner 15 (some .boolean) :: gtb) rm_K_isCorner).room s m args below meth c (MQ below (va_Qi (fun (r : Int32) (u : SI × SJ) => (r, u) = res) (atW D vwCl (tysM cI cJ cG) A (wsM ad cI cJ cG)) A) args s 0 0 A) D vwCl A 15 (wsM ad cI cJ cG I J) 100 [(0, .ref (ad 19)), (1, .int x1), (2, .int x2), (3, .int x3), (4, .ref (ad (22 + j4))), (5, .ref (ad (22 + j5))), (6, .ref (ad (22 + j6))), (7, .long x7)] [.int k0] := by
  obtain ⟨hx, hb, hr, hml, hown, hT, hlk⟩ := X
  intro H locs ls hP hD hS hl
  unfold b_K_isCorner_100 at hm
  obtain ⟨hr_j4, hm⟩ := gd_to hm
  obtain ⟨hr_j5, hm⟩ := gd_to hm
  obtain ⟨hr_j6, hm⟩ := gd_to hm
  refine lv_istore (lv' := [(9, .int k0), (0, .ref (ad 19)), (1, .int x1), (2, .int x2), (3, .int x3), (4, .ref (ad (22 + j4))), (5, .ref (ad (22 + j5))), (6, .ref (ad (22 + j6))), (7, .long x7)]) hx hb dK_isCorner_100 hl (by decide) rfl (fun ls hl => ?_)
  refine lv_aload_n hx hb dK_isCorner_102 rfl (lv_at hl 1 rfl) ?_
  refine va_get (D := D) (ci := 0) (v := .ref (ad 32)) (C := RK) (T := TK) (N := 10) hx hb hT inK hown hK hP 19 rfl rfl 9 (by decide) (hT _ wd_208) (fun _ h9 => h9) rfl dK_isCorner_103 ?_
  refine lv_iload hx hb dK_isCorner_106 (lv_at hl 0 rfl) ?_
  refine lv_i2l hx hb dK_isCorner_108 rfl ?_
  refine lv_topl (fun v1 ev1 => ?_)
  have hm := nm_to ev1 hm
  refine lv_lload hx hb dK_isCorner_109 (lv_at hl 8 rfl) ?_
  refine lv_lmul hx hb dK_isCorner_111 ?_
  refine lv_topl (fun v2 ev2 => ?_)
  have hm := nm_to ev2 hm
  refine va_putN (D := D) (ci := 2) (v := .long v2) (ty := .long) (C := RX) (T := TX) (N := 3) hx hb hT inX tyX okX nmX hown hK hP hD hS 32 rfl rfl 2 (by decide) (va_Nw.use rfl (hN _ nw_190)) (fun _ h9 => h9) rfl pf_J rfl rfl (Nat.le_of_ble_eq_true rfl) dK_isCorner_112 (fun H locs hP hD hS => ?_)
  obtain ⟨J3, eJ3⟩ : ∃ z : SJ, z = va_up J 32 (vp_updL (J 32) 2 v2) := ⟨_, rfl⟩
  have hm := nm_to eJ3 hm
  have hP := P_eq (ws2 := wsM ad cI cJ cG I J3) hP (by rw [eJ3]; rfl)
  have hD := D_eq (ws2 := wsM ad cI cJ cG I J3) hD (by rw [eJ3]; rfl)
  refine lv_aload_n hx hb dK_isCorner_115 rfl (lv_at hl 1 rfl) ?_
  refine va_get (D := D) (ci := 0) (v := .ref (ad 12)) (C := RK) (T := TK) (N := 10) hx hb hT inK hown hK hP 19 rfl rfl 1 (by decide) (hT _ wd_200) (fun _ h9 => h9) rfl dK_isCorner_116 ?_
  refine va_getN (D := D) (ci := 1) (v := .int (I 12 2)) (C := RL) (T := TL) (N := 7) hx hb hT inL hown hK hP 12 rfl rfl 2 (by decide) (va_Nw.use rfl (hN _ nw_141)) (fun _ h9 => h9) rfl dK_isCorner_119 ?_
  refine lv_i2l hx hb dK_isCorner_122 rfl ?_
  refine lv_topl (fun v4 ev4 => ?_)
  have hm := nm_to ev4 hm
  refine lv_aload_n hx hb dK_isCorner_123 rfl (lv_at hl 1 rfl) ?_
  refine va_get (D := D) (ci := 0) (v := .ref (ad 32)) (C := RK) (T := TK) (N := 10) hx hb hT inK hown hK hP 19 rfl rfl 9 (by decide) (hT _ wd_208) (fun _ h9 => h9) rfl dK_isCorner_124 ?_
  refine va_getN (D := D) (ci := 2) (v := .long (J3 32 2)) (C := RX) (T := TX) (N := 3) hx hb hT inX hown hK hP 32 rfl rfl 2 (by decide) (va_Nw.use rfl (hN _ nw_190)) (fun _ h9 => h9) rfl dK_isCorner_127 ?_
  refine lv_lmul hx hb dK_isCorner_130 ?_
  refine lv_topl (fun v5 ev5 => ?_)
  have hm := nm_to ev5 hm
  refine lv_lstore (lv' := [(10, .long v5), (9, .int k0), (0, .ref (ad 19)), (1, .int x1), (2, .int x2), (3, .int x3), (4, .ref (ad (22 + j4))), (5, .ref (ad (22 + j5))), (6, .ref (ad (22 + j6))), (7, .long x7)]) hx hb dK_isCorner_131 hl (by decide) rfl (fun ls hl => ?_)
  refine lv_iconst (v := 0) hx hb dK_isCorner_133 (by decide) ?_
  refine lv_istore (lv' := [(12, .int 0), (10, .long v5), (9, .int k0), (0, .ref (ad 19)), (1, .int x1), (2, .int x2), (3, .int x3), (4, .ref (ad (22 + j4))), (5, .ref (ad (22 + j5))), (6, .ref (ad (22 + j6))), (7, .long x7)]) hx hb dK_isCorner_134 hl (by decide) rfl (fun ls hl => ?_)
  exact hk136 x1 x2 x3 j4 j5 j6 k0 v5 0 I J3 hm _ _ _ hP hD hS (lv_sub hl [3, 4, 5, 6, 7, 8, 9, 2, 1, 0] rfl)
set_option maxHeartbeats 4000000 in
set_option maxRecDepth 100000 in
theorem w_K_isCorner_136 {p : Program} {l : Launch} {e : Env} {s : State} {m : MethodId} {args : Array Value} {below : List Frame} {meth : Method} {c : Code} {D : va_G} {A : Nat → Prop} {ad : Nat → Nat} {cI cJ cG : ClassId} {res : Int32 × SI × SJ} (X : Cx p s m args meth c bK_isCorner (some .boolean) 15 RK) (hK : va_K D vwCl (tysM cI cJ cG) s) (hN : NWs s) (hA : ∀ q, s.heap.size ≤ q → A q)
    {k136 : Int32 → Int32 → Int32 → Nat → Nat → Nat → Int32 → Int64 → Int32 → SI → SJ → Option (Int32 × SI × SJ)} (hk136 : ∀ (x1 : Int32) (x2 : Int32) (x3 : Int32) (j4 : Nat) (j5 : Nat) (j6 : Nat) (x9 : Int32) (x10 : Int64) (x12 : Int32) (I : SI) (J : SJ), k136 x1 x2 x3 j4 j5 j6 x9 x10 x12 I J = some res → WB p l e (headSpec (Cond.code yK_isCorner bK_isCorner 15 (some .boolean) :: gtb) rm_K_isCorner).room s m args below meth c (MQ below (va_Qi (fun (r : Int32) (u : SI × SJ) => (r, u) = res) (atW D vwCl (tysM cI cJ cG) A (wsM ad cI cJ cG)) A) args s 0 0 A) D vwCl A 15 (wsM ad cI cJ cG I J) 136 [(0, .ref (ad 19)), (1, .int x1), (2, .int x2), (3, .int x3), (4, .ref (ad (22 + j4))), (5, .ref (ad (22 + j5))), (6, .ref (ad (22 + j6))), (9, .int x9), (10, .long x10), (12, .int x12)] [])
    {k269 : Int32 → SI → SJ → Option (Int32 × SI × SJ)} (hk269 : ∀ (x12 : Int32) (I : SI) (J : SJ), k269 x12 I J = some res → WB p l e (headSpec (Cond.code yK_isCorner bK_isCorner 15 (some .boolean) :: gtb) rm_K_isCorner).room s m args below meth c (MQ below (va_Qi (fun (r : Int32) (u : SI × SJ) => (r, u) = res) (atW D vwCl (tysM cI cJ cG) A (wsM ad cI cJ cG)) A) args s 0 0 A) D vwCl A 15 (wsM ad cI cJ cG I J) 269 [(0, .ref (ad 19)), (12, .int x12)] [])
     (x1 : Int32) (x2 : Int32) (x3 : Int32) (j4 : Nat) (j5 : Nat) (j6 : Nat) (x9 : Int32) (x10 : Int64) (x12 : Int32) (I : SI) (J : SJ) (hm : b_K_isCorner_136 k136 k269 x1 x2 x3 j4 j5 j6 x9 x10 x12 I J = some res) : WB p l e (headSpec (Cond.code yK_isCorner bK_isCorner 15 (some .boolean) :: gtb) rm_K_isCorner).room s m args below meth c (MQ below (va_Qi (fun (r : Int32) (u : SI × SJ) => (r, u) = res) (atW D vwCl (tysM cI cJ cG) A (wsM ad cI cJ cG)) A) args s 0 0 A) D vwCl A 15 (wsM ad cI cJ cG I J) 136 [(0, .ref (ad 19)), (1, .int x1), (2, .int x2), (3, .int x3), (4, .ref (ad (22 + j4))), (5, .ref (ad (22 + j5))), (6, .ref (ad (22 + j6))), (9, .int x9), (10, .long x10), (12, .int x12)] [] := by
  obtain ⟨hx, hb, hr, hml, hown, hT, hlk⟩ := X
  intro H locs ls hP hD hS hl
  unfold b_K_isCorner_136 at hm
  obtain ⟨hr_j4, hm⟩ := gd_to hm
  obtain ⟨hr_j5, hm⟩ := gd_to hm
  obtain ⟨hr_j6, hm⟩ := gd_to hm
  refine lv_iload hx hb dK_isCorner_136 (lv_at hl 9 rfl) ?_
  refine lv_iconst (v := 3) hx hb dK_isCorner_138 (by decide) ?_
  refine lv_icmp_ge (tgt := 255) hx hb dK_isCorner_139 (by decide) (fun c1 => ?_) (fun c1 => ?_)
  · have hm := brp hm c1
    refine lv_aload_n hx hb dK_isCorner_255 rfl (lv_at hl 0 rfl) ?_
    refine va_get (D := D) (ci := 0) (v := .ref (ad 32)) (C := RK) (T := TK) (N := 10) hx hb hT inK hown hK hP 19 rfl rfl 9 (by decide) (hT _ wd_208) (fun _ h9 => h9) rfl dK_isCorner_256 ?_
    refine va_getN (D := D) (ci := 2) (v := .ref (ad 33)) (C := RX) (T := TX) (N := 3) hx hb hT inX hown hK hP 32 rfl rfl 0 (by decide) (va_Nw.use rfl (hN _ nw_182)) (fun _ h9 => h9) rfl dK_isCorner_259 ?_
    refine lv_iconst (v := 3) hx hb dK_isCorner_262 (by decide) ?_
    refine lv_lload hx hb dK_isCorner_263 (lv_at hl 8 rfl) ?_
    obtain ⟨g2, hm⟩ := gd_to hm
    refine va_last hx hb hK hP hD hS 33 1 rfl rfl g2 dK_isCorner_265 (fun H locs hP hD hS => ?_)
    obtain ⟨J3, eJ3⟩ : ∃ z : SJ, z = va_up J 33 (vp_updL (J 33) (Int32.toNatClampNeg 3) x10) := ⟨_, rfl⟩
    have hm := nm_to eJ3 hm
    have hP := P_eq (ws2 := wsM ad cI cJ cG I J3) hP (by rw [eJ3]; rfl)
    have hD := D_eq (ws2 := wsM ad cI cJ cG I J3) hD (by rw [eJ3]; rfl)
    refine lv_iconst (v := 3) hx hb dK_isCorner_266 (by decide) ?_
    refine lv_istore (lv' := [(12, .int 3), (0, .ref (ad 19)), (1, .int x1), (2, .int x2), (3, .int x3), (4, .ref (ad (22 + j4))), (5, .ref (ad (22 + j5))), (6, .ref (ad (22 + j6))), (9, .int x9), (10, .long x10)]) hx hb dK_isCorner_267 hl (by decide) rfl (fun ls hl => ?_)
    exact hk269 3 I J3 hm _ _ _ hP hD hS (lv_sub hl [1, 0] rfl)
  · have hm := brn hm c1
    refine lv_aload_n hx hb dK_isCorner_142 rfl (lv_at hl 0 rfl) ?_
    refine va_get (D := D) (ci := 0) (v := .ref (ad 30)) (C := RK) (T := TK) (N := 10) hx hb hT inK hown hK hP 19 rfl rfl 5 (by decide) (hT _ wd_204) (fun _ h9 => h9) rfl dK_isCorner_143 ?_
    refine lv_iload_n hx hb dK_isCorner_146 rfl (lv_at hl 1 rfl) ?_
    obtain ⟨g4, hm⟩ := gd_to hm
    refine va_iald hx hb hK hP 30 0 rfl rfl g4 dK_isCorner_147 ?_
    refine lv_topi (fun v5 ev5 => ?_)
    have hm := nm_to ev5 hm
    refine lv_i2l hx hb dK_isCorner_148 rfl ?_
    refine lv_topl (fun v6 ev6 => ?_)
    have hm := nm_to ev6 hm
    refine lv_aload hx hb dK_isCorner_149 (lv_at hl 5 rfl) ?_
    refine lv_aload hx hb dK_isCorner_151 (lv_at hl 6 rfl) ?_
    refine lv_iload hx hb dK_isCorner_153 (lv_at hl 9 rfl) ?_
    obtain ⟨r7, I8, J9, hc10, hm⟩ := cl3_to hm
    refine pst_l (wf := wsM ad cI cJ cG) hD hS hA (va_runS (As := [.ref (ad (22 + j5)), .ref (ad (22 + j6)), .int x12]) (rest := [.long v6]) ⟨hx, hb, hml, hown, hT⟩ (c_K_cross l D ad cI cJ cG _ (22 + j5) (22 + j6) x12 I J _ hc10) (va_cwS 3 hT (gS wd_424 wd_425 wd_55 wd_426) rfl rfl rfl (by decide +kernel) ⟨Nat.le_of_ble_eq_true rfl, Nat.le_of_ble_eq_true rfl⟩) ⟨preW_fb, preW_at hP hK hN hD⟩ rfl rfl hl.1 rfl (lv_room (Nat.le_of_ble_eq_true rfl)) dK_isCorner_155 ⟨Nat.zero_le _, Nat.zero_le _⟩) (fun H locs hP hD hS => ?_)
    refine lv_lmul hx hb dK_isCorner_158 ?_
    refine lv_topl (fun v11 ev11 => ?_)
    have hm := nm_to ev11 hm
    refine lv_aload_n hx hb dK_isCorner_159 rfl (lv_at hl 0 rfl) ?_
    refine va_get (D := D) (ci := 0) (v := .ref (ad 30)) (C := RK) (T := TK) (N := 10) hx hb hT inK hown hK hP 19 rfl rfl 5 (by decide) (hT _ wd_204) (fun _ h9 => h9) rfl dK_isCorner_160 ?_
    refine lv_iload_n hx hb dK_isCorner_163 rfl (lv_at hl 2 rfl) ?_
    obtain ⟨g12, hm⟩ := gd_to hm
    refine va_iald hx hb hK hP 30 0 rfl rfl g12 dK_isCorner_164 ?_
    refine lv_topi (fun v13 ev13 => ?_)
    have hm := nm_to ev13 hm
    refine lv_i2l hx hb dK_isCorner_165 rfl ?_
    refine lv_topl (fun v14 ev14 => ?_)
    have hm := nm_to ev14 hm
    refine lv_aload hx hb dK_isCorner_166 (lv_at hl 6 rfl) ?_
    refine lv_aload hx hb dK_isCorner_168 (lv_at hl 4 rfl) ?_
    refine lv_iload hx hb dK_isCorner_170 (lv_at hl 9 rfl) ?_
    obtain ⟨r15, I16, J17, hc18, hm⟩ := cl3_to hm
    refine pst_l (wf := wsM ad cI cJ cG) hD hS hA (va_runS (As := [.ref (ad (22 + j6)), .ref (ad (22 + j4)), .int x12]) (rest := [.long v14, .long v11]) ⟨hx, hb, hml, hown, hT⟩ (c_K_cross l D ad cI cJ cG _ (22 + j6) (22 + j4) x12 I8 J9 _ hc18) (va_cwS 3 hT (gS wd_424 wd_425 wd_55 wd_426) rfl rfl rfl (by decide +kernel) ⟨Nat.le_of_ble_eq_true rfl, Nat.le_of_ble_eq_true rfl⟩) ⟨preW_fb, preW_at hP hK hN hD⟩ rfl rfl hl.1 rfl (lv_room (Nat.le_of_ble_eq_true rfl)) dK_isCorner_172 ⟨Nat.zero_le _, Nat.zero_le _⟩) (fun H locs hP hD hS => ?_)
    refine lv_lmul hx hb dK_isCorner_175 ?_
    refine lv_topl (fun v19 ev19 => ?_)
    have hm := nm_to ev19 hm
    refine lv_ladd hx hb dK_isCorner_176 ?_
    refine lv_topl (fun v20 ev20 => ?_)
    have hm := nm_to ev20 hm
    refine lv_aload_n hx hb dK_isCorner_177 rfl (lv_at hl 0 rfl) ?_
    refine va_get (D := D) (ci := 0) (v := .ref (ad 30)) (C := RK) (T := TK) (N := 10) hx hb hT inK hown hK hP 19 rfl rfl 5 (by decide) (hT _ wd_204) (fun _ h9 => h9) rfl dK_isCorner_178 ?_
    refine lv_iload_n hx hb dK_isCorner_181 rfl (lv_at hl 3 rfl) ?_
    obtain ⟨g21, hm⟩ := gd_to hm
    refine va_iald hx hb hK hP 30 0 rfl rfl g21 dK_isCorner_182 ?_
    refine lv_topi (fun v22 ev22 => ?_)
    have hm := nm_to ev22 hm
    refine lv_i2l hx hb dK_isCorner_183 rfl ?_
    refine lv_topl (fun v23 ev23 => ?_)
    have hm := nm_to ev23 hm
    refine lv_aload_n hx hb dK_isCorner_184 rfl (lv_at hl 0 rfl) ?_
    refine va_get (D := D) (ci := 0) (v := .ref (ad 31)) (C := RK) (T := TK) (N := 10) hx hb hT inK hown hK hP 19 rfl rfl 8 (by decide) (hT _ wd_207) (fun _ h9 => h9) rfl dK_isCorner_185 ?_
    refine lv_iload hx hb dK_isCorner_188 (lv_at hl 9 rfl) ?_
    obtain ⟨g24, hm⟩ := gd_to hm
    refine va_lald hx hb hK hP 31 1 rfl rfl g24 dK_isCorner_190 ?_
    refine lv_topl (fun v25 ev25 => ?_)
    have hm := nm_to ev25 hm
    refine lv_lmul hx hb dK_isCorner_191 ?_
    refine lv_topl (fun v26 ev26 => ?_)
    have hm := nm_to ev26 hm
    refine lv_ladd hx hb dK_isCorner_192 ?_
    refine lv_topl (fun v27 ev27 => ?_)
    have hm := nm_to ev27 hm
    refine lv_lstore (lv' := [(13, .long v27), (0, .ref (ad 19)), (1, .int x1), (2, .int x2), (3, .int x3), (4, .ref (ad (22 + j4))), (5, .ref (ad (22 + j5))), (6, .ref (ad (22 + j6))), (9, .int x9), (10, .long x10), (12, .int x12)]) hx hb dK_isCorner_193 hl (by decide) rfl (fun ls hl => ?_)
    refine lv_aload_n hx hb dK_isCorner_195 rfl (lv_at hl 1 rfl) ?_
    refine va_get (D := D) (ci := 0) (v := .ref (ad 12)) (C := RK) (T := TK) (N := 10) hx hb hT inK hown hK hP 19 rfl rfl 1 (by decide) (hT _ wd_200) (fun _ h9 => h9) rfl dK_isCorner_196 ?_
    refine lv_iload hx hb dK_isCorner_199 (lv_at hl 10 rfl) ?_
    refine lv_iload hx hb dK_isCorner_201 (lv_at hl 8 rfl) ?_
    refine lv_i2l hx hb dK_isCorner_203 rfl ?_
    refine lv_topl (fun v28 ev28 => ?_)
    have hm := nm_to ev28 hm
    refine lv_lload hx hb dK_isCorner_204 (lv_at hl 0 rfl) ?_
    refine lv_lmul hx hb dK_isCorner_206 ?_
    refine lv_topl (fun v29 ev29 => ?_)
    have hm := nm_to ev29 hm
    refine lv_aload_n hx hb dK_isCorner_207 rfl (lv_at hl 1 rfl) ?_
    refine va_get (D := D) (ci := 0) (v := .ref (ad 32)) (C := RK) (T := TK) (N := 10) hx hb hT inK hown hK hP 19 rfl rfl 9 (by decide) (hT _ wd_208) (fun _ h9 => h9) rfl dK_isCorner_208 ?_
    refine va_getN (D := D) (ci := 2) (v := .long (J17 32 2)) (C := RX) (T := TX) (N := 3) hx hb hT inX hown hK hP 32 rfl rfl 2 (by decide) (va_Nw.use rfl (hN _ nw_190)) (fun _ h9 => h9) rfl dK_isCorner_211 ?_
    obtain ⟨r30, I31, J32, hc33, hm⟩ := cl3_to hm
    refine pst_i (wf := wsM ad cI cJ cG) hD hS hA (va_runVN (As := [.int x12, .long v29, .long (J17 32 2)]) (rest := []) ⟨hx, hb, hml, hown, hT⟩ (c_L_allow l D ad cI cJ cG _ x12 v29 (J17 32 2) I16 J17 _ hc33) ⟨va_cnB 3 hT (gtb_good wd_434) rfl rfl rfl (hN _ nw_431) (hT _ wd_54) (by decide +kernel) ⟨Nat.le_of_ble_eq_true rfl, Nat.le_of_ble_eq_true rfl⟩, hT _ wd_433, hT _ wd_21⟩ ⟨preW_fb, va_recv hK hP (ci := 1) (q0 := 12) rfl rfl, preW_at hP hK hN hD⟩ rfl rfl hl.1 rfl (lv_room (Nat.le_of_ble_eq_true rfl)) dK_isCorner_214 ⟨Nat.zero_le _, Nat.zero_le _⟩) (fun H locs hP hD hS => ?_)
    refine lv_if_ne (tgt := 222) hx hb dK_isCorner_217 (by decide) (fun c34 => ?_) (fun c34 => ?_)
    · have hm := brn hm c34
      refine lv_aload_n hx hb dK_isCorner_222 rfl (lv_at hl 1 rfl) ?_
      refine va_get (D := D) (ci := 0) (v := .ref (ad 32)) (C := RK) (T := TK) (N := 10) hx hb hT inK hown hK hP 19 rfl rfl 9 (by decide) (hT _ wd_208) (fun _ h9 => h9) rfl dK_isCorner_223 ?_
      refine va_getN (D := D) (ci := 2) (v := .ref (ad 33)) (C := RX) (T := TX) (N := 3) hx hb hT inX hown hK hP 32 rfl rfl 0 (by decide) (va_Nw.use rfl (hN _ nw_182)) (fun _ h9 => h9) rfl dK_isCorner_226 ?_
      refine lv_iload hx hb dK_isCorner_229 (lv_at hl 10 rfl) ?_
      refine lv_iload hx hb dK_isCorner_231 (lv_at hl 8 rfl) ?_
      refine lv_i2l hx hb dK_isCorner_233 rfl ?_
      refine lv_topl (fun v35 ev35 => ?_)
      have hm := nm_to ev35 hm
      refine lv_lload hx hb dK_isCorner_234 (lv_at hl 0 rfl) ?_
      refine lv_lmul hx hb dK_isCorner_236 ?_
      refine lv_topl (fun v36 ev36 => ?_)
      have hm := nm_to ev36 hm
      obtain ⟨g37, hm⟩ := gd_to hm
      refine va_last hx hb hK hP hD hS 33 1 rfl rfl g37 dK_isCorner_237 (fun H locs hP hD hS => ?_)
      obtain ⟨J38, eJ38⟩ : ∃ z : SJ, z = va_up J32 33 (vp_updL (J32 33) x12.toNatClampNeg v36) := ⟨_, rfl⟩
      have hm := nm_to eJ38 hm
      have hP := P_eq (ws2 := wsM ad cI cJ cG I31 J38) hP (by rw [eJ38]; rfl)
      have hD := D_eq (ws2 := wsM ad cI cJ cG I31 J38) hD (by rw [eJ38]; rfl)
      refine lv_lload hx hb dK_isCorner_238 (lv_at hl 9 rfl) ?_
      refine lv_iload hx hb dK_isCorner_240 (lv_at hl 8 rfl) ?_
      refine lv_i2l hx hb dK_isCorner_242 rfl ?_
      refine lv_topl (fun v39 ev39 => ?_)
      have hm := nm_to ev39 hm
      refine lv_lload hx hb dK_isCorner_243 (lv_at hl 0 rfl) ?_
      refine lv_lmul hx hb dK_isCorner_245 ?_
      refine lv_topl (fun v40 ev40 => ?_)
      have hm := nm_to ev40 hm
      refine lv_lsub hx hb dK_isCorner_246 ?_
      refine lv_topl (fun v41 ev41 => ?_)
      have hm := nm_to ev41 hm
      refine lv_lstore (lv' := [(10, .long v41), (13, .long v27), (0, .ref (ad 19)), (1, .int x1), (2, .int x2), (3, .int x3), (4, .ref (ad (22 + j4))), (5, .ref (ad (22 + j5))), (6, .ref (ad (22 + j6))), (9, .int x9), (12, .int x12)]) hx hb dK_isCorner_247 hl (by decide) rfl (fun ls hl => ?_)
      obtain ⟨v42, ev42⟩ : ∃ z : Int32, z = x12 + 1 := ⟨_, rfl⟩
      have hm := nm_to ev42 hm
      refine lv_iinc (v := v42) (lv' := [(12, .int v42), (10, .long v41), (13, .long v27), (0, .ref (ad 19)), (1, .int x1), (2, .int x2), (3, .int x3), (4, .ref (ad (22 + j4))), (5, .ref (ad (22 + j5))), (6, .ref (ad (22 + j6))), (9, .int x9)]) hx hb dK_isCorner_249 hl (k := 10) rfl (by rw [ev42]; rfl) (by decide) rfl (fun ls hl => ?_)
      refine lv_goto (tgt := 136) hx hb dK_isCorner_252 (by decide) ?_
      exact hk136 x1 x2 x3 j4 j5 j6 x9 v41 v42 I31 J38 hm _ _ _ hP hD hS (lv_sub hl [3, 4, 5, 6, 7, 8, 9, 10, 1, 0] rfl)
    · have hm := brp hm c34
      refine lv_iconst (v := 0) hx hb dK_isCorner_220 (by decide) ?_
      exact W.zret hx hb hr rfl (fun t ht hW => ⟨⟨0, (I31, J32), rfl, Option.some.inj hm, ht ▸ hP, va_K.moved hW.alike hK, hD⟩, hS.F ht⟩) hS.2.2 dK_isCorner_221 hlk
set_option maxHeartbeats 4000000 in
set_option maxRecDepth 100000 in
theorem w_K_isCorner_269 {p : Program} {l : Launch} {e : Env} {s : State} {m : MethodId} {args : Array Value} {below : List Frame} {meth : Method} {c : Code} {D : va_G} {A : Nat → Prop} {ad : Nat → Nat} {cI cJ cG : ClassId} {res : Int32 × SI × SJ} (X : Cx p s m args meth c bK_isCorner (some .boolean) 15 RK) (hK : va_K D vwCl (tysM cI cJ cG) s) (hN : NWs s) (hA : ∀ q, s.heap.size ≤ q → A q)
    {k269 : Int32 → SI → SJ → Option (Int32 × SI × SJ)} (hk269 : ∀ (x12 : Int32) (I : SI) (J : SJ), k269 x12 I J = some res → WB p l e (headSpec (Cond.code yK_isCorner bK_isCorner 15 (some .boolean) :: gtb) rm_K_isCorner).room s m args below meth c (MQ below (va_Qi (fun (r : Int32) (u : SI × SJ) => (r, u) = res) (atW D vwCl (tysM cI cJ cG) A (wsM ad cI cJ cG)) A) args s 0 0 A) D vwCl A 15 (wsM ad cI cJ cG I J) 269 [(0, .ref (ad 19)), (12, .int x12)] [])
     (x12 : Int32) (I : SI) (J : SJ) (hm : b_K_isCorner_269 k269 x12 I J = some res) : WB p l e (headSpec (Cond.code yK_isCorner bK_isCorner 15 (some .boolean) :: gtb) rm_K_isCorner).room s m args below meth c (MQ below (va_Qi (fun (r : Int32) (u : SI × SJ) => (r, u) = res) (atW D vwCl (tysM cI cJ cG) A (wsM ad cI cJ cG)) A) args s 0 0 A) D vwCl A 15 (wsM ad cI cJ cG I J) 269 [(0, .ref (ad 19)), (12, .int x12)] [] := by
  obtain ⟨hx, hb, hr, hml, hown, hT, hlk⟩ := X
  intro H locs ls hP hD hS hl
  unfold b_K_isCorner_269 at hm
  refine lv_iload hx hb dK_isCorner_269 (lv_at hl 1 rfl) ?_
  refine lv_bipush (v := 7) hx hb dK_isCorner_271 (by decide) ?_
  refine lv_icmp_ge (tgt := 316) hx hb dK_isCorner_273 (by decide) (fun c1 => ?_) (fun c1 => ?_)
  · have hm := brp hm c1
    refine lv_iconst (v := 1) hx hb dK_isCorner_316 (by decide) ?_
    exact W.zret hx hb hr rfl (fun t ht hW => ⟨⟨1, (I, J), rfl, Option.some.inj hm, ht ▸ hP, va_K.moved hW.alike hK, hD⟩, hS.F ht⟩) hS.2.2 dK_isCorner_317 hlk
  · have hm := brn hm c1
    refine lv_aload_n hx hb dK_isCorner_276 rfl (lv_at hl 0 rfl) ?_
    refine va_get (D := D) (ci := 0) (v := .ref (ad 12)) (C := RK) (T := TK) (N := 10) hx hb hT inK hown hK hP 19 rfl rfl 1 (by decide) (hT _ wd_200) (fun _ h9 => h9) rfl dK_isCorner_277 ?_
    refine lv_iload hx hb dK_isCorner_280 (lv_at hl 1 rfl) ?_
    refine lv_aload_n hx hb dK_isCorner_282 rfl (lv_at hl 0 rfl) ?_
    refine va_get (D := D) (ci := 0) (v := .ref (ad 12)) (C := RK) (T := TK) (N := 10) hx hb hT inK hown hK hP 19 rfl rfl 1 (by decide) (hT _ wd_200) (fun _ h9 => h9) rfl dK_isCorner_283 ?_
    refine lv_iload hx hb dK_isCorner_286 (lv_at hl 1 rfl) ?_
    refine lv_aload_n hx hb dK_isCorner_288 rfl (lv_at hl 0 rfl) ?_
    refine va_get (D := D) (ci := 0) (v := .ref (ad 32)) (C := RK) (T := TK) (N := 10) hx hb hT inK hown hK hP 19 rfl rfl 9 (by decide) (hT _ wd_208) (fun _ h9 => h9) rfl dK_isCorner_289 ?_
    obtain ⟨r2, I3, J4, hc5, hm⟩ := cl3_to hm
    refine pst_l (wf := wsM ad cI cJ cG) hD hS hA (va_runVN (As := [.int x12, .ref (ad 32)]) (rest := [.int x12, .ref (ad 12)]) ⟨hx, hb, hml, hown, hT⟩ (c_L_allOf l D ad cI cJ cG _ x12 32 I J _ hc5) ⟨va_cnB 2 hT (gtb_good wd_438) rfl rfl rfl (hN _ nw_435) (hT _ wd_54) (by decide +kernel) ⟨Nat.le_of_ble_eq_true rfl, Nat.le_of_ble_eq_true rfl⟩, hT _ wd_437, hT _ wd_22⟩ ⟨preW_fb, va_recv hK hP (ci := 1) (q0 := 12) rfl rfl, preW_at hP hK hN hD⟩ rfl rfl hl.1 rfl (lv_room (Nat.le_of_ble_eq_true rfl)) dK_isCorner_292 ⟨Nat.zero_le _, Nat.zero_le _⟩) (fun H locs hP hD hS => ?_)
    refine lv_aload_n hx hb dK_isCorner_295 rfl (lv_at hl 0 rfl) ?_
    refine va_get (D := D) (ci := 0) (v := .ref (ad 32)) (C := RK) (T := TK) (N := 10) hx hb hT inK hown hK hP 19 rfl rfl 9 (by decide) (hT _ wd_208) (fun _ h9 => h9) rfl dK_isCorner_296 ?_
    refine va_getN (D := D) (ci := 2) (v := .long (J4 32 2)) (C := RX) (T := TX) (N := 3) hx hb hT inX hown hK hP 32 rfl rfl 2 (by decide) (va_Nw.use rfl (hN _ nw_190)) (fun _ h9 => h9) rfl dK_isCorner_299 ?_
    obtain ⟨r6, I7, J8, hc9, hm⟩ := cl3_to hm
    refine pst_i (wf := wsM ad cI cJ cG) hD hS hA (va_runVN (As := [.int x12, .long r2, .long (J4 32 2)]) (rest := []) ⟨hx, hb, hml, hown, hT⟩ (c_L_allow l D ad cI cJ cG _ x12 r2 (J4 32 2) I3 J4 _ hc9) ⟨va_cnB 3 hT (gtb_good wd_434) rfl rfl rfl (hN _ nw_431) (hT _ wd_54) (by decide +kernel) ⟨Nat.le_of_ble_eq_true rfl, Nat.le_of_ble_eq_true rfl⟩, hT _ wd_433, hT _ wd_21⟩ ⟨preW_fb, va_recv hK hP (ci := 1) (q0 := 12) rfl rfl, preW_at hP hK hN hD⟩ rfl rfl hl.1 rfl (lv_room (Nat.le_of_ble_eq_true rfl)) dK_isCorner_302 ⟨Nat.zero_le _, Nat.zero_le _⟩) (fun H locs hP hD hS => ?_)
    refine lv_if_ne (tgt := 310) hx hb dK_isCorner_305 (by decide) (fun c10 => ?_) (fun c10 => ?_)
    · have hm := brn hm c10
      obtain ⟨v11, ev11⟩ : ∃ z : Int32, z = x12 + 1 := ⟨_, rfl⟩
      have hm := nm_to ev11 hm
      refine lv_iinc (v := v11) (lv' := [(12, .int v11), (0, .ref (ad 19))]) hx hb dK_isCorner_310 hl (k := 1) rfl (by rw [ev11]; rfl) (by decide) rfl (fun ls hl => ?_)
      refine lv_goto (tgt := 269) hx hb dK_isCorner_313 (by decide) ?_
      exact hk269 v11 I7 J8 hm _ _ _ hP hD hS (lv_sub hl [1, 0] rfl)
    · have hm := brp hm c10
      refine lv_iconst (v := 0) hx hb dK_isCorner_308 (by decide) ?_
      exact W.zret hx hb hr rfl (fun t ht hW => ⟨⟨0, (I7, J8), rfl, Option.some.inj hm, ht ▸ hP, va_K.moved hW.alike hK, hD⟩, hS.F ht⟩) hS.2.2 dK_isCorner_309 hlk
set_option maxHeartbeats 4000000 in
set_option maxRecDepth 100000 in
theorem w_K_isCorner_0 {p : Program} {l : Launch} {e : Env} {s : State} {m : MethodId} {args : Array Value} {below : List Frame} {meth : Method} {c : Code} {D : va_G} {A : Nat → Prop} {ad : Nat → Nat} {cI cJ cG : ClassId} {res : Int32 × SI × SJ} (X : Cx p s m args meth c bK_isCorner (some .boolean) 15 RK) (hK : va_K D vwCl (tysM cI cJ cG) s) (hN : NWs s) (hA : ∀ q, s.heap.size ≤ q → A q)
    {k100 : Int32 → Int32 → Int32 → Nat → Nat → Nat → Int64 → Int32 → SI → SJ → Option (Int32 × SI × SJ)} (hk100 : ∀ (x1 : Int32) (x2 : Int32) (x3 : Int32) (j4 : Nat) (j5 : Nat) (j6 : Nat) (x7 : Int64) (k0 : Int32) (I : SI) (J : SJ), k100 x1 x2 x3 j4 j5 j6 x7 k0 I J = some res → WB p l e (headSpec (Cond.code yK_isCorner bK_isCorner 15 (some .boolean) :: gtb) rm_K_isCorner).room s m args below meth c (MQ below (va_Qi (fun (r : Int32) (u : SI × SJ) => (r, u) = res) (atW D vwCl (tysM cI cJ cG) A (wsM ad cI cJ cG)) A) args s 0 0 A) D vwCl A 15 (wsM ad cI cJ cG I J) 100 [(0, .ref (ad 19)), (1, .int x1), (2, .int x2), (3, .int x3), (4, .ref (ad (22 + j4))), (5, .ref (ad (22 + j5))), (6, .ref (ad (22 + j6))), (7, .long x7)] [.int k0])
     (x1 : Int32) (x2 : Int32) (x3 : Int32) (I : SI) (J : SJ) (hm : b_K_isCorner_0 k100 x1 x2 x3 I J = some res) : WB p l e (headSpec (Cond.code yK_isCorner bK_isCorner 15 (some .boolean) :: gtb) rm_K_isCorner).room s m args below meth c (MQ below (va_Qi (fun (r : Int32) (u : SI × SJ) => (r, u) = res) (atW D vwCl (tysM cI cJ cG) A (wsM ad cI cJ cG)) A) args s 0 0 A) D vwCl A 15 (wsM ad cI cJ cG I J) 0 [(0, .ref (ad 19)), (1, .int x1), (2, .int x2), (3, .int x3)] [] := by
  obtain ⟨hx, hb, hr, hml, hown, hT, hlk⟩ := X
  intro H locs ls hP hD hS hl
  unfold b_K_isCorner_0 at hm
  refine lv_aload_n hx hb dK_isCorner_0 rfl (lv_at hl 0 rfl) ?_
  refine va_get (D := D) (ci := 0) (v := .ref (ad 21)) (C := RK) (T := TK) (N := 10) hx hb hT inK hown hK hP 19 rfl rfl 3 (by decide) (hT _ wd_202) (fun _ h9 => h9) rfl dK_isCorner_1 ?_
  refine lv_aload_n hx hb dK_isCorner_4 rfl (lv_at hl 0 rfl) ?_
  refine va_get (D := D) (ci := 0) (v := .ref (ad 29)) (C := RK) (T := TK) (N := 10) hx hb hT inK hown hK hP 19 rfl rfl 4 (by decide) (hT _ wd_203) (fun _ h9 => h9) rfl dK_isCorner_5 ?_
  refine lv_iload_n hx hb dK_isCorner_8 rfl (lv_at hl 1 rfl) ?_
  obtain ⟨g1, hm⟩ := gd_to hm
  refine va_iald hx hb hK hP 29 0 rfl rfl g1 dK_isCorner_9 ?_
  refine lv_topi (fun v2 ev2 => ?_)
  have hm := nm_to ev2 hm
  obtain ⟨g3, hm⟩ := gd_to hm
  refine va_aldG hx hb hK hP 21 2 rfl rfl rfl g3 (outM_21 (vp_lt g3)) dK_isCorner_10 ?_
  refine lv_astore (lv' := [(4, .ref (ad (22 + v2.toNatClampNeg))), (0, .ref (ad 19)), (1, .int x1), (2, .int x2), (3, .int x3)]) hx hb dK_isCorner_11 hl (by decide) rfl (fun ls hl => ?_)
  refine lv_aload_n hx hb dK_isCorner_13 rfl (lv_at hl 1 rfl) ?_
  refine va_get (D := D) (ci := 0) (v := .ref (ad 21)) (C := RK) (T := TK) (N := 10) hx hb hT inK hown hK hP 19 rfl rfl 3 (by decide) (hT _ wd_202) (fun _ h9 => h9) rfl dK_isCorner_14 ?_
  refine lv_aload_n hx hb dK_isCorner_17 rfl (lv_at hl 1 rfl) ?_
  refine va_get (D := D) (ci := 0) (v := .ref (ad 29)) (C := RK) (T := TK) (N := 10) hx hb hT inK hown hK hP 19 rfl rfl 4 (by decide) (hT _ wd_203) (fun _ h9 => h9) rfl dK_isCorner_18 ?_
  refine lv_iload_n hx hb dK_isCorner_21 rfl (lv_at hl 3 rfl) ?_
  obtain ⟨g4, hm⟩ := gd_to hm
  refine va_iald hx hb hK hP 29 0 rfl rfl g4 dK_isCorner_22 ?_
  refine lv_topi (fun v5 ev5 => ?_)
  have hm := nm_to ev5 hm
  obtain ⟨g6, hm⟩ := gd_to hm
  refine va_aldG hx hb hK hP 21 2 rfl rfl rfl g6 (outM_21 (vp_lt g6)) dK_isCorner_23 ?_
  refine lv_astore (lv' := [(5, .ref (ad (22 + v5.toNatClampNeg))), (4, .ref (ad (22 + v2.toNatClampNeg))), (0, .ref (ad 19)), (1, .int x1), (2, .int x2), (3, .int x3)]) hx hb dK_isCorner_24 hl (by decide) rfl (fun ls hl => ?_)
  refine lv_aload_n hx hb dK_isCorner_26 rfl (lv_at hl 2 rfl) ?_
  refine va_get (D := D) (ci := 0) (v := .ref (ad 21)) (C := RK) (T := TK) (N := 10) hx hb hT inK hown hK hP 19 rfl rfl 3 (by decide) (hT _ wd_202) (fun _ h9 => h9) rfl dK_isCorner_27 ?_
  refine lv_aload_n hx hb dK_isCorner_30 rfl (lv_at hl 2 rfl) ?_
  refine va_get (D := D) (ci := 0) (v := .ref (ad 29)) (C := RK) (T := TK) (N := 10) hx hb hT inK hown hK hP 19 rfl rfl 4 (by decide) (hT _ wd_203) (fun _ h9 => h9) rfl dK_isCorner_31 ?_
  refine lv_iload_n hx hb dK_isCorner_34 rfl (lv_at hl 5 rfl) ?_
  obtain ⟨g7, hm⟩ := gd_to hm
  refine va_iald hx hb hK hP 29 0 rfl rfl g7 dK_isCorner_35 ?_
  refine lv_topi (fun v8 ev8 => ?_)
  have hm := nm_to ev8 hm
  obtain ⟨g9, hm⟩ := gd_to hm
  refine va_aldG hx hb hK hP 21 2 rfl rfl rfl g9 (outM_21 (vp_lt g9)) dK_isCorner_36 ?_
  refine lv_astore (lv' := [(6, .ref (ad (22 + v8.toNatClampNeg))), (5, .ref (ad (22 + v5.toNatClampNeg))), (4, .ref (ad (22 + v2.toNatClampNeg))), (0, .ref (ad 19)), (1, .int x1), (2, .int x2), (3, .int x3)]) hx hb dK_isCorner_37 hl (by decide) rfl (fun ls hl => ?_)
  refine lv_aload_n hx hb dK_isCorner_39 rfl (lv_at hl 3 rfl) ?_
  refine va_get (D := D) (ci := 0) (v := .ref (ad 31)) (C := RK) (T := TK) (N := 10) hx hb hT inK hown hK hP 19 rfl rfl 8 (by decide) (hT _ wd_207) (fun _ h9 => h9) rfl dK_isCorner_40 ?_
  refine lv_iconst (v := 0) hx hb dK_isCorner_43 (by decide) ?_
  obtain ⟨g10, hm⟩ := gd_to hm
  refine va_lald hx hb hK hP 31 1 rfl rfl g10 dK_isCorner_44 ?_
  refine lv_topl (fun v11 ev11 => ?_)
  have hm := nm_to ev11 hm
  refine lv_aload hx hb dK_isCorner_45 (lv_at hl 0 rfl) ?_
  refine lv_iconst (v := 0) hx hb dK_isCorner_47 (by decide) ?_
  obtain ⟨g12, hm⟩ := gd_to hm
  refine va_iald hx hb hK hP (22 + v8.toNatClampNeg) 0 (rowM_21 (vp_lt g9)) rfl g12 dK_isCorner_48 ?_
  refine lv_topi (fun v13 ev13 => ?_)
  have hm := nm_to ev13 hm
  refine lv_i2l hx hb dK_isCorner_49 rfl ?_
  refine lv_topl (fun v14 ev14 => ?_)
  have hm := nm_to ev14 hm
  refine lv_lmul hx hb dK_isCorner_50 ?_
  refine lv_topl (fun v15 ev15 => ?_)
  have hm := nm_to ev15 hm
  refine lv_aload_n hx hb dK_isCorner_51 rfl (lv_at hl 3 rfl) ?_
  refine va_get (D := D) (ci := 0) (v := .ref (ad 31)) (C := RK) (T := TK) (N := 10) hx hb hT inK hown hK hP 19 rfl rfl 8 (by decide) (hT _ wd_207) (fun _ h9 => h9) rfl dK_isCorner_52 ?_
  refine lv_iconst (v := 1) hx hb dK_isCorner_55 (by decide) ?_
  obtain ⟨g16, hm⟩ := gd_to hm
  refine va_lald hx hb hK hP 31 1 rfl rfl g16 dK_isCorner_56 ?_
  refine lv_topl (fun v17 ev17 => ?_)
  have hm := nm_to ev17 hm
  refine lv_aload hx hb dK_isCorner_57 (lv_at hl 0 rfl) ?_
  refine lv_iconst (v := 1) hx hb dK_isCorner_59 (by decide) ?_
  obtain ⟨g18, hm⟩ := gd_to hm
  refine va_iald hx hb hK hP (22 + v8.toNatClampNeg) 0 (rowM_21 (vp_lt g9)) rfl g18 dK_isCorner_60 ?_
  refine lv_topi (fun v19 ev19 => ?_)
  have hm := nm_to ev19 hm
  refine lv_i2l hx hb dK_isCorner_61 rfl ?_
  refine lv_topl (fun v20 ev20 => ?_)
  have hm := nm_to ev20 hm
  refine lv_lmul hx hb dK_isCorner_62 ?_
  refine lv_topl (fun v21 ev21 => ?_)
  have hm := nm_to ev21 hm
  refine lv_ladd hx hb dK_isCorner_63 ?_
  refine lv_topl (fun v22 ev22 => ?_)
  have hm := nm_to ev22 hm
  refine lv_aload_n hx hb dK_isCorner_64 rfl (lv_at hl 3 rfl) ?_
  refine va_get (D := D) (ci := 0) (v := .ref (ad 31)) (C := RK) (T := TK) (N := 10) hx hb hT inK hown hK hP 19 rfl rfl 8 (by decide) (hT _ wd_207) (fun _ h9 => h9) rfl dK_isCorner_65 ?_
  refine lv_iconst (v := 2) hx hb dK_isCorner_68 (by decide) ?_
  obtain ⟨g23, hm⟩ := gd_to hm
  refine va_lald hx hb hK hP 31 1 rfl rfl g23 dK_isCorner_69 ?_
  refine lv_topl (fun v24 ev24 => ?_)
  have hm := nm_to ev24 hm
  refine lv_aload hx hb dK_isCorner_70 (lv_at hl 0 rfl) ?_
  refine lv_iconst (v := 2) hx hb dK_isCorner_72 (by decide) ?_
  obtain ⟨g25, hm⟩ := gd_to hm
  refine va_iald hx hb hK hP (22 + v8.toNatClampNeg) 0 (rowM_21 (vp_lt g9)) rfl g25 dK_isCorner_73 ?_
  refine lv_topi (fun v26 ev26 => ?_)
  have hm := nm_to ev26 hm
  refine lv_i2l hx hb dK_isCorner_74 rfl ?_
  refine lv_topl (fun v27 ev27 => ?_)
  have hm := nm_to ev27 hm
  refine lv_lmul hx hb dK_isCorner_75 ?_
  refine lv_topl (fun v28 ev28 => ?_)
  have hm := nm_to ev28 hm
  refine lv_ladd hx hb dK_isCorner_76 ?_
  refine lv_topl (fun v29 ev29 => ?_)
  have hm := nm_to ev29 hm
  refine lv_lstore (lv' := [(7, .long v29), (6, .ref (ad (22 + v8.toNatClampNeg))), (5, .ref (ad (22 + v5.toNatClampNeg))), (4, .ref (ad (22 + v2.toNatClampNeg))), (0, .ref (ad 19)), (1, .int x1), (2, .int x2), (3, .int x3)]) hx hb dK_isCorner_77 hl (by decide) rfl (fun ls hl => ?_)
  refine lv_lload hx hb dK_isCorner_79 (lv_at hl 0 rfl) ?_
  refine lv_lconst (v := 0) hx hb dK_isCorner_81 (by decide) ?_
  refine W.lcmp hx hb dK_isCorner_82 ?_
  refine lv_topi (fun v30 ev30 => ?_)
  have hm := nm_to ev30 hm
  refine lv_if_ne (tgt := 88) hx hb dK_isCorner_83 (by decide) (fun c31 => ?_) (fun c31 => ?_)
  · have hm := brn hm c31
    refine lv_lload hx hb dK_isCorner_88 (lv_at hl 0 rfl) ?_
    refine lv_lconst (v := 0) hx hb dK_isCorner_90 (by decide) ?_
    refine W.lcmp hx hb dK_isCorner_91 ?_
    refine lv_topi (fun v32 ev32 => ?_)
    have hm := nm_to ev32 hm
    refine lv_if_ge (tgt := 99) hx hb dK_isCorner_92 (by decide) (fun c33 => ?_) (fun c33 => ?_)
    · have hm := brp hm c33
      refine lv_iconst (v := 1) hx hb dK_isCorner_99 (by decide) ?_
      exact hk100 x1 x2 x3 v2.toNatClampNeg v5.toNatClampNeg v8.toNatClampNeg v29 1 I J hm _ _ _ hP hD hS (lv_sub hl [4, 5, 6, 7, 3, 2, 1, 0] rfl)
    · have hm := brn hm c33
      refine lv_iconst (v := (-1)) hx hb dK_isCorner_95 (by decide) ?_
      refine lv_goto (tgt := 100) hx hb dK_isCorner_96 (by decide) ?_
      exact hk100 x1 x2 x3 v2.toNatClampNeg v5.toNatClampNeg v8.toNatClampNeg v29 (-1) I J hm _ _ _ hP hD hS (lv_sub hl [4, 5, 6, 7, 3, 2, 1, 0] rfl)
  · have hm := brp hm c31
    refine lv_iconst (v := 0) hx hb dK_isCorner_86 (by decide) ?_
    exact W.zret hx hb hr rfl (fun t ht hW => ⟨⟨0, (I, J), rfl, Option.some.inj hm, ht ▸ hP, va_K.moved hW.alike hK, hD⟩, hS.F ht⟩) hS.2.2 dK_isCorner_87 hlk
set_option maxHeartbeats 4000000 in
theorem gw_K_isCorner {p : Program} {l : Launch} {e : Env} {s : State} {m : MethodId} {args : Array Value} {below : List Frame} {meth : Method} {c : Code} {D : va_G} {A : Nat → Prop} {ad : Nat → Nat} {cI cJ cG : ClassId} {res : Int32 × SI × SJ} (X : Cx p s m args meth c bK_isCorner (some .boolean) 15 RK) (hK : va_K D vwCl (tysM cI cJ cG) s) (hN : NWs s) (hA : ∀ q, s.heap.size ≤ q → A q) : ∀ n : Nat, (∀ (x1 : Int32) (x2 : Int32) (x3 : Int32) (j4 : Nat) (j5 : Nat) (j6 : Nat) (x7 : Int64) (k0 : Int32) (I : SI) (J : SJ), (g_K_isCorner n).1 x1 x2 x3 j4 j5 j6 x7 k0 I J = some res → WB p l e (headSpec (Cond.code yK_isCorner bK_isCorner 15 (some .boolean) :: gtb) rm_K_isCorner).room s m args below meth c (MQ below (va_Qi (fun (r : Int32) (u : SI × SJ) => (r, u) = res) (atW D vwCl (tysM cI cJ cG) A (wsM ad cI cJ cG)) A) args s 0 0 A) D vwCl A 15 (wsM ad cI cJ cG I J) 100 [(0, .ref (ad 19)), (1, .int x1), (2, .int x2), (3, .int x3), (4, .ref (ad (22 + j4))), (5, .ref (ad (22 + j5))), (6, .ref (ad (22 + j6))), (7, .long x7)] [.int k0]) ∧ (∀ (x1 : Int32) (x2 : Int32) (x3 : Int32) (j4 : Nat) (j5 : Nat) (j6 : Nat) (x9 : Int32) (x10 : Int64) (x12 : Int32) (I : SI) (J : SJ), (g_K_isCorner n).2.1 x1 x2 x3 j4 j5 j6 x9 x10 x12 I J = some res → WB p l e (headSpec (Cond.code yK_isCorner bK_isCorner 15 (some .boolean) :: gtb) rm_K_isCorner).room s m args below meth c (MQ below (va_Qi (fun (r : Int32) (u : SI × SJ) => (r, u) = res) (atW D vwCl (tysM cI cJ cG) A (wsM ad cI cJ cG)) A) args s 0 0 A) D vwCl A 15 (wsM ad cI cJ cG I J) 136 [(0, .ref (ad 19)), (1, .int x1), (2, .int x2), (3, .int x3), (4, .ref (ad (22 + j4))), (5, .ref (ad (22 + j5))), (6, .ref (ad (22 + j6))), (9, .int x9), (10, .long x10), (12, .int x12)] []) ∧ (∀ (x12 : Int32) (I : SI) (J : SJ), (g_K_isCorner n).2.2 x12 I J = some res → WB p l e (headSpec (Cond.code yK_isCorner bK_isCorner 15 (some .boolean) :: gtb) rm_K_isCorner).room s m args below meth c (MQ below (va_Qi (fun (r : Int32) (u : SI × SJ) => (r, u) = res) (atW D vwCl (tysM cI cJ cG) A (wsM ad cI cJ cG)) A) args s 0 0 A) D vwCl A 15 (wsM ad cI cJ cG I J) 269 [(0, .ref (ad 19)), (12, .int x12)] []) := by
  intro n
  induction n with
  | zero => exact ⟨fun _ _ _ _ _ _ _ _ _ _ h => (by cases h), fun _ _ _ _ _ _ _ _ _ _ _ h => (by cases h), fun _ _ _ h => (by cases h)⟩
  | succ n ih =>
    obtain ⟨ih100, ih136, ih269⟩ := ih
    exact ⟨fun x1 x2 x3 j4 j5 j6 x7 k0 I J h => w_K_isCorner_100 X hK hN hA ih136 x1 x2 x3 j4 j5 j6 x7 k0 I J h, fun x1 x2 x3 j4 j5 j6 x9 x10 x12 I J h => w_K_isCorner_136 X hK hN hA ih136 ih269 x1 x2 x3 j4 j5 j6 x9 x10 x12 I J h, fun x12 I J h => w_K_isCorner_269 X hK hN hA ih269 x12 I J h⟩
set_option maxHeartbeats 4000000 in
set_option maxRecDepth 100000 in
theorem c_K_isCorner (l : Launch) (D : va_G) (ad : Nat → Nat) (cI cJ cG : ClassId) (sz : Nat) (x1 : Int32) (x2 : Int32) (x3 : Int32) (I : SI) (J : SJ) (res : Int32 × SI × SJ) (hm : m_K_isCorner x1 x2 x3 I J = some res) : Met l yK_isCorner (Cond.code yK_isCorner bK_isCorner 15 (some .boolean) :: gtb) rm_K_isCorner (va_Pc [.ref (ad 19), .int x1, .int x2, .int x3] (preW D vwCl (tysM cI cJ cG) (wsM ad cI cJ cG I J) sz)) (va_Qi (fun (r : Int32) (u : SI × SJ) => (r, u) = res) (atW D vwCl (tysM cI cJ cG) (va_A (wsM ad cI cJ cG I J) sz) (wsM ad cI cJ cG)) (va_A (wsM ad cI cJ cG I J) sz)) 0 0 (va_A (wsM ad cI cJ cG I J) sz) := by
  refine Met.ofW (cc := bK_isCorner) (maxL := 15) (ret := (some .boolean)) (by decide) rfl ?_
  intro p e s m args below meth c s₁ B hml hv
  obtain ⟨rfl, hsz, hP, hK, hD0, hN⟩ := hv
  subst hsz
  have X : Cx p s m [.ref (ad 19), .int x1, .int x2, .int x3].toArray meth c bK_isCorner (some .boolean) 15 RK := ⟨B.exec, B.bytes, B.returns, hml, findClass_of_methodNamed B.named, fun w h => atoms_spec (ws := (Cond.code yK_isCorner bK_isCorner 15 (some .boolean) :: gtb)) B.pre w (List.mem_cons_of_mem _ h), B.notSynchronized⟩
  have hl := lv_entry ([.ref (ad 19), .int x1, .int x2, .int x3]) (n := 15) (Nat.le_of_ble_eq_true rfl)
  rw [lg_entry_eq]
  generalize (lg_sl ([.ref (ad 19), .int x1, .int x2, .int x3]) ++ List.replicate (15 - (lg_sl ([.ref (ad 19), .int x1, .int x2, .int x3])).length) Slot.unset).toArray = ls at hl ⊢
  have hl : lv_has ls 15 [(0, .ref (ad 19)), (1, .int x1), (2, .int x2), (3, .int x3)] := hl
  have hA : ∀ q, s.heap.size ≤ q → va_A (wsM ad cI cJ cG I J) s.heap.size q := fun q h => Or.inr h
  exact w_K_isCorner_0 X hK hN hA (gw_K_isCorner X hK hN hA fuel).1 x1 x2 x3 I J hm _ _ _ hP hD0.self va_S.rf hl
def b_K_offer_0 (I : SI) (J : SJ) : Option (SI × SJ) :=
  cl3 (m_X_sum 32 1 I J) fun r1 I2 J3 =>
  nm (va_up J3 32 (vp_updL (J3 32) 1 r1)) fun J5 =>
  cl3 (m_X_isBetterThan I2 J5) fun r6 I7 J8 =>
  if r6 = 0 then
    some (I7, J8)
  else
    cl2 (m_X_become I7 J8) fun I12 J13 =>
    some (I12, J13)
def m_K_offer (I : SI) (J : SJ) : Option (SI × SJ) := b_K_offer_0  I J
def rm_K_offer : Room := { frames := 2, cells := 0, slots := 0, locals := 46 }
set_option maxHeartbeats 4000000 in
set_option maxRecDepth 100000 in
theorem w_K_offer_0 {p : Program} {l : Launch} {e : Env} {s : State} {m : MethodId} {args : Array Value} {below : List Frame} {meth : Method} {c : Code} {D : va_G} {A : Nat → Prop} {ad : Nat → Nat} {cI cJ cG : ClassId} {res : SI × SJ} (X : Cx p s m args meth c bK_offer none 2 RK) (hK : va_K D vwCl (tysM cI cJ cG) s) (hN : NWs s) (hA : ∀ q, s.heap.size ≤ q → A q)
     (I : SI) (J : SJ) (hm : b_K_offer_0   I J = some res) : WB p l e (headSpec (Cond.code yK_offer bK_offer 2 none :: gtb) rm_K_offer).room s m args below meth c (MQ below (va_Qv (fun (u : SI × SJ) => u = res) (atW D vwCl (tysM cI cJ cG) A (wsM ad cI cJ cG)) A) args s 0 0 A) D vwCl A 2 (wsM ad cI cJ cG I J) 0 [(0, .ref (ad 19)), (1, .ref (ad 35))] [] := by
  obtain ⟨hx, hb, hr, hml, hown, hT, hlk⟩ := X
  intro H locs ls hP hD hS hl
  unfold b_K_offer_0 at hm
  refine lv_aload_n hx hb dK_offer_0 rfl (lv_at hl 0 rfl) ?_
  refine va_get (D := D) (ci := 0) (v := .ref (ad 32)) (C := RK) (T := TK) (N := 10) hx hb hT inK hown hK hP 19 rfl rfl 9 (by decide) (hT _ wd_208) (fun _ h9 => h9) rfl dK_offer_1 ?_
  refine lv_aload_n hx hb dK_offer_4 rfl (lv_at hl 0 rfl) ?_
  refine va_get (D := D) (ci := 0) (v := .ref (ad 32)) (C := RK) (T := TK) (N := 10) hx hb hT inK hown hK hP 19 rfl rfl 9 (by decide) (hT _ wd_208) (fun _ h9 => h9) rfl dK_offer_5 ?_
  refine lv_aload_n hx hb dK_offer_8 rfl (lv_at hl 0 rfl) ?_
  refine va_get (D := D) (ci := 0) (v := .ref (ad 0)) (C := RK) (T := TK) (N := 10) hx hb hT inK hown hK hP 19 rfl rfl 0 (by decide) (hT _ wd_199) (fun _ h9 => h9) rfl dK_offer_9 ?_
  refine va_getN (D := D) (ci := 4) (v := .ref (ad 1)) (C := RT) (T := TT) (N := 9) hx hb hT inT hown hK hP 0 rfl rfl 1 (by decide) (va_Nw.use rfl (hN _ nw_82)) (fun _ h9 => h9) rfl dK_offer_12 ?_
  obtain ⟨r1, I2, J3, hc4, hm⟩ := cl3_to hm
  refine pst_l (wf := wsM ad cI cJ cG) hD hS hA (va_runVN (As := [.ref (ad 1)]) (rest := [.ref (ad 32)]) ⟨hx, hb, hml, hown, hT⟩ (c_X_sum l D ad cI cJ cG _ 32 1 I J _ hc4) ⟨va_cnB 1 hT (gtb_good wd_442) rfl rfl rfl (hN _ nw_447) (hT _ wd_56) (by decide +kernel) ⟨Nat.le_of_ble_eq_true rfl, Nat.le_of_ble_eq_true rfl⟩, hT _ wd_441, hT _ wd_23⟩ ⟨preW_fb, va_recv hK hP (ci := 2) (q0 := 32) rfl rfl, preW_at hP hK hN hD⟩ rfl rfl hl.1 rfl (lv_room (Nat.le_of_ble_eq_true rfl)) dK_offer_15 ⟨Nat.zero_le _, Nat.zero_le _⟩) (fun H locs hP hD hS => ?_)
  refine va_putN (D := D) (ci := 2) (v := .long r1) (ty := .long) (C := RX) (T := TX) (N := 3) hx hb hT inX tyX okX nmX hown hK hP hD hS 32 rfl rfl 1 (by decide) (va_Nw.use rfl (hN _ nw_186)) (fun _ h9 => h9) rfl pf_J rfl rfl (Nat.le_of_ble_eq_true rfl) dK_offer_18 (fun H locs hP hD hS => ?_)
  obtain ⟨J5, eJ5⟩ : ∃ z : SJ, z = va_up J3 32 (vp_updL (J3 32) 1 r1) := ⟨_, rfl⟩
  have hm := nm_to eJ5 hm
  have hP := P_eq (ws2 := wsM ad cI cJ cG I2 J5) hP (by rw [eJ5]; rfl)
  have hD := D_eq (ws2 := wsM ad cI cJ cG I2 J5) hD (by rw [eJ5]; rfl)
  refine lv_aload_n hx hb dK_offer_21 rfl (lv_at hl 0 rfl) ?_
  refine va_get (D := D) (ci := 0) (v := .ref (ad 32)) (C := RK) (T := TK) (N := 10) hx hb hT inK hown hK hP 19 rfl rfl 9 (by decide) (hT _ wd_208) (fun _ h9 => h9) rfl dK_offer_22 ?_
  refine lv_aload_n hx hb dK_offer_25 rfl (lv_at hl 1 rfl) ?_
  obtain ⟨r6, I7, J8, hc9, hm⟩ := cl3_to hm
  refine pst_i (wf := wsM ad cI cJ cG) hD hS hA (va_runVN (As := [.ref (ad 35)]) (rest := []) ⟨hx, hb, hml, hown, hT⟩ (c_X_isBetterThan l D ad cI cJ cG _ I2 J5 _ hc9) ⟨va_cnB 1 hT (gtb_good wd_451) rfl rfl rfl (hN _ nw_448) (hT _ wd_56) (by decide +kernel) ⟨Nat.le_of_ble_eq_true rfl, Nat.le_of_ble_eq_true rfl⟩, hT _ wd_450, hT _ wd_25⟩ ⟨preW_fb, va_recv hK hP (ci := 2) (q0 := 32) rfl rfl, preW_at hP hK hN hD⟩ rfl rfl hl.1 rfl (lv_room (Nat.le_of_ble_eq_true rfl)) dK_offer_26 ⟨Nat.zero_le _, Nat.zero_le _⟩) (fun H locs hP hD hS => ?_)
  refine lv_if_eq (tgt := 40) hx hb dK_offer_29 (by decide) (fun c10 => ?_) (fun c10 => ?_)
  · have hm := brp hm c10
    exact W.vret hx hb hr (fun t ht hW => ⟨⟨(I7, J8), rfl, Option.some.inj hm, ht ▸ hP, va_K.moved hW.alike hK, hD⟩, hS.F ht⟩) hS.2.2 dK_offer_40 hlk
  · have hm := brn hm c10
    refine lv_aload_n hx hb dK_offer_32 rfl (lv_at hl 1 rfl) ?_
    refine lv_aload_n hx hb dK_offer_33 rfl (lv_at hl 0 rfl) ?_
    refine va_get (D := D) (ci := 0) (v := .ref (ad 32)) (C := RK) (T := TK) (N := 10) hx hb hT inK hown hK hP 19 rfl rfl 9 (by decide) (hT _ wd_208) (fun _ h9 => h9) rfl dK_offer_34 ?_
    obtain ⟨I12, J13, hc14, hm⟩ := cl2_to hm
    refine pst_v (wf := wsM ad cI cJ cG) hD hS hA (va_runVN (As := [.ref (ad 32)]) (rest := []) ⟨hx, hb, hml, hown, hT⟩ (c_X_become l D ad cI cJ cG _ I7 J8 _ hc14) ⟨va_cnB 1 hT (gtb_good wd_458) rfl rfl rfl (hN _ nw_455) (hT _ wd_56) (by decide +kernel) ⟨Nat.le_of_ble_eq_true rfl, Nat.le_of_ble_eq_true rfl⟩, hT _ wd_457, hT _ wd_26⟩ ⟨preW_fb, va_recv hK hP (ci := 2) (q0 := 35) rfl rfl, preW_at hP hK hN hD⟩ rfl rfl hl.1 rfl (lv_room (Nat.le_of_ble_eq_true rfl)) dK_offer_37 ⟨Nat.zero_le _, Nat.zero_le _⟩) (fun H locs hP hD hS => ?_)
    exact W.vret hx hb hr (fun t ht hW => ⟨⟨(I12, J13), rfl, Option.some.inj hm, ht ▸ hP, va_K.moved hW.alike hK, hD⟩, hS.F ht⟩) hS.2.2 dK_offer_40 hlk
set_option maxHeartbeats 4000000 in
set_option maxRecDepth 100000 in
theorem c_K_offer (l : Launch) (D : va_G) (ad : Nat → Nat) (cI cJ cG : ClassId) (sz : Nat) (I : SI) (J : SJ) (res : SI × SJ) (hm : m_K_offer  I J = some res) : Met l yK_offer (Cond.code yK_offer bK_offer 2 none :: gtb) rm_K_offer (va_Pc [.ref (ad 19), .ref (ad 35)] (preW D vwCl (tysM cI cJ cG) (wsM ad cI cJ cG I J) sz)) (va_Qv (fun (u : SI × SJ) => u = res) (atW D vwCl (tysM cI cJ cG) (va_A (wsM ad cI cJ cG I J) sz) (wsM ad cI cJ cG)) (va_A (wsM ad cI cJ cG I J) sz)) 0 0 (va_A (wsM ad cI cJ cG I J) sz) := by
  refine Met.ofW (cc := bK_offer) (maxL := 2) (ret := none) (by decide) rfl ?_
  intro p e s m args below meth c s₁ B hml hv
  obtain ⟨rfl, hsz, hP, hK, hD0, hN⟩ := hv
  subst hsz
  have X : Cx p s m [.ref (ad 19), .ref (ad 35)].toArray meth c bK_offer none 2 RK := ⟨B.exec, B.bytes, B.returns, hml, findClass_of_methodNamed B.named, fun w h => atoms_spec (ws := (Cond.code yK_offer bK_offer 2 none :: gtb)) B.pre w (List.mem_cons_of_mem _ h), B.notSynchronized⟩
  have hl := lv_entry ([.ref (ad 19), .ref (ad 35)]) (n := 2) (Nat.le_of_ble_eq_true rfl)
  rw [lg_entry_eq]
  generalize (lg_sl ([.ref (ad 19), .ref (ad 35)]) ++ List.replicate (2 - (lg_sl ([.ref (ad 19), .ref (ad 35)])).length) Slot.unset).toArray = ls at hl ⊢
  have hl : lv_has ls 2 [(0, .ref (ad 19)), (1, .ref (ad 35))] := hl
  have hA : ∀ q, s.heap.size ≤ q → va_A (wsM ad cI cJ cG I J) s.heap.size q := fun q h => Or.inr h
  exact w_K_offer_0 X hK hN hA   I J hm _ _ _ hP hD0.self va_S.rf hl
def b_K_seek_23 (k47 : Int32 → Int32 → Int32 → SI → SJ → Option (Int32 × SI × SJ)) (x2 : Int32) (x3 : Int32) (I : SI) (J : SJ) : Option (Int32 × SI × SJ) :=
  if (I 19 7) ≤ 0 then
    if (I 19 6) ≤ x3 then
      gd (narrow .boolean (.int x2) = .int x2) <|
      some (x2, I, J)
    else
      nm (x3 + 1) fun v4 =>
      k47 x2 x3 v4 I J
  else
    if 1 ≤ x3 then
      gd (narrow .boolean (.int x2) = .int x2) <|
      some (x2, I, J)
    else
      nm (x3 + 1) fun v7 =>
      k47 x2 x3 v7 I J
def b_K_seek_47 (k23 : Int32 → Int32 → SI → SJ → Option (Int32 × SI × SJ)) (k81 : Int32 → Int32 → Int32 → Int32 → SI → SJ → Option (Int32 × SI × SJ)) (x2 : Int32) (x3 : Int32) (x4 : Int32) (I : SI) (J : SJ) : Option (Int32 × SI × SJ) :=
  if (I 19 7) ≤ 1 then
    if (I 19 6) ≤ x4 then
      nm (x3 + 1) fun v3 =>
      k23 x2 v3 I J
    else
      cl2 (m_K_setCrossOf x3 x4 I J) fun I5 J6 =>
      nm (x4 + 1) fun v8 =>
      k81 x2 x3 x4 v8 I5 J6
  else
    if 2 ≤ x4 then
      nm (x3 + 1) fun v10 =>
      k23 x2 v10 I J
    else
      cl2 (m_K_setCrossOf x3 x4 I J) fun I12 J13 =>
      nm (x4 + 1) fun v15 =>
      k81 x2 x3 x4 v15 I12 J13
def b_K_seek_81 (k99 : Int32 → Int32 → Int32 → Int32 → Int32 → Int32 → SI → SJ → Option (Int32 × SI × SJ)) (x2 : Int32) (x3 : Int32) (x4 : Int32) (x5 : Int32) (I : SI) (J : SJ) : Option (Int32 × SI × SJ) :=
  if (I 19 7) ≤ 2 then
    k99 x2 x3 x4 x5 (I 19 6) x5 I J
  else
    k99 x2 x3 x4 x5 3 x5 I J
def b_K_seek_99 (k47 : Int32 → Int32 → Int32 → SI → SJ → Option (Int32 × SI × SJ)) (k81 : Int32 → Int32 → Int32 → Int32 → SI → SJ → Option (Int32 × SI × SJ)) (x2 : Int32) (x3 : Int32) (x4 : Int32) (x5 : Int32) (k0 : Int32) (k1 : Int32) (I : SI) (J : SJ) : Option (Int32 × SI × SJ) :=
  if k0 ≤ k1 then
    nm (x4 + 1) fun v2 =>
    k47 x2 x3 v2 I J
  else
    cl3 (m_K_isCorner x3 x4 x5 I J) fun r3 I4 J5 =>
    if r3 = 0 then
      nm (x5 + 1) fun v8 =>
      k81 x2 x3 x4 v8 I4 J5
    else
      cl2 (m_K_offer I4 J5) fun I10 J11 =>
      nm (x5 + 1) fun v13 =>
      k81 1 x3 x4 v13 I10 J11
def b_K_seek_0 (k23 : Int32 → Int32 → SI → SJ → Option (Int32 × SI × SJ)) (I : SI) (J : SJ) : Option (Int32 × SI × SJ) :=
  cl3 (m_L_leaveRoomToStuffs I J) fun r1 I2 J3 =>
  if r1 = 0 then
    some (0, I2, J3)
  else
    cl3 (m_K_setPlanes I2 J3) fun r6 I7 J8 =>
    if r6 = 0 then
      some (0, I7, J8)
    else
      k23 0 0 I7 J8
def g_K_seek : Nat → (Int32 → Int32 → SI → SJ → Option (Int32 × SI × SJ)) × (Int32 → Int32 → Int32 → SI → SJ → Option (Int32 × SI × SJ)) × (Int32 → Int32 → Int32 → Int32 → SI → SJ → Option (Int32 × SI × SJ)) × (Int32 → Int32 → Int32 → Int32 → Int32 → Int32 → SI → SJ → Option (Int32 × SI × SJ))
  | 0 => (fun _ _ _ _ => none, fun _ _ _ _ _ => none, fun _ _ _ _ _ _ => none, fun _ _ _ _ _ _ _ _ => none)
  | n + 1 => (fun x2 x3 I J => b_K_seek_23 (g_K_seek n).2.1 x2 x3 I J, fun x2 x3 x4 I J => b_K_seek_47 (g_K_seek n).1 (g_K_seek n).2.2.1 x2 x3 x4 I J, fun x2 x3 x4 x5 I J => b_K_seek_81 (g_K_seek n).2.2.2 x2 x3 x4 x5 I J, fun x2 x3 x4 x5 k0 k1 I J => b_K_seek_99 (g_K_seek n).2.1 (g_K_seek n).2.2.1 x2 x3 x4 x5 k0 k1 I J)
def m_K_seek (I : SI) (J : SJ) : Option (Int32 × SI × SJ) := b_K_seek_0 (g_K_seek fuel).1  I J
def rm_K_seek : Room := { frames := 4, cells := 0, slots := 0, locals := 103 }
set_option maxHeartbeats 4000000 in
set_option maxRecDepth 100000 in
theorem w_K_seek_23 {p : Program} {l : Launch} {e : Env} {s : State} {m : MethodId} {args : Array Value} {below : List Frame} {meth : Method} {c : Code} {D : va_G} {A : Nat → Prop} {ad : Nat → Nat} {cI cJ cG : ClassId} {res : Int32 × SI × SJ} (X : Cx p s m args meth c bK_seek (some .boolean) 6 RK) (hK : va_K D vwCl (tysM cI cJ cG) s) (hN : NWs s) (hA : ∀ q, s.heap.size ≤ q → A q)
    {k47 : Int32 → Int32 → Int32 → SI → SJ → Option (Int32 × SI × SJ)} (hk47 : ∀ (x2 : Int32) (x3 : Int32) (x4 : Int32) (I : SI) (J : SJ), k47 x2 x3 x4 I J = some res → WB p l e (headSpec (Cond.code yK_seek bK_seek 6 (some .boolean) :: gtb) rm_K_seek).room s m args below meth c (MQ below (va_Qi (fun (r : Int32) (u : SI × SJ) => (r, u) = res) (atW D vwCl (tysM cI cJ cG) A (wsM ad cI cJ cG)) A) args s 0 0 A) D vwCl A 6 (wsM ad cI cJ cG I J) 47 [(0, .ref (ad 19)), (1, .ref (ad 35)), (2, .int x2), (3, .int x3), (4, .int x4)] [])
     (x2 : Int32) (x3 : Int32) (I : SI) (J : SJ) (hm : b_K_seek_23 k47 x2 x3 I J = some res) : WB p l e (headSpec (Cond.code yK_seek bK_seek 6 (some .boolean) :: gtb) rm_K_seek).room s m args below meth c (MQ below (va_Qi (fun (r : Int32) (u : SI × SJ) => (r, u) = res) (atW D vwCl (tysM cI cJ cG) A (wsM ad cI cJ cG)) A) args s 0 0 A) D vwCl A 6 (wsM ad cI cJ cG I J) 23 [(0, .ref (ad 19)), (1, .ref (ad 35)), (2, .int x2), (3, .int x3)] [] := by
  obtain ⟨hx, hb, hr, hml, hown, hT, hlk⟩ := X
  intro H locs ls hP hD hS hl
  unfold b_K_seek_23 at hm
  refine lv_iload_n hx hb dK_seek_23 rfl (lv_at hl 3 rfl) ?_
  refine lv_aload_n hx hb dK_seek_24 rfl (lv_at hl 0 rfl) ?_
  refine va_get (D := D) (ci := 0) (v := .int (I 19 7)) (C := RK) (T := TK) (N := 10) hx hb hT inK hown hK hP 19 rfl rfl 7 (by decide) (hT _ wd_206) (fun _ h9 => h9) rfl dK_seek_25 ?_
  refine lv_if_le (tgt := 35) hx hb dK_seek_28 (by decide) (fun c1 => ?_) (fun c1 => ?_)
  · have hm := brp hm c1
    refine lv_aload_n hx hb dK_seek_35 rfl (lv_at hl 0 rfl) ?_
    refine va_get (D := D) (ci := 0) (v := .int (I 19 6)) (C := RK) (T := TK) (N := 10) hx hb hT inK hown hK hP 19 rfl rfl 6 (by decide) (hT _ wd_205) (fun _ h9 => h9) rfl dK_seek_36 ?_
    refine lv_icmp_ge (tgt := 145) hx hb dK_seek_39 (by decide) (fun c2 => ?_) (fun c2 => ?_)
    · have hm := brp hm c2
      refine lv_iload_n hx hb dK_seek_145 rfl (lv_at hl 2 rfl) ?_
      obtain ⟨g3, hm⟩ := gd_to hm
      exact W.zret hx hb hr g3 (fun t ht hW => ⟨⟨x2, (I, J), rfl, Option.some.inj hm, ht ▸ hP, va_K.moved hW.alike hK, hD⟩, hS.F ht⟩) hS.2.2 dK_seek_146 hlk
    · have hm := brn hm c2
      refine lv_iload_n hx hb dK_seek_42 rfl (lv_at hl 3 rfl) ?_
      refine lv_iconst (v := 1) hx hb dK_seek_43 (by decide) ?_
      refine lv_iadd hx hb dK_seek_44 ?_
      refine lv_topi (fun v4 ev4 => ?_)
      have hm := nm_to ev4 hm
      refine lv_istore (lv' := [(4, .int v4), (0, .ref (ad 19)), (1, .ref (ad 35)), (2, .int x2), (3, .int x3)]) hx hb dK_seek_45 hl (by decide) rfl (fun ls hl => ?_)
      exact hk47 x2 x3 v4 I J hm _ _ _ hP hD hS (lv_sub hl [1, 2, 3, 4, 0] rfl)
  · have hm := brn hm c1
    refine lv_iconst (v := 1) hx hb dK_seek_31 (by decide) ?_
    refine lv_goto (tgt := 39) hx hb dK_seek_32 (by decide) ?_
    refine lv_icmp_ge (tgt := 145) hx hb dK_seek_39 (by decide) (fun c5 => ?_) (fun c5 => ?_)
    · have hm := brp hm c5
      refine lv_iload_n hx hb dK_seek_145 rfl (lv_at hl 2 rfl) ?_
      obtain ⟨g6, hm⟩ := gd_to hm
      exact W.zret hx hb hr g6 (fun t ht hW => ⟨⟨x2, (I, J), rfl, Option.some.inj hm, ht ▸ hP, va_K.moved hW.alike hK, hD⟩, hS.F ht⟩) hS.2.2 dK_seek_146 hlk
    · have hm := brn hm c5
      refine lv_iload_n hx hb dK_seek_42 rfl (lv_at hl 3 rfl) ?_
      refine lv_iconst (v := 1) hx hb dK_seek_43 (by decide) ?_
      refine lv_iadd hx hb dK_seek_44 ?_
      refine lv_topi (fun v7 ev7 => ?_)
      have hm := nm_to ev7 hm
      refine lv_istore (lv' := [(4, .int v7), (0, .ref (ad 19)), (1, .ref (ad 35)), (2, .int x2), (3, .int x3)]) hx hb dK_seek_45 hl (by decide) rfl (fun ls hl => ?_)
      exact hk47 x2 x3 v7 I J hm _ _ _ hP hD hS (lv_sub hl [1, 2, 3, 4, 0] rfl)
set_option maxHeartbeats 4000000 in
set_option maxRecDepth 100000 in
theorem w_K_seek_47 {p : Program} {l : Launch} {e : Env} {s : State} {m : MethodId} {args : Array Value} {below : List Frame} {meth : Method} {c : Code} {D : va_G} {A : Nat → Prop} {ad : Nat → Nat} {cI cJ cG : ClassId} {res : Int32 × SI × SJ} (X : Cx p s m args meth c bK_seek (some .boolean) 6 RK) (hK : va_K D vwCl (tysM cI cJ cG) s) (hN : NWs s) (hA : ∀ q, s.heap.size ≤ q → A q)
    {k23 : Int32 → Int32 → SI → SJ → Option (Int32 × SI × SJ)} (hk23 : ∀ (x2 : Int32) (x3 : Int32) (I : SI) (J : SJ), k23 x2 x3 I J = some res → WB p l e (headSpec (Cond.code yK_seek bK_seek 6 (some .boolean) :: gtb) rm_K_seek).room s m args below meth c (MQ below (va_Qi (fun (r : Int32) (u : SI × SJ) => (r, u) = res) (atW D vwCl (tysM cI cJ cG) A (wsM ad cI cJ cG)) A) args s 0 0 A) D vwCl A 6 (wsM ad cI cJ cG I J) 23 [(0, .ref (ad 19)), (1, .ref (ad 35)), (2, .int x2), (3, .int x3)] [])
    {k81 : Int32 → Int32 → Int32 → Int32 → SI → SJ → Option (Int32 × SI × SJ)} (hk81 : ∀ (x2 : Int32) (x3 : Int32) (x4 : Int32) (x5 : Int32) (I : SI) (J : SJ), k81 x2 x3 x4 x5 I J = some res → WB p l e (headSpec (Cond.code yK_seek bK_seek 6 (some .boolean) :: gtb) rm_K_seek).room s m args below meth c (MQ below (va_Qi (fun (r : Int32) (u : SI × SJ) => (r, u) = res) (atW D vwCl (tysM cI cJ cG) A (wsM ad cI cJ cG)) A) args s 0 0 A) D vwCl A 6 (wsM ad cI cJ cG I J) 81 [(0, .ref (ad 19)), (1, .ref (ad 35)), (2, .int x2), (3, .int x3), (4, .int x4), (5, .int x5)] [])
     (x2 : Int32) (x3 : Int32) (x4 : Int32) (I : SI) (J : SJ) (hm : b_K_seek_47 k23 k81 x2 x3 x4 I J = some res) : WB p l e (headSpec (Cond.code yK_seek bK_seek 6 (some .boolean) :: gtb) rm_K_seek).room s m args below meth c (MQ below (va_Qi (fun (r : Int32) (u : SI × SJ) => (r, u) = res) (atW D vwCl (tysM cI cJ cG) A (wsM ad cI cJ cG)) A) args s 0 0 A) D vwCl A 6 (wsM ad cI cJ cG I J) 47 [(0, .ref (ad 19)), (1, .ref (ad 35)), (2, .int x2), (3, .int x3), (4, .int x4)] [] := by
  obtain ⟨hx, hb, hr, hml, hown, hT, hlk⟩ := X
  intro H locs ls hP hD hS hl
  unfold b_K_seek_47 at hm
  refine lv_iload hx hb dK_seek_47 (lv_at hl 4 rfl) ?_
  refine lv_aload_n hx hb dK_seek_49 rfl (lv_at hl 0 rfl) ?_
  refine va_get (D := D) (ci := 0) (v := .int (I 19 7)) (C := RK) (T := TK) (N := 10) hx hb hT inK hown hK hP 19 rfl rfl 7 (by decide) (hT _ wd_206) (fun _ h9 => h9) rfl dK_seek_50 ?_
  refine lv_iconst (v := 1) hx hb dK_seek_53 (by decide) ?_
  refine lv_icmp_le (tgt := 61) hx hb dK_seek_54 (by decide) (fun c1 => ?_) (fun c1 => ?_)
  · have hm := brp hm c1
    refine lv_aload_n hx hb dK_seek_61 rfl (lv_at hl 0 rfl) ?_
    refine va_get (D := D) (ci := 0) (v := .int (I 19 6)) (C := RK) (T := TK) (N := 10) hx hb hT inK hown hK hP 19 rfl rfl 6 (by decide) (hT _ wd_205) (fun _ h9 => h9) rfl dK_seek_62 ?_
    refine lv_icmp_ge (tgt := 139) hx hb dK_seek_65 (by decide) (fun c2 => ?_) (fun c2 => ?_)
    · have hm := brp hm c2
      obtain ⟨v3, ev3⟩ : ∃ z : Int32, z = x3 + 1 := ⟨_, rfl⟩
      have hm := nm_to ev3 hm
      refine lv_iinc (v := v3) (lv' := [(3, .int v3), (0, .ref (ad 19)), (1, .ref (ad 35)), (2, .int x2), (4, .int x4)]) hx hb dK_seek_139 hl (k := 3) rfl (by rw [ev3]; rfl) (by decide) rfl (fun ls hl => ?_)
      refine lv_goto (tgt := 23) hx hb dK_seek_142 (by decide) ?_
      exact hk23 x2 v3 I J hm _ _ _ hP hD hS (lv_sub hl [1, 2, 3, 0] rfl)
    · have hm := brn hm c2
      refine lv_aload_n hx hb dK_seek_68 rfl (lv_at hl 0 rfl) ?_
      refine lv_iload_n hx hb dK_seek_69 rfl (lv_at hl 3 rfl) ?_
      refine lv_iload hx hb dK_seek_70 (lv_at hl 4 rfl) ?_
      obtain ⟨I5, J6, hc7, hm⟩ := cl2_to hm
      refine pst_v (wf := wsM ad cI cJ cG) hD hS hA (va_runV (As := [.int x3, .int x4]) (rest := []) ⟨hx, hb, hml, hown, hT⟩ (c_K_setCrossOf l D ad cI cJ cG _ x3 x4 I J _ hc7) (cwV 2 hT (gV wd_420 wd_422 wd_19 wd_55 wd_423) rfl rfl rfl (by decide +kernel) ⟨Nat.le_of_ble_eq_true rfl, Nat.le_of_ble_eq_true rfl⟩) ⟨preW_fb, va_recv hK hP (ci := 0) (q0 := 19) rfl rfl, preW_at hP hK hN hD⟩ rfl rfl hl.1 rfl (lv_room (Nat.le_of_ble_eq_true rfl)) dK_seek_72 ⟨Nat.zero_le _, Nat.zero_le _⟩) (fun H locs hP hD hS => ?_)
      refine lv_iload hx hb dK_seek_75 (lv_at hl 4 rfl) ?_
      refine lv_iconst (v := 1) hx hb dK_seek_77 (by decide) ?_
      refine lv_iadd hx hb dK_seek_78 ?_
      refine lv_topi (fun v8 ev8 => ?_)
      have hm := nm_to ev8 hm
      refine lv_istore (lv' := [(5, .int v8), (0, .ref (ad 19)), (1, .ref (ad 35)), (2, .int x2), (3, .int x3), (4, .int x4)]) hx hb dK_seek_79 hl (by decide) rfl (fun ls hl => ?_)
      exact hk81 x2 x3 x4 v8 I5 J6 hm _ _ _ hP hD hS (lv_sub hl [1, 2, 3, 4, 5, 0] rfl)
  · have hm := brn hm c1
    refine lv_iconst (v := 2) hx hb dK_seek_57 (by decide) ?_
    refine lv_goto (tgt := 65) hx hb dK_seek_58 (by decide) ?_
    refine lv_icmp_ge (tgt := 139) hx hb dK_seek_65 (by decide) (fun c9 => ?_) (fun c9 => ?_)
    · have hm := brp hm c9
      obtain ⟨v10, ev10⟩ : ∃ z : Int32, z = x3 + 1 := ⟨_, rfl⟩
      have hm := nm_to ev10 hm
      refine lv_iinc (v := v10) (lv' := [(3, .int v10), (0, .ref (ad 19)), (1, .ref (ad 35)), (2, .int x2), (4, .int x4)]) hx hb dK_seek_139 hl (k := 3) rfl (by rw [ev10]; rfl) (by decide) rfl (fun ls hl => ?_)
      refine lv_goto (tgt := 23) hx hb dK_seek_142 (by decide) ?_
      exact hk23 x2 v10 I J hm _ _ _ hP hD hS (lv_sub hl [1, 2, 3, 0] rfl)
    · have hm := brn hm c9
      refine lv_aload_n hx hb dK_seek_68 rfl (lv_at hl 0 rfl) ?_
      refine lv_iload_n hx hb dK_seek_69 rfl (lv_at hl 3 rfl) ?_
      refine lv_iload hx hb dK_seek_70 (lv_at hl 4 rfl) ?_
      obtain ⟨I12, J13, hc14, hm⟩ := cl2_to hm
      refine pst_v (wf := wsM ad cI cJ cG) hD hS hA (va_runV (As := [.int x3, .int x4]) (rest := []) ⟨hx, hb, hml, hown, hT⟩ (c_K_setCrossOf l D ad cI cJ cG _ x3 x4 I J _ hc14) (cwV 2 hT (gV wd_420 wd_422 wd_19 wd_55 wd_423) rfl rfl rfl (by decide +kernel) ⟨Nat.le_of_ble_eq_true rfl, Nat.le_of_ble_eq_true rfl⟩) ⟨preW_fb, va_recv hK hP (ci := 0) (q0 := 19) rfl rfl, preW_at hP hK hN hD⟩ rfl rfl hl.1 rfl (lv_room (Nat.le_of_ble_eq_true rfl)) dK_seek_72 ⟨Nat.zero_le _, Nat.zero_le _⟩) (fun H locs hP hD hS => ?_)
      refine lv_iload hx hb dK_seek_75 (lv_at hl 4 rfl) ?_
      refine lv_iconst (v := 1) hx hb dK_seek_77 (by decide) ?_
      refine lv_iadd hx hb dK_seek_78 ?_
      refine lv_topi (fun v15 ev15 => ?_)
      have hm := nm_to ev15 hm
      refine lv_istore (lv' := [(5, .int v15), (0, .ref (ad 19)), (1, .ref (ad 35)), (2, .int x2), (3, .int x3), (4, .int x4)]) hx hb dK_seek_79 hl (by decide) rfl (fun ls hl => ?_)
      exact hk81 x2 x3 x4 v15 I12 J13 hm _ _ _ hP hD hS (lv_sub hl [1, 2, 3, 4, 5, 0] rfl)
set_option maxHeartbeats 4000000 in
set_option maxRecDepth 100000 in
theorem w_K_seek_81 {p : Program} {l : Launch} {e : Env} {s : State} {m : MethodId} {args : Array Value} {below : List Frame} {meth : Method} {c : Code} {D : va_G} {A : Nat → Prop} {ad : Nat → Nat} {cI cJ cG : ClassId} {res : Int32 × SI × SJ} (X : Cx p s m args meth c bK_seek (some .boolean) 6 RK) (hK : va_K D vwCl (tysM cI cJ cG) s) (hN : NWs s) (hA : ∀ q, s.heap.size ≤ q → A q)
    {k99 : Int32 → Int32 → Int32 → Int32 → Int32 → Int32 → SI → SJ → Option (Int32 × SI × SJ)} (hk99 : ∀ (x2 : Int32) (x3 : Int32) (x4 : Int32) (x5 : Int32) (k0 : Int32) (k1 : Int32) (I : SI) (J : SJ), k99 x2 x3 x4 x5 k0 k1 I J = some res → WB p l e (headSpec (Cond.code yK_seek bK_seek 6 (some .boolean) :: gtb) rm_K_seek).room s m args below meth c (MQ below (va_Qi (fun (r : Int32) (u : SI × SJ) => (r, u) = res) (atW D vwCl (tysM cI cJ cG) A (wsM ad cI cJ cG)) A) args s 0 0 A) D vwCl A 6 (wsM ad cI cJ cG I J) 99 [(0, .ref (ad 19)), (1, .ref (ad 35)), (2, .int x2), (3, .int x3), (4, .int x4), (5, .int x5)] [.int k0, .int k1])
     (x2 : Int32) (x3 : Int32) (x4 : Int32) (x5 : Int32) (I : SI) (J : SJ) (hm : b_K_seek_81 k99 x2 x3 x4 x5 I J = some res) : WB p l e (headSpec (Cond.code yK_seek bK_seek 6 (some .boolean) :: gtb) rm_K_seek).room s m args below meth c (MQ below (va_Qi (fun (r : Int32) (u : SI × SJ) => (r, u) = res) (atW D vwCl (tysM cI cJ cG) A (wsM ad cI cJ cG)) A) args s 0 0 A) D vwCl A 6 (wsM ad cI cJ cG I J) 81 [(0, .ref (ad 19)), (1, .ref (ad 35)), (2, .int x2), (3, .int x3), (4, .int x4), (5, .int x5)] [] := by
  obtain ⟨hx, hb, hr, hml, hown, hT, hlk⟩ := X
  intro H locs ls hP hD hS hl
  unfold b_K_seek_81 at hm
  refine lv_iload hx hb dK_seek_81 (lv_at hl 5 rfl) ?_
  refine lv_aload_n hx hb dK_seek_83 rfl (lv_at hl 0 rfl) ?_
  refine va_get (D := D) (ci := 0) (v := .int (I 19 7)) (C := RK) (T := TK) (N := 10) hx hb hT inK hown hK hP 19 rfl rfl 7 (by decide) (hT _ wd_206) (fun _ h9 => h9) rfl dK_seek_84 ?_
  refine lv_iconst (v := 2) hx hb dK_seek_87 (by decide) ?_
  refine lv_icmp_le (tgt := 95) hx hb dK_seek_88 (by decide) (fun c1 => ?_) (fun c1 => ?_)
  · have hm := brp hm c1
    refine lv_aload_n hx hb dK_seek_95 rfl (lv_at hl 0 rfl) ?_
    refine va_get (D := D) (ci := 0) (v := .int (I 19 6)) (C := RK) (T := TK) (N := 10) hx hb hT inK hown hK hP 19 rfl rfl 6 (by decide) (hT _ wd_205) (fun _ h9 => h9) rfl dK_seek_96 ?_
    exact hk99 x2 x3 x4 x5 (I 19 6) x5 I J hm _ _ _ hP hD hS (lv_sub hl [0, 1, 2, 3, 4, 5] rfl)
  · have hm := brn hm c1
    refine lv_iconst (v := 3) hx hb dK_seek_91 (by decide) ?_
    refine lv_goto (tgt := 99) hx hb dK_seek_92 (by decide) ?_
    exact hk99 x2 x3 x4 x5 3 x5 I J hm _ _ _ hP hD hS (lv_sub hl [0, 1, 2, 3, 4, 5] rfl)
set_option maxHeartbeats 4000000 in
set_option maxRecDepth 100000 in
theorem w_K_seek_99 {p : Program} {l : Launch} {e : Env} {s : State} {m : MethodId} {args : Array Value} {below : List Frame} {meth : Method} {c : Code} {D : va_G} {A : Nat → Prop} {ad : Nat → Nat} {cI cJ cG : ClassId} {res : Int32 × SI × SJ} (X : Cx p s m args meth c bK_seek (some .boolean) 6 RK) (hK : va_K D vwCl (tysM cI cJ cG) s) (hN : NWs s) (hA : ∀ q, s.heap.size ≤ q → A q)
    {k47 : Int32 → Int32 → Int32 → SI → SJ → Option (Int32 × SI × SJ)} (hk47 : ∀ (x2 : Int32) (x3 : Int32) (x4 : Int32) (I : SI) (J : SJ), k47 x2 x3 x4 I J = some res → WB p l e (headSpec (Cond.code yK_seek bK_seek 6 (some .boolean) :: gtb) rm_K_seek).room s m args below meth c (MQ below (va_Qi (fun (r : Int32) (u : SI × SJ) => (r, u) = res) (atW D vwCl (tysM cI cJ cG) A (wsM ad cI cJ cG)) A) args s 0 0 A) D vwCl A 6 (wsM ad cI cJ cG I J) 47 [(0, .ref (ad 19)), (1, .ref (ad 35)), (2, .int x2), (3, .int x3), (4, .int x4)] [])
    {k81 : Int32 → Int32 → Int32 → Int32 → SI → SJ → Option (Int32 × SI × SJ)} (hk81 : ∀ (x2 : Int32) (x3 : Int32) (x4 : Int32) (x5 : Int32) (I : SI) (J : SJ), k81 x2 x3 x4 x5 I J = some res → WB p l e (headSpec (Cond.code yK_seek bK_seek 6 (some .boolean) :: gtb) rm_K_seek).room s m args below meth c (MQ below (va_Qi (fun (r : Int32) (u : SI × SJ) => (r, u) = res) (atW D vwCl (tysM cI cJ cG) A (wsM ad cI cJ cG)) A) args s 0 0 A) D vwCl A 6 (wsM ad cI cJ cG I J) 81 [(0, .ref (ad 19)), (1, .ref (ad 35)), (2, .int x2), (3, .int x3), (4, .int x4), (5, .int x5)] [])
     (x2 : Int32) (x3 : Int32) (x4 : Int32) (x5 : Int32) (k0 : Int32) (k1 : Int32) (I : SI) (J : SJ) (hm : b_K_seek_99 k47 k81 x2 x3 x4 x5 k0 k1 I J = some res) : WB p l e (headSpec (Cond.code yK_seek bK_seek 6 (some .boolean) :: gtb) rm_K_seek).room s m args below meth c (MQ below (va_Qi (fun (r : Int32) (u : SI × SJ) => (r, u) = res) (atW D vwCl (tysM cI cJ cG) A (wsM ad cI cJ cG)) A) args s 0 0 A) D vwCl A 6 (wsM ad cI cJ cG I J) 99 [(0, .ref (ad 19)), (1, .ref (ad 35)), (2, .int x2), (3, .int x3), (4, .int x4), (5, .int x5)] [.int k0, .int k1] := by
  obtain ⟨hx, hb, hr, hml, hown, hT, hlk⟩ := X
  intro H locs ls hP hD hS hl
  unfold b_K_seek_99 at hm
  refine lv_icmp_ge (tgt := 133) hx hb dK_seek_99 (by decide) (fun c1 => ?_) (fun c1 => ?_)
  · have hm := brp hm c1
    obtain ⟨v2, ev2⟩ : ∃ z : Int32, z = x4 + 1 := ⟨_, rfl⟩
    have hm := nm_to ev2 hm
    refine lv_iinc (v := v2) (lv' := [(4, .int v2), (0, .ref (ad 19)), (1, .ref (ad 35)), (2, .int x2), (3, .int x3), (5, .int x5)]) hx hb dK_seek_133 hl (k := 4) rfl (by rw [ev2]; rfl) (by decide) rfl (fun ls hl => ?_)
    refine lv_goto (tgt := 47) hx hb dK_seek_136 (by decide) ?_
    exact hk47 x2 x3 v2 I J hm _ _ _ hP hD hS (lv_sub hl [1, 2, 3, 4, 0] rfl)
  · have hm := brn hm c1
    refine lv_aload_n hx hb dK_seek_102 rfl (lv_at hl 0 rfl) ?_
    refine lv_iload_n hx hb dK_seek_103 rfl (lv_at hl 3 rfl) ?_
    refine lv_iload hx hb dK_seek_104 (lv_at hl 4 rfl) ?_
    refine lv_iload hx hb dK_seek_106 (lv_at hl 5 rfl) ?_
    obtain ⟨r3, I4, J5, hc6, hm⟩ := cl3_to hm
    refine pst_i (wf := wsM ad cI cJ cG) hD hS hA (va_runV (As := [.int x3, .int x4, .int x5]) (rest := []) ⟨hx, hb, hml, hown, hT⟩ (c_K_isCorner l D ad cI cJ cG _ x3 x4 x5 I J _ hc6) (cwV 3 hT (gV wd_427 wd_429 wd_20 wd_55 wd_430) rfl rfl rfl (by decide +kernel) ⟨Nat.le_of_ble_eq_true rfl, Nat.le_of_ble_eq_true rfl⟩) ⟨preW_fb, va_recv hK hP (ci := 0) (q0 := 19) rfl rfl, preW_at hP hK hN hD⟩ rfl rfl hl.1 rfl (lv_room (Nat.le_of_ble_eq_true rfl)) dK_seek_108 ⟨Nat.zero_le _, Nat.zero_le _⟩) (fun H locs hP hD hS => ?_)
    refine lv_if_eq (tgt := 127) hx hb dK_seek_111 (by decide) (fun c7 => ?_) (fun c7 => ?_)
    · have hm := brp hm c7
      obtain ⟨v8, ev8⟩ : ∃ z : Int32, z = x5 + 1 := ⟨_, rfl⟩
      have hm := nm_to ev8 hm
      refine lv_iinc (v := v8) (lv' := [(5, .int v8), (0, .ref (ad 19)), (1, .ref (ad 35)), (2, .int x2), (3, .int x3), (4, .int x4)]) hx hb dK_seek_127 hl (k := 5) rfl (by rw [ev8]; rfl) (by decide) rfl (fun ls hl => ?_)
      refine lv_goto (tgt := 81) hx hb dK_seek_130 (by decide) ?_
      exact hk81 x2 x3 x4 v8 I4 J5 hm _ _ _ hP hD hS (lv_sub hl [1, 2, 3, 4, 5, 0] rfl)
    · have hm := brn hm c7
      refine lv_aload_n hx hb dK_seek_114 rfl (lv_at hl 1 rfl) ?_
      refine lv_ifnonnull (tgt := 120) hx hb dK_seek_115 (by decide) ?_
      refine lv_aload_n hx hb dK_seek_120 rfl (lv_at hl 0 rfl) ?_
      refine lv_aload_n hx hb dK_seek_121 rfl (lv_at hl 1 rfl) ?_
      obtain ⟨I10, J11, hc12, hm⟩ := cl2_to hm
      refine pst_v (wf := wsM ad cI cJ cG) hD hS hA (va_runV (As := [.ref (ad 35)]) (rest := []) ⟨hx, hb, hml, hown, hT⟩ (c_K_offer l D ad cI cJ cG _ I4 J5 _ hc12) (cwV 1 hT (gV wd_443 wd_445 wd_24 wd_55 wd_446) rfl rfl rfl (by decide +kernel) ⟨Nat.le_of_ble_eq_true rfl, Nat.le_of_ble_eq_true rfl⟩) ⟨preW_fb, va_recv hK hP (ci := 0) (q0 := 19) rfl rfl, preW_at hP hK hN hD⟩ rfl rfl hl.1 rfl (lv_room (Nat.le_of_ble_eq_true rfl)) dK_seek_122 ⟨Nat.zero_le _, Nat.zero_le _⟩) (fun H locs hP hD hS => ?_)
      refine lv_iconst (v := 1) hx hb dK_seek_125 (by decide) ?_
      refine lv_istore_n (lv' := [(2, .int 1), (0, .ref (ad 19)), (1, .ref (ad 35)), (3, .int x3), (4, .int x4), (5, .int x5)]) hx hb dK_seek_126 rfl hl (by decide) rfl (fun ls hl => ?_)
      obtain ⟨v13, ev13⟩ : ∃ z : Int32, z = x5 + 1 := ⟨_, rfl⟩
      have hm := nm_to ev13 hm
      refine lv_iinc (v := v13) (lv' := [(5, .int v13), (2, .int 1), (0, .ref (ad 19)), (1, .ref (ad 35)), (3, .int x3), (4, .int x4)]) hx hb dK_seek_127 hl (k := 5) rfl (by rw [ev13]; rfl) (by decide) rfl (fun ls hl => ?_)
      refine lv_goto (tgt := 81) hx hb dK_seek_130 (by decide) ?_
      exact hk81 1 x3 x4 v13 I10 J11 hm _ _ _ hP hD hS (lv_sub hl [2, 3, 1, 4, 5, 0] rfl)
set_option maxHeartbeats 4000000 in
set_option maxRecDepth 100000 in
theorem w_K_seek_0 {p : Program} {l : Launch} {e : Env} {s : State} {m : MethodId} {args : Array Value} {below : List Frame} {meth : Method} {c : Code} {D : va_G} {A : Nat → Prop} {ad : Nat → Nat} {cI cJ cG : ClassId} {res : Int32 × SI × SJ} (X : Cx p s m args meth c bK_seek (some .boolean) 6 RK) (hK : va_K D vwCl (tysM cI cJ cG) s) (hN : NWs s) (hA : ∀ q, s.heap.size ≤ q → A q)
    {k23 : Int32 → Int32 → SI → SJ → Option (Int32 × SI × SJ)} (hk23 : ∀ (x2 : Int32) (x3 : Int32) (I : SI) (J : SJ), k23 x2 x3 I J = some res → WB p l e (headSpec (Cond.code yK_seek bK_seek 6 (some .boolean) :: gtb) rm_K_seek).room s m args below meth c (MQ below (va_Qi (fun (r : Int32) (u : SI × SJ) => (r, u) = res) (atW D vwCl (tysM cI cJ cG) A (wsM ad cI cJ cG)) A) args s 0 0 A) D vwCl A 6 (wsM ad cI cJ cG I J) 23 [(0, .ref (ad 19)), (1, .ref (ad 35)), (2, .int x2), (3, .int x3)] [])
     (I : SI) (J : SJ) (hm : b_K_seek_0 k23  I J = some res) : WB p l e (headSpec (Cond.code yK_seek bK_seek 6 (some .boolean) :: gtb) rm_K_seek).room s m args below meth c (MQ below (va_Qi (fun (r : Int32) (u : SI × SJ) => (r, u) = res) (atW D vwCl (tysM cI cJ cG) A (wsM ad cI cJ cG)) A) args s 0 0 A) D vwCl A 6 (wsM ad cI cJ cG I J) 0 [(0, .ref (ad 19)), (1, .ref (ad 35))] [] := by
  obtain ⟨hx, hb, hr, hml, hown, hT, hlk⟩ := X
  intro H locs ls hP hD hS hl
  unfold b_K_seek_0 at hm
  refine lv_aload_n hx hb dK_seek_0 rfl (lv_at hl 0 rfl) ?_
  refine va_get (D := D) (ci := 0) (v := .ref (ad 12)) (C := RK) (T := TK) (N := 10) hx hb hT inK hown hK hP 19 rfl rfl 1 (by decide) (hT _ wd_200) (fun _ h9 => h9) rfl dK_seek_1 ?_
  obtain ⟨r1, I2, J3, hc4, hm⟩ := cl3_to hm
  refine pst_i (wf := wsM ad cI cJ cG) hD hS hA (va_runVN (As := []) (rest := []) ⟨hx, hb, hml, hown, hT⟩ (c_L_leaveRoomToStuffs l D ad cI cJ cG _ I J _ hc4) ⟨va_cnB 0 hT (gtb_good wd_395) rfl rfl rfl (hN _ nw_392) (hT _ wd_54) (by decide +kernel) ⟨Nat.le_of_ble_eq_true rfl, Nat.le_of_ble_eq_true rfl⟩, hT _ wd_394, hT _ wd_12⟩ ⟨preW_fb, va_recv hK hP (ci := 1) (q0 := 12) rfl rfl, preW_at hP hK hN hD⟩ rfl rfl hl.1 rfl (lv_room (Nat.le_of_ble_eq_true rfl)) dK_seek_4 ⟨Nat.zero_le _, Nat.zero_le _⟩) (fun H locs hP hD hS => ?_)
  refine lv_if_eq (tgt := 17) hx hb dK_seek_7 (by decide) (fun c5 => ?_) (fun c5 => ?_)
  · have hm := brp hm c5
    refine lv_iconst (v := 0) hx hb dK_seek_17 (by decide) ?_
    exact W.zret hx hb hr rfl (fun t ht hW => ⟨⟨0, (I2, J3), rfl, Option.some.inj hm, ht ▸ hP, va_K.moved hW.alike hK, hD⟩, hS.F ht⟩) hS.2.2 dK_seek_18 hlk
  · have hm := brn hm c5
    refine lv_aload_n hx hb dK_seek_10 rfl (lv_at hl 0 rfl) ?_
    obtain ⟨r6, I7, J8, hc9, hm⟩ := cl3_to hm
    refine pst_i (wf := wsM ad cI cJ cG) hD hS hA (va_runV (As := []) (rest := []) ⟨hx, hb, hml, hown, hT⟩ (c_K_setPlanes l D ad cI cJ cG _ I2 J3 _ hc9) (cwV 0 hT (gV wd_396 wd_398 wd_13 wd_55 wd_399) rfl rfl rfl (by decide +kernel) ⟨Nat.le_of_ble_eq_true rfl, Nat.le_of_ble_eq_true rfl⟩) ⟨preW_fb, va_recv hK hP (ci := 0) (q0 := 19) rfl rfl, preW_at hP hK hN hD⟩ rfl rfl hl.1 rfl (lv_room (Nat.le_of_ble_eq_true rfl)) dK_seek_11 ⟨Nat.zero_le _, Nat.zero_le _⟩) (fun H locs hP hD hS => ?_)
    refine lv_if_ne (tgt := 19) hx hb dK_seek_14 (by decide) (fun c10 => ?_) (fun c10 => ?_)
    · have hm := brn hm c10
      refine lv_iconst (v := 0) hx hb dK_seek_19 (by decide) ?_
      refine lv_istore_n (lv' := [(2, .int 0), (0, .ref (ad 19)), (1, .ref (ad 35))]) hx hb dK_seek_20 rfl hl (by decide) rfl (fun ls hl => ?_)
      refine lv_iconst (v := 0) hx hb dK_seek_21 (by decide) ?_
      refine lv_istore_n (lv' := [(3, .int 0), (2, .int 0), (0, .ref (ad 19)), (1, .ref (ad 35))]) hx hb dK_seek_22 rfl hl (by decide) rfl (fun ls hl => ?_)
      exact hk23 0 0 I7 J8 hm _ _ _ hP hD hS (lv_sub hl [2, 3, 1, 0] rfl)
    · have hm := brp hm c10
      refine lv_iconst (v := 0) hx hb dK_seek_17 (by decide) ?_
      exact W.zret hx hb hr rfl (fun t ht hW => ⟨⟨0, (I7, J8), rfl, Option.some.inj hm, ht ▸ hP, va_K.moved hW.alike hK, hD⟩, hS.F ht⟩) hS.2.2 dK_seek_18 hlk
set_option maxHeartbeats 4000000 in
theorem gw_K_seek {p : Program} {l : Launch} {e : Env} {s : State} {m : MethodId} {args : Array Value} {below : List Frame} {meth : Method} {c : Code} {D : va_G} {A : Nat → Prop} {ad : Nat → Nat} {cI cJ cG : ClassId} {res : Int32 × SI × SJ} (X : Cx p s m args meth c bK_seek (some .boolean) 6 RK) (hK : va_K D vwCl (tysM cI cJ cG) s) (hN : NWs s) (hA : ∀ q, s.heap.size ≤ q → A q) : ∀ n : Nat, (∀ (x2 : Int32) (x3 : Int32) (I : SI) (J : SJ), (g_K_seek n).1 x2 x3 I J = some res → WB p l e (headSpec (Cond.code yK_seek bK_seek 6 (some .boolean) :: gtb) rm_K_seek).room s m args below meth c (MQ below (va_Qi (fun (r : Int32) (u : SI × SJ) => (r, u) = res) (atW D vwCl (tysM cI cJ cG) A (wsM ad cI cJ cG)) A) args s 0 0 A) D vwCl A 6 (wsM ad cI cJ cG I J) 23 [(0, .ref (ad 19)), (1, .ref (ad 35)), (2, .int x2), (3, .int x3)] []) ∧ (∀ (x2 : Int32) (x3 : Int32) (x4 : Int32) (I : SI) (J : SJ), (g_K_seek n).2.1 x2 x3 x4 I J = some res → WB p l e (headSpec (Cond.code yK_seek bK_seek 6 (some .boolean) :: gtb) rm_K_seek).room s m args below meth c (MQ below (va_Qi (fun (r : Int32) (u : SI × SJ) => (r, u) = res) (atW D vwCl (tysM cI cJ cG) A (wsM ad cI cJ cG)) A) args s 0 0 A) D vwCl A 6 (wsM ad cI cJ cG I J) 47 [(0, .ref (ad 19)), (1, .ref (ad 35)), (2, .int x2), (3, .int x3), (4, .int x4)] []) ∧ (∀ (x2 : Int32) (x3 : Int32) (x4 : Int32) (x5 : Int32) (I : SI) (J : SJ), (g_K_seek n).2.2.1 x2 x3 x4 x5 I J = some res → WB p l e (headSpec (Cond.code yK_seek bK_seek 6 (some .boolean) :: gtb) rm_K_seek).room s m args below meth c (MQ below (va_Qi (fun (r : Int32) (u : SI × SJ) => (r, u) = res) (atW D vwCl (tysM cI cJ cG) A (wsM ad cI cJ cG)) A) args s 0 0 A) D vwCl A 6 (wsM ad cI cJ cG I J) 81 [(0, .ref (ad 19)), (1, .ref (ad 35)), (2, .int x2), (3, .int x3), (4, .int x4), (5, .int x5)] []) ∧ (∀ (x2 : Int32) (x3 : Int32) (x4 : Int32) (x5 : Int32) (k0 : Int32) (k1 : Int32) (I : SI) (J : SJ), (g_K_seek n).2.2.2 x2 x3 x4 x5 k0 k1 I J = some res → WB p l e (headSpec (Cond.code yK_seek bK_seek 6 (some .boolean) :: gtb) rm_K_seek).room s m args below meth c (MQ below (va_Qi (fun (r : Int32) (u : SI × SJ) => (r, u) = res) (atW D vwCl (tysM cI cJ cG) A (wsM ad cI cJ cG)) A) args s 0 0 A) D vwCl A 6 (wsM ad cI cJ cG I J) 99 [(0, .ref (ad 19)), (1, .ref (ad 35)), (2, .int x2), (3, .int x3), (4, .int x4), (5, .int x5)] [.int k0, .int k1]) := by
  intro n
  induction n with
  | zero => exact ⟨fun _ _ _ _ h => (by cases h), fun _ _ _ _ _ h => (by cases h), fun _ _ _ _ _ _ h => (by cases h), fun _ _ _ _ _ _ _ _ h => (by cases h)⟩
  | succ n ih =>
    obtain ⟨ih23, ih47, ih81, ih99⟩ := ih
    exact ⟨fun x2 x3 I J h => w_K_seek_23 X hK hN hA ih47 x2 x3 I J h, fun x2 x3 x4 I J h => w_K_seek_47 X hK hN hA ih23 ih81 x2 x3 x4 I J h, fun x2 x3 x4 x5 I J h => w_K_seek_81 X hK hN hA ih99 x2 x3 x4 x5 I J h, fun x2 x3 x4 x5 k0 k1 I J h => w_K_seek_99 X hK hN hA ih47 ih81 x2 x3 x4 x5 k0 k1 I J h⟩
set_option maxHeartbeats 4000000 in
set_option maxRecDepth 100000 in
theorem c_K_seek (l : Launch) (D : va_G) (ad : Nat → Nat) (cI cJ cG : ClassId) (sz : Nat) (I : SI) (J : SJ) (res : Int32 × SI × SJ) (hm : m_K_seek  I J = some res) : Met l yK_seek (Cond.code yK_seek bK_seek 6 (some .boolean) :: gtb) rm_K_seek (va_Pc [.ref (ad 19), .ref (ad 35)] (preW D vwCl (tysM cI cJ cG) (wsM ad cI cJ cG I J) sz)) (va_Qi (fun (r : Int32) (u : SI × SJ) => (r, u) = res) (atW D vwCl (tysM cI cJ cG) (va_A (wsM ad cI cJ cG I J) sz) (wsM ad cI cJ cG)) (va_A (wsM ad cI cJ cG I J) sz)) 0 0 (va_A (wsM ad cI cJ cG I J) sz) := by
  refine Met.ofW (cc := bK_seek) (maxL := 6) (ret := (some .boolean)) (by decide) rfl ?_
  intro p e s m args below meth c s₁ B hml hv
  obtain ⟨rfl, hsz, hP, hK, hD0, hN⟩ := hv
  subst hsz
  have X : Cx p s m [.ref (ad 19), .ref (ad 35)].toArray meth c bK_seek (some .boolean) 6 RK := ⟨B.exec, B.bytes, B.returns, hml, findClass_of_methodNamed B.named, fun w h => atoms_spec (ws := (Cond.code yK_seek bK_seek 6 (some .boolean) :: gtb)) B.pre w (List.mem_cons_of_mem _ h), B.notSynchronized⟩
  have hl := lv_entry ([.ref (ad 19), .ref (ad 35)]) (n := 6) (Nat.le_of_ble_eq_true rfl)
  rw [lg_entry_eq]
  generalize (lg_sl ([.ref (ad 19), .ref (ad 35)]) ++ List.replicate (6 - (lg_sl ([.ref (ad 19), .ref (ad 35)])).length) Slot.unset).toArray = ls at hl ⊢
  have hl : lv_has ls 6 [(0, .ref (ad 19)), (1, .ref (ad 35))] := hl
  have hA : ∀ q, s.heap.size ≤ q → va_A (wsM ad cI cJ cG I J) s.heap.size q := fun q h => Or.inr h
  exact w_K_seek_0 X hK hN hA (gw_K_seek X hK hN hA fuel).1  I J hm _ _ _ hP hD0.self va_S.rf hl
def b_K_seekN_23 (k47 : Int32 → Int32 → Int32 → SI → SJ → Option (Int32 × SI × SJ)) (x2 : Int32) (x3 : Int32) (I : SI) (J : SJ) : Option (Int32 × SI × SJ) :=
  if (I 19 7) ≤ 0 then
    if (I 19 6) ≤ x3 then
      gd (narrow .boolean (.int x2) = .int x2) <|
      some (x2, I, J)
    else
      nm (x3 + 1) fun v4 =>
      k47 x2 x3 v4 I J
  else
    if 1 ≤ x3 then
      gd (narrow .boolean (.int x2) = .int x2) <|
      some (x2, I, J)
    else
      nm (x3 + 1) fun v7 =>
      k47 x2 x3 v7 I J
def b_K_seekN_47 (k23 : Int32 → Int32 → SI → SJ → Option (Int32 × SI × SJ)) (k81 : Int32 → Int32 → Int32 → Int32 → SI → SJ → Option (Int32 × SI × SJ)) (x2 : Int32) (x3 : Int32) (x4 : Int32) (I : SI) (J : SJ) : Option (Int32 × SI × SJ) :=
  if (I 19 7) ≤ 1 then
    if (I 19 6) ≤ x4 then
      nm (x3 + 1) fun v3 =>
      k23 x2 v3 I J
    else
      cl2 (m_K_setCrossOf x3 x4 I J) fun I5 J6 =>
      nm (x4 + 1) fun v8 =>
      k81 x2 x3 x4 v8 I5 J6
  else
    if 2 ≤ x4 then
      nm (x3 + 1) fun v10 =>
      k23 x2 v10 I J
    else
      cl2 (m_K_setCrossOf x3 x4 I J) fun I12 J13 =>
      nm (x4 + 1) fun v15 =>
      k81 x2 x3 x4 v15 I12 J13
def b_K_seekN_81 (k99 : Int32 → Int32 → Int32 → Int32 → Int32 → Int32 → SI → SJ → Option (Int32 × SI × SJ)) (x2 : Int32) (x3 : Int32) (x4 : Int32) (x5 : Int32) (I : SI) (J : SJ) : Option (Int32 × SI × SJ) :=
  if (I 19 7) ≤ 2 then
    k99 x2 x3 x4 x5 (I 19 6) x5 I J
  else
    k99 x2 x3 x4 x5 3 x5 I J
def b_K_seekN_99 (k47 : Int32 → Int32 → Int32 → SI → SJ → Option (Int32 × SI × SJ)) (k81 : Int32 → Int32 → Int32 → Int32 → SI → SJ → Option (Int32 × SI × SJ)) (x2 : Int32) (x3 : Int32) (x4 : Int32) (x5 : Int32) (k0 : Int32) (k1 : Int32) (I : SI) (J : SJ) : Option (Int32 × SI × SJ) :=
  if k0 ≤ k1 then
    nm (x4 + 1) fun v2 =>
    k47 x2 x3 v2 I J
  else
    cl3 (m_K_isCorner x3 x4 x5 I J) fun r3 I4 J5 =>
    if r3 = 0 then
      nm (x5 + 1) fun v8 =>
      k81 x2 x3 x4 v8 I4 J5
    else
      some (1, I4, J5)
def b_K_seekN_0 (k23 : Int32 → Int32 → SI → SJ → Option (Int32 × SI × SJ)) (I : SI) (J : SJ) : Option (Int32 × SI × SJ) :=
  cl3 (m_L_leaveRoomToStuffs I J) fun r1 I2 J3 =>
  if r1 = 0 then
    some (0, I2, J3)
  else
    cl3 (m_K_setPlanes I2 J3) fun r6 I7 J8 =>
    if r6 = 0 then
      some (0, I7, J8)
    else
      k23 0 0 I7 J8
def g_K_seekN : Nat → (Int32 → Int32 → SI → SJ → Option (Int32 × SI × SJ)) × (Int32 → Int32 → Int32 → SI → SJ → Option (Int32 × SI × SJ)) × (Int32 → Int32 → Int32 → Int32 → SI → SJ → Option (Int32 × SI × SJ)) × (Int32 → Int32 → Int32 → Int32 → Int32 → Int32 → SI → SJ → Option (Int32 × SI × SJ))
  | 0 => (fun _ _ _ _ => none, fun _ _ _ _ _ => none, fun _ _ _ _ _ _ => none, fun _ _ _ _ _ _ _ _ => none)
  | n + 1 => (fun x2 x3 I J => b_K_seekN_23 (g_K_seekN n).2.1 x2 x3 I J, fun x2 x3 x4 I J => b_K_seekN_47 (g_K_seekN n).1 (g_K_seekN n).2.2.1 x2 x3 x4 I J, fun x2 x3 x4 x5 I J => b_K_seekN_81 (g_K_seekN n).2.2.2 x2 x3 x4 x5 I J, fun x2 x3 x4 x5 k0 k1 I J => b_K_seekN_99 (g_K_seekN n).2.1 (g_K_seekN n).2.2.1 x2 x3 x4 x5 k0 k1 I J)
def m_K_seekN (I : SI) (J : SJ) : Option (Int32 × SI × SJ) := b_K_seekN_0 (g_K_seekN fuel).1  I J
def rm_K_seekN : Room := { frames := 4, cells := 0, slots := 0, locals := 103 }
set_option maxHeartbeats 4000000 in
set_option maxRecDepth 100000 in
theorem w_K_seekN_23 {p : Program} {l : Launch} {e : Env} {s : State} {m : MethodId} {args : Array Value} {below : List Frame} {meth : Method} {c : Code} {D : va_G} {A : Nat → Prop} {ad : Nat → Nat} {cI cJ cG : ClassId} {res : Int32 × SI × SJ} (X : Cx p s m args meth c bK_seek (some .boolean) 6 RK) (hK : va_K D vwCl (tysM cI cJ cG) s) (hN : NWs s) (hA : ∀ q, s.heap.size ≤ q → A q)
    {k47 : Int32 → Int32 → Int32 → SI → SJ → Option (Int32 × SI × SJ)} (hk47 : ∀ (x2 : Int32) (x3 : Int32) (x4 : Int32) (I : SI) (J : SJ), k47 x2 x3 x4 I J = some res → WB p l e (headSpec (Cond.code yK_seek bK_seek 6 (some .boolean) :: gtb) rm_K_seekN).room s m args below meth c (MQ below (va_Qi (fun (r : Int32) (u : SI × SJ) => (r, u) = res) (atW D vwCl (tysM cI cJ cG) A (wsM ad cI cJ cG)) A) args s 0 0 A) D vwCl A 6 (wsM ad cI cJ cG I J) 47 [(0, .ref (ad 19)), (1, .null), (2, .int x2), (3, .int x3), (4, .int x4)] [])
     (x2 : Int32) (x3 : Int32) (I : SI) (J : SJ) (hm : b_K_seekN_23 k47 x2 x3 I J = some res) : WB p l e (headSpec (Cond.code yK_seek bK_seek 6 (some .boolean) :: gtb) rm_K_seekN).room s m args below meth c (MQ below (va_Qi (fun (r : Int32) (u : SI × SJ) => (r, u) = res) (atW D vwCl (tysM cI cJ cG) A (wsM ad cI cJ cG)) A) args s 0 0 A) D vwCl A 6 (wsM ad cI cJ cG I J) 23 [(0, .ref (ad 19)), (1, .null), (2, .int x2), (3, .int x3)] [] := by
  obtain ⟨hx, hb, hr, hml, hown, hT, hlk⟩ := X
  intro H locs ls hP hD hS hl
  unfold b_K_seekN_23 at hm
  refine lv_iload_n hx hb dK_seek_23 rfl (lv_at hl 3 rfl) ?_
  refine lv_aload_n hx hb dK_seek_24 rfl (lv_at hl 0 rfl) ?_
  refine va_get (D := D) (ci := 0) (v := .int (I 19 7)) (C := RK) (T := TK) (N := 10) hx hb hT inK hown hK hP 19 rfl rfl 7 (by decide) (hT _ wd_206) (fun _ h9 => h9) rfl dK_seek_25 ?_
  refine lv_if_le (tgt := 35) hx hb dK_seek_28 (by decide) (fun c1 => ?_) (fun c1 => ?_)
  · have hm := brp hm c1
    refine lv_aload_n hx hb dK_seek_35 rfl (lv_at hl 0 rfl) ?_
    refine va_get (D := D) (ci := 0) (v := .int (I 19 6)) (C := RK) (T := TK) (N := 10) hx hb hT inK hown hK hP 19 rfl rfl 6 (by decide) (hT _ wd_205) (fun _ h9 => h9) rfl dK_seek_36 ?_
    refine lv_icmp_ge (tgt := 145) hx hb dK_seek_39 (by decide) (fun c2 => ?_) (fun c2 => ?_)
    · have hm := brp hm c2
      refine lv_iload_n hx hb dK_seek_145 rfl (lv_at hl 2 rfl) ?_
      obtain ⟨g3, hm⟩ := gd_to hm
      exact W.zret hx hb hr g3 (fun t ht hW => ⟨⟨x2, (I, J), rfl, Option.some.inj hm, ht ▸ hP, va_K.moved hW.alike hK, hD⟩, hS.F ht⟩) hS.2.2 dK_seek_146 hlk
    · have hm := brn hm c2
      refine lv_iload_n hx hb dK_seek_42 rfl (lv_at hl 3 rfl) ?_
      refine lv_iconst (v := 1) hx hb dK_seek_43 (by decide) ?_
      refine lv_iadd hx hb dK_seek_44 ?_
      refine lv_topi (fun v4 ev4 => ?_)
      have hm := nm_to ev4 hm
      refine lv_istore (lv' := [(4, .int v4), (0, .ref (ad 19)), (1, .null), (2, .int x2), (3, .int x3)]) hx hb dK_seek_45 hl (by decide) rfl (fun ls hl => ?_)
      exact hk47 x2 x3 v4 I J hm _ _ _ hP hD hS (lv_sub hl [1, 2, 3, 4, 0] rfl)
  · have hm := brn hm c1
    refine lv_iconst (v := 1) hx hb dK_seek_31 (by decide) ?_
    refine lv_goto (tgt := 39) hx hb dK_seek_32 (by decide) ?_
    refine lv_icmp_ge (tgt := 145) hx hb dK_seek_39 (by decide) (fun c5 => ?_) (fun c5 => ?_)
    · have hm := brp hm c5
      refine lv_iload_n hx hb dK_seek_145 rfl (lv_at hl 2 rfl) ?_
      obtain ⟨g6, hm⟩ := gd_to hm
      exact W.zret hx hb hr g6 (fun t ht hW => ⟨⟨x2, (I, J), rfl, Option.some.inj hm, ht ▸ hP, va_K.moved hW.alike hK, hD⟩, hS.F ht⟩) hS.2.2 dK_seek_146 hlk
    · have hm := brn hm c5
      refine lv_iload_n hx hb dK_seek_42 rfl (lv_at hl 3 rfl) ?_
      refine lv_iconst (v := 1) hx hb dK_seek_43 (by decide) ?_
      refine lv_iadd hx hb dK_seek_44 ?_
      refine lv_topi (fun v7 ev7 => ?_)
      have hm := nm_to ev7 hm
      refine lv_istore (lv' := [(4, .int v7), (0, .ref (ad 19)), (1, .null), (2, .int x2), (3, .int x3)]) hx hb dK_seek_45 hl (by decide) rfl (fun ls hl => ?_)
      exact hk47 x2 x3 v7 I J hm _ _ _ hP hD hS (lv_sub hl [1, 2, 3, 4, 0] rfl)
set_option maxHeartbeats 4000000 in
set_option maxRecDepth 100000 in
theorem w_K_seekN_47 {p : Program} {l : Launch} {e : Env} {s : State} {m : MethodId} {args : Array Value} {below : List Frame} {meth : Method} {c : Code} {D : va_G} {A : Nat → Prop} {ad : Nat → Nat} {cI cJ cG : ClassId} {res : Int32 × SI × SJ} (X : Cx p s m args meth c bK_seek (some .boolean) 6 RK) (hK : va_K D vwCl (tysM cI cJ cG) s) (hN : NWs s) (hA : ∀ q, s.heap.size ≤ q → A q)
    {k23 : Int32 → Int32 → SI → SJ → Option (Int32 × SI × SJ)} (hk23 : ∀ (x2 : Int32) (x3 : Int32) (I : SI) (J : SJ), k23 x2 x3 I J = some res → WB p l e (headSpec (Cond.code yK_seek bK_seek 6 (some .boolean) :: gtb) rm_K_seekN).room s m args below meth c (MQ below (va_Qi (fun (r : Int32) (u : SI × SJ) => (r, u) = res) (atW D vwCl (tysM cI cJ cG) A (wsM ad cI cJ cG)) A) args s 0 0 A) D vwCl A 6 (wsM ad cI cJ cG I J) 23 [(0, .ref (ad 19)), (1, .null), (2, .int x2), (3, .int x3)] [])
    {k81 : Int32 → Int32 → Int32 → Int32 → SI → SJ → Option (Int32 × SI × SJ)} (hk81 : ∀ (x2 : Int32) (x3 : Int32) (x4 : Int32) (x5 : Int32) (I : SI) (J : SJ), k81 x2 x3 x4 x5 I J = some res → WB p l e (headSpec (Cond.code yK_seek bK_seek 6 (some .boolean) :: gtb) rm_K_seekN).room s m args below meth c (MQ below (va_Qi (fun (r : Int32) (u : SI × SJ) => (r, u) = res) (atW D vwCl (tysM cI cJ cG) A (wsM ad cI cJ cG)) A) args s 0 0 A) D vwCl A 6 (wsM ad cI cJ cG I J) 81 [(0, .ref (ad 19)), (1, .null), (2, .int x2), (3, .int x3), (4, .int x4), (5, .int x5)] [])
     (x2 : Int32) (x3 : Int32) (x4 : Int32) (I : SI) (J : SJ) (hm : b_K_seekN_47 k23 k81 x2 x3 x4 I J = some res) : WB p l e (headSpec (Cond.code yK_seek bK_seek 6 (some .boolean) :: gtb) rm_K_seekN).room s m args below meth c (MQ below (va_Qi (fun (r : Int32) (u : SI × SJ) => (r, u) = res) (atW D vwCl (tysM cI cJ cG) A (wsM ad cI cJ cG)) A) args s 0 0 A) D vwCl A 6 (wsM ad cI cJ cG I J) 47 [(0, .ref (ad 19)), (1, .null), (2, .int x2), (3, .int x3), (4, .int x4)] [] := by
  obtain ⟨hx, hb, hr, hml, hown, hT, hlk⟩ := X
  intro H locs ls hP hD hS hl
  unfold b_K_seekN_47 at hm
  refine lv_iload hx hb dK_seek_47 (lv_at hl 4 rfl) ?_
  refine lv_aload_n hx hb dK_seek_49 rfl (lv_at hl 0 rfl) ?_
  refine va_get (D := D) (ci := 0) (v := .int (I 19 7)) (C := RK) (T := TK) (N := 10) hx hb hT inK hown hK hP 19 rfl rfl 7 (by decide) (hT _ wd_206) (fun _ h9 => h9) rfl dK_seek_50 ?_
  refine lv_iconst (v := 1) hx hb dK_seek_53 (by decide) ?_
  refine lv_icmp_le (tgt := 61) hx hb dK_seek_54 (by decide) (fun c1 => ?_) (fun c1 => ?_)
  · have hm := brp hm c1
    refine lv_aload_n hx hb dK_seek_61 rfl (lv_at hl 0 rfl) ?_
    refine va_get (D := D) (ci := 0) (v := .int (I 19 6)) (C := RK) (T := TK) (N := 10) hx hb hT inK hown hK hP 19 rfl rfl 6 (by decide) (hT _ wd_205) (fun _ h9 => h9) rfl dK_seek_62 ?_
    refine lv_icmp_ge (tgt := 139) hx hb dK_seek_65 (by decide) (fun c2 => ?_) (fun c2 => ?_)
    · have hm := brp hm c2
      obtain ⟨v3, ev3⟩ : ∃ z : Int32, z = x3 + 1 := ⟨_, rfl⟩
      have hm := nm_to ev3 hm
      refine lv_iinc (v := v3) (lv' := [(3, .int v3), (0, .ref (ad 19)), (1, .null), (2, .int x2), (4, .int x4)]) hx hb dK_seek_139 hl (k := 3) rfl (by rw [ev3]; rfl) (by decide) rfl (fun ls hl => ?_)
      refine lv_goto (tgt := 23) hx hb dK_seek_142 (by decide) ?_
      exact hk23 x2 v3 I J hm _ _ _ hP hD hS (lv_sub hl [1, 2, 3, 0] rfl)
    · have hm := brn hm c2
      refine lv_aload_n hx hb dK_seek_68 rfl (lv_at hl 0 rfl) ?_
      refine lv_iload_n hx hb dK_seek_69 rfl (lv_at hl 3 rfl) ?_
      refine lv_iload hx hb dK_seek_70 (lv_at hl 4 rfl) ?_
      obtain ⟨I5, J6, hc7, hm⟩ := cl2_to hm
      refine pst_v (wf := wsM ad cI cJ cG) hD hS hA (va_runV (As := [.int x3, .int x4]) (rest := []) ⟨hx, hb, hml, hown, hT⟩ (c_K_setCrossOf l D ad cI cJ cG _ x3 x4 I J _ hc7) (cwV 2 hT (gV wd_420 wd_422 wd_19 wd_55 wd_423) rfl rfl rfl (by decide +kernel) ⟨Nat.le_of_ble_eq_true rfl, Nat.le_of_ble_eq_true rfl⟩) ⟨preW_fb, va_recv hK hP (ci := 0) (q0 := 19) rfl rfl, preW_at hP hK hN hD⟩ rfl rfl hl.1 rfl (lv_room (Nat.le_of_ble_eq_true rfl)) dK_seek_72 ⟨Nat.zero_le _, Nat.zero_le _⟩) (fun H locs hP hD hS => ?_)
      refine lv_iload hx hb dK_seek_75 (lv_at hl 4 rfl) ?_
      refine lv_iconst (v := 1) hx hb dK_seek_77 (by decide) ?_
      refine lv_iadd hx hb dK_seek_78 ?_
      refine lv_topi (fun v8 ev8 => ?_)
      have hm := nm_to ev8 hm
      refine lv_istore (lv' := [(5, .int v8), (0, .ref (ad 19)), (1, .null), (2, .int x2), (3, .int x3), (4, .int x4)]) hx hb dK_seek_79 hl (by decide) rfl (fun ls hl => ?_)
      exact hk81 x2 x3 x4 v8 I5 J6 hm _ _ _ hP hD hS (lv_sub hl [1, 2, 3, 4, 5, 0] rfl)
  · have hm := brn hm c1
    refine lv_iconst (v := 2) hx hb dK_seek_57 (by decide) ?_
    refine lv_goto (tgt := 65) hx hb dK_seek_58 (by decide) ?_
    refine lv_icmp_ge (tgt := 139) hx hb dK_seek_65 (by decide) (fun c9 => ?_) (fun c9 => ?_)
    · have hm := brp hm c9
      obtain ⟨v10, ev10⟩ : ∃ z : Int32, z = x3 + 1 := ⟨_, rfl⟩
      have hm := nm_to ev10 hm
      refine lv_iinc (v := v10) (lv' := [(3, .int v10), (0, .ref (ad 19)), (1, .null), (2, .int x2), (4, .int x4)]) hx hb dK_seek_139 hl (k := 3) rfl (by rw [ev10]; rfl) (by decide) rfl (fun ls hl => ?_)
      refine lv_goto (tgt := 23) hx hb dK_seek_142 (by decide) ?_
      exact hk23 x2 v10 I J hm _ _ _ hP hD hS (lv_sub hl [1, 2, 3, 0] rfl)
    · have hm := brn hm c9
      refine lv_aload_n hx hb dK_seek_68 rfl (lv_at hl 0 rfl) ?_
      refine lv_iload_n hx hb dK_seek_69 rfl (lv_at hl 3 rfl) ?_
      refine lv_iload hx hb dK_seek_70 (lv_at hl 4 rfl) ?_
      obtain ⟨I12, J13, hc14, hm⟩ := cl2_to hm
      refine pst_v (wf := wsM ad cI cJ cG) hD hS hA (va_runV (As := [.int x3, .int x4]) (rest := []) ⟨hx, hb, hml, hown, hT⟩ (c_K_setCrossOf l D ad cI cJ cG _ x3 x4 I J _ hc14) (cwV 2 hT (gV wd_420 wd_422 wd_19 wd_55 wd_423) rfl rfl rfl (by decide +kernel) ⟨Nat.le_of_ble_eq_true rfl, Nat.le_of_ble_eq_true rfl⟩) ⟨preW_fb, va_recv hK hP (ci := 0) (q0 := 19) rfl rfl, preW_at hP hK hN hD⟩ rfl rfl hl.1 rfl (lv_room (Nat.le_of_ble_eq_true rfl)) dK_seek_72 ⟨Nat.zero_le _, Nat.zero_le _⟩) (fun H locs hP hD hS => ?_)
      refine lv_iload hx hb dK_seek_75 (lv_at hl 4 rfl) ?_
      refine lv_iconst (v := 1) hx hb dK_seek_77 (by decide) ?_
      refine lv_iadd hx hb dK_seek_78 ?_
      refine lv_topi (fun v15 ev15 => ?_)
      have hm := nm_to ev15 hm
      refine lv_istore (lv' := [(5, .int v15), (0, .ref (ad 19)), (1, .null), (2, .int x2), (3, .int x3), (4, .int x4)]) hx hb dK_seek_79 hl (by decide) rfl (fun ls hl => ?_)
      exact hk81 x2 x3 x4 v15 I12 J13 hm _ _ _ hP hD hS (lv_sub hl [1, 2, 3, 4, 5, 0] rfl)
set_option maxHeartbeats 4000000 in
set_option maxRecDepth 100000 in
theorem w_K_seekN_81 {p : Program} {l : Launch} {e : Env} {s : State} {m : MethodId} {args : Array Value} {below : List Frame} {meth : Method} {c : Code} {D : va_G} {A : Nat → Prop} {ad : Nat → Nat} {cI cJ cG : ClassId} {res : Int32 × SI × SJ} (X : Cx p s m args meth c bK_seek (some .boolean) 6 RK) (hK : va_K D vwCl (tysM cI cJ cG) s) (hN : NWs s) (hA : ∀ q, s.heap.size ≤ q → A q)
    {k99 : Int32 → Int32 → Int32 → Int32 → Int32 → Int32 → SI → SJ → Option (Int32 × SI × SJ)} (hk99 : ∀ (x2 : Int32) (x3 : Int32) (x4 : Int32) (x5 : Int32) (k0 : Int32) (k1 : Int32) (I : SI) (J : SJ), k99 x2 x3 x4 x5 k0 k1 I J = some res → WB p l e (headSpec (Cond.code yK_seek bK_seek 6 (some .boolean) :: gtb) rm_K_seekN).room s m args below meth c (MQ below (va_Qi (fun (r : Int32) (u : SI × SJ) => (r, u) = res) (atW D vwCl (tysM cI cJ cG) A (wsM ad cI cJ cG)) A) args s 0 0 A) D vwCl A 6 (wsM ad cI cJ cG I J) 99 [(0, .ref (ad 19)), (1, .null), (2, .int x2), (3, .int x3), (4, .int x4), (5, .int x5)] [.int k0, .int k1])
     (x2 : Int32) (x3 : Int32) (x4 : Int32) (x5 : Int32) (I : SI) (J : SJ) (hm : b_K_seekN_81 k99 x2 x3 x4 x5 I J = some res) : WB p l e (headSpec (Cond.code yK_seek bK_seek 6 (some .boolean) :: gtb) rm_K_seekN).room s m args below meth c (MQ below (va_Qi (fun (r : Int32) (u : SI × SJ) => (r, u) = res) (atW D vwCl (tysM cI cJ cG) A (wsM ad cI cJ cG)) A) args s 0 0 A) D vwCl A 6 (wsM ad cI cJ cG I J) 81 [(0, .ref (ad 19)), (1, .null), (2, .int x2), (3, .int x3), (4, .int x4), (5, .int x5)] [] := by
  obtain ⟨hx, hb, hr, hml, hown, hT, hlk⟩ := X
  intro H locs ls hP hD hS hl
  unfold b_K_seekN_81 at hm
  refine lv_iload hx hb dK_seek_81 (lv_at hl 5 rfl) ?_
  refine lv_aload_n hx hb dK_seek_83 rfl (lv_at hl 0 rfl) ?_
  refine va_get (D := D) (ci := 0) (v := .int (I 19 7)) (C := RK) (T := TK) (N := 10) hx hb hT inK hown hK hP 19 rfl rfl 7 (by decide) (hT _ wd_206) (fun _ h9 => h9) rfl dK_seek_84 ?_
  refine lv_iconst (v := 2) hx hb dK_seek_87 (by decide) ?_
  refine lv_icmp_le (tgt := 95) hx hb dK_seek_88 (by decide) (fun c1 => ?_) (fun c1 => ?_)
  · have hm := brp hm c1
    refine lv_aload_n hx hb dK_seek_95 rfl (lv_at hl 0 rfl) ?_
    refine va_get (D := D) (ci := 0) (v := .int (I 19 6)) (C := RK) (T := TK) (N := 10) hx hb hT inK hown hK hP 19 rfl rfl 6 (by decide) (hT _ wd_205) (fun _ h9 => h9) rfl dK_seek_96 ?_
    exact hk99 x2 x3 x4 x5 (I 19 6) x5 I J hm _ _ _ hP hD hS (lv_sub hl [0, 1, 2, 3, 4, 5] rfl)
  · have hm := brn hm c1
    refine lv_iconst (v := 3) hx hb dK_seek_91 (by decide) ?_
    refine lv_goto (tgt := 99) hx hb dK_seek_92 (by decide) ?_
    exact hk99 x2 x3 x4 x5 3 x5 I J hm _ _ _ hP hD hS (lv_sub hl [0, 1, 2, 3, 4, 5] rfl)
set_option maxHeartbeats 4000000 in
set_option maxRecDepth 100000 in
theorem w_K_seekN_99 {p : Program} {l : Launch} {e : Env} {s : State} {m : MethodId} {args : Array Value} {below : List Frame} {meth : Method} {c : Code} {D : va_G} {A : Nat → Prop} {ad : Nat → Nat} {cI cJ cG : ClassId} {res : Int32 × SI × SJ} (X : Cx p s m args meth c bK_seek (some .boolean) 6 RK) (hK : va_K D vwCl (tysM cI cJ cG) s) (hN : NWs s) (hA : ∀ q, s.heap.size ≤ q → A q)
    {k47 : Int32 → Int32 → Int32 → SI → SJ → Option (Int32 × SI × SJ)} (hk47 : ∀ (x2 : Int32) (x3 : Int32) (x4 : Int32) (I : SI) (J : SJ), k47 x2 x3 x4 I J = some res → WB p l e (headSpec (Cond.code yK_seek bK_seek 6 (some .boolean) :: gtb) rm_K_seekN).room s m args below meth c (MQ below (va_Qi (fun (r : Int32) (u : SI × SJ) => (r, u) = res) (atW D vwCl (tysM cI cJ cG) A (wsM ad cI cJ cG)) A) args s 0 0 A) D vwCl A 6 (wsM ad cI cJ cG I J) 47 [(0, .ref (ad 19)), (1, .null), (2, .int x2), (3, .int x3), (4, .int x4)] [])
    {k81 : Int32 → Int32 → Int32 → Int32 → SI → SJ → Option (Int32 × SI × SJ)} (hk81 : ∀ (x2 : Int32) (x3 : Int32) (x4 : Int32) (x5 : Int32) (I : SI) (J : SJ), k81 x2 x3 x4 x5 I J = some res → WB p l e (headSpec (Cond.code yK_seek bK_seek 6 (some .boolean) :: gtb) rm_K_seekN).room s m args below meth c (MQ below (va_Qi (fun (r : Int32) (u : SI × SJ) => (r, u) = res) (atW D vwCl (tysM cI cJ cG) A (wsM ad cI cJ cG)) A) args s 0 0 A) D vwCl A 6 (wsM ad cI cJ cG I J) 81 [(0, .ref (ad 19)), (1, .null), (2, .int x2), (3, .int x3), (4, .int x4), (5, .int x5)] [])
     (x2 : Int32) (x3 : Int32) (x4 : Int32) (x5 : Int32) (k0 : Int32) (k1 : Int32) (I : SI) (J : SJ) (hm : b_K_seekN_99 k47 k81 x2 x3 x4 x5 k0 k1 I J = some res) : WB p l e (headSpec (Cond.code yK_seek bK_seek 6 (some .boolean) :: gtb) rm_K_seekN).room s m args below meth c (MQ below (va_Qi (fun (r : Int32) (u : SI × SJ) => (r, u) = res) (atW D vwCl (tysM cI cJ cG) A (wsM ad cI cJ cG)) A) args s 0 0 A) D vwCl A 6 (wsM ad cI cJ cG I J) 99 [(0, .ref (ad 19)), (1, .null), (2, .int x2), (3, .int x3), (4, .int x4), (5, .int x5)] [.int k0, .int k1] := by
  obtain ⟨hx, hb, hr, hml, hown, hT, hlk⟩ := X
  intro H locs ls hP hD hS hl
  unfold b_K_seekN_99 at hm
  refine lv_icmp_ge (tgt := 133) hx hb dK_seek_99 (by decide) (fun c1 => ?_) (fun c1 => ?_)
  · have hm := brp hm c1
    obtain ⟨v2, ev2⟩ : ∃ z : Int32, z = x4 + 1 := ⟨_, rfl⟩
    have hm := nm_to ev2 hm
    refine lv_iinc (v := v2) (lv' := [(4, .int v2), (0, .ref (ad 19)), (1, .null), (2, .int x2), (3, .int x3), (5, .int x5)]) hx hb dK_seek_133 hl (k := 4) rfl (by rw [ev2]; rfl) (by decide) rfl (fun ls hl => ?_)
    refine lv_goto (tgt := 47) hx hb dK_seek_136 (by decide) ?_
    exact hk47 x2 x3 v2 I J hm _ _ _ hP hD hS (lv_sub hl [1, 2, 3, 4, 0] rfl)
  · have hm := brn hm c1
    refine lv_aload_n hx hb dK_seek_102 rfl (lv_at hl 0 rfl) ?_
    refine lv_iload_n hx hb dK_seek_103 rfl (lv_at hl 3 rfl) ?_
    refine lv_iload hx hb dK_seek_104 (lv_at hl 4 rfl) ?_
    refine lv_iload hx hb dK_seek_106 (lv_at hl 5 rfl) ?_
    obtain ⟨r3, I4, J5, hc6, hm⟩ := cl3_to hm
    refine pst_i (wf := wsM ad cI cJ cG) hD hS hA (va_runV (As := [.int x3, .int x4, .int x5]) (rest := []) ⟨hx, hb, hml, hown, hT⟩ (c_K_isCorner l D ad cI cJ cG _ x3 x4 x5 I J _ hc6) (cwV 3 hT (gV wd_427 wd_429 wd_20 wd_55 wd_430) rfl rfl rfl (by decide +kernel) ⟨Nat.le_of_ble_eq_true rfl, Nat.le_of_ble_eq_true rfl⟩) ⟨preW_fb, va_recv hK hP (ci := 0) (q0 := 19) rfl rfl, preW_at hP hK hN hD⟩ rfl rfl hl.1 rfl (lv_room (Nat.le_of_ble_eq_true rfl)) dK_seek_108 ⟨Nat.zero_le _, Nat.zero_le _⟩) (fun H locs hP hD hS => ?_)
    refine lv_if_eq (tgt := 127) hx hb dK_seek_111 (by decide) (fun c7 => ?_) (fun c7 => ?_)
    · have hm := brp hm c7
      obtain ⟨v8, ev8⟩ : ∃ z : Int32, z = x5 + 1 := ⟨_, rfl⟩
      have hm := nm_to ev8 hm
      refine lv_iinc (v := v8) (lv' := [(5, .int v8), (0, .ref (ad 19)), (1, .null), (2, .int x2), (3, .int x3), (4, .int x4)]) hx hb dK_seek_127 hl (k := 5) rfl (by rw [ev8]; rfl) (by decide) rfl (fun ls hl => ?_)
      refine lv_goto (tgt := 81) hx hb dK_seek_130 (by decide) ?_
      exact hk81 x2 x3 x4 v8 I4 J5 hm _ _ _ hP hD hS (lv_sub hl [1, 2, 3, 4, 5, 0] rfl)
    · have hm := brn hm c7
      refine lv_aload_nN hx hb dK_seek_114 rfl (lv_at hl 1 rfl) ?_
      refine lv_ifnonnullN hx hb dK_seek_115 ?_
      refine lv_iconst (v := 1) hx hb dK_seek_118 (by decide) ?_
      exact W.zret hx hb hr rfl (fun t ht hW => ⟨⟨1, (I4, J5), rfl, Option.some.inj hm, ht ▸ hP, va_K.moved hW.alike hK, hD⟩, hS.F ht⟩) hS.2.2 dK_seek_119 hlk
set_option maxHeartbeats 4000000 in
set_option maxRecDepth 100000 in
theorem w_K_seekN_0 {p : Program} {l : Launch} {e : Env} {s : State} {m : MethodId} {args : Array Value} {below : List Frame} {meth : Method} {c : Code} {D : va_G} {A : Nat → Prop} {ad : Nat → Nat} {cI cJ cG : ClassId} {res : Int32 × SI × SJ} (X : Cx p s m args meth c bK_seek (some .boolean) 6 RK) (hK : va_K D vwCl (tysM cI cJ cG) s) (hN : NWs s) (hA : ∀ q, s.heap.size ≤ q → A q)
    {k23 : Int32 → Int32 → SI → SJ → Option (Int32 × SI × SJ)} (hk23 : ∀ (x2 : Int32) (x3 : Int32) (I : SI) (J : SJ), k23 x2 x3 I J = some res → WB p l e (headSpec (Cond.code yK_seek bK_seek 6 (some .boolean) :: gtb) rm_K_seekN).room s m args below meth c (MQ below (va_Qi (fun (r : Int32) (u : SI × SJ) => (r, u) = res) (atW D vwCl (tysM cI cJ cG) A (wsM ad cI cJ cG)) A) args s 0 0 A) D vwCl A 6 (wsM ad cI cJ cG I J) 23 [(0, .ref (ad 19)), (1, .null), (2, .int x2), (3, .int x3)] [])
     (I : SI) (J : SJ) (hm : b_K_seekN_0 k23  I J = some res) : WB p l e (headSpec (Cond.code yK_seek bK_seek 6 (some .boolean) :: gtb) rm_K_seekN).room s m args below meth c (MQ below (va_Qi (fun (r : Int32) (u : SI × SJ) => (r, u) = res) (atW D vwCl (tysM cI cJ cG) A (wsM ad cI cJ cG)) A) args s 0 0 A) D vwCl A 6 (wsM ad cI cJ cG I J) 0 [(0, .ref (ad 19)), (1, .null)] [] := by
  obtain ⟨hx, hb, hr, hml, hown, hT, hlk⟩ := X
  intro H locs ls hP hD hS hl
  unfold b_K_seekN_0 at hm
  refine lv_aload_n hx hb dK_seek_0 rfl (lv_at hl 0 rfl) ?_
  refine va_get (D := D) (ci := 0) (v := .ref (ad 12)) (C := RK) (T := TK) (N := 10) hx hb hT inK hown hK hP 19 rfl rfl 1 (by decide) (hT _ wd_200) (fun _ h9 => h9) rfl dK_seek_1 ?_
  obtain ⟨r1, I2, J3, hc4, hm⟩ := cl3_to hm
  refine pst_i (wf := wsM ad cI cJ cG) hD hS hA (va_runVN (As := []) (rest := []) ⟨hx, hb, hml, hown, hT⟩ (c_L_leaveRoomToStuffs l D ad cI cJ cG _ I J _ hc4) ⟨va_cnB 0 hT (gtb_good wd_395) rfl rfl rfl (hN _ nw_392) (hT _ wd_54) (by decide +kernel) ⟨Nat.le_of_ble_eq_true rfl, Nat.le_of_ble_eq_true rfl⟩, hT _ wd_394, hT _ wd_12⟩ ⟨preW_fb, va_recv hK hP (ci := 1) (q0 := 12) rfl rfl, preW_at hP hK hN hD⟩ rfl rfl hl.1 rfl (lv_room (Nat.le_of_ble_eq_true rfl)) dK_seek_4 ⟨Nat.zero_le _, Nat.zero_le _⟩) (fun H locs hP hD hS => ?_)
  refine lv_if_eq (tgt := 17) hx hb dK_seek_7 (by decide) (fun c5 => ?_) (fun c5 => ?_)
  · have hm := brp hm c5
    refine lv_iconst (v := 0) hx hb dK_seek_17 (by decide) ?_
    exact W.zret hx hb hr rfl (fun t ht hW => ⟨⟨0, (I2, J3), rfl, Option.some.inj hm, ht ▸ hP, va_K.moved hW.alike hK, hD⟩, hS.F ht⟩) hS.2.2 dK_seek_18 hlk
  · have hm := brn hm c5
    refine lv_aload_n hx hb dK_seek_10 rfl (lv_at hl 0 rfl) ?_
    obtain ⟨r6, I7, J8, hc9, hm⟩ := cl3_to hm
    refine pst_i (wf := wsM ad cI cJ cG) hD hS hA (va_runV (As := []) (rest := []) ⟨hx, hb, hml, hown, hT⟩ (c_K_setPlanes l D ad cI cJ cG _ I2 J3 _ hc9) (cwV 0 hT (gV wd_396 wd_398 wd_13 wd_55 wd_399) rfl rfl rfl (by decide +kernel) ⟨Nat.le_of_ble_eq_true rfl, Nat.le_of_ble_eq_true rfl⟩) ⟨preW_fb, va_recv hK hP (ci := 0) (q0 := 19) rfl rfl, preW_at hP hK hN hD⟩ rfl rfl hl.1 rfl (lv_room (Nat.le_of_ble_eq_true rfl)) dK_seek_11 ⟨Nat.zero_le _, Nat.zero_le _⟩) (fun H locs hP hD hS => ?_)
    refine lv_if_ne (tgt := 19) hx hb dK_seek_14 (by decide) (fun c10 => ?_) (fun c10 => ?_)
    · have hm := brn hm c10
      refine lv_iconst (v := 0) hx hb dK_seek_19 (by decide) ?_
      refine lv_istore_n (lv' := [(2, .int 0), (0, .ref (ad 19)), (1, .null)]) hx hb dK_seek_20 rfl hl (by decide) rfl (fun ls hl => ?_)
      refine lv_iconst (v := 0) hx hb dK_seek_21 (by decide) ?_
      refine lv_istore_n (lv' := [(3, .int 0), (2, .int 0), (0, .ref (ad 19)), (1, .null)]) hx hb dK_seek_22 rfl hl (by decide) rfl (fun ls hl => ?_)
      exact hk23 0 0 I7 J8 hm _ _ _ hP hD hS (lv_sub hl [2, 3, 1, 0] rfl)
    · have hm := brp hm c10
      refine lv_iconst (v := 0) hx hb dK_seek_17 (by decide) ?_
      exact W.zret hx hb hr rfl (fun t ht hW => ⟨⟨0, (I7, J8), rfl, Option.some.inj hm, ht ▸ hP, va_K.moved hW.alike hK, hD⟩, hS.F ht⟩) hS.2.2 dK_seek_18 hlk
set_option maxHeartbeats 4000000 in
theorem gw_K_seekN {p : Program} {l : Launch} {e : Env} {s : State} {m : MethodId} {args : Array Value} {below : List Frame} {meth : Method} {c : Code} {D : va_G} {A : Nat → Prop} {ad : Nat → Nat} {cI cJ cG : ClassId} {res : Int32 × SI × SJ} (X : Cx p s m args meth c bK_seek (some .boolean) 6 RK) (hK : va_K D vwCl (tysM cI cJ cG) s) (hN : NWs s) (hA : ∀ q, s.heap.size ≤ q → A q) : ∀ n : Nat, (∀ (x2 : Int32) (x3 : Int32) (I : SI) (J : SJ), (g_K_seekN n).1 x2 x3 I J = some res → WB p l e (headSpec (Cond.code yK_seek bK_seek 6 (some .boolean) :: gtb) rm_K_seekN).room s m args below meth c (MQ below (va_Qi (fun (r : Int32) (u : SI × SJ) => (r, u) = res) (atW D vwCl (tysM cI cJ cG) A (wsM ad cI cJ cG)) A) args s 0 0 A) D vwCl A 6 (wsM ad cI cJ cG I J) 23 [(0, .ref (ad 19)), (1, .null), (2, .int x2), (3, .int x3)] []) ∧ (∀ (x2 : Int32) (x3 : Int32) (x4 : Int32) (I : SI) (J : SJ), (g_K_seekN n).2.1 x2 x3 x4 I J = some res → WB p l e (headSpec (Cond.code yK_seek bK_seek 6 (some .boolean) :: gtb) rm_K_seekN).room s m args below meth c (MQ below (va_Qi (fun (r : Int32) (u : SI × SJ) => (r, u) = res) (atW D vwCl (tysM cI cJ cG) A (wsM ad cI cJ cG)) A) args s 0 0 A) D vwCl A 6 (wsM ad cI cJ cG I J) 47 [(0, .ref (ad 19)), (1, .null), (2, .int x2), (3, .int x3), (4, .int x4)] []) ∧ (∀ (x2 : Int32) (x3 : Int32) (x4 : Int32) (x5 : Int32) (I : SI) (J : SJ), (g_K_seekN n).2.2.1 x2 x3 x4 x5 I J = some res → WB p l e (headSpec (Cond.code yK_seek bK_seek 6 (some .boolean) :: gtb) rm_K_seekN).room s m args below meth c (MQ below (va_Qi (fun (r : Int32) (u : SI × SJ) => (r, u) = res) (atW D vwCl (tysM cI cJ cG) A (wsM ad cI cJ cG)) A) args s 0 0 A) D vwCl A 6 (wsM ad cI cJ cG I J) 81 [(0, .ref (ad 19)), (1, .null), (2, .int x2), (3, .int x3), (4, .int x4), (5, .int x5)] []) ∧ (∀ (x2 : Int32) (x3 : Int32) (x4 : Int32) (x5 : Int32) (k0 : Int32) (k1 : Int32) (I : SI) (J : SJ), (g_K_seekN n).2.2.2 x2 x3 x4 x5 k0 k1 I J = some res → WB p l e (headSpec (Cond.code yK_seek bK_seek 6 (some .boolean) :: gtb) rm_K_seekN).room s m args below meth c (MQ below (va_Qi (fun (r : Int32) (u : SI × SJ) => (r, u) = res) (atW D vwCl (tysM cI cJ cG) A (wsM ad cI cJ cG)) A) args s 0 0 A) D vwCl A 6 (wsM ad cI cJ cG I J) 99 [(0, .ref (ad 19)), (1, .null), (2, .int x2), (3, .int x3), (4, .int x4), (5, .int x5)] [.int k0, .int k1]) := by
  intro n
  induction n with
  | zero => exact ⟨fun _ _ _ _ h => (by cases h), fun _ _ _ _ _ h => (by cases h), fun _ _ _ _ _ _ h => (by cases h), fun _ _ _ _ _ _ _ _ h => (by cases h)⟩
  | succ n ih =>
    obtain ⟨ih23, ih47, ih81, ih99⟩ := ih
    exact ⟨fun x2 x3 I J h => w_K_seekN_23 X hK hN hA ih47 x2 x3 I J h, fun x2 x3 x4 I J h => w_K_seekN_47 X hK hN hA ih23 ih81 x2 x3 x4 I J h, fun x2 x3 x4 x5 I J h => w_K_seekN_81 X hK hN hA ih99 x2 x3 x4 x5 I J h, fun x2 x3 x4 x5 k0 k1 I J h => w_K_seekN_99 X hK hN hA ih47 ih81 x2 x3 x4 x5 k0 k1 I J h⟩
set_option maxHeartbeats 4000000 in
set_option maxRecDepth 100000 in
theorem c_K_seekN (l : Launch) (D : va_G) (ad : Nat → Nat) (cI cJ cG : ClassId) (sz : Nat) (I : SI) (J : SJ) (res : Int32 × SI × SJ) (hm : m_K_seekN  I J = some res) : Met l yK_seek (Cond.code yK_seek bK_seek 6 (some .boolean) :: gtb) rm_K_seekN (va_Pc [.ref (ad 19), .null] (preW D vwCl (tysM cI cJ cG) (wsM ad cI cJ cG I J) sz)) (va_Qi (fun (r : Int32) (u : SI × SJ) => (r, u) = res) (atW D vwCl (tysM cI cJ cG) (va_A (wsM ad cI cJ cG I J) sz) (wsM ad cI cJ cG)) (va_A (wsM ad cI cJ cG I J) sz)) 0 0 (va_A (wsM ad cI cJ cG I J) sz) := by
  refine Met.ofW (cc := bK_seek) (maxL := 6) (ret := (some .boolean)) (by decide) rfl ?_
  intro p e s m args below meth c s₁ B hml hv
  obtain ⟨rfl, hsz, hP, hK, hD0, hN⟩ := hv
  subst hsz
  have X : Cx p s m [.ref (ad 19), .null].toArray meth c bK_seek (some .boolean) 6 RK := ⟨B.exec, B.bytes, B.returns, hml, findClass_of_methodNamed B.named, fun w h => atoms_spec (ws := (Cond.code yK_seek bK_seek 6 (some .boolean) :: gtb)) B.pre w (List.mem_cons_of_mem _ h), B.notSynchronized⟩
  have hl := lv_entry ([.ref (ad 19), .null]) (n := 6) (Nat.le_of_ble_eq_true rfl)
  rw [lg_entry_eq]
  generalize (lg_sl ([.ref (ad 19), .null]) ++ List.replicate (6 - (lg_sl ([.ref (ad 19), .null])).length) Slot.unset).toArray = ls at hl ⊢
  have hl : lv_has ls 6 [(0, .ref (ad 19)), (1, .null)] := hl
  have hA : ∀ q, s.heap.size ≤ q → va_A (wsM ad cI cJ cG I J) s.heap.size q := fun q h => Or.inr h
  exact w_K_seekN_0 X hK hN hA (gw_K_seekN X hK hN hA fuel).1  I J hm _ _ _ hP hD0.self va_S.rf hl
