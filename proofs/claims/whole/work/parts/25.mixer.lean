def b_E_begin_0 (x1 : Int32) (I : SI) (J : SJ) : Option (SI × SJ) :=
  cl2 (m_L_keepAll x1 I J) fun I2 J3 =>
  cl2 (m_K_setSlopes I2 J3) fun I6 J7 =>
  some (I6, J7)
def m_E_begin (x1 : Int32) (I : SI) (J : SJ) : Option (SI × SJ) := b_E_begin_0 x1 I J
def rm_E_begin : Room := { frames := 4, cells := 0, slots := 0, locals := 87 }
set_option maxHeartbeats 4000000 in
set_option maxRecDepth 100000 in
theorem w_E_begin_0 {p : Program} {l : Launch} {e : Env} {s : State} {m : MethodId} {args : Array Value} {below : List Frame} {meth : Method} {c : Code} {D : va_G} {A : Nat → Prop} {ad : Nat → Nat} {cI cJ cG : ClassId} {res : SI × SJ} (X : Cx p s m args meth c bE_begin none 2 RE) (hK : va_K D vwCl (tysM cI cJ cG) s) (hN : NWs s) (hA : ∀ q, s.heap.size ≤ q → A q)
     (x1 : Int32) (I : SI) (J : SJ) (hm : b_E_begin_0  x1 I J = some res) : WB p l e (headSpec (Cond.code yE_begin bE_begin 2 none :: gtb) rm_E_begin).room s m args below meth c (MQ below (va_Qv (fun (u : SI × SJ) => u = res) (atW D vwCl (tysM cI cJ cG) A (wsM ad cI cJ cG)) A) args s 0 0 A) D vwCl A 2 (wsM ad cI cJ cG I J) 0 [(0, .ref (ad 34)), (1, .int x1)] [] := by
  obtain ⟨hx, hb, hr, hml, hown, hT, hlk⟩ := X
  intro H locs ls hP hD hS hl
  unfold b_E_begin_0 at hm
  refine lv_aload_n hx hb dE_begin_0 rfl (lv_at hl 0 rfl) ?_
  refine va_get (D := D) (ci := 3) (v := .ref (ad 12)) (C := RE) (T := TE) (N := 3) hx hb hT inE hown hK hP 34 rfl rfl 1 (by decide) (hT _ wd_231) (fun _ h9 => h9) rfl dE_begin_1 ?_
  refine lv_iload_n hx hb dE_begin_4 rfl (lv_at hl 1 rfl) ?_
  obtain ⟨I2, J3, hc4, hm⟩ := cl2_to hm
  refine pst_v (wf := wsM ad cI cJ cG) hD hS hA (va_runVN (As := [.int x1]) (rest := []) ⟨hx, hb, hml, hown, hT⟩ (c_L_keepAll l D ad cI cJ cG _ x1 I J _ hc4) ⟨va_cnB 1 hT (gtb_good wd_341) rfl rfl rfl (hN _ nw_338) (hT _ wd_54) (by decide +kernel) ⟨Nat.le_of_ble_eq_true rfl, Nat.le_of_ble_eq_true rfl⟩, hT _ wd_340, hT _ wd_3⟩ ⟨preW_fb, va_recv hK hP (ci := 1) (q0 := 12) rfl rfl, preW_at hP hK hN hD⟩ rfl rfl hl.1 rfl (lv_room (Nat.le_of_ble_eq_true rfl)) dE_begin_5 ⟨Nat.zero_le _, Nat.zero_le _⟩) (fun H locs hP hD hS => ?_)
  refine lv_aload_n hx hb dE_begin_8 rfl (lv_at hl 0 rfl) ?_
  refine va_get (D := D) (ci := 3) (v := .ref (ad 19)) (C := RE) (T := TE) (N := 3) hx hb hT inE hown hK hP 34 rfl rfl 2 (by decide) (hT _ wd_232) (fun _ h9 => h9) rfl dE_begin_9 ?_
  obtain ⟨I6, J7, hc8, hm⟩ := cl2_to hm
  refine pst_v (wf := wsM ad cI cJ cG) hD hS hA (va_runVN (As := []) (rest := []) ⟨hx, hb, hml, hown, hT⟩ (c_K_setSlopes l D ad cI cJ cG _ I2 J3 _ hc8) ⟨va_cnB 0 hT (gtb_good wd_376) rfl rfl rfl (hN _ nw_373) (hT _ wd_55) (by decide +kernel) ⟨Nat.le_of_ble_eq_true rfl, Nat.le_of_ble_eq_true rfl⟩, hT _ wd_375, hT _ wd_8⟩ ⟨preW_fb, va_recv hK hP (ci := 0) (q0 := 19) rfl rfl, preW_at hP hK hN hD⟩ rfl rfl hl.1 rfl (lv_room (Nat.le_of_ble_eq_true rfl)) dE_begin_12 ⟨Nat.zero_le _, Nat.zero_le _⟩) (fun H locs hP hD hS => ?_)
  exact W.vret hx hb hr (fun t ht hW => ⟨⟨(I6, J7), rfl, Option.some.inj hm, ht ▸ hP, va_K.moved hW.alike hK, hD⟩, hS.F ht⟩) hS.2.2 dE_begin_15 hlk
set_option maxHeartbeats 4000000 in
set_option maxRecDepth 100000 in
theorem c_E_begin (l : Launch) (D : va_G) (ad : Nat → Nat) (cI cJ cG : ClassId) (sz : Nat) (x1 : Int32) (I : SI) (J : SJ) (res : SI × SJ) (hm : m_E_begin x1 I J = some res) : Met l yE_begin (Cond.code yE_begin bE_begin 2 none :: gtb) rm_E_begin (va_Pc [.ref (ad 34), .int x1] (preW D vwCl (tysM cI cJ cG) (wsM ad cI cJ cG I J) sz)) (va_Qv (fun (u : SI × SJ) => u = res) (atW D vwCl (tysM cI cJ cG) (va_A (wsM ad cI cJ cG I J) sz) (wsM ad cI cJ cG)) (va_A (wsM ad cI cJ cG I J) sz)) 0 0 (va_A (wsM ad cI cJ cG I J) sz) := by
  refine Met.ofW (cc := bE_begin) (maxL := 2) (ret := none) (by decide) rfl ?_
  intro p e s m args below meth c s₁ B hml hv
  obtain ⟨rfl, hsz, hP, hK, hD0, hN⟩ := hv
  subst hsz
  have X : Cx p s m [.ref (ad 34), .int x1].toArray meth c bE_begin none 2 RE := ⟨B.exec, B.bytes, B.returns, hml, findClass_of_methodNamed B.named, fun w h => atoms_spec (ws := (Cond.code yE_begin bE_begin 2 none :: gtb)) B.pre w (List.mem_cons_of_mem _ h), B.notSynchronized⟩
  have hl := lv_entry ([.ref (ad 34), .int x1]) (n := 2) (Nat.le_of_ble_eq_true rfl)
  rw [lg_entry_eq]
  generalize (lg_sl ([.ref (ad 34), .int x1]) ++ List.replicate (2 - (lg_sl ([.ref (ad 34), .int x1])).length) Slot.unset).toArray = ls at hl ⊢
  have hl : lv_has ls 2 [(0, .ref (ad 34)), (1, .int x1)] := hl
  have hA : ∀ q, s.heap.size ≤ q → va_A (wsM ad cI cJ cG I J) s.heap.size q := fun q h => Or.inr h
  exact w_E_begin_0 X hK hN hA  x1 I J hm _ _ _ hP hD0.self va_S.rf hl
def b_E_fillFromSilos_82 (kf : Int32 → Int32 → SI → SJ → Option (SI × SJ)) (k82 : Int32 → Int32 → Int32 → Int32 → Int32 → Int32 → SI → SJ → Option (SI × SJ)) (x1 : Int32) (x2 : Int32) (x4 : Int32) (x6 : Int32) (x7 : Int32) (x8 : Int32) (I : SI) (J : SJ) : Option (SI × SJ) :=
  if x2 < x8 then
    gd (vin x1 7) <|
    nm (va_up I 13 (upd (I 13) x1.toNatClampNeg x6)) fun I3 =>
    gd (vin x1 7) <|
    nm (va_up I3 14 (upd (I3 14) x1.toNatClampNeg x7)) fun I5 =>
    some (I5, J)
  else
    if x7 < x8 then
      gd (vin x1 7) <|
      nm (va_up I 13 (upd (I 13) x1.toNatClampNeg x6)) fun I8 =>
      gd (vin x1 7) <|
      nm (va_up I8 14 (upd (I8 14) x1.toNatClampNeg x7)) fun I10 =>
      some (I10, J)
    else
      if x8 < x6 then
        nm (x8 + x4) fun v12 =>
        k82 x1 x2 x4 x6 x7 v12 I J
      else
        gd (vin x1 7) <|
        nm (va_up I 13 (upd (I 13) x1.toNatClampNeg x8)) fun I14 =>
        gd (vin x1 7) <|
        nm (va_up I14 14 (upd (I14 14) x1.toNatClampNeg x8)) fun I16 =>
        nm (x1 + 1) fun v17 =>
        nm (x2 - x8) fun v18 =>
        cl2 (kf v17 v18 I16 J) fun I19 J20 =>
        nm (x8 + x4) fun v22 =>
        k82 x1 x2 x4 x6 x7 v22 I19 J20
def b_E_fillFromSilos_0 (kf : Int32 → Int32 → SI → SJ → Option (SI × SJ)) (k82 : Int32 → Int32 → Int32 → Int32 → Int32 → Int32 → SI → SJ → Option (SI × SJ)) (x1 : Int32) (x2 : Int32) (I : SI) (J : SJ) : Option (SI × SJ) :=
  if (I 0 0) ≤ x1 then
    cl3 (m_K_seek I J) fun r2 I3 J4 =>
    some (I3, J4)
  else
    if x1 < 4 then
      gd (vin x1 4) <|
      nm (I 5 x1.toNatClampNeg) fun v8 =>
      nm (10 * v8) fun v9 =>
      if 0 < v9 then
        gd (vin x1 7) <|
        nm (I 13 x1.toNatClampNeg) fun v12 =>
        gd (vin x1 7) <|
        nm (I 14 x1.toNatClampNeg) fun v14 =>
        k82 x1 x2 v9 v12 v14 0 I J
      else
        nm (x1 + 1) fun v15 =>
        cl2 (kf v15 x2 I J) fun I16 J17 =>
        some (I16, J17)
    else
      cl3 (m_K_seek I J) fun r19 I20 J21 =>
      some (I20, J21)
def g_E_fillFromSilos (kf : Int32 → Int32 → SI → SJ → Option (SI × SJ)) : Nat → (Int32 → Int32 → Int32 → Int32 → Int32 → Int32 → SI → SJ → Option (SI × SJ))
  | 0 => (fun _ _ _ _ _ _ _ _ => none)
  | n + 1 => (fun x1 x2 x4 x6 x7 x8 I J => b_E_fillFromSilos_82 kf (g_E_fillFromSilos kf n) x1 x2 x4 x6 x7 x8 I J)
def m_E_fillFromSilos : Nat → Int32 → Int32 → SI → SJ → Option (SI × SJ)
  | 0 => fun _ _ _ _ => none
  | d + 1 => fun x1 x2 I J => b_E_fillFromSilos_0 (m_E_fillFromSilos d) (g_E_fillFromSilos (m_E_fillFromSilos d) fuel) x1 x2 I J
def rm_E_fillFromSilos (d : Nat) : Room := { frames := 5 + d, cells := 0, slots := 0, locals := 128 + 28 * d }
set_option maxHeartbeats 4000000 in
set_option maxRecDepth 100000 in
theorem w_E_fillFromSilos_82 {p : Program} {l : Launch} {e : Env} {s : State} {m : MethodId} {args : Array Value} {below : List Frame} {meth : Method} {c : Code} {D : va_G} {A : Nat → Prop} {ad : Nat → Nat} {cI cJ cG : ClassId} {res : SI × SJ} (X : Cx p s m args meth c bE_fillFromSilos none 9 RE) (hK : va_K D vwCl (tysM cI cJ cG) s) (hN : NWs s) (hA : ∀ q, s.heap.size ≤ q → A q) {dd : Nat} {kf : Int32 → Int32 → SI → SJ → Option (SI × SJ)} (hkf : ∀ (x1 : Int32) (x2 : Int32) (I : SI) (J : SJ) (res : SI × SJ) (sz : Nat), kf x1 x2 I J = some res → Met l yE_fillFromSilos (Cond.code yE_fillFromSilos bE_fillFromSilos 9 none :: gtb) (rm_E_fillFromSilos dd) (va_Pc [.ref (ad 34), .int x1, .int x2, .ref (ad 35)] (preW D vwCl (tysM cI cJ cG) (wsM ad cI cJ cG I J) sz)) (va_Qv (fun (u : SI × SJ) => u = res) (atW D vwCl (tysM cI cJ cG) (va_A (wsM ad cI cJ cG I J) sz) (wsM ad cI cJ cG)) (va_A (wsM ad cI cJ cG I J) sz)) 0 0 (va_A (wsM ad cI cJ cG I J) sz))
    {k82 : Int32 → Int32 → Int32 → Int32 → Int32 → Int32 → SI → SJ → Option (SI × SJ)} (hk82 : ∀ (x1 : Int32) (x2 : Int32) (x4 : Int32) (x6 : Int32) (x7 : Int32) (x8 : Int32) (I : SI) (J : SJ), k82 x1 x2 x4 x6 x7 x8 I J = some res → WB p l e (headSpec (Cond.code yE_fillFromSilos bE_fillFromSilos 9 none :: gtb) (rm_E_fillFromSilos (dd + 1))).room s m args below meth c (MQ below (va_Qv (fun (u : SI × SJ) => u = res) (atW D vwCl (tysM cI cJ cG) A (wsM ad cI cJ cG)) A) args s 0 0 A) D vwCl A 9 (wsM ad cI cJ cG I J) 82 [(0, .ref (ad 34)), (1, .int x1), (2, .int x2), (3, .ref (ad 35)), (4, .int x4), (5, .ref (ad 12)), (6, .int x6), (7, .int x7), (8, .int x8)] [])
     (x1 : Int32) (x2 : Int32) (x4 : Int32) (x6 : Int32) (x7 : Int32) (x8 : Int32) (I : SI) (J : SJ) (hm : b_E_fillFromSilos_82 kf k82 x1 x2 x4 x6 x7 x8 I J = some res) : WB p l e (headSpec (Cond.code yE_fillFromSilos bE_fillFromSilos 9 none :: gtb) (rm_E_fillFromSilos (dd + 1))).room s m args below meth c (MQ below (va_Qv (fun (u : SI × SJ) => u = res) (atW D vwCl (tysM cI cJ cG) A (wsM ad cI cJ cG)) A) args s 0 0 A) D vwCl A 9 (wsM ad cI cJ cG I J) 82 [(0, .ref (ad 34)), (1, .int x1), (2, .int x2), (3, .ref (ad 35)), (4, .int x4), (5, .ref (ad 12)), (6, .int x6), (7, .int x7), (8, .int x8)] [] := by
  obtain ⟨hx, hb, hr, hml, hown, hT, hlk⟩ := X
  intro H locs ls hP hD hS hl
  unfold b_E_fillFromSilos_82 at hm
  refine lv_iload hx hb dE_fillFromSilos_82 (lv_at hl 8 rfl) ?_
  refine lv_iload_n hx hb dE_fillFromSilos_84 rfl (lv_at hl 2 rfl) ?_
  refine lv_icmp_gt (tgt := 142) hx hb dE_fillFromSilos_85 (by decide) (fun c1 => ?_) (fun c1 => ?_)
  · have hm := brp hm c1
    refine lv_aload hx hb dE_fillFromSilos_142 (lv_at hl 5 rfl) ?_
    refine va_getN (D := D) (ci := 1) (v := .ref (ad 13)) (C := RL) (T := TL) (N := 7) hx hb hT inL hown hK hP 12 rfl rfl 4 (by decide) (va_Nw.use rfl (hN _ nw_146)) (fun _ h9 => h9) rfl dE_fillFromSilos_144 ?_
    refine lv_iload_n hx hb dE_fillFromSilos_147 rfl (lv_at hl 1 rfl) ?_
    refine lv_iload hx hb dE_fillFromSilos_148 (lv_at hl 6 rfl) ?_
    obtain ⟨g2, hm⟩ := gd_to hm
    refine va_iast hx hb hK hP hD hS 13 0 rfl rfl g2 dE_fillFromSilos_150 (fun H locs hP hD hS => ?_)
    obtain ⟨I3, eI3⟩ : ∃ z : SI, z = va_up I 13 (upd (I 13) x1.toNatClampNeg x6) := ⟨_, rfl⟩
    have hm := nm_to eI3 hm
    have hP := P_eq (ws2 := wsM ad cI cJ cG I3 J) hP (by rw [eI3]; rfl)
    have hD := D_eq (ws2 := wsM ad cI cJ cG I3 J) hD (by rw [eI3]; rfl)
    refine lv_aload hx hb dE_fillFromSilos_151 (lv_at hl 5 rfl) ?_
    refine va_getN (D := D) (ci := 1) (v := .ref (ad 14)) (C := RL) (T := TL) (N := 7) hx hb hT inL hown hK hP 12 rfl rfl 5 (by decide) (va_Nw.use rfl (hN _ nw_149)) (fun _ h9 => h9) rfl dE_fillFromSilos_153 ?_
    refine lv_iload_n hx hb dE_fillFromSilos_156 rfl (lv_at hl 1 rfl) ?_
    refine lv_iload hx hb dE_fillFromSilos_157 (lv_at hl 7 rfl) ?_
    obtain ⟨g4, hm⟩ := gd_to hm
    refine va_iast hx hb hK hP hD hS 14 0 rfl rfl g4 dE_fillFromSilos_159 (fun H locs hP hD hS => ?_)
    obtain ⟨I5, eI5⟩ : ∃ z : SI, z = va_up I3 14 (upd (I3 14) x1.toNatClampNeg x7) := ⟨_, rfl⟩
    have hm := nm_to eI5 hm
    have hP := P_eq (ws2 := wsM ad cI cJ cG I5 J) hP (by rw [eI5]; rfl)
    have hD := D_eq (ws2 := wsM ad cI cJ cG I5 J) hD (by rw [eI5]; rfl)
    exact W.vret hx hb hr (fun t ht hW => ⟨⟨(I5, J), rfl, Option.some.inj hm, ht ▸ hP, va_K.moved hW.alike hK, hD⟩, hS.F ht⟩) hS.2.2 dE_fillFromSilos_160 hlk
  · have hm := brn hm c1
    refine lv_iload hx hb dE_fillFromSilos_88 (lv_at hl 8 rfl) ?_
    refine lv_iload hx hb dE_fillFromSilos_90 (lv_at hl 7 rfl) ?_
    refine lv_icmp_gt (tgt := 142) hx hb dE_fillFromSilos_92 (by decide) (fun c6 => ?_) (fun c6 => ?_)
    · have hm := brp hm c6
      refine lv_aload hx hb dE_fillFromSilos_142 (lv_at hl 5 rfl) ?_
      refine va_getN (D := D) (ci := 1) (v := .ref (ad 13)) (C := RL) (T := TL) (N := 7) hx hb hT inL hown hK hP 12 rfl rfl 4 (by decide) (va_Nw.use rfl (hN _ nw_146)) (fun _ h9 => h9) rfl dE_fillFromSilos_144 ?_
      refine lv_iload_n hx hb dE_fillFromSilos_147 rfl (lv_at hl 1 rfl) ?_
      refine lv_iload hx hb dE_fillFromSilos_148 (lv_at hl 6 rfl) ?_
      obtain ⟨g7, hm⟩ := gd_to hm
      refine va_iast hx hb hK hP hD hS 13 0 rfl rfl g7 dE_fillFromSilos_150 (fun H locs hP hD hS => ?_)
      obtain ⟨I8, eI8⟩ : ∃ z : SI, z = va_up I 13 (upd (I 13) x1.toNatClampNeg x6) := ⟨_, rfl⟩
      have hm := nm_to eI8 hm
      have hP := P_eq (ws2 := wsM ad cI cJ cG I8 J) hP (by rw [eI8]; rfl)
      have hD := D_eq (ws2 := wsM ad cI cJ cG I8 J) hD (by rw [eI8]; rfl)
      refine lv_aload hx hb dE_fillFromSilos_151 (lv_at hl 5 rfl) ?_
      refine va_getN (D := D) (ci := 1) (v := .ref (ad 14)) (C := RL) (T := TL) (N := 7) hx hb hT inL hown hK hP 12 rfl rfl 5 (by decide) (va_Nw.use rfl (hN _ nw_149)) (fun _ h9 => h9) rfl dE_fillFromSilos_153 ?_
      refine lv_iload_n hx hb dE_fillFromSilos_156 rfl (lv_at hl 1 rfl) ?_
      refine lv_iload hx hb dE_fillFromSilos_157 (lv_at hl 7 rfl) ?_
      obtain ⟨g9, hm⟩ := gd_to hm
      refine va_iast hx hb hK hP hD hS 14 0 rfl rfl g9 dE_fillFromSilos_159 (fun H locs hP hD hS => ?_)
      obtain ⟨I10, eI10⟩ : ∃ z : SI, z = va_up I8 14 (upd (I8 14) x1.toNatClampNeg x7) := ⟨_, rfl⟩
      have hm := nm_to eI10 hm
      have hP := P_eq (ws2 := wsM ad cI cJ cG I10 J) hP (by rw [eI10]; rfl)
      have hD := D_eq (ws2 := wsM ad cI cJ cG I10 J) hD (by rw [eI10]; rfl)
      exact W.vret hx hb hr (fun t ht hW => ⟨⟨(I10, J), rfl, Option.some.inj hm, ht ▸ hP, va_K.moved hW.alike hK, hD⟩, hS.F ht⟩) hS.2.2 dE_fillFromSilos_160 hlk
    · have hm := brn hm c6
      refine lv_iload hx hb dE_fillFromSilos_95 (lv_at hl 8 rfl) ?_
      refine lv_iload hx hb dE_fillFromSilos_97 (lv_at hl 6 rfl) ?_
      refine lv_icmp_lt (tgt := 132) hx hb dE_fillFromSilos_99 (by decide) (fun c11 => ?_) (fun c11 => ?_)
      · have hm := brp hm c11
        refine lv_iload hx hb dE_fillFromSilos_132 (lv_at hl 8 rfl) ?_
        refine lv_iload hx hb dE_fillFromSilos_134 (lv_at hl 4 rfl) ?_
        refine lv_iadd hx hb dE_fillFromSilos_136 ?_
        refine lv_topi (fun v12 ev12 => ?_)
        have hm := nm_to ev12 hm
        refine lv_istore (lv' := [(8, .int v12), (0, .ref (ad 34)), (1, .int x1), (2, .int x2), (3, .ref (ad 35)), (4, .int x4), (5, .ref (ad 12)), (6, .int x6), (7, .int x7)]) hx hb dE_fillFromSilos_137 hl (by decide) rfl (fun ls hl => ?_)
        refine lv_goto (tgt := 82) hx hb dE_fillFromSilos_139 (by decide) ?_
        exact hk82 x1 x2 x4 x6 x7 v12 I J hm _ _ _ hP hD hS (lv_sub hl [1, 2, 3, 4, 5, 6, 7, 8, 0] rfl)
      · have hm := brn hm c11
        refine lv_aload hx hb dE_fillFromSilos_102 (lv_at hl 5 rfl) ?_
        refine va_getN (D := D) (ci := 1) (v := .ref (ad 13)) (C := RL) (T := TL) (N := 7) hx hb hT inL hown hK hP 12 rfl rfl 4 (by decide) (va_Nw.use rfl (hN _ nw_146)) (fun _ h9 => h9) rfl dE_fillFromSilos_104 ?_
        refine lv_iload_n hx hb dE_fillFromSilos_107 rfl (lv_at hl 1 rfl) ?_
        refine lv_iload hx hb dE_fillFromSilos_108 (lv_at hl 8 rfl) ?_
        obtain ⟨g13, hm⟩ := gd_to hm
        refine va_iast hx hb hK hP hD hS 13 0 rfl rfl g13 dE_fillFromSilos_110 (fun H locs hP hD hS => ?_)
        obtain ⟨I14, eI14⟩ : ∃ z : SI, z = va_up I 13 (upd (I 13) x1.toNatClampNeg x8) := ⟨_, rfl⟩
        have hm := nm_to eI14 hm
        have hP := P_eq (ws2 := wsM ad cI cJ cG I14 J) hP (by rw [eI14]; rfl)
        have hD := D_eq (ws2 := wsM ad cI cJ cG I14 J) hD (by rw [eI14]; rfl)
        refine lv_aload hx hb dE_fillFromSilos_111 (lv_at hl 5 rfl) ?_
        refine va_getN (D := D) (ci := 1) (v := .ref (ad 14)) (C := RL) (T := TL) (N := 7) hx hb hT inL hown hK hP 12 rfl rfl 5 (by decide) (va_Nw.use rfl (hN _ nw_149)) (fun _ h9 => h9) rfl dE_fillFromSilos_113 ?_
        refine lv_iload_n hx hb dE_fillFromSilos_116 rfl (lv_at hl 1 rfl) ?_
        refine lv_iload hx hb dE_fillFromSilos_117 (lv_at hl 8 rfl) ?_
        obtain ⟨g15, hm⟩ := gd_to hm
        refine va_iast hx hb hK hP hD hS 14 0 rfl rfl g15 dE_fillFromSilos_119 (fun H locs hP hD hS => ?_)
        obtain ⟨I16, eI16⟩ : ∃ z : SI, z = va_up I14 14 (upd (I14 14) x1.toNatClampNeg x8) := ⟨_, rfl⟩
        have hm := nm_to eI16 hm
        have hP := P_eq (ws2 := wsM ad cI cJ cG I16 J) hP (by rw [eI16]; rfl)
        have hD := D_eq (ws2 := wsM ad cI cJ cG I16 J) hD (by rw [eI16]; rfl)
        refine lv_aload_n hx hb dE_fillFromSilos_120 rfl (lv_at hl 0 rfl) ?_
        refine lv_iload_n hx hb dE_fillFromSilos_121 rfl (lv_at hl 1 rfl) ?_
        refine lv_iconst (v := 1) hx hb dE_fillFromSilos_122 (by decide) ?_
        refine lv_iadd hx hb dE_fillFromSilos_123 ?_
        refine lv_topi (fun v17 ev17 => ?_)
        have hm := nm_to ev17 hm
        refine lv_iload_n hx hb dE_fillFromSilos_124 rfl (lv_at hl 2 rfl) ?_
        refine lv_iload hx hb dE_fillFromSilos_125 (lv_at hl 8 rfl) ?_
        refine lv_isub hx hb dE_fillFromSilos_127 ?_
        refine lv_topi (fun v18 ev18 => ?_)
        have hm := nm_to ev18 hm
        refine lv_aload_n hx hb dE_fillFromSilos_128 rfl (lv_at hl 3 rfl) ?_
        obtain ⟨I19, J20, hc21, hm⟩ := cl2_to hm
        refine pst_v (wf := wsM ad cI cJ cG) hD hS hA (va_runS (As := [.ref (ad 34), .int v17, .int v18, .ref (ad 35)]) (rest := []) ⟨hx, hb, hml, hown, hT⟩ (hkf v17 v18 I16 J _ _ hc21) (va_cwS 4 hT (gS wd_385 wd_386 wd_53 wd_387) rfl rfl rfl (by decide +kernel) ⟨Nat.le_refl _, Nat.le_of_eq (by show 8 + (9 + 11) + (128 + 28 * dd) = 128 + 28 * (dd + 1); omega)⟩) ⟨preW_fb, preW_at hP hK hN hD⟩ rfl rfl hl.1 rfl (lv_room (Nat.le_of_ble_eq_true rfl)) dE_fillFromSilos_129 ⟨Nat.zero_le _, Nat.zero_le _⟩) (fun H locs hP hD hS => ?_)
        refine lv_iload hx hb dE_fillFromSilos_132 (lv_at hl 8 rfl) ?_
        refine lv_iload hx hb dE_fillFromSilos_134 (lv_at hl 4 rfl) ?_
        refine lv_iadd hx hb dE_fillFromSilos_136 ?_
        refine lv_topi (fun v22 ev22 => ?_)
        have hm := nm_to ev22 hm
        refine lv_istore (lv' := [(8, .int v22), (0, .ref (ad 34)), (1, .int x1), (2, .int x2), (3, .ref (ad 35)), (4, .int x4), (5, .ref (ad 12)), (6, .int x6), (7, .int x7)]) hx hb dE_fillFromSilos_137 hl (by decide) rfl (fun ls hl => ?_)
        refine lv_goto (tgt := 82) hx hb dE_fillFromSilos_139 (by decide) ?_
        exact hk82 x1 x2 x4 x6 x7 v22 I19 J20 hm _ _ _ hP hD hS (lv_sub hl [1, 2, 3, 4, 5, 6, 7, 8, 0] rfl)
set_option maxHeartbeats 4000000 in
set_option maxRecDepth 100000 in
theorem w_E_fillFromSilos_0 {p : Program} {l : Launch} {e : Env} {s : State} {m : MethodId} {args : Array Value} {below : List Frame} {meth : Method} {c : Code} {D : va_G} {A : Nat → Prop} {ad : Nat → Nat} {cI cJ cG : ClassId} {res : SI × SJ} (X : Cx p s m args meth c bE_fillFromSilos none 9 RE) (hK : va_K D vwCl (tysM cI cJ cG) s) (hN : NWs s) (hA : ∀ q, s.heap.size ≤ q → A q) {dd : Nat} {kf : Int32 → Int32 → SI → SJ → Option (SI × SJ)} (hkf : ∀ (x1 : Int32) (x2 : Int32) (I : SI) (J : SJ) (res : SI × SJ) (sz : Nat), kf x1 x2 I J = some res → Met l yE_fillFromSilos (Cond.code yE_fillFromSilos bE_fillFromSilos 9 none :: gtb) (rm_E_fillFromSilos dd) (va_Pc [.ref (ad 34), .int x1, .int x2, .ref (ad 35)] (preW D vwCl (tysM cI cJ cG) (wsM ad cI cJ cG I J) sz)) (va_Qv (fun (u : SI × SJ) => u = res) (atW D vwCl (tysM cI cJ cG) (va_A (wsM ad cI cJ cG I J) sz) (wsM ad cI cJ cG)) (va_A (wsM ad cI cJ cG I J) sz)) 0 0 (va_A (wsM ad cI cJ cG I J) sz))
    {k82 : Int32 → Int32 → Int32 → Int32 → Int32 → Int32 → SI → SJ → Option (SI × SJ)} (hk82 : ∀ (x1 : Int32) (x2 : Int32) (x4 : Int32) (x6 : Int32) (x7 : Int32) (x8 : Int32) (I : SI) (J : SJ), k82 x1 x2 x4 x6 x7 x8 I J = some res → WB p l e (headSpec (Cond.code yE_fillFromSilos bE_fillFromSilos 9 none :: gtb) (rm_E_fillFromSilos (dd + 1))).room s m args below meth c (MQ below (va_Qv (fun (u : SI × SJ) => u = res) (atW D vwCl (tysM cI cJ cG) A (wsM ad cI cJ cG)) A) args s 0 0 A) D vwCl A 9 (wsM ad cI cJ cG I J) 82 [(0, .ref (ad 34)), (1, .int x1), (2, .int x2), (3, .ref (ad 35)), (4, .int x4), (5, .ref (ad 12)), (6, .int x6), (7, .int x7), (8, .int x8)] [])
     (x1 : Int32) (x2 : Int32) (I : SI) (J : SJ) (hm : b_E_fillFromSilos_0 kf k82 x1 x2 I J = some res) : WB p l e (headSpec (Cond.code yE_fillFromSilos bE_fillFromSilos 9 none :: gtb) (rm_E_fillFromSilos (dd + 1))).room s m args below meth c (MQ below (va_Qv (fun (u : SI × SJ) => u = res) (atW D vwCl (tysM cI cJ cG) A (wsM ad cI cJ cG)) A) args s 0 0 A) D vwCl A 9 (wsM ad cI cJ cG I J) 0 [(0, .ref (ad 34)), (1, .int x1), (2, .int x2), (3, .ref (ad 35))] [] := by
  obtain ⟨hx, hb, hr, hml, hown, hT, hlk⟩ := X
  intro H locs ls hP hD hS hl
  unfold b_E_fillFromSilos_0 at hm
  refine lv_iload_n hx hb dE_fillFromSilos_0 rfl (lv_at hl 1 rfl) ?_
  refine lv_aload_n hx hb dE_fillFromSilos_1 rfl (lv_at hl 0 rfl) ?_
  refine va_get (D := D) (ci := 3) (v := .ref (ad 0)) (C := RE) (T := TE) (N := 3) hx hb hT inE hown hK hP 34 rfl rfl 0 (by decide) (hT _ wd_230) (fun _ h9 => h9) rfl dE_fillFromSilos_2 ?_
  refine va_getN (D := D) (ci := 4) (v := .int (I 0 0)) (C := RT) (T := TT) (N := 9) hx hb hT inT hown hK hP 0 rfl rfl 0 (by decide) (va_Nw.use rfl (hN _ nw_78)) (fun _ h9 => h9) rfl dE_fillFromSilos_5 ?_
  refine lv_icmp_ge (tgt := 16) hx hb dE_fillFromSilos_8 (by decide) (fun c1 => ?_) (fun c1 => ?_)
  · have hm := brp hm c1
    refine lv_aload_n hx hb dE_fillFromSilos_16 rfl (lv_at hl 0 rfl) ?_
    refine va_get (D := D) (ci := 3) (v := .ref (ad 19)) (C := RE) (T := TE) (N := 3) hx hb hT inE hown hK hP 34 rfl rfl 2 (by decide) (hT _ wd_232) (fun _ h9 => h9) rfl dE_fillFromSilos_17 ?_
    refine lv_aload_n hx hb dE_fillFromSilos_20 rfl (lv_at hl 3 rfl) ?_
    obtain ⟨r2, I3, J4, hc5, hm⟩ := cl3_to hm
    refine pst_i (wf := wsM ad cI cJ cG) hD hS hA (va_runVN (As := [.ref (ad 35)]) (rest := []) ⟨hx, hb, hml, hown, hT⟩ (c_K_seek l D ad cI cJ cG _ I J _ hc5) ⟨va_cnB 1 hT (gtb_good wd_391) rfl rfl rfl (hN _ nw_388) (hT _ wd_55) (by decide +kernel) ⟨Nat.le_trans (Nat.le_of_ble_eq_true rfl : rm_K_seek.frames + 1 ≤ 5) (Nat.le_add_right _ _), Nat.le_trans (Nat.le_of_ble_eq_true rfl : 8 + (6 + 11) + rm_K_seek.locals ≤ 128) (Nat.le_add_right _ _)⟩, hT _ wd_390, hT _ wd_11⟩ ⟨preW_fb, va_recv hK hP (ci := 0) (q0 := 19) rfl rfl, preW_at hP hK hN hD⟩ rfl rfl hl.1 rfl (lv_room (Nat.le_of_ble_eq_true rfl)) dE_fillFromSilos_21 ⟨Nat.zero_le _, Nat.zero_le _⟩) (fun H locs hP hD hS => ?_)
    refine lv_pop hx hb dE_fillFromSilos_24 rfl ?_
    exact W.vret hx hb hr (fun t ht hW => ⟨⟨(I3, J4), rfl, Option.some.inj hm, ht ▸ hP, va_K.moved hW.alike hK, hD⟩, hS.F ht⟩) hS.2.2 dE_fillFromSilos_25 hlk
  · have hm := brn hm c1
    refine lv_iload_n hx hb dE_fillFromSilos_11 rfl (lv_at hl 1 rfl) ?_
    refine lv_iconst (v := 4) hx hb dE_fillFromSilos_12 (by decide) ?_
    refine lv_icmp_lt (tgt := 26) hx hb dE_fillFromSilos_13 (by decide) (fun c6 => ?_) (fun c6 => ?_)
    · have hm := brp hm c6
      refine lv_bipush (v := 10) hx hb dE_fillFromSilos_26 (by decide) ?_
      refine lv_aload_n hx hb dE_fillFromSilos_28 rfl (lv_at hl 0 rfl) ?_
      refine va_get (D := D) (ci := 3) (v := .ref (ad 0)) (C := RE) (T := TE) (N := 3) hx hb hT inE hown hK hP 34 rfl rfl 0 (by decide) (hT _ wd_230) (fun _ h9 => h9) rfl dE_fillFromSilos_29 ?_
      refine va_getN (D := D) (ci := 4) (v := .ref (ad 5)) (C := RT) (T := TT) (N := 9) hx hb hT inT hown hK hP 0 rfl rfl 5 (by decide) (va_Nw.use rfl (hN _ nw_93)) (fun _ h9 => h9) rfl dE_fillFromSilos_32 ?_
      refine lv_iload_n hx hb dE_fillFromSilos_35 rfl (lv_at hl 1 rfl) ?_
      obtain ⟨g7, hm⟩ := gd_to hm
      refine va_iald hx hb hK hP 5 0 rfl rfl g7 dE_fillFromSilos_36 ?_
      refine lv_topi (fun v8 ev8 => ?_)
      have hm := nm_to ev8 hm
      refine lv_imul hx hb dE_fillFromSilos_37 ?_
      refine lv_topi (fun v9 ev9 => ?_)
      have hm := nm_to ev9 hm
      refine lv_istore (lv' := [(4, .int v9), (0, .ref (ad 34)), (1, .int x1), (2, .int x2), (3, .ref (ad 35))]) hx hb dE_fillFromSilos_38 hl (by decide) rfl (fun ls hl => ?_)
      refine lv_iload hx hb dE_fillFromSilos_40 (lv_at hl 0 rfl) ?_
      refine lv_if_gt (tgt := 55) hx hb dE_fillFromSilos_42 (by decide) (fun c10 => ?_) (fun c10 => ?_)
      · have hm := brp hm c10
        refine lv_aload_n hx hb dE_fillFromSilos_55 rfl (lv_at hl 1 rfl) ?_
        refine va_get (D := D) (ci := 3) (v := .ref (ad 12)) (C := RE) (T := TE) (N := 3) hx hb hT inE hown hK hP 34 rfl rfl 1 (by decide) (hT _ wd_231) (fun _ h9 => h9) rfl dE_fillFromSilos_56 ?_
        refine lv_astore (lv' := [(5, .ref (ad 12)), (4, .int v9), (0, .ref (ad 34)), (1, .int x1), (2, .int x2), (3, .ref (ad 35))]) hx hb dE_fillFromSilos_59 hl (by decide) rfl (fun ls hl => ?_)
        refine lv_aload hx hb dE_fillFromSilos_61 (lv_at hl 0 rfl) ?_
        refine va_getN (D := D) (ci := 1) (v := .ref (ad 13)) (C := RL) (T := TL) (N := 7) hx hb hT inL hown hK hP 12 rfl rfl 4 (by decide) (va_Nw.use rfl (hN _ nw_146)) (fun _ h9 => h9) rfl dE_fillFromSilos_63 ?_
        refine lv_iload_n hx hb dE_fillFromSilos_66 rfl (lv_at hl 3 rfl) ?_
        obtain ⟨g11, hm⟩ := gd_to hm
        refine va_iald hx hb hK hP 13 0 rfl rfl g11 dE_fillFromSilos_67 ?_
        refine lv_topi (fun v12 ev12 => ?_)
        have hm := nm_to ev12 hm
        refine lv_istore (lv' := [(6, .int v12), (5, .ref (ad 12)), (4, .int v9), (0, .ref (ad 34)), (1, .int x1), (2, .int x2), (3, .ref (ad 35))]) hx hb dE_fillFromSilos_68 hl (by decide) rfl (fun ls hl => ?_)
        refine lv_aload hx hb dE_fillFromSilos_70 (lv_at hl 1 rfl) ?_
        refine va_getN (D := D) (ci := 1) (v := .ref (ad 14)) (C := RL) (T := TL) (N := 7) hx hb hT inL hown hK hP 12 rfl rfl 5 (by decide) (va_Nw.use rfl (hN _ nw_149)) (fun _ h9 => h9) rfl dE_fillFromSilos_72 ?_
        refine lv_iload_n hx hb dE_fillFromSilos_75 rfl (lv_at hl 4 rfl) ?_
        obtain ⟨g13, hm⟩ := gd_to hm
        refine va_iald hx hb hK hP 14 0 rfl rfl g13 dE_fillFromSilos_76 ?_
        refine lv_topi (fun v14 ev14 => ?_)
        have hm := nm_to ev14 hm
        refine lv_istore (lv' := [(7, .int v14), (6, .int v12), (5, .ref (ad 12)), (4, .int v9), (0, .ref (ad 34)), (1, .int x1), (2, .int x2), (3, .ref (ad 35))]) hx hb dE_fillFromSilos_77 hl (by decide) rfl (fun ls hl => ?_)
        refine lv_iconst (v := 0) hx hb dE_fillFromSilos_79 (by decide) ?_
        refine lv_istore (lv' := [(8, .int 0), (7, .int v14), (6, .int v12), (5, .ref (ad 12)), (4, .int v9), (0, .ref (ad 34)), (1, .int x1), (2, .int x2), (3, .ref (ad 35))]) hx hb dE_fillFromSilos_80 hl (by decide) rfl (fun ls hl => ?_)
        exact hk82 x1 x2 v9 v12 v14 0 I J hm _ _ _ hP hD hS (lv_sub hl [5, 6, 7, 8, 4, 3, 2, 1, 0] rfl)
      · have hm := brn hm c10
        refine lv_aload_n hx hb dE_fillFromSilos_45 rfl (lv_at hl 1 rfl) ?_
        refine lv_iload_n hx hb dE_fillFromSilos_46 rfl (lv_at hl 2 rfl) ?_
        refine lv_iconst (v := 1) hx hb dE_fillFromSilos_47 (by decide) ?_
        refine lv_iadd hx hb dE_fillFromSilos_48 ?_
        refine lv_topi (fun v15 ev15 => ?_)
        have hm := nm_to ev15 hm
        refine lv_iload_n hx hb dE_fillFromSilos_49 rfl (lv_at hl 3 rfl) ?_
        refine lv_aload_n hx hb dE_fillFromSilos_50 rfl (lv_at hl 4 rfl) ?_
        obtain ⟨I16, J17, hc18, hm⟩ := cl2_to hm
        refine pst_v (wf := wsM ad cI cJ cG) hD hS hA (va_runS (As := [.ref (ad 34), .int v15, .int x2, .ref (ad 35)]) (rest := []) ⟨hx, hb, hml, hown, hT⟩ (hkf v15 x2 I J _ _ hc18) (va_cwS 4 hT (gS wd_385 wd_386 wd_53 wd_387) rfl rfl rfl (by decide +kernel) ⟨Nat.le_refl _, Nat.le_of_eq (by show 8 + (9 + 11) + (128 + 28 * dd) = 128 + 28 * (dd + 1); omega)⟩) ⟨preW_fb, preW_at hP hK hN hD⟩ rfl rfl hl.1 rfl (lv_room (Nat.le_of_ble_eq_true rfl)) dE_fillFromSilos_51 ⟨Nat.zero_le _, Nat.zero_le _⟩) (fun H locs hP hD hS => ?_)
        exact W.vret hx hb hr (fun t ht hW => ⟨⟨(I16, J17), rfl, Option.some.inj hm, ht ▸ hP, va_K.moved hW.alike hK, hD⟩, hS.F ht⟩) hS.2.2 dE_fillFromSilos_54 hlk
    · have hm := brn hm c6
      refine lv_aload_n hx hb dE_fillFromSilos_16 rfl (lv_at hl 0 rfl) ?_
      refine va_get (D := D) (ci := 3) (v := .ref (ad 19)) (C := RE) (T := TE) (N := 3) hx hb hT inE hown hK hP 34 rfl rfl 2 (by decide) (hT _ wd_232) (fun _ h9 => h9) rfl dE_fillFromSilos_17 ?_
      refine lv_aload_n hx hb dE_fillFromSilos_20 rfl (lv_at hl 3 rfl) ?_
      obtain ⟨r19, I20, J21, hc22, hm⟩ := cl3_to hm
      refine pst_i (wf := wsM ad cI cJ cG) hD hS hA (va_runVN (As := [.ref (ad 35)]) (rest := []) ⟨hx, hb, hml, hown, hT⟩ (c_K_seek l D ad cI cJ cG _ I J _ hc22) ⟨va_cnB 1 hT (gtb_good wd_391) rfl rfl rfl (hN _ nw_388) (hT _ wd_55) (by decide +kernel) ⟨Nat.le_trans (Nat.le_of_ble_eq_true rfl : rm_K_seek.frames + 1 ≤ 5) (Nat.le_add_right _ _), Nat.le_trans (Nat.le_of_ble_eq_true rfl : 8 + (6 + 11) + rm_K_seek.locals ≤ 128) (Nat.le_add_right _ _)⟩, hT _ wd_390, hT _ wd_11⟩ ⟨preW_fb, va_recv hK hP (ci := 0) (q0 := 19) rfl rfl, preW_at hP hK hN hD⟩ rfl rfl hl.1 rfl (lv_room (Nat.le_of_ble_eq_true rfl)) dE_fillFromSilos_21 ⟨Nat.zero_le _, Nat.zero_le _⟩) (fun H locs hP hD hS => ?_)
      refine lv_pop hx hb dE_fillFromSilos_24 rfl ?_
      exact W.vret hx hb hr (fun t ht hW => ⟨⟨(I20, J21), rfl, Option.some.inj hm, ht ▸ hP, va_K.moved hW.alike hK, hD⟩, hS.F ht⟩) hS.2.2 dE_fillFromSilos_25 hlk
set_option maxHeartbeats 4000000 in
theorem gw_E_fillFromSilos {p : Program} {l : Launch} {e : Env} {s : State} {m : MethodId} {args : Array Value} {below : List Frame} {meth : Method} {c : Code} {D : va_G} {A : Nat → Prop} {ad : Nat → Nat} {cI cJ cG : ClassId} {res : SI × SJ} (X : Cx p s m args meth c bE_fillFromSilos none 9 RE) (hK : va_K D vwCl (tysM cI cJ cG) s) (hN : NWs s) (hA : ∀ q, s.heap.size ≤ q → A q) {dd : Nat} {kf : Int32 → Int32 → SI → SJ → Option (SI × SJ)} (hkf : ∀ (x1 : Int32) (x2 : Int32) (I : SI) (J : SJ) (res : SI × SJ) (sz : Nat), kf x1 x2 I J = some res → Met l yE_fillFromSilos (Cond.code yE_fillFromSilos bE_fillFromSilos 9 none :: gtb) (rm_E_fillFromSilos dd) (va_Pc [.ref (ad 34), .int x1, .int x2, .ref (ad 35)] (preW D vwCl (tysM cI cJ cG) (wsM ad cI cJ cG I J) sz)) (va_Qv (fun (u : SI × SJ) => u = res) (atW D vwCl (tysM cI cJ cG) (va_A (wsM ad cI cJ cG I J) sz) (wsM ad cI cJ cG)) (va_A (wsM ad cI cJ cG I J) sz)) 0 0 (va_A (wsM ad cI cJ cG I J) sz)) : ∀ n : Nat, (∀ (x1 : Int32) (x2 : Int32) (x4 : Int32) (x6 : Int32) (x7 : Int32) (x8 : Int32) (I : SI) (J : SJ), (g_E_fillFromSilos kf n) x1 x2 x4 x6 x7 x8 I J = some res → WB p l e (headSpec (Cond.code yE_fillFromSilos bE_fillFromSilos 9 none :: gtb) (rm_E_fillFromSilos (dd + 1))).room s m args below meth c (MQ below (va_Qv (fun (u : SI × SJ) => u = res) (atW D vwCl (tysM cI cJ cG) A (wsM ad cI cJ cG)) A) args s 0 0 A) D vwCl A 9 (wsM ad cI cJ cG I J) 82 [(0, .ref (ad 34)), (1, .int x1), (2, .int x2), (3, .ref (ad 35)), (4, .int x4), (5, .ref (ad 12)), (6, .int x6), (7, .int x7), (8, .int x8)] []) := by
  intro n
  induction n with
  | zero => exact fun _ _ _ _ _ _ _ _ h => (by cases h)
  | succ n ih =>
    have ih82 := ih
    exact fun x1 x2 x4 x6 x7 x8 I J h => w_E_fillFromSilos_82 X hK hN hA hkf ih82 x1 x2 x4 x6 x7 x8 I J h
set_option maxHeartbeats 4000000 in
set_option maxRecDepth 100000 in
theorem c_E_fillFromSilos (l : Launch) (D : va_G) (ad : Nat → Nat) (cI cJ cG : ClassId) : ∀ d : Nat, ∀ (x1 : Int32) (x2 : Int32) (I : SI) (J : SJ) (res : SI × SJ) (sz : Nat), m_E_fillFromSilos d x1 x2 I J = some res → Met l yE_fillFromSilos (Cond.code yE_fillFromSilos bE_fillFromSilos 9 none :: gtb) (rm_E_fillFromSilos d) (va_Pc [.ref (ad 34), .int x1, .int x2, .ref (ad 35)] (preW D vwCl (tysM cI cJ cG) (wsM ad cI cJ cG I J) sz)) (va_Qv (fun (u : SI × SJ) => u = res) (atW D vwCl (tysM cI cJ cG) (va_A (wsM ad cI cJ cG I J) sz) (wsM ad cI cJ cG)) (va_A (wsM ad cI cJ cG I J) sz)) 0 0 (va_A (wsM ad cI cJ cG I J) sz) := by
  intro d
  induction d with
  | zero => intro _ _ _ _ _ _ hm; cases hm
  | succ dd hkf =>
  intro x1 x2 I J res sz hm
  refine Met.ofW (cc := bE_fillFromSilos) (maxL := 9) (ret := none) (by decide) rfl ?_
  intro p e s m args below meth c s₁ B hml hv
  obtain ⟨rfl, hsz, hP, hK, hD0, hN⟩ := hv
  subst hsz
  have X : Cx p s m [.ref (ad 34), .int x1, .int x2, .ref (ad 35)].toArray meth c bE_fillFromSilos none 9 RE := ⟨B.exec, B.bytes, B.returns, hml, findClass_of_methodNamed B.named, fun w h => atoms_spec (ws := (Cond.code yE_fillFromSilos bE_fillFromSilos 9 none :: gtb)) B.pre w (List.mem_cons_of_mem _ h), B.notSynchronized⟩
  have hl := lv_entry ([.ref (ad 34), .int x1, .int x2, .ref (ad 35)]) (n := 9) (Nat.le_of_ble_eq_true rfl)
  rw [lg_entry_eq]
  generalize (lg_sl ([.ref (ad 34), .int x1, .int x2, .ref (ad 35)]) ++ List.replicate (9 - (lg_sl ([.ref (ad 34), .int x1, .int x2, .ref (ad 35)])).length) Slot.unset).toArray = ls at hl ⊢
  have hl : lv_has ls 9 [(0, .ref (ad 34)), (1, .int x1), (2, .int x2), (3, .ref (ad 35))] := hl
  have hA : ∀ q, s.heap.size ≤ q → va_A (wsM ad cI cJ cG I J) s.heap.size q := fun q h => Or.inr h
  exact w_E_fillFromSilos_0 X hK hN hA hkf (gw_E_fillFromSilos X hK hN hA hkf fuel) x1 x2 I J hm _ _ _ hP hD0.self va_S.rf hl
def b_E_findBest_0 (x1 : Int32) (I : SI) (J : SJ) : Option (Int32 × SI × SJ) :=
  cl2 (m_E_begin x1 I J) fun I2 J3 =>
  cl2 (m_X_forget I2 J3) fun I6 J7 =>
  cl2 (m_E_fillFromSilos 6 0 (I6 12 2) I6 J7) fun I10 J11 =>
  cl3 (m_X_isNone I10 J11) fun r13 I14 J15 =>
  if r13 = 0 then
    some (1, I14, J15)
  else
    some (0, I14, J15)
def m_E_findBest (x1 : Int32) (I : SI) (J : SJ) : Option (Int32 × SI × SJ) := b_E_findBest_0 x1 I J
def rm_E_findBest : Room := { frames := 12, cells := 0, slots := 0, locals := 324 }
set_option maxHeartbeats 4000000 in
set_option maxRecDepth 100000 in
theorem w_E_findBest_0 {p : Program} {l : Launch} {e : Env} {s : State} {m : MethodId} {args : Array Value} {below : List Frame} {meth : Method} {c : Code} {D : va_G} {A : Nat → Prop} {ad : Nat → Nat} {cI cJ cG : ClassId} {res : Int32 × SI × SJ} (X : Cx p s m args meth c bE_findBest (some .boolean) 3 RE) (hK : va_K D vwCl (tysM cI cJ cG) s) (hN : NWs s) (hA : ∀ q, s.heap.size ≤ q → A q)
     (x1 : Int32) (I : SI) (J : SJ) (hm : b_E_findBest_0  x1 I J = some res) : WB p l e (headSpec (Cond.code yE_findBest bE_findBest 3 (some .boolean) :: gtb) rm_E_findBest).room s m args below meth c (MQ below (va_Qi (fun (r : Int32) (u : SI × SJ) => (r, u) = res) (atW D vwCl (tysM cI cJ cG) A (wsM ad cI cJ cG)) A) args s 0 0 A) D vwCl A 3 (wsM ad cI cJ cG I J) 0 [(0, .ref (ad 34)), (1, .int x1), (2, .ref (ad 35))] [] := by
  obtain ⟨hx, hb, hr, hml, hown, hT, hlk⟩ := X
  intro H locs ls hP hD hS hl
  unfold b_E_findBest_0 at hm
  refine lv_aload_n hx hb dE_findBest_0 rfl (lv_at hl 0 rfl) ?_
  refine lv_iload_n hx hb dE_findBest_1 rfl (lv_at hl 1 rfl) ?_
  obtain ⟨I2, J3, hc4, hm⟩ := cl2_to hm
  refine pst_v (wf := wsM ad cI cJ cG) hD hS hA (va_runV (As := [.int x1]) (rest := []) ⟨hx, hb, hml, hown, hT⟩ (c_E_begin l D ad cI cJ cG _ x1 I J _ hc4) (cwV 1 hT (gV wd_334 wd_336 wd_2 wd_53 wd_337) rfl rfl rfl (by decide +kernel) ⟨Nat.le_of_ble_eq_true rfl, Nat.le_of_ble_eq_true rfl⟩) ⟨preW_fb, va_recv hK hP (ci := 3) (q0 := 34) rfl rfl, preW_at hP hK hN hD⟩ rfl rfl hl.1 rfl (lv_room (Nat.le_of_ble_eq_true rfl)) dE_findBest_2 ⟨Nat.zero_le _, Nat.zero_le _⟩) (fun H locs hP hD hS => ?_)
  refine lv_aload_n hx hb dE_findBest_5 rfl (lv_at hl 2 rfl) ?_
  obtain ⟨I6, J7, hc8, hm⟩ := cl2_to hm
  refine pst_v (wf := wsM ad cI cJ cG) hD hS hA (va_runVN (As := []) (rest := []) ⟨hx, hb, hml, hown, hT⟩ (c_X_forget l D ad cI cJ cG _ I2 J3 _ hc8) ⟨va_cnB 0 hT (gtb_good wd_384) rfl rfl rfl (hN _ nw_381) (hT _ wd_56) (by decide +kernel) ⟨Nat.le_of_ble_eq_true rfl, Nat.le_of_ble_eq_true rfl⟩, hT _ wd_383, hT _ wd_10⟩ ⟨preW_fb, va_recv hK hP (ci := 2) (q0 := 35) rfl rfl, preW_at hP hK hN hD⟩ rfl rfl hl.1 rfl (lv_room (Nat.le_of_ble_eq_true rfl)) dE_findBest_6 ⟨Nat.zero_le _, Nat.zero_le _⟩) (fun H locs hP hD hS => ?_)
  refine lv_aload_n hx hb dE_findBest_9 rfl (lv_at hl 0 rfl) ?_
  refine lv_iconst (v := 0) hx hb dE_findBest_10 (by decide) ?_
  refine lv_aload_n hx hb dE_findBest_11 rfl (lv_at hl 0 rfl) ?_
  refine va_get (D := D) (ci := 3) (v := .ref (ad 12)) (C := RE) (T := TE) (N := 3) hx hb hT inE hown hK hP 34 rfl rfl 1 (by decide) (hT _ wd_231) (fun _ h9 => h9) rfl dE_findBest_12 ?_
  refine va_getN (D := D) (ci := 1) (v := .int (I6 12 2)) (C := RL) (T := TL) (N := 7) hx hb hT inL hown hK hP 12 rfl rfl 2 (by decide) (va_Nw.use rfl (hN _ nw_142)) (fun _ h9 => h9) rfl dE_findBest_15 ?_
  refine lv_aload_n hx hb dE_findBest_18 rfl (lv_at hl 2 rfl) ?_
  obtain ⟨I10, J11, hc12, hm⟩ := cl2_to hm
  refine pst_v (wf := wsM ad cI cJ cG) hD hS hA (va_runS (As := [.ref (ad 34), .int 0, .int (I6 12 2), .ref (ad 35)]) (rest := []) ⟨hx, hb, hml, hown, hT⟩ (c_E_fillFromSilos l D ad cI cJ cG 6 0 (I6 12 2) I6 J7 _ _ hc12) (va_cwS 4 hT (gS wd_385 wd_386 wd_53 wd_387) rfl rfl rfl (by decide +kernel) ⟨Nat.le_of_ble_eq_true rfl, Nat.le_of_ble_eq_true rfl⟩) ⟨preW_fb, preW_at hP hK hN hD⟩ rfl rfl hl.1 rfl (lv_room (Nat.le_of_ble_eq_true rfl)) dE_findBest_19 ⟨Nat.zero_le _, Nat.zero_le _⟩) (fun H locs hP hD hS => ?_)
  refine lv_aload_n hx hb dE_findBest_22 rfl (lv_at hl 2 rfl) ?_
  obtain ⟨r13, I14, J15, hc16, hm⟩ := cl3_to hm
  refine pst_i (wf := wsM ad cI cJ cG) hD hS hA (va_runVN (As := []) (rest := []) ⟨hx, hb, hml, hown, hT⟩ (c_X_isNone l D ad cI cJ cG _ I10 J11 _ hc16) ⟨va_cnB 0 hT (gtb_good wd_462) rfl rfl rfl (hN _ nw_459) (hT _ wd_56) (by decide +kernel) ⟨Nat.le_of_ble_eq_true rfl, Nat.le_of_ble_eq_true rfl⟩, hT _ wd_461, hT _ wd_27⟩ ⟨preW_fb, va_recv hK hP (ci := 2) (q0 := 35) rfl rfl, preW_at hP hK hN hD⟩ rfl rfl hl.1 rfl (lv_room (Nat.le_of_ble_eq_true rfl)) dE_findBest_23 ⟨Nat.zero_le _, Nat.zero_le _⟩) (fun H locs hP hD hS => ?_)
  refine lv_if_ne (tgt := 33) hx hb dE_findBest_26 (by decide) (fun c17 => ?_) (fun c17 => ?_)
  · have hm := brn hm c17
    refine lv_iconst (v := 0) hx hb dE_findBest_33 (by decide) ?_
    exact W.zret hx hb hr rfl (fun t ht hW => ⟨⟨0, (I14, J15), rfl, Option.some.inj hm, ht ▸ hP, va_K.moved hW.alike hK, hD⟩, hS.F ht⟩) hS.2.2 dE_findBest_34 hlk
  · have hm := brp hm c17
    refine lv_iconst (v := 1) hx hb dE_findBest_29 (by decide) ?_
    refine lv_goto (tgt := 34) hx hb dE_findBest_30 (by decide) ?_
    exact W.zret hx hb hr rfl (fun t ht hW => ⟨⟨1, (I14, J15), rfl, Option.some.inj hm, ht ▸ hP, va_K.moved hW.alike hK, hD⟩, hS.F ht⟩) hS.2.2 dE_findBest_34 hlk
set_option maxHeartbeats 4000000 in
set_option maxRecDepth 100000 in
theorem c_E_findBest (l : Launch) (D : va_G) (ad : Nat → Nat) (cI cJ cG : ClassId) (sz : Nat) (x1 : Int32) (I : SI) (J : SJ) (res : Int32 × SI × SJ) (hm : m_E_findBest x1 I J = some res) : Met l yE_findBest (Cond.code yE_findBest bE_findBest 3 (some .boolean) :: gtb) rm_E_findBest (va_Pc [.ref (ad 34), .int x1, .ref (ad 35)] (preW D vwCl (tysM cI cJ cG) (wsM ad cI cJ cG I J) sz)) (va_Qi (fun (r : Int32) (u : SI × SJ) => (r, u) = res) (atW D vwCl (tysM cI cJ cG) (va_A (wsM ad cI cJ cG I J) sz) (wsM ad cI cJ cG)) (va_A (wsM ad cI cJ cG I J) sz)) 0 0 (va_A (wsM ad cI cJ cG I J) sz) := by
  refine Met.ofW (cc := bE_findBest) (maxL := 3) (ret := (some .boolean)) (by decide) rfl ?_
  intro p e s m args below meth c s₁ B hml hv
  obtain ⟨rfl, hsz, hP, hK, hD0, hN⟩ := hv
  subst hsz
  have X : Cx p s m [.ref (ad 34), .int x1, .ref (ad 35)].toArray meth c bE_findBest (some .boolean) 3 RE := ⟨B.exec, B.bytes, B.returns, hml, findClass_of_methodNamed B.named, fun w h => atoms_spec (ws := (Cond.code yE_findBest bE_findBest 3 (some .boolean) :: gtb)) B.pre w (List.mem_cons_of_mem _ h), B.notSynchronized⟩
  have hl := lv_entry ([.ref (ad 34), .int x1, .ref (ad 35)]) (n := 3) (Nat.le_of_ble_eq_true rfl)
  rw [lg_entry_eq]
  generalize (lg_sl ([.ref (ad 34), .int x1, .ref (ad 35)]) ++ List.replicate (3 - (lg_sl ([.ref (ad 34), .int x1, .ref (ad 35)])).length) Slot.unset).toArray = ls at hl ⊢
  have hl : lv_has ls 3 [(0, .ref (ad 34)), (1, .int x1), (2, .ref (ad 35))] := hl
  have hA : ∀ q, s.heap.size ≤ q → va_A (wsM ad cI cJ cG I J) s.heap.size q := fun q h => Or.inr h
  exact w_E_findBest_0 X hK hN hA  x1 I J hm _ _ _ hP hD0.self va_S.rf hl
def b_E_canKeepBounds_0 (x1 : Int32) (I : SI) (J : SJ) : Option (Int32 × SI × SJ) :=
  cl2 (m_E_begin x1 I J) fun I2 J3 =>
  cl3 (m_K_seekN I2 J3) fun r5 I6 J7 =>
  gd (narrow .boolean (.int r5) = .int r5) <|
  some (r5, I6, J7)
def m_E_canKeepBounds (x1 : Int32) (I : SI) (J : SJ) : Option (Int32 × SI × SJ) := b_E_canKeepBounds_0 x1 I J
def rm_E_canKeepBounds : Room := { frames := 5, cells := 0, slots := 0, locals := 128 }
set_option maxHeartbeats 4000000 in
set_option maxRecDepth 100000 in
theorem w_E_canKeepBounds_0 {p : Program} {l : Launch} {e : Env} {s : State} {m : MethodId} {args : Array Value} {below : List Frame} {meth : Method} {c : Code} {D : va_G} {A : Nat → Prop} {ad : Nat → Nat} {cI cJ cG : ClassId} {res : Int32 × SI × SJ} (X : Cx p s m args meth c bE_canKeepBounds (some .boolean) 2 RE) (hK : va_K D vwCl (tysM cI cJ cG) s) (hN : NWs s) (hA : ∀ q, s.heap.size ≤ q → A q)
     (x1 : Int32) (I : SI) (J : SJ) (hm : b_E_canKeepBounds_0  x1 I J = some res) : WB p l e (headSpec (Cond.code yE_canKeepBounds bE_canKeepBounds 2 (some .boolean) :: gtb) rm_E_canKeepBounds).room s m args below meth c (MQ below (va_Qi (fun (r : Int32) (u : SI × SJ) => (r, u) = res) (atW D vwCl (tysM cI cJ cG) A (wsM ad cI cJ cG)) A) args s 0 0 A) D vwCl A 2 (wsM ad cI cJ cG I J) 0 [(0, .ref (ad 34)), (1, .int x1)] [] := by
  obtain ⟨hx, hb, hr, hml, hown, hT, hlk⟩ := X
  intro H locs ls hP hD hS hl
  unfold b_E_canKeepBounds_0 at hm
  refine lv_aload_n hx hb dE_canKeepBounds_0 rfl (lv_at hl 0 rfl) ?_
  refine lv_iload_n hx hb dE_canKeepBounds_1 rfl (lv_at hl 1 rfl) ?_
  obtain ⟨I2, J3, hc4, hm⟩ := cl2_to hm
  refine pst_v (wf := wsM ad cI cJ cG) hD hS hA (va_runV (As := [.int x1]) (rest := []) ⟨hx, hb, hml, hown, hT⟩ (c_E_begin l D ad cI cJ cG _ x1 I J _ hc4) (cwV 1 hT (gV wd_334 wd_336 wd_2 wd_53 wd_337) rfl rfl rfl (by decide +kernel) ⟨Nat.le_of_ble_eq_true rfl, Nat.le_of_ble_eq_true rfl⟩) ⟨preW_fb, va_recv hK hP (ci := 3) (q0 := 34) rfl rfl, preW_at hP hK hN hD⟩ rfl rfl hl.1 rfl (lv_room (Nat.le_of_ble_eq_true rfl)) dE_canKeepBounds_2 ⟨Nat.zero_le _, Nat.zero_le _⟩) (fun H locs hP hD hS => ?_)
  refine lv_aload_n hx hb dE_canKeepBounds_5 rfl (lv_at hl 0 rfl) ?_
  refine va_get (D := D) (ci := 3) (v := .ref (ad 19)) (C := RE) (T := TE) (N := 3) hx hb hT inE hown hK hP 34 rfl rfl 2 (by decide) (hT _ wd_232) (fun _ h9 => h9) rfl dE_canKeepBounds_6 ?_
  refine lv_null hx hb dE_canKeepBounds_9 ?_
  obtain ⟨r5, I6, J7, hc8, hm⟩ := cl3_to hm
  refine pst_i (wf := wsM ad cI cJ cG) hD hS hA (va_runVN (As := [.null]) (rest := []) ⟨hx, hb, hml, hown, hT⟩ (c_K_seekN l D ad cI cJ cG _ I2 J3 _ hc8) ⟨va_cnB 1 hT (gtb_good wd_391) rfl rfl rfl (hN _ nw_388) (hT _ wd_55) (by decide +kernel) ⟨Nat.le_of_ble_eq_true rfl, Nat.le_of_ble_eq_true rfl⟩, hT _ wd_390, hT _ wd_11⟩ ⟨preW_fb, va_recv hK hP (ci := 0) (q0 := 19) rfl rfl, preW_at hP hK hN hD⟩ rfl rfl hl.1 rfl (lv_room (Nat.le_of_ble_eq_true rfl)) dE_canKeepBounds_10 ⟨Nat.zero_le _, Nat.zero_le _⟩) (fun H locs hP hD hS => ?_)
  obtain ⟨g9, hm⟩ := gd_to hm
  exact W.zret hx hb hr g9 (fun t ht hW => ⟨⟨r5, (I6, J7), rfl, Option.some.inj hm, ht ▸ hP, va_K.moved hW.alike hK, hD⟩, hS.F ht⟩) hS.2.2 dE_canKeepBounds_13 hlk
set_option maxHeartbeats 4000000 in
set_option maxRecDepth 100000 in
theorem c_E_canKeepBounds (l : Launch) (D : va_G) (ad : Nat → Nat) (cI cJ cG : ClassId) (sz : Nat) (x1 : Int32) (I : SI) (J : SJ) (res : Int32 × SI × SJ) (hm : m_E_canKeepBounds x1 I J = some res) : Met l yE_canKeepBounds (Cond.code yE_canKeepBounds bE_canKeepBounds 2 (some .boolean) :: gtb) rm_E_canKeepBounds (va_Pc [.ref (ad 34), .int x1] (preW D vwCl (tysM cI cJ cG) (wsM ad cI cJ cG I J) sz)) (va_Qi (fun (r : Int32) (u : SI × SJ) => (r, u) = res) (atW D vwCl (tysM cI cJ cG) (va_A (wsM ad cI cJ cG I J) sz) (wsM ad cI cJ cG)) (va_A (wsM ad cI cJ cG I J) sz)) 0 0 (va_A (wsM ad cI cJ cG I J) sz) := by
  refine Met.ofW (cc := bE_canKeepBounds) (maxL := 2) (ret := (some .boolean)) (by decide) rfl ?_
  intro p e s m args below meth c s₁ B hml hv
  obtain ⟨rfl, hsz, hP, hK, hD0, hN⟩ := hv
  subst hsz
  have X : Cx p s m [.ref (ad 34), .int x1].toArray meth c bE_canKeepBounds (some .boolean) 2 RE := ⟨B.exec, B.bytes, B.returns, hml, findClass_of_methodNamed B.named, fun w h => atoms_spec (ws := (Cond.code yE_canKeepBounds bE_canKeepBounds 2 (some .boolean) :: gtb)) B.pre w (List.mem_cons_of_mem _ h), B.notSynchronized⟩
  have hl := lv_entry ([.ref (ad 34), .int x1]) (n := 2) (Nat.le_of_ble_eq_true rfl)
  rw [lg_entry_eq]
  generalize (lg_sl ([.ref (ad 34), .int x1]) ++ List.replicate (2 - (lg_sl ([.ref (ad 34), .int x1])).length) Slot.unset).toArray = ls at hl ⊢
  have hl : lv_has ls 2 [(0, .ref (ad 34)), (1, .int x1)] := hl
  have hA : ∀ q, s.heap.size ≤ q → va_A (wsM ad cI cJ cG I J) s.heap.size q := fun q h => Or.inr h
  exact w_E_canKeepBounds_0 X hK hN hA  x1 I J hm _ _ _ hP hD0.self va_S.rf hl
def b_E_clashingBounds_7 (k7 : Int32 → SI → SJ → Option (Int32 × SI × SJ)) (x2 : Int32) (I : SI) (J : SJ) : Option (Int32 × SI × SJ) :=
  if 18 ≤ x2 then
    some (I 12 3, I, J)
  else
    cl1 (m_F_hasBound (I 12 3) x2) fun r2 =>
    if r2 = 0 then
      nm (x2 + 1) fun v5 =>
      k7 v5 I J
    else
      cl3 (m_L_leaveOut x2 I J) fun r6 I7 J8 =>
      if r6 = 0 then
        nm (x2 + 1) fun v11 =>
        k7 v11 I7 J8
      else
        cl3 (m_K_seekN I7 J8) fun r12 I13 J14 =>
        if r12 = 0 then
          nm (x2 + 1) fun v17 =>
          k7 v17 I13 J14
        else
          cl2 (m_L_keep x2 I13 J14) fun I19 J20 =>
          nm (x2 + 1) fun v22 =>
          k7 v22 I19 J20
def b_E_clashingBounds_0 (k7 : Int32 → SI → SJ → Option (Int32 × SI × SJ)) (x1 : Int32) (I : SI) (J : SJ) : Option (Int32 × SI × SJ) :=
  cl2 (m_E_begin x1 I J) fun I2 J3 =>
  k7 0 I2 J3
def g_E_clashingBounds : Nat → (Int32 → SI → SJ → Option (Int32 × SI × SJ))
  | 0 => (fun _ _ _ => none)
  | n + 1 => (fun x2 I J => b_E_clashingBounds_7 (g_E_clashingBounds n) x2 I J)
def m_E_clashingBounds (x1 : Int32) (I : SI) (J : SJ) : Option (Int32 × SI × SJ) := b_E_clashingBounds_0 (g_E_clashingBounds fuel) x1 I J
def rm_E_clashingBounds : Room := { frames := 5, cells := 0, slots := 0, locals := 128 }
set_option maxHeartbeats 4000000 in
set_option maxRecDepth 100000 in
theorem w_E_clashingBounds_7 {p : Program} {l : Launch} {e : Env} {s : State} {m : MethodId} {args : Array Value} {below : List Frame} {meth : Method} {c : Code} {D : va_G} {A : Nat → Prop} {ad : Nat → Nat} {cI cJ cG : ClassId} {res : Int32 × SI × SJ} (X : Cx p s m args meth c bE_clashingBounds (some .int) 3 RE) (hK : va_K D vwCl (tysM cI cJ cG) s) (hN : NWs s) (hA : ∀ q, s.heap.size ≤ q → A q)
    {k7 : Int32 → SI → SJ → Option (Int32 × SI × SJ)} (hk7 : ∀ (x2 : Int32) (I : SI) (J : SJ), k7 x2 I J = some res → WB p l e (headSpec (Cond.code yE_clashingBounds bE_clashingBounds 3 (some .int) :: gtb) rm_E_clashingBounds).room s m args below meth c (MQ below (va_Qi (fun (r : Int32) (u : SI × SJ) => (r, u) = res) (atW D vwCl (tysM cI cJ cG) A (wsM ad cI cJ cG)) A) args s 0 0 A) D vwCl A 3 (wsM ad cI cJ cG I J) 7 [(0, .ref (ad 34)), (2, .int x2)] [])
     (x2 : Int32) (I : SI) (J : SJ) (hm : b_E_clashingBounds_7 k7 x2 I J = some res) : WB p l e (headSpec (Cond.code yE_clashingBounds bE_clashingBounds 3 (some .int) :: gtb) rm_E_clashingBounds).room s m args below meth c (MQ below (va_Qi (fun (r : Int32) (u : SI × SJ) => (r, u) = res) (atW D vwCl (tysM cI cJ cG) A (wsM ad cI cJ cG)) A) args s 0 0 A) D vwCl A 3 (wsM ad cI cJ cG I J) 7 [(0, .ref (ad 34)), (2, .int x2)] [] := by
  obtain ⟨hx, hb, hr, hml, hown, hT, hlk⟩ := X
  intro H locs ls hP hD hS hl
  unfold b_E_clashingBounds_7 at hm
  refine lv_iload_n hx hb dE_clashingBounds_7 rfl (lv_at hl 1 rfl) ?_
  refine lv_bipush (v := 18) hx hb dE_clashingBounds_8 (by decide) ?_
  refine lv_icmp_ge (tgt := 63) hx hb dE_clashingBounds_10 (by decide) (fun c1 => ?_) (fun c1 => ?_)
  · have hm := brp hm c1
    refine lv_aload_n hx hb dE_clashingBounds_63 rfl (lv_at hl 0 rfl) ?_
    refine va_get (D := D) (ci := 3) (v := .ref (ad 12)) (C := RE) (T := TE) (N := 3) hx hb hT inE hown hK hP 34 rfl rfl 1 (by decide) (hT _ wd_231) (fun _ h9 => h9) rfl dE_clashingBounds_64 ?_
    refine va_getN (D := D) (ci := 1) (v := .int (I 12 3)) (C := RL) (T := TL) (N := 7) hx hb hT inL hown hK hP 12 rfl rfl 3 (by decide) (va_Nw.use rfl (hN _ nw_144)) (fun _ h9 => h9) rfl dE_clashingBounds_67 ?_
    exact W.iret hx hb hr (fun t ht hW => ⟨⟨I 12 3, (I, J), rfl, Option.some.inj hm, ht ▸ hP, va_K.moved hW.alike hK, hD⟩, hS.F ht⟩) hS.2.2 dE_clashingBounds_70 hlk
  · have hm := brn hm c1
    refine lv_aload_n hx hb dE_clashingBounds_13 rfl (lv_at hl 0 rfl) ?_
    refine va_get (D := D) (ci := 3) (v := .ref (ad 12)) (C := RE) (T := TE) (N := 3) hx hb hT inE hown hK hP 34 rfl rfl 1 (by decide) (hT _ wd_231) (fun _ h9 => h9) rfl dE_clashingBounds_14 ?_
    refine va_getN (D := D) (ci := 1) (v := .int (I 12 3)) (C := RL) (T := TL) (N := 7) hx hb hT inL hown hK hP 12 rfl rfl 3 (by decide) (va_Nw.use rfl (hN _ nw_144)) (fun _ h9 => h9) rfl dE_clashingBounds_17 ?_
    refine lv_iload_n hx hb dE_clashingBounds_20 rfl (lv_at hl 1 rfl) ?_
    obtain ⟨r2, hc3, hm⟩ := cl1_to hm
    refine pstZ_i hS (va_runSN (As := [.int (I 12 3), .int x2]) (rest := []) ⟨hx, hb, hml, hown, hT⟩ (c_F_hasBound l (I 12 3) x2 _ hc3) ⟨va_cnB 2 hT (gtb_good wd_481) rfl rfl rfl (hN _ nw_479) (hT _ wd_51) (by decide +kernel) ⟨Nat.le_of_ble_eq_true rfl, Nat.le_of_ble_eq_true rfl⟩, hT _ wd_480, trivial⟩ ⟨preZ_fb, preZ_at⟩ rfl rfl hl.1 rfl (lv_room (Nat.le_of_ble_eq_true rfl)) dE_clashingBounds_21 ⟨Nat.zero_le _, Nat.zero_le _⟩) (fun H1 locs hq hS => ?_)
    have hP := keptP hP hq
    refine lv_if_eq (tgt := 57) hx hb dE_clashingBounds_24 (by decide) (fun c4 => ?_) (fun c4 => ?_)
    · have hm := brp hm c4
      obtain ⟨v5, ev5⟩ : ∃ z : Int32, z = x2 + 1 := ⟨_, rfl⟩
      have hm := nm_to ev5 hm
      refine lv_iinc (v := v5) (lv' := [(2, .int v5), (0, .ref (ad 34))]) hx hb dE_clashingBounds_57 hl (k := 1) rfl (by rw [ev5]; rfl) (by decide) rfl (fun ls hl => ?_)
      refine lv_goto (tgt := 7) hx hb dE_clashingBounds_60 (by decide) ?_
      exact hk7 v5 I J hm _ _ _ hP hD hS (lv_sub hl [1, 0] rfl)
    · have hm := brn hm c4
      refine lv_aload_n hx hb dE_clashingBounds_27 rfl (lv_at hl 0 rfl) ?_
      refine va_get (D := D) (ci := 3) (v := .ref (ad 12)) (C := RE) (T := TE) (N := 3) hx hb hT inE hown hK hP 34 rfl rfl 1 (by decide) (hT _ wd_231) (fun _ h9 => h9) rfl dE_clashingBounds_28 ?_
      refine lv_iload_n hx hb dE_clashingBounds_31 rfl (lv_at hl 1 rfl) ?_
      obtain ⟨r6, I7, J8, hc9, hm⟩ := cl3_to hm
      refine pst_i (wf := wsM ad cI cJ cG) hD hS hA (va_runVN (As := [.int x2]) (rest := []) ⟨hx, hb, hml, hown, hT⟩ (c_L_leaveOut l D ad cI cJ cG _ x2 I J _ hc9) ⟨va_cnB 1 hT (gtb_good wd_485) rfl rfl rfl (hN _ nw_482) (hT _ wd_54) (by decide +kernel) ⟨Nat.le_of_ble_eq_true rfl, Nat.le_of_ble_eq_true rfl⟩, hT _ wd_484, hT _ wd_31⟩ ⟨preW_fb, va_recv hK hP (ci := 1) (q0 := 12) rfl rfl, preW_at hP hK hN hD⟩ rfl rfl hl.1 rfl (lv_room (Nat.le_of_ble_eq_true rfl)) dE_clashingBounds_32 ⟨Nat.zero_le _, Nat.zero_le _⟩) (fun H locs hP hD hS => ?_)
      refine lv_if_eq (tgt := 57) hx hb dE_clashingBounds_35 (by decide) (fun c10 => ?_) (fun c10 => ?_)
      · have hm := brp hm c10
        obtain ⟨v11, ev11⟩ : ∃ z : Int32, z = x2 + 1 := ⟨_, rfl⟩
        have hm := nm_to ev11 hm
        refine lv_iinc (v := v11) (lv' := [(2, .int v11), (0, .ref (ad 34))]) hx hb dE_clashingBounds_57 hl (k := 1) rfl (by rw [ev11]; rfl) (by decide) rfl (fun ls hl => ?_)
        refine lv_goto (tgt := 7) hx hb dE_clashingBounds_60 (by decide) ?_
        exact hk7 v11 I7 J8 hm _ _ _ hP hD hS (lv_sub hl [1, 0] rfl)
      · have hm := brn hm c10
        refine lv_aload_n hx hb dE_clashingBounds_38 rfl (lv_at hl 0 rfl) ?_
        refine va_get (D := D) (ci := 3) (v := .ref (ad 19)) (C := RE) (T := TE) (N := 3) hx hb hT inE hown hK hP 34 rfl rfl 2 (by decide) (hT _ wd_232) (fun _ h9 => h9) rfl dE_clashingBounds_39 ?_
        refine lv_null hx hb dE_clashingBounds_42 ?_
        obtain ⟨r12, I13, J14, hc15, hm⟩ := cl3_to hm
        refine pst_i (wf := wsM ad cI cJ cG) hD hS hA (va_runVN (As := [.null]) (rest := []) ⟨hx, hb, hml, hown, hT⟩ (c_K_seekN l D ad cI cJ cG _ I7 J8 _ hc15) ⟨va_cnB 1 hT (gtb_good wd_391) rfl rfl rfl (hN _ nw_388) (hT _ wd_55) (by decide +kernel) ⟨Nat.le_of_ble_eq_true rfl, Nat.le_of_ble_eq_true rfl⟩, hT _ wd_390, hT _ wd_11⟩ ⟨preW_fb, va_recv hK hP (ci := 0) (q0 := 19) rfl rfl, preW_at hP hK hN hD⟩ rfl rfl hl.1 rfl (lv_room (Nat.le_of_ble_eq_true rfl)) dE_clashingBounds_43 ⟨Nat.zero_le _, Nat.zero_le _⟩) (fun H locs hP hD hS => ?_)
        refine lv_if_eq (tgt := 57) hx hb dE_clashingBounds_46 (by decide) (fun c16 => ?_) (fun c16 => ?_)
        · have hm := brp hm c16
          obtain ⟨v17, ev17⟩ : ∃ z : Int32, z = x2 + 1 := ⟨_, rfl⟩
          have hm := nm_to ev17 hm
          refine lv_iinc (v := v17) (lv' := [(2, .int v17), (0, .ref (ad 34))]) hx hb dE_clashingBounds_57 hl (k := 1) rfl (by rw [ev17]; rfl) (by decide) rfl (fun ls hl => ?_)
          refine lv_goto (tgt := 7) hx hb dE_clashingBounds_60 (by decide) ?_
          exact hk7 v17 I13 J14 hm _ _ _ hP hD hS (lv_sub hl [1, 0] rfl)
        · have hm := brn hm c16
          refine lv_aload_n hx hb dE_clashingBounds_49 rfl (lv_at hl 0 rfl) ?_
          refine va_get (D := D) (ci := 3) (v := .ref (ad 12)) (C := RE) (T := TE) (N := 3) hx hb hT inE hown hK hP 34 rfl rfl 1 (by decide) (hT _ wd_231) (fun _ h9 => h9) rfl dE_clashingBounds_50 ?_
          refine lv_iload_n hx hb dE_clashingBounds_53 rfl (lv_at hl 1 rfl) ?_
          obtain ⟨I19, J20, hc21, hm⟩ := cl2_to hm
          refine pst_v (wf := wsM ad cI cJ cG) hD hS hA (va_runVN (As := [.int x2]) (rest := []) ⟨hx, hb, hml, hown, hT⟩ (c_L_keep l D ad cI cJ cG _ x2 I13 J14 _ hc21) ⟨va_cnB 1 hT (gtb_good wd_356) rfl rfl rfl (hN _ nw_487) (hT _ wd_54) (by decide +kernel) ⟨Nat.le_of_ble_eq_true rfl, Nat.le_of_ble_eq_true rfl⟩, hT _ wd_355, hT _ wd_6⟩ ⟨preW_fb, va_recv hK hP (ci := 1) (q0 := 12) rfl rfl, preW_at hP hK hN hD⟩ rfl rfl hl.1 rfl (lv_room (Nat.le_of_ble_eq_true rfl)) dE_clashingBounds_54 ⟨Nat.zero_le _, Nat.zero_le _⟩) (fun H locs hP hD hS => ?_)
          obtain ⟨v22, ev22⟩ : ∃ z : Int32, z = x2 + 1 := ⟨_, rfl⟩
          have hm := nm_to ev22 hm
          refine lv_iinc (v := v22) (lv' := [(2, .int v22), (0, .ref (ad 34))]) hx hb dE_clashingBounds_57 hl (k := 1) rfl (by rw [ev22]; rfl) (by decide) rfl (fun ls hl => ?_)
          refine lv_goto (tgt := 7) hx hb dE_clashingBounds_60 (by decide) ?_
          exact hk7 v22 I19 J20 hm _ _ _ hP hD hS (lv_sub hl [1, 0] rfl)
set_option maxHeartbeats 4000000 in
set_option maxRecDepth 100000 in
theorem w_E_clashingBounds_0 {p : Program} {l : Launch} {e : Env} {s : State} {m : MethodId} {args : Array Value} {below : List Frame} {meth : Method} {c : Code} {D : va_G} {A : Nat → Prop} {ad : Nat → Nat} {cI cJ cG : ClassId} {res : Int32 × SI × SJ} (X : Cx p s m args meth c bE_clashingBounds (some .int) 3 RE) (hK : va_K D vwCl (tysM cI cJ cG) s) (hN : NWs s) (hA : ∀ q, s.heap.size ≤ q → A q)
    {k7 : Int32 → SI → SJ → Option (Int32 × SI × SJ)} (hk7 : ∀ (x2 : Int32) (I : SI) (J : SJ), k7 x2 I J = some res → WB p l e (headSpec (Cond.code yE_clashingBounds bE_clashingBounds 3 (some .int) :: gtb) rm_E_clashingBounds).room s m args below meth c (MQ below (va_Qi (fun (r : Int32) (u : SI × SJ) => (r, u) = res) (atW D vwCl (tysM cI cJ cG) A (wsM ad cI cJ cG)) A) args s 0 0 A) D vwCl A 3 (wsM ad cI cJ cG I J) 7 [(0, .ref (ad 34)), (2, .int x2)] [])
     (x1 : Int32) (I : SI) (J : SJ) (hm : b_E_clashingBounds_0 k7 x1 I J = some res) : WB p l e (headSpec (Cond.code yE_clashingBounds bE_clashingBounds 3 (some .int) :: gtb) rm_E_clashingBounds).room s m args below meth c (MQ below (va_Qi (fun (r : Int32) (u : SI × SJ) => (r, u) = res) (atW D vwCl (tysM cI cJ cG) A (wsM ad cI cJ cG)) A) args s 0 0 A) D vwCl A 3 (wsM ad cI cJ cG I J) 0 [(0, .ref (ad 34)), (1, .int x1)] [] := by
  obtain ⟨hx, hb, hr, hml, hown, hT, hlk⟩ := X
  intro H locs ls hP hD hS hl
  unfold b_E_clashingBounds_0 at hm
  refine lv_aload_n hx hb dE_clashingBounds_0 rfl (lv_at hl 0 rfl) ?_
  refine lv_iload_n hx hb dE_clashingBounds_1 rfl (lv_at hl 1 rfl) ?_
  obtain ⟨I2, J3, hc4, hm⟩ := cl2_to hm
  refine pst_v (wf := wsM ad cI cJ cG) hD hS hA (va_runV (As := [.int x1]) (rest := []) ⟨hx, hb, hml, hown, hT⟩ (c_E_begin l D ad cI cJ cG _ x1 I J _ hc4) (cwV 1 hT (gV wd_334 wd_336 wd_2 wd_53 wd_337) rfl rfl rfl (by decide +kernel) ⟨Nat.le_of_ble_eq_true rfl, Nat.le_of_ble_eq_true rfl⟩) ⟨preW_fb, va_recv hK hP (ci := 3) (q0 := 34) rfl rfl, preW_at hP hK hN hD⟩ rfl rfl hl.1 rfl (lv_room (Nat.le_of_ble_eq_true rfl)) dE_clashingBounds_2 ⟨Nat.zero_le _, Nat.zero_le _⟩) (fun H locs hP hD hS => ?_)
  refine lv_iconst (v := 0) hx hb dE_clashingBounds_5 (by decide) ?_
  refine lv_istore_n (lv' := [(2, .int 0), (0, .ref (ad 34)), (1, .int x1)]) hx hb dE_clashingBounds_6 rfl hl (by decide) rfl (fun ls hl => ?_)
  exact hk7 0 I2 J3 hm _ _ _ hP hD hS (lv_sub hl [1, 0] rfl)
set_option maxHeartbeats 4000000 in
theorem gw_E_clashingBounds {p : Program} {l : Launch} {e : Env} {s : State} {m : MethodId} {args : Array Value} {below : List Frame} {meth : Method} {c : Code} {D : va_G} {A : Nat → Prop} {ad : Nat → Nat} {cI cJ cG : ClassId} {res : Int32 × SI × SJ} (X : Cx p s m args meth c bE_clashingBounds (some .int) 3 RE) (hK : va_K D vwCl (tysM cI cJ cG) s) (hN : NWs s) (hA : ∀ q, s.heap.size ≤ q → A q) : ∀ n : Nat, (∀ (x2 : Int32) (I : SI) (J : SJ), (g_E_clashingBounds n) x2 I J = some res → WB p l e (headSpec (Cond.code yE_clashingBounds bE_clashingBounds 3 (some .int) :: gtb) rm_E_clashingBounds).room s m args below meth c (MQ below (va_Qi (fun (r : Int32) (u : SI × SJ) => (r, u) = res) (atW D vwCl (tysM cI cJ cG) A (wsM ad cI cJ cG)) A) args s 0 0 A) D vwCl A 3 (wsM ad cI cJ cG I J) 7 [(0, .ref (ad 34)), (2, .int x2)] []) := by
  intro n
  induction n with
  | zero => exact fun _ _ _ h => (by cases h)
  | succ n ih =>
    have ih7 := ih
    exact fun x2 I J h => w_E_clashingBounds_7 X hK hN hA ih7 x2 I J h
set_option maxHeartbeats 4000000 in
set_option maxRecDepth 100000 in
theorem c_E_clashingBounds (l : Launch) (D : va_G) (ad : Nat → Nat) (cI cJ cG : ClassId) (sz : Nat) (x1 : Int32) (I : SI) (J : SJ) (res : Int32 × SI × SJ) (hm : m_E_clashingBounds x1 I J = some res) : Met l yE_clashingBounds (Cond.code yE_clashingBounds bE_clashingBounds 3 (some .int) :: gtb) rm_E_clashingBounds (va_Pc [.ref (ad 34), .int x1] (preW D vwCl (tysM cI cJ cG) (wsM ad cI cJ cG I J) sz)) (va_Qi (fun (r : Int32) (u : SI × SJ) => (r, u) = res) (atW D vwCl (tysM cI cJ cG) (va_A (wsM ad cI cJ cG I J) sz) (wsM ad cI cJ cG)) (va_A (wsM ad cI cJ cG I J) sz)) 0 0 (va_A (wsM ad cI cJ cG I J) sz) := by
  refine Met.ofW (cc := bE_clashingBounds) (maxL := 3) (ret := (some .int)) (by decide) rfl ?_
  intro p e s m args below meth c s₁ B hml hv
  obtain ⟨rfl, hsz, hP, hK, hD0, hN⟩ := hv
  subst hsz
  have X : Cx p s m [.ref (ad 34), .int x1].toArray meth c bE_clashingBounds (some .int) 3 RE := ⟨B.exec, B.bytes, B.returns, hml, findClass_of_methodNamed B.named, fun w h => atoms_spec (ws := (Cond.code yE_clashingBounds bE_clashingBounds 3 (some .int) :: gtb)) B.pre w (List.mem_cons_of_mem _ h), B.notSynchronized⟩
  have hl := lv_entry ([.ref (ad 34), .int x1]) (n := 3) (Nat.le_of_ble_eq_true rfl)
  rw [lg_entry_eq]
  generalize (lg_sl ([.ref (ad 34), .int x1]) ++ List.replicate (3 - (lg_sl ([.ref (ad 34), .int x1])).length) Slot.unset).toArray = ls at hl ⊢
  have hl : lv_has ls 3 [(0, .ref (ad 34)), (1, .int x1)] := hl
  have hA : ∀ q, s.heap.size ≤ q → va_A (wsM ad cI cJ cG I J) s.heap.size q := fun q h => Or.inr h
  exact w_E_clashingBounds_0 X hK hN hA (gw_E_clashingBounds X hK hN hA fuel) x1 I J hm _ _ _ hP hD0.self va_S.rf hl
def b_E_tightBounds_4 (k4 : Int32 → Int32 → SI → SJ → Option (Int32 × SI × SJ)) (x2 : Int32) (x3 : Int32) (I : SI) (J : SJ) : Option (Int32 × SI × SJ) :=
  if 18 ≤ x3 then
    some (x2, I, J)
  else
    cl3 (m_L_isThere x3 I J) fun r2 I3 J4 =>
    if r2 = 0 then
      nm (x3 + 1) fun v7 =>
      k4 x2 v7 I3 J4
    else
      cl1 (m_F_rowOf x3) fun r8 =>
      cl3 (m_L_allOf r8 35 I3 J4) fun r10 I11 J12 =>
      cl3 (m_L_levelOf x3 I11 J12) fun r14 I15 J16 =>
      nm (Int32.toInt64 r14) fun v18 =>
      nm (v18 * (J16 35 2)) fun v19 =>
      nm (lg_cmp r10 v19) fun v20 =>
      if v20 = 0 then
        nm (1 <<< (x3 &&& 31)) fun v23 =>
        nm (x2 ||| v23) fun v24 =>
        nm (x3 + 1) fun v25 =>
        k4 v24 v25 I15 J16
      else
        nm (x3 + 1) fun v22 =>
        k4 x2 v22 I15 J16
def b_E_tightBounds_0 (k4 : Int32 → Int32 → SI → SJ → Option (Int32 × SI × SJ)) (I : SI) (J : SJ) : Option (Int32 × SI × SJ) :=
  k4 0 0 I J
def g_E_tightBounds : Nat → (Int32 → Int32 → SI → SJ → Option (Int32 × SI × SJ))
  | 0 => (fun _ _ _ _ => none)
  | n + 1 => (fun x2 x3 I J => b_E_tightBounds_4 (g_E_tightBounds n) x2 x3 I J)
def m_E_tightBounds (I : SI) (J : SJ) : Option (Int32 × SI × SJ) := b_E_tightBounds_0 (g_E_tightBounds fuel)  I J
def rm_E_tightBounds : Room := { frames := 2, cells := 0, slots := 0, locals := 43 }
set_option maxHeartbeats 4000000 in
set_option maxRecDepth 100000 in
theorem w_E_tightBounds_4 {p : Program} {l : Launch} {e : Env} {s : State} {m : MethodId} {args : Array Value} {below : List Frame} {meth : Method} {c : Code} {D : va_G} {A : Nat → Prop} {ad : Nat → Nat} {cI cJ cG : ClassId} {res : Int32 × SI × SJ} (X : Cx p s m args meth c bE_tightBounds (some .int) 4 RE) (hK : va_K D vwCl (tysM cI cJ cG) s) (hN : NWs s) (hA : ∀ q, s.heap.size ≤ q → A q)
    {k4 : Int32 → Int32 → SI → SJ → Option (Int32 × SI × SJ)} (hk4 : ∀ (x2 : Int32) (x3 : Int32) (I : SI) (J : SJ), k4 x2 x3 I J = some res → WB p l e (headSpec (Cond.code yE_tightBounds bE_tightBounds 4 (some .int) :: gtb) rm_E_tightBounds).room s m args below meth c (MQ below (va_Qi (fun (r : Int32) (u : SI × SJ) => (r, u) = res) (atW D vwCl (tysM cI cJ cG) A (wsM ad cI cJ cG)) A) args s 0 0 A) D vwCl A 4 (wsM ad cI cJ cG I J) 4 [(0, .ref (ad 34)), (1, .ref (ad 35)), (2, .int x2), (3, .int x3)] [])
     (x2 : Int32) (x3 : Int32) (I : SI) (J : SJ) (hm : b_E_tightBounds_4 k4 x2 x3 I J = some res) : WB p l e (headSpec (Cond.code yE_tightBounds bE_tightBounds 4 (some .int) :: gtb) rm_E_tightBounds).room s m args below meth c (MQ below (va_Qi (fun (r : Int32) (u : SI × SJ) => (r, u) = res) (atW D vwCl (tysM cI cJ cG) A (wsM ad cI cJ cG)) A) args s 0 0 A) D vwCl A 4 (wsM ad cI cJ cG I J) 4 [(0, .ref (ad 34)), (1, .ref (ad 35)), (2, .int x2), (3, .int x3)] [] := by
  obtain ⟨hx, hb, hr, hml, hown, hT, hlk⟩ := X
  intro H locs ls hP hD hS hl
  unfold b_E_tightBounds_4 at hm
  refine lv_iload_n hx hb dE_tightBounds_4 rfl (lv_at hl 3 rfl) ?_
  refine lv_bipush (v := 18) hx hb dE_tightBounds_5 (by decide) ?_
  refine lv_icmp_ge (tgt := 63) hx hb dE_tightBounds_7 (by decide) (fun c1 => ?_) (fun c1 => ?_)
  · have hm := brp hm c1
    refine lv_iload_n hx hb dE_tightBounds_63 rfl (lv_at hl 2 rfl) ?_
    exact W.iret hx hb hr (fun t ht hW => ⟨⟨x2, (I, J), rfl, Option.some.inj hm, ht ▸ hP, va_K.moved hW.alike hK, hD⟩, hS.F ht⟩) hS.2.2 dE_tightBounds_64 hlk
  · have hm := brn hm c1
    refine lv_aload_n hx hb dE_tightBounds_10 rfl (lv_at hl 0 rfl) ?_
    refine va_get (D := D) (ci := 3) (v := .ref (ad 12)) (C := RE) (T := TE) (N := 3) hx hb hT inE hown hK hP 34 rfl rfl 1 (by decide) (hT _ wd_231) (fun _ h9 => h9) rfl dE_tightBounds_11 ?_
    refine lv_iload_n hx hb dE_tightBounds_14 rfl (lv_at hl 3 rfl) ?_
    obtain ⟨r2, I3, J4, hc5, hm⟩ := cl3_to hm
    refine pst_i (wf := wsM ad cI cJ cG) hD hS hA (va_runVN (As := [.int x3]) (rest := []) ⟨hx, hb, hml, hown, hT⟩ (c_L_isThere l D ad cI cJ cG _ x3 I J _ hc5) ⟨va_cnB 1 hT (gtb_good wd_349) rfl rfl rfl (hN _ nw_467) (hT _ wd_54) (by decide +kernel) ⟨Nat.le_of_ble_eq_true rfl, Nat.le_of_ble_eq_true rfl⟩, hT _ wd_348, hT _ wd_5⟩ ⟨preW_fb, va_recv hK hP (ci := 1) (q0 := 12) rfl rfl, preW_at hP hK hN hD⟩ rfl rfl hl.1 rfl (lv_room (Nat.le_of_ble_eq_true rfl)) dE_tightBounds_15 ⟨Nat.zero_le _, Nat.zero_le _⟩) (fun H locs hP hD hS => ?_)
    refine lv_if_eq (tgt := 57) hx hb dE_tightBounds_18 (by decide) (fun c6 => ?_) (fun c6 => ?_)
    · have hm := brp hm c6
      obtain ⟨v7, ev7⟩ : ∃ z : Int32, z = x3 + 1 := ⟨_, rfl⟩
      have hm := nm_to ev7 hm
      refine lv_iinc (v := v7) (lv' := [(3, .int v7), (0, .ref (ad 34)), (1, .ref (ad 35)), (2, .int x2)]) hx hb dE_tightBounds_57 hl (k := 3) rfl (by rw [ev7]; rfl) (by decide) rfl (fun ls hl => ?_)
      refine lv_goto (tgt := 4) hx hb dE_tightBounds_60 (by decide) ?_
      exact hk4 x2 v7 I3 J4 hm _ _ _ hP hD hS (lv_sub hl [1, 2, 3, 0] rfl)
    · have hm := brn hm c6
      refine lv_aload_n hx hb dE_tightBounds_21 rfl (lv_at hl 0 rfl) ?_
      refine va_get (D := D) (ci := 3) (v := .ref (ad 12)) (C := RE) (T := TE) (N := 3) hx hb hT inE hown hK hP 34 rfl rfl 1 (by decide) (hT _ wd_231) (fun _ h9 => h9) rfl dE_tightBounds_22 ?_
      refine lv_iload_n hx hb dE_tightBounds_25 rfl (lv_at hl 3 rfl) ?_
      obtain ⟨r8, hc9, hm⟩ := cl1_to hm
      refine pstZ_i hS (va_runSN (As := [.int x3]) (rest := [.ref (ad 12)]) ⟨hx, hb, hml, hown, hT⟩ (c_F_rowOf l x3 _ hc9) ⟨va_cnB 1 hT (gtb_good wd_352) rfl rfl rfl (hN _ nw_468) (hT _ wd_51) (by decide +kernel) ⟨Nat.le_of_ble_eq_true rfl, Nat.le_of_ble_eq_true rfl⟩, hT _ wd_351, trivial⟩ ⟨preZ_fb, preZ_at⟩ rfl rfl hl.1 rfl (lv_room (Nat.le_of_ble_eq_true rfl)) dE_tightBounds_26 ⟨Nat.zero_le _, Nat.zero_le _⟩) (fun H1 locs hq hS => ?_)
      have hP := keptP hP hq
      refine lv_aload_n hx hb dE_tightBounds_29 rfl (lv_at hl 1 rfl) ?_
      obtain ⟨r10, I11, J12, hc13, hm⟩ := cl3_to hm
      refine pst_l (wf := wsM ad cI cJ cG) hD hS hA (va_runVN (As := [.int r8, .ref (ad 35)]) (rest := []) ⟨hx, hb, hml, hown, hT⟩ (c_L_allOf l D ad cI cJ cG _ r8 35 I3 J4 _ hc13) ⟨va_cnB 2 hT (gtb_good wd_438) rfl rfl rfl (hN _ nw_469) (hT _ wd_54) (by decide +kernel) ⟨Nat.le_of_ble_eq_true rfl, Nat.le_of_ble_eq_true rfl⟩, hT _ wd_437, hT _ wd_22⟩ ⟨preW_fb, va_recv hK hP (ci := 1) (q0 := 12) rfl rfl, preW_at hP hK hN hD⟩ rfl rfl hl.1 rfl (lv_room (Nat.le_of_ble_eq_true rfl)) dE_tightBounds_30 ⟨Nat.zero_le _, Nat.zero_le _⟩) (fun H locs hP hD hS => ?_)
      refine lv_aload_n hx hb dE_tightBounds_33 rfl (lv_at hl 0 rfl) ?_
      refine va_get (D := D) (ci := 3) (v := .ref (ad 12)) (C := RE) (T := TE) (N := 3) hx hb hT inE hown hK hP 34 rfl rfl 1 (by decide) (hT _ wd_231) (fun _ h9 => h9) rfl dE_tightBounds_34 ?_
      refine lv_iload_n hx hb dE_tightBounds_37 rfl (lv_at hl 3 rfl) ?_
      obtain ⟨r14, I15, J16, hc17, hm⟩ := cl3_to hm
      refine pst_i (wf := wsM ad cI cJ cG) hD hS hA (va_runVN (As := [.int x3]) (rest := [.long r10]) ⟨hx, hb, hml, hown, hT⟩ (c_L_levelOf l D ad cI cJ cG _ x3 I11 J12 _ hc17) ⟨va_cnB 1 hT (gtb_good wd_363) rfl rfl rfl (hN _ nw_470) (hT _ wd_54) (by decide +kernel) ⟨Nat.le_of_ble_eq_true rfl, Nat.le_of_ble_eq_true rfl⟩, hT _ wd_362, hT _ wd_7⟩ ⟨preW_fb, va_recv hK hP (ci := 1) (q0 := 12) rfl rfl, preW_at hP hK hN hD⟩ rfl rfl hl.1 rfl (lv_room (Nat.le_of_ble_eq_true rfl)) dE_tightBounds_38 ⟨Nat.zero_le _, Nat.zero_le _⟩) (fun H locs hP hD hS => ?_)
      refine lv_i2l hx hb dE_tightBounds_41 rfl ?_
      refine lv_topl (fun v18 ev18 => ?_)
      have hm := nm_to ev18 hm
      refine lv_aload_n hx hb dE_tightBounds_42 rfl (lv_at hl 1 rfl) ?_
      refine va_getN (D := D) (ci := 2) (v := .long (J16 35 2)) (C := RX) (T := TX) (N := 3) hx hb hT inX hown hK hP 35 rfl rfl 2 (by decide) (va_Nw.use rfl (hN _ nw_188)) (fun _ h9 => h9) rfl dE_tightBounds_43 ?_
      refine lv_lmul hx hb dE_tightBounds_46 ?_
      refine lv_topl (fun v19 ev19 => ?_)
      have hm := nm_to ev19 hm
      refine W.lcmp hx hb dE_tightBounds_47 ?_
      refine lv_topi (fun v20 ev20 => ?_)
      have hm := nm_to ev20 hm
      refine lv_if_ne (tgt := 57) hx hb dE_tightBounds_48 (by decide) (fun c21 => ?_) (fun c21 => ?_)
      · have hm := brn hm c21
        obtain ⟨v22, ev22⟩ : ∃ z : Int32, z = x3 + 1 := ⟨_, rfl⟩
        have hm := nm_to ev22 hm
        refine lv_iinc (v := v22) (lv' := [(3, .int v22), (0, .ref (ad 34)), (1, .ref (ad 35)), (2, .int x2)]) hx hb dE_tightBounds_57 hl (k := 3) rfl (by rw [ev22]; rfl) (by decide) rfl (fun ls hl => ?_)
        refine lv_goto (tgt := 4) hx hb dE_tightBounds_60 (by decide) ?_
        exact hk4 x2 v22 I15 J16 hm _ _ _ hP hD hS (lv_sub hl [1, 2, 3, 0] rfl)
      · have hm := brp hm c21
        refine lv_iload_n hx hb dE_tightBounds_51 rfl (lv_at hl 2 rfl) ?_
        refine lv_iconst (v := 1) hx hb dE_tightBounds_52 (by decide) ?_
        refine lv_iload_n hx hb dE_tightBounds_53 rfl (lv_at hl 3 rfl) ?_
        refine lv_ishl hx hb dE_tightBounds_54 ?_
        refine lv_topi (fun v23 ev23 => ?_)
        have hm := nm_to ev23 hm
        refine lv_ior hx hb dE_tightBounds_55 ?_
        refine lv_topi (fun v24 ev24 => ?_)
        have hm := nm_to ev24 hm
        refine lv_istore_n (lv' := [(2, .int v24), (0, .ref (ad 34)), (1, .ref (ad 35)), (3, .int x3)]) hx hb dE_tightBounds_56 rfl hl (by decide) rfl (fun ls hl => ?_)
        obtain ⟨v25, ev25⟩ : ∃ z : Int32, z = x3 + 1 := ⟨_, rfl⟩
        have hm := nm_to ev25 hm
        refine lv_iinc (v := v25) (lv' := [(3, .int v25), (2, .int v24), (0, .ref (ad 34)), (1, .ref (ad 35))]) hx hb dE_tightBounds_57 hl (k := 3) rfl (by rw [ev25]; rfl) (by decide) rfl (fun ls hl => ?_)
        refine lv_goto (tgt := 4) hx hb dE_tightBounds_60 (by decide) ?_
        exact hk4 v24 v25 I15 J16 hm _ _ _ hP hD hS (lv_sub hl [2, 3, 1, 0] rfl)
set_option maxHeartbeats 4000000 in
set_option maxRecDepth 100000 in
theorem w_E_tightBounds_0 {p : Program} {l : Launch} {e : Env} {s : State} {m : MethodId} {args : Array Value} {below : List Frame} {meth : Method} {c : Code} {D : va_G} {A : Nat → Prop} {ad : Nat → Nat} {cI cJ cG : ClassId} {res : Int32 × SI × SJ} (X : Cx p s m args meth c bE_tightBounds (some .int) 4 RE) (hK : va_K D vwCl (tysM cI cJ cG) s) (hN : NWs s) (hA : ∀ q, s.heap.size ≤ q → A q)
    {k4 : Int32 → Int32 → SI → SJ → Option (Int32 × SI × SJ)} (hk4 : ∀ (x2 : Int32) (x3 : Int32) (I : SI) (J : SJ), k4 x2 x3 I J = some res → WB p l e (headSpec (Cond.code yE_tightBounds bE_tightBounds 4 (some .int) :: gtb) rm_E_tightBounds).room s m args below meth c (MQ below (va_Qi (fun (r : Int32) (u : SI × SJ) => (r, u) = res) (atW D vwCl (tysM cI cJ cG) A (wsM ad cI cJ cG)) A) args s 0 0 A) D vwCl A 4 (wsM ad cI cJ cG I J) 4 [(0, .ref (ad 34)), (1, .ref (ad 35)), (2, .int x2), (3, .int x3)] [])
     (I : SI) (J : SJ) (hm : b_E_tightBounds_0 k4  I J = some res) : WB p l e (headSpec (Cond.code yE_tightBounds bE_tightBounds 4 (some .int) :: gtb) rm_E_tightBounds).room s m args below meth c (MQ below (va_Qi (fun (r : Int32) (u : SI × SJ) => (r, u) = res) (atW D vwCl (tysM cI cJ cG) A (wsM ad cI cJ cG)) A) args s 0 0 A) D vwCl A 4 (wsM ad cI cJ cG I J) 0 [(0, .ref (ad 34)), (1, .ref (ad 35))] [] := by
  obtain ⟨hx, hb, hr, hml, hown, hT, hlk⟩ := X
  intro H locs ls hP hD hS hl
  unfold b_E_tightBounds_0 at hm
  refine lv_iconst (v := 0) hx hb dE_tightBounds_0 (by decide) ?_
  refine lv_istore_n (lv' := [(2, .int 0), (0, .ref (ad 34)), (1, .ref (ad 35))]) hx hb dE_tightBounds_1 rfl hl (by decide) rfl (fun ls hl => ?_)
  refine lv_iconst (v := 0) hx hb dE_tightBounds_2 (by decide) ?_
  refine lv_istore_n (lv' := [(3, .int 0), (2, .int 0), (0, .ref (ad 34)), (1, .ref (ad 35))]) hx hb dE_tightBounds_3 rfl hl (by decide) rfl (fun ls hl => ?_)
  exact hk4 0 0 I J hm _ _ _ hP hD hS (lv_sub hl [2, 3, 1, 0] rfl)
set_option maxHeartbeats 4000000 in
theorem gw_E_tightBounds {p : Program} {l : Launch} {e : Env} {s : State} {m : MethodId} {args : Array Value} {below : List Frame} {meth : Method} {c : Code} {D : va_G} {A : Nat → Prop} {ad : Nat → Nat} {cI cJ cG : ClassId} {res : Int32 × SI × SJ} (X : Cx p s m args meth c bE_tightBounds (some .int) 4 RE) (hK : va_K D vwCl (tysM cI cJ cG) s) (hN : NWs s) (hA : ∀ q, s.heap.size ≤ q → A q) : ∀ n : Nat, (∀ (x2 : Int32) (x3 : Int32) (I : SI) (J : SJ), (g_E_tightBounds n) x2 x3 I J = some res → WB p l e (headSpec (Cond.code yE_tightBounds bE_tightBounds 4 (some .int) :: gtb) rm_E_tightBounds).room s m args below meth c (MQ below (va_Qi (fun (r : Int32) (u : SI × SJ) => (r, u) = res) (atW D vwCl (tysM cI cJ cG) A (wsM ad cI cJ cG)) A) args s 0 0 A) D vwCl A 4 (wsM ad cI cJ cG I J) 4 [(0, .ref (ad 34)), (1, .ref (ad 35)), (2, .int x2), (3, .int x3)] []) := by
  intro n
  induction n with
  | zero => exact fun _ _ _ _ h => (by cases h)
  | succ n ih =>
    have ih4 := ih
    exact fun x2 x3 I J h => w_E_tightBounds_4 X hK hN hA ih4 x2 x3 I J h
set_option maxHeartbeats 4000000 in
set_option maxRecDepth 100000 in
theorem c_E_tightBounds (l : Launch) (D : va_G) (ad : Nat → Nat) (cI cJ cG : ClassId) (sz : Nat) (I : SI) (J : SJ) (res : Int32 × SI × SJ) (hm : m_E_tightBounds  I J = some res) : Met l yE_tightBounds (Cond.code yE_tightBounds bE_tightBounds 4 (some .int) :: gtb) rm_E_tightBounds (va_Pc [.ref (ad 34), .ref (ad 35)] (preW D vwCl (tysM cI cJ cG) (wsM ad cI cJ cG I J) sz)) (va_Qi (fun (r : Int32) (u : SI × SJ) => (r, u) = res) (atW D vwCl (tysM cI cJ cG) (va_A (wsM ad cI cJ cG I J) sz) (wsM ad cI cJ cG)) (va_A (wsM ad cI cJ cG I J) sz)) 0 0 (va_A (wsM ad cI cJ cG I J) sz) := by
  refine Met.ofW (cc := bE_tightBounds) (maxL := 4) (ret := (some .int)) (by decide) rfl ?_
  intro p e s m args below meth c s₁ B hml hv
  obtain ⟨rfl, hsz, hP, hK, hD0, hN⟩ := hv
  subst hsz
  have X : Cx p s m [.ref (ad 34), .ref (ad 35)].toArray meth c bE_tightBounds (some .int) 4 RE := ⟨B.exec, B.bytes, B.returns, hml, findClass_of_methodNamed B.named, fun w h => atoms_spec (ws := (Cond.code yE_tightBounds bE_tightBounds 4 (some .int) :: gtb)) B.pre w (List.mem_cons_of_mem _ h), B.notSynchronized⟩
  have hl := lv_entry ([.ref (ad 34), .ref (ad 35)]) (n := 4) (Nat.le_of_ble_eq_true rfl)
  rw [lg_entry_eq]
  generalize (lg_sl ([.ref (ad 34), .ref (ad 35)]) ++ List.replicate (4 - (lg_sl ([.ref (ad 34), .ref (ad 35)])).length) Slot.unset).toArray = ls at hl ⊢
  have hl : lv_has ls 4 [(0, .ref (ad 34)), (1, .ref (ad 35))] := hl
  have hA : ∀ q, s.heap.size ≤ q → va_A (wsM ad cI cJ cG I J) s.heap.size q := fun q h => Or.inr h
  exact w_E_tightBounds_0 X hK hN hA (gw_E_tightBounds X hK hN hA fuel)  I J hm _ _ _ hP hD0.self va_S.rf hl
