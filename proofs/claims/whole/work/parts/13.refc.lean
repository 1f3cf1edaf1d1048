def b_R_countAll_2 (k2 : Int32 → SI → SJ → Option (SI × SJ)) (x1 : Int32) (I : SI) (J : SJ) : Option (SI × SJ) :=
  if 22 ≤ x1 then
    some (I, J)
  else
    cl3 (m_R_isThere x1 I J) fun r2 I3 J4 =>
    gd (vin x1 22) <|
    nm (va_up I3 11 (upd (I3 11) x1.toNatClampNeg (vp_nar .boolean r2))) fun I7 =>
    nm (x1 + 1) fun v8 =>
    k2 v8 I7 J4
def b_R_countAll_0 (k2 : Int32 → SI → SJ → Option (SI × SJ)) (I : SI) (J : SJ) : Option (SI × SJ) :=
  k2 0 I J
def g_R_countAll : Nat → (Int32 → SI → SJ → Option (SI × SJ))
  | 0 => (fun _ _ _ => none)
  | n + 1 => (fun x1 I J => b_R_countAll_2 (g_R_countAll n) x1 I J)
def m_R_countAll (I : SI) (J : SJ) : Option (SI × SJ) := b_R_countAll_0 (g_R_countAll fuel)  I J
def rm_R_countAll : Room := { frames := 1, cells := 0, slots := 0, locals := 21 }
set_option maxHeartbeats 4000000 in
set_option maxRecDepth 100000 in
theorem w_R_countAll_2 {p : Program} {l : Launch} {e : Env} {s : State} {m : MethodId} {args : Array Value} {below : List Frame} {meth : Method} {c : Code} {D : va_G} {A : Nat → Prop} {ad : Nat → Nat} {cI cJ cG : ClassId} {res : SI × SJ} (X : Cx p s m args meth c bR_countAll none 2 RR) (hK : va_K D vwCl (tysR cI cJ cG) s) (hN : NWs s) (hA : ∀ q, s.heap.size ≤ q → A q)
    {k2 : Int32 → SI → SJ → Option (SI × SJ)} (hk2 : ∀ (x1 : Int32) (I : SI) (J : SJ), k2 x1 I J = some res → WB p l e (headSpec (Cond.code yR_countAll bR_countAll 2 none :: gtb) rm_R_countAll).room s m args below meth c (MQ below (va_Qv (fun (u : SI × SJ) => u = res) (atW D vwCl (tysR cI cJ cG) A (wsR ad cI cJ cG)) A) args s 0 0 A) D vwCl A 2 (wsR ad cI cJ cG I J) 2 [(0, .ref (ad 0)), (1, .int x1)] [])
     (x1 : Int32) (I : SI) (J : SJ) (hm : b_R_countAll_2 k2 x1 I J = some res) : WB p l e (headSpec (Cond.code yR_countAll bR_countAll 2 none :: gtb) rm_R_countAll).room s m args below meth c (MQ below (va_Qv (fun (u : SI × SJ) => u = res) (atW D vwCl (tysR cI cJ cG) A (wsR ad cI cJ cG)) A) args s 0 0 A) D vwCl A 2 (wsR ad cI cJ cG I J) 2 [(0, .ref (ad 0)), (1, .int x1)] [] := by
  obtain ⟨hx, hb, hr, hml, hown, hT, hlk⟩ := X
  intro H locs ls hP hD hS hl
  unfold b_R_countAll_2 at hm
  refine lv_iload_n hx hb dR_countAll_2 rfl (lv_at hl 1 rfl) ?_
  refine lv_bipush (v := 22) hx hb dR_countAll_3 (by decide) ?_
  refine lv_icmp_ge (tgt := 25) hx hb dR_countAll_5 (by decide) (fun c1 => ?_) (fun c1 => ?_)
  · have hm := brp hm c1
    exact W.vret hx hb hr (fun t ht hW => ⟨⟨(I, J), rfl, Option.some.inj hm, ht ▸ hP, va_K.moved hW.alike hK, hD⟩, hS.F ht⟩) hS.2.2 dR_countAll_25 hlk
  · have hm := brn hm c1
    refine lv_aload_n hx hb dR_countAll_8 rfl (lv_at hl 0 rfl) ?_
    refine va_get (D := D) (ci := 6) (v := .ref (ad 11)) (C := RR) (T := TR) (N := 31) hx hb hT inR hown hK hP 0 rfl rfl 20 (by decide) (hT _ wd_555) (fun _ h9 => h9) rfl dR_countAll_9 ?_
    refine lv_iload_n hx hb dR_countAll_12 rfl (lv_at hl 1 rfl) ?_
    refine lv_aload_n hx hb dR_countAll_13 rfl (lv_at hl 0 rfl) ?_
    refine lv_iload_n hx hb dR_countAll_14 rfl (lv_at hl 1 rfl) ?_
    obtain ⟨r2, I3, J4, hc5, hm⟩ := cl3_to hm
    refine pst_i (wf := wsR ad cI cJ cG) hD hS hA (va_runV (As := [.int x1]) (rest := [.int x1, .ref (ad 11)]) ⟨hx, hb, hml, hown, hT⟩ (c_R_isThere l D ad cI cJ cG _ x1 I J _ hc5) (cwV 1 hT (gV wd_673 wd_675 wd_34 wd_57 wd_676) rfl rfl rfl (by decide +kernel) ⟨Nat.le_of_ble_eq_true rfl, Nat.le_of_ble_eq_true rfl⟩) ⟨preW_fb, va_recv hK hP (ci := 6) (q0 := 0) rfl rfl, preW_at hP hK hN hD⟩ rfl rfl hl.1 rfl (lv_room (Nat.le_of_ble_eq_true rfl)) dR_countAll_15 ⟨Nat.zero_le _, Nat.zero_le _⟩) (fun H locs hP hD hS => ?_)
    obtain ⟨g6, hm⟩ := gd_to hm
    refine va_zast hx hb hK hP hD hS 11 2 rfl rfl g6 dR_countAll_18 (fun H locs hP hD hS => ?_)
    obtain ⟨I7, eI7⟩ : ∃ z : SI, z = va_up I3 11 (upd (I3 11) x1.toNatClampNeg (vp_nar .boolean r2)) := ⟨_, rfl⟩
    have hm := nm_to eI7 hm
    have hP := P_eq (ws2 := wsR ad cI cJ cG I7 J4) hP (by rw [eI7]; rfl)
    have hD := D_eq (ws2 := wsR ad cI cJ cG I7 J4) hD (by rw [eI7]; rfl)
    obtain ⟨v8, ev8⟩ : ∃ z : Int32, z = x1 + 1 := ⟨_, rfl⟩
    have hm := nm_to ev8 hm
    refine lv_iinc (v := v8) (lv' := [(1, .int v8), (0, .ref (ad 0))]) hx hb dR_countAll_19 hl (k := 1) rfl (by rw [ev8]; rfl) (by decide) rfl (fun ls hl => ?_)
    refine lv_goto (tgt := 2) hx hb dR_countAll_22 (by decide) ?_
    exact hk2 v8 I7 J4 hm _ _ _ hP hD hS (lv_sub hl [1, 0] rfl)
set_option maxHeartbeats 4000000 in
set_option maxRecDepth 100000 in
theorem w_R_countAll_0 {p : Program} {l : Launch} {e : Env} {s : State} {m : MethodId} {args : Array Value} {below : List Frame} {meth : Method} {c : Code} {D : va_G} {A : Nat → Prop} {ad : Nat → Nat} {cI cJ cG : ClassId} {res : SI × SJ} (X : Cx p s m args meth c bR_countAll none 2 RR) (hK : va_K D vwCl (tysR cI cJ cG) s) (hN : NWs s) (hA : ∀ q, s.heap.size ≤ q → A q)
    {k2 : Int32 → SI → SJ → Option (SI × SJ)} (hk2 : ∀ (x1 : Int32) (I : SI) (J : SJ), k2 x1 I J = some res → WB p l e (headSpec (Cond.code yR_countAll bR_countAll 2 none :: gtb) rm_R_countAll).room s m args below meth c (MQ below (va_Qv (fun (u : SI × SJ) => u = res) (atW D vwCl (tysR cI cJ cG) A (wsR ad cI cJ cG)) A) args s 0 0 A) D vwCl A 2 (wsR ad cI cJ cG I J) 2 [(0, .ref (ad 0)), (1, .int x1)] [])
     (I : SI) (J : SJ) (hm : b_R_countAll_0 k2  I J = some res) : WB p l e (headSpec (Cond.code yR_countAll bR_countAll 2 none :: gtb) rm_R_countAll).room s m args below meth c (MQ below (va_Qv (fun (u : SI × SJ) => u = res) (atW D vwCl (tysR cI cJ cG) A (wsR ad cI cJ cG)) A) args s 0 0 A) D vwCl A 2 (wsR ad cI cJ cG I J) 0 [(0, .ref (ad 0))] [] := by
  obtain ⟨hx, hb, hr, hml, hown, hT, hlk⟩ := X
  intro H locs ls hP hD hS hl
  unfold b_R_countAll_0 at hm
  refine lv_iconst (v := 0) hx hb dR_countAll_0 (by decide) ?_
  refine lv_istore_n (lv' := [(1, .int 0), (0, .ref (ad 0))]) hx hb dR_countAll_1 rfl hl (by decide) rfl (fun ls hl => ?_)
  exact hk2 0 I J hm _ _ _ hP hD hS (lv_sub hl [1, 0] rfl)
set_option maxHeartbeats 4000000 in
theorem gw_R_countAll {p : Program} {l : Launch} {e : Env} {s : State} {m : MethodId} {args : Array Value} {below : List Frame} {meth : Method} {c : Code} {D : va_G} {A : Nat → Prop} {ad : Nat → Nat} {cI cJ cG : ClassId} {res : SI × SJ} (X : Cx p s m args meth c bR_countAll none 2 RR) (hK : va_K D vwCl (tysR cI cJ cG) s) (hN : NWs s) (hA : ∀ q, s.heap.size ≤ q → A q) : ∀ n : Nat, (∀ (x1 : Int32) (I : SI) (J : SJ), (g_R_countAll n) x1 I J = some res → WB p l e (headSpec (Cond.code yR_countAll bR_countAll 2 none :: gtb) rm_R_countAll).room s m args below meth c (MQ below (va_Qv (fun (u : SI × SJ) => u = res) (atW D vwCl (tysR cI cJ cG) A (wsR ad cI cJ cG)) A) args s 0 0 A) D vwCl A 2 (wsR ad cI cJ cG I J) 2 [(0, .ref (ad 0)), (1, .int x1)] []) := by
  intro n
  induction n with
  | zero => exact fun _ _ _ h => (by cases h)
  | succ n ih =>
    have ih2 := ih
    exact fun x1 I J h => w_R_countAll_2 X hK hN hA ih2 x1 I J h
set_option maxHeartbeats 4000000 in
set_option maxRecDepth 100000 in
theorem c_R_countAll (l : Launch) (D : va_G) (ad : Nat → Nat) (cI cJ cG : ClassId) (sz : Nat) (I : SI) (J : SJ) (res : SI × SJ) (hm : m_R_countAll  I J = some res) : Met l yR_countAll (Cond.code yR_countAll bR_countAll 2 none :: gtb) rm_R_countAll (va_Pc [.ref (ad 0)] (preW D vwCl (tysR cI cJ cG) (wsR ad cI cJ cG I J) sz)) (va_Qv (fun (u : SI × SJ) => u = res) (atW D vwCl (tysR cI cJ cG) (va_A (wsR ad cI cJ cG I J) sz) (wsR ad cI cJ cG)) (va_A (wsR ad cI cJ cG I J) sz)) 0 0 (va_A (wsR ad cI cJ cG I J) sz) := by
  refine Met.ofW (cc := bR_countAll) (maxL := 2) (ret := none) (by decide) rfl ?_
  intro p e s m args below meth c s₁ B hml hv
  obtain ⟨rfl, hsz, hP, hK, hD0, hN⟩ := hv
  subst hsz
  have X : Cx p s m [.ref (ad 0)].toArray meth c bR_countAll none 2 RR := ⟨B.exec, B.bytes, B.returns, hml, findClass_of_methodNamed B.named, fun w h => atoms_spec (ws := (Cond.code yR_countAll bR_countAll 2 none :: gtb)) B.pre w (List.mem_cons_of_mem _ h), B.notSynchronized⟩
  have hl := lv_entry ([.ref (ad 0)]) (n := 2) (Nat.le_of_ble_eq_true rfl)
  rw [lg_entry_eq]
  generalize (lg_sl ([.ref (ad 0)]) ++ List.replicate (2 - (lg_sl ([.ref (ad 0)])).length) Slot.unset).toArray = ls at hl ⊢
  have hl : lv_has ls 2 [(0, .ref (ad 0))] := hl
  have hA : ∀ q, s.heap.size ≤ q → va_A (wsR ad cI cJ cG I J) s.heap.size q := fun q h => Or.inr h
  exact w_R_countAll_0 X hK hN hA (gw_R_countAll X hK hN hA fuel)  I J hm _ _ _ hP hD0.self va_S.rf hl
def b_R_freeAll_2 (k2 : Int32 → SI → SJ → Option (SI × SJ)) (x1 : Int32) (I : SI) (J : SJ) : Option (SI × SJ) :=
  if 4 ≤ x1 then
    some (I, J)
  else
    gd (vin x1 4) <|
    nm (va_up I 12 (upd (I 12) x1.toNatClampNeg (-1))) fun I3 =>
    nm (x1 + 1) fun v4 =>
    k2 v4 I3 J
def b_R_freeAll_0 (k2 : Int32 → SI → SJ → Option (SI × SJ)) (I : SI) (J : SJ) : Option (SI × SJ) :=
  k2 0 I J
def g_R_freeAll : Nat → (Int32 → SI → SJ → Option (SI × SJ))
  | 0 => (fun _ _ _ => none)
  | n + 1 => (fun x1 I J => b_R_freeAll_2 (g_R_freeAll n) x1 I J)
def m_R_freeAll (I : SI) (J : SJ) : Option (SI × SJ) := b_R_freeAll_0 (g_R_freeAll fuel)  I J
def rm_R_freeAll : Room := { frames := 0, cells := 0, slots := 0, locals := 0 }
set_option maxHeartbeats 4000000 in
set_option maxRecDepth 100000 in
theorem w_R_freeAll_2 {p : Program} {l : Launch} {e : Env} {s : State} {m : MethodId} {args : Array Value} {below : List Frame} {meth : Method} {c : Code} {D : va_G} {A : Nat → Prop} {ad : Nat → Nat} {cI cJ cG : ClassId} {res : SI × SJ} (X : Cx p s m args meth c bR_freeAll none 2 RR) (hK : va_K D vwCl (tysR cI cJ cG) s) (hN : NWs s) (hA : ∀ q, s.heap.size ≤ q → A q)
    {k2 : Int32 → SI → SJ → Option (SI × SJ)} (hk2 : ∀ (x1 : Int32) (I : SI) (J : SJ), k2 x1 I J = some res → WB p l e (headSpec (Cond.code yR_freeAll bR_freeAll 2 none :: gtb) rm_R_freeAll).room s m args below meth c (MQ below (va_Qv (fun (u : SI × SJ) => u = res) (atW D vwCl (tysR cI cJ cG) A (wsR ad cI cJ cG)) A) args s 0 0 A) D vwCl A 2 (wsR ad cI cJ cG I J) 2 [(0, .ref (ad 0)), (1, .int x1)] [])
     (x1 : Int32) (I : SI) (J : SJ) (hm : b_R_freeAll_2 k2 x1 I J = some res) : WB p l e (headSpec (Cond.code yR_freeAll bR_freeAll 2 none :: gtb) rm_R_freeAll).room s m args below meth c (MQ below (va_Qv (fun (u : SI × SJ) => u = res) (atW D vwCl (tysR cI cJ cG) A (wsR ad cI cJ cG)) A) args s 0 0 A) D vwCl A 2 (wsR ad cI cJ cG I J) 2 [(0, .ref (ad 0)), (1, .int x1)] [] := by
  obtain ⟨hx, hb, hr, hml, hown, hT, hlk⟩ := X
  intro H locs ls hP hD hS hl
  unfold b_R_freeAll_2 at hm
  refine lv_iload_n hx hb dR_freeAll_2 rfl (lv_at hl 1 rfl) ?_
  refine lv_iconst (v := 4) hx hb dR_freeAll_3 (by decide) ?_
  refine lv_icmp_ge (tgt := 20) hx hb dR_freeAll_4 (by decide) (fun c1 => ?_) (fun c1 => ?_)
  · have hm := brp hm c1
    exact W.vret hx hb hr (fun t ht hW => ⟨⟨(I, J), rfl, Option.some.inj hm, ht ▸ hP, va_K.moved hW.alike hK, hD⟩, hS.F ht⟩) hS.2.2 dR_freeAll_20 hlk
  · have hm := brn hm c1
    refine lv_aload_n hx hb dR_freeAll_7 rfl (lv_at hl 0 rfl) ?_
    refine va_get (D := D) (ci := 6) (v := .ref (ad 12)) (C := RR) (T := TR) (N := 31) hx hb hT inR hown hK hP 0 rfl rfl 21 (by decide) (hT _ wd_556) (fun _ h9 => h9) rfl dR_freeAll_8 ?_
    refine lv_iload_n hx hb dR_freeAll_11 rfl (lv_at hl 1 rfl) ?_
    refine lv_iconst (v := (-1)) hx hb dR_freeAll_12 (by decide) ?_
    obtain ⟨g2, hm⟩ := gd_to hm
    refine va_iast hx hb hK hP hD hS 12 0 rfl rfl g2 dR_freeAll_13 (fun H locs hP hD hS => ?_)
    obtain ⟨I3, eI3⟩ : ∃ z : SI, z = va_up I 12 (upd (I 12) x1.toNatClampNeg (-1)) := ⟨_, rfl⟩
    have hm := nm_to eI3 hm
    have hP := P_eq (ws2 := wsR ad cI cJ cG I3 J) hP (by rw [eI3]; rfl)
    have hD := D_eq (ws2 := wsR ad cI cJ cG I3 J) hD (by rw [eI3]; rfl)
    obtain ⟨v4, ev4⟩ : ∃ z : Int32, z = x1 + 1 := ⟨_, rfl⟩
    have hm := nm_to ev4 hm
    refine lv_iinc (v := v4) (lv' := [(1, .int v4), (0, .ref (ad 0))]) hx hb dR_freeAll_14 hl (k := 1) rfl (by rw [ev4]; rfl) (by decide) rfl (fun ls hl => ?_)
    refine lv_goto (tgt := 2) hx hb dR_freeAll_17 (by decide) ?_
    exact hk2 v4 I3 J hm _ _ _ hP hD hS (lv_sub hl [1, 0] rfl)
set_option maxHeartbeats 4000000 in
set_option maxRecDepth 100000 in
theorem w_R_freeAll_0 {p : Program} {l : Launch} {e : Env} {s : State} {m : MethodId} {args : Array Value} {below : List Frame} {meth : Method} {c : Code} {D : va_G} {A : Nat → Prop} {ad : Nat → Nat} {cI cJ cG : ClassId} {res : SI × SJ} (X : Cx p s m args meth c bR_freeAll none 2 RR) (hK : va_K D vwCl (tysR cI cJ cG) s) (hN : NWs s) (hA : ∀ q, s.heap.size ≤ q → A q)
    {k2 : Int32 → SI → SJ → Option (SI × SJ)} (hk2 : ∀ (x1 : Int32) (I : SI) (J : SJ), k2 x1 I J = some res → WB p l e (headSpec (Cond.code yR_freeAll bR_freeAll 2 none :: gtb) rm_R_freeAll).room s m args below meth c (MQ below (va_Qv (fun (u : SI × SJ) => u = res) (atW D vwCl (tysR cI cJ cG) A (wsR ad cI cJ cG)) A) args s 0 0 A) D vwCl A 2 (wsR ad cI cJ cG I J) 2 [(0, .ref (ad 0)), (1, .int x1)] [])
     (I : SI) (J : SJ) (hm : b_R_freeAll_0 k2  I J = some res) : WB p l e (headSpec (Cond.code yR_freeAll bR_freeAll 2 none :: gtb) rm_R_freeAll).room s m args below meth c (MQ below (va_Qv (fun (u : SI × SJ) => u = res) (atW D vwCl (tysR cI cJ cG) A (wsR ad cI cJ cG)) A) args s 0 0 A) D vwCl A 2 (wsR ad cI cJ cG I J) 0 [(0, .ref (ad 0))] [] := by
  obtain ⟨hx, hb, hr, hml, hown, hT, hlk⟩ := X
  intro H locs ls hP hD hS hl
  unfold b_R_freeAll_0 at hm
  refine lv_iconst (v := 0) hx hb dR_freeAll_0 (by decide) ?_
  refine lv_istore_n (lv' := [(1, .int 0), (0, .ref (ad 0))]) hx hb dR_freeAll_1 rfl hl (by decide) rfl (fun ls hl => ?_)
  exact hk2 0 I J hm _ _ _ hP hD hS (lv_sub hl [1, 0] rfl)
set_option maxHeartbeats 4000000 in
theorem gw_R_freeAll {p : Program} {l : Launch} {e : Env} {s : State} {m : MethodId} {args : Array Value} {below : List Frame} {meth : Method} {c : Code} {D : va_G} {A : Nat → Prop} {ad : Nat → Nat} {cI cJ cG : ClassId} {res : SI × SJ} (X : Cx p s m args meth c bR_freeAll none 2 RR) (hK : va_K D vwCl (tysR cI cJ cG) s) (hN : NWs s) (hA : ∀ q, s.heap.size ≤ q → A q) : ∀ n : Nat, (∀ (x1 : Int32) (I : SI) (J : SJ), (g_R_freeAll n) x1 I J = some res → WB p l e (headSpec (Cond.code yR_freeAll bR_freeAll 2 none :: gtb) rm_R_freeAll).room s m args below meth c (MQ below (va_Qv (fun (u : SI × SJ) => u = res) (atW D vwCl (tysR cI cJ cG) A (wsR ad cI cJ cG)) A) args s 0 0 A) D vwCl A 2 (wsR ad cI cJ cG I J) 2 [(0, .ref (ad 0)), (1, .int x1)] []) := by
  intro n
  induction n with
  | zero => exact fun _ _ _ h => (by cases h)
  | succ n ih =>
    have ih2 := ih
    exact fun x1 I J h => w_R_freeAll_2 X hK hN hA ih2 x1 I J h
set_option maxHeartbeats 4000000 in
set_option maxRecDepth 100000 in
theorem c_R_freeAll (l : Launch) (D : va_G) (ad : Nat → Nat) (cI cJ cG : ClassId) (sz : Nat) (I : SI) (J : SJ) (res : SI × SJ) (hm : m_R_freeAll  I J = some res) : Met l yR_freeAll (Cond.code yR_freeAll bR_freeAll 2 none :: gtb) rm_R_freeAll (va_Pc [.ref (ad 0)] (preW D vwCl (tysR cI cJ cG) (wsR ad cI cJ cG I J) sz)) (va_Qv (fun (u : SI × SJ) => u = res) (atW D vwCl (tysR cI cJ cG) (va_A (wsR ad cI cJ cG I J) sz) (wsR ad cI cJ cG)) (va_A (wsR ad cI cJ cG I J) sz)) 0 0 (va_A (wsR ad cI cJ cG I J) sz) := by
  refine Met.ofW (cc := bR_freeAll) (maxL := 2) (ret := none) (by decide) rfl ?_
  intro p e s m args below meth c s₁ B hml hv
  obtain ⟨rfl, hsz, hP, hK, hD0, hN⟩ := hv
  subst hsz
  have X : Cx p s m [.ref (ad 0)].toArray meth c bR_freeAll none 2 RR := ⟨B.exec, B.bytes, B.returns, hml, findClass_of_methodNamed B.named, fun w h => atoms_spec (ws := (Cond.code yR_freeAll bR_freeAll 2 none :: gtb)) B.pre w (List.mem_cons_of_mem _ h), B.notSynchronized⟩
  have hl := lv_entry ([.ref (ad 0)]) (n := 2) (Nat.le_of_ble_eq_true rfl)
  rw [lg_entry_eq]
  generalize (lg_sl ([.ref (ad 0)]) ++ List.replicate (2 - (lg_sl ([.ref (ad 0)])).length) Slot.unset).toArray = ls at hl ⊢
  have hl : lv_has ls 2 [(0, .ref (ad 0))] := hl
  have hA : ∀ q, s.heap.size ≤ q → va_A (wsR ad cI cJ cG I J) s.heap.size q := fun q h => Or.inr h
  exact w_R_freeAll_0 X hK hN hA (gw_R_freeAll X hK hN hA fuel)  I J hm _ _ _ hP hD0.self va_S.rf hl
def b_R_isPossible_0 (x1 : Int32) (I : SI) (J : SJ) : Option (Int32 × SI × SJ) :=
  nm (va_up I 0 (upd (I 0) 28 0)) fun I1 =>
  cl2 (m_R_freeAll I1 J) fun I3 J4 =>
  cl2 (m_R_corners x1 1 I3 J4) fun I7 J8 =>
  gd (narrow .boolean (.int (I7 0 28)) = .int (I7 0 28)) <|
  some (I7 0 28, I7, J8)
def m_R_isPossible (x1 : Int32) (I : SI) (J : SJ) : Option (Int32 × SI × SJ) := b_R_isPossible_0 x1 I J
def rm_R_isPossible : Room := { frames := 5, cells := 0, slots := 0, locals := 125 }
set_option maxHeartbeats 4000000 in
set_option maxRecDepth 100000 in
theorem w_R_isPossible_0 {p : Program} {l : Launch} {e : Env} {s : State} {m : MethodId} {args : Array Value} {below : List Frame} {meth : Method} {c : Code} {D : va_G} {A : Nat → Prop} {ad : Nat → Nat} {cI cJ cG : ClassId} {res : Int32 × SI × SJ} (X : Cx p s m args meth c bR_isPossible (some .boolean) 2 RR) (hK : va_K D vwCl (tysR cI cJ cG) s) (hN : NWs s) (hA : ∀ q, s.heap.size ≤ q → A q)
     (x1 : Int32) (I : SI) (J : SJ) (hm : b_R_isPossible_0  x1 I J = some res) : WB p l e (headSpec (Cond.code yR_isPossible bR_isPossible 2 (some .boolean) :: gtb) rm_R_isPossible).room s m args below meth c (MQ below (va_Qi (fun (r : Int32) (u : SI × SJ) => (r, u) = res) (atW D vwCl (tysR cI cJ cG) A (wsR ad cI cJ cG)) A) args s 0 0 A) D vwCl A 2 (wsR ad cI cJ cG I J) 0 [(0, .ref (ad 0)), (1, .int x1)] [] := by
  obtain ⟨hx, hb, hr, hml, hown, hT, hlk⟩ := X
  intro H locs ls hP hD hS hl
  unfold b_R_isPossible_0 at hm
  refine lv_aload_n hx hb dR_isPossible_0 rfl (lv_at hl 0 rfl) ?_
  refine lv_iconst (v := 0) hx hb dR_isPossible_1 (by decide) ?_
  refine va_put (D := D) (ci := 6) (v := .int 0) (ty := .boolean) (C := RR) (T := TR) (N := 31) hx hb hT inR tyR okR nmR hown hK hP hD hS 0 rfl rfl 28 (by decide) (hT _ wd_563) (fun _ h9 => h9) rfl pf_Z rfl rfl (Nat.le_of_ble_eq_true rfl) dR_isPossible_2 (fun H locs hP hD hS => ?_)
  obtain ⟨I1, eI1⟩ : ∃ z : SI, z = va_up I 0 (upd (I 0) 28 0) := ⟨_, rfl⟩
  have hm := nm_to eI1 hm
  have hP := P_eq (ws2 := wsR ad cI cJ cG I1 J) hP (by rw [eI1]; rfl)
  have hD := D_eq (ws2 := wsR ad cI cJ cG I1 J) hD (by rw [eI1]; rfl)
  refine lv_aload_n hx hb dR_isPossible_5 rfl (lv_at hl 0 rfl) ?_
  obtain ⟨I3, J4, hc5, hm⟩ := cl2_to hm
  refine pst_v (wf := wsR ad cI cJ cG) hD hS hA (va_runV (As := []) (rest := []) ⟨hx, hb, hml, hown, hT⟩ (c_R_freeAll l D ad cI cJ cG _ I1 J _ hc5) (cwV 0 hT (gV wd_681 wd_683 wd_36 wd_57 wd_684) rfl rfl rfl (by decide +kernel) ⟨Nat.le_of_ble_eq_true rfl, Nat.le_of_ble_eq_true rfl⟩) ⟨preW_fb, va_recv hK hP (ci := 6) (q0 := 0) rfl rfl, preW_at hP hK hN hD⟩ rfl rfl hl.1 rfl (lv_room (Nat.le_of_ble_eq_true rfl)) dR_isPossible_6 ⟨Nat.zero_le _, Nat.zero_le _⟩) (fun H locs hP hD hS => ?_)
  refine lv_aload_n hx hb dR_isPossible_9 rfl (lv_at hl 0 rfl) ?_
  refine lv_iload_n hx hb dR_isPossible_10 rfl (lv_at hl 1 rfl) ?_
  refine lv_iconst (v := 1) hx hb dR_isPossible_11 (by decide) ?_
  obtain ⟨I7, J8, hc9, hm⟩ := cl2_to hm
  refine pst_v (wf := wsR ad cI cJ cG) hD hS hA (va_runV (As := [.int x1, .int 1]) (rest := []) ⟨hx, hb, hml, hown, hT⟩ (c_R_corners l D ad cI cJ cG _ x1 1 I3 J4 _ hc9) (cwV 2 hT (gV wd_685 wd_687 wd_37 wd_57 wd_688) rfl rfl rfl (by decide +kernel) ⟨Nat.le_of_ble_eq_true rfl, Nat.le_of_ble_eq_true rfl⟩) ⟨preW_fb, va_recv hK hP (ci := 6) (q0 := 0) rfl rfl, preW_at hP hK hN hD⟩ rfl rfl hl.1 rfl (lv_room (Nat.le_of_ble_eq_true rfl)) dR_isPossible_12 ⟨Nat.zero_le _, Nat.zero_le _⟩) (fun H locs hP hD hS => ?_)
  refine lv_aload_n hx hb dR_isPossible_15 rfl (lv_at hl 0 rfl) ?_
  refine va_get (D := D) (ci := 6) (v := .int (I7 0 28)) (C := RR) (T := TR) (N := 31) hx hb hT inR hown hK hP 0 rfl rfl 28 (by decide) (hT _ wd_563) (fun _ h9 => h9) rfl dR_isPossible_16 ?_
  obtain ⟨g10, hm⟩ := gd_to hm
  exact W.zret hx hb hr g10 (fun t ht hW => ⟨⟨I7 0 28, (I7, J8), rfl, Option.some.inj hm, ht ▸ hP, va_K.moved hW.alike hK, hD⟩, hS.F ht⟩) hS.2.2 dR_isPossible_19 hlk
set_option maxHeartbeats 4000000 in
set_option maxRecDepth 100000 in
theorem c_R_isPossible (l : Launch) (D : va_G) (ad : Nat → Nat) (cI cJ cG : ClassId) (sz : Nat) (x1 : Int32) (I : SI) (J : SJ) (res : Int32 × SI × SJ) (hm : m_R_isPossible x1 I J = some res) : Met l yR_isPossible (Cond.code yR_isPossible bR_isPossible 2 (some .boolean) :: gtb) rm_R_isPossible (va_Pc [.ref (ad 0), .int x1] (preW D vwCl (tysR cI cJ cG) (wsR ad cI cJ cG I J) sz)) (va_Qi (fun (r : Int32) (u : SI × SJ) => (r, u) = res) (atW D vwCl (tysR cI cJ cG) (va_A (wsR ad cI cJ cG I J) sz) (wsR ad cI cJ cG)) (va_A (wsR ad cI cJ cG I J) sz)) 0 0 (va_A (wsR ad cI cJ cG I J) sz) := by
  refine Met.ofW (cc := bR_isPossible) (maxL := 2) (ret := (some .boolean)) (by decide) rfl ?_
  intro p e s m args below meth c s₁ B hml hv
  obtain ⟨rfl, hsz, hP, hK, hD0, hN⟩ := hv
  subst hsz
  have X : Cx p s m [.ref (ad 0), .int x1].toArray meth c bR_isPossible (some .boolean) 2 RR := ⟨B.exec, B.bytes, B.returns, hml, findClass_of_methodNamed B.named, fun w h => atoms_spec (ws := (Cond.code yR_isPossible bR_isPossible 2 (some .boolean) :: gtb)) B.pre w (List.mem_cons_of_mem _ h), B.notSynchronized⟩
  have hl := lv_entry ([.ref (ad 0), .int x1]) (n := 2) (Nat.le_of_ble_eq_true rfl)
  rw [lg_entry_eq]
  generalize (lg_sl ([.ref (ad 0), .int x1]) ++ List.replicate (2 - (lg_sl ([.ref (ad 0), .int x1])).length) Slot.unset).toArray = ls at hl ⊢
  have hl : lv_has ls 2 [(0, .ref (ad 0)), (1, .int x1)] := hl
  have hA : ∀ q, s.heap.size ≤ q → va_A (wsR ad cI cJ cG I J) s.heap.size q := fun q h => Or.inr h
  exact w_R_isPossible_0 X hK hN hA  x1 I J hm _ _ _ hP hD0.self va_S.rf hl
def b_R_most_0 (x1 : Int32) (I : SI) (J : SJ) : Option (Int32 × SI × SJ) :=
  if (I 0 0) ≤ x1 then
    some (0, I, J)
  else
    gd (vin x1 4) <|
    nm (I 6 x1.toNatClampNeg) fun v3 =>
    if v3 ≤ 0 then
      some (0, I, J)
    else
      gd (vin x1 4) <|
      nm (I 2 x1.toNatClampNeg) fun v6 =>
      gd (vin x1 4) <|
      nm (I 6 x1.toNatClampNeg) fun v8 =>
      gd (¬ v8 = 0) <|
      nm (v6 / v8) fun v10 =>
      some (v10, I, J)
def m_R_most (x1 : Int32) (I : SI) (J : SJ) : Option (Int32 × SI × SJ) := b_R_most_0 x1 I J
def rm_R_most : Room := { frames := 0, cells := 0, slots := 0, locals := 0 }
set_option maxHeartbeats 4000000 in
set_option maxRecDepth 100000 in
theorem w_R_most_0 {p : Program} {l : Launch} {e : Env} {s : State} {m : MethodId} {args : Array Value} {below : List Frame} {meth : Method} {c : Code} {D : va_G} {A : Nat → Prop} {ad : Nat → Nat} {cI cJ cG : ClassId} {res : Int32 × SI × SJ} (X : Cx p s m args meth c bR_most (some .int) 2 RR) (hK : va_K D vwCl (tysR cI cJ cG) s) (hN : NWs s) (hA : ∀ q, s.heap.size ≤ q → A q)
     (x1 : Int32) (I : SI) (J : SJ) (hm : b_R_most_0  x1 I J = some res) : WB p l e (headSpec (Cond.code yR_most bR_most 2 (some .int) :: gtb) rm_R_most).room s m args below meth c (MQ below (va_Qi (fun (r : Int32) (u : SI × SJ) => (r, u) = res) (atW D vwCl (tysR cI cJ cG) A (wsR ad cI cJ cG)) A) args s 0 0 A) D vwCl A 2 (wsR ad cI cJ cG I J) 0 [(0, .ref (ad 0)), (1, .int x1)] [] := by
  obtain ⟨hx, hb, hr, hml, hown, hT, hlk⟩ := X
  intro H locs ls hP hD hS hl
  unfold b_R_most_0 at hm
  refine lv_iload_n hx hb dR_most_0 rfl (lv_at hl 1 rfl) ?_
  refine lv_aload_n hx hb dR_most_1 rfl (lv_at hl 0 rfl) ?_
  refine va_get (D := D) (ci := 6) (v := .int (I 0 0)) (C := RR) (T := TR) (N := 31) hx hb hT inR hown hK hP 0 rfl rfl 0 (by decide) (hT _ wd_535) (fun _ h9 => h9) rfl dR_most_2 ?_
  refine lv_icmp_ge (tgt := 33) hx hb dR_most_5 (by decide) (fun c1 => ?_) (fun c1 => ?_)
  · have hm := brp hm c1
    refine lv_iconst (v := 0) hx hb dR_most_33 (by decide) ?_
    exact W.iret hx hb hr (fun t ht hW => ⟨⟨0, (I, J), rfl, Option.some.inj hm, ht ▸ hP, va_K.moved hW.alike hK, hD⟩, hS.F ht⟩) hS.2.2 dR_most_34 hlk
  · have hm := brn hm c1
    refine lv_aload_n hx hb dR_most_8 rfl (lv_at hl 0 rfl) ?_
    refine va_get (D := D) (ci := 6) (v := .ref (ad 6)) (C := RR) (T := TR) (N := 31) hx hb hT inR hown hK hP 0 rfl rfl 6 (by decide) (hT _ wd_541) (fun _ h9 => h9) rfl dR_most_9 ?_
    refine lv_iload_n hx hb dR_most_12 rfl (lv_at hl 1 rfl) ?_
    obtain ⟨g2, hm⟩ := gd_to hm
    refine va_iald hx hb hK hP 6 0 rfl rfl g2 dR_most_13 ?_
    refine lv_topi (fun v3 ev3 => ?_)
    have hm := nm_to ev3 hm
    refine lv_if_le (tgt := 33) hx hb dR_most_14 (by decide) (fun c4 => ?_) (fun c4 => ?_)
    · have hm := brp hm c4
      refine lv_iconst (v := 0) hx hb dR_most_33 (by decide) ?_
      exact W.iret hx hb hr (fun t ht hW => ⟨⟨0, (I, J), rfl, Option.some.inj hm, ht ▸ hP, va_K.moved hW.alike hK, hD⟩, hS.F ht⟩) hS.2.2 dR_most_34 hlk
    · have hm := brn hm c4
      refine lv_aload_n hx hb dR_most_17 rfl (lv_at hl 0 rfl) ?_
      refine va_get (D := D) (ci := 6) (v := .ref (ad 2)) (C := RR) (T := TR) (N := 31) hx hb hT inR hown hK hP 0 rfl rfl 2 (by decide) (hT _ wd_537) (fun _ h9 => h9) rfl dR_most_18 ?_
      refine lv_iload_n hx hb dR_most_21 rfl (lv_at hl 1 rfl) ?_
      obtain ⟨g5, hm⟩ := gd_to hm
      refine va_iald hx hb hK hP 2 0 rfl rfl g5 dR_most_22 ?_
      refine lv_topi (fun v6 ev6 => ?_)
      have hm := nm_to ev6 hm
      refine lv_aload_n hx hb dR_most_23 rfl (lv_at hl 0 rfl) ?_
      refine va_get (D := D) (ci := 6) (v := .ref (ad 6)) (C := RR) (T := TR) (N := 31) hx hb hT inR hown hK hP 0 rfl rfl 6 (by decide) (hT _ wd_541) (fun _ h9 => h9) rfl dR_most_24 ?_
      refine lv_iload_n hx hb dR_most_27 rfl (lv_at hl 1 rfl) ?_
      obtain ⟨g7, hm⟩ := gd_to hm
      refine va_iald hx hb hK hP 6 0 rfl rfl g7 dR_most_28 ?_
      refine lv_topi (fun v8 ev8 => ?_)
      have hm := nm_to ev8 hm
      obtain ⟨g9, hm⟩ := gd_to hm
      refine lv_idiv hx hb dR_most_29 g9 ?_
      refine lv_topi (fun v10 ev10 => ?_)
      have hm := nm_to ev10 hm
      refine lv_goto (tgt := 34) hx hb dR_most_30 (by decide) ?_
      exact W.iret hx hb hr (fun t ht hW => ⟨⟨v10, (I, J), rfl, Option.some.inj hm, ht ▸ hP, va_K.moved hW.alike hK, hD⟩, hS.F ht⟩) hS.2.2 dR_most_34 hlk
set_option maxHeartbeats 4000000 in
set_option maxRecDepth 100000 in
theorem c_R_most (l : Launch) (D : va_G) (ad : Nat → Nat) (cI cJ cG : ClassId) (sz : Nat) (x1 : Int32) (I : SI) (J : SJ) (res : Int32 × SI × SJ) (hm : m_R_most x1 I J = some res) : Met l yR_most (Cond.code yR_most bR_most 2 (some .int) :: gtb) rm_R_most (va_Pc [.ref (ad 0), .int x1] (preW D vwCl (tysR cI cJ cG) (wsR ad cI cJ cG I J) sz)) (va_Qi (fun (r : Int32) (u : SI × SJ) => (r, u) = res) (atW D vwCl (tysR cI cJ cG) (va_A (wsR ad cI cJ cG I J) sz) (wsR ad cI cJ cG)) (va_A (wsR ad cI cJ cG I J) sz)) 0 0 (va_A (wsR ad cI cJ cG I J) sz) := by
  refine Met.ofW (cc := bR_most) (maxL := 2) (ret := (some .int)) (by decide) rfl ?_
  intro p e s m args below meth c s₁ B hml hv
  obtain ⟨rfl, hsz, hP, hK, hD0, hN⟩ := hv
  subst hsz
  have X : Cx p s m [.ref (ad 0), .int x1].toArray meth c bR_most (some .int) 2 RR := ⟨B.exec, B.bytes, B.returns, hml, findClass_of_methodNamed B.named, fun w h => atoms_spec (ws := (Cond.code yR_most bR_most 2 (some .int) :: gtb)) B.pre w (List.mem_cons_of_mem _ h), B.notSynchronized⟩
  have hl := lv_entry ([.ref (ad 0), .int x1]) (n := 2) (Nat.le_of_ble_eq_true rfl)
  rw [lg_entry_eq]
  generalize (lg_sl ([.ref (ad 0), .int x1]) ++ List.replicate (2 - (lg_sl ([.ref (ad 0), .int x1])).length) Slot.unset).toArray = ls at hl ⊢
  have hl : lv_has ls 2 [(0, .ref (ad 0)), (1, .int x1)] := hl
  have hA : ∀ q, s.heap.size ≤ q → va_A (wsR ad cI cJ cG I J) s.heap.size q := fun q h => Or.inr h
  exact w_R_most_0 X hK hN hA  x1 I J hm _ _ _ hP hD0.self va_S.rf hl
def b_R_fix_0 (x1 : Int32) (x2 : Int32) (I : SI) (J : SJ) : Option (SI × SJ) :=
  if (I 0 0) ≤ x1 then
    gd (vin x1 4) <|
    nm (va_up I 12 (upd (I 12) x1.toNatClampNeg (-1))) fun I3 =>
    some (I3, J)
  else
    gd (vin x1 4) <|
    nm (I 6 x1.toNatClampNeg) fun v5 =>
    if v5 ≤ 0 then
      gd (vin x1 4) <|
      nm (va_up I 12 (upd (I 12) x1.toNatClampNeg (-1))) fun I8 =>
      some (I8, J)
    else
      gd (vin x1 4) <|
      nm (I 6 x1.toNatClampNeg) fun v10 =>
      nm (x2 * v10) fun v11 =>
      gd (vin x1 4) <|
      nm (va_up I 12 (upd (I 12) x1.toNatClampNeg v11)) fun I13 =>
      some (I13, J)
def m_R_fix (x1 : Int32) (x2 : Int32) (I : SI) (J : SJ) : Option (SI × SJ) := b_R_fix_0 x1 x2 I J
def rm_R_fix : Room := { frames := 0, cells := 0, slots := 0, locals := 0 }
set_option maxHeartbeats 4000000 in
set_option maxRecDepth 100000 in
theorem w_R_fix_0 {p : Program} {l : Launch} {e : Env} {s : State} {m : MethodId} {args : Array Value} {below : List Frame} {meth : Method} {c : Code} {D : va_G} {A : Nat → Prop} {ad : Nat → Nat} {cI cJ cG : ClassId} {res : SI × SJ} (X : Cx p s m args meth c bR_fix none 3 RR) (hK : va_K D vwCl (tysR cI cJ cG) s) (hN : NWs s) (hA : ∀ q, s.heap.size ≤ q → A q)
     (x1 : Int32) (x2 : Int32) (I : SI) (J : SJ) (hm : b_R_fix_0  x1 x2 I J = some res) : WB p l e (headSpec (Cond.code yR_fix bR_fix 3 none :: gtb) rm_R_fix).room s m args below meth c (MQ below (va_Qv (fun (u : SI × SJ) => u = res) (atW D vwCl (tysR cI cJ cG) A (wsR ad cI cJ cG)) A) args s 0 0 A) D vwCl A 3 (wsR ad cI cJ cG I J) 0 [(0, .ref (ad 0)), (1, .int x1), (2, .int x2)] [] := by
  obtain ⟨hx, hb, hr, hml, hown, hT, hlk⟩ := X
  intro H locs ls hP hD hS hl
  unfold b_R_fix_0 at hm
  refine lv_aload_n hx hb dR_fix_0 rfl (lv_at hl 0 rfl) ?_
  refine va_get (D := D) (ci := 6) (v := .ref (ad 12)) (C := RR) (T := TR) (N := 31) hx hb hT inR hown hK hP 0 rfl rfl 21 (by decide) (hT _ wd_556) (fun _ h9 => h9) rfl dR_fix_1 ?_
  refine lv_iload_n hx hb dR_fix_4 rfl (lv_at hl 1 rfl) ?_
  refine lv_iload_n hx hb dR_fix_5 rfl (lv_at hl 1 rfl) ?_
  refine lv_aload_n hx hb dR_fix_6 rfl (lv_at hl 0 rfl) ?_
  refine va_get (D := D) (ci := 6) (v := .int (I 0 0)) (C := RR) (T := TR) (N := 31) hx hb hT inR hown hK hP 0 rfl rfl 0 (by decide) (hT _ wd_535) (fun _ h9 => h9) rfl dR_fix_7 ?_
  refine lv_icmp_ge (tgt := 33) hx hb dR_fix_10 (by decide) (fun c1 => ?_) (fun c1 => ?_)
  · have hm := brp hm c1
    refine lv_iconst (v := (-1)) hx hb dR_fix_33 (by decide) ?_
    obtain ⟨g2, hm⟩ := gd_to hm
    refine va_iast hx hb hK hP hD hS 12 0 rfl rfl g2 dR_fix_34 (fun H locs hP hD hS => ?_)
    obtain ⟨I3, eI3⟩ : ∃ z : SI, z = va_up I 12 (upd (I 12) x1.toNatClampNeg (-1)) := ⟨_, rfl⟩
    have hm := nm_to eI3 hm
    have hP := P_eq (ws2 := wsR ad cI cJ cG I3 J) hP (by rw [eI3]; rfl)
    have hD := D_eq (ws2 := wsR ad cI cJ cG I3 J) hD (by rw [eI3]; rfl)
    exact W.vret hx hb hr (fun t ht hW => ⟨⟨(I3, J), rfl, Option.some.inj hm, ht ▸ hP, va_K.moved hW.alike hK, hD⟩, hS.F ht⟩) hS.2.2 dR_fix_35 hlk
  · have hm := brn hm c1
    refine lv_aload_n hx hb dR_fix_13 rfl (lv_at hl 0 rfl) ?_
    refine va_get (D := D) (ci := 6) (v := .ref (ad 6)) (C := RR) (T := TR) (N := 31) hx hb hT inR hown hK hP 0 rfl rfl 6 (by decide) (hT _ wd_541) (fun _ h9 => h9) rfl dR_fix_14 ?_
    refine lv_iload_n hx hb dR_fix_17 rfl (lv_at hl 1 rfl) ?_
    obtain ⟨g4, hm⟩ := gd_to hm
    refine va_iald hx hb hK hP 6 0 rfl rfl g4 dR_fix_18 ?_
    refine lv_topi (fun v5 ev5 => ?_)
    have hm := nm_to ev5 hm
    refine lv_if_le (tgt := 33) hx hb dR_fix_19 (by decide) (fun c6 => ?_) (fun c6 => ?_)
    · have hm := brp hm c6
      refine lv_iconst (v := (-1)) hx hb dR_fix_33 (by decide) ?_
      obtain ⟨g7, hm⟩ := gd_to hm
      refine va_iast hx hb hK hP hD hS 12 0 rfl rfl g7 dR_fix_34 (fun H locs hP hD hS => ?_)
      obtain ⟨I8, eI8⟩ : ∃ z : SI, z = va_up I 12 (upd (I 12) x1.toNatClampNeg (-1)) := ⟨_, rfl⟩
      have hm := nm_to eI8 hm
      have hP := P_eq (ws2 := wsR ad cI cJ cG I8 J) hP (by rw [eI8]; rfl)
      have hD := D_eq (ws2 := wsR ad cI cJ cG I8 J) hD (by rw [eI8]; rfl)
      exact W.vret hx hb hr (fun t ht hW => ⟨⟨(I8, J), rfl, Option.some.inj hm, ht ▸ hP, va_K.moved hW.alike hK, hD⟩, hS.F ht⟩) hS.2.2 dR_fix_35 hlk
    · have hm := brn hm c6
      refine lv_iload_n hx hb dR_fix_22 rfl (lv_at hl 2 rfl) ?_
      refine lv_aload_n hx hb dR_fix_23 rfl (lv_at hl 0 rfl) ?_
      refine va_get (D := D) (ci := 6) (v := .ref (ad 6)) (C := RR) (T := TR) (N := 31) hx hb hT inR hown hK hP 0 rfl rfl 6 (by decide) (hT _ wd_541) (fun _ h9 => h9) rfl dR_fix_24 ?_
      refine lv_iload_n hx hb dR_fix_27 rfl (lv_at hl 1 rfl) ?_
      obtain ⟨g9, hm⟩ := gd_to hm
      refine va_iald hx hb hK hP 6 0 rfl rfl g9 dR_fix_28 ?_
      refine lv_topi (fun v10 ev10 => ?_)
      have hm := nm_to ev10 hm
      refine lv_imul hx hb dR_fix_29 ?_
      refine lv_topi (fun v11 ev11 => ?_)
      have hm := nm_to ev11 hm
      refine lv_goto (tgt := 34) hx hb dR_fix_30 (by decide) ?_
      obtain ⟨g12, hm⟩ := gd_to hm
      refine va_iast hx hb hK hP hD hS 12 0 rfl rfl g12 dR_fix_34 (fun H locs hP hD hS => ?_)
      obtain ⟨I13, eI13⟩ : ∃ z : SI, z = va_up I 12 (upd (I 12) x1.toNatClampNeg v11) := ⟨_, rfl⟩
      have hm := nm_to eI13 hm
      have hP := P_eq (ws2 := wsR ad cI cJ cG I13 J) hP (by rw [eI13]; rfl)
      have hD := D_eq (ws2 := wsR ad cI cJ cG I13 J) hD (by rw [eI13]; rfl)
      exact W.vret hx hb hr (fun t ht hW => ⟨⟨(I13, J), rfl, Option.some.inj hm, ht ▸ hP, va_K.moved hW.alike hK, hD⟩, hS.F ht⟩) hS.2.2 dR_fix_35 hlk
set_option maxHeartbeats 4000000 in
set_option maxRecDepth 100000 in
theorem c_R_fix (l : Launch) (D : va_G) (ad : Nat → Nat) (cI cJ cG : ClassId) (sz : Nat) (x1 : Int32) (x2 : Int32) (I : SI) (J : SJ) (res : SI × SJ) (hm : m_R_fix x1 x2 I J = some res) : Met l yR_fix (Cond.code yR_fix bR_fix 3 none :: gtb) rm_R_fix (va_Pc [.ref (ad 0), .int x1, .int x2] (preW D vwCl (tysR cI cJ cG) (wsR ad cI cJ cG I J) sz)) (va_Qv (fun (u : SI × SJ) => u = res) (atW D vwCl (tysR cI cJ cG) (va_A (wsR ad cI cJ cG I J) sz) (wsR ad cI cJ cG)) (va_A (wsR ad cI cJ cG I J) sz)) 0 0 (va_A (wsR ad cI cJ cG I J) sz) := by
  refine Met.ofW (cc := bR_fix) (maxL := 3) (ret := none) (by decide) rfl ?_
  intro p e s m args below meth c s₁ B hml hv
  obtain ⟨rfl, hsz, hP, hK, hD0, hN⟩ := hv
  subst hsz
  have X : Cx p s m [.ref (ad 0), .int x1, .int x2].toArray meth c bR_fix none 3 RR := ⟨B.exec, B.bytes, B.returns, hml, findClass_of_methodNamed B.named, fun w h => atoms_spec (ws := (Cond.code yR_fix bR_fix 3 none :: gtb)) B.pre w (List.mem_cons_of_mem _ h), B.notSynchronized⟩
  have hl := lv_entry ([.ref (ad 0), .int x1, .int x2]) (n := 3) (Nat.le_of_ble_eq_true rfl)
  rw [lg_entry_eq]
  generalize (lg_sl ([.ref (ad 0), .int x1, .int x2]) ++ List.replicate (3 - (lg_sl ([.ref (ad 0), .int x1, .int x2])).length) Slot.unset).toArray = ls at hl ⊢
  have hl : lv_has ls 3 [(0, .ref (ad 0)), (1, .int x1), (2, .int x2)] := hl
  have hA : ∀ q, s.heap.size ≤ q → va_A (wsR ad cI cJ cG I J) s.heap.size q := fun q h => Or.inr h
  exact w_R_fix_0 X hK hN hA  x1 x2 I J hm _ _ _ hP hD0.self va_S.rf hl
def b_R_mixes_11 (k22 : Int32 → Int32 → Int32 → SI → SJ → Option (Int32 × SI × SJ)) (x1 : Int32) (x2 : Int32) (I : SI) (J : SJ) : Option (Int32 × SI × SJ) :=
  cl3 (m_R_most 0 I J) fun r1 I2 J3 =>
  if r1 < x2 then
    gd (narrow .boolean (.int (I2 0 28)) = .int (I2 0 28)) <|
    some (I2 0 28, I2, J3)
  else
    k22 x1 x2 0 I2 J3
def b_R_mixes_22 (k11 : Int32 → Int32 → SI → SJ → Option (Int32 × SI × SJ)) (k34 : Int32 → Int32 → Int32 → Int32 → SI → SJ → Option (Int32 × SI × SJ)) (x1 : Int32) (x2 : Int32) (x3 : Int32) (I : SI) (J : SJ) : Option (Int32 × SI × SJ) :=
  cl3 (m_R_most 1 I J) fun r1 I2 J3 =>
  if r1 < x3 then
    nm (x2 + 1) fun v6 =>
    k11 x1 v6 I2 J3
  else
    k34 x1 x2 x3 0 I2 J3
def b_R_mixes_34 (k22 : Int32 → Int32 → Int32 → SI → SJ → Option (Int32 × SI × SJ)) (k47 : Int32 → Int32 → Int32 → Int32 → Int32 → SI → SJ → Option (Int32 × SI × SJ)) (x1 : Int32) (x2 : Int32) (x3 : Int32) (x4 : Int32) (I : SI) (J : SJ) : Option (Int32 × SI × SJ) :=
  cl3 (m_R_most 2 I J) fun r1 I2 J3 =>
  if r1 < x4 then
    nm (x3 + 1) fun v6 =>
    k22 x1 x2 v6 I2 J3
  else
    k47 x1 x2 x3 x4 0 I2 J3
def b_R_mixes_47 (k34 : Int32 → Int32 → Int32 → Int32 → SI → SJ → Option (Int32 × SI × SJ)) (k47 : Int32 → Int32 → Int32 → Int32 → Int32 → SI → SJ → Option (Int32 × SI × SJ)) (x1 : Int32) (x2 : Int32) (x3 : Int32) (x4 : Int32) (x5 : Int32) (I : SI) (J : SJ) : Option (Int32 × SI × SJ) :=
  cl3 (m_R_most 3 I J) fun r1 I2 J3 =>
  if r1 < x5 then
    nm (x4 + 1) fun v6 =>
    k34 x1 x2 x3 v6 I2 J3
  else
    cl2 (m_R_fix 0 x2 I2 J3) fun I8 J9 =>
    cl2 (m_R_fix 1 x3 I8 J9) fun I12 J13 =>
    cl2 (m_R_fix 2 x4 I12 J13) fun I16 J17 =>
    cl2 (m_R_fix 3 x5 I16 J17) fun I20 J21 =>
    cl2 (m_R_corners x1 0 I20 J21) fun I24 J25 =>
    nm (x5 + 1) fun v27 =>
    k47 x1 x2 x3 x4 v27 I24 J25
def b_R_mixes_0 (k11 : Int32 → Int32 → SI → SJ → Option (Int32 × SI × SJ)) (x1 : Int32) (I : SI) (J : SJ) : Option (Int32 × SI × SJ) :=
  cl2 (m_R_countAll I J) fun I2 J3 =>
  nm (va_up I2 0 (upd (I2 0) 28 0)) fun I5 =>
  k11 x1 0 I5 J3
def g_R_mixes : Nat → (Int32 → Int32 → SI → SJ → Option (Int32 × SI × SJ)) × (Int32 → Int32 → Int32 → SI → SJ → Option (Int32 × SI × SJ)) × (Int32 → Int32 → Int32 → Int32 → SI → SJ → Option (Int32 × SI × SJ)) × (Int32 → Int32 → Int32 → Int32 → Int32 → SI → SJ → Option (Int32 × SI × SJ))
  | 0 => (fun _ _ _ _ => none, fun _ _ _ _ _ => none, fun _ _ _ _ _ _ => none, fun _ _ _ _ _ _ _ => none)
  | n + 1 => (fun x1 x2 I J => b_R_mixes_11 (g_R_mixes n).2.1 x1 x2 I J, fun x1 x2 x3 I J => b_R_mixes_22 (g_R_mixes n).1 (g_R_mixes n).2.2.1 x1 x2 x3 I J, fun x1 x2 x3 x4 I J => b_R_mixes_34 (g_R_mixes n).2.1 (g_R_mixes n).2.2.2 x1 x2 x3 x4 I J, fun x1 x2 x3 x4 x5 I J => b_R_mixes_47 (g_R_mixes n).2.2.1 (g_R_mixes n).2.2.2 x1 x2 x3 x4 x5 I J)
def m_R_mixes (x1 : Int32) (I : SI) (J : SJ) : Option (Int32 × SI × SJ) := b_R_mixes_0 (g_R_mixes fuel).1 x1 I J
def rm_R_mixes : Room := { frames := 5, cells := 0, slots := 0, locals := 125 }
set_option maxHeartbeats 4000000 in
set_option maxRecDepth 100000 in
theorem w_R_mixes_11 {p : Program} {l : Launch} {e : Env} {s : State} {m : MethodId} {args : Array Value} {below : List Frame} {meth : Method} {c : Code} {D : va_G} {A : Nat → Prop} {ad : Nat → Nat} {cI cJ cG : ClassId} {res : Int32 × SI × SJ} (X : Cx p s m args meth c bR_mixes (some .boolean) 6 RR) (hK : va_K D vwCl (tysR cI cJ cG) s) (hN : NWs s) (hA : ∀ q, s.heap.size ≤ q → A q)
    {k22 : Int32 → Int32 → Int32 → SI → SJ → Option (Int32 × SI × SJ)} (hk22 : ∀ (x1 : Int32) (x2 : Int32) (x3 : Int32) (I : SI) (J : SJ), k22 x1 x2 x3 I J = some res → WB p l e (headSpec (Cond.code yR_mixes bR_mixes 6 (some .boolean) :: gtb) rm_R_mixes).room s m args below meth c (MQ below (va_Qi (fun (r : Int32) (u : SI × SJ) => (r, u) = res) (atW D vwCl (tysR cI cJ cG) A (wsR ad cI cJ cG)) A) args s 0 0 A) D vwCl A 6 (wsR ad cI cJ cG I J) 22 [(0, .ref (ad 0)), (1, .int x1), (2, .int x2), (3, .int x3)] [])
     (x1 : Int32) (x2 : Int32) (I : SI) (J : SJ) (hm : b_R_mixes_11 k22 x1 x2 I J = some res) : WB p l e (headSpec (Cond.code yR_mixes bR_mixes 6 (some .boolean) :: gtb) rm_R_mixes).room s m args below meth c (MQ below (va_Qi (fun (r : Int32) (u : SI × SJ) => (r, u) = res) (atW D vwCl (tysR cI cJ cG) A (wsR ad cI cJ cG)) A) args s 0 0 A) D vwCl A 6 (wsR ad cI cJ cG I J) 11 [(0, .ref (ad 0)), (1, .int x1), (2, .int x2)] [] := by
  obtain ⟨hx, hb, hr, hml, hown, hT, hlk⟩ := X
  intro H locs ls hP hD hS hl
  unfold b_R_mixes_11 at hm
  refine lv_iload_n hx hb dR_mixes_11 rfl (lv_at hl 2 rfl) ?_
  refine lv_aload_n hx hb dR_mixes_12 rfl (lv_at hl 0 rfl) ?_
  refine lv_iconst (v := 0) hx hb dR_mixes_13 (by decide) ?_
  obtain ⟨r1, I2, J3, hc4, hm⟩ := cl3_to hm
  refine pst_i (wf := wsR ad cI cJ cG) hD hS hA (va_runV (As := [.int 0]) (rest := [.int x2]) ⟨hx, hb, hml, hown, hT⟩ (c_R_most l D ad cI cJ cG _ 0 I J _ hc4) (cwV 1 hT (gV wd_730 wd_732 wd_47 wd_57 wd_733) rfl rfl rfl (by decide +kernel) ⟨Nat.le_of_ble_eq_true rfl, Nat.le_of_ble_eq_true rfl⟩) ⟨preW_fb, va_recv hK hP (ci := 6) (q0 := 0) rfl rfl, preW_at hP hK hN hD⟩ rfl rfl hl.1 rfl (lv_room (Nat.le_of_ble_eq_true rfl)) dR_mixes_14 ⟨Nat.zero_le _, Nat.zero_le _⟩) (fun H locs hP hD hS => ?_)
  refine lv_icmp_gt (tgt := 113) hx hb dR_mixes_17 (by decide) (fun c5 => ?_) (fun c5 => ?_)
  · have hm := brp hm c5
    refine lv_aload_n hx hb dR_mixes_113 rfl (lv_at hl 0 rfl) ?_
    refine va_get (D := D) (ci := 6) (v := .int (I2 0 28)) (C := RR) (T := TR) (N := 31) hx hb hT inR hown hK hP 0 rfl rfl 28 (by decide) (hT _ wd_563) (fun _ h9 => h9) rfl dR_mixes_114 ?_
    obtain ⟨g6, hm⟩ := gd_to hm
    exact W.zret hx hb hr g6 (fun t ht hW => ⟨⟨I2 0 28, (I2, J3), rfl, Option.some.inj hm, ht ▸ hP, va_K.moved hW.alike hK, hD⟩, hS.F ht⟩) hS.2.2 dR_mixes_117 hlk
  · have hm := brn hm c5
    refine lv_iconst (v := 0) hx hb dR_mixes_20 (by decide) ?_
    refine lv_istore_n (lv' := [(3, .int 0), (0, .ref (ad 0)), (1, .int x1), (2, .int x2)]) hx hb dR_mixes_21 rfl hl (by decide) rfl (fun ls hl => ?_)
    exact hk22 x1 x2 0 I2 J3 hm _ _ _ hP hD hS (lv_sub hl [1, 2, 3, 0] rfl)
set_option maxHeartbeats 4000000 in
set_option maxRecDepth 100000 in
theorem w_R_mixes_22 {p : Program} {l : Launch} {e : Env} {s : State} {m : MethodId} {args : Array Value} {below : List Frame} {meth : Method} {c : Code} {D : va_G} {A : Nat → Prop} {ad : Nat → Nat} {cI cJ cG : ClassId} {res : Int32 × SI × SJ} (X : Cx p s m args meth c bR_mixes (some .boolean) 6 RR) (hK : va_K D vwCl (tysR cI cJ cG) s) (hN : NWs s) (hA : ∀ q, s.heap.size ≤ q → A q)
    {k11 : Int32 → Int32 → SI → SJ → Option (Int32 × SI × SJ)} (hk11 : ∀ (x1 : Int32) (x2 : Int32) (I : SI) (J : SJ), k11 x1 x2 I J = some res → WB p l e (headSpec (Cond.code yR_mixes bR_mixes 6 (some .boolean) :: gtb) rm_R_mixes).room s m args below meth c (MQ below (va_Qi (fun (r : Int32) (u : SI × SJ) => (r, u) = res) (atW D vwCl (tysR cI cJ cG) A (wsR ad cI cJ cG)) A) args s 0 0 A) D vwCl A 6 (wsR ad cI cJ cG I J) 11 [(0, .ref (ad 0)), (1, .int x1), (2, .int x2)] [])
    {k34 : Int32 → Int32 → Int32 → Int32 → SI → SJ → Option (Int32 × SI × SJ)} (hk34 : ∀ (x1 : Int32) (x2 : Int32) (x3 : Int32) (x4 : Int32) (I : SI) (J : SJ), k34 x1 x2 x3 x4 I J = some res → WB p l e (headSpec (Cond.code yR_mixes bR_mixes 6 (some .boolean) :: gtb) rm_R_mixes).room s m args below meth c (MQ below (va_Qi (fun (r : Int32) (u : SI × SJ) => (r, u) = res) (atW D vwCl (tysR cI cJ cG) A (wsR ad cI cJ cG)) A) args s 0 0 A) D vwCl A 6 (wsR ad cI cJ cG I J) 34 [(0, .ref (ad 0)), (1, .int x1), (2, .int x2), (3, .int x3), (4, .int x4)] [])
     (x1 : Int32) (x2 : Int32) (x3 : Int32) (I : SI) (J : SJ) (hm : b_R_mixes_22 k11 k34 x1 x2 x3 I J = some res) : WB p l e (headSpec (Cond.code yR_mixes bR_mixes 6 (some .boolean) :: gtb) rm_R_mixes).room s m args below meth c (MQ below (va_Qi (fun (r : Int32) (u : SI × SJ) => (r, u) = res) (atW D vwCl (tysR cI cJ cG) A (wsR ad cI cJ cG)) A) args s 0 0 A) D vwCl A 6 (wsR ad cI cJ cG I J) 22 [(0, .ref (ad 0)), (1, .int x1), (2, .int x2), (3, .int x3)] [] := by
  obtain ⟨hx, hb, hr, hml, hown, hT, hlk⟩ := X
  intro H locs ls hP hD hS hl
  unfold b_R_mixes_22 at hm
  refine lv_iload_n hx hb dR_mixes_22 rfl (lv_at hl 3 rfl) ?_
  refine lv_aload_n hx hb dR_mixes_23 rfl (lv_at hl 0 rfl) ?_
  refine lv_iconst (v := 1) hx hb dR_mixes_24 (by decide) ?_
  obtain ⟨r1, I2, J3, hc4, hm⟩ := cl3_to hm
  refine pst_i (wf := wsR ad cI cJ cG) hD hS hA (va_runV (As := [.int 1]) (rest := [.int x3]) ⟨hx, hb, hml, hown, hT⟩ (c_R_most l D ad cI cJ cG _ 1 I J _ hc4) (cwV 1 hT (gV wd_730 wd_732 wd_47 wd_57 wd_733) rfl rfl rfl (by decide +kernel) ⟨Nat.le_of_ble_eq_true rfl, Nat.le_of_ble_eq_true rfl⟩) ⟨preW_fb, va_recv hK hP (ci := 6) (q0 := 0) rfl rfl, preW_at hP hK hN hD⟩ rfl rfl hl.1 rfl (lv_room (Nat.le_of_ble_eq_true rfl)) dR_mixes_25 ⟨Nat.zero_le _, Nat.zero_le _⟩) (fun H locs hP hD hS => ?_)
  refine lv_icmp_gt (tgt := 107) hx hb dR_mixes_28 (by decide) (fun c5 => ?_) (fun c5 => ?_)
  · have hm := brp hm c5
    obtain ⟨v6, ev6⟩ : ∃ z : Int32, z = x2 + 1 := ⟨_, rfl⟩
    have hm := nm_to ev6 hm
    refine lv_iinc (v := v6) (lv' := [(2, .int v6), (0, .ref (ad 0)), (1, .int x1), (3, .int x3)]) hx hb dR_mixes_107 hl (k := 2) rfl (by rw [ev6]; rfl) (by decide) rfl (fun ls hl => ?_)
    refine lv_goto (tgt := 11) hx hb dR_mixes_110 (by decide) ?_
    exact hk11 x1 v6 I2 J3 hm _ _ _ hP hD hS (lv_sub hl [1, 2, 0] rfl)
  · have hm := brn hm c5
    refine lv_iconst (v := 0) hx hb dR_mixes_31 (by decide) ?_
    refine lv_istore (lv' := [(4, .int 0), (0, .ref (ad 0)), (1, .int x1), (2, .int x2), (3, .int x3)]) hx hb dR_mixes_32 hl (by decide) rfl (fun ls hl => ?_)
    exact hk34 x1 x2 x3 0 I2 J3 hm _ _ _ hP hD hS (lv_sub hl [1, 2, 3, 4, 0] rfl)
set_option maxHeartbeats 4000000 in
set_option maxRecDepth 100000 in
theorem w_R_mixes_34 {p : Program} {l : Launch} {e : Env} {s : State} {m : MethodId} {args : Array Value} {below : List Frame} {meth : Method} {c : Code} {D : va_G} {A : Nat → Prop} {ad : Nat → Nat} {cI cJ cG : ClassId} {res : Int32 × SI × SJ} (X : Cx p s m args meth c bR_mixes (some .boolean) 6 RR) (hK : va_K D vwCl (tysR cI cJ cG) s) (hN : NWs s) (hA : ∀ q, s.heap.size ≤ q → A q)
    {k22 : Int32 → Int32 → Int32 → SI → SJ → Option (Int32 × SI × SJ)} (hk22 : ∀ (x1 : Int32) (x2 : Int32) (x3 : Int32) (I : SI) (J : SJ), k22 x1 x2 x3 I J = some res → WB p l e (headSpec (Cond.code yR_mixes bR_mixes 6 (some .boolean) :: gtb) rm_R_mixes).room s m args below meth c (MQ below (va_Qi (fun (r : Int32) (u : SI × SJ) => (r, u) = res) (atW D vwCl (tysR cI cJ cG) A (wsR ad cI cJ cG)) A) args s 0 0 A) D vwCl A 6 (wsR ad cI cJ cG I J) 22 [(0, .ref (ad 0)), (1, .int x1), (2, .int x2), (3, .int x3)] [])
    {k47 : Int32 → Int32 → Int32 → Int32 → Int32 → SI → SJ → Option (Int32 × SI × SJ)} (hk47 : ∀ (x1 : Int32) (x2 : Int32) (x3 : Int32) (x4 : Int32) (x5 : Int32) (I : SI) (J : SJ), k47 x1 x2 x3 x4 x5 I J = some res → WB p l e (headSpec (Cond.code yR_mixes bR_mixes 6 (some .boolean) :: gtb) rm_R_mixes).room s m args below meth c (MQ below (va_Qi (fun (r : Int32) (u : SI × SJ) => (r, u) = res) (atW D vwCl (tysR cI cJ cG) A (wsR ad cI cJ cG)) A) args s 0 0 A) D vwCl A 6 (wsR ad cI cJ cG I J) 47 [(0, .ref (ad 0)), (1, .int x1), (2, .int x2), (3, .int x3), (4, .int x4), (5, .int x5)] [])
     (x1 : Int32) (x2 : Int32) (x3 : Int32) (x4 : Int32) (I : SI) (J : SJ) (hm : b_R_mixes_34 k22 k47 x1 x2 x3 x4 I J = some res) : WB p l e (headSpec (Cond.code yR_mixes bR_mixes 6 (some .boolean) :: gtb) rm_R_mixes).room s m args below meth c (MQ below (va_Qi (fun (r : Int32) (u : SI × SJ) => (r, u) = res) (atW D vwCl (tysR cI cJ cG) A (wsR ad cI cJ cG)) A) args s 0 0 A) D vwCl A 6 (wsR ad cI cJ cG I J) 34 [(0, .ref (ad 0)), (1, .int x1), (2, .int x2), (3, .int x3), (4, .int x4)] [] := by
  obtain ⟨hx, hb, hr, hml, hown, hT, hlk⟩ := X
  intro H locs ls hP hD hS hl
  unfold b_R_mixes_34 at hm
  refine lv_iload hx hb dR_mixes_34 (lv_at hl 4 rfl) ?_
  refine lv_aload_n hx hb dR_mixes_36 rfl (lv_at hl 0 rfl) ?_
  refine lv_iconst (v := 2) hx hb dR_mixes_37 (by decide) ?_
  obtain ⟨r1, I2, J3, hc4, hm⟩ := cl3_to hm
  refine pst_i (wf := wsR ad cI cJ cG) hD hS hA (va_runV (As := [.int 2]) (rest := [.int x4]) ⟨hx, hb, hml, hown, hT⟩ (c_R_most l D ad cI cJ cG _ 2 I J _ hc4) (cwV 1 hT (gV wd_730 wd_732 wd_47 wd_57 wd_733) rfl rfl rfl (by decide +kernel) ⟨Nat.le_of_ble_eq_true rfl, Nat.le_of_ble_eq_true rfl⟩) ⟨preW_fb, va_recv hK hP (ci := 6) (q0 := 0) rfl rfl, preW_at hP hK hN hD⟩ rfl rfl hl.1 rfl (lv_room (Nat.le_of_ble_eq_true rfl)) dR_mixes_38 ⟨Nat.zero_le _, Nat.zero_le _⟩) (fun H locs hP hD hS => ?_)
  refine lv_icmp_gt (tgt := 101) hx hb dR_mixes_41 (by decide) (fun c5 => ?_) (fun c5 => ?_)
  · have hm := brp hm c5
    obtain ⟨v6, ev6⟩ : ∃ z : Int32, z = x3 + 1 := ⟨_, rfl⟩
    have hm := nm_to ev6 hm
    refine lv_iinc (v := v6) (lv' := [(3, .int v6), (0, .ref (ad 0)), (1, .int x1), (2, .int x2), (4, .int x4)]) hx hb dR_mixes_101 hl (k := 3) rfl (by rw [ev6]; rfl) (by decide) rfl (fun ls hl => ?_)
    refine lv_goto (tgt := 22) hx hb dR_mixes_104 (by decide) ?_
    exact hk22 x1 x2 v6 I2 J3 hm _ _ _ hP hD hS (lv_sub hl [1, 2, 3, 0] rfl)
  · have hm := brn hm c5
    refine lv_iconst (v := 0) hx hb dR_mixes_44 (by decide) ?_
    refine lv_istore (lv' := [(5, .int 0), (0, .ref (ad 0)), (1, .int x1), (2, .int x2), (3, .int x3), (4, .int x4)]) hx hb dR_mixes_45 hl (by decide) rfl (fun ls hl => ?_)
    exact hk47 x1 x2 x3 x4 0 I2 J3 hm _ _ _ hP hD hS (lv_sub hl [1, 2, 3, 4, 5, 0] rfl)
set_option maxHeartbeats 4000000 in
set_option maxRecDepth 100000 in
theorem w_R_mixes_47 {p : Program} {l : Launch} {e : Env} {s : State} {m : MethodId} {args : Array Value} {below : List Frame} {meth : Method} {c : Code} {D : va_G} {A : Nat → Prop} {ad : Nat → Nat} {cI cJ cG : ClassId} {res : Int32 × SI × SJ} (X : Cx p s m args meth c bR_mixes (some .boolean) 6 RR) (hK : va_K D vwCl (tysR cI cJ cG) s) (hN : NWs s) (hA : ∀ q, s.heap.size ≤ q → A q)
    {k34 : Int32 → Int32 → Int32 → Int32 → SI → SJ → Option (Int32 × SI × SJ)} (hk34 : ∀ (x1 : Int32) (x2 : Int32) (x3 : Int32) (x4 : Int32) (I : SI) (J : SJ), k34 x1 x2 x3 x4 I J = some res → WB p l e (headSpec (Cond.code yR_mixes bR_mixes 6 (some .boolean) :: gtb) rm_R_mixes).room s m args below meth c (MQ below (va_Qi (fun (r : Int32) (u : SI × SJ) => (r, u) = res) (atW D vwCl (tysR cI cJ cG) A (wsR ad cI cJ cG)) A) args s 0 0 A) D vwCl A 6 (wsR ad cI cJ cG I J) 34 [(0, .ref (ad 0)), (1, .int x1), (2, .int x2), (3, .int x3), (4, .int x4)] [])
    {k47 : Int32 → Int32 → Int32 → Int32 → Int32 → SI → SJ → Option (Int32 × SI × SJ)} (hk47 : ∀ (x1 : Int32) (x2 : Int32) (x3 : Int32) (x4 : Int32) (x5 : Int32) (I : SI) (J : SJ), k47 x1 x2 x3 x4 x5 I J = some res → WB p l e (headSpec (Cond.code yR_mixes bR_mixes 6 (some .boolean) :: gtb) rm_R_mixes).room s m args below meth c (MQ below (va_Qi (fun (r : Int32) (u : SI × SJ) => (r, u) = res) (atW D vwCl (tysR cI cJ cG) A (wsR ad cI cJ cG)) A) args s 0 0 A) D vwCl A 6 (wsR ad cI cJ cG I J) 47 [(0, .ref (ad 0)), (1, .int x1), (2, .int x2), (3, .int x3), (4, .int x4), (5, .int x5)] [])
     (x1 : Int32) (x2 : Int32) (x3 : Int32) (x4 : Int32) (x5 : Int32) (I : SI) (J : SJ) (hm : b_R_mixes_47 k34 k47 x1 x2 x3 x4 x5 I J = some res) : WB p l e (headSpec (Cond.code yR_mixes bR_mixes 6 (some .boolean) :: gtb) rm_R_mixes).room s m args below meth c (MQ below (va_Qi (fun (r : Int32) (u : SI × SJ) => (r, u) = res) (atW D vwCl (tysR cI cJ cG) A (wsR ad cI cJ cG)) A) args s 0 0 A) D vwCl A 6 (wsR ad cI cJ cG I J) 47 [(0, .ref (ad 0)), (1, .int x1), (2, .int x2), (3, .int x3), (4, .int x4), (5, .int x5)] [] := by
  obtain ⟨hx, hb, hr, hml, hown, hT, hlk⟩ := X
  intro H locs ls hP hD hS hl
  unfold b_R_mixes_47 at hm
  refine lv_iload hx hb dR_mixes_47 (lv_at hl 5 rfl) ?_
  refine lv_aload_n hx hb dR_mixes_49 rfl (lv_at hl 0 rfl) ?_
  refine lv_iconst (v := 3) hx hb dR_mixes_50 (by decide) ?_
  obtain ⟨r1, I2, J3, hc4, hm⟩ := cl3_to hm
  refine pst_i (wf := wsR ad cI cJ cG) hD hS hA (va_runV (As := [.int 3]) (rest := [.int x5]) ⟨hx, hb, hml, hown, hT⟩ (c_R_most l D ad cI cJ cG _ 3 I J _ hc4) (cwV 1 hT (gV wd_730 wd_732 wd_47 wd_57 wd_733) rfl rfl rfl (by decide +kernel) ⟨Nat.le_of_ble_eq_true rfl, Nat.le_of_ble_eq_true rfl⟩) ⟨preW_fb, va_recv hK hP (ci := 6) (q0 := 0) rfl rfl, preW_at hP hK hN hD⟩ rfl rfl hl.1 rfl (lv_room (Nat.le_of_ble_eq_true rfl)) dR_mixes_51 ⟨Nat.zero_le _, Nat.zero_le _⟩) (fun H locs hP hD hS => ?_)
  refine lv_icmp_gt (tgt := 95) hx hb dR_mixes_54 (by decide) (fun c5 => ?_) (fun c5 => ?_)
  · have hm := brp hm c5
    obtain ⟨v6, ev6⟩ : ∃ z : Int32, z = x4 + 1 := ⟨_, rfl⟩
    have hm := nm_to ev6 hm
    refine lv_iinc (v := v6) (lv' := [(4, .int v6), (0, .ref (ad 0)), (1, .int x1), (2, .int x2), (3, .int x3), (5, .int x5)]) hx hb dR_mixes_95 hl (k := 4) rfl (by rw [ev6]; rfl) (by decide) rfl (fun ls hl => ?_)
    refine lv_goto (tgt := 34) hx hb dR_mixes_98 (by decide) ?_
    exact hk34 x1 x2 x3 v6 I2 J3 hm _ _ _ hP hD hS (lv_sub hl [1, 2, 3, 4, 0] rfl)
  · have hm := brn hm c5
    refine lv_aload_n hx hb dR_mixes_57 rfl (lv_at hl 0 rfl) ?_
    refine lv_iconst (v := 0) hx hb dR_mixes_58 (by decide) ?_
    refine lv_iload_n hx hb dR_mixes_59 rfl (lv_at hl 2 rfl) ?_
    obtain ⟨I8, J9, hc10, hm⟩ := cl2_to hm
    refine pst_v (wf := wsR ad cI cJ cG) hD hS hA (va_runV (As := [.int 0, .int x2]) (rest := []) ⟨hx, hb, hml, hown, hT⟩ (c_R_fix l D ad cI cJ cG _ 0 x2 I2 J3 _ hc10) (cwV 2 hT (gV wd_734 wd_736 wd_48 wd_57 wd_737) rfl rfl rfl (by decide +kernel) ⟨Nat.le_of_ble_eq_true rfl, Nat.le_of_ble_eq_true rfl⟩) ⟨preW_fb, va_recv hK hP (ci := 6) (q0 := 0) rfl rfl, preW_at hP hK hN hD⟩ rfl rfl hl.1 rfl (lv_room (Nat.le_of_ble_eq_true rfl)) dR_mixes_60 ⟨Nat.zero_le _, Nat.zero_le _⟩) (fun H locs hP hD hS => ?_)
    refine lv_aload_n hx hb dR_mixes_63 rfl (lv_at hl 0 rfl) ?_
    refine lv_iconst (v := 1) hx hb dR_mixes_64 (by decide) ?_
    refine lv_iload_n hx hb dR_mixes_65 rfl (lv_at hl 3 rfl) ?_
    obtain ⟨I12, J13, hc14, hm⟩ := cl2_to hm
    refine pst_v (wf := wsR ad cI cJ cG) hD hS hA (va_runV (As := [.int 1, .int x3]) (rest := []) ⟨hx, hb, hml, hown, hT⟩ (c_R_fix l D ad cI cJ cG _ 1 x3 I8 J9 _ hc14) (cwV 2 hT (gV wd_734 wd_736 wd_48 wd_57 wd_737) rfl rfl rfl (by decide +kernel) ⟨Nat.le_of_ble_eq_true rfl, Nat.le_of_ble_eq_true rfl⟩) ⟨preW_fb, va_recv hK hP (ci := 6) (q0 := 0) rfl rfl, preW_at hP hK hN hD⟩ rfl rfl hl.1 rfl (lv_room (Nat.le_of_ble_eq_true rfl)) dR_mixes_66 ⟨Nat.zero_le _, Nat.zero_le _⟩) (fun H locs hP hD hS => ?_)
    refine lv_aload_n hx hb dR_mixes_69 rfl (lv_at hl 0 rfl) ?_
    refine lv_iconst (v := 2) hx hb dR_mixes_70 (by decide) ?_
    refine lv_iload hx hb dR_mixes_71 (lv_at hl 4 rfl) ?_
    obtain ⟨I16, J17, hc18, hm⟩ := cl2_to hm
    refine pst_v (wf := wsR ad cI cJ cG) hD hS hA (va_runV (As := [.int 2, .int x4]) (rest := []) ⟨hx, hb, hml, hown, hT⟩ (c_R_fix l D ad cI cJ cG _ 2 x4 I12 J13 _ hc18) (cwV 2 hT (gV wd_734 wd_736 wd_48 wd_57 wd_737) rfl rfl rfl (by decide +kernel) ⟨Nat.le_of_ble_eq_true rfl, Nat.le_of_ble_eq_true rfl⟩) ⟨preW_fb, va_recv hK hP (ci := 6) (q0 := 0) rfl rfl, preW_at hP hK hN hD⟩ rfl rfl hl.1 rfl (lv_room (Nat.le_of_ble_eq_true rfl)) dR_mixes_73 ⟨Nat.zero_le _, Nat.zero_le _⟩) (fun H locs hP hD hS => ?_)
    refine lv_aload_n hx hb dR_mixes_76 rfl (lv_at hl 0 rfl) ?_
    refine lv_iconst (v := 3) hx hb dR_mixes_77 (by decide) ?_
    refine lv_iload hx hb dR_mixes_78 (lv_at hl 5 rfl) ?_
    obtain ⟨I20, J21, hc22, hm⟩ := cl2_to hm
    refine pst_v (wf := wsR ad cI cJ cG) hD hS hA (va_runV (As := [.int 3, .int x5]) (rest := []) ⟨hx, hb, hml, hown, hT⟩ (c_R_fix l D ad cI cJ cG _ 3 x5 I16 J17 _ hc22) (cwV 2 hT (gV wd_734 wd_736 wd_48 wd_57 wd_737) rfl rfl rfl (by decide +kernel) ⟨Nat.le_of_ble_eq_true rfl, Nat.le_of_ble_eq_true rfl⟩) ⟨preW_fb, va_recv hK hP (ci := 6) (q0 := 0) rfl rfl, preW_at hP hK hN hD⟩ rfl rfl hl.1 rfl (lv_room (Nat.le_of_ble_eq_true rfl)) dR_mixes_80 ⟨Nat.zero_le _, Nat.zero_le _⟩) (fun H locs hP hD hS => ?_)
    refine lv_aload_n hx hb dR_mixes_83 rfl (lv_at hl 0 rfl) ?_
    refine lv_iload_n hx hb dR_mixes_84 rfl (lv_at hl 1 rfl) ?_
    refine lv_iconst (v := 0) hx hb dR_mixes_85 (by decide) ?_
    obtain ⟨I24, J25, hc26, hm⟩ := cl2_to hm
    refine pst_v (wf := wsR ad cI cJ cG) hD hS hA (va_runV (As := [.int x1, .int 0]) (rest := []) ⟨hx, hb, hml, hown, hT⟩ (c_R_corners l D ad cI cJ cG _ x1 0 I20 J21 _ hc26) (cwV 2 hT (gV wd_685 wd_687 wd_37 wd_57 wd_688) rfl rfl rfl (by decide +kernel) ⟨Nat.le_of_ble_eq_true rfl, Nat.le_of_ble_eq_true rfl⟩) ⟨preW_fb, va_recv hK hP (ci := 6) (q0 := 0) rfl rfl, preW_at hP hK hN hD⟩ rfl rfl hl.1 rfl (lv_room (Nat.le_of_ble_eq_true rfl)) dR_mixes_86 ⟨Nat.zero_le _, Nat.zero_le _⟩) (fun H locs hP hD hS => ?_)
    obtain ⟨v27, ev27⟩ : ∃ z : Int32, z = x5 + 1 := ⟨_, rfl⟩
    have hm := nm_to ev27 hm
    refine lv_iinc (v := v27) (lv' := [(5, .int v27), (0, .ref (ad 0)), (1, .int x1), (2, .int x2), (3, .int x3), (4, .int x4)]) hx hb dR_mixes_89 hl (k := 5) rfl (by rw [ev27]; rfl) (by decide) rfl (fun ls hl => ?_)
    refine lv_goto (tgt := 47) hx hb dR_mixes_92 (by decide) ?_
    exact hk47 x1 x2 x3 x4 v27 I24 J25 hm _ _ _ hP hD hS (lv_sub hl [1, 2, 3, 4, 5, 0] rfl)
set_option maxHeartbeats 4000000 in
set_option maxRecDepth 100000 in
theorem w_R_mixes_0 {p : Program} {l : Launch} {e : Env} {s : State} {m : MethodId} {args : Array Value} {below : List Frame} {meth : Method} {c : Code} {D : va_G} {A : Nat → Prop} {ad : Nat → Nat} {cI cJ cG : ClassId} {res : Int32 × SI × SJ} (X : Cx p s m args meth c bR_mixes (some .boolean) 6 RR) (hK : va_K D vwCl (tysR cI cJ cG) s) (hN : NWs s) (hA : ∀ q, s.heap.size ≤ q → A q)
    {k11 : Int32 → Int32 → SI → SJ → Option (Int32 × SI × SJ)} (hk11 : ∀ (x1 : Int32) (x2 : Int32) (I : SI) (J : SJ), k11 x1 x2 I J = some res → WB p l e (headSpec (Cond.code yR_mixes bR_mixes 6 (some .boolean) :: gtb) rm_R_mixes).room s m args below meth c (MQ below (va_Qi (fun (r : Int32) (u : SI × SJ) => (r, u) = res) (atW D vwCl (tysR cI cJ cG) A (wsR ad cI cJ cG)) A) args s 0 0 A) D vwCl A 6 (wsR ad cI cJ cG I J) 11 [(0, .ref (ad 0)), (1, .int x1), (2, .int x2)] [])
     (x1 : Int32) (I : SI) (J : SJ) (hm : b_R_mixes_0 k11 x1 I J = some res) : WB p l e (headSpec (Cond.code yR_mixes bR_mixes 6 (some .boolean) :: gtb) rm_R_mixes).room s m args below meth c (MQ below (va_Qi (fun (r : Int32) (u : SI × SJ) => (r, u) = res) (atW D vwCl (tysR cI cJ cG) A (wsR ad cI cJ cG)) A) args s 0 0 A) D vwCl A 6 (wsR ad cI cJ cG I J) 0 [(0, .ref (ad 0)), (1, .int x1)] [] := by
  obtain ⟨hx, hb, hr, hml, hown, hT, hlk⟩ := X
  intro H locs ls hP hD hS hl
  unfold b_R_mixes_0 at hm
  refine lv_aload_n hx hb dR_mixes_0 rfl (lv_at hl 0 rfl) ?_
  obtain ⟨I2, J3, hc4, hm⟩ := cl2_to hm
  refine pst_v (wf := wsR ad cI cJ cG) hD hS hA (va_runV (As := []) (rest := []) ⟨hx, hb, hml, hown, hT⟩ (c_R_countAll l D ad cI cJ cG _ I J _ hc4) (cwV 0 hT (gV wd_669 wd_671 wd_33 wd_57 wd_672) rfl rfl rfl (by decide +kernel) ⟨Nat.le_of_ble_eq_true rfl, Nat.le_of_ble_eq_true rfl⟩) ⟨preW_fb, va_recv hK hP (ci := 6) (q0 := 0) rfl rfl, preW_at hP hK hN hD⟩ rfl rfl hl.1 rfl (lv_room (Nat.le_of_ble_eq_true rfl)) dR_mixes_1 ⟨Nat.zero_le _, Nat.zero_le _⟩) (fun H locs hP hD hS => ?_)
  refine lv_aload_n hx hb dR_mixes_4 rfl (lv_at hl 0 rfl) ?_
  refine lv_iconst (v := 0) hx hb dR_mixes_5 (by decide) ?_
  refine va_put (D := D) (ci := 6) (v := .int 0) (ty := .boolean) (C := RR) (T := TR) (N := 31) hx hb hT inR tyR okR nmR hown hK hP hD hS 0 rfl rfl 28 (by decide) (hT _ wd_563) (fun _ h9 => h9) rfl pf_Z rfl rfl (Nat.le_of_ble_eq_true rfl) dR_mixes_6 (fun H locs hP hD hS => ?_)
  obtain ⟨I5, eI5⟩ : ∃ z : SI, z = va_up I2 0 (upd (I2 0) 28 0) := ⟨_, rfl⟩
  have hm := nm_to eI5 hm
  have hP := P_eq (ws2 := wsR ad cI cJ cG I5 J3) hP (by rw [eI5]; rfl)
  have hD := D_eq (ws2 := wsR ad cI cJ cG I5 J3) hD (by rw [eI5]; rfl)
  refine lv_iconst (v := 0) hx hb dR_mixes_9 (by decide) ?_
  refine lv_istore_n (lv' := [(2, .int 0), (0, .ref (ad 0)), (1, .int x1)]) hx hb dR_mixes_10 rfl hl (by decide) rfl (fun ls hl => ?_)
  exact hk11 x1 0 I5 J3 hm _ _ _ hP hD hS (lv_sub hl [1, 2, 0] rfl)
set_option maxHeartbeats 4000000 in
theorem gw_R_mixes {p : Program} {l : Launch} {e : Env} {s : State} {m : MethodId} {args : Array Value} {below : List Frame} {meth : Method} {c : Code} {D : va_G} {A : Nat → Prop} {ad : Nat → Nat} {cI cJ cG : ClassId} {res : Int32 × SI × SJ} (X : Cx p s m args meth c bR_mixes (some .boolean) 6 RR) (hK : va_K D vwCl (tysR cI cJ cG) s) (hN : NWs s) (hA : ∀ q, s.heap.size ≤ q → A q) : ∀ n : Nat, (∀ (x1 : Int32) (x2 : Int32) (I : SI) (J : SJ), (g_R_mixes n).1 x1 x2 I J = some res → WB p l e (headSpec (Cond.code yR_mixes bR_mixes 6 (some .boolean) :: gtb) rm_R_mixes).room s m args below meth c (MQ below (va_Qi (fun (r : Int32) (u : SI × SJ) => (r, u) = res) (atW D vwCl (tysR cI cJ cG) A (wsR ad cI cJ cG)) A) args s 0 0 A) D vwCl A 6 (wsR ad cI cJ cG I J) 11 [(0, .ref (ad 0)), (1, .int x1), (2, .int x2)] []) ∧ (∀ (x1 : Int32) (x2 : Int32) (x3 : Int32) (I : SI) (J : SJ), (g_R_mixes n).2.1 x1 x2 x3 I J = some res → WB p l e (headSpec (Cond.code yR_mixes bR_mixes 6 (some .boolean) :: gtb) rm_R_mixes).room s m args below meth c (MQ below (va_Qi (fun (r : Int32) (u : SI × SJ) => (r, u) = res) (atW D vwCl (tysR cI cJ cG) A (wsR ad cI cJ cG)) A) args s 0 0 A) D vwCl A 6 (wsR ad cI cJ cG I J) 22 [(0, .ref (ad 0)), (1, .int x1), (2, .int x2), (3, .int x3)] []) ∧ (∀ (x1 : Int32) (x2 : Int32) (x3 : Int32) (x4 : Int32) (I : SI) (J : SJ), (g_R_mixes n).2.2.1 x1 x2 x3 x4 I J = some res → WB p l e (headSpec (Cond.code yR_mixes bR_mixes 6 (some .boolean) :: gtb) rm_R_mixes).room s m args below meth c (MQ below (va_Qi (fun (r : Int32) (u : SI × SJ) => (r, u) = res) (atW D vwCl (tysR cI cJ cG) A (wsR ad cI cJ cG)) A) args s 0 0 A) D vwCl A 6 (wsR ad cI cJ cG I J) 34 [(0, .ref (ad 0)), (1, .int x1), (2, .int x2), (3, .int x3), (4, .int x4)] []) ∧ (∀ (x1 : Int32) (x2 : Int32) (x3 : Int32) (x4 : Int32) (x5 : Int32) (I : SI) (J : SJ), (g_R_mixes n).2.2.2 x1 x2 x3 x4 x5 I J = some res → WB p l e (headSpec (Cond.code yR_mixes bR_mixes 6 (some .boolean) :: gtb) rm_R_mixes).room s m args below meth c (MQ below (va_Qi (fun (r : Int32) (u : SI × SJ) => (r, u) = res) (atW D vwCl (tysR cI cJ cG) A (wsR ad cI cJ cG)) A) args s 0 0 A) D vwCl A 6 (wsR ad cI cJ cG I J) 47 [(0, .ref (ad 0)), (1, .int x1), (2, .int x2), (3, .int x3), (4, .int x4), (5, .int x5)] []) := by
  intro n
  induction n with
  | zero => exact ⟨fun _ _ _ _ h => (by cases h), fun _ _ _ _ _ h => (by cases h), fun _ _ _ _ _ _ h => (by cases h), fun _ _ _ _ _ _ _ h => (by cases h)⟩
  | succ n ih =>
    obtain ⟨ih11, ih22, ih34, ih47⟩ := ih
    exact ⟨fun x1 x2 I J h => w_R_mixes_11 X hK hN hA ih22 x1 x2 I J h, fun x1 x2 x3 I J h => w_R_mixes_22 X hK hN hA ih11 ih34 x1 x2 x3 I J h, fun x1 x2 x3 x4 I J h => w_R_mixes_34 X hK hN hA ih22 ih47 x1 x2 x3 x4 I J h, fun x1 x2 x3 x4 x5 I J h => w_R_mixes_47 X hK hN hA ih34 ih47 x1 x2 x3 x4 x5 I J h⟩
set_option maxHeartbeats 4000000 in
set_option maxRecDepth 100000 in
theorem c_R_mixes (l : Launch) (D : va_G) (ad : Nat → Nat) (cI cJ cG : ClassId) (sz : Nat) (x1 : Int32) (I : SI) (J : SJ) (res : Int32 × SI × SJ) (hm : m_R_mixes x1 I J = some res) : Met l yR_mixes (Cond.code yR_mixes bR_mixes 6 (some .boolean) :: gtb) rm_R_mixes (va_Pc [.ref (ad 0), .int x1] (preW D vwCl (tysR cI cJ cG) (wsR ad cI cJ cG I J) sz)) (va_Qi (fun (r : Int32) (u : SI × SJ) => (r, u) = res) (atW D vwCl (tysR cI cJ cG) (va_A (wsR ad cI cJ cG I J) sz) (wsR ad cI cJ cG)) (va_A (wsR ad cI cJ cG I J) sz)) 0 0 (va_A (wsR ad cI cJ cG I J) sz) := by
  refine Met.ofW (cc := bR_mixes) (maxL := 6) (ret := (some .boolean)) (by decide) rfl ?_
  intro p e s m args below meth c s₁ B hml hv
  obtain ⟨rfl, hsz, hP, hK, hD0, hN⟩ := hv
  subst hsz
  have X : Cx p s m [.ref (ad 0), .int x1].toArray meth c bR_mixes (some .boolean) 6 RR := ⟨B.exec, B.bytes, B.returns, hml, findClass_of_methodNamed B.named, fun w h => atoms_spec (ws := (Cond.code yR_mixes bR_mixes 6 (some .boolean) :: gtb)) B.pre w (List.mem_cons_of_mem _ h), B.notSynchronized⟩
  have hl := lv_entry ([.ref (ad 0), .int x1]) (n := 6) (Nat.le_of_ble_eq_true rfl)
  rw [lg_entry_eq]
  generalize (lg_sl ([.ref (ad 0), .int x1]) ++ List.replicate (6 - (lg_sl ([.ref (ad 0), .int x1])).length) Slot.unset).toArray = ls at hl ⊢
  have hl : lv_has ls 6 [(0, .ref (ad 0)), (1, .int x1)] := hl
  have hA : ∀ q, s.heap.size ≤ q → va_A (wsR ad cI cJ cG I J) s.heap.size q := fun q h => Or.inr h
  exact w_R_mixes_0 X hK hN hA (gw_R_mixes X hK hN hA fuel).1 x1 I J hm _ _ _ hP hD0.self va_S.rf hl
def b_R_keepMix_12 (k12 : Int32 → Int32 → SI → SJ → Option (SI × SJ)) (k107 : Int32 → Int32 → SI → SJ → Option (SI × SJ)) (x1 : Int32) (x2 : Int32) (I : SI) (J : SJ) : Option (SI × SJ) :=
  if (I 0 0) ≤ x2 then
    cl3 (m_R_costOf 17 I J) fun r2 I3 J4 =>
    cl1 (m_R_divisor r2 (J4 0 30)) fun r6 =>
    gd (¬ r6 = 0) <|
    nm (r2 / r6) fun v9 =>
    nm (va_up J4 0 (vp_updL (J4 0) 14 v9)) fun J10 =>
    gd (¬ r6 = 0) <|
    nm ((J10 0 30) / r6) fun v12 =>
    nm (va_up J10 0 (vp_updL (J10 0) 15 v12)) fun J13 =>
    k107 x1 0 I3 J13
  else
    gd (vin x2 4) <|
    nm (J 17 x2.toNatClampNeg) fun v15 =>
    cl1 (m_R_divisor v15 (J 0 30)) fun r16 =>
    gd (vin x2 4) <|
    nm (J 17 x2.toNatClampNeg) fun v19 =>
    gd (¬ r16 = 0) <|
    nm (v19 / r16) fun v21 =>
    gd (vin x2 4) <|
    nm (va_up J 9 (vp_updL (J 9) x2.toNatClampNeg v21)) fun J23 =>
    gd (¬ r16 = 0) <|
    nm ((J23 0 30) / r16) fun v25 =>
    gd (vin x2 4) <|
    nm (va_up J23 10 (vp_updL (J23 10) x2.toNatClampNeg v25)) fun J27 =>
    nm (x2 + 1) fun v28 =>
    k12 x1 v28 I J27
def b_R_keepMix_107 (k107 : Int32 → Int32 → SI → SJ → Option (SI × SJ)) (x1 : Int32) (x6 : Int32) (I : SI) (J : SJ) : Option (SI × SJ) :=
  if 18 ≤ x6 then
    some (I, J)
  else
    cl3 (m_R_isThere x6 I J) fun r2 I3 J4 =>
    if r2 = 0 then
      nm ((I 0 16) ||| 0) fun v7 =>
      nm (va_up I3 0 (upd (I3 0) 16 v7)) fun I8 =>
      nm (x6 + 1) fun v9 =>
      k107 x1 v9 I8 J4
    else
      cl3 (m_R_over x6 x1 17 (J4 0 30) I3 J4) fun r10 I11 J12 =>
      nm (lg_cmp r10 0) fun v14 =>
      if v14 = 0 then
        nm (1 <<< (x6 &&& 31)) fun v19 =>
        nm ((I 0 16) ||| v19) fun v20 =>
        nm (va_up I11 0 (upd (I11 0) 16 v20)) fun I21 =>
        nm (x6 + 1) fun v22 =>
        k107 x1 v22 I21 J12
      else
        nm ((I 0 16) ||| 0) fun v16 =>
        nm (va_up I11 0 (upd (I11 0) 16 v16)) fun I17 =>
        nm (x6 + 1) fun v18 =>
        k107 x1 v18 I17 J12
def b_R_keepMix_0 (k12 : Int32 → Int32 → SI → SJ → Option (SI × SJ)) (x1 : Int32) (I : SI) (J : SJ) : Option (SI × SJ) :=
  nm (va_up I 0 (upd (I 0) 10 0)) fun I1 =>
  nm (va_up I1 0 (upd (I1 0) 16 0)) fun I2 =>
  k12 x1 0 I2 J
def g_R_keepMix : Nat → (Int32 → Int32 → SI → SJ → Option (SI × SJ)) × (Int32 → Int32 → SI → SJ → Option (SI × SJ))
  | 0 => (fun _ _ _ _ => none, fun _ _ _ _ => none)
  | n + 1 => (fun x1 x2 I J => b_R_keepMix_12 (g_R_keepMix n).1 (g_R_keepMix n).2 x1 x2 I J, fun x1 x6 I J => b_R_keepMix_107 (g_R_keepMix n).2 x1 x6 I J)
def m_R_keepMix (x1 : Int32) (I : SI) (J : SJ) : Option (SI × SJ) := b_R_keepMix_0 (g_R_keepMix fuel).1 x1 I J
def rm_R_keepMix : Room := { frames := 2, cells := 0, slots := 0, locals := 50 }
set_option maxHeartbeats 4000000 in
set_option maxRecDepth 100000 in
theorem w_R_keepMix_12 {p : Program} {l : Launch} {e : Env} {s : State} {m : MethodId} {args : Array Value} {below : List Frame} {meth : Method} {c : Code} {D : va_G} {A : Nat → Prop} {ad : Nat → Nat} {cI cJ cG : ClassId} {res : SI × SJ} (X : Cx p s m args meth c bR_keepMix none 7 RR) (hK : va_K D vwCl (tysR cI cJ cG) s) (hN : NWs s) (hA : ∀ q, s.heap.size ≤ q → A q)
    {k12 : Int32 → Int32 → SI → SJ → Option (SI × SJ)} (hk12 : ∀ (x1 : Int32) (x2 : Int32) (I : SI) (J : SJ), k12 x1 x2 I J = some res → WB p l e (headSpec (Cond.code yR_keepMix bR_keepMix 7 none :: gtb) rm_R_keepMix).room s m args below meth c (MQ below (va_Qv (fun (u : SI × SJ) => u = res) (atW D vwCl (tysR cI cJ cG) A (wsR ad cI cJ cG)) A) args s 0 0 A) D vwCl A 7 (wsR ad cI cJ cG I J) 12 [(0, .ref (ad 0)), (1, .int x1), (2, .int x2)] [])
    {k107 : Int32 → Int32 → SI → SJ → Option (SI × SJ)} (hk107 : ∀ (x1 : Int32) (x6 : Int32) (I : SI) (J : SJ), k107 x1 x6 I J = some res → WB p l e (headSpec (Cond.code yR_keepMix bR_keepMix 7 none :: gtb) rm_R_keepMix).room s m args below meth c (MQ below (va_Qv (fun (u : SI × SJ) => u = res) (atW D vwCl (tysR cI cJ cG) A (wsR ad cI cJ cG)) A) args s 0 0 A) D vwCl A 7 (wsR ad cI cJ cG I J) 107 [(0, .ref (ad 0)), (1, .int x1), (6, .int x6)] [])
     (x1 : Int32) (x2 : Int32) (I : SI) (J : SJ) (hm : b_R_keepMix_12 k12 k107 x1 x2 I J = some res) : WB p l e (headSpec (Cond.code yR_keepMix bR_keepMix 7 none :: gtb) rm_R_keepMix).room s m args below meth c (MQ below (va_Qv (fun (u : SI × SJ) => u = res) (atW D vwCl (tysR cI cJ cG) A (wsR ad cI cJ cG)) A) args s 0 0 A) D vwCl A 7 (wsR ad cI cJ cG I J) 12 [(0, .ref (ad 0)), (1, .int x1), (2, .int x2)] [] := by
  obtain ⟨hx, hb, hr, hml, hown, hT, hlk⟩ := X
  intro H locs ls hP hD hS hl
  unfold b_R_keepMix_12 at hm
  refine lv_iload_n hx hb dR_keepMix_12 rfl (lv_at hl 2 rfl) ?_
  refine lv_aload_n hx hb dR_keepMix_13 rfl (lv_at hl 0 rfl) ?_
  refine va_get (D := D) (ci := 6) (v := .int (I 0 0)) (C := RR) (T := TR) (N := 31) hx hb hT inR hown hK hP 0 rfl rfl 0 (by decide) (hT _ wd_535) (fun _ h9 => h9) rfl dR_keepMix_14 ?_
  refine lv_icmp_ge (tgt := 66) hx hb dR_keepMix_17 (by decide) (fun c1 => ?_) (fun c1 => ?_)
  · have hm := brp hm c1
    refine lv_aload_n hx hb dR_keepMix_66 rfl (lv_at hl 0 rfl) ?_
    refine lv_aload_n hx hb dR_keepMix_67 rfl (lv_at hl 0 rfl) ?_
    refine va_get (D := D) (ci := 6) (v := .ref (ad 17)) (C := RR) (T := TR) (N := 31) hx hb hT inR hown hK hP 0 rfl rfl 29 (by decide) (hT _ wd_564) (fun _ h9 => h9) rfl dR_keepMix_68 ?_
    obtain ⟨r2, I3, J4, hc5, hm⟩ := cl3_to hm
    refine pst_l (wf := wsR ad cI cJ cG) hD hS hA (va_runV (As := [.ref (ad 17)]) (rest := []) ⟨hx, hb, hml, hown, hT⟩ (c_R_costOf l D ad cI cJ cG _ 17 I J _ hc5) (cwV 1 hT (gV wd_722 wd_724 wd_45 wd_57 wd_725) rfl rfl rfl (by decide +kernel) ⟨Nat.le_of_ble_eq_true rfl, Nat.le_of_ble_eq_true rfl⟩) ⟨preW_fb, va_recv hK hP (ci := 6) (q0 := 0) rfl rfl, preW_at hP hK hN hD⟩ rfl rfl hl.1 rfl (lv_room (Nat.le_of_ble_eq_true rfl)) dR_keepMix_71 ⟨Nat.zero_le _, Nat.zero_le _⟩) (fun H locs hP hD hS => ?_)
    refine lv_lstore_n (lv' := [(2, .long r2), (0, .ref (ad 0)), (1, .int x1)]) hx hb dR_keepMix_74 rfl hl (by decide) rfl (fun ls hl => ?_)
    refine lv_lload_n hx hb dR_keepMix_75 rfl (lv_at hl 0 rfl) ?_
    refine lv_aload_n hx hb dR_keepMix_76 rfl (lv_at hl 1 rfl) ?_
    refine va_get (D := D) (ci := 6) (v := .long (J4 0 30)) (C := RR) (T := TR) (N := 31) hx hb hT inR hown hK hP 0 rfl rfl 30 (by decide) (hT _ wd_565) (fun _ h9 => h9) rfl dR_keepMix_77 ?_
    obtain ⟨r6, hc7, hm⟩ := cl1_to hm
    refine pstZ_l hS (va_runS (As := [.long r2, .long (J4 0 30)]) (rest := []) ⟨hx, hb, hml, hown, hT⟩ (c_R_divisor l r2 (J4 0 30) _ hc7) (va_cwS 2 hT (gS wd_742 wd_743 wd_57 wd_744) rfl rfl rfl (by decide +kernel) ⟨Nat.le_of_ble_eq_true rfl, Nat.le_of_ble_eq_true rfl⟩) ⟨preZ_fb, preZ_at⟩ rfl rfl hl.1 rfl (lv_room (Nat.le_of_ble_eq_true rfl)) dR_keepMix_80 ⟨Nat.zero_le _, Nat.zero_le _⟩) (fun H1 locs hq hS => ?_)
    have hP := keptP hP hq
    refine lv_lstore (lv' := [(4, .long r6), (2, .long r2), (0, .ref (ad 0)), (1, .int x1)]) hx hb dR_keepMix_83 hl (by decide) rfl (fun ls hl => ?_)
    refine lv_aload_n hx hb dR_keepMix_85 rfl (lv_at hl 2 rfl) ?_
    refine lv_lload_n hx hb dR_keepMix_86 rfl (lv_at hl 1 rfl) ?_
    refine lv_lload hx hb dR_keepMix_87 (lv_at hl 0 rfl) ?_
    obtain ⟨g8, hm⟩ := gd_to hm
    refine lv_ldiv hx hb dR_keepMix_89 g8 ?_
    refine lv_topl (fun v9 ev9 => ?_)
    have hm := nm_to ev9 hm
    refine va_put (D := D) (ci := 6) (v := .long v9) (ty := .long) (C := RR) (T := TR) (N := 31) hx hb hT inR tyR okR nmR hown hK hP hD hS 0 rfl rfl 14 (by decide) (hT _ wd_549) (fun _ h9 => h9) rfl pf_J rfl rfl (Nat.le_of_ble_eq_true rfl) dR_keepMix_90 (fun H locs hP hD hS => ?_)
    obtain ⟨J10, eJ10⟩ : ∃ z : SJ, z = va_up J4 0 (vp_updL (J4 0) 14 v9) := ⟨_, rfl⟩
    have hm := nm_to eJ10 hm
    have hP := P_eq (ws2 := wsR ad cI cJ cG I3 J10) hP (by rw [eJ10]; rfl)
    have hD := D_eq (ws2 := wsR ad cI cJ cG I3 J10) hD (by rw [eJ10]; rfl)
    refine lv_aload_n hx hb dR_keepMix_93 rfl (lv_at hl 2 rfl) ?_
    refine lv_aload_n hx hb dR_keepMix_94 rfl (lv_at hl 2 rfl) ?_
    refine va_get (D := D) (ci := 6) (v := .long (J10 0 30)) (C := RR) (T := TR) (N := 31) hx hb hT inR hown hK hP 0 rfl rfl 30 (by decide) (hT _ wd_565) (fun _ h9 => h9) rfl dR_keepMix_95 ?_
    refine lv_lload hx hb dR_keepMix_98 (lv_at hl 0 rfl) ?_
    obtain ⟨g11, hm⟩ := gd_to hm
    refine lv_ldiv hx hb dR_keepMix_100 g11 ?_
    refine lv_topl (fun v12 ev12 => ?_)
    have hm := nm_to ev12 hm
    refine va_put (D := D) (ci := 6) (v := .long v12) (ty := .long) (C := RR) (T := TR) (N := 31) hx hb hT inR tyR okR nmR hown hK hP hD hS 0 rfl rfl 15 (by decide) (hT _ wd_550) (fun _ h9 => h9) rfl pf_J rfl rfl (Nat.le_of_ble_eq_true rfl) dR_keepMix_101 (fun H locs hP hD hS => ?_)
    obtain ⟨J13, eJ13⟩ : ∃ z : SJ, z = va_up J10 0 (vp_updL (J10 0) 15 v12) := ⟨_, rfl⟩
    have hm := nm_to eJ13 hm
    have hP := P_eq (ws2 := wsR ad cI cJ cG I3 J13) hP (by rw [eJ13]; rfl)
    have hD := D_eq (ws2 := wsR ad cI cJ cG I3 J13) hD (by rw [eJ13]; rfl)
    refine lv_iconst (v := 0) hx hb dR_keepMix_104 (by decide) ?_
    refine lv_istore (lv' := [(6, .int 0), (4, .long r6), (2, .long r2), (0, .ref (ad 0)), (1, .int x1)]) hx hb dR_keepMix_105 hl (by decide) rfl (fun ls hl => ?_)
    exact hk107 x1 0 I3 J13 hm _ _ _ hP hD hS (lv_sub hl [3, 4, 0] rfl)
  · have hm := brn hm c1
    refine lv_aload_n hx hb dR_keepMix_20 rfl (lv_at hl 0 rfl) ?_
    refine va_get (D := D) (ci := 6) (v := .ref (ad 17)) (C := RR) (T := TR) (N := 31) hx hb hT inR hown hK hP 0 rfl rfl 29 (by decide) (hT _ wd_564) (fun _ h9 => h9) rfl dR_keepMix_21 ?_
    refine lv_iload_n hx hb dR_keepMix_24 rfl (lv_at hl 2 rfl) ?_
    obtain ⟨g14, hm⟩ := gd_to hm
    refine va_lald hx hb hK hP 17 1 rfl rfl g14 dR_keepMix_25 ?_
    refine lv_topl (fun v15 ev15 => ?_)
    have hm := nm_to ev15 hm
    refine lv_aload_n hx hb dR_keepMix_26 rfl (lv_at hl 0 rfl) ?_
    refine va_get (D := D) (ci := 6) (v := .long (J 0 30)) (C := RR) (T := TR) (N := 31) hx hb hT inR hown hK hP 0 rfl rfl 30 (by decide) (hT _ wd_565) (fun _ h9 => h9) rfl dR_keepMix_27 ?_
    obtain ⟨r16, hc17, hm⟩ := cl1_to hm
    refine pstZ_l hS (va_runS (As := [.long v15, .long (J 0 30)]) (rest := []) ⟨hx, hb, hml, hown, hT⟩ (c_R_divisor l v15 (J 0 30) _ hc17) (va_cwS 2 hT (gS wd_742 wd_743 wd_57 wd_744) rfl rfl rfl (by decide +kernel) ⟨Nat.le_of_ble_eq_true rfl, Nat.le_of_ble_eq_true rfl⟩) ⟨preZ_fb, preZ_at⟩ rfl rfl hl.1 rfl (lv_room (Nat.le_of_ble_eq_true rfl)) dR_keepMix_30 ⟨Nat.zero_le _, Nat.zero_le _⟩) (fun H1 locs hq hS => ?_)
    have hP := keptP hP hq
    refine lv_lstore_n (lv' := [(3, .long r16), (0, .ref (ad 0)), (1, .int x1), (2, .int x2)]) hx hb dR_keepMix_33 rfl hl (by decide) rfl (fun ls hl => ?_)
    refine lv_aload_n hx hb dR_keepMix_34 rfl (lv_at hl 1 rfl) ?_
    refine va_get (D := D) (ci := 6) (v := .ref (ad 9)) (C := RR) (T := TR) (N := 31) hx hb hT inR hown hK hP 0 rfl rfl 12 (by decide) (hT _ wd_547) (fun _ h9 => h9) rfl dR_keepMix_35 ?_
    refine lv_iload_n hx hb dR_keepMix_38 rfl (lv_at hl 3 rfl) ?_
    refine lv_aload_n hx hb dR_keepMix_39 rfl (lv_at hl 1 rfl) ?_
    refine va_get (D := D) (ci := 6) (v := .ref (ad 17)) (C := RR) (T := TR) (N := 31) hx hb hT inR hown hK hP 0 rfl rfl 29 (by decide) (hT _ wd_564) (fun _ h9 => h9) rfl dR_keepMix_40 ?_
    refine lv_iload_n hx hb dR_keepMix_43 rfl (lv_at hl 3 rfl) ?_
    obtain ⟨g18, hm⟩ := gd_to hm
    refine va_lald hx hb hK hP 17 1 rfl rfl g18 dR_keepMix_44 ?_
    refine lv_topl (fun v19 ev19 => ?_)
    have hm := nm_to ev19 hm
    refine lv_lload_n hx hb dR_keepMix_45 rfl (lv_at hl 0 rfl) ?_
    obtain ⟨g20, hm⟩ := gd_to hm
    refine lv_ldiv hx hb dR_keepMix_46 g20 ?_
    refine lv_topl (fun v21 ev21 => ?_)
    have hm := nm_to ev21 hm
    obtain ⟨g22, hm⟩ := gd_to hm
    refine va_last hx hb hK hP hD hS 9 1 rfl rfl g22 dR_keepMix_47 (fun H locs hP hD hS => ?_)
    obtain ⟨J23, eJ23⟩ : ∃ z : SJ, z = va_up J 9 (vp_updL (J 9) x2.toNatClampNeg v21) := ⟨_, rfl⟩
    have hm := nm_to eJ23 hm
    have hP := P_eq (ws2 := wsR ad cI cJ cG I J23) hP (by rw [eJ23]; rfl)
    have hD := D_eq (ws2 := wsR ad cI cJ cG I J23) hD (by rw [eJ23]; rfl)
    refine lv_aload_n hx hb dR_keepMix_48 rfl (lv_at hl 1 rfl) ?_
    refine va_get (D := D) (ci := 6) (v := .ref (ad 10)) (C := RR) (T := TR) (N := 31) hx hb hT inR hown hK hP 0 rfl rfl 13 (by decide) (hT _ wd_548) (fun _ h9 => h9) rfl dR_keepMix_49 ?_
    refine lv_iload_n hx hb dR_keepMix_52 rfl (lv_at hl 3 rfl) ?_
    refine lv_aload_n hx hb dR_keepMix_53 rfl (lv_at hl 1 rfl) ?_
    refine va_get (D := D) (ci := 6) (v := .long (J23 0 30)) (C := RR) (T := TR) (N := 31) hx hb hT inR hown hK hP 0 rfl rfl 30 (by decide) (hT _ wd_565) (fun _ h9 => h9) rfl dR_keepMix_54 ?_
    refine lv_lload_n hx hb dR_keepMix_57 rfl (lv_at hl 0 rfl) ?_
    obtain ⟨g24, hm⟩ := gd_to hm
    refine lv_ldiv hx hb dR_keepMix_58 g24 ?_
    refine lv_topl (fun v25 ev25 => ?_)
    have hm := nm_to ev25 hm
    obtain ⟨g26, hm⟩ := gd_to hm
    refine va_last hx hb hK hP hD hS 10 1 rfl rfl g26 dR_keepMix_59 (fun H locs hP hD hS => ?_)
    obtain ⟨J27, eJ27⟩ : ∃ z : SJ, z = va_up J23 10 (vp_updL (J23 10) x2.toNatClampNeg v25) := ⟨_, rfl⟩
    have hm := nm_to eJ27 hm
    have hP := P_eq (ws2 := wsR ad cI cJ cG I J27) hP (by rw [eJ27]; rfl)
    have hD := D_eq (ws2 := wsR ad cI cJ cG I J27) hD (by rw [eJ27]; rfl)
    obtain ⟨v28, ev28⟩ : ∃ z : Int32, z = x2 + 1 := ⟨_, rfl⟩
    have hm := nm_to ev28 hm
    refine lv_iinc (v := v28) (lv' := [(2, .int v28), (3, .long r16), (0, .ref (ad 0)), (1, .int x1)]) hx hb dR_keepMix_60 hl (k := 3) rfl (by rw [ev28]; rfl) (by decide) rfl (fun ls hl => ?_)
    refine lv_goto (tgt := 12) hx hb dR_keepMix_63 (by decide) ?_
    exact hk12 x1 v28 I J27 hm _ _ _ hP hD hS (lv_sub hl [2, 3, 0] rfl)
set_option maxHeartbeats 4000000 in
set_option maxRecDepth 100000 in
theorem w_R_keepMix_107 {p : Program} {l : Launch} {e : Env} {s : State} {m : MethodId} {args : Array Value} {below : List Frame} {meth : Method} {c : Code} {D : va_G} {A : Nat → Prop} {ad : Nat → Nat} {cI cJ cG : ClassId} {res : SI × SJ} (X : Cx p s m args meth c bR_keepMix none 7 RR) (hK : va_K D vwCl (tysR cI cJ cG) s) (hN : NWs s) (hA : ∀ q, s.heap.size ≤ q → A q)
    {k107 : Int32 → Int32 → SI → SJ → Option (SI × SJ)} (hk107 : ∀ (x1 : Int32) (x6 : Int32) (I : SI) (J : SJ), k107 x1 x6 I J = some res → WB p l e (headSpec (Cond.code yR_keepMix bR_keepMix 7 none :: gtb) rm_R_keepMix).room s m args below meth c (MQ below (va_Qv (fun (u : SI × SJ) => u = res) (atW D vwCl (tysR cI cJ cG) A (wsR ad cI cJ cG)) A) args s 0 0 A) D vwCl A 7 (wsR ad cI cJ cG I J) 107 [(0, .ref (ad 0)), (1, .int x1), (6, .int x6)] [])
     (x1 : Int32) (x6 : Int32) (I : SI) (J : SJ) (hm : b_R_keepMix_107 k107 x1 x6 I J = some res) : WB p l e (headSpec (Cond.code yR_keepMix bR_keepMix 7 none :: gtb) rm_R_keepMix).room s m args below meth c (MQ below (va_Qv (fun (u : SI × SJ) => u = res) (atW D vwCl (tysR cI cJ cG) A (wsR ad cI cJ cG)) A) args s 0 0 A) D vwCl A 7 (wsR ad cI cJ cG I J) 107 [(0, .ref (ad 0)), (1, .int x1), (6, .int x6)] [] := by
  obtain ⟨hx, hb, hr, hml, hown, hT, hlk⟩ := X
  intro H locs ls hP hD hS hl
  unfold b_R_keepMix_107 at hm
  refine lv_iload hx hb dR_keepMix_107 (lv_at hl 2 rfl) ?_
  refine lv_bipush (v := 18) hx hb dR_keepMix_109 (by decide) ?_
  refine lv_icmp_ge (tgt := 166) hx hb dR_keepMix_111 (by decide) (fun c1 => ?_) (fun c1 => ?_)
  · have hm := brp hm c1
    exact W.vret hx hb hr (fun t ht hW => ⟨⟨(I, J), rfl, Option.some.inj hm, ht ▸ hP, va_K.moved hW.alike hK, hD⟩, hS.F ht⟩) hS.2.2 dR_keepMix_166 hlk
  · have hm := brn hm c1
    refine lv_aload_n hx hb dR_keepMix_114 rfl (lv_at hl 0 rfl) ?_
    refine lv_dup hx hb dR_keepMix_115 rfl ?_
    refine va_get (D := D) (ci := 6) (v := .int (I 0 16)) (C := RR) (T := TR) (N := 31) hx hb hT inR hown hK hP 0 rfl rfl 16 (by decide) (hT _ wd_551) (fun _ h9 => h9) rfl dR_keepMix_116 ?_
    refine lv_aload_n hx hb dR_keepMix_119 rfl (lv_at hl 0 rfl) ?_
    refine lv_iload hx hb dR_keepMix_120 (lv_at hl 2 rfl) ?_
    obtain ⟨r2, I3, J4, hc5, hm⟩ := cl3_to hm
    refine pst_i (wf := wsR ad cI cJ cG) hD hS hA (va_runV (As := [.int x6]) (rest := [.int (I 0 16), .ref (ad 0)]) ⟨hx, hb, hml, hown, hT⟩ (c_R_isThere l D ad cI cJ cG _ x6 I J _ hc5) (cwV 1 hT (gV wd_673 wd_675 wd_34 wd_57 wd_676) rfl rfl rfl (by decide +kernel) ⟨Nat.le_of_ble_eq_true rfl, Nat.le_of_ble_eq_true rfl⟩) ⟨preW_fb, va_recv hK hP (ci := 6) (q0 := 0) rfl rfl, preW_at hP hK hN hD⟩ rfl rfl hl.1 rfl (lv_room (Nat.le_of_ble_eq_true rfl)) dR_keepMix_122 ⟨Nat.zero_le _, Nat.zero_le _⟩) (fun H locs hP hD hS => ?_)
    refine lv_if_eq (tgt := 155) hx hb dR_keepMix_125 (by decide) (fun c6 => ?_) (fun c6 => ?_)
    · have hm := brp hm c6
      refine lv_iconst (v := 0) hx hb dR_keepMix_155 (by decide) ?_
      refine lv_ior hx hb dR_keepMix_156 ?_
      refine lv_topi (fun v7 ev7 => ?_)
      have hm := nm_to ev7 hm
      refine va_put (D := D) (ci := 6) (v := .int v7) (ty := .int) (C := RR) (T := TR) (N := 31) hx hb hT inR tyR okR nmR hown hK hP hD hS 0 rfl rfl 16 (by decide) (hT _ wd_551) (fun _ h9 => h9) rfl pf_I rfl rfl (Nat.le_of_ble_eq_true rfl) dR_keepMix_157 (fun H locs hP hD hS => ?_)
      obtain ⟨I8, eI8⟩ : ∃ z : SI, z = va_up I3 0 (upd (I3 0) 16 v7) := ⟨_, rfl⟩
      have hm := nm_to eI8 hm
      have hP := P_eq (ws2 := wsR ad cI cJ cG I8 J4) hP (by rw [eI8]; rfl)
      have hD := D_eq (ws2 := wsR ad cI cJ cG I8 J4) hD (by rw [eI8]; rfl)
      obtain ⟨v9, ev9⟩ : ∃ z : Int32, z = x6 + 1 := ⟨_, rfl⟩
      have hm := nm_to ev9 hm
      refine lv_iinc (v := v9) (lv' := [(6, .int v9), (0, .ref (ad 0)), (1, .int x1)]) hx hb dR_keepMix_160 hl (k := 2) rfl (by rw [ev9]; rfl) (by decide) rfl (fun ls hl => ?_)
      refine lv_goto (tgt := 107) hx hb dR_keepMix_163 (by decide) ?_
      exact hk107 x1 v9 I8 J4 hm _ _ _ hP hD hS (lv_sub hl [1, 2, 0] rfl)
    · have hm := brn hm c6
      refine lv_aload_n hx hb dR_keepMix_128 rfl (lv_at hl 0 rfl) ?_
      refine lv_iload hx hb dR_keepMix_129 (lv_at hl 2 rfl) ?_
      refine lv_iload_n hx hb dR_keepMix_131 rfl (lv_at hl 1 rfl) ?_
      refine lv_aload_n hx hb dR_keepMix_132 rfl (lv_at hl 0 rfl) ?_
      refine va_get (D := D) (ci := 6) (v := .ref (ad 17)) (C := RR) (T := TR) (N := 31) hx hb hT inR hown hK hP 0 rfl rfl 29 (by decide) (hT _ wd_564) (fun _ h9 => h9) rfl dR_keepMix_133 ?_
      refine lv_aload_n hx hb dR_keepMix_136 rfl (lv_at hl 0 rfl) ?_
      refine va_get (D := D) (ci := 6) (v := .long (J4 0 30)) (C := RR) (T := TR) (N := 31) hx hb hT inR hown hK hP 0 rfl rfl 30 (by decide) (hT _ wd_565) (fun _ h9 => h9) rfl dR_keepMix_137 ?_
      obtain ⟨r10, I11, J12, hc13, hm⟩ := cl3_to hm
      refine pst_l (wf := wsR ad cI cJ cG) hD hS hA (va_runV (As := [.int x6, .int x1, .ref (ad 17), .long (J4 0 30)]) (rest := [.int (I 0 16), .ref (ad 0)]) ⟨hx, hb, hml, hown, hT⟩ (c_R_over l D ad cI cJ cG _ x6 x1 17 (J4 0 30) I3 J4 _ hc13) (cwV 4 hT (gV wd_711 wd_713 wd_43 wd_57 wd_714) rfl rfl rfl (by decide +kernel) ⟨Nat.le_of_ble_eq_true rfl, Nat.le_of_ble_eq_true rfl⟩) ⟨preW_fb, va_recv hK hP (ci := 6) (q0 := 0) rfl rfl, preW_at hP hK hN hD⟩ rfl rfl hl.1 rfl (lv_room (Nat.le_of_ble_eq_true rfl)) dR_keepMix_140 ⟨Nat.zero_le _, Nat.zero_le _⟩) (fun H locs hP hD hS => ?_)
      refine lv_lconst (v := 0) hx hb dR_keepMix_143 (by decide) ?_
      refine W.lcmp hx hb dR_keepMix_144 ?_
      refine lv_topi (fun v14 ev14 => ?_)
      have hm := nm_to ev14 hm
      refine lv_if_ne (tgt := 155) hx hb dR_keepMix_145 (by decide) (fun c15 => ?_) (fun c15 => ?_)
      · have hm := brn hm c15
        refine lv_iconst (v := 0) hx hb dR_keepMix_155 (by decide) ?_
        refine lv_ior hx hb dR_keepMix_156 ?_
        refine lv_topi (fun v16 ev16 => ?_)
        have hm := nm_to ev16 hm
        refine va_put (D := D) (ci := 6) (v := .int v16) (ty := .int) (C := RR) (T := TR) (N := 31) hx hb hT inR tyR okR nmR hown hK hP hD hS 0 rfl rfl 16 (by decide) (hT _ wd_551) (fun _ h9 => h9) rfl pf_I rfl rfl (Nat.le_of_ble_eq_true rfl) dR_keepMix_157 (fun H locs hP hD hS => ?_)
        obtain ⟨I17, eI17⟩ : ∃ z : SI, z = va_up I11 0 (upd (I11 0) 16 v16) := ⟨_, rfl⟩
        have hm := nm_to eI17 hm
        have hP := P_eq (ws2 := wsR ad cI cJ cG I17 J12) hP (by rw [eI17]; rfl)
        have hD := D_eq (ws2 := wsR ad cI cJ cG I17 J12) hD (by rw [eI17]; rfl)
        obtain ⟨v18, ev18⟩ : ∃ z : Int32, z = x6 + 1 := ⟨_, rfl⟩
        have hm := nm_to ev18 hm
        refine lv_iinc (v := v18) (lv' := [(6, .int v18), (0, .ref (ad 0)), (1, .int x1)]) hx hb dR_keepMix_160 hl (k := 2) rfl (by rw [ev18]; rfl) (by decide) rfl (fun ls hl => ?_)
        refine lv_goto (tgt := 107) hx hb dR_keepMix_163 (by decide) ?_
        exact hk107 x1 v18 I17 J12 hm _ _ _ hP hD hS (lv_sub hl [1, 2, 0] rfl)
      · have hm := brp hm c15
        refine lv_iconst (v := 1) hx hb dR_keepMix_148 (by decide) ?_
        refine lv_iload hx hb dR_keepMix_149 (lv_at hl 2 rfl) ?_
        refine lv_ishl hx hb dR_keepMix_151 ?_
        refine lv_topi (fun v19 ev19 => ?_)
        have hm := nm_to ev19 hm
        refine lv_goto (tgt := 156) hx hb dR_keepMix_152 (by decide) ?_
        refine lv_ior hx hb dR_keepMix_156 ?_
        refine lv_topi (fun v20 ev20 => ?_)
        have hm := nm_to ev20 hm
        refine va_put (D := D) (ci := 6) (v := .int v20) (ty := .int) (C := RR) (T := TR) (N := 31) hx hb hT inR tyR okR nmR hown hK hP hD hS 0 rfl rfl 16 (by decide) (hT _ wd_551) (fun _ h9 => h9) rfl pf_I rfl rfl (Nat.le_of_ble_eq_true rfl) dR_keepMix_157 (fun H locs hP hD hS => ?_)
        obtain ⟨I21, eI21⟩ : ∃ z : SI, z = va_up I11 0 (upd (I11 0) 16 v20) := ⟨_, rfl⟩
        have hm := nm_to eI21 hm
        have hP := P_eq (ws2 := wsR ad cI cJ cG I21 J12) hP (by rw [eI21]; rfl)
        have hD := D_eq (ws2 := wsR ad cI cJ cG I21 J12) hD (by rw [eI21]; rfl)
        obtain ⟨v22, ev22⟩ : ∃ z : Int32, z = x6 + 1 := ⟨_, rfl⟩
        have hm := nm_to ev22 hm
        refine lv_iinc (v := v22) (lv' := [(6, .int v22), (0, .ref (ad 0)), (1, .int x1)]) hx hb dR_keepMix_160 hl (k := 2) rfl (by rw [ev22]; rfl) (by decide) rfl (fun ls hl => ?_)
        refine lv_goto (tgt := 107) hx hb dR_keepMix_163 (by decide) ?_
        exact hk107 x1 v22 I21 J12 hm _ _ _ hP hD hS (lv_sub hl [1, 2, 0] rfl)
set_option maxHeartbeats 4000000 in
set_option maxRecDepth 100000 in
theorem w_R_keepMix_0 {p : Program} {l : Launch} {e : Env} {s : State} {m : MethodId} {args : Array Value} {below : List Frame} {meth : Method} {c : Code} {D : va_G} {A : Nat → Prop} {ad : Nat → Nat} {cI cJ cG : ClassId} {res : SI × SJ} (X : Cx p s m args meth c bR_keepMix none 7 RR) (hK : va_K D vwCl (tysR cI cJ cG) s) (hN : NWs s) (hA : ∀ q, s.heap.size ≤ q → A q)
    {k12 : Int32 → Int32 → SI → SJ → Option (SI × SJ)} (hk12 : ∀ (x1 : Int32) (x2 : Int32) (I : SI) (J : SJ), k12 x1 x2 I J = some res → WB p l e (headSpec (Cond.code yR_keepMix bR_keepMix 7 none :: gtb) rm_R_keepMix).room s m args below meth c (MQ below (va_Qv (fun (u : SI × SJ) => u = res) (atW D vwCl (tysR cI cJ cG) A (wsR ad cI cJ cG)) A) args s 0 0 A) D vwCl A 7 (wsR ad cI cJ cG I J) 12 [(0, .ref (ad 0)), (1, .int x1), (2, .int x2)] [])
     (x1 : Int32) (I : SI) (J : SJ) (hm : b_R_keepMix_0 k12 x1 I J = some res) : WB p l e (headSpec (Cond.code yR_keepMix bR_keepMix 7 none :: gtb) rm_R_keepMix).room s m args below meth c (MQ below (va_Qv (fun (u : SI × SJ) => u = res) (atW D vwCl (tysR cI cJ cG) A (wsR ad cI cJ cG)) A) args s 0 0 A) D vwCl A 7 (wsR ad cI cJ cG I J) 0 [(0, .ref (ad 0)), (1, .int x1)] [] := by
  obtain ⟨hx, hb, hr, hml, hown, hT, hlk⟩ := X
  intro H locs ls hP hD hS hl
  unfold b_R_keepMix_0 at hm
  refine lv_aload_n hx hb dR_keepMix_0 rfl (lv_at hl 0 rfl) ?_
  refine lv_iconst (v := 0) hx hb dR_keepMix_1 (by decide) ?_
  refine va_put (D := D) (ci := 6) (v := .int 0) (ty := .int) (C := RR) (T := TR) (N := 31) hx hb hT inR tyR okR nmR hown hK hP hD hS 0 rfl rfl 10 (by decide) (hT _ wd_545) (fun _ h9 => h9) rfl pf_I rfl rfl (Nat.le_of_ble_eq_true rfl) dR_keepMix_2 (fun H locs hP hD hS => ?_)
  obtain ⟨I1, eI1⟩ : ∃ z : SI, z = va_up I 0 (upd (I 0) 10 0) := ⟨_, rfl⟩
  have hm := nm_to eI1 hm
  have hP := P_eq (ws2 := wsR ad cI cJ cG I1 J) hP (by rw [eI1]; rfl)
  have hD := D_eq (ws2 := wsR ad cI cJ cG I1 J) hD (by rw [eI1]; rfl)
  refine lv_aload_n hx hb dR_keepMix_5 rfl (lv_at hl 0 rfl) ?_
  refine lv_iconst (v := 0) hx hb dR_keepMix_6 (by decide) ?_
  refine va_put (D := D) (ci := 6) (v := .int 0) (ty := .int) (C := RR) (T := TR) (N := 31) hx hb hT inR tyR okR nmR hown hK hP hD hS 0 rfl rfl 16 (by decide) (hT _ wd_551) (fun _ h9 => h9) rfl pf_I rfl rfl (Nat.le_of_ble_eq_true rfl) dR_keepMix_7 (fun H locs hP hD hS => ?_)
  obtain ⟨I2, eI2⟩ : ∃ z : SI, z = va_up I1 0 (upd (I1 0) 16 0) := ⟨_, rfl⟩
  have hm := nm_to eI2 hm
  have hP := P_eq (ws2 := wsR ad cI cJ cG I2 J) hP (by rw [eI2]; rfl)
  have hD := D_eq (ws2 := wsR ad cI cJ cG I2 J) hD (by rw [eI2]; rfl)
  refine lv_iconst (v := 0) hx hb dR_keepMix_10 (by decide) ?_
  refine lv_istore_n (lv' := [(2, .int 0), (0, .ref (ad 0)), (1, .int x1)]) hx hb dR_keepMix_11 rfl hl (by decide) rfl (fun ls hl => ?_)
  exact hk12 x1 0 I2 J hm _ _ _ hP hD hS (lv_sub hl [1, 2, 0] rfl)
set_option maxHeartbeats 4000000 in
theorem gw_R_keepMix {p : Program} {l : Launch} {e : Env} {s : State} {m : MethodId} {args : Array Value} {below : List Frame} {meth : Method} {c : Code} {D : va_G} {A : Nat → Prop} {ad : Nat → Nat} {cI cJ cG : ClassId} {res : SI × SJ} (X : Cx p s m args meth c bR_keepMix none 7 RR) (hK : va_K D vwCl (tysR cI cJ cG) s) (hN : NWs s) (hA : ∀ q, s.heap.size ≤ q → A q) : ∀ n : Nat, (∀ (x1 : Int32) (x2 : Int32) (I : SI) (J : SJ), (g_R_keepMix n).1 x1 x2 I J = some res → WB p l e (headSpec (Cond.code yR_keepMix bR_keepMix 7 none :: gtb) rm_R_keepMix).room s m args below meth c (MQ below (va_Qv (fun (u : SI × SJ) => u = res) (atW D vwCl (tysR cI cJ cG) A (wsR ad cI cJ cG)) A) args s 0 0 A) D vwCl A 7 (wsR ad cI cJ cG I J) 12 [(0, .ref (ad 0)), (1, .int x1), (2, .int x2)] []) ∧ (∀ (x1 : Int32) (x6 : Int32) (I : SI) (J : SJ), (g_R_keepMix n).2 x1 x6 I J = some res → WB p l e (headSpec (Cond.code yR_keepMix bR_keepMix 7 none :: gtb) rm_R_keepMix).room s m args below meth c (MQ below (va_Qv (fun (u : SI × SJ) => u = res) (atW D vwCl (tysR cI cJ cG) A (wsR ad cI cJ cG)) A) args s 0 0 A) D vwCl A 7 (wsR ad cI cJ cG I J) 107 [(0, .ref (ad 0)), (1, .int x1), (6, .int x6)] []) := by
  intro n
  induction n with
  | zero => exact ⟨fun _ _ _ _ h => (by cases h), fun _ _ _ _ h => (by cases h)⟩
  | succ n ih =>
    obtain ⟨ih12, ih107⟩ := ih
    exact ⟨fun x1 x2 I J h => w_R_keepMix_12 X hK hN hA ih12 ih107 x1 x2 I J h, fun x1 x6 I J h => w_R_keepMix_107 X hK hN hA ih107 x1 x6 I J h⟩
set_option maxHeartbeats 4000000 in
set_option maxRecDepth 100000 in
theorem c_R_keepMix (l : Launch) (D : va_G) (ad : Nat → Nat) (cI cJ cG : ClassId) (sz : Nat) (x1 : Int32) (I : SI) (J : SJ) (res : SI × SJ) (hm : m_R_keepMix x1 I J = some res) : Met l yR_keepMix (Cond.code yR_keepMix bR_keepMix 7 none :: gtb) rm_R_keepMix (va_Pc [.ref (ad 0), .int x1] (preW D vwCl (tysR cI cJ cG) (wsR ad cI cJ cG I J) sz)) (va_Qv (fun (u : SI × SJ) => u = res) (atW D vwCl (tysR cI cJ cG) (va_A (wsR ad cI cJ cG I J) sz) (wsR ad cI cJ cG)) (va_A (wsR ad cI cJ cG I J) sz)) 0 0 (va_A (wsR ad cI cJ cG I J) sz) := by
  refine Met.ofW (cc := bR_keepMix) (maxL := 7) (ret := none) (by decide) rfl ?_
  intro p e s m args below meth c s₁ B hml hv
  obtain ⟨rfl, hsz, hP, hK, hD0, hN⟩ := hv
  subst hsz
  have X : Cx p s m [.ref (ad 0), .int x1].toArray meth c bR_keepMix none 7 RR := ⟨B.exec, B.bytes, B.returns, hml, findClass_of_methodNamed B.named, fun w h => atoms_spec (ws := (Cond.code yR_keepMix bR_keepMix 7 none :: gtb)) B.pre w (List.mem_cons_of_mem _ h), B.notSynchronized⟩
  have hl := lv_entry ([.ref (ad 0), .int x1]) (n := 7) (Nat.le_of_ble_eq_true rfl)
  rw [lg_entry_eq]
  generalize (lg_sl ([.ref (ad 0), .int x1]) ++ List.replicate (7 - (lg_sl ([.ref (ad 0), .int x1])).length) Slot.unset).toArray = ls at hl ⊢
  have hl : lv_has ls 7 [(0, .ref (ad 0)), (1, .int x1)] := hl
  have hA : ∀ q, s.heap.size ≤ q → va_A (wsR ad cI cJ cG I J) s.heap.size q := fun q h => Or.inr h
  exact w_R_keepMix_0 X hK hN hA (gw_R_keepMix X hK hN hA fuel).1 x1 I J hm _ _ _ hP hD0.self va_S.rf hl
def b_R_run_56 (k56 : Int32 → Int32 → SI → SJ → Option (Int32 × SI × SJ)) (x1 : Int32) (x2 : Int32) (I : SI) (J : SJ) : Option (Int32 × SI × SJ) :=
  if 18 ≤ x2 then
    some (1, I, J)
  else
    gd (vin x2 22) <|
    nm (I 11 x2.toNatClampNeg) fun v3 =>
    if v3 = 0 then
      nm (x2 + 1) fun v5 =>
      k56 x1 v5 I J
    else
      gd (vin x2 22) <|
      nm (va_up I 11 (upd (I 11) x2.toNatClampNeg (vp_nar .boolean 0))) fun I7 =>
      cl3 (m_R_isPossible x1 I7 J) fun r8 I9 J10 =>
      if r8 = 0 then
        nm (x2 + 1) fun v13 =>
        k56 x1 v13 I9 J10
      else
        gd (vin x2 22) <|
        nm (va_up I9 11 (upd (I9 11) x2.toNatClampNeg (vp_nar .boolean 1))) fun I15 =>
        nm (1 <<< (x2 &&& 31)) fun v16 =>
        nm ((I15 0 17) ||| v16) fun v17 =>
        nm (va_up I15 0 (upd (I15 0) 17 v17)) fun I18 =>
        nm (x2 + 1) fun v19 =>
        k56 x1 v19 I18 J10
def b_R_run_0 (k56 : Int32 → Int32 → SI → SJ → Option (Int32 × SI × SJ)) (x1 : Int32) (I : SI) (J : SJ) : Option (Int32 × SI × SJ) :=
  cl1 (m_R_in x1 1 40) fun r1 =>
  if r1 = 0 then
    some (-1, I, J)
  else
    if (I 0 0) = 0 then
      some (-1, I, J)
    else
      nm (va_up I 0 (upd (I 0) 9 x1)) fun I5 =>
      nm (va_up I5 0 (upd (I5 0) 11 (I5 0 0))) fun I6 =>
      cl2 (m_R_countAll I6 J) fun I8 J9 =>
      cl3 (m_R_isPossible x1 I8 J9) fun r11 I12 J13 =>
      if r11 = 0 then
        nm (va_up I12 0 (upd (I12 0) 10 1)) fun I26 =>
        nm (va_up I26 0 (upd (I26 0) 17 0)) fun I27 =>
        k56 x1 0 I27 J13
      else
        cl3 (m_R_mixes x1 I12 J13) fun r16 I17 J18 =>
        if r16 = 0 then
          nm (va_up I17 0 (upd (I17 0) 10 2)) fun I21 =>
          some (I21 0 10, I21, J18)
        else
          cl2 (m_R_keepMix x1 I17 J18) fun I23 J24 =>
          some (I23 0 10, I23, J24)
def g_R_run : Nat → (Int32 → Int32 → SI → SJ → Option (Int32 × SI × SJ))
  | 0 => (fun _ _ _ _ => none)
  | n + 1 => (fun x1 x2 I J => b_R_run_56 (g_R_run n) x1 x2 I J)
def m_R_run (x1 : Int32) (I : SI) (J : SJ) : Option (Int32 × SI × SJ) := b_R_run_0 (g_R_run fuel) x1 I J
def rm_R_run : Room := { frames := 6, cells := 0, slots := 0, locals := 150 }
set_option maxHeartbeats 4000000 in
set_option maxRecDepth 100000 in
theorem w_R_run_56 {p : Program} {l : Launch} {e : Env} {s : State} {m : MethodId} {args : Array Value} {below : List Frame} {meth : Method} {c : Code} {D : va_G} {A : Nat → Prop} {ad : Nat → Nat} {cI cJ cG : ClassId} {res : Int32 × SI × SJ} (X : Cx p s m args meth c bR_run (some .int) 3 RR) (hK : va_K D vwCl (tysR cI cJ cG) s) (hN : NWs s) (hA : ∀ q, s.heap.size ≤ q → A q)
    {k56 : Int32 → Int32 → SI → SJ → Option (Int32 × SI × SJ)} (hk56 : ∀ (x1 : Int32) (x2 : Int32) (I : SI) (J : SJ), k56 x1 x2 I J = some res → WB p l e (headSpec (Cond.code yR_run bR_run 3 (some .int) :: gtb) rm_R_run).room s m args below meth c (MQ below (va_Qi (fun (r : Int32) (u : SI × SJ) => (r, u) = res) (atW D vwCl (tysR cI cJ cG) A (wsR ad cI cJ cG)) A) args s 0 0 A) D vwCl A 3 (wsR ad cI cJ cG I J) 56 [(0, .ref (ad 0)), (1, .int x1), (2, .int x2)] [])
     (x1 : Int32) (x2 : Int32) (I : SI) (J : SJ) (hm : b_R_run_56 k56 x1 x2 I J = some res) : WB p l e (headSpec (Cond.code yR_run bR_run 3 (some .int) :: gtb) rm_R_run).room s m args below meth c (MQ below (va_Qi (fun (r : Int32) (u : SI × SJ) => (r, u) = res) (atW D vwCl (tysR cI cJ cG) A (wsR ad cI cJ cG)) A) args s 0 0 A) D vwCl A 3 (wsR ad cI cJ cG I J) 56 [(0, .ref (ad 0)), (1, .int x1), (2, .int x2)] [] := by
  obtain ⟨hx, hb, hr, hml, hown, hT, hlk⟩ := X
  intro H locs ls hP hD hS hl
  unfold b_R_run_56 at hm
  refine lv_iload_n hx hb dR_run_56 rfl (lv_at hl 2 rfl) ?_
  refine lv_bipush (v := 18) hx hb dR_run_57 (by decide) ?_
  refine lv_icmp_ge (tgt := 111) hx hb dR_run_59 (by decide) (fun c1 => ?_) (fun c1 => ?_)
  · have hm := brp hm c1
    refine lv_iconst (v := 1) hx hb dR_run_111 (by decide) ?_
    exact W.iret hx hb hr (fun t ht hW => ⟨⟨1, (I, J), rfl, Option.some.inj hm, ht ▸ hP, va_K.moved hW.alike hK, hD⟩, hS.F ht⟩) hS.2.2 dR_run_112 hlk
  · have hm := brn hm c1
    refine lv_aload_n hx hb dR_run_62 rfl (lv_at hl 0 rfl) ?_
    refine va_get (D := D) (ci := 6) (v := .ref (ad 11)) (C := RR) (T := TR) (N := 31) hx hb hT inR hown hK hP 0 rfl rfl 20 (by decide) (hT _ wd_555) (fun _ h9 => h9) rfl dR_run_63 ?_
    refine lv_iload_n hx hb dR_run_66 rfl (lv_at hl 2 rfl) ?_
    obtain ⟨g2, hm⟩ := gd_to hm
    refine va_zald hx hb hK hP 11 2 rfl rfl g2 dR_run_67 ?_
    refine lv_topi (fun v3 ev3 => ?_)
    have hm := nm_to ev3 hm
    refine lv_if_eq (tgt := 105) hx hb dR_run_68 (by decide) (fun c4 => ?_) (fun c4 => ?_)
    · have hm := brp hm c4
      obtain ⟨v5, ev5⟩ : ∃ z : Int32, z = x2 + 1 := ⟨_, rfl⟩
      have hm := nm_to ev5 hm
      refine lv_iinc (v := v5) (lv' := [(2, .int v5), (0, .ref (ad 0)), (1, .int x1)]) hx hb dR_run_105 hl (k := 2) rfl (by rw [ev5]; rfl) (by decide) rfl (fun ls hl => ?_)
      refine lv_goto (tgt := 56) hx hb dR_run_108 (by decide) ?_
      exact hk56 x1 v5 I J hm _ _ _ hP hD hS (lv_sub hl [1, 2, 0] rfl)
    · have hm := brn hm c4
      refine lv_aload_n hx hb dR_run_71 rfl (lv_at hl 0 rfl) ?_
      refine va_get (D := D) (ci := 6) (v := .ref (ad 11)) (C := RR) (T := TR) (N := 31) hx hb hT inR hown hK hP 0 rfl rfl 20 (by decide) (hT _ wd_555) (fun _ h9 => h9) rfl dR_run_72 ?_
      refine lv_iload_n hx hb dR_run_75 rfl (lv_at hl 2 rfl) ?_
      refine lv_iconst (v := 0) hx hb dR_run_76 (by decide) ?_
      obtain ⟨g6, hm⟩ := gd_to hm
      refine va_zast hx hb hK hP hD hS 11 2 rfl rfl g6 dR_run_77 (fun H locs hP hD hS => ?_)
      obtain ⟨I7, eI7⟩ : ∃ z : SI, z = va_up I 11 (upd (I 11) x2.toNatClampNeg (vp_nar .boolean 0)) := ⟨_, rfl⟩
      have hm := nm_to eI7 hm
      have hP := P_eq (ws2 := wsR ad cI cJ cG I7 J) hP (by rw [eI7]; rfl)
      have hD := D_eq (ws2 := wsR ad cI cJ cG I7 J) hD (by rw [eI7]; rfl)
      refine lv_aload_n hx hb dR_run_78 rfl (lv_at hl 0 rfl) ?_
      refine lv_iload_n hx hb dR_run_79 rfl (lv_at hl 1 rfl) ?_
      obtain ⟨r8, I9, J10, hc11, hm⟩ := cl3_to hm
      refine pst_i (wf := wsR ad cI cJ cG) hD hS hA (va_runV (As := [.int x1]) (rest := []) ⟨hx, hb, hml, hown, hT⟩ (c_R_isPossible l D ad cI cJ cG _ x1 I7 J _ hc11) (cwV 1 hT (gV wd_677 wd_679 wd_35 wd_57 wd_680) rfl rfl rfl (by decide +kernel) ⟨Nat.le_of_ble_eq_true rfl, Nat.le_of_ble_eq_true rfl⟩) ⟨preW_fb, va_recv hK hP (ci := 6) (q0 := 0) rfl rfl, preW_at hP hK hN hD⟩ rfl rfl hl.1 rfl (lv_room (Nat.le_of_ble_eq_true rfl)) dR_run_80 ⟨Nat.zero_le _, Nat.zero_le _⟩) (fun H locs hP hD hS => ?_)
      refine lv_if_eq (tgt := 105) hx hb dR_run_83 (by decide) (fun c12 => ?_) (fun c12 => ?_)
      · have hm := brp hm c12
        obtain ⟨v13, ev13⟩ : ∃ z : Int32, z = x2 + 1 := ⟨_, rfl⟩
        have hm := nm_to ev13 hm
        refine lv_iinc (v := v13) (lv' := [(2, .int v13), (0, .ref (ad 0)), (1, .int x1)]) hx hb dR_run_105 hl (k := 2) rfl (by rw [ev13]; rfl) (by decide) rfl (fun ls hl => ?_)
        refine lv_goto (tgt := 56) hx hb dR_run_108 (by decide) ?_
        exact hk56 x1 v13 I9 J10 hm _ _ _ hP hD hS (lv_sub hl [1, 2, 0] rfl)
      · have hm := brn hm c12
        refine lv_aload_n hx hb dR_run_86 rfl (lv_at hl 0 rfl) ?_
        refine va_get (D := D) (ci := 6) (v := .ref (ad 11)) (C := RR) (T := TR) (N := 31) hx hb hT inR hown hK hP 0 rfl rfl 20 (by decide) (hT _ wd_555) (fun _ h9 => h9) rfl dR_run_87 ?_
        refine lv_iload_n hx hb dR_run_90 rfl (lv_at hl 2 rfl) ?_
        refine lv_iconst (v := 1) hx hb dR_run_91 (by decide) ?_
        obtain ⟨g14, hm⟩ := gd_to hm
        refine va_zast hx hb hK hP hD hS 11 2 rfl rfl g14 dR_run_92 (fun H locs hP hD hS => ?_)
        obtain ⟨I15, eI15⟩ : ∃ z : SI, z = va_up I9 11 (upd (I9 11) x2.toNatClampNeg (vp_nar .boolean 1)) := ⟨_, rfl⟩
        have hm := nm_to eI15 hm
        have hP := P_eq (ws2 := wsR ad cI cJ cG I15 J10) hP (by rw [eI15]; rfl)
        have hD := D_eq (ws2 := wsR ad cI cJ cG I15 J10) hD (by rw [eI15]; rfl)
        refine lv_aload_n hx hb dR_run_93 rfl (lv_at hl 0 rfl) ?_
        refine lv_dup hx hb dR_run_94 rfl ?_
        refine va_get (D := D) (ci := 6) (v := .int (I15 0 17)) (C := RR) (T := TR) (N := 31) hx hb hT inR hown hK hP 0 rfl rfl 17 (by decide) (hT _ wd_552) (fun _ h9 => h9) rfl dR_run_95 ?_
        refine lv_iconst (v := 1) hx hb dR_run_98 (by decide) ?_
        refine lv_iload_n hx hb dR_run_99 rfl (lv_at hl 2 rfl) ?_
        refine lv_ishl hx hb dR_run_100 ?_
        refine lv_topi (fun v16 ev16 => ?_)
        have hm := nm_to ev16 hm
        refine lv_ior hx hb dR_run_101 ?_
        refine lv_topi (fun v17 ev17 => ?_)
        have hm := nm_to ev17 hm
        refine va_put (D := D) (ci := 6) (v := .int v17) (ty := .int) (C := RR) (T := TR) (N := 31) hx hb hT inR tyR okR nmR hown hK hP hD hS 0 rfl rfl 17 (by decide) (hT _ wd_552) (fun _ h9 => h9) rfl pf_I rfl rfl (Nat.le_of_ble_eq_true rfl) dR_run_102 (fun H locs hP hD hS => ?_)
        obtain ⟨I18, eI18⟩ : ∃ z : SI, z = va_up I15 0 (upd (I15 0) 17 v17) := ⟨_, rfl⟩
        have hm := nm_to eI18 hm
        have hP := P_eq (ws2 := wsR ad cI cJ cG I18 J10) hP (by rw [eI18]; rfl)
        have hD := D_eq (ws2 := wsR ad cI cJ cG I18 J10) hD (by rw [eI18]; rfl)
        obtain ⟨v19, ev19⟩ : ∃ z : Int32, z = x2 + 1 := ⟨_, rfl⟩
        have hm := nm_to ev19 hm
        refine lv_iinc (v := v19) (lv' := [(2, .int v19), (0, .ref (ad 0)), (1, .int x1)]) hx hb dR_run_105 hl (k := 2) rfl (by rw [ev19]; rfl) (by decide) rfl (fun ls hl => ?_)
        refine lv_goto (tgt := 56) hx hb dR_run_108 (by decide) ?_
        exact hk56 x1 v19 I18 J10 hm _ _ _ hP hD hS (lv_sub hl [1, 2, 0] rfl)
set_option maxHeartbeats 4000000 in
set_option maxRecDepth 100000 in
theorem w_R_run_0 {p : Program} {l : Launch} {e : Env} {s : State} {m : MethodId} {args : Array Value} {below : List Frame} {meth : Method} {c : Code} {D : va_G} {A : Nat → Prop} {ad : Nat → Nat} {cI cJ cG : ClassId} {res : Int32 × SI × SJ} (X : Cx p s m args meth c bR_run (some .int) 3 RR) (hK : va_K D vwCl (tysR cI cJ cG) s) (hN : NWs s) (hA : ∀ q, s.heap.size ≤ q → A q)
    {k56 : Int32 → Int32 → SI → SJ → Option (Int32 × SI × SJ)} (hk56 : ∀ (x1 : Int32) (x2 : Int32) (I : SI) (J : SJ), k56 x1 x2 I J = some res → WB p l e (headSpec (Cond.code yR_run bR_run 3 (some .int) :: gtb) rm_R_run).room s m args below meth c (MQ below (va_Qi (fun (r : Int32) (u : SI × SJ) => (r, u) = res) (atW D vwCl (tysR cI cJ cG) A (wsR ad cI cJ cG)) A) args s 0 0 A) D vwCl A 3 (wsR ad cI cJ cG I J) 56 [(0, .ref (ad 0)), (1, .int x1), (2, .int x2)] [])
     (x1 : Int32) (I : SI) (J : SJ) (hm : b_R_run_0 k56 x1 I J = some res) : WB p l e (headSpec (Cond.code yR_run bR_run 3 (some .int) :: gtb) rm_R_run).room s m args below meth c (MQ below (va_Qi (fun (r : Int32) (u : SI × SJ) => (r, u) = res) (atW D vwCl (tysR cI cJ cG) A (wsR ad cI cJ cG)) A) args s 0 0 A) D vwCl A 3 (wsR ad cI cJ cG I J) 0 [(0, .ref (ad 0)), (1, .int x1)] [] := by
  obtain ⟨hx, hb, hr, hml, hown, hT, hlk⟩ := X
  intro H locs ls hP hD hS hl
  unfold b_R_run_0 at hm
  refine lv_iload_n hx hb dR_run_0 rfl (lv_at hl 1 rfl) ?_
  refine lv_iconst (v := 1) hx hb dR_run_1 (by decide) ?_
  refine lv_bipush (v := 40) hx hb dR_run_2 (by decide) ?_
  obtain ⟨r1, hc2, hm⟩ := cl1_to hm
  refine pstZ_i hS (va_runS (As := [.int x1, .int 1, .int 40]) (rest := []) ⟨hx, hb, hml, hown, hT⟩ (c_R_in l x1 1 40 _ hc2) (va_cwS 3 hT (gS wd_634 wd_635 wd_57 wd_636) rfl rfl rfl (by decide +kernel) ⟨Nat.le_of_ble_eq_true rfl, Nat.le_of_ble_eq_true rfl⟩) ⟨preZ_fb, preZ_at⟩ rfl rfl hl.1 rfl (lv_room (Nat.le_of_ble_eq_true rfl)) dR_run_4 ⟨Nat.zero_le _, Nat.zero_le _⟩) (fun H1 locs hq hS => ?_)
  have hP := keptP hP hq
  refine lv_if_eq (tgt := 17) hx hb dR_run_7 (by decide) (fun c3 => ?_) (fun c3 => ?_)
  · have hm := brp hm c3
    refine lv_iconst (v := (-1)) hx hb dR_run_17 (by decide) ?_
    exact W.iret hx hb hr (fun t ht hW => ⟨⟨-1, (I, J), rfl, Option.some.inj hm, ht ▸ hP, va_K.moved hW.alike hK, hD⟩, hS.F ht⟩) hS.2.2 dR_run_18 hlk
  · have hm := brn hm c3
    refine lv_aload_n hx hb dR_run_10 rfl (lv_at hl 0 rfl) ?_
    refine va_get (D := D) (ci := 6) (v := .int (I 0 0)) (C := RR) (T := TR) (N := 31) hx hb hT inR hown hK hP 0 rfl rfl 0 (by decide) (hT _ wd_535) (fun _ h9 => h9) rfl dR_run_11 ?_
    refine lv_if_ne (tgt := 19) hx hb dR_run_14 (by decide) (fun c4 => ?_) (fun c4 => ?_)
    · have hm := brn hm c4
      refine lv_aload_n hx hb dR_run_19 rfl (lv_at hl 0 rfl) ?_
      refine lv_iload_n hx hb dR_run_20 rfl (lv_at hl 1 rfl) ?_
      refine va_put (D := D) (ci := 6) (v := .int x1) (ty := .int) (C := RR) (T := TR) (N := 31) hx hb hT inR tyR okR nmR hown hK hP hD hS 0 rfl rfl 9 (by decide) (hT _ wd_544) (fun _ h9 => h9) rfl pf_I rfl rfl (Nat.le_of_ble_eq_true rfl) dR_run_21 (fun H locs hP hD hS => ?_)
      obtain ⟨I5, eI5⟩ : ∃ z : SI, z = va_up I 0 (upd (I 0) 9 x1) := ⟨_, rfl⟩
      have hm := nm_to eI5 hm
      have hP := P_eq (ws2 := wsR ad cI cJ cG I5 J) hP (by rw [eI5]; rfl)
      have hD := D_eq (ws2 := wsR ad cI cJ cG I5 J) hD (by rw [eI5]; rfl)
      refine lv_aload_n hx hb dR_run_24 rfl (lv_at hl 0 rfl) ?_
      refine lv_aload_n hx hb dR_run_25 rfl (lv_at hl 0 rfl) ?_
      refine va_get (D := D) (ci := 6) (v := .int (I5 0 0)) (C := RR) (T := TR) (N := 31) hx hb hT inR hown hK hP 0 rfl rfl 0 (by decide) (hT _ wd_535) (fun _ h9 => h9) rfl dR_run_26 ?_
      refine va_put (D := D) (ci := 6) (v := .int (I5 0 0)) (ty := .int) (C := RR) (T := TR) (N := 31) hx hb hT inR tyR okR nmR hown hK hP hD hS 0 rfl rfl 11 (by decide) (hT _ wd_546) (fun _ h9 => h9) rfl pf_I rfl rfl (Nat.le_of_ble_eq_true rfl) dR_run_29 (fun H locs hP hD hS => ?_)
      obtain ⟨I6, eI6⟩ : ∃ z : SI, z = va_up I5 0 (upd (I5 0) 11 (I5 0 0)) := ⟨_, rfl⟩
      have hm := nm_to eI6 hm
      have hP := P_eq (ws2 := wsR ad cI cJ cG I6 J) hP (by rw [eI6]; rfl)
      have hD := D_eq (ws2 := wsR ad cI cJ cG I6 J) hD (by rw [eI6]; rfl)
      refine lv_aload_n hx hb dR_run_32 rfl (lv_at hl 0 rfl) ?_
      obtain ⟨I8, J9, hc10, hm⟩ := cl2_to hm
      refine pst_v (wf := wsR ad cI cJ cG) hD hS hA (va_runV (As := []) (rest := []) ⟨hx, hb, hml, hown, hT⟩ (c_R_countAll l D ad cI cJ cG _ I6 J _ hc10) (cwV 0 hT (gV wd_669 wd_671 wd_33 wd_57 wd_672) rfl rfl rfl (by decide +kernel) ⟨Nat.le_of_ble_eq_true rfl, Nat.le_of_ble_eq_true rfl⟩) ⟨preW_fb, va_recv hK hP (ci := 6) (q0 := 0) rfl rfl, preW_at hP hK hN hD⟩ rfl rfl hl.1 rfl (lv_room (Nat.le_of_ble_eq_true rfl)) dR_run_33 ⟨Nat.zero_le _, Nat.zero_le _⟩) (fun H locs hP hD hS => ?_)
      refine lv_aload_n hx hb dR_run_36 rfl (lv_at hl 0 rfl) ?_
      refine lv_iload_n hx hb dR_run_37 rfl (lv_at hl 1 rfl) ?_
      obtain ⟨r11, I12, J13, hc14, hm⟩ := cl3_to hm
      refine pst_i (wf := wsR ad cI cJ cG) hD hS hA (va_runV (As := [.int x1]) (rest := []) ⟨hx, hb, hml, hown, hT⟩ (c_R_isPossible l D ad cI cJ cG _ x1 I8 J9 _ hc14) (cwV 1 hT (gV wd_677 wd_679 wd_35 wd_57 wd_680) rfl rfl rfl (by decide +kernel) ⟨Nat.le_of_ble_eq_true rfl, Nat.le_of_ble_eq_true rfl⟩) ⟨preW_fb, va_recv hK hP (ci := 6) (q0 := 0) rfl rfl, preW_at hP hK hN hD⟩ rfl rfl hl.1 rfl (lv_room (Nat.le_of_ble_eq_true rfl)) dR_run_38 ⟨Nat.zero_le _, Nat.zero_le _⟩) (fun H locs hP hD hS => ?_)
      refine lv_if_ne (tgt := 113) hx hb dR_run_41 (by decide) (fun c15 => ?_) (fun c15 => ?_)
      · have hm := brn hm c15
        refine lv_aload_n hx hb dR_run_113 rfl (lv_at hl 0 rfl) ?_
        refine lv_iload_n hx hb dR_run_114 rfl (lv_at hl 1 rfl) ?_
        obtain ⟨r16, I17, J18, hc19, hm⟩ := cl3_to hm
        refine pst_i (wf := wsR ad cI cJ cG) hD hS hA (va_runV (As := [.int x1]) (rest := []) ⟨hx, hb, hml, hown, hT⟩ (c_R_mixes l D ad cI cJ cG _ x1 I12 J13 _ hc19) (cwV 1 hT (gV wd_726 wd_728 wd_46 wd_57 wd_729) rfl rfl rfl (by decide +kernel) ⟨Nat.le_of_ble_eq_true rfl, Nat.le_of_ble_eq_true rfl⟩) ⟨preW_fb, va_recv hK hP (ci := 6) (q0 := 0) rfl rfl, preW_at hP hK hN hD⟩ rfl rfl hl.1 rfl (lv_room (Nat.le_of_ble_eq_true rfl)) dR_run_115 ⟨Nat.zero_le _, Nat.zero_le _⟩) (fun H locs hP hD hS => ?_)
        refine lv_if_eq (tgt := 129) hx hb dR_run_118 (by decide) (fun c20 => ?_) (fun c20 => ?_)
        · have hm := brp hm c20
          refine lv_aload_n hx hb dR_run_129 rfl (lv_at hl 0 rfl) ?_
          refine lv_iconst (v := 2) hx hb dR_run_130 (by decide) ?_
          refine va_put (D := D) (ci := 6) (v := .int 2) (ty := .int) (C := RR) (T := TR) (N := 31) hx hb hT inR tyR okR nmR hown hK hP hD hS 0 rfl rfl 10 (by decide) (hT _ wd_545) (fun _ h9 => h9) rfl pf_I rfl rfl (Nat.le_of_ble_eq_true rfl) dR_run_131 (fun H locs hP hD hS => ?_)
          obtain ⟨I21, eI21⟩ : ∃ z : SI, z = va_up I17 0 (upd (I17 0) 10 2) := ⟨_, rfl⟩
          have hm := nm_to eI21 hm
          have hP := P_eq (ws2 := wsR ad cI cJ cG I21 J18) hP (by rw [eI21]; rfl)
          have hD := D_eq (ws2 := wsR ad cI cJ cG I21 J18) hD (by rw [eI21]; rfl)
          refine lv_aload_n hx hb dR_run_134 rfl (lv_at hl 0 rfl) ?_
          refine va_get (D := D) (ci := 6) (v := .int (I21 0 10)) (C := RR) (T := TR) (N := 31) hx hb hT inR hown hK hP 0 rfl rfl 10 (by decide) (hT _ wd_545) (fun _ h9 => h9) rfl dR_run_135 ?_
          exact W.iret hx hb hr (fun t ht hW => ⟨⟨I21 0 10, (I21, J18), rfl, Option.some.inj hm, ht ▸ hP, va_K.moved hW.alike hK, hD⟩, hS.F ht⟩) hS.2.2 dR_run_138 hlk
        · have hm := brn hm c20
          refine lv_aload_n hx hb dR_run_121 rfl (lv_at hl 0 rfl) ?_
          refine lv_iload_n hx hb dR_run_122 rfl (lv_at hl 1 rfl) ?_
          obtain ⟨I23, J24, hc25, hm⟩ := cl2_to hm
          refine pst_v (wf := wsR ad cI cJ cG) hD hS hA (va_runV (As := [.int x1]) (rest := []) ⟨hx, hb, hml, hown, hT⟩ (c_R_keepMix l D ad cI cJ cG _ x1 I17 J18 _ hc25) (cwV 1 hT (gV wd_738 wd_740 wd_49 wd_57 wd_741) rfl rfl rfl (by decide +kernel) ⟨Nat.le_of_ble_eq_true rfl, Nat.le_of_ble_eq_true rfl⟩) ⟨preW_fb, va_recv hK hP (ci := 6) (q0 := 0) rfl rfl, preW_at hP hK hN hD⟩ rfl rfl hl.1 rfl (lv_room (Nat.le_of_ble_eq_true rfl)) dR_run_123 ⟨Nat.zero_le _, Nat.zero_le _⟩) (fun H locs hP hD hS => ?_)
          refine lv_goto (tgt := 134) hx hb dR_run_126 (by decide) ?_
          refine lv_aload_n hx hb dR_run_134 rfl (lv_at hl 0 rfl) ?_
          refine va_get (D := D) (ci := 6) (v := .int (I23 0 10)) (C := RR) (T := TR) (N := 31) hx hb hT inR hown hK hP 0 rfl rfl 10 (by decide) (hT _ wd_545) (fun _ h9 => h9) rfl dR_run_135 ?_
          exact W.iret hx hb hr (fun t ht hW => ⟨⟨I23 0 10, (I23, J24), rfl, Option.some.inj hm, ht ▸ hP, va_K.moved hW.alike hK, hD⟩, hS.F ht⟩) hS.2.2 dR_run_138 hlk
      · have hm := brp hm c15
        refine lv_aload_n hx hb dR_run_44 rfl (lv_at hl 0 rfl) ?_
        refine lv_iconst (v := 1) hx hb dR_run_45 (by decide) ?_
        refine va_put (D := D) (ci := 6) (v := .int 1) (ty := .int) (C := RR) (T := TR) (N := 31) hx hb hT inR tyR okR nmR hown hK hP hD hS 0 rfl rfl 10 (by decide) (hT _ wd_545) (fun _ h9 => h9) rfl pf_I rfl rfl (Nat.le_of_ble_eq_true rfl) dR_run_46 (fun H locs hP hD hS => ?_)
        obtain ⟨I26, eI26⟩ : ∃ z : SI, z = va_up I12 0 (upd (I12 0) 10 1) := ⟨_, rfl⟩
        have hm := nm_to eI26 hm
        have hP := P_eq (ws2 := wsR ad cI cJ cG I26 J13) hP (by rw [eI26]; rfl)
        have hD := D_eq (ws2 := wsR ad cI cJ cG I26 J13) hD (by rw [eI26]; rfl)
        refine lv_aload_n hx hb dR_run_49 rfl (lv_at hl 0 rfl) ?_
        refine lv_iconst (v := 0) hx hb dR_run_50 (by decide) ?_
        refine va_put (D := D) (ci := 6) (v := .int 0) (ty := .int) (C := RR) (T := TR) (N := 31) hx hb hT inR tyR okR nmR hown hK hP hD hS 0 rfl rfl 17 (by decide) (hT _ wd_552) (fun _ h9 => h9) rfl pf_I rfl rfl (Nat.le_of_ble_eq_true rfl) dR_run_51 (fun H locs hP hD hS => ?_)
        obtain ⟨I27, eI27⟩ : ∃ z : SI, z = va_up I26 0 (upd (I26 0) 17 0) := ⟨_, rfl⟩
        have hm := nm_to eI27 hm
        have hP := P_eq (ws2 := wsR ad cI cJ cG I27 J13) hP (by rw [eI27]; rfl)
        have hD := D_eq (ws2 := wsR ad cI cJ cG I27 J13) hD (by rw [eI27]; rfl)
        refine lv_iconst (v := 0) hx hb dR_run_54 (by decide) ?_
        refine lv_istore_n (lv' := [(2, .int 0), (0, .ref (ad 0)), (1, .int x1)]) hx hb dR_run_55 rfl hl (by decide) rfl (fun ls hl => ?_)
        exact hk56 x1 0 I27 J13 hm _ _ _ hP hD hS (lv_sub hl [1, 2, 0] rfl)
    · have hm := brp hm c4
      refine lv_iconst (v := (-1)) hx hb dR_run_17 (by decide) ?_
      exact W.iret hx hb hr (fun t ht hW => ⟨⟨-1, (I, J), rfl, Option.some.inj hm, ht ▸ hP, va_K.moved hW.alike hK, hD⟩, hS.F ht⟩) hS.2.2 dR_run_18 hlk
set_option maxHeartbeats 4000000 in
theorem gw_R_run {p : Program} {l : Launch} {e : Env} {s : State} {m : MethodId} {args : Array Value} {below : List Frame} {meth : Method} {c : Code} {D : va_G} {A : Nat → Prop} {ad : Nat → Nat} {cI cJ cG : ClassId} {res : Int32 × SI × SJ} (X : Cx p s m args meth c bR_run (some .int) 3 RR) (hK : va_K D vwCl (tysR cI cJ cG) s) (hN : NWs s) (hA : ∀ q, s.heap.size ≤ q → A q) : ∀ n : Nat, (∀ (x1 : Int32) (x2 : Int32) (I : SI) (J : SJ), (g_R_run n) x1 x2 I J = some res → WB p l e (headSpec (Cond.code yR_run bR_run 3 (some .int) :: gtb) rm_R_run).room s m args below meth c (MQ below (va_Qi (fun (r : Int32) (u : SI × SJ) => (r, u) = res) (atW D vwCl (tysR cI cJ cG) A (wsR ad cI cJ cG)) A) args s 0 0 A) D vwCl A 3 (wsR ad cI cJ cG I J) 56 [(0, .ref (ad 0)), (1, .int x1), (2, .int x2)] []) := by
  intro n
  induction n with
  | zero => exact fun _ _ _ _ h => (by cases h)
  | succ n ih =>
    have ih56 := ih
    exact fun x1 x2 I J h => w_R_run_56 X hK hN hA ih56 x1 x2 I J h
set_option maxHeartbeats 4000000 in
set_option maxRecDepth 100000 in
theorem c_R_run (l : Launch) (D : va_G) (ad : Nat → Nat) (cI cJ cG : ClassId) (sz : Nat) (x1 : Int32) (I : SI) (J : SJ) (res : Int32 × SI × SJ) (hm : m_R_run x1 I J = some res) : Met l yR_run (Cond.code yR_run bR_run 3 (some .int) :: gtb) rm_R_run (va_Pc [.ref (ad 0), .int x1] (preW D vwCl (tysR cI cJ cG) (wsR ad cI cJ cG I J) sz)) (va_Qi (fun (r : Int32) (u : SI × SJ) => (r, u) = res) (atW D vwCl (tysR cI cJ cG) (va_A (wsR ad cI cJ cG I J) sz) (wsR ad cI cJ cG)) (va_A (wsR ad cI cJ cG I J) sz)) 0 0 (va_A (wsR ad cI cJ cG I J) sz) := by
  refine Met.ofW (cc := bR_run) (maxL := 3) (ret := (some .int)) (by decide) rfl ?_
  intro p e s m args below meth c s₁ B hml hv
  obtain ⟨rfl, hsz, hP, hK, hD0, hN⟩ := hv
  subst hsz
  have X : Cx p s m [.ref (ad 0), .int x1].toArray meth c bR_run (some .int) 3 RR := ⟨B.exec, B.bytes, B.returns, hml, findClass_of_methodNamed B.named, fun w h => atoms_spec (ws := (Cond.code yR_run bR_run 3 (some .int) :: gtb)) B.pre w (List.mem_cons_of_mem _ h), B.notSynchronized⟩
  have hl := lv_entry ([.ref (ad 0), .int x1]) (n := 3) (Nat.le_of_ble_eq_true rfl)
  rw [lg_entry_eq]
  generalize (lg_sl ([.ref (ad 0), .int x1]) ++ List.replicate (3 - (lg_sl ([.ref (ad 0), .int x1])).length) Slot.unset).toArray = ls at hl ⊢
  have hl : lv_has ls 3 [(0, .ref (ad 0)), (1, .int x1)] := hl
  have hA : ∀ q, s.heap.size ≤ q → va_A (wsR ad cI cJ cG I J) s.heap.size q := fun q h => Or.inr h
  exact w_R_run_0 X hK hN hA (gw_R_run X hK hN hA fuel) x1 I J hm _ _ _ hP hD0.self va_S.rf hl
def b_R_amount_0 (x1 : Int32) (x2 : Int32) (I : SI) (J : SJ) : Option (Int64 × SI × SJ) :=
  if (I 0 10) = 0 then
    if x1 < 0 then
      some (-1, I, J)
    else
      if (I 0 11) ≤ x1 then
        some (-1, I, J)
      else
        cl1 (m_R_in x2 0 1) fun r4 =>
        if r4 = 0 then
          some (-1, I, J)
        else
          if x2 = 0 then
            gd (vin x1 4) <|
            nm (J 9 x1.toNatClampNeg) fun v11 =>
            some (v11, I, J)
          else
            gd (vin x1 4) <|
            nm (J 10 x1.toNatClampNeg) fun v9 =>
            some (v9, I, J)
  else
    some (-1, I, J)
def m_R_amount (x1 : Int32) (x2 : Int32) (I : SI) (J : SJ) : Option (Int64 × SI × SJ) := b_R_amount_0 x1 x2 I J
def rm_R_amount : Room := { frames := 1, cells := 0, slots := 0, locals := 22 }
set_option maxHeartbeats 4000000 in
set_option maxRecDepth 100000 in
theorem w_R_amount_0 {p : Program} {l : Launch} {e : Env} {s : State} {m : MethodId} {args : Array Value} {below : List Frame} {meth : Method} {c : Code} {D : va_G} {A : Nat → Prop} {ad : Nat → Nat} {cI cJ cG : ClassId} {res : Int64 × SI × SJ} (X : Cx p s m args meth c bR_amount (some .long) 3 RR) (hK : va_K D vwCl (tysR cI cJ cG) s) (hN : NWs s) (hA : ∀ q, s.heap.size ≤ q → A q)
     (x1 : Int32) (x2 : Int32) (I : SI) (J : SJ) (hm : b_R_amount_0  x1 x2 I J = some res) : WB p l e (headSpec (Cond.code yR_amount bR_amount 3 (some .long) :: gtb) rm_R_amount).room s m args below meth c (MQ below (va_Ql (fun (r : Int64) (u : SI × SJ) => (r, u) = res) (atW D vwCl (tysR cI cJ cG) A (wsR ad cI cJ cG)) A) args s 0 0 A) D vwCl A 3 (wsR ad cI cJ cG I J) 0 [(0, .ref (ad 0)), (1, .int x1), (2, .int x2)] [] := by
  obtain ⟨hx, hb, hr, hml, hown, hT, hlk⟩ := X
  intro H locs ls hP hD hS hl
  unfold b_R_amount_0 at hm
  refine lv_aload_n hx hb dR_amount_0 rfl (lv_at hl 0 rfl) ?_
  refine va_get (D := D) (ci := 6) (v := .int (I 0 10)) (C := RR) (T := TR) (N := 31) hx hb hT inR hown hK hP 0 rfl rfl 10 (by decide) (hT _ wd_545) (fun _ h9 => h9) rfl dR_amount_1 ?_
  refine lv_if_ne (tgt := 28) hx hb dR_amount_4 (by decide) (fun c1 => ?_) (fun c1 => ?_)
  · have hm := brn hm c1
    refine lv_ldc2 (v := (-1)) hx hb hown (hT _ wd_706) dR_amount_28 ?_
    refine lv_goto (tgt := 53) hx hb dR_amount_31 (by decide) ?_
    exact W.lret hx hb hr (fun t ht hW => ⟨⟨-1, (I, J), rfl, Option.some.inj hm, ht ▸ hP, va_K.moved hW.alike hK, hD⟩, hS.F ht⟩) hS.2.2 dR_amount_53 hlk
  · have hm := brp hm c1
    refine lv_iload_n hx hb dR_amount_7 rfl (lv_at hl 1 rfl) ?_
    refine lv_if_lt (tgt := 28) hx hb dR_amount_8 (by decide) (fun c2 => ?_) (fun c2 => ?_)
    · have hm := brp hm c2
      refine lv_ldc2 (v := (-1)) hx hb hown (hT _ wd_706) dR_amount_28 ?_
      refine lv_goto (tgt := 53) hx hb dR_amount_31 (by decide) ?_
      exact W.lret hx hb hr (fun t ht hW => ⟨⟨-1, (I, J), rfl, Option.some.inj hm, ht ▸ hP, va_K.moved hW.alike hK, hD⟩, hS.F ht⟩) hS.2.2 dR_amount_53 hlk
    · have hm := brn hm c2
      refine lv_iload_n hx hb dR_amount_11 rfl (lv_at hl 1 rfl) ?_
      refine lv_aload_n hx hb dR_amount_12 rfl (lv_at hl 0 rfl) ?_
      refine va_get (D := D) (ci := 6) (v := .int (I 0 11)) (C := RR) (T := TR) (N := 31) hx hb hT inR hown hK hP 0 rfl rfl 11 (by decide) (hT _ wd_546) (fun _ h9 => h9) rfl dR_amount_13 ?_
      refine lv_icmp_ge (tgt := 28) hx hb dR_amount_16 (by decide) (fun c3 => ?_) (fun c3 => ?_)
      · have hm := brp hm c3
        refine lv_ldc2 (v := (-1)) hx hb hown (hT _ wd_706) dR_amount_28 ?_
        refine lv_goto (tgt := 53) hx hb dR_amount_31 (by decide) ?_
        exact W.lret hx hb hr (fun t ht hW => ⟨⟨-1, (I, J), rfl, Option.some.inj hm, ht ▸ hP, va_K.moved hW.alike hK, hD⟩, hS.F ht⟩) hS.2.2 dR_amount_53 hlk
      · have hm := brn hm c3
        refine lv_iload_n hx hb dR_amount_19 rfl (lv_at hl 2 rfl) ?_
        refine lv_iconst (v := 0) hx hb dR_amount_20 (by decide) ?_
        refine lv_iconst (v := 1) hx hb dR_amount_21 (by decide) ?_
        obtain ⟨r4, hc5, hm⟩ := cl1_to hm
        refine pstZ_i hS (va_runS (As := [.int x2, .int 0, .int 1]) (rest := []) ⟨hx, hb, hml, hown, hT⟩ (c_R_in l x2 0 1 _ hc5) (va_cwS 3 hT (gS wd_634 wd_635 wd_57 wd_636) rfl rfl rfl (by decide +kernel) ⟨Nat.le_of_ble_eq_true rfl, Nat.le_of_ble_eq_true rfl⟩) ⟨preZ_fb, preZ_at⟩ rfl rfl hl.1 rfl (lv_room (Nat.le_of_ble_eq_true rfl)) dR_amount_22 ⟨Nat.zero_le _, Nat.zero_le _⟩) (fun H1 locs hq hS => ?_)
        have hP := keptP hP hq
        refine lv_if_ne (tgt := 34) hx hb dR_amount_25 (by decide) (fun c6 => ?_) (fun c6 => ?_)
        · have hm := brn hm c6
          refine lv_iload_n hx hb dR_amount_34 rfl (lv_at hl 2 rfl) ?_
          refine lv_if_ne (tgt := 47) hx hb dR_amount_35 (by decide) (fun c7 => ?_) (fun c7 => ?_)
          · have hm := brn hm c7
            refine lv_aload_n hx hb dR_amount_47 rfl (lv_at hl 0 rfl) ?_
            refine va_get (D := D) (ci := 6) (v := .ref (ad 10)) (C := RR) (T := TR) (N := 31) hx hb hT inR hown hK hP 0 rfl rfl 13 (by decide) (hT _ wd_548) (fun _ h9 => h9) rfl dR_amount_48 ?_
            refine lv_iload_n hx hb dR_amount_51 rfl (lv_at hl 1 rfl) ?_
            obtain ⟨g8, hm⟩ := gd_to hm
            refine va_lald hx hb hK hP 10 1 rfl rfl g8 dR_amount_52 ?_
            refine lv_topl (fun v9 ev9 => ?_)
            have hm := nm_to ev9 hm
            exact W.lret hx hb hr (fun t ht hW => ⟨⟨v9, (I, J), rfl, Option.some.inj hm, ht ▸ hP, va_K.moved hW.alike hK, hD⟩, hS.F ht⟩) hS.2.2 dR_amount_53 hlk
          · have hm := brp hm c7
            refine lv_aload_n hx hb dR_amount_38 rfl (lv_at hl 0 rfl) ?_
            refine va_get (D := D) (ci := 6) (v := .ref (ad 9)) (C := RR) (T := TR) (N := 31) hx hb hT inR hown hK hP 0 rfl rfl 12 (by decide) (hT _ wd_547) (fun _ h9 => h9) rfl dR_amount_39 ?_
            refine lv_iload_n hx hb dR_amount_42 rfl (lv_at hl 1 rfl) ?_
            obtain ⟨g10, hm⟩ := gd_to hm
            refine va_lald hx hb hK hP 9 1 rfl rfl g10 dR_amount_43 ?_
            refine lv_topl (fun v11 ev11 => ?_)
            have hm := nm_to ev11 hm
            refine lv_goto (tgt := 53) hx hb dR_amount_44 (by decide) ?_
            exact W.lret hx hb hr (fun t ht hW => ⟨⟨v11, (I, J), rfl, Option.some.inj hm, ht ▸ hP, va_K.moved hW.alike hK, hD⟩, hS.F ht⟩) hS.2.2 dR_amount_53 hlk
        · have hm := brp hm c6
          refine lv_ldc2 (v := (-1)) hx hb hown (hT _ wd_706) dR_amount_28 ?_
          refine lv_goto (tgt := 53) hx hb dR_amount_31 (by decide) ?_
          exact W.lret hx hb hr (fun t ht hW => ⟨⟨-1, (I, J), rfl, Option.some.inj hm, ht ▸ hP, va_K.moved hW.alike hK, hD⟩, hS.F ht⟩) hS.2.2 dR_amount_53 hlk
set_option maxHeartbeats 4000000 in
set_option maxRecDepth 100000 in
theorem c_R_amount (l : Launch) (D : va_G) (ad : Nat → Nat) (cI cJ cG : ClassId) (sz : Nat) (x1 : Int32) (x2 : Int32) (I : SI) (J : SJ) (res : Int64 × SI × SJ) (hm : m_R_amount x1 x2 I J = some res) : Met l yR_amount (Cond.code yR_amount bR_amount 3 (some .long) :: gtb) rm_R_amount (va_Pc [.ref (ad 0), .int x1, .int x2] (preW D vwCl (tysR cI cJ cG) (wsR ad cI cJ cG I J) sz)) (va_Ql (fun (r : Int64) (u : SI × SJ) => (r, u) = res) (atW D vwCl (tysR cI cJ cG) (va_A (wsR ad cI cJ cG I J) sz) (wsR ad cI cJ cG)) (va_A (wsR ad cI cJ cG I J) sz)) 0 0 (va_A (wsR ad cI cJ cG I J) sz) := by
  refine Met.ofW (cc := bR_amount) (maxL := 3) (ret := (some .long)) (by decide) rfl ?_
  intro p e s m args below meth c s₁ B hml hv
  obtain ⟨rfl, hsz, hP, hK, hD0, hN⟩ := hv
  subst hsz
  have X : Cx p s m [.ref (ad 0), .int x1, .int x2].toArray meth c bR_amount (some .long) 3 RR := ⟨B.exec, B.bytes, B.returns, hml, findClass_of_methodNamed B.named, fun w h => atoms_spec (ws := (Cond.code yR_amount bR_amount 3 (some .long) :: gtb)) B.pre w (List.mem_cons_of_mem _ h), B.notSynchronized⟩
  have hl := lv_entry ([.ref (ad 0), .int x1, .int x2]) (n := 3) (Nat.le_of_ble_eq_true rfl)
  rw [lg_entry_eq]
  generalize (lg_sl ([.ref (ad 0), .int x1, .int x2]) ++ List.replicate (3 - (lg_sl ([.ref (ad 0), .int x1, .int x2])).length) Slot.unset).toArray = ls at hl ⊢
  have hl : lv_has ls 3 [(0, .ref (ad 0)), (1, .int x1), (2, .int x2)] := hl
  have hA : ∀ q, s.heap.size ≤ q → va_A (wsR ad cI cJ cG I J) s.heap.size q := fun q h => Or.inr h
  exact w_R_amount_0 X hK hN hA  x1 x2 I J hm _ _ _ hP hD0.self va_S.rf hl
def b_R_cost_0 (x1 : Int32) (I : SI) (J : SJ) : Option (Int64 × SI × SJ) :=
  if (I 0 10) = 0 then
    cl1 (m_R_in x1 0 1) fun r2 =>
    if r2 = 0 then
      some (-1, I, J)
    else
      if x1 = 0 then
        some (J 0 14, I, J)
      else
        some (J 0 15, I, J)
  else
    some (-1, I, J)
def m_R_cost (x1 : Int32) (I : SI) (J : SJ) : Option (Int64 × SI × SJ) := b_R_cost_0 x1 I J
def rm_R_cost : Room := { frames := 1, cells := 0, slots := 0, locals := 22 }
set_option maxHeartbeats 4000000 in
set_option maxRecDepth 100000 in
theorem w_R_cost_0 {p : Program} {l : Launch} {e : Env} {s : State} {m : MethodId} {args : Array Value} {below : List Frame} {meth : Method} {c : Code} {D : va_G} {A : Nat → Prop} {ad : Nat → Nat} {cI cJ cG : ClassId} {res : Int64 × SI × SJ} (X : Cx p s m args meth c bR_cost (some .long) 2 RR) (hK : va_K D vwCl (tysR cI cJ cG) s) (hN : NWs s) (hA : ∀ q, s.heap.size ≤ q → A q)
     (x1 : Int32) (I : SI) (J : SJ) (hm : b_R_cost_0  x1 I J = some res) : WB p l e (headSpec (Cond.code yR_cost bR_cost 2 (some .long) :: gtb) rm_R_cost).room s m args below meth c (MQ below (va_Ql (fun (r : Int64) (u : SI × SJ) => (r, u) = res) (atW D vwCl (tysR cI cJ cG) A (wsR ad cI cJ cG)) A) args s 0 0 A) D vwCl A 2 (wsR ad cI cJ cG I J) 0 [(0, .ref (ad 0)), (1, .int x1)] [] := by
  obtain ⟨hx, hb, hr, hml, hown, hT, hlk⟩ := X
  intro H locs ls hP hD hS hl
  unfold b_R_cost_0 at hm
  refine lv_aload_n hx hb dR_cost_0 rfl (lv_at hl 0 rfl) ?_
  refine va_get (D := D) (ci := 6) (v := .int (I 0 10)) (C := RR) (T := TR) (N := 31) hx hb hT inR hown hK hP 0 rfl rfl 10 (by decide) (hT _ wd_545) (fun _ h9 => h9) rfl dR_cost_1 ?_
  refine lv_if_ne (tgt := 16) hx hb dR_cost_4 (by decide) (fun c1 => ?_) (fun c1 => ?_)
  · have hm := brn hm c1
    refine lv_ldc2 (v := (-1)) hx hb hown (hT _ wd_706) dR_cost_16 ?_
    refine lv_goto (tgt := 37) hx hb dR_cost_19 (by decide) ?_
    exact W.lret hx hb hr (fun t ht hW => ⟨⟨-1, (I, J), rfl, Option.some.inj hm, ht ▸ hP, va_K.moved hW.alike hK, hD⟩, hS.F ht⟩) hS.2.2 dR_cost_37 hlk
  · have hm := brp hm c1
    refine lv_iload_n hx hb dR_cost_7 rfl (lv_at hl 1 rfl) ?_
    refine lv_iconst (v := 0) hx hb dR_cost_8 (by decide) ?_
    refine lv_iconst (v := 1) hx hb dR_cost_9 (by decide) ?_
    obtain ⟨r2, hc3, hm⟩ := cl1_to hm
    refine pstZ_i hS (va_runS (As := [.int x1, .int 0, .int 1]) (rest := []) ⟨hx, hb, hml, hown, hT⟩ (c_R_in l x1 0 1 _ hc3) (va_cwS 3 hT (gS wd_634 wd_635 wd_57 wd_636) rfl rfl rfl (by decide +kernel) ⟨Nat.le_of_ble_eq_true rfl, Nat.le_of_ble_eq_true rfl⟩) ⟨preZ_fb, preZ_at⟩ rfl rfl hl.1 rfl (lv_room (Nat.le_of_ble_eq_true rfl)) dR_cost_10 ⟨Nat.zero_le _, Nat.zero_le _⟩) (fun H1 locs hq hS => ?_)
    have hP := keptP hP hq
    refine lv_if_ne (tgt := 22) hx hb dR_cost_13 (by decide) (fun c4 => ?_) (fun c4 => ?_)
    · have hm := brn hm c4
      refine lv_iload_n hx hb dR_cost_22 rfl (lv_at hl 1 rfl) ?_
      refine lv_if_ne (tgt := 33) hx hb dR_cost_23 (by decide) (fun c5 => ?_) (fun c5 => ?_)
      · have hm := brn hm c5
        refine lv_aload_n hx hb dR_cost_33 rfl (lv_at hl 0 rfl) ?_
        refine va_get (D := D) (ci := 6) (v := .long (J 0 15)) (C := RR) (T := TR) (N := 31) hx hb hT inR hown hK hP 0 rfl rfl 15 (by decide) (hT _ wd_550) (fun _ h9 => h9) rfl dR_cost_34 ?_
        exact W.lret hx hb hr (fun t ht hW => ⟨⟨J 0 15, (I, J), rfl, Option.some.inj hm, ht ▸ hP, va_K.moved hW.alike hK, hD⟩, hS.F ht⟩) hS.2.2 dR_cost_37 hlk
      · have hm := brp hm c5
        refine lv_aload_n hx hb dR_cost_26 rfl (lv_at hl 0 rfl) ?_
        refine va_get (D := D) (ci := 6) (v := .long (J 0 14)) (C := RR) (T := TR) (N := 31) hx hb hT inR hown hK hP 0 rfl rfl 14 (by decide) (hT _ wd_549) (fun _ h9 => h9) rfl dR_cost_27 ?_
        refine lv_goto (tgt := 37) hx hb dR_cost_30 (by decide) ?_
        exact W.lret hx hb hr (fun t ht hW => ⟨⟨J 0 14, (I, J), rfl, Option.some.inj hm, ht ▸ hP, va_K.moved hW.alike hK, hD⟩, hS.F ht⟩) hS.2.2 dR_cost_37 hlk
    · have hm := brp hm c4
      refine lv_ldc2 (v := (-1)) hx hb hown (hT _ wd_706) dR_cost_16 ?_
      refine lv_goto (tgt := 37) hx hb dR_cost_19 (by decide) ?_
      exact W.lret hx hb hr (fun t ht hW => ⟨⟨-1, (I, J), rfl, Option.some.inj hm, ht ▸ hP, va_K.moved hW.alike hK, hD⟩, hS.F ht⟩) hS.2.2 dR_cost_37 hlk
set_option maxHeartbeats 4000000 in
set_option maxRecDepth 100000 in
theorem c_R_cost (l : Launch) (D : va_G) (ad : Nat → Nat) (cI cJ cG : ClassId) (sz : Nat) (x1 : Int32) (I : SI) (J : SJ) (res : Int64 × SI × SJ) (hm : m_R_cost x1 I J = some res) : Met l yR_cost (Cond.code yR_cost bR_cost 2 (some .long) :: gtb) rm_R_cost (va_Pc [.ref (ad 0), .int x1] (preW D vwCl (tysR cI cJ cG) (wsR ad cI cJ cG I J) sz)) (va_Ql (fun (r : Int64) (u : SI × SJ) => (r, u) = res) (atW D vwCl (tysR cI cJ cG) (va_A (wsR ad cI cJ cG I J) sz) (wsR ad cI cJ cG)) (va_A (wsR ad cI cJ cG I J) sz)) 0 0 (va_A (wsR ad cI cJ cG I J) sz) := by
  refine Met.ofW (cc := bR_cost) (maxL := 2) (ret := (some .long)) (by decide) rfl ?_
  intro p e s m args below meth c s₁ B hml hv
  obtain ⟨rfl, hsz, hP, hK, hD0, hN⟩ := hv
  subst hsz
  have X : Cx p s m [.ref (ad 0), .int x1].toArray meth c bR_cost (some .long) 2 RR := ⟨B.exec, B.bytes, B.returns, hml, findClass_of_methodNamed B.named, fun w h => atoms_spec (ws := (Cond.code yR_cost bR_cost 2 (some .long) :: gtb)) B.pre w (List.mem_cons_of_mem _ h), B.notSynchronized⟩
  have hl := lv_entry ([.ref (ad 0), .int x1]) (n := 2) (Nat.le_of_ble_eq_true rfl)
  rw [lg_entry_eq]
  generalize (lg_sl ([.ref (ad 0), .int x1]) ++ List.replicate (2 - (lg_sl ([.ref (ad 0), .int x1])).length) Slot.unset).toArray = ls at hl ⊢
  have hl : lv_has ls 2 [(0, .ref (ad 0)), (1, .int x1)] := hl
  have hA : ∀ q, s.heap.size ≤ q → va_A (wsR ad cI cJ cG I J) s.heap.size q := fun q h => Or.inr h
  exact w_R_cost_0 X hK hN hA  x1 I J hm _ _ _ hP hD0.self va_S.rf hl
def b_R_tight_0 (I : SI) (J : SJ) : Option (Int32 × SI × SJ) :=
  if (I 0 10) = 0 then
    some (I 0 16, I, J)
  else
    some (-1, I, J)
def m_R_tight (I : SI) (J : SJ) : Option (Int32 × SI × SJ) := b_R_tight_0  I J
def rm_R_tight : Room := { frames := 0, cells := 0, slots := 0, locals := 0 }
set_option maxHeartbeats 4000000 in
set_option maxRecDepth 100000 in
theorem w_R_tight_0 {p : Program} {l : Launch} {e : Env} {s : State} {m : MethodId} {args : Array Value} {below : List Frame} {meth : Method} {c : Code} {D : va_G} {A : Nat → Prop} {ad : Nat → Nat} {cI cJ cG : ClassId} {res : Int32 × SI × SJ} (X : Cx p s m args meth c bR_tight (some .int) 1 RR) (hK : va_K D vwCl (tysR cI cJ cG) s) (hN : NWs s) (hA : ∀ q, s.heap.size ≤ q → A q)
     (I : SI) (J : SJ) (hm : b_R_tight_0   I J = some res) : WB p l e (headSpec (Cond.code yR_tight bR_tight 1 (some .int) :: gtb) rm_R_tight).room s m args below meth c (MQ below (va_Qi (fun (r : Int32) (u : SI × SJ) => (r, u) = res) (atW D vwCl (tysR cI cJ cG) A (wsR ad cI cJ cG)) A) args s 0 0 A) D vwCl A 1 (wsR ad cI cJ cG I J) 0 [(0, .ref (ad 0))] [] := by
  obtain ⟨hx, hb, hr, hml, hown, hT, hlk⟩ := X
  intro H locs ls hP hD hS hl
  unfold b_R_tight_0 at hm
  refine lv_aload_n hx hb dR_tight_0 rfl (lv_at hl 0 rfl) ?_
  refine va_get (D := D) (ci := 6) (v := .int (I 0 10)) (C := RR) (T := TR) (N := 31) hx hb hT inR hown hK hP 0 rfl rfl 10 (by decide) (hT _ wd_545) (fun _ h9 => h9) rfl dR_tight_1 ?_
  refine lv_if_eq (tgt := 11) hx hb dR_tight_4 (by decide) (fun c1 => ?_) (fun c1 => ?_)
  · have hm := brp hm c1
    refine lv_aload_n hx hb dR_tight_11 rfl (lv_at hl 0 rfl) ?_
    refine va_get (D := D) (ci := 6) (v := .int (I 0 16)) (C := RR) (T := TR) (N := 31) hx hb hT inR hown hK hP 0 rfl rfl 16 (by decide) (hT _ wd_551) (fun _ h9 => h9) rfl dR_tight_12 ?_
    exact W.iret hx hb hr (fun t ht hW => ⟨⟨I 0 16, (I, J), rfl, Option.some.inj hm, ht ▸ hP, va_K.moved hW.alike hK, hD⟩, hS.F ht⟩) hS.2.2 dR_tight_15 hlk
  · have hm := brn hm c1
    refine lv_iconst (v := (-1)) hx hb dR_tight_7 (by decide) ?_
    refine lv_goto (tgt := 15) hx hb dR_tight_8 (by decide) ?_
    exact W.iret hx hb hr (fun t ht hW => ⟨⟨-1, (I, J), rfl, Option.some.inj hm, ht ▸ hP, va_K.moved hW.alike hK, hD⟩, hS.F ht⟩) hS.2.2 dR_tight_15 hlk
set_option maxHeartbeats 4000000 in
set_option maxRecDepth 100000 in
theorem c_R_tight (l : Launch) (D : va_G) (ad : Nat → Nat) (cI cJ cG : ClassId) (sz : Nat) (I : SI) (J : SJ) (res : Int32 × SI × SJ) (hm : m_R_tight  I J = some res) : Met l yR_tight (Cond.code yR_tight bR_tight 1 (some .int) :: gtb) rm_R_tight (va_Pc [.ref (ad 0)] (preW D vwCl (tysR cI cJ cG) (wsR ad cI cJ cG I J) sz)) (va_Qi (fun (r : Int32) (u : SI × SJ) => (r, u) = res) (atW D vwCl (tysR cI cJ cG) (va_A (wsR ad cI cJ cG I J) sz) (wsR ad cI cJ cG)) (va_A (wsR ad cI cJ cG I J) sz)) 0 0 (va_A (wsR ad cI cJ cG I J) sz) := by
  refine Met.ofW (cc := bR_tight) (maxL := 1) (ret := (some .int)) (by decide) rfl ?_
  intro p e s m args below meth c s₁ B hml hv
  obtain ⟨rfl, hsz, hP, hK, hD0, hN⟩ := hv
  subst hsz
  have X : Cx p s m [.ref (ad 0)].toArray meth c bR_tight (some .int) 1 RR := ⟨B.exec, B.bytes, B.returns, hml, findClass_of_methodNamed B.named, fun w h => atoms_spec (ws := (Cond.code yR_tight bR_tight 1 (some .int) :: gtb)) B.pre w (List.mem_cons_of_mem _ h), B.notSynchronized⟩
  have hl := lv_entry ([.ref (ad 0)]) (n := 1) (Nat.le_of_ble_eq_true rfl)
  rw [lg_entry_eq]
  generalize (lg_sl ([.ref (ad 0)]) ++ List.replicate (1 - (lg_sl ([.ref (ad 0)])).length) Slot.unset).toArray = ls at hl ⊢
  have hl : lv_has ls 1 [(0, .ref (ad 0))] := hl
  have hA : ∀ q, s.heap.size ≤ q → va_A (wsR ad cI cJ cG I J) s.heap.size q := fun q h => Or.inr h
  exact w_R_tight_0 X hK hN hA   I J hm _ _ _ hP hD0.self va_S.rf hl
def b_R_clash_18 (k18 : Int32 → Int32 → Int32 → SI → SJ → Option (Int32 × SI × SJ)) (x1 : Int32) (x2 : Int32) (x3 : Int32) (I : SI) (J : SJ) : Option (Int32 × SI × SJ) :=
  if 18 ≤ x3 then
    some (-1, I, J)
  else
    nm ((I 0 17) >>> (x3 &&& 31)) fun v2 =>
    nm (v2 &&& 1) fun v3 =>
    if v3 = 1 then
      if x2 = x1 then
        some (x3, I, J)
      else
        nm (x2 + 1) fun v7 =>
        nm (x3 + 1) fun v8 =>
        k18 x1 v7 v8 I J
    else
      nm (x3 + 1) fun v5 =>
      k18 x1 x2 v5 I J
def b_R_clash_0 (k18 : Int32 → Int32 → Int32 → SI → SJ → Option (Int32 × SI × SJ)) (x1 : Int32) (I : SI) (J : SJ) : Option (Int32 × SI × SJ) :=
  if (I 0 10) = 1 then
    if 0 ≤ x1 then
      k18 x1 0 0 I J
    else
      some (-1, I, J)
  else
    some (-1, I, J)
def g_R_clash : Nat → (Int32 → Int32 → Int32 → SI → SJ → Option (Int32 × SI × SJ))
  | 0 => (fun _ _ _ _ _ => none)
  | n + 1 => (fun x1 x2 x3 I J => b_R_clash_18 (g_R_clash n) x1 x2 x3 I J)
def m_R_clash (x1 : Int32) (I : SI) (J : SJ) : Option (Int32 × SI × SJ) := b_R_clash_0 (g_R_clash fuel) x1 I J
def rm_R_clash : Room := { frames := 0, cells := 0, slots := 0, locals := 0 }
set_option maxHeartbeats 4000000 in
set_option maxRecDepth 100000 in
theorem w_R_clash_18 {p : Program} {l : Launch} {e : Env} {s : State} {m : MethodId} {args : Array Value} {below : List Frame} {meth : Method} {c : Code} {D : va_G} {A : Nat → Prop} {ad : Nat → Nat} {cI cJ cG : ClassId} {res : Int32 × SI × SJ} (X : Cx p s m args meth c bR_clash (some .int) 4 RR) (hK : va_K D vwCl (tysR cI cJ cG) s) (hN : NWs s) (hA : ∀ q, s.heap.size ≤ q → A q)
    {k18 : Int32 → Int32 → Int32 → SI → SJ → Option (Int32 × SI × SJ)} (hk18 : ∀ (x1 : Int32) (x2 : Int32) (x3 : Int32) (I : SI) (J : SJ), k18 x1 x2 x3 I J = some res → WB p l e (headSpec (Cond.code yR_clash bR_clash 4 (some .int) :: gtb) rm_R_clash).room s m args below meth c (MQ below (va_Qi (fun (r : Int32) (u : SI × SJ) => (r, u) = res) (atW D vwCl (tysR cI cJ cG) A (wsR ad cI cJ cG)) A) args s 0 0 A) D vwCl A 4 (wsR ad cI cJ cG I J) 18 [(0, .ref (ad 0)), (1, .int x1), (2, .int x2), (3, .int x3)] [])
     (x1 : Int32) (x2 : Int32) (x3 : Int32) (I : SI) (J : SJ) (hm : b_R_clash_18 k18 x1 x2 x3 I J = some res) : WB p l e (headSpec (Cond.code yR_clash bR_clash 4 (some .int) :: gtb) rm_R_clash).room s m args below meth c (MQ below (va_Qi (fun (r : Int32) (u : SI × SJ) => (r, u) = res) (atW D vwCl (tysR cI cJ cG) A (wsR ad cI cJ cG)) A) args s 0 0 A) D vwCl A 4 (wsR ad cI cJ cG I J) 18 [(0, .ref (ad 0)), (1, .int x1), (2, .int x2), (3, .int x3)] [] := by
  obtain ⟨hx, hb, hr, hml, hown, hT, hlk⟩ := X
  intro H locs ls hP hD hS hl
  unfold b_R_clash_18 at hm
  refine lv_iload_n hx hb dR_clash_18 rfl (lv_at hl 3 rfl) ?_
  refine lv_bipush (v := 18) hx hb dR_clash_19 (by decide) ?_
  refine lv_icmp_ge (tgt := 52) hx hb dR_clash_21 (by decide) (fun c1 => ?_) (fun c1 => ?_)
  · have hm := brp hm c1
    refine lv_iconst (v := (-1)) hx hb dR_clash_52 (by decide) ?_
    exact W.iret hx hb hr (fun t ht hW => ⟨⟨-1, (I, J), rfl, Option.some.inj hm, ht ▸ hP, va_K.moved hW.alike hK, hD⟩, hS.F ht⟩) hS.2.2 dR_clash_53 hlk
  · have hm := brn hm c1
    refine lv_aload_n hx hb dR_clash_24 rfl (lv_at hl 0 rfl) ?_
    refine va_get (D := D) (ci := 6) (v := .int (I 0 17)) (C := RR) (T := TR) (N := 31) hx hb hT inR hown hK hP 0 rfl rfl 17 (by decide) (hT _ wd_552) (fun _ h9 => h9) rfl dR_clash_25 ?_
    refine lv_iload_n hx hb dR_clash_28 rfl (lv_at hl 3 rfl) ?_
    refine lv_ishr hx hb dR_clash_29 ?_
    refine lv_topi (fun v2 ev2 => ?_)
    have hm := nm_to ev2 hm
    refine lv_iconst (v := 1) hx hb dR_clash_30 (by decide) ?_
    refine lv_iand hx hb dR_clash_31 ?_
    refine lv_topi (fun v3 ev3 => ?_)
    have hm := nm_to ev3 hm
    refine lv_iconst (v := 1) hx hb dR_clash_32 (by decide) ?_
    refine lv_icmp_ne (tgt := 46) hx hb dR_clash_33 (by decide) (fun c4 => ?_) (fun c4 => ?_)
    · have hm := brn hm c4
      obtain ⟨v5, ev5⟩ : ∃ z : Int32, z = x3 + 1 := ⟨_, rfl⟩
      have hm := nm_to ev5 hm
      refine lv_iinc (v := v5) (lv' := [(3, .int v5), (0, .ref (ad 0)), (1, .int x1), (2, .int x2)]) hx hb dR_clash_46 hl (k := 3) rfl (by rw [ev5]; rfl) (by decide) rfl (fun ls hl => ?_)
      refine lv_goto (tgt := 18) hx hb dR_clash_49 (by decide) ?_
      exact hk18 x1 x2 v5 I J hm _ _ _ hP hD hS (lv_sub hl [1, 2, 3, 0] rfl)
    · have hm := brp hm c4
      refine lv_iload_n hx hb dR_clash_36 rfl (lv_at hl 2 rfl) ?_
      refine lv_iload_n hx hb dR_clash_37 rfl (lv_at hl 1 rfl) ?_
      refine lv_icmp_ne (tgt := 43) hx hb dR_clash_38 (by decide) (fun c6 => ?_) (fun c6 => ?_)
      · have hm := brn hm c6
        obtain ⟨v7, ev7⟩ : ∃ z : Int32, z = x2 + 1 := ⟨_, rfl⟩
        have hm := nm_to ev7 hm
        refine lv_iinc (v := v7) (lv' := [(2, .int v7), (0, .ref (ad 0)), (1, .int x1), (3, .int x3)]) hx hb dR_clash_43 hl (k := 2) rfl (by rw [ev7]; rfl) (by decide) rfl (fun ls hl => ?_)
        obtain ⟨v8, ev8⟩ : ∃ z : Int32, z = x3 + 1 := ⟨_, rfl⟩
        have hm := nm_to ev8 hm
        refine lv_iinc (v := v8) (lv' := [(3, .int v8), (2, .int v7), (0, .ref (ad 0)), (1, .int x1)]) hx hb dR_clash_46 hl (k := 3) rfl (by rw [ev8]; rfl) (by decide) rfl (fun ls hl => ?_)
        refine lv_goto (tgt := 18) hx hb dR_clash_49 (by decide) ?_
        exact hk18 x1 v7 v8 I J hm _ _ _ hP hD hS (lv_sub hl [2, 3, 1, 0] rfl)
      · have hm := brp hm c6
        refine lv_iload_n hx hb dR_clash_41 rfl (lv_at hl 3 rfl) ?_
        exact W.iret hx hb hr (fun t ht hW => ⟨⟨x3, (I, J), rfl, Option.some.inj hm, ht ▸ hP, va_K.moved hW.alike hK, hD⟩, hS.F ht⟩) hS.2.2 dR_clash_42 hlk
set_option maxHeartbeats 4000000 in
set_option maxRecDepth 100000 in
theorem w_R_clash_0 {p : Program} {l : Launch} {e : Env} {s : State} {m : MethodId} {args : Array Value} {below : List Frame} {meth : Method} {c : Code} {D : va_G} {A : Nat → Prop} {ad : Nat → Nat} {cI cJ cG : ClassId} {res : Int32 × SI × SJ} (X : Cx p s m args meth c bR_clash (some .int) 4 RR) (hK : va_K D vwCl (tysR cI cJ cG) s) (hN : NWs s) (hA : ∀ q, s.heap.size ≤ q → A q)
    {k18 : Int32 → Int32 → Int32 → SI → SJ → Option (Int32 × SI × SJ)} (hk18 : ∀ (x1 : Int32) (x2 : Int32) (x3 : Int32) (I : SI) (J : SJ), k18 x1 x2 x3 I J = some res → WB p l e (headSpec (Cond.code yR_clash bR_clash 4 (some .int) :: gtb) rm_R_clash).room s m args below meth c (MQ below (va_Qi (fun (r : Int32) (u : SI × SJ) => (r, u) = res) (atW D vwCl (tysR cI cJ cG) A (wsR ad cI cJ cG)) A) args s 0 0 A) D vwCl A 4 (wsR ad cI cJ cG I J) 18 [(0, .ref (ad 0)), (1, .int x1), (2, .int x2), (3, .int x3)] [])
     (x1 : Int32) (I : SI) (J : SJ) (hm : b_R_clash_0 k18 x1 I J = some res) : WB p l e (headSpec (Cond.code yR_clash bR_clash 4 (some .int) :: gtb) rm_R_clash).room s m args below meth c (MQ below (va_Qi (fun (r : Int32) (u : SI × SJ) => (r, u) = res) (atW D vwCl (tysR cI cJ cG) A (wsR ad cI cJ cG)) A) args s 0 0 A) D vwCl A 4 (wsR ad cI cJ cG I J) 0 [(0, .ref (ad 0)), (1, .int x1)] [] := by
  obtain ⟨hx, hb, hr, hml, hown, hT, hlk⟩ := X
  intro H locs ls hP hD hS hl
  unfold b_R_clash_0 at hm
  refine lv_aload_n hx hb dR_clash_0 rfl (lv_at hl 0 rfl) ?_
  refine va_get (D := D) (ci := 6) (v := .int (I 0 10)) (C := RR) (T := TR) (N := 31) hx hb hT inR hown hK hP 0 rfl rfl 10 (by decide) (hT _ wd_545) (fun _ h9 => h9) rfl dR_clash_1 ?_
  refine lv_iconst (v := 1) hx hb dR_clash_4 (by decide) ?_
  refine lv_icmp_ne (tgt := 12) hx hb dR_clash_5 (by decide) (fun c1 => ?_) (fun c1 => ?_)
  · have hm := brn hm c1
    refine lv_iconst (v := (-1)) hx hb dR_clash_12 (by decide) ?_
    exact W.iret hx hb hr (fun t ht hW => ⟨⟨-1, (I, J), rfl, Option.some.inj hm, ht ▸ hP, va_K.moved hW.alike hK, hD⟩, hS.F ht⟩) hS.2.2 dR_clash_13 hlk
  · have hm := brp hm c1
    refine lv_iload_n hx hb dR_clash_8 rfl (lv_at hl 1 rfl) ?_
    refine lv_if_ge (tgt := 14) hx hb dR_clash_9 (by decide) (fun c2 => ?_) (fun c2 => ?_)
    · have hm := brp hm c2
      refine lv_iconst (v := 0) hx hb dR_clash_14 (by decide) ?_
      refine lv_istore_n (lv' := [(2, .int 0), (0, .ref (ad 0)), (1, .int x1)]) hx hb dR_clash_15 rfl hl (by decide) rfl (fun ls hl => ?_)
      refine lv_iconst (v := 0) hx hb dR_clash_16 (by decide) ?_
      refine lv_istore_n (lv' := [(3, .int 0), (2, .int 0), (0, .ref (ad 0)), (1, .int x1)]) hx hb dR_clash_17 rfl hl (by decide) rfl (fun ls hl => ?_)
      exact hk18 x1 0 0 I J hm _ _ _ hP hD hS (lv_sub hl [2, 3, 1, 0] rfl)
    · have hm := brn hm c2
      refine lv_iconst (v := (-1)) hx hb dR_clash_12 (by decide) ?_
      exact W.iret hx hb hr (fun t ht hW => ⟨⟨-1, (I, J), rfl, Option.some.inj hm, ht ▸ hP, va_K.moved hW.alike hK, hD⟩, hS.F ht⟩) hS.2.2 dR_clash_13 hlk
set_option maxHeartbeats 4000000 in
theorem gw_R_clash {p : Program} {l : Launch} {e : Env} {s : State} {m : MethodId} {args : Array Value} {below : List Frame} {meth : Method} {c : Code} {D : va_G} {A : Nat → Prop} {ad : Nat → Nat} {cI cJ cG : ClassId} {res : Int32 × SI × SJ} (X : Cx p s m args meth c bR_clash (some .int) 4 RR) (hK : va_K D vwCl (tysR cI cJ cG) s) (hN : NWs s) (hA : ∀ q, s.heap.size ≤ q → A q) : ∀ n : Nat, (∀ (x1 : Int32) (x2 : Int32) (x3 : Int32) (I : SI) (J : SJ), (g_R_clash n) x1 x2 x3 I J = some res → WB p l e (headSpec (Cond.code yR_clash bR_clash 4 (some .int) :: gtb) rm_R_clash).room s m args below meth c (MQ below (va_Qi (fun (r : Int32) (u : SI × SJ) => (r, u) = res) (atW D vwCl (tysR cI cJ cG) A (wsR ad cI cJ cG)) A) args s 0 0 A) D vwCl A 4 (wsR ad cI cJ cG I J) 18 [(0, .ref (ad 0)), (1, .int x1), (2, .int x2), (3, .int x3)] []) := by
  intro n
  induction n with
  | zero => exact fun _ _ _ _ _ h => (by cases h)
  | succ n ih =>
    have ih18 := ih
    exact fun x1 x2 x3 I J h => w_R_clash_18 X hK hN hA ih18 x1 x2 x3 I J h
set_option maxHeartbeats 4000000 in
set_option maxRecDepth 100000 in
theorem c_R_clash (l : Launch) (D : va_G) (ad : Nat → Nat) (cI cJ cG : ClassId) (sz : Nat) (x1 : Int32) (I : SI) (J : SJ) (res : Int32 × SI × SJ) (hm : m_R_clash x1 I J = some res) : Met l yR_clash (Cond.code yR_clash bR_clash 4 (some .int) :: gtb) rm_R_clash (va_Pc [.ref (ad 0), .int x1] (preW D vwCl (tysR cI cJ cG) (wsR ad cI cJ cG I J) sz)) (va_Qi (fun (r : Int32) (u : SI × SJ) => (r, u) = res) (atW D vwCl (tysR cI cJ cG) (va_A (wsR ad cI cJ cG I J) sz) (wsR ad cI cJ cG)) (va_A (wsR ad cI cJ cG I J) sz)) 0 0 (va_A (wsR ad cI cJ cG I J) sz) := by
  refine Met.ofW (cc := bR_clash) (maxL := 4) (ret := (some .int)) (by decide) rfl ?_
  intro p e s m args below meth c s₁ B hml hv
  obtain ⟨rfl, hsz, hP, hK, hD0, hN⟩ := hv
  subst hsz
  have X : Cx p s m [.ref (ad 0), .int x1].toArray meth c bR_clash (some .int) 4 RR := ⟨B.exec, B.bytes, B.returns, hml, findClass_of_methodNamed B.named, fun w h => atoms_spec (ws := (Cond.code yR_clash bR_clash 4 (some .int) :: gtb)) B.pre w (List.mem_cons_of_mem _ h), B.notSynchronized⟩
  have hl := lv_entry ([.ref (ad 0), .int x1]) (n := 4) (Nat.le_of_ble_eq_true rfl)
  rw [lg_entry_eq]
  generalize (lg_sl ([.ref (ad 0), .int x1]) ++ List.replicate (4 - (lg_sl ([.ref (ad 0), .int x1])).length) Slot.unset).toArray = ls at hl ⊢
  have hl : lv_has ls 4 [(0, .ref (ad 0)), (1, .int x1)] := hl
  have hA : ∀ q, s.heap.size ≤ q → va_A (wsR ad cI cJ cG I J) s.heap.size q := fun q h => Or.inr h
  exact w_R_clash_0 X hK hN hA (gw_R_clash X hK hN hA fuel) x1 I J hm _ _ _ hP hD0.self va_S.rf hl
def b_R_dearer_0 (x1 : Int32) (x2 : Int32) (I : SI) (J : SJ) : Option (Int64 × SI × SJ) :=
  if (I 0 10) < 0 then
    some (-1, I, J)
  else
    cl1 (m_R_in x1 0 2) fun r2 =>
    if r2 = 0 then
      some (-1, I, J)
    else
      cl1 (m_R_in x2 0 1) fun r5 =>
      if r5 = 0 then
        some (-1, I, J)
      else
        gd (vin x1 3) <|
        nm (I 7 x1.toNatClampNeg) fun v9 =>
        gd (vin x1 3) <|
        nm (I 8 x1.toNatClampNeg) fun v11 =>
        if v9 = v11 then
          some (-1, I, J)
        else
          cl3 (m_R_mixes (I 0 9) I J) fun r13 I14 J15 =>
          if r13 = 0 then
            some (-1, I14, J15)
          else
            cl3 (m_R_costOf 17 I14 J15) fun r18 I19 J20 =>
            gd (vin x1 3) <|
            nm (I19 7 x1.toNatClampNeg) fun v23 =>
            nm (v23 + 1) fun v24 =>
            gd (vin x1 3) <|
            nm (va_up I19 7 (upd (I19 7) x1.toNatClampNeg v24)) fun I26 =>
            cl3 (m_R_mixes (I26 0 9) I26 J20) fun r27 I28 J29 =>
            gd (vin x1 3) <|
            nm (I28 7 x1.toNatClampNeg) fun v32 =>
            nm (v32 - 1) fun v33 =>
            gd (vin x1 3) <|
            nm (va_up I28 7 (upd (I28 7) x1.toNatClampNeg v33)) fun I35 =>
            if r27 = 0 then
              some (-1, I35, J29)
            else
              cl3 (m_R_costOf 17 I35 J29) fun r37 I38 J39 =>
              nm (r37 * (J20 0 30)) fun v41 =>
              nm (r18 * (J39 0 30)) fun v42 =>
              nm (v41 - v42) fun v43 =>
              nm ((J20 0 30) * (J39 0 30)) fun v44 =>
              cl1 (m_R_divisor v43 v44) fun r45 =>
              if x2 = 0 then
                gd (¬ r45 = 0) <|
                nm (v43 / r45) fun v51 =>
                some (v51, I38, J39)
              else
                gd (¬ r45 = 0) <|
                nm (v44 / r45) fun v49 =>
                some (v49, I38, J39)
def m_R_dearer (x1 : Int32) (x2 : Int32) (I : SI) (J : SJ) : Option (Int64 × SI × SJ) := b_R_dearer_0 x1 x2 I J
def rm_R_dearer : Room := { frames := 6, cells := 0, slots := 0, locals := 150 }
set_option maxHeartbeats 4000000 in
set_option maxRecDepth 100000 in
theorem w_R_dearer_0 {p : Program} {l : Launch} {e : Env} {s : State} {m : MethodId} {args : Array Value} {below : List Frame} {meth : Method} {c : Code} {D : va_G} {A : Nat → Prop} {ad : Nat → Nat} {cI cJ cG : ClassId} {res : Int64 × SI × SJ} (X : Cx p s m args meth c bR_dearer (some .long) 14 RR) (hK : va_K D vwCl (tysR cI cJ cG) s) (hN : NWs s) (hA : ∀ q, s.heap.size ≤ q → A q)
     (x1 : Int32) (x2 : Int32) (I : SI) (J : SJ) (hm : b_R_dearer_0  x1 x2 I J = some res) : WB p l e (headSpec (Cond.code yR_dearer bR_dearer 14 (some .long) :: gtb) rm_R_dearer).room s m args below meth c (MQ below (va_Ql (fun (r : Int64) (u : SI × SJ) => (r, u) = res) (atW D vwCl (tysR cI cJ cG) A (wsR ad cI cJ cG)) A) args s 0 0 A) D vwCl A 14 (wsR ad cI cJ cG I J) 0 [(0, .ref (ad 0)), (1, .int x1), (2, .int x2)] [] := by
  obtain ⟨hx, hb, hr, hml, hown, hT, hlk⟩ := X
  intro H locs ls hP hD hS hl
  unfold b_R_dearer_0 at hm
  refine lv_aload_n hx hb dR_dearer_0 rfl (lv_at hl 0 rfl) ?_
  refine va_get (D := D) (ci := 6) (v := .int (I 0 10)) (C := RR) (T := TR) (N := 31) hx hb hT inR hown hK hP 0 rfl rfl 10 (by decide) (hT _ wd_545) (fun _ h9 => h9) rfl dR_dearer_1 ?_
  refine lv_if_lt (tgt := 51) hx hb dR_dearer_4 (by decide) (fun c1 => ?_) (fun c1 => ?_)
  · have hm := brp hm c1
    refine lv_ldc2 (v := (-1)) hx hb hown (hT _ wd_706) dR_dearer_51 ?_
    exact W.lret hx hb hr (fun t ht hW => ⟨⟨-1, (I, J), rfl, Option.some.inj hm, ht ▸ hP, va_K.moved hW.alike hK, hD⟩, hS.F ht⟩) hS.2.2 dR_dearer_54 hlk
  · have hm := brn hm c1
    refine lv_iload_n hx hb dR_dearer_7 rfl (lv_at hl 1 rfl) ?_
    refine lv_iconst (v := 0) hx hb dR_dearer_8 (by decide) ?_
    refine lv_iconst (v := 2) hx hb dR_dearer_9 (by decide) ?_
    obtain ⟨r2, hc3, hm⟩ := cl1_to hm
    refine pstZ_i hS (va_runS (As := [.int x1, .int 0, .int 2]) (rest := []) ⟨hx, hb, hml, hown, hT⟩ (c_R_in l x1 0 2 _ hc3) (va_cwS 3 hT (gS wd_634 wd_635 wd_57 wd_636) rfl rfl rfl (by decide +kernel) ⟨Nat.le_of_ble_eq_true rfl, Nat.le_of_ble_eq_true rfl⟩) ⟨preZ_fb, preZ_at⟩ rfl rfl hl.1 rfl (lv_room (Nat.le_of_ble_eq_true rfl)) dR_dearer_10 ⟨Nat.zero_le _, Nat.zero_le _⟩) (fun H1 locs hq hS => ?_)
    have hP := keptP hP hq
    refine lv_if_eq (tgt := 51) hx hb dR_dearer_13 (by decide) (fun c4 => ?_) (fun c4 => ?_)
    · have hm := brp hm c4
      refine lv_ldc2 (v := (-1)) hx hb hown (hT _ wd_706) dR_dearer_51 ?_
      exact W.lret hx hb hr (fun t ht hW => ⟨⟨-1, (I, J), rfl, Option.some.inj hm, ht ▸ hP, va_K.moved hW.alike hK, hD⟩, hS.F ht⟩) hS.2.2 dR_dearer_54 hlk
    · have hm := brn hm c4
      refine lv_iload_n hx hb dR_dearer_16 rfl (lv_at hl 2 rfl) ?_
      refine lv_iconst (v := 0) hx hb dR_dearer_17 (by decide) ?_
      refine lv_iconst (v := 1) hx hb dR_dearer_18 (by decide) ?_
      obtain ⟨r5, hc6, hm⟩ := cl1_to hm
      refine pstZ_i hS (va_runS (As := [.int x2, .int 0, .int 1]) (rest := []) ⟨hx, hb, hml, hown, hT⟩ (c_R_in l x2 0 1 _ hc6) (va_cwS 3 hT (gS wd_634 wd_635 wd_57 wd_636) rfl rfl rfl (by decide +kernel) ⟨Nat.le_of_ble_eq_true rfl, Nat.le_of_ble_eq_true rfl⟩) ⟨preZ_fb, preZ_at⟩ rfl rfl hl.1 rfl (lv_room (Nat.le_of_ble_eq_true rfl)) dR_dearer_19 ⟨Nat.zero_le _, Nat.zero_le _⟩) (fun H1 locs hq hS => ?_)
      have hP := keptP hP hq
      refine lv_if_eq (tgt := 51) hx hb dR_dearer_22 (by decide) (fun c7 => ?_) (fun c7 => ?_)
      · have hm := brp hm c7
        refine lv_ldc2 (v := (-1)) hx hb hown (hT _ wd_706) dR_dearer_51 ?_
        exact W.lret hx hb hr (fun t ht hW => ⟨⟨-1, (I, J), rfl, Option.some.inj hm, ht ▸ hP, va_K.moved hW.alike hK, hD⟩, hS.F ht⟩) hS.2.2 dR_dearer_54 hlk
      · have hm := brn hm c7
        refine lv_aload_n hx hb dR_dearer_25 rfl (lv_at hl 0 rfl) ?_
        refine va_get (D := D) (ci := 6) (v := .ref (ad 7)) (C := RR) (T := TR) (N := 31) hx hb hT inR hown hK hP 0 rfl rfl 7 (by decide) (hT _ wd_542) (fun _ h9 => h9) rfl dR_dearer_26 ?_
        refine lv_iload_n hx hb dR_dearer_29 rfl (lv_at hl 1 rfl) ?_
        obtain ⟨g8, hm⟩ := gd_to hm
        refine va_iald hx hb hK hP 7 0 rfl rfl g8 dR_dearer_30 ?_
        refine lv_topi (fun v9 ev9 => ?_)
        have hm := nm_to ev9 hm
        refine lv_aload_n hx hb dR_dearer_31 rfl (lv_at hl 0 rfl) ?_
        refine va_get (D := D) (ci := 6) (v := .ref (ad 8)) (C := RR) (T := TR) (N := 31) hx hb hT inR hown hK hP 0 rfl rfl 8 (by decide) (hT _ wd_543) (fun _ h9 => h9) rfl dR_dearer_32 ?_
        refine lv_iload_n hx hb dR_dearer_35 rfl (lv_at hl 1 rfl) ?_
        obtain ⟨g10, hm⟩ := gd_to hm
        refine va_iald hx hb hK hP 8 0 rfl rfl g10 dR_dearer_36 ?_
        refine lv_topi (fun v11 ev11 => ?_)
        have hm := nm_to ev11 hm
        refine lv_icmp_eq (tgt := 51) hx hb dR_dearer_37 (by decide) (fun c12 => ?_) (fun c12 => ?_)
        · have hm := brp hm c12
          refine lv_ldc2 (v := (-1)) hx hb hown (hT _ wd_706) dR_dearer_51 ?_
          exact W.lret hx hb hr (fun t ht hW => ⟨⟨-1, (I, J), rfl, Option.some.inj hm, ht ▸ hP, va_K.moved hW.alike hK, hD⟩, hS.F ht⟩) hS.2.2 dR_dearer_54 hlk
        · have hm := brn hm c12
          refine lv_aload_n hx hb dR_dearer_40 rfl (lv_at hl 0 rfl) ?_
          refine lv_aload_n hx hb dR_dearer_41 rfl (lv_at hl 0 rfl) ?_
          refine va_get (D := D) (ci := 6) (v := .int (I 0 9)) (C := RR) (T := TR) (N := 31) hx hb hT inR hown hK hP 0 rfl rfl 9 (by decide) (hT _ wd_544) (fun _ h9 => h9) rfl dR_dearer_42 ?_
          obtain ⟨r13, I14, J15, hc16, hm⟩ := cl3_to hm
          refine pst_i (wf := wsR ad cI cJ cG) hD hS hA (va_runV (As := [.int (I 0 9)]) (rest := []) ⟨hx, hb, hml, hown, hT⟩ (c_R_mixes l D ad cI cJ cG _ (I 0 9) I J _ hc16) (cwV 1 hT (gV wd_726 wd_728 wd_46 wd_57 wd_729) rfl rfl rfl (by decide +kernel) ⟨Nat.le_of_ble_eq_true rfl, Nat.le_of_ble_eq_true rfl⟩) ⟨preW_fb, va_recv hK hP (ci := 6) (q0 := 0) rfl rfl, preW_at hP hK hN hD⟩ rfl rfl hl.1 rfl (lv_room (Nat.le_of_ble_eq_true rfl)) dR_dearer_45 ⟨Nat.zero_le _, Nat.zero_le _⟩) (fun H locs hP hD hS => ?_)
          refine lv_if_ne (tgt := 55) hx hb dR_dearer_48 (by decide) (fun c17 => ?_) (fun c17 => ?_)
          · have hm := brn hm c17
            refine lv_aload_n hx hb dR_dearer_55 rfl (lv_at hl 0 rfl) ?_
            refine lv_aload_n hx hb dR_dearer_56 rfl (lv_at hl 0 rfl) ?_
            refine va_get (D := D) (ci := 6) (v := .ref (ad 17)) (C := RR) (T := TR) (N := 31) hx hb hT inR hown hK hP 0 rfl rfl 29 (by decide) (hT _ wd_564) (fun _ h9 => h9) rfl dR_dearer_57 ?_
            obtain ⟨r18, I19, J20, hc21, hm⟩ := cl3_to hm
            refine pst_l (wf := wsR ad cI cJ cG) hD hS hA (va_runV (As := [.ref (ad 17)]) (rest := []) ⟨hx, hb, hml, hown, hT⟩ (c_R_costOf l D ad cI cJ cG _ 17 I14 J15 _ hc21) (cwV 1 hT (gV wd_722 wd_724 wd_45 wd_57 wd_725) rfl rfl rfl (by decide +kernel) ⟨Nat.le_of_ble_eq_true rfl, Nat.le_of_ble_eq_true rfl⟩) ⟨preW_fb, va_recv hK hP (ci := 6) (q0 := 0) rfl rfl, preW_at hP hK hN hD⟩ rfl rfl hl.1 rfl (lv_room (Nat.le_of_ble_eq_true rfl)) dR_dearer_60 ⟨Nat.zero_le _, Nat.zero_le _⟩) (fun H locs hP hD hS => ?_)
            refine lv_lstore_n (lv' := [(3, .long r18), (0, .ref (ad 0)), (1, .int x1), (2, .int x2)]) hx hb dR_dearer_63 rfl hl (by decide) rfl (fun ls hl => ?_)
            refine lv_aload_n hx hb dR_dearer_64 rfl (lv_at hl 1 rfl) ?_
            refine va_get (D := D) (ci := 6) (v := .long (J20 0 30)) (C := RR) (T := TR) (N := 31) hx hb hT inR hown hK hP 0 rfl rfl 30 (by decide) (hT _ wd_565) (fun _ h9 => h9) rfl dR_dearer_65 ?_
            refine lv_lstore (lv' := [(5, .long (J20 0 30)), (3, .long r18), (0, .ref (ad 0)), (1, .int x1), (2, .int x2)]) hx hb dR_dearer_68 hl (by decide) rfl (fun ls hl => ?_)
            refine lv_aload_n hx hb dR_dearer_70 rfl (lv_at hl 2 rfl) ?_
            refine va_get (D := D) (ci := 6) (v := .ref (ad 7)) (C := RR) (T := TR) (N := 31) hx hb hT inR hown hK hP 0 rfl rfl 7 (by decide) (hT _ wd_542) (fun _ h9 => h9) rfl dR_dearer_71 ?_
            refine lv_iload_n hx hb dR_dearer_74 rfl (lv_at hl 3 rfl) ?_
            refine lv_dup2_11 hx hb dR_dearer_75 rfl rfl ?_
            obtain ⟨g22, hm⟩ := gd_to hm
            refine va_iald hx hb hK hP 7 0 rfl rfl g22 dR_dearer_76 ?_
            refine lv_topi (fun v23 ev23 => ?_)
            have hm := nm_to ev23 hm
            refine lv_iconst (v := 1) hx hb dR_dearer_77 (by decide) ?_
            refine lv_iadd hx hb dR_dearer_78 ?_
            refine lv_topi (fun v24 ev24 => ?_)
            have hm := nm_to ev24 hm
            obtain ⟨g25, hm⟩ := gd_to hm
            refine va_iast hx hb hK hP hD hS 7 0 rfl rfl g25 dR_dearer_79 (fun H locs hP hD hS => ?_)
            obtain ⟨I26, eI26⟩ : ∃ z : SI, z = va_up I19 7 (upd (I19 7) x1.toNatClampNeg v24) := ⟨_, rfl⟩
            have hm := nm_to eI26 hm
            have hP := P_eq (ws2 := wsR ad cI cJ cG I26 J20) hP (by rw [eI26]; rfl)
            have hD := D_eq (ws2 := wsR ad cI cJ cG I26 J20) hD (by rw [eI26]; rfl)
            refine lv_aload_n hx hb dR_dearer_80 rfl (lv_at hl 2 rfl) ?_
            refine lv_aload_n hx hb dR_dearer_81 rfl (lv_at hl 2 rfl) ?_
            refine va_get (D := D) (ci := 6) (v := .int (I26 0 9)) (C := RR) (T := TR) (N := 31) hx hb hT inR hown hK hP 0 rfl rfl 9 (by decide) (hT _ wd_544) (fun _ h9 => h9) rfl dR_dearer_82 ?_
            obtain ⟨r27, I28, J29, hc30, hm⟩ := cl3_to hm
            refine pst_i (wf := wsR ad cI cJ cG) hD hS hA (va_runV (As := [.int (I26 0 9)]) (rest := []) ⟨hx, hb, hml, hown, hT⟩ (c_R_mixes l D ad cI cJ cG _ (I26 0 9) I26 J20 _ hc30) (cwV 1 hT (gV wd_726 wd_728 wd_46 wd_57 wd_729) rfl rfl rfl (by decide +kernel) ⟨Nat.le_of_ble_eq_true rfl, Nat.le_of_ble_eq_true rfl⟩) ⟨preW_fb, va_recv hK hP (ci := 6) (q0 := 0) rfl rfl, preW_at hP hK hN hD⟩ rfl rfl hl.1 rfl (lv_room (Nat.le_of_ble_eq_true rfl)) dR_dearer_85 ⟨Nat.zero_le _, Nat.zero_le _⟩) (fun H locs hP hD hS => ?_)
            refine lv_istore (lv' := [(7, .int r27), (5, .long (J20 0 30)), (3, .long r18), (0, .ref (ad 0)), (1, .int x1), (2, .int x2)]) hx hb dR_dearer_88 hl (by decide) rfl (fun ls hl => ?_)
            refine lv_aload_n hx hb dR_dearer_90 rfl (lv_at hl 3 rfl) ?_
            refine va_get (D := D) (ci := 6) (v := .ref (ad 7)) (C := RR) (T := TR) (N := 31) hx hb hT inR hown hK hP 0 rfl rfl 7 (by decide) (hT _ wd_542) (fun _ h9 => h9) rfl dR_dearer_91 ?_
            refine lv_iload_n hx hb dR_dearer_94 rfl (lv_at hl 4 rfl) ?_
            refine lv_dup2_11 hx hb dR_dearer_95 rfl rfl ?_
            obtain ⟨g31, hm⟩ := gd_to hm
            refine va_iald hx hb hK hP 7 0 rfl rfl g31 dR_dearer_96 ?_
            refine lv_topi (fun v32 ev32 => ?_)
            have hm := nm_to ev32 hm
            refine lv_iconst (v := 1) hx hb dR_dearer_97 (by decide) ?_
            refine lv_isub hx hb dR_dearer_98 ?_
            refine lv_topi (fun v33 ev33 => ?_)
            have hm := nm_to ev33 hm
            obtain ⟨g34, hm⟩ := gd_to hm
            refine va_iast hx hb hK hP hD hS 7 0 rfl rfl g34 dR_dearer_99 (fun H locs hP hD hS => ?_)
            obtain ⟨I35, eI35⟩ : ∃ z : SI, z = va_up I28 7 (upd (I28 7) x1.toNatClampNeg v33) := ⟨_, rfl⟩
            have hm := nm_to eI35 hm
            have hP := P_eq (ws2 := wsR ad cI cJ cG I35 J29) hP (by rw [eI35]; rfl)
            have hD := D_eq (ws2 := wsR ad cI cJ cG I35 J29) hD (by rw [eI35]; rfl)
            refine lv_iload hx hb dR_dearer_100 (lv_at hl 0 rfl) ?_
            refine lv_if_ne (tgt := 109) hx hb dR_dearer_102 (by decide) (fun c36 => ?_) (fun c36 => ?_)
            · have hm := brn hm c36
              refine lv_aload_n hx hb dR_dearer_109 rfl (lv_at hl 3 rfl) ?_
              refine lv_aload_n hx hb dR_dearer_110 rfl (lv_at hl 3 rfl) ?_
              refine va_get (D := D) (ci := 6) (v := .ref (ad 17)) (C := RR) (T := TR) (N := 31) hx hb hT inR hown hK hP 0 rfl rfl 29 (by decide) (hT _ wd_564) (fun _ h9 => h9) rfl dR_dearer_111 ?_
              obtain ⟨r37, I38, J39, hc40, hm⟩ := cl3_to hm
              refine pst_l (wf := wsR ad cI cJ cG) hD hS hA (va_runV (As := [.ref (ad 17)]) (rest := []) ⟨hx, hb, hml, hown, hT⟩ (c_R_costOf l D ad cI cJ cG _ 17 I35 J29 _ hc40) (cwV 1 hT (gV wd_722 wd_724 wd_45 wd_57 wd_725) rfl rfl rfl (by decide +kernel) ⟨Nat.le_of_ble_eq_true rfl, Nat.le_of_ble_eq_true rfl⟩) ⟨preW_fb, va_recv hK hP (ci := 6) (q0 := 0) rfl rfl, preW_at hP hK hN hD⟩ rfl rfl hl.1 rfl (lv_room (Nat.le_of_ble_eq_true rfl)) dR_dearer_114 ⟨Nat.zero_le _, Nat.zero_le _⟩) (fun H locs hP hD hS => ?_)
              refine lv_lload hx hb dR_dearer_117 (lv_at hl 1 rfl) ?_
              refine lv_lmul hx hb dR_dearer_119 ?_
              refine lv_topl (fun v41 ev41 => ?_)
              have hm := nm_to ev41 hm
              refine lv_lload_n hx hb dR_dearer_120 rfl (lv_at hl 2 rfl) ?_
              refine lv_aload_n hx hb dR_dearer_121 rfl (lv_at hl 3 rfl) ?_
              refine va_get (D := D) (ci := 6) (v := .long (J39 0 30)) (C := RR) (T := TR) (N := 31) hx hb hT inR hown hK hP 0 rfl rfl 30 (by decide) (hT _ wd_565) (fun _ h9 => h9) rfl dR_dearer_122 ?_
              refine lv_lmul hx hb dR_dearer_125 ?_
              refine lv_topl (fun v42 ev42 => ?_)
              have hm := nm_to ev42 hm
              refine lv_lsub hx hb dR_dearer_126 ?_
              refine lv_topl (fun v43 ev43 => ?_)
              have hm := nm_to ev43 hm
              refine lv_lstore (lv' := [(8, .long v43), (7, .int r27), (5, .long (J20 0 30)), (3, .long r18), (0, .ref (ad 0)), (1, .int x1), (2, .int x2)]) hx hb dR_dearer_127 hl (by decide) rfl (fun ls hl => ?_)
              refine lv_lload hx hb dR_dearer_129 (lv_at hl 2 rfl) ?_
              refine lv_aload_n hx hb dR_dearer_131 rfl (lv_at hl 4 rfl) ?_
              refine va_get (D := D) (ci := 6) (v := .long (J39 0 30)) (C := RR) (T := TR) (N := 31) hx hb hT inR hown hK hP 0 rfl rfl 30 (by decide) (hT _ wd_565) (fun _ h9 => h9) rfl dR_dearer_132 ?_
              refine lv_lmul hx hb dR_dearer_135 ?_
              refine lv_topl (fun v44 ev44 => ?_)
              have hm := nm_to ev44 hm
              refine lv_lstore (lv' := [(10, .long v44), (8, .long v43), (7, .int r27), (5, .long (J20 0 30)), (3, .long r18), (0, .ref (ad 0)), (1, .int x1), (2, .int x2)]) hx hb dR_dearer_136 hl (by decide) rfl (fun ls hl => ?_)
              refine lv_lload hx hb dR_dearer_138 (lv_at hl 1 rfl) ?_
              refine lv_lload hx hb dR_dearer_140 (lv_at hl 0 rfl) ?_
              obtain ⟨r45, hc46, hm⟩ := cl1_to hm
              refine pstZ_l hS (va_runS (As := [.long v43, .long v44]) (rest := []) ⟨hx, hb, hml, hown, hT⟩ (c_R_divisor l v43 v44 _ hc46) (va_cwS 2 hT (gS wd_742 wd_743 wd_57 wd_744) rfl rfl rfl (by decide +kernel) ⟨Nat.le_of_ble_eq_true rfl, Nat.le_of_ble_eq_true rfl⟩) ⟨preZ_fb, preZ_at⟩ rfl rfl hl.1 rfl (lv_room (Nat.le_of_ble_eq_true rfl)) dR_dearer_142 ⟨Nat.zero_le _, Nat.zero_le _⟩) (fun H1 locs hq hS => ?_)
              have hP := keptP hP hq
              refine lv_lstore (lv' := [(12, .long r45), (10, .long v44), (8, .long v43), (7, .int r27), (5, .long (J20 0 30)), (3, .long r18), (0, .ref (ad 0)), (1, .int x1), (2, .int x2)]) hx hb dR_dearer_145 hl (by decide) rfl (fun ls hl => ?_)
              refine lv_iload_n hx hb dR_dearer_147 rfl (lv_at hl 8 rfl) ?_
              refine lv_if_ne (tgt := 159) hx hb dR_dearer_148 (by decide) (fun c47 => ?_) (fun c47 => ?_)
              · have hm := brn hm c47
                refine lv_lload hx hb dR_dearer_159 (lv_at hl 1 rfl) ?_
                refine lv_lload hx hb dR_dearer_161 (lv_at hl 0 rfl) ?_
                obtain ⟨g48, hm⟩ := gd_to hm
                refine lv_ldiv hx hb dR_dearer_163 g48 ?_
                refine lv_topl (fun v49 ev49 => ?_)
                have hm := nm_to ev49 hm
                exact W.lret hx hb hr (fun t ht hW => ⟨⟨v49, (I38, J39), rfl, Option.some.inj hm, ht ▸ hP, va_K.moved hW.alike hK, hD⟩, hS.F ht⟩) hS.2.2 dR_dearer_164 hlk
              · have hm := brp hm c47
                refine lv_lload hx hb dR_dearer_151 (lv_at hl 2 rfl) ?_
                refine lv_lload hx hb dR_dearer_153 (lv_at hl 0 rfl) ?_
                obtain ⟨g50, hm⟩ := gd_to hm
                refine lv_ldiv hx hb dR_dearer_155 g50 ?_
                refine lv_topl (fun v51 ev51 => ?_)
                have hm := nm_to ev51 hm
                refine lv_goto (tgt := 164) hx hb dR_dearer_156 (by decide) ?_
                exact W.lret hx hb hr (fun t ht hW => ⟨⟨v51, (I38, J39), rfl, Option.some.inj hm, ht ▸ hP, va_K.moved hW.alike hK, hD⟩, hS.F ht⟩) hS.2.2 dR_dearer_164 hlk
            · have hm := brp hm c36
              refine lv_ldc2 (v := (-1)) hx hb hown (hT _ wd_706) dR_dearer_105 ?_
              exact W.lret hx hb hr (fun t ht hW => ⟨⟨-1, (I35, J29), rfl, Option.some.inj hm, ht ▸ hP, va_K.moved hW.alike hK, hD⟩, hS.F ht⟩) hS.2.2 dR_dearer_108 hlk
          · have hm := brp hm c17
            refine lv_ldc2 (v := (-1)) hx hb hown (hT _ wd_706) dR_dearer_51 ?_
            exact W.lret hx hb hr (fun t ht hW => ⟨⟨-1, (I14, J15), rfl, Option.some.inj hm, ht ▸ hP, va_K.moved hW.alike hK, hD⟩, hS.F ht⟩) hS.2.2 dR_dearer_54 hlk
set_option maxHeartbeats 4000000 in
set_option maxRecDepth 100000 in
theorem c_R_dearer (l : Launch) (D : va_G) (ad : Nat → Nat) (cI cJ cG : ClassId) (sz : Nat) (x1 : Int32) (x2 : Int32) (I : SI) (J : SJ) (res : Int64 × SI × SJ) (hm : m_R_dearer x1 x2 I J = some res) : Met l yR_dearer (Cond.code yR_dearer bR_dearer 14 (some .long) :: gtb) rm_R_dearer (va_Pc [.ref (ad 0), .int x1, .int x2] (preW D vwCl (tysR cI cJ cG) (wsR ad cI cJ cG I J) sz)) (va_Ql (fun (r : Int64) (u : SI × SJ) => (r, u) = res) (atW D vwCl (tysR cI cJ cG) (va_A (wsR ad cI cJ cG I J) sz) (wsR ad cI cJ cG)) (va_A (wsR ad cI cJ cG I J) sz)) 0 0 (va_A (wsR ad cI cJ cG I J) sz) := by
  refine Met.ofW (cc := bR_dearer) (maxL := 14) (ret := (some .long)) (by decide) rfl ?_
  intro p e s m args below meth c s₁ B hml hv
  obtain ⟨rfl, hsz, hP, hK, hD0, hN⟩ := hv
  subst hsz
  have X : Cx p s m [.ref (ad 0), .int x1, .int x2].toArray meth c bR_dearer (some .long) 14 RR := ⟨B.exec, B.bytes, B.returns, hml, findClass_of_methodNamed B.named, fun w h => atoms_spec (ws := (Cond.code yR_dearer bR_dearer 14 (some .long) :: gtb)) B.pre w (List.mem_cons_of_mem _ h), B.notSynchronized⟩
  have hl := lv_entry ([.ref (ad 0), .int x1, .int x2]) (n := 14) (Nat.le_of_ble_eq_true rfl)
  rw [lg_entry_eq]
  generalize (lg_sl ([.ref (ad 0), .int x1, .int x2]) ++ List.replicate (14 - (lg_sl ([.ref (ad 0), .int x1, .int x2])).length) Slot.unset).toArray = ls at hl ⊢
  have hl : lv_has ls 14 [(0, .ref (ad 0)), (1, .int x1), (2, .int x2)] := hl
  have hA : ∀ q, s.heap.size ≤ q → va_A (wsR ad cI cJ cG I J) s.heap.size q := fun q h => Or.inr h
  exact w_R_dearer_0 X hK hN hA  x1 x2 I J hm _ _ _ hP hD0.self va_S.rf hl
def b_R_line_0 (x1 : Int32) (I : SI) (J : SJ) : Option (Int32 × SI × SJ) :=
  cl1 (m_R_in x1 0 3) fun r1 =>
  if r1 = 0 then
    some (-1, I, J)
  else
    if (I 0 10) = 0 then
      if (I 0 18) = 0 then
        nm (va_up I 0 (upd (I 0) 18 x1)) fun I6 =>
        nm ((I6 0 19) + 1) fun v7 =>
        nm (va_up I6 0 (upd (I6 0) 19 v7)) fun I8 =>
        some (0, I8, J)
      else
        if (I 0 18) = x1 then
          nm (va_up I 0 (upd (I 0) 18 x1)) fun I10 =>
          nm ((I10 0 19) + 1) fun v11 =>
          nm (va_up I10 0 (upd (I10 0) 19 v11)) fun I12 =>
          some (0, I12, J)
        else
          some (1, I, J)
    else
      some (-1, I, J)
def m_R_line (x1 : Int32) (I : SI) (J : SJ) : Option (Int32 × SI × SJ) := b_R_line_0 x1 I J
def rm_R_line : Room := { frames := 1, cells := 0, slots := 0, locals := 22 }
set_option maxHeartbeats 4000000 in
set_option maxRecDepth 100000 in
theorem w_R_line_0 {p : Program} {l : Launch} {e : Env} {s : State} {m : MethodId} {args : Array Value} {below : List Frame} {meth : Method} {c : Code} {D : va_G} {A : Nat → Prop} {ad : Nat → Nat} {cI cJ cG : ClassId} {res : Int32 × SI × SJ} (X : Cx p s m args meth c bR_line (some .int) 2 RR) (hK : va_K D vwCl (tysR cI cJ cG) s) (hN : NWs s) (hA : ∀ q, s.heap.size ≤ q → A q)
     (x1 : Int32) (I : SI) (J : SJ) (hm : b_R_line_0  x1 I J = some res) : WB p l e (headSpec (Cond.code yR_line bR_line 2 (some .int) :: gtb) rm_R_line).room s m args below meth c (MQ below (va_Qi (fun (r : Int32) (u : SI × SJ) => (r, u) = res) (atW D vwCl (tysR cI cJ cG) A (wsR ad cI cJ cG)) A) args s 0 0 A) D vwCl A 2 (wsR ad cI cJ cG I J) 0 [(0, .ref (ad 0)), (1, .int x1)] [] := by
  obtain ⟨hx, hb, hr, hml, hown, hT, hlk⟩ := X
  intro H locs ls hP hD hS hl
  unfold b_R_line_0 at hm
  refine lv_iload_n hx hb dR_line_0 rfl (lv_at hl 1 rfl) ?_
  refine lv_iconst (v := 0) hx hb dR_line_1 (by decide) ?_
  refine lv_iconst (v := 3) hx hb dR_line_2 (by decide) ?_
  obtain ⟨r1, hc2, hm⟩ := cl1_to hm
  refine pstZ_i hS (va_runS (As := [.int x1, .int 0, .int 3]) (rest := []) ⟨hx, hb, hml, hown, hT⟩ (c_R_in l x1 0 3 _ hc2) (va_cwS 3 hT (gS wd_634 wd_635 wd_57 wd_636) rfl rfl rfl (by decide +kernel) ⟨Nat.le_of_ble_eq_true rfl, Nat.le_of_ble_eq_true rfl⟩) ⟨preZ_fb, preZ_at⟩ rfl rfl hl.1 rfl (lv_room (Nat.le_of_ble_eq_true rfl)) dR_line_3 ⟨Nat.zero_le _, Nat.zero_le _⟩) (fun H1 locs hq hS => ?_)
  have hP := keptP hP hq
  refine lv_if_eq (tgt := 16) hx hb dR_line_6 (by decide) (fun c3 => ?_) (fun c3 => ?_)
  · have hm := brp hm c3
    refine lv_iconst (v := (-1)) hx hb dR_line_16 (by decide) ?_
    exact W.iret hx hb hr (fun t ht hW => ⟨⟨-1, (I, J), rfl, Option.some.inj hm, ht ▸ hP, va_K.moved hW.alike hK, hD⟩, hS.F ht⟩) hS.2.2 dR_line_17 hlk
  · have hm := brn hm c3
    refine lv_aload_n hx hb dR_line_9 rfl (lv_at hl 0 rfl) ?_
    refine va_get (D := D) (ci := 6) (v := .int (I 0 10)) (C := RR) (T := TR) (N := 31) hx hb hT inR hown hK hP 0 rfl rfl 10 (by decide) (hT _ wd_545) (fun _ h9 => h9) rfl dR_line_10 ?_
    refine lv_if_eq (tgt := 18) hx hb dR_line_13 (by decide) (fun c4 => ?_) (fun c4 => ?_)
    · have hm := brp hm c4
      refine lv_aload_n hx hb dR_line_18 rfl (lv_at hl 0 rfl) ?_
      refine va_get (D := D) (ci := 6) (v := .int (I 0 18)) (C := RR) (T := TR) (N := 31) hx hb hT inR hown hK hP 0 rfl rfl 18 (by decide) (hT _ wd_553) (fun _ h9 => h9) rfl dR_line_19 ?_
      refine lv_if_eq (tgt := 35) hx hb dR_line_22 (by decide) (fun c5 => ?_) (fun c5 => ?_)
      · have hm := brp hm c5
        refine lv_aload_n hx hb dR_line_35 rfl (lv_at hl 0 rfl) ?_
        refine lv_iload_n hx hb dR_line_36 rfl (lv_at hl 1 rfl) ?_
        refine va_put (D := D) (ci := 6) (v := .int x1) (ty := .int) (C := RR) (T := TR) (N := 31) hx hb hT inR tyR okR nmR hown hK hP hD hS 0 rfl rfl 18 (by decide) (hT _ wd_553) (fun _ h9 => h9) rfl pf_I rfl rfl (Nat.le_of_ble_eq_true rfl) dR_line_37 (fun H locs hP hD hS => ?_)
        obtain ⟨I6, eI6⟩ : ∃ z : SI, z = va_up I 0 (upd (I 0) 18 x1) := ⟨_, rfl⟩
        have hm := nm_to eI6 hm
        have hP := P_eq (ws2 := wsR ad cI cJ cG I6 J) hP (by rw [eI6]; rfl)
        have hD := D_eq (ws2 := wsR ad cI cJ cG I6 J) hD (by rw [eI6]; rfl)
        refine lv_aload_n hx hb dR_line_40 rfl (lv_at hl 0 rfl) ?_
        refine lv_dup hx hb dR_line_41 rfl ?_
        refine va_get (D := D) (ci := 6) (v := .int (I6 0 19)) (C := RR) (T := TR) (N := 31) hx hb hT inR hown hK hP 0 rfl rfl 19 (by decide) (hT _ wd_554) (fun _ h9 => h9) rfl dR_line_42 ?_
        refine lv_iconst (v := 1) hx hb dR_line_45 (by decide) ?_
        refine lv_iadd hx hb dR_line_46 ?_
        refine lv_topi (fun v7 ev7 => ?_)
        have hm := nm_to ev7 hm
        refine va_put (D := D) (ci := 6) (v := .int v7) (ty := .int) (C := RR) (T := TR) (N := 31) hx hb hT inR tyR okR nmR hown hK hP hD hS 0 rfl rfl 19 (by decide) (hT _ wd_554) (fun _ h9 => h9) rfl pf_I rfl rfl (Nat.le_of_ble_eq_true rfl) dR_line_47 (fun H locs hP hD hS => ?_)
        obtain ⟨I8, eI8⟩ : ∃ z : SI, z = va_up I6 0 (upd (I6 0) 19 v7) := ⟨_, rfl⟩
        have hm := nm_to eI8 hm
        have hP := P_eq (ws2 := wsR ad cI cJ cG I8 J) hP (by rw [eI8]; rfl)
        have hD := D_eq (ws2 := wsR ad cI cJ cG I8 J) hD (by rw [eI8]; rfl)
        refine lv_iconst (v := 0) hx hb dR_line_50 (by decide) ?_
        exact W.iret hx hb hr (fun t ht hW => ⟨⟨0, (I8, J), rfl, Option.some.inj hm, ht ▸ hP, va_K.moved hW.alike hK, hD⟩, hS.F ht⟩) hS.2.2 dR_line_51 hlk
      · have hm := brn hm c5
        refine lv_aload_n hx hb dR_line_25 rfl (lv_at hl 0 rfl) ?_
        refine va_get (D := D) (ci := 6) (v := .int (I 0 18)) (C := RR) (T := TR) (N := 31) hx hb hT inR hown hK hP 0 rfl rfl 18 (by decide) (hT _ wd_553) (fun _ h9 => h9) rfl dR_line_26 ?_
        refine lv_iload_n hx hb dR_line_29 rfl (lv_at hl 1 rfl) ?_
        refine lv_icmp_eq (tgt := 35) hx hb dR_line_30 (by decide) (fun c9 => ?_) (fun c9 => ?_)
        · have hm := brp hm c9
          refine lv_aload_n hx hb dR_line_35 rfl (lv_at hl 0 rfl) ?_
          refine lv_iload_n hx hb dR_line_36 rfl (lv_at hl 1 rfl) ?_
          refine va_put (D := D) (ci := 6) (v := .int x1) (ty := .int) (C := RR) (T := TR) (N := 31) hx hb hT inR tyR okR nmR hown hK hP hD hS 0 rfl rfl 18 (by decide) (hT _ wd_553) (fun _ h9 => h9) rfl pf_I rfl rfl (Nat.le_of_ble_eq_true rfl) dR_line_37 (fun H locs hP hD hS => ?_)
          obtain ⟨I10, eI10⟩ : ∃ z : SI, z = va_up I 0 (upd (I 0) 18 x1) := ⟨_, rfl⟩
          have hm := nm_to eI10 hm
          have hP := P_eq (ws2 := wsR ad cI cJ cG I10 J) hP (by rw [eI10]; rfl)
          have hD := D_eq (ws2 := wsR ad cI cJ cG I10 J) hD (by rw [eI10]; rfl)
          refine lv_aload_n hx hb dR_line_40 rfl (lv_at hl 0 rfl) ?_
          refine lv_dup hx hb dR_line_41 rfl ?_
          refine va_get (D := D) (ci := 6) (v := .int (I10 0 19)) (C := RR) (T := TR) (N := 31) hx hb hT inR hown hK hP 0 rfl rfl 19 (by decide) (hT _ wd_554) (fun _ h9 => h9) rfl dR_line_42 ?_
          refine lv_iconst (v := 1) hx hb dR_line_45 (by decide) ?_
          refine lv_iadd hx hb dR_line_46 ?_
          refine lv_topi (fun v11 ev11 => ?_)
          have hm := nm_to ev11 hm
          refine va_put (D := D) (ci := 6) (v := .int v11) (ty := .int) (C := RR) (T := TR) (N := 31) hx hb hT inR tyR okR nmR hown hK hP hD hS 0 rfl rfl 19 (by decide) (hT _ wd_554) (fun _ h9 => h9) rfl pf_I rfl rfl (Nat.le_of_ble_eq_true rfl) dR_line_47 (fun H locs hP hD hS => ?_)
          obtain ⟨I12, eI12⟩ : ∃ z : SI, z = va_up I10 0 (upd (I10 0) 19 v11) := ⟨_, rfl⟩
          have hm := nm_to eI12 hm
          have hP := P_eq (ws2 := wsR ad cI cJ cG I12 J) hP (by rw [eI12]; rfl)
          have hD := D_eq (ws2 := wsR ad cI cJ cG I12 J) hD (by rw [eI12]; rfl)
          refine lv_iconst (v := 0) hx hb dR_line_50 (by decide) ?_
          exact W.iret hx hb hr (fun t ht hW => ⟨⟨0, (I12, J), rfl, Option.some.inj hm, ht ▸ hP, va_K.moved hW.alike hK, hD⟩, hS.F ht⟩) hS.2.2 dR_line_51 hlk
        · have hm := brn hm c9
          refine lv_iconst (v := 1) hx hb dR_line_33 (by decide) ?_
          exact W.iret hx hb hr (fun t ht hW => ⟨⟨1, (I, J), rfl, Option.some.inj hm, ht ▸ hP, va_K.moved hW.alike hK, hD⟩, hS.F ht⟩) hS.2.2 dR_line_34 hlk
    · have hm := brn hm c4
      refine lv_iconst (v := (-1)) hx hb dR_line_16 (by decide) ?_
      exact W.iret hx hb hr (fun t ht hW => ⟨⟨-1, (I, J), rfl, Option.some.inj hm, ht ▸ hP, va_K.moved hW.alike hK, hD⟩, hS.F ht⟩) hS.2.2 dR_line_17 hlk
set_option maxHeartbeats 4000000 in
set_option maxRecDepth 100000 in
theorem c_R_line (l : Launch) (D : va_G) (ad : Nat → Nat) (cI cJ cG : ClassId) (sz : Nat) (x1 : Int32) (I : SI) (J : SJ) (res : Int32 × SI × SJ) (hm : m_R_line x1 I J = some res) : Met l yR_line (Cond.code yR_line bR_line 2 (some .int) :: gtb) rm_R_line (va_Pc [.ref (ad 0), .int x1] (preW D vwCl (tysR cI cJ cG) (wsR ad cI cJ cG I J) sz)) (va_Qi (fun (r : Int32) (u : SI × SJ) => (r, u) = res) (atW D vwCl (tysR cI cJ cG) (va_A (wsR ad cI cJ cG I J) sz) (wsR ad cI cJ cG)) (va_A (wsR ad cI cJ cG I J) sz)) 0 0 (va_A (wsR ad cI cJ cG I J) sz) := by
  refine Met.ofW (cc := bR_line) (maxL := 2) (ret := (some .int)) (by decide) rfl ?_
  intro p e s m args below meth c s₁ B hml hv
  obtain ⟨rfl, hsz, hP, hK, hD0, hN⟩ := hv
  subst hsz
  have X : Cx p s m [.ref (ad 0), .int x1].toArray meth c bR_line (some .int) 2 RR := ⟨B.exec, B.bytes, B.returns, hml, findClass_of_methodNamed B.named, fun w h => atoms_spec (ws := (Cond.code yR_line bR_line 2 (some .int) :: gtb)) B.pre w (List.mem_cons_of_mem _ h), B.notSynchronized⟩
  have hl := lv_entry ([.ref (ad 0), .int x1]) (n := 2) (Nat.le_of_ble_eq_true rfl)
  rw [lg_entry_eq]
  generalize (lg_sl ([.ref (ad 0), .int x1]) ++ List.replicate (2 - (lg_sl ([.ref (ad 0), .int x1])).length) Slot.unset).toArray = ls at hl ⊢
  have hl : lv_has ls 2 [(0, .ref (ad 0)), (1, .int x1)] := hl
  have hA : ∀ q, s.heap.size ≤ q → va_A (wsR ad cI cJ cG I J) s.heap.size q := fun q h => Or.inr h
  exact w_R_line_0 X hK hN hA  x1 I J hm _ _ _ hP hD0.self va_S.rf hl
def b_R_clean_0 (I : SI) (J : SJ) : Option (Int32 × SI × SJ) :=
  nm (va_up I 0 (upd (I 0) 18 0)) fun I1 =>
  some (I 0 18, I1, J)
def m_R_clean (I : SI) (J : SJ) : Option (Int32 × SI × SJ) := b_R_clean_0  I J
def rm_R_clean : Room := { frames := 0, cells := 0, slots := 0, locals := 0 }
set_option maxHeartbeats 4000000 in
set_option maxRecDepth 100000 in
theorem w_R_clean_0 {p : Program} {l : Launch} {e : Env} {s : State} {m : MethodId} {args : Array Value} {below : List Frame} {meth : Method} {c : Code} {D : va_G} {A : Nat → Prop} {ad : Nat → Nat} {cI cJ cG : ClassId} {res : Int32 × SI × SJ} (X : Cx p s m args meth c bR_clean (some .int) 2 RR) (hK : va_K D vwCl (tysR cI cJ cG) s) (hN : NWs s) (hA : ∀ q, s.heap.size ≤ q → A q)
     (I : SI) (J : SJ) (hm : b_R_clean_0   I J = some res) : WB p l e (headSpec (Cond.code yR_clean bR_clean 2 (some .int) :: gtb) rm_R_clean).room s m args below meth c (MQ below (va_Qi (fun (r : Int32) (u : SI × SJ) => (r, u) = res) (atW D vwCl (tysR cI cJ cG) A (wsR ad cI cJ cG)) A) args s 0 0 A) D vwCl A 2 (wsR ad cI cJ cG I J) 0 [(0, .ref (ad 0))] [] := by
  obtain ⟨hx, hb, hr, hml, hown, hT, hlk⟩ := X
  intro H locs ls hP hD hS hl
  unfold b_R_clean_0 at hm
  refine lv_aload_n hx hb dR_clean_0 rfl (lv_at hl 0 rfl) ?_
  refine va_get (D := D) (ci := 6) (v := .int (I 0 18)) (C := RR) (T := TR) (N := 31) hx hb hT inR hown hK hP 0 rfl rfl 18 (by decide) (hT _ wd_553) (fun _ h9 => h9) rfl dR_clean_1 ?_
  refine lv_istore_n (lv' := [(1, .int (I 0 18)), (0, .ref (ad 0))]) hx hb dR_clean_4 rfl hl (by decide) rfl (fun ls hl => ?_)
  refine lv_aload_n hx hb dR_clean_5 rfl (lv_at hl 1 rfl) ?_
  refine lv_iconst (v := 0) hx hb dR_clean_6 (by decide) ?_
  refine va_put (D := D) (ci := 6) (v := .int 0) (ty := .int) (C := RR) (T := TR) (N := 31) hx hb hT inR tyR okR nmR hown hK hP hD hS 0 rfl rfl 18 (by decide) (hT _ wd_553) (fun _ h9 => h9) rfl pf_I rfl rfl (Nat.le_of_ble_eq_true rfl) dR_clean_7 (fun H locs hP hD hS => ?_)
  obtain ⟨I1, eI1⟩ : ∃ z : SI, z = va_up I 0 (upd (I 0) 18 0) := ⟨_, rfl⟩
  have hm := nm_to eI1 hm
  have hP := P_eq (ws2 := wsR ad cI cJ cG I1 J) hP (by rw [eI1]; rfl)
  have hD := D_eq (ws2 := wsR ad cI cJ cG I1 J) hD (by rw [eI1]; rfl)
  refine lv_iload_n hx hb dR_clean_10 rfl (lv_at hl 0 rfl) ?_
  exact W.iret hx hb hr (fun t ht hW => ⟨⟨I 0 18, (I1, J), rfl, Option.some.inj hm, ht ▸ hP, va_K.moved hW.alike hK, hD⟩, hS.F ht⟩) hS.2.2 dR_clean_11 hlk
set_option maxHeartbeats 4000000 in
set_option maxRecDepth 100000 in
theorem c_R_clean (l : Launch) (D : va_G) (ad : Nat → Nat) (cI cJ cG : ClassId) (sz : Nat) (I : SI) (J : SJ) (res : Int32 × SI × SJ) (hm : m_R_clean  I J = some res) : Met l yR_clean (Cond.code yR_clean bR_clean 2 (some .int) :: gtb) rm_R_clean (va_Pc [.ref (ad 0)] (preW D vwCl (tysR cI cJ cG) (wsR ad cI cJ cG I J) sz)) (va_Qi (fun (r : Int32) (u : SI × SJ) => (r, u) = res) (atW D vwCl (tysR cI cJ cG) (va_A (wsR ad cI cJ cG I J) sz) (wsR ad cI cJ cG)) (va_A (wsR ad cI cJ cG I J) sz)) 0 0 (va_A (wsR ad cI cJ cG I J) sz) := by
  refine Met.ofW (cc := bR_clean) (maxL := 2) (ret := (some .int)) (by decide) rfl ?_
  intro p e s m args below meth c s₁ B hml hv
  obtain ⟨rfl, hsz, hP, hK, hD0, hN⟩ := hv
  subst hsz
  have X : Cx p s m [.ref (ad 0)].toArray meth c bR_clean (some .int) 2 RR := ⟨B.exec, B.bytes, B.returns, hml, findClass_of_methodNamed B.named, fun w h => atoms_spec (ws := (Cond.code yR_clean bR_clean 2 (some .int) :: gtb)) B.pre w (List.mem_cons_of_mem _ h), B.notSynchronized⟩
  have hl := lv_entry ([.ref (ad 0)]) (n := 2) (Nat.le_of_ble_eq_true rfl)
  rw [lg_entry_eq]
  generalize (lg_sl ([.ref (ad 0)]) ++ List.replicate (2 - (lg_sl ([.ref (ad 0)])).length) Slot.unset).toArray = ls at hl ⊢
  have hl : lv_has ls 2 [(0, .ref (ad 0))] := hl
  have hA : ∀ q, s.heap.size ≤ q → va_A (wsR ad cI cJ cG I J) s.heap.size q := fun q h => Or.inr h
  exact w_R_clean_0 X hK hN hA   I J hm _ _ _ hP hD0.self va_S.rf hl
def b_R_made_0 (I : SI) (J : SJ) : Option (Int32 × SI × SJ) :=
  some (I 0 19, I, J)
def m_R_made (I : SI) (J : SJ) : Option (Int32 × SI × SJ) := b_R_made_0  I J
def rm_R_made : Room := { frames := 0, cells := 0, slots := 0, locals := 0 }
set_option maxHeartbeats 4000000 in
set_option maxRecDepth 100000 in
theorem w_R_made_0 {p : Program} {l : Launch} {e : Env} {s : State} {m : MethodId} {args : Array Value} {below : List Frame} {meth : Method} {c : Code} {D : va_G} {A : Nat → Prop} {ad : Nat → Nat} {cI cJ cG : ClassId} {res : Int32 × SI × SJ} (X : Cx p s m args meth c bR_made (some .int) 1 RR) (hK : va_K D vwCl (tysR cI cJ cG) s) (hN : NWs s) (hA : ∀ q, s.heap.size ≤ q → A q)
     (I : SI) (J : SJ) (hm : b_R_made_0   I J = some res) : WB p l e (headSpec (Cond.code yR_made bR_made 1 (some .int) :: gtb) rm_R_made).room s m args below meth c (MQ below (va_Qi (fun (r : Int32) (u : SI × SJ) => (r, u) = res) (atW D vwCl (tysR cI cJ cG) A (wsR ad cI cJ cG)) A) args s 0 0 A) D vwCl A 1 (wsR ad cI cJ cG I J) 0 [(0, .ref (ad 0))] [] := by
  obtain ⟨hx, hb, hr, hml, hown, hT, hlk⟩ := X
  intro H locs ls hP hD hS hl
  unfold b_R_made_0 at hm
  refine lv_aload_n hx hb dR_made_0 rfl (lv_at hl 0 rfl) ?_
  refine va_get (D := D) (ci := 6) (v := .int (I 0 19)) (C := RR) (T := TR) (N := 31) hx hb hT inR hown hK hP 0 rfl rfl 19 (by decide) (hT _ wd_554) (fun _ h9 => h9) rfl dR_made_1 ?_
  exact W.iret hx hb hr (fun t ht hW => ⟨⟨I 0 19, (I, J), rfl, Option.some.inj hm, ht ▸ hP, va_K.moved hW.alike hK, hD⟩, hS.F ht⟩) hS.2.2 dR_made_4 hlk
set_option maxHeartbeats 4000000 in
set_option maxRecDepth 100000 in
theorem c_R_made (l : Launch) (D : va_G) (ad : Nat → Nat) (cI cJ cG : ClassId) (sz : Nat) (I : SI) (J : SJ) (res : Int32 × SI × SJ) (hm : m_R_made  I J = some res) : Met l yR_made (Cond.code yR_made bR_made 1 (some .int) :: gtb) rm_R_made (va_Pc [.ref (ad 0)] (preW D vwCl (tysR cI cJ cG) (wsR ad cI cJ cG I J) sz)) (va_Qi (fun (r : Int32) (u : SI × SJ) => (r, u) = res) (atW D vwCl (tysR cI cJ cG) (va_A (wsR ad cI cJ cG I J) sz) (wsR ad cI cJ cG)) (va_A (wsR ad cI cJ cG I J) sz)) 0 0 (va_A (wsR ad cI cJ cG I J) sz) := by
  refine Met.ofW (cc := bR_made) (maxL := 1) (ret := (some .int)) (by decide) rfl ?_
  intro p e s m args below meth c s₁ B hml hv
  obtain ⟨rfl, hsz, hP, hK, hD0, hN⟩ := hv
  subst hsz
  have X : Cx p s m [.ref (ad 0)].toArray meth c bR_made (some .int) 1 RR := ⟨B.exec, B.bytes, B.returns, hml, findClass_of_methodNamed B.named, fun w h => atoms_spec (ws := (Cond.code yR_made bR_made 1 (some .int) :: gtb)) B.pre w (List.mem_cons_of_mem _ h), B.notSynchronized⟩
  have hl := lv_entry ([.ref (ad 0)]) (n := 1) (Nat.le_of_ble_eq_true rfl)
  rw [lg_entry_eq]
  generalize (lg_sl ([.ref (ad 0)]) ++ List.replicate (1 - (lg_sl ([.ref (ad 0)])).length) Slot.unset).toArray = ls at hl ⊢
  have hl : lv_has ls 1 [(0, .ref (ad 0))] := hl
  have hA : ∀ q, s.heap.size ≤ q → va_A (wsR ad cI cJ cG I J) s.heap.size q := fun q h => Or.inr h
  exact w_R_made_0 X hK hN hA   I J hm _ _ _ hP hD0.self va_S.rf hl
