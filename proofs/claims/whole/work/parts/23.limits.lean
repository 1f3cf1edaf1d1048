def b_X_isNone_0 (I : SI) (J : SJ) : Option (Int32 × SI × SJ) :=
  nm (lg_cmp (J 35 2) 0) fun v1 =>
  if v1 = 0 then
    some (1, I, J)
  else
    some (0, I, J)
def m_X_isNone (I : SI) (J : SJ) : Option (Int32 × SI × SJ) := b_X_isNone_0  I J
def rm_X_isNone : Room := { frames := 0, cells := 0, slots := 0, locals := 0 }
set_option maxHeartbeats 4000000 in
set_option maxRecDepth 100000 in
theorem w_X_isNone_0 {p : Program} {l : Launch} {e : Env} {s : State} {m : MethodId} {args : Array Value} {below : List Frame} {meth : Method} {c : Code} {D : va_G} {A : Nat → Prop} {ad : Nat → Nat} {cI cJ cG : ClassId} {res : Int32 × SI × SJ} (X : Cx p s m args meth c bX_isNone (some .boolean) 1 RX) (hK : va_K D vwCl (tysM cI cJ cG) s) (hN : NWs s) (hA : ∀ q, s.heap.size ≤ q → A q)
     (I : SI) (J : SJ) (hm : b_X_isNone_0   I J = some res) : WB p l e (headSpec (Cond.code yX_isNone bX_isNone 1 (some .boolean) :: gtb) rm_X_isNone).room s m args below meth c (MQ below (va_Qi (fun (r : Int32) (u : SI × SJ) => (r, u) = res) (atW D vwCl (tysM cI cJ cG) A (wsM ad cI cJ cG)) A) args s 0 0 A) D vwCl A 1 (wsM ad cI cJ cG I J) 0 [(0, .ref (ad 35))] [] := by
  obtain ⟨hx, hb, hr, hml, hown, hT, hlk⟩ := X
  intro H locs ls hP hD hS hl
  unfold b_X_isNone_0 at hm
  refine lv_aload_n hx hb dX_isNone_0 rfl (lv_at hl 0 rfl) ?_
  refine va_get (D := D) (ci := 2) (v := .long (J 35 2)) (C := RX) (T := TX) (N := 3) hx hb hT inX hown hK hP 35 rfl rfl 2 (by decide) (hT _ wd_187) (fun _ h9 => h9) rfl dX_isNone_1 ?_
  refine lv_lconst (v := 0) hx hb dX_isNone_4 (by decide) ?_
  refine W.lcmp hx hb dX_isNone_5 ?_
  refine lv_topi (fun v1 ev1 => ?_)
  have hm := nm_to ev1 hm
  refine lv_if_ne (tgt := 13) hx hb dX_isNone_6 (by decide) (fun c2 => ?_) (fun c2 => ?_)
  · have hm := brn hm c2
    refine lv_iconst (v := 0) hx hb dX_isNone_13 (by decide) ?_
    exact W.zret hx hb hr rfl (fun t ht hW => ⟨⟨0, (I, J), rfl, Option.some.inj hm, ht ▸ hP, va_K.moved hW.alike hK, hD⟩, hS.F ht⟩) hS.2.2 dX_isNone_14 hlk
  · have hm := brp hm c2
    refine lv_iconst (v := 1) hx hb dX_isNone_9 (by decide) ?_
    refine lv_goto (tgt := 14) hx hb dX_isNone_10 (by decide) ?_
    exact W.zret hx hb hr rfl (fun t ht hW => ⟨⟨1, (I, J), rfl, Option.some.inj hm, ht ▸ hP, va_K.moved hW.alike hK, hD⟩, hS.F ht⟩) hS.2.2 dX_isNone_14 hlk
set_option maxHeartbeats 4000000 in
set_option maxRecDepth 100000 in
theorem c_X_isNone (l : Launch) (D : va_G) (ad : Nat → Nat) (cI cJ cG : ClassId) (sz : Nat) (I : SI) (J : SJ) (res : Int32 × SI × SJ) (hm : m_X_isNone  I J = some res) : Met l yX_isNone (Cond.code yX_isNone bX_isNone 1 (some .boolean) :: gtb) rm_X_isNone (va_Pc [.ref (ad 35)] (preW D vwCl (tysM cI cJ cG) (wsM ad cI cJ cG I J) sz)) (va_Qi (fun (r : Int32) (u : SI × SJ) => (r, u) = res) (atW D vwCl (tysM cI cJ cG) (va_A (wsM ad cI cJ cG I J) sz) (wsM ad cI cJ cG)) (va_A (wsM ad cI cJ cG I J) sz)) 0 0 (va_A (wsM ad cI cJ cG I J) sz) := by
  refine Met.ofW (cc := bX_isNone) (maxL := 1) (ret := (some .boolean)) (by decide) rfl ?_
  intro p e s m args below meth c s₁ B hml hv
  obtain ⟨rfl, hsz, hP, hK, hD0, hN⟩ := hv
  subst hsz
  have X : Cx p s m [.ref (ad 35)].toArray meth c bX_isNone (some .boolean) 1 RX := ⟨B.exec, B.bytes, B.returns, hml, findClass_of_methodNamed B.named, fun w h => atoms_spec (ws := (Cond.code yX_isNone bX_isNone 1 (some .boolean) :: gtb)) B.pre w (List.mem_cons_of_mem _ h), B.notSynchronized⟩
  have hl := lv_entry ([.ref (ad 35)]) (n := 1) (Nat.le_of_ble_eq_true rfl)
  rw [lg_entry_eq]
  generalize (lg_sl ([.ref (ad 35)]) ++ List.replicate (1 - (lg_sl ([.ref (ad 35)])).length) Slot.unset).toArray = ls at hl ⊢
  have hl : lv_has ls 1 [(0, .ref (ad 35))] := hl
  have hA : ∀ q, s.heap.size ≤ q → va_A (wsM ad cI cJ cG I J) s.heap.size q := fun q h => Or.inr h
  exact w_X_isNone_0 X hK hN hA   I J hm _ _ _ hP hD0.self va_S.rf hl
def b_X_forget_0 (I : SI) (J : SJ) : Option (SI × SJ) :=
  nm (va_up J 35 (vp_updL (J 35) 2 0)) fun J1 =>
  some (I, J1)
def m_X_forget (I : SI) (J : SJ) : Option (SI × SJ) := b_X_forget_0  I J
def rm_X_forget : Room := { frames := 0, cells := 0, slots := 0, locals := 0 }
set_option maxHeartbeats 4000000 in
set_option maxRecDepth 100000 in
theorem w_X_forget_0 {p : Program} {l : Launch} {e : Env} {s : State} {m : MethodId} {args : Array Value} {below : List Frame} {meth : Method} {c : Code} {D : va_G} {A : Nat → Prop} {ad : Nat → Nat} {cI cJ cG : ClassId} {res : SI × SJ} (X : Cx p s m args meth c bX_forget none 1 RX) (hK : va_K D vwCl (tysM cI cJ cG) s) (hN : NWs s) (hA : ∀ q, s.heap.size ≤ q → A q)
     (I : SI) (J : SJ) (hm : b_X_forget_0   I J = some res) : WB p l e (headSpec (Cond.code yX_forget bX_forget 1 none :: gtb) rm_X_forget).room s m args below meth c (MQ below (va_Qv (fun (u : SI × SJ) => u = res) (atW D vwCl (tysM cI cJ cG) A (wsM ad cI cJ cG)) A) args s 0 0 A) D vwCl A 1 (wsM ad cI cJ cG I J) 0 [(0, .ref (ad 35))] [] := by
  obtain ⟨hx, hb, hr, hml, hown, hT, hlk⟩ := X
  intro H locs ls hP hD hS hl
  unfold b_X_forget_0 at hm
  refine lv_aload_n hx hb dX_forget_0 rfl (lv_at hl 0 rfl) ?_
  refine lv_lconst (v := 0) hx hb dX_forget_1 (by decide) ?_
  refine va_put (D := D) (ci := 2) (v := .long 0) (ty := .long) (C := RX) (T := TX) (N := 3) hx hb hT inX tyX okX nmX hown hK hP hD hS 35 rfl rfl 2 (by decide) (hT _ wd_187) (fun _ h9 => h9) rfl pf_J rfl rfl (Nat.le_of_ble_eq_true rfl) dX_forget_2 (fun H locs hP hD hS => ?_)
  obtain ⟨J1, eJ1⟩ : ∃ z : SJ, z = va_up J 35 (vp_updL (J 35) 2 0) := ⟨_, rfl⟩
  have hm := nm_to eJ1 hm
  have hP := P_eq (ws2 := wsM ad cI cJ cG I J1) hP (by rw [eJ1]; rfl)
  have hD := D_eq (ws2 := wsM ad cI cJ cG I J1) hD (by rw [eJ1]; rfl)
  exact W.vret hx hb hr (fun t ht hW => ⟨⟨(I, J1), rfl, Option.some.inj hm, ht ▸ hP, va_K.moved hW.alike hK, hD⟩, hS.F ht⟩) hS.2.2 dX_forget_5 hlk
set_option maxHeartbeats 4000000 in
set_option maxRecDepth 100000 in
theorem c_X_forget (l : Launch) (D : va_G) (ad : Nat → Nat) (cI cJ cG : ClassId) (sz : Nat) (I : SI) (J : SJ) (res : SI × SJ) (hm : m_X_forget  I J = some res) : Met l yX_forget (Cond.code yX_forget bX_forget 1 none :: gtb) rm_X_forget (va_Pc [.ref (ad 35)] (preW D vwCl (tysM cI cJ cG) (wsM ad cI cJ cG I J) sz)) (va_Qv (fun (u : SI × SJ) => u = res) (atW D vwCl (tysM cI cJ cG) (va_A (wsM ad cI cJ cG I J) sz) (wsM ad cI cJ cG)) (va_A (wsM ad cI cJ cG I J) sz)) 0 0 (va_A (wsM ad cI cJ cG I J) sz) := by
  refine Met.ofW (cc := bX_forget) (maxL := 1) (ret := none) (by decide) rfl ?_
  intro p e s m args below meth c s₁ B hml hv
  obtain ⟨rfl, hsz, hP, hK, hD0, hN⟩ := hv
  subst hsz
  have X : Cx p s m [.ref (ad 35)].toArray meth c bX_forget none 1 RX := ⟨B.exec, B.bytes, B.returns, hml, findClass_of_methodNamed B.named, fun w h => atoms_spec (ws := (Cond.code yX_forget bX_forget 1 none :: gtb)) B.pre w (List.mem_cons_of_mem _ h), B.notSynchronized⟩
  have hl := lv_entry ([.ref (ad 35)]) (n := 1) (Nat.le_of_ble_eq_true rfl)
  rw [lg_entry_eq]
  generalize (lg_sl ([.ref (ad 35)]) ++ List.replicate (1 - (lg_sl ([.ref (ad 35)])).length) Slot.unset).toArray = ls at hl ⊢
  have hl : lv_has ls 1 [(0, .ref (ad 35))] := hl
  have hA : ∀ q, s.heap.size ≤ q → va_A (wsM ad cI cJ cG I J) s.heap.size q := fun q h => Or.inr h
  exact w_X_forget_0 X hK hN hA   I J hm _ _ _ hP hD0.self va_S.rf hl
def b_X_become_2 (k2 : Int32 → SI → SJ → Option (SI × SJ)) (x2 : Int32) (I : SI) (J : SJ) : Option (SI × SJ) :=
  if 4 ≤ x2 then
    nm (va_up J 35 (vp_updL (J 35) 1 (J 32 1))) fun J2 =>
    nm (va_up J2 35 (vp_updL (J2 35) 2 (J2 32 2))) fun J3 =>
    some (I, J3)
  else
    gd (vin x2 4) <|
    nm (J 33 x2.toNatClampNeg) fun v5 =>
    gd (vin x2 4) <|
    nm (va_up J 36 (vp_updL (J 36) x2.toNatClampNeg v5)) fun J7 =>
    nm (x2 + 1) fun v8 =>
    k2 v8 I J7
def b_X_become_0 (k2 : Int32 → SI → SJ → Option (SI × SJ)) (I : SI) (J : SJ) : Option (SI × SJ) :=
  k2 0 I J
def g_X_become : Nat → (Int32 → SI → SJ → Option (SI × SJ))
  | 0 => (fun _ _ _ => none)
  | n + 1 => (fun x2 I J => b_X_become_2 (g_X_become n) x2 I J)
def m_X_become (I : SI) (J : SJ) : Option (SI × SJ) := b_X_become_0 (g_X_become fuel)  I J
def rm_X_become : Room := { frames := 0, cells := 0, slots := 0, locals := 0 }
set_option maxHeartbeats 4000000 in
set_option maxRecDepth 100000 in
theorem w_X_become_2 {p : Program} {l : Launch} {e : Env} {s : State} {m : MethodId} {args : Array Value} {below : List Frame} {meth : Method} {c : Code} {D : va_G} {A : Nat → Prop} {ad : Nat → Nat} {cI cJ cG : ClassId} {res : SI × SJ} (X : Cx p s m args meth c bX_become none 3 RX) (hK : va_K D vwCl (tysM cI cJ cG) s) (hN : NWs s) (hA : ∀ q, s.heap.size ≤ q → A q)
    {k2 : Int32 → SI → SJ → Option (SI × SJ)} (hk2 : ∀ (x2 : Int32) (I : SI) (J : SJ), k2 x2 I J = some res → WB p l e (headSpec (Cond.code yX_become bX_become 3 none :: gtb) rm_X_become).room s m args below meth c (MQ below (va_Qv (fun (u : SI × SJ) => u = res) (atW D vwCl (tysM cI cJ cG) A (wsM ad cI cJ cG)) A) args s 0 0 A) D vwCl A 3 (wsM ad cI cJ cG I J) 2 [(0, .ref (ad 35)), (1, .ref (ad 32)), (2, .int x2)] [])
     (x2 : Int32) (I : SI) (J : SJ) (hm : b_X_become_2 k2 x2 I J = some res) : WB p l e (headSpec (Cond.code yX_become bX_become 3 none :: gtb) rm_X_become).room s m args below meth c (MQ below (va_Qv (fun (u : SI × SJ) => u = res) (atW D vwCl (tysM cI cJ cG) A (wsM ad cI cJ cG)) A) args s 0 0 A) D vwCl A 3 (wsM ad cI cJ cG I J) 2 [(0, .ref (ad 35)), (1, .ref (ad 32)), (2, .int x2)] [] := by
  obtain ⟨hx, hb, hr, hml, hown, hT, hlk⟩ := X
  intro H locs ls hP hD hS hl
  unfold b_X_become_2 at hm
  refine lv_iload_n hx hb dX_become_2 rfl (lv_at hl 2 rfl) ?_
  refine lv_iconst (v := 4) hx hb dX_become_3 (by decide) ?_
  refine lv_icmp_ge (tgt := 25) hx hb dX_become_4 (by decide) (fun c1 => ?_) (fun c1 => ?_)
  · have hm := brp hm c1
    refine lv_aload_n hx hb dX_become_25 rfl (lv_at hl 0 rfl) ?_
    refine lv_aload_n hx hb dX_become_26 rfl (lv_at hl 1 rfl) ?_
    refine va_get (D := D) (ci := 2) (v := .long (J 32 1)) (C := RX) (T := TX) (N := 3) hx hb hT inX hown hK hP 32 rfl rfl 1 (by decide) (hT _ wd_184) (fun _ h9 => h9) rfl dX_become_27 ?_
    refine va_put (D := D) (ci := 2) (v := .long (J 32 1)) (ty := .long) (C := RX) (T := TX) (N := 3) hx hb hT inX tyX okX nmX hown hK hP hD hS 35 rfl rfl 1 (by decide) (hT _ wd_184) (fun _ h9 => h9) rfl pf_J rfl rfl (Nat.le_of_ble_eq_true rfl) dX_become_30 (fun H locs hP hD hS => ?_)
    obtain ⟨J2, eJ2⟩ : ∃ z : SJ, z = va_up J 35 (vp_updL (J 35) 1 (J 32 1)) := ⟨_, rfl⟩
    have hm := nm_to eJ2 hm
    have hP := P_eq (ws2 := wsM ad cI cJ cG I J2) hP (by rw [eJ2]; rfl)
    have hD := D_eq (ws2 := wsM ad cI cJ cG I J2) hD (by rw [eJ2]; rfl)
    refine lv_aload_n hx hb dX_become_33 rfl (lv_at hl 0 rfl) ?_
    refine lv_aload_n hx hb dX_become_34 rfl (lv_at hl 1 rfl) ?_
    refine va_get (D := D) (ci := 2) (v := .long (J2 32 2)) (C := RX) (T := TX) (N := 3) hx hb hT inX hown hK hP 32 rfl rfl 2 (by decide) (hT _ wd_187) (fun _ h9 => h9) rfl dX_become_35 ?_
    refine va_put (D := D) (ci := 2) (v := .long (J2 32 2)) (ty := .long) (C := RX) (T := TX) (N := 3) hx hb hT inX tyX okX nmX hown hK hP hD hS 35 rfl rfl 2 (by decide) (hT _ wd_187) (fun _ h9 => h9) rfl pf_J rfl rfl (Nat.le_of_ble_eq_true rfl) dX_become_38 (fun H locs hP hD hS => ?_)
    obtain ⟨J3, eJ3⟩ : ∃ z : SJ, z = va_up J2 35 (vp_updL (J2 35) 2 (J2 32 2)) := ⟨_, rfl⟩
    have hm := nm_to eJ3 hm
    have hP := P_eq (ws2 := wsM ad cI cJ cG I J3) hP (by rw [eJ3]; rfl)
    have hD := D_eq (ws2 := wsM ad cI cJ cG I J3) hD (by rw [eJ3]; rfl)
    exact W.vret hx hb hr (fun t ht hW => ⟨⟨(I, J3), rfl, Option.some.inj hm, ht ▸ hP, va_K.moved hW.alike hK, hD⟩, hS.F ht⟩) hS.2.2 dX_become_41 hlk
  · have hm := brn hm c1
    refine lv_aload_n hx hb dX_become_7 rfl (lv_at hl 0 rfl) ?_
    refine va_get (D := D) (ci := 2) (v := .ref (ad 36)) (C := RX) (T := TX) (N := 3) hx hb hT inX hown hK hP 35 rfl rfl 0 (by decide) (hT _ wd_180) (fun _ h9 => h9) rfl dX_become_8 ?_
    refine lv_iload_n hx hb dX_become_11 rfl (lv_at hl 2 rfl) ?_
    refine lv_aload_n hx hb dX_become_12 rfl (lv_at hl 1 rfl) ?_
    refine va_get (D := D) (ci := 2) (v := .ref (ad 33)) (C := RX) (T := TX) (N := 3) hx hb hT inX hown hK hP 32 rfl rfl 0 (by decide) (hT _ wd_180) (fun _ h9 => h9) rfl dX_become_13 ?_
    refine lv_iload_n hx hb dX_become_16 rfl (lv_at hl 2 rfl) ?_
    obtain ⟨g4, hm⟩ := gd_to hm
    refine va_lald hx hb hK hP 33 1 rfl rfl g4 dX_become_17 ?_
    refine lv_topl (fun v5 ev5 => ?_)
    have hm := nm_to ev5 hm
    obtain ⟨g6, hm⟩ := gd_to hm
    refine va_last hx hb hK hP hD hS 36 1 rfl rfl g6 dX_become_18 (fun H locs hP hD hS => ?_)
    obtain ⟨J7, eJ7⟩ : ∃ z : SJ, z = va_up J 36 (vp_updL (J 36) x2.toNatClampNeg v5) := ⟨_, rfl⟩
    have hm := nm_to eJ7 hm
    have hP := P_eq (ws2 := wsM ad cI cJ cG I J7) hP (by rw [eJ7]; rfl)
    have hD := D_eq (ws2 := wsM ad cI cJ cG I J7) hD (by rw [eJ7]; rfl)
    obtain ⟨v8, ev8⟩ : ∃ z : Int32, z = x2 + 1 := ⟨_, rfl⟩
    have hm := nm_to ev8 hm
    refine lv_iinc (v := v8) (lv' := [(2, .int v8), (0, .ref (ad 35)), (1, .ref (ad 32))]) hx hb dX_become_19 hl (k := 2) rfl (by rw [ev8]; rfl) (by decide) rfl (fun ls hl => ?_)
    refine lv_goto (tgt := 2) hx hb dX_become_22 (by decide) ?_
    exact hk2 v8 I J7 hm _ _ _ hP hD hS (lv_sub hl [1, 2, 0] rfl)
set_option maxHeartbeats 4000000 in
set_option maxRecDepth 100000 in
theorem w_X_become_0 {p : Program} {l : Launch} {e : Env} {s : State} {m : MethodId} {args : Array Value} {below : List Frame} {meth : Method} {c : Code} {D : va_G} {A : Nat → Prop} {ad : Nat → Nat} {cI cJ cG : ClassId} {res : SI × SJ} (X : Cx p s m args meth c bX_become none 3 RX) (hK : va_K D vwCl (tysM cI cJ cG) s) (hN : NWs s) (hA : ∀ q, s.heap.size ≤ q → A q)
    {k2 : Int32 → SI → SJ → Option (SI × SJ)} (hk2 : ∀ (x2 : Int32) (I : SI) (J : SJ), k2 x2 I J = some res → WB p l e (headSpec (Cond.code yX_become bX_become 3 none :: gtb) rm_X_become).room s m args below meth c (MQ below (va_Qv (fun (u : SI × SJ) => u = res) (atW D vwCl (tysM cI cJ cG) A (wsM ad cI cJ cG)) A) args s 0 0 A) D vwCl A 3 (wsM ad cI cJ cG I J) 2 [(0, .ref (ad 35)), (1, .ref (ad 32)), (2, .int x2)] [])
     (I : SI) (J : SJ) (hm : b_X_become_0 k2  I J = some res) : WB p l e (headSpec (Cond.code yX_become bX_become 3 none :: gtb) rm_X_become).room s m args below meth c (MQ below (va_Qv (fun (u : SI × SJ) => u = res) (atW D vwCl (tysM cI cJ cG) A (wsM ad cI cJ cG)) A) args s 0 0 A) D vwCl A 3 (wsM ad cI cJ cG I J) 0 [(0, .ref (ad 35)), (1, .ref (ad 32))] [] := by
  obtain ⟨hx, hb, hr, hml, hown, hT, hlk⟩ := X
  intro H locs ls hP hD hS hl
  unfold b_X_become_0 at hm
  refine lv_iconst (v := 0) hx hb dX_become_0 (by decide) ?_
  refine lv_istore_n (lv' := [(2, .int 0), (0, .ref (ad 35)), (1, .ref (ad 32))]) hx hb dX_become_1 rfl hl (by decide) rfl (fun ls hl => ?_)
  exact hk2 0 I J hm _ _ _ hP hD hS (lv_sub hl [1, 2, 0] rfl)
set_option maxHeartbeats 4000000 in
theorem gw_X_become {p : Program} {l : Launch} {e : Env} {s : State} {m : MethodId} {args : Array Value} {below : List Frame} {meth : Method} {c : Code} {D : va_G} {A : Nat → Prop} {ad : Nat → Nat} {cI cJ cG : ClassId} {res : SI × SJ} (X : Cx p s m args meth c bX_become none 3 RX) (hK : va_K D vwCl (tysM cI cJ cG) s) (hN : NWs s) (hA : ∀ q, s.heap.size ≤ q → A q) : ∀ n : Nat, (∀ (x2 : Int32) (I : SI) (J : SJ), (g_X_become n) x2 I J = some res → WB p l e (headSpec (Cond.code yX_become bX_become 3 none :: gtb) rm_X_become).room s m args below meth c (MQ below (va_Qv (fun (u : SI × SJ) => u = res) (atW D vwCl (tysM cI cJ cG) A (wsM ad cI cJ cG)) A) args s 0 0 A) D vwCl A 3 (wsM ad cI cJ cG I J) 2 [(0, .ref (ad 35)), (1, .ref (ad 32)), (2, .int x2)] []) := by
  intro n
  induction n with
  | zero => exact fun _ _ _ h => (by cases h)
  | succ n ih =>
    have ih2 := ih
    exact fun x2 I J h => w_X_become_2 X hK hN hA ih2 x2 I J h
set_option maxHeartbeats 4000000 in
set_option maxRecDepth 100000 in
theorem c_X_become (l : Launch) (D : va_G) (ad : Nat → Nat) (cI cJ cG : ClassId) (sz : Nat) (I : SI) (J : SJ) (res : SI × SJ) (hm : m_X_become  I J = some res) : Met l yX_become (Cond.code yX_become bX_become 3 none :: gtb) rm_X_become (va_Pc [.ref (ad 35), .ref (ad 32)] (preW D vwCl (tysM cI cJ cG) (wsM ad cI cJ cG I J) sz)) (va_Qv (fun (u : SI × SJ) => u = res) (atW D vwCl (tysM cI cJ cG) (va_A (wsM ad cI cJ cG I J) sz) (wsM ad cI cJ cG)) (va_A (wsM ad cI cJ cG I J) sz)) 0 0 (va_A (wsM ad cI cJ cG I J) sz) := by
  refine Met.ofW (cc := bX_become) (maxL := 3) (ret := none) (by decide) rfl ?_
  intro p e s m args below meth c s₁ B hml hv
  obtain ⟨rfl, hsz, hP, hK, hD0, hN⟩ := hv
  subst hsz
  have X : Cx p s m [.ref (ad 35), .ref (ad 32)].toArray meth c bX_become none 3 RX := ⟨B.exec, B.bytes, B.returns, hml, findClass_of_methodNamed B.named, fun w h => atoms_spec (ws := (Cond.code yX_become bX_become 3 none :: gtb)) B.pre w (List.mem_cons_of_mem _ h), B.notSynchronized⟩
  have hl := lv_entry ([.ref (ad 35), .ref (ad 32)]) (n := 3) (Nat.le_of_ble_eq_true rfl)
  rw [lg_entry_eq]
  generalize (lg_sl ([.ref (ad 35), .ref (ad 32)]) ++ List.replicate (3 - (lg_sl ([.ref (ad 35), .ref (ad 32)])).length) Slot.unset).toArray = ls at hl ⊢
  have hl : lv_has ls 3 [(0, .ref (ad 35)), (1, .ref (ad 32))] := hl
  have hA : ∀ q, s.heap.size ≤ q → va_A (wsM ad cI cJ cG I J) s.heap.size q := fun q h => Or.inr h
  exact w_X_become_0 X hK hN hA (gw_X_become X hK hN hA fuel)  I J hm _ _ _ hP hD0.self va_S.rf hl
def b_X_isBetterThan_35 (k35 : Int32 → Int32 → SI → SJ → Option (Int32 × SI × SJ)) (x2 : Int32) (x3 : Int32) (I : SI) (J : SJ) : Option (Int32 × SI × SJ) :=
  if 4 ≤ x3 then
    if 0 ≤ x2 then
      some (0, I, J)
    else
      some (1, I, J)
  else
    if x2 = 0 then
      gd (vin x3 4) <|
      nm (J 33 x3.toNatClampNeg) fun v6 =>
      nm (v6 * (J 35 2)) fun v7 =>
      gd (vin x3 4) <|
      nm (J 36 x3.toNatClampNeg) fun v9 =>
      nm (v9 * (J 32 2)) fun v10 =>
      cl1 (m_JL_compare v7 v10) fun r11 =>
      nm (x3 + 1) fun v13 =>
      k35 r11 v13 I J
    else
      if 0 ≤ x2 then
        some (0, I, J)
      else
        some (1, I, J)
def b_X_isBetterThan_0 (k35 : Int32 → Int32 → SI → SJ → Option (Int32 × SI × SJ)) (I : SI) (J : SJ) : Option (Int32 × SI × SJ) :=
  nm (lg_cmp (J 35 2) 0) fun v1 =>
  if v1 = 0 then
    some (1, I, J)
  else
    nm ((J 32 1) * (J 35 2)) fun v3 =>
    nm ((J 35 1) * (J 32 2)) fun v4 =>
    cl1 (m_JL_compare v3 v4) fun r5 =>
    k35 r5 0 I J
def g_X_isBetterThan : Nat → (Int32 → Int32 → SI → SJ → Option (Int32 × SI × SJ))
  | 0 => (fun _ _ _ _ => none)
  | n + 1 => (fun x2 x3 I J => b_X_isBetterThan_35 (g_X_isBetterThan n) x2 x3 I J)
def m_X_isBetterThan (I : SI) (J : SJ) : Option (Int32 × SI × SJ) := b_X_isBetterThan_0 (g_X_isBetterThan fuel)  I J
def rm_X_isBetterThan : Room := { frames := 1, cells := 0, slots := 0, locals := 23 }
set_option maxHeartbeats 4000000 in
set_option maxRecDepth 100000 in
theorem w_X_isBetterThan_35 {p : Program} {l : Launch} {e : Env} {s : State} {m : MethodId} {args : Array Value} {below : List Frame} {meth : Method} {c : Code} {D : va_G} {A : Nat → Prop} {ad : Nat → Nat} {cI cJ cG : ClassId} {res : Int32 × SI × SJ} (X : Cx p s m args meth c bX_isBetterThan (some .boolean) 4 RX) (hK : va_K D vwCl (tysM cI cJ cG) s) (hN : NWs s) (hA : ∀ q, s.heap.size ≤ q → A q)
    {k35 : Int32 → Int32 → SI → SJ → Option (Int32 × SI × SJ)} (hk35 : ∀ (x2 : Int32) (x3 : Int32) (I : SI) (J : SJ), k35 x2 x3 I J = some res → WB p l e (headSpec (Cond.code yX_isBetterThan bX_isBetterThan 4 (some .boolean) :: gtb) rm_X_isBetterThan).room s m args below meth c (MQ below (va_Qi (fun (r : Int32) (u : SI × SJ) => (r, u) = res) (atW D vwCl (tysM cI cJ cG) A (wsM ad cI cJ cG)) A) args s 0 0 A) D vwCl A 4 (wsM ad cI cJ cG I J) 35 [(0, .ref (ad 32)), (1, .ref (ad 35)), (2, .int x2), (3, .int x3)] [])
     (x2 : Int32) (x3 : Int32) (I : SI) (J : SJ) (hm : b_X_isBetterThan_35 k35 x2 x3 I J = some res) : WB p l e (headSpec (Cond.code yX_isBetterThan bX_isBetterThan 4 (some .boolean) :: gtb) rm_X_isBetterThan).room s m args below meth c (MQ below (va_Qi (fun (r : Int32) (u : SI × SJ) => (r, u) = res) (atW D vwCl (tysM cI cJ cG) A (wsM ad cI cJ cG)) A) args s 0 0 A) D vwCl A 4 (wsM ad cI cJ cG I J) 35 [(0, .ref (ad 32)), (1, .ref (ad 35)), (2, .int x2), (3, .int x3)] [] := by
  obtain ⟨hx, hb, hr, hml, hown, hT, hlk⟩ := X
  intro H locs ls hP hD hS hl
  unfold b_X_isBetterThan_35 at hm
  refine lv_iload_n hx hb dX_isBetterThan_35 rfl (lv_at hl 3 rfl) ?_
  refine lv_iconst (v := 4) hx hb dX_isBetterThan_36 (by decide) ?_
  refine lv_icmp_ge (tgt := 76) hx hb dX_isBetterThan_37 (by decide) (fun c1 => ?_) (fun c1 => ?_)
  · have hm := brp hm c1
    refine lv_iload_n hx hb dX_isBetterThan_76 rfl (lv_at hl 2 rfl) ?_
    refine lv_if_ge (tgt := 84) hx hb dX_isBetterThan_77 (by decide) (fun c2 => ?_) (fun c2 => ?_)
    · have hm := brp hm c2
      refine lv_iconst (v := 0) hx hb dX_isBetterThan_84 (by decide) ?_
      exact W.zret hx hb hr rfl (fun t ht hW => ⟨⟨0, (I, J), rfl, Option.some.inj hm, ht ▸ hP, va_K.moved hW.alike hK, hD⟩, hS.F ht⟩) hS.2.2 dX_isBetterThan_85 hlk
    · have hm := brn hm c2
      refine lv_iconst (v := 1) hx hb dX_isBetterThan_80 (by decide) ?_
      refine lv_goto (tgt := 85) hx hb dX_isBetterThan_81 (by decide) ?_
      exact W.zret hx hb hr rfl (fun t ht hW => ⟨⟨1, (I, J), rfl, Option.some.inj hm, ht ▸ hP, va_K.moved hW.alike hK, hD⟩, hS.F ht⟩) hS.2.2 dX_isBetterThan_85 hlk
  · have hm := brn hm c1
    refine lv_iload_n hx hb dX_isBetterThan_40 rfl (lv_at hl 2 rfl) ?_
    refine lv_if_ne (tgt := 76) hx hb dX_isBetterThan_41 (by decide) (fun c3 => ?_) (fun c3 => ?_)
    · have hm := brn hm c3
      refine lv_iload_n hx hb dX_isBetterThan_76 rfl (lv_at hl 2 rfl) ?_
      refine lv_if_ge (tgt := 84) hx hb dX_isBetterThan_77 (by decide) (fun c4 => ?_) (fun c4 => ?_)
      · have hm := brp hm c4
        refine lv_iconst (v := 0) hx hb dX_isBetterThan_84 (by decide) ?_
        exact W.zret hx hb hr rfl (fun t ht hW => ⟨⟨0, (I, J), rfl, Option.some.inj hm, ht ▸ hP, va_K.moved hW.alike hK, hD⟩, hS.F ht⟩) hS.2.2 dX_isBetterThan_85 hlk
      · have hm := brn hm c4
        refine lv_iconst (v := 1) hx hb dX_isBetterThan_80 (by decide) ?_
        refine lv_goto (tgt := 85) hx hb dX_isBetterThan_81 (by decide) ?_
        exact W.zret hx hb hr rfl (fun t ht hW => ⟨⟨1, (I, J), rfl, Option.some.inj hm, ht ▸ hP, va_K.moved hW.alike hK, hD⟩, hS.F ht⟩) hS.2.2 dX_isBetterThan_85 hlk
    · have hm := brp hm c3
      refine lv_aload_n hx hb dX_isBetterThan_44 rfl (lv_at hl 0 rfl) ?_
      refine va_get (D := D) (ci := 2) (v := .ref (ad 33)) (C := RX) (T := TX) (N := 3) hx hb hT inX hown hK hP 32 rfl rfl 0 (by decide) (hT _ wd_180) (fun _ h9 => h9) rfl dX_isBetterThan_45 ?_
      refine lv_iload_n hx hb dX_isBetterThan_48 rfl (lv_at hl 3 rfl) ?_
      obtain ⟨g5, hm⟩ := gd_to hm
      refine va_lald hx hb hK hP 33 1 rfl rfl g5 dX_isBetterThan_49 ?_
      refine lv_topl (fun v6 ev6 => ?_)
      have hm := nm_to ev6 hm
      refine lv_aload_n hx hb dX_isBetterThan_50 rfl (lv_at hl 1 rfl) ?_
      refine va_get (D := D) (ci := 2) (v := .long (J 35 2)) (C := RX) (T := TX) (N := 3) hx hb hT inX hown hK hP 35 rfl rfl 2 (by decide) (hT _ wd_187) (fun _ h9 => h9) rfl dX_isBetterThan_51 ?_
      refine lv_lmul hx hb dX_isBetterThan_54 ?_
      refine lv_topl (fun v7 ev7 => ?_)
      have hm := nm_to ev7 hm
      refine lv_aload_n hx hb dX_isBetterThan_55 rfl (lv_at hl 1 rfl) ?_
      refine va_get (D := D) (ci := 2) (v := .ref (ad 36)) (C := RX) (T := TX) (N := 3) hx hb hT inX hown hK hP 35 rfl rfl 0 (by decide) (hT _ wd_180) (fun _ h9 => h9) rfl dX_isBetterThan_56 ?_
      refine lv_iload_n hx hb dX_isBetterThan_59 rfl (lv_at hl 3 rfl) ?_
      obtain ⟨g8, hm⟩ := gd_to hm
      refine va_lald hx hb hK hP 36 1 rfl rfl g8 dX_isBetterThan_60 ?_
      refine lv_topl (fun v9 ev9 => ?_)
      have hm := nm_to ev9 hm
      refine lv_aload_n hx hb dX_isBetterThan_61 rfl (lv_at hl 0 rfl) ?_
      refine va_get (D := D) (ci := 2) (v := .long (J 32 2)) (C := RX) (T := TX) (N := 3) hx hb hT inX hown hK hP 32 rfl rfl 2 (by decide) (hT _ wd_187) (fun _ h9 => h9) rfl dX_isBetterThan_62 ?_
      refine lv_lmul hx hb dX_isBetterThan_65 ?_
      refine lv_topl (fun v10 ev10 => ?_)
      have hm := nm_to ev10 hm
      obtain ⟨r11, hc12, hm⟩ := cl1_to hm
      refine pstZ_i hS (va_runS (As := [.long v7, .long v10]) (rest := []) ⟨hx, hb, hml, hown, hT⟩ (c_JL_compare l v7 v10 _ hc12) (va_cwS 2 hT (gS wd_452 wd_453 wd_59 wd_454) rfl rfl rfl (by decide +kernel) ⟨Nat.le_of_ble_eq_true rfl, Nat.le_of_ble_eq_true rfl⟩) ⟨preZ_fb, preZ_at⟩ rfl rfl hl.1 rfl (lv_room (Nat.le_of_ble_eq_true rfl)) dX_isBetterThan_66 ⟨Nat.zero_le _, Nat.zero_le _⟩) (fun H1 locs hq hS => ?_)
      have hP := keptP hP hq
      refine lv_istore_n (lv' := [(2, .int r11), (0, .ref (ad 32)), (1, .ref (ad 35)), (3, .int x3)]) hx hb dX_isBetterThan_69 rfl hl (by decide) rfl (fun ls hl => ?_)
      obtain ⟨v13, ev13⟩ : ∃ z : Int32, z = x3 + 1 := ⟨_, rfl⟩
      have hm := nm_to ev13 hm
      refine lv_iinc (v := v13) (lv' := [(3, .int v13), (2, .int r11), (0, .ref (ad 32)), (1, .ref (ad 35))]) hx hb dX_isBetterThan_70 hl (k := 3) rfl (by rw [ev13]; rfl) (by decide) rfl (fun ls hl => ?_)
      refine lv_goto (tgt := 35) hx hb dX_isBetterThan_73 (by decide) ?_
      exact hk35 r11 v13 I J hm _ _ _ hP hD hS (lv_sub hl [2, 3, 1, 0] rfl)
set_option maxHeartbeats 4000000 in
set_option maxRecDepth 100000 in
theorem w_X_isBetterThan_0 {p : Program} {l : Launch} {e : Env} {s : State} {m : MethodId} {args : Array Value} {below : List Frame} {meth : Method} {c : Code} {D : va_G} {A : Nat → Prop} {ad : Nat → Nat} {cI cJ cG : ClassId} {res : Int32 × SI × SJ} (X : Cx p s m args meth c bX_isBetterThan (some .boolean) 4 RX) (hK : va_K D vwCl (tysM cI cJ cG) s) (hN : NWs s) (hA : ∀ q, s.heap.size ≤ q → A q)
    {k35 : Int32 → Int32 → SI → SJ → Option (Int32 × SI × SJ)} (hk35 : ∀ (x2 : Int32) (x3 : Int32) (I : SI) (J : SJ), k35 x2 x3 I J = some res → WB p l e (headSpec (Cond.code yX_isBetterThan bX_isBetterThan 4 (some .boolean) :: gtb) rm_X_isBetterThan).room s m args below meth c (MQ below (va_Qi (fun (r : Int32) (u : SI × SJ) => (r, u) = res) (atW D vwCl (tysM cI cJ cG) A (wsM ad cI cJ cG)) A) args s 0 0 A) D vwCl A 4 (wsM ad cI cJ cG I J) 35 [(0, .ref (ad 32)), (1, .ref (ad 35)), (2, .int x2), (3, .int x3)] [])
     (I : SI) (J : SJ) (hm : b_X_isBetterThan_0 k35  I J = some res) : WB p l e (headSpec (Cond.code yX_isBetterThan bX_isBetterThan 4 (some .boolean) :: gtb) rm_X_isBetterThan).room s m args below meth c (MQ below (va_Qi (fun (r : Int32) (u : SI × SJ) => (r, u) = res) (atW D vwCl (tysM cI cJ cG) A (wsM ad cI cJ cG)) A) args s 0 0 A) D vwCl A 4 (wsM ad cI cJ cG I J) 0 [(0, .ref (ad 32)), (1, .ref (ad 35))] [] := by
  obtain ⟨hx, hb, hr, hml, hown, hT, hlk⟩ := X
  intro H locs ls hP hD hS hl
  unfold b_X_isBetterThan_0 at hm
  refine lv_aload_n hx hb dX_isBetterThan_0 rfl (lv_at hl 1 rfl) ?_
  refine va_get (D := D) (ci := 2) (v := .long (J 35 2)) (C := RX) (T := TX) (N := 3) hx hb hT inX hown hK hP 35 rfl rfl 2 (by decide) (hT _ wd_187) (fun _ h9 => h9) rfl dX_isBetterThan_1 ?_
  refine lv_lconst (v := 0) hx hb dX_isBetterThan_4 (by decide) ?_
  refine W.lcmp hx hb dX_isBetterThan_5 ?_
  refine lv_topi (fun v1 ev1 => ?_)
  have hm := nm_to ev1 hm
  refine lv_if_ne (tgt := 11) hx hb dX_isBetterThan_6 (by decide) (fun c2 => ?_) (fun c2 => ?_)
  · have hm := brn hm c2
    refine lv_aload_n hx hb dX_isBetterThan_11 rfl (lv_at hl 0 rfl) ?_
    refine va_get (D := D) (ci := 2) (v := .long (J 32 1)) (C := RX) (T := TX) (N := 3) hx hb hT inX hown hK hP 32 rfl rfl 1 (by decide) (hT _ wd_184) (fun _ h9 => h9) rfl dX_isBetterThan_12 ?_
    refine lv_aload_n hx hb dX_isBetterThan_15 rfl (lv_at hl 1 rfl) ?_
    refine va_get (D := D) (ci := 2) (v := .long (J 35 2)) (C := RX) (T := TX) (N := 3) hx hb hT inX hown hK hP 35 rfl rfl 2 (by decide) (hT _ wd_187) (fun _ h9 => h9) rfl dX_isBetterThan_16 ?_
    refine lv_lmul hx hb dX_isBetterThan_19 ?_
    refine lv_topl (fun v3 ev3 => ?_)
    have hm := nm_to ev3 hm
    refine lv_aload_n hx hb dX_isBetterThan_20 rfl (lv_at hl 1 rfl) ?_
    refine va_get (D := D) (ci := 2) (v := .long (J 35 1)) (C := RX) (T := TX) (N := 3) hx hb hT inX hown hK hP 35 rfl rfl 1 (by decide) (hT _ wd_184) (fun _ h9 => h9) rfl dX_isBetterThan_21 ?_
    refine lv_aload_n hx hb dX_isBetterThan_24 rfl (lv_at hl 0 rfl) ?_
    refine va_get (D := D) (ci := 2) (v := .long (J 32 2)) (C := RX) (T := TX) (N := 3) hx hb hT inX hown hK hP 32 rfl rfl 2 (by decide) (hT _ wd_187) (fun _ h9 => h9) rfl dX_isBetterThan_25 ?_
    refine lv_lmul hx hb dX_isBetterThan_28 ?_
    refine lv_topl (fun v4 ev4 => ?_)
    have hm := nm_to ev4 hm
    obtain ⟨r5, hc6, hm⟩ := cl1_to hm
    refine pstZ_i hS (va_runS (As := [.long v3, .long v4]) (rest := []) ⟨hx, hb, hml, hown, hT⟩ (c_JL_compare l v3 v4 _ hc6) (va_cwS 2 hT (gS wd_452 wd_453 wd_59 wd_454) rfl rfl rfl (by decide +kernel) ⟨Nat.le_of_ble_eq_true rfl, Nat.le_of_ble_eq_true rfl⟩) ⟨preZ_fb, preZ_at⟩ rfl rfl hl.1 rfl (lv_room (Nat.le_of_ble_eq_true rfl)) dX_isBetterThan_29 ⟨Nat.zero_le _, Nat.zero_le _⟩) (fun H1 locs hq hS => ?_)
    have hP := keptP hP hq
    refine lv_istore_n (lv' := [(2, .int r5), (0, .ref (ad 32)), (1, .ref (ad 35))]) hx hb dX_isBetterThan_32 rfl hl (by decide) rfl (fun ls hl => ?_)
    refine lv_iconst (v := 0) hx hb dX_isBetterThan_33 (by decide) ?_
    refine lv_istore_n (lv' := [(3, .int 0), (2, .int r5), (0, .ref (ad 32)), (1, .ref (ad 35))]) hx hb dX_isBetterThan_34 rfl hl (by decide) rfl (fun ls hl => ?_)
    exact hk35 r5 0 I J hm _ _ _ hP hD hS (lv_sub hl [2, 3, 1, 0] rfl)
  · have hm := brp hm c2
    refine lv_iconst (v := 1) hx hb dX_isBetterThan_9 (by decide) ?_
    exact W.zret hx hb hr rfl (fun t ht hW => ⟨⟨1, (I, J), rfl, Option.some.inj hm, ht ▸ hP, va_K.moved hW.alike hK, hD⟩, hS.F ht⟩) hS.2.2 dX_isBetterThan_10 hlk
set_option maxHeartbeats 4000000 in
theorem gw_X_isBetterThan {p : Program} {l : Launch} {e : Env} {s : State} {m : MethodId} {args : Array Value} {below : List Frame} {meth : Method} {c : Code} {D : va_G} {A : Nat → Prop} {ad : Nat → Nat} {cI cJ cG : ClassId} {res : Int32 × SI × SJ} (X : Cx p s m args meth c bX_isBetterThan (some .boolean) 4 RX) (hK : va_K D vwCl (tysM cI cJ cG) s) (hN : NWs s) (hA : ∀ q, s.heap.size ≤ q → A q) : ∀ n : Nat, (∀ (x2 : Int32) (x3 : Int32) (I : SI) (J : SJ), (g_X_isBetterThan n) x2 x3 I J = some res → WB p l e (headSpec (Cond.code yX_isBetterThan bX_isBetterThan 4 (some .boolean) :: gtb) rm_X_isBetterThan).room s m args below meth c (MQ below (va_Qi (fun (r : Int32) (u : SI × SJ) => (r, u) = res) (atW D vwCl (tysM cI cJ cG) A (wsM ad cI cJ cG)) A) args s 0 0 A) D vwCl A 4 (wsM ad cI cJ cG I J) 35 [(0, .ref (ad 32)), (1, .ref (ad 35)), (2, .int x2), (3, .int x3)] []) := by
  intro n
  induction n with
  | zero => exact fun _ _ _ _ h => (by cases h)
  | succ n ih =>
    have ih35 := ih
    exact fun x2 x3 I J h => w_X_isBetterThan_35 X hK hN hA ih35 x2 x3 I J h
set_option maxHeartbeats 4000000 in
set_option maxRecDepth 100000 in
theorem c_X_isBetterThan (l : Launch) (D : va_G) (ad : Nat → Nat) (cI cJ cG : ClassId) (sz : Nat) (I : SI) (J : SJ) (res : Int32 × SI × SJ) (hm : m_X_isBetterThan  I J = some res) : Met l yX_isBetterThan (Cond.code yX_isBetterThan bX_isBetterThan 4 (some .boolean) :: gtb) rm_X_isBetterThan (va_Pc [.ref (ad 32), .ref (ad 35)] (preW D vwCl (tysM cI cJ cG) (wsM ad cI cJ cG I J) sz)) (va_Qi (fun (r : Int32) (u : SI × SJ) => (r, u) = res) (atW D vwCl (tysM cI cJ cG) (va_A (wsM ad cI cJ cG I J) sz) (wsM ad cI cJ cG)) (va_A (wsM ad cI cJ cG I J) sz)) 0 0 (va_A (wsM ad cI cJ cG I J) sz) := by
  refine Met.ofW (cc := bX_isBetterThan) (maxL := 4) (ret := (some .boolean)) (by decide) rfl ?_
  intro p e s m args below meth c s₁ B hml hv
  obtain ⟨rfl, hsz, hP, hK, hD0, hN⟩ := hv
  subst hsz
  have X : Cx p s m [.ref (ad 32), .ref (ad 35)].toArray meth c bX_isBetterThan (some .boolean) 4 RX := ⟨B.exec, B.bytes, B.returns, hml, findClass_of_methodNamed B.named, fun w h => atoms_spec (ws := (Cond.code yX_isBetterThan bX_isBetterThan 4 (some .boolean) :: gtb)) B.pre w (List.mem_cons_of_mem _ h), B.notSynchronized⟩
  have hl := lv_entry ([.ref (ad 32), .ref (ad 35)]) (n := 4) (Nat.le_of_ble_eq_true rfl)
  rw [lg_entry_eq]
  generalize (lg_sl ([.ref (ad 32), .ref (ad 35)]) ++ List.replicate (4 - (lg_sl ([.ref (ad 32), .ref (ad 35)])).length) Slot.unset).toArray = ls at hl ⊢
  have hl : lv_has ls 4 [(0, .ref (ad 32)), (1, .ref (ad 35))] := hl
  have hA : ∀ q, s.heap.size ≤ q → va_A (wsM ad cI cJ cG I J) s.heap.size q := fun q h => Or.inr h
  exact w_X_isBetterThan_0 X hK hN hA (gw_X_isBetterThan X hK hN hA fuel)  I J hm _ _ _ hP hD0.self va_S.rf hl
def b_X_sum_0 (aa : Nat) (bb : Nat) (I : SI) (J : SJ) : Option (Int64 × SI × SJ) :=
  gd (aa ∈ [32, 35]) <|
  gd (bb ∈ [1, 7, 8, 9]) <|
  gd (vin 0 4) <|
  nm (I bb (Int32.toNatClampNeg 0)) fun v2 =>
  nm (Int32.toInt64 v2) fun v3 =>
  gd (vin 0 4) <|
  nm (J (aa + 1) (Int32.toNatClampNeg 0)) fun v5 =>
  nm (v3 * v5) fun v6 =>
  gd (vin 1 4) <|
  nm (I bb (Int32.toNatClampNeg 1)) fun v8 =>
  nm (Int32.toInt64 v8) fun v9 =>
  gd (vin 1 4) <|
  nm (J (aa + 1) (Int32.toNatClampNeg 1)) fun v11 =>
  nm (v9 * v11) fun v12 =>
  nm (v6 + v12) fun v13 =>
  gd (vin 2 4) <|
  nm (I bb (Int32.toNatClampNeg 2)) fun v15 =>
  nm (Int32.toInt64 v15) fun v16 =>
  gd (vin 2 4) <|
  nm (J (aa + 1) (Int32.toNatClampNeg 2)) fun v18 =>
  nm (v16 * v18) fun v19 =>
  nm (v13 + v19) fun v20 =>
  gd (vin 3 4) <|
  nm (I bb (Int32.toNatClampNeg 3)) fun v22 =>
  nm (Int32.toInt64 v22) fun v23 =>
  gd (vin 3 4) <|
  nm (J (aa + 1) (Int32.toNatClampNeg 3)) fun v25 =>
  nm (v23 * v25) fun v26 =>
  nm (v20 + v26) fun v27 =>
  some (v27, I, J)
def m_X_sum (aa : Nat) (bb : Nat) (I : SI) (J : SJ) : Option (Int64 × SI × SJ) := b_X_sum_0 aa bb I J
def rm_X_sum : Room := { frames := 0, cells := 0, slots := 0, locals := 0 }
set_option maxHeartbeats 4000000 in
set_option maxRecDepth 100000 in
theorem w_X_sum_0 {p : Program} {l : Launch} {e : Env} {s : State} {m : MethodId} {args : Array Value} {below : List Frame} {meth : Method} {c : Code} {D : va_G} {A : Nat → Prop} {ad : Nat → Nat} {cI cJ cG : ClassId} {res : Int64 × SI × SJ} (X : Cx p s m args meth c bX_sum (some .long) 2 RX) (hK : va_K D vwCl (tysM cI cJ cG) s) (hN : NWs s) (hA : ∀ q, s.heap.size ≤ q → A q)
     (aa : Nat) (bb : Nat) (I : SI) (J : SJ) (hm : b_X_sum_0  aa bb I J = some res) : WB p l e (headSpec (Cond.code yX_sum bX_sum 2 (some .long) :: gtb) rm_X_sum).room s m args below meth c (MQ below (va_Ql (fun (r : Int64) (u : SI × SJ) => (r, u) = res) (atW D vwCl (tysM cI cJ cG) A (wsM ad cI cJ cG)) A) args s 0 0 A) D vwCl A 2 (wsM ad cI cJ cG I J) 0 [(0, .ref (ad aa)), (1, .ref (ad bb))] [] := by
  obtain ⟨hx, hb, hr, hml, hown, hT, hlk⟩ := X
  intro H locs ls hP hD hS hl
  unfold b_X_sum_0 at hm
  obtain ⟨hf_aa, hm⟩ := gd_to hm
  obtain ⟨hf_bb, hm⟩ := gd_to hm
  refine lv_aload_n hx hb dX_sum_0 rfl (lv_at hl 1 rfl) ?_
  refine lv_iconst (v := 0) hx hb dX_sum_1 (by decide) ?_
  obtain ⟨g1, hm⟩ := gd_to hm
  refine va_iald hx hb hK hP bb 0 (famM_row hf_bb) rfl g1 dX_sum_2 ?_
  refine lv_topi (fun v2 ev2 => ?_)
  have hm := nm_to ev2 hm
  refine lv_i2l hx hb dX_sum_3 rfl ?_
  refine lv_topl (fun v3 ev3 => ?_)
  have hm := nm_to ev3 hm
  refine lv_aload_n hx hb dX_sum_4 rfl (lv_at hl 0 rfl) ?_
  refine va_get (D := D) (ci := 2) (v := .ref (ad (aa + 1))) (C := RX) (T := TX) (N := 3) hx hb hT inX hown hK hP aa (famM_mix hf_aa) rfl 0 (by decide) (hT _ wd_180) (fun _ h9 => h9) rfl dX_sum_5 ?_
  refine lv_iconst (v := 0) hx hb dX_sum_8 (by decide) ?_
  obtain ⟨g4, hm⟩ := gd_to hm
  refine va_lald hx hb hK hP (aa + 1) 1 (famM_mix_1 hf_aa) rfl g4 dX_sum_9 ?_
  refine lv_topl (fun v5 ev5 => ?_)
  have hm := nm_to ev5 hm
  refine lv_lmul hx hb dX_sum_10 ?_
  refine lv_topl (fun v6 ev6 => ?_)
  have hm := nm_to ev6 hm
  refine lv_aload_n hx hb dX_sum_11 rfl (lv_at hl 1 rfl) ?_
  refine lv_iconst (v := 1) hx hb dX_sum_12 (by decide) ?_
  obtain ⟨g7, hm⟩ := gd_to hm
  refine va_iald hx hb hK hP bb 0 (famM_row hf_bb) rfl g7 dX_sum_13 ?_
  refine lv_topi (fun v8 ev8 => ?_)
  have hm := nm_to ev8 hm
  refine lv_i2l hx hb dX_sum_14 rfl ?_
  refine lv_topl (fun v9 ev9 => ?_)
  have hm := nm_to ev9 hm
  refine lv_aload_n hx hb dX_sum_15 rfl (lv_at hl 0 rfl) ?_
  refine va_get (D := D) (ci := 2) (v := .ref (ad (aa + 1))) (C := RX) (T := TX) (N := 3) hx hb hT inX hown hK hP aa (famM_mix hf_aa) rfl 0 (by decide) (hT _ wd_180) (fun _ h9 => h9) rfl dX_sum_16 ?_
  refine lv_iconst (v := 1) hx hb dX_sum_19 (by decide) ?_
  obtain ⟨g10, hm⟩ := gd_to hm
  refine va_lald hx hb hK hP (aa + 1) 1 (famM_mix_1 hf_aa) rfl g10 dX_sum_20 ?_
  refine lv_topl (fun v11 ev11 => ?_)
  have hm := nm_to ev11 hm
  refine lv_lmul hx hb dX_sum_21 ?_
  refine lv_topl (fun v12 ev12 => ?_)
  have hm := nm_to ev12 hm
  refine lv_ladd hx hb dX_sum_22 ?_
  refine lv_topl (fun v13 ev13 => ?_)
  have hm := nm_to ev13 hm
  refine lv_aload_n hx hb dX_sum_23 rfl (lv_at hl 1 rfl) ?_
  refine lv_iconst (v := 2) hx hb dX_sum_24 (by decide) ?_
  obtain ⟨g14, hm⟩ := gd_to hm
  refine va_iald hx hb hK hP bb 0 (famM_row hf_bb) rfl g14 dX_sum_25 ?_
  refine lv_topi (fun v15 ev15 => ?_)
  have hm := nm_to ev15 hm
  refine lv_i2l hx hb dX_sum_26 rfl ?_
  refine lv_topl (fun v16 ev16 => ?_)
  have hm := nm_to ev16 hm
  refine lv_aload_n hx hb dX_sum_27 rfl (lv_at hl 0 rfl) ?_
  refine va_get (D := D) (ci := 2) (v := .ref (ad (aa + 1))) (C := RX) (T := TX) (N := 3) hx hb hT inX hown hK hP aa (famM_mix hf_aa) rfl 0 (by decide) (hT _ wd_180) (fun _ h9 => h9) rfl dX_sum_28 ?_
  refine lv_iconst (v := 2) hx hb dX_sum_31 (by decide) ?_
  obtain ⟨g17, hm⟩ := gd_to hm
  refine va_lald hx hb hK hP (aa + 1) 1 (famM_mix_1 hf_aa) rfl g17 dX_sum_32 ?_
  refine lv_topl (fun v18 ev18 => ?_)
  have hm := nm_to ev18 hm
  refine lv_lmul hx hb dX_sum_33 ?_
  refine lv_topl (fun v19 ev19 => ?_)
  have hm := nm_to ev19 hm
  refine lv_ladd hx hb dX_sum_34 ?_
  refine lv_topl (fun v20 ev20 => ?_)
  have hm := nm_to ev20 hm
  refine lv_aload_n hx hb dX_sum_35 rfl (lv_at hl 1 rfl) ?_
  refine lv_iconst (v := 3) hx hb dX_sum_36 (by decide) ?_
  obtain ⟨g21, hm⟩ := gd_to hm
  refine va_iald hx hb hK hP bb 0 (famM_row hf_bb) rfl g21 dX_sum_37 ?_
  refine lv_topi (fun v22 ev22 => ?_)
  have hm := nm_to ev22 hm
  refine lv_i2l hx hb dX_sum_38 rfl ?_
  refine lv_topl (fun v23 ev23 => ?_)
  have hm := nm_to ev23 hm
  refine lv_aload_n hx hb dX_sum_39 rfl (lv_at hl 0 rfl) ?_
  refine va_get (D := D) (ci := 2) (v := .ref (ad (aa + 1))) (C := RX) (T := TX) (N := 3) hx hb hT inX hown hK hP aa (famM_mix hf_aa) rfl 0 (by decide) (hT _ wd_180) (fun _ h9 => h9) rfl dX_sum_40 ?_
  refine lv_iconst (v := 3) hx hb dX_sum_43 (by decide) ?_
  obtain ⟨g24, hm⟩ := gd_to hm
  refine va_lald hx hb hK hP (aa + 1) 1 (famM_mix_1 hf_aa) rfl g24 dX_sum_44 ?_
  refine lv_topl (fun v25 ev25 => ?_)
  have hm := nm_to ev25 hm
  refine lv_lmul hx hb dX_sum_45 ?_
  refine lv_topl (fun v26 ev26 => ?_)
  have hm := nm_to ev26 hm
  refine lv_ladd hx hb dX_sum_46 ?_
  refine lv_topl (fun v27 ev27 => ?_)
  have hm := nm_to ev27 hm
  exact W.lret hx hb hr (fun t ht hW => ⟨⟨v27, (I, J), rfl, Option.some.inj hm, ht ▸ hP, va_K.moved hW.alike hK, hD⟩, hS.F ht⟩) hS.2.2 dX_sum_47 hlk
set_option maxHeartbeats 4000000 in
set_option maxRecDepth 100000 in
theorem c_X_sum (l : Launch) (D : va_G) (ad : Nat → Nat) (cI cJ cG : ClassId) (sz : Nat) (aa : Nat) (bb : Nat) (I : SI) (J : SJ) (res : Int64 × SI × SJ) (hm : m_X_sum aa bb I J = some res) : Met l yX_sum (Cond.code yX_sum bX_sum 2 (some .long) :: gtb) rm_X_sum (va_Pc [.ref (ad aa), .ref (ad bb)] (preW D vwCl (tysM cI cJ cG) (wsM ad cI cJ cG I J) sz)) (va_Ql (fun (r : Int64) (u : SI × SJ) => (r, u) = res) (atW D vwCl (tysM cI cJ cG) (va_A (wsM ad cI cJ cG I J) sz) (wsM ad cI cJ cG)) (va_A (wsM ad cI cJ cG I J) sz)) 0 0 (va_A (wsM ad cI cJ cG I J) sz) := by
  refine Met.ofW (cc := bX_sum) (maxL := 2) (ret := (some .long)) (by decide) rfl ?_
  intro p e s m args below meth c s₁ B hml hv
  obtain ⟨rfl, hsz, hP, hK, hD0, hN⟩ := hv
  subst hsz
  have X : Cx p s m [.ref (ad aa), .ref (ad bb)].toArray meth c bX_sum (some .long) 2 RX := ⟨B.exec, B.bytes, B.returns, hml, findClass_of_methodNamed B.named, fun w h => atoms_spec (ws := (Cond.code yX_sum bX_sum 2 (some .long) :: gtb)) B.pre w (List.mem_cons_of_mem _ h), B.notSynchronized⟩
  have hl := lv_entry ([.ref (ad aa), .ref (ad bb)]) (n := 2) (Nat.le_of_ble_eq_true rfl)
  rw [lg_entry_eq]
  generalize (lg_sl ([.ref (ad aa), .ref (ad bb)]) ++ List.replicate (2 - (lg_sl ([.ref (ad aa), .ref (ad bb)])).length) Slot.unset).toArray = ls at hl ⊢
  have hl : lv_has ls 2 [(0, .ref (ad aa)), (1, .ref (ad bb))] := hl
  have hA : ∀ q, s.heap.size ≤ q → va_A (wsM ad cI cJ cG I J) s.heap.size q := fun q h => Or.inr h
  exact w_X_sum_0 X hK hN hA  aa bb I J hm _ _ _ hP hD0.self va_S.rf hl
def b_L_sortByPoints_2 (k9 : Nat → Nat → Int32 → Int32 → SI → SJ → Option (SI × SJ)) (aa : Nat) (bb : Nat) (x2 : Int32) (I : SI) (J : SJ) : Option (SI × SJ) :=
  gd (aa ∈ [16, 17, 18]) <|
  gd (bb ∈ [1, 7, 8, 9]) <|
  if 4 ≤ x2 then
    some (I, J)
  else
    k9 aa bb x2 x2 I J
def b_L_sortByPoints_9 (k2 : Nat → Nat → Int32 → SI → SJ → Option (SI × SJ)) (k9 : Nat → Nat → Int32 → Int32 → SI → SJ → Option (SI × SJ)) (aa : Nat) (bb : Nat) (x2 : Int32) (x3 : Int32) (I : SI) (J : SJ) : Option (SI × SJ) :=
  gd (aa ∈ [16, 17, 18]) <|
  gd (bb ∈ [1, 7, 8, 9]) <|
  if x3 ≤ 0 then
    gd (vin x3 4) <|
    nm (va_up I aa (upd (I aa) x3.toNatClampNeg x2)) fun I3 =>
    nm (x2 + 1) fun v4 =>
    k2 aa bb v4 I3 J
  else
    nm (x3 - 1) fun v5 =>
    gd (vin v5 4) <|
    nm (I aa v5.toNatClampNeg) fun v7 =>
    gd (vin v7 4) <|
    nm (I bb v7.toNatClampNeg) fun v9 =>
    gd (vin x2 4) <|
    nm (I bb x2.toNatClampNeg) fun v11 =>
    if v9 ≤ v11 then
      gd (vin x3 4) <|
      nm (va_up I aa (upd (I aa) x3.toNatClampNeg x2)) fun I14 =>
      nm (x2 + 1) fun v15 =>
      k2 aa bb v15 I14 J
    else
      nm (x3 - 1) fun v16 =>
      gd (vin v16 4) <|
      nm (I aa v16.toNatClampNeg) fun v18 =>
      gd (vin x3 4) <|
      nm (va_up I aa (upd (I aa) x3.toNatClampNeg v18)) fun I20 =>
      nm (x3 + (-1)) fun v21 =>
      k9 aa bb x2 v21 I20 J
def b_L_sortByPoints_0 (k2 : Nat → Nat → Int32 → SI → SJ → Option (SI × SJ)) (aa : Nat) (bb : Nat) (I : SI) (J : SJ) : Option (SI × SJ) :=
  gd (aa ∈ [16, 17, 18]) <|
  gd (bb ∈ [1, 7, 8, 9]) <|
  k2 aa bb 0 I J
def g_L_sortByPoints : Nat → (Nat → Nat → Int32 → SI → SJ → Option (SI × SJ)) × (Nat → Nat → Int32 → Int32 → SI → SJ → Option (SI × SJ))
  | 0 => (fun _ _ _ _ _ => none, fun _ _ _ _ _ _ => none)
  | n + 1 => (fun aa bb x2 I J => b_L_sortByPoints_2 (g_L_sortByPoints n).2 aa bb x2 I J, fun aa bb x2 x3 I J => b_L_sortByPoints_9 (g_L_sortByPoints n).1 (g_L_sortByPoints n).2 aa bb x2 x3 I J)
def m_L_sortByPoints (aa : Nat) (bb : Nat) (I : SI) (J : SJ) : Option (SI × SJ) := b_L_sortByPoints_0 (g_L_sortByPoints fuel).1 aa bb I J
def rm_L_sortByPoints : Room := { frames := 0, cells := 0, slots := 0, locals := 0 }
set_option maxHeartbeats 4000000 in
set_option maxRecDepth 100000 in
theorem w_L_sortByPoints_2 {p : Program} {l : Launch} {e : Env} {s : State} {m : MethodId} {args : Array Value} {below : List Frame} {meth : Method} {c : Code} {D : va_G} {A : Nat → Prop} {ad : Nat → Nat} {cI cJ cG : ClassId} {res : SI × SJ} (X : Cx p s m args meth c bL_sortByPoints none 4 RL) (hK : va_K D vwCl (tysM cI cJ cG) s) (hN : NWs s) (hA : ∀ q, s.heap.size ≤ q → A q)
    {k9 : Nat → Nat → Int32 → Int32 → SI → SJ → Option (SI × SJ)} (hk9 : ∀ (aa : Nat) (bb : Nat) (x2 : Int32) (x3 : Int32) (I : SI) (J : SJ), k9 aa bb x2 x3 I J = some res → WB p l e (headSpec (Cond.code yL_sortByPoints bL_sortByPoints 4 none :: gtb) rm_L_sortByPoints).room s m args below meth c (MQ below (va_Qv (fun (u : SI × SJ) => u = res) (atW D vwCl (tysM cI cJ cG) A (wsM ad cI cJ cG)) A) args s 0 0 A) D vwCl A 4 (wsM ad cI cJ cG I J) 9 [(0, .ref (ad aa)), (1, .ref (ad bb)), (2, .int x2), (3, .int x3)] [])
     (aa : Nat) (bb : Nat) (x2 : Int32) (I : SI) (J : SJ) (hm : b_L_sortByPoints_2 k9 aa bb x2 I J = some res) : WB p l e (headSpec (Cond.code yL_sortByPoints bL_sortByPoints 4 none :: gtb) rm_L_sortByPoints).room s m args below meth c (MQ below (va_Qv (fun (u : SI × SJ) => u = res) (atW D vwCl (tysM cI cJ cG) A (wsM ad cI cJ cG)) A) args s 0 0 A) D vwCl A 4 (wsM ad cI cJ cG I J) 2 [(0, .ref (ad aa)), (1, .ref (ad bb)), (2, .int x2)] [] := by
  obtain ⟨hx, hb, hr, hml, hown, hT, hlk⟩ := X
  intro H locs ls hP hD hS hl
  unfold b_L_sortByPoints_2 at hm
  obtain ⟨hf_aa, hm⟩ := gd_to hm
  obtain ⟨hf_bb, hm⟩ := gd_to hm
  refine lv_iload_n hx hb dL_sortByPoints_2 rfl (lv_at hl 2 rfl) ?_
  refine lv_iconst (v := 4) hx hb dL_sortByPoints_3 (by decide) ?_
  refine lv_icmp_ge (tgt := 50) hx hb dL_sortByPoints_4 (by decide) (fun c1 => ?_) (fun c1 => ?_)
  · have hm := brp hm c1
    exact W.vret hx hb hr (fun t ht hW => ⟨⟨(I, J), rfl, Option.some.inj hm, ht ▸ hP, va_K.moved hW.alike hK, hD⟩, hS.F ht⟩) hS.2.2 dL_sortByPoints_50 hlk
  · have hm := brn hm c1
    refine lv_iload_n hx hb dL_sortByPoints_7 rfl (lv_at hl 2 rfl) ?_
    refine lv_istore_n (lv' := [(3, .int x2), (0, .ref (ad aa)), (1, .ref (ad bb)), (2, .int x2)]) hx hb dL_sortByPoints_8 rfl hl (by decide) rfl (fun ls hl => ?_)
    exact hk9 aa bb x2 x2 I J hm _ _ _ hP hD hS (lv_sub hl [1, 2, 3, 0] rfl)
set_option maxHeartbeats 4000000 in
set_option maxRecDepth 100000 in
theorem w_L_sortByPoints_9 {p : Program} {l : Launch} {e : Env} {s : State} {m : MethodId} {args : Array Value} {below : List Frame} {meth : Method} {c : Code} {D : va_G} {A : Nat → Prop} {ad : Nat → Nat} {cI cJ cG : ClassId} {res : SI × SJ} (X : Cx p s m args meth c bL_sortByPoints none 4 RL) (hK : va_K D vwCl (tysM cI cJ cG) s) (hN : NWs s) (hA : ∀ q, s.heap.size ≤ q → A q)
    {k2 : Nat → Nat → Int32 → SI → SJ → Option (SI × SJ)} (hk2 : ∀ (aa : Nat) (bb : Nat) (x2 : Int32) (I : SI) (J : SJ), k2 aa bb x2 I J = some res → WB p l e (headSpec (Cond.code yL_sortByPoints bL_sortByPoints 4 none :: gtb) rm_L_sortByPoints).room s m args below meth c (MQ below (va_Qv (fun (u : SI × SJ) => u = res) (atW D vwCl (tysM cI cJ cG) A (wsM ad cI cJ cG)) A) args s 0 0 A) D vwCl A 4 (wsM ad cI cJ cG I J) 2 [(0, .ref (ad aa)), (1, .ref (ad bb)), (2, .int x2)] [])
    {k9 : Nat → Nat → Int32 → Int32 → SI → SJ → Option (SI × SJ)} (hk9 : ∀ (aa : Nat) (bb : Nat) (x2 : Int32) (x3 : Int32) (I : SI) (J : SJ), k9 aa bb x2 x3 I J = some res → WB p l e (headSpec (Cond.code yL_sortByPoints bL_sortByPoints 4 none :: gtb) rm_L_sortByPoints).room s m args below meth c (MQ below (va_Qv (fun (u : SI × SJ) => u = res) (atW D vwCl (tysM cI cJ cG) A (wsM ad cI cJ cG)) A) args s 0 0 A) D vwCl A 4 (wsM ad cI cJ cG I J) 9 [(0, .ref (ad aa)), (1, .ref (ad bb)), (2, .int x2), (3, .int x3)] [])
     (aa : Nat) (bb : Nat) (x2 : Int32) (x3 : Int32) (I : SI) (J : SJ) (hm : b_L_sortByPoints_9 k2 k9 aa bb x2 x3 I J = some res) : WB p l e (headSpec (Cond.code yL_sortByPoints bL_sortByPoints 4 none :: gtb) rm_L_sortByPoints).room s m args below meth c (MQ below (va_Qv (fun (u : SI × SJ) => u = res) (atW D vwCl (tysM cI cJ cG) A (wsM ad cI cJ cG)) A) args s 0 0 A) D vwCl A 4 (wsM ad cI cJ cG I J) 9 [(0, .ref (ad aa)), (1, .ref (ad bb)), (2, .int x2), (3, .int x3)] [] := by
  obtain ⟨hx, hb, hr, hml, hown, hT, hlk⟩ := X
  intro H locs ls hP hD hS hl
  unfold b_L_sortByPoints_9 at hm
  obtain ⟨hf_aa, hm⟩ := gd_to hm
  obtain ⟨hf_bb, hm⟩ := gd_to hm
  refine lv_iload_n hx hb dL_sortByPoints_9 rfl (lv_at hl 3 rfl) ?_
  refine lv_if_le (tgt := 40) hx hb dL_sortByPoints_10 (by decide) (fun c1 => ?_) (fun c1 => ?_)
  · have hm := brp hm c1
    refine lv_aload_n hx hb dL_sortByPoints_40 rfl (lv_at hl 0 rfl) ?_
    refine lv_iload_n hx hb dL_sortByPoints_41 rfl (lv_at hl 3 rfl) ?_
    refine lv_iload_n hx hb dL_sortByPoints_42 rfl (lv_at hl 2 rfl) ?_
    obtain ⟨g2, hm⟩ := gd_to hm
    refine va_iast hx hb hK hP hD hS aa 0 (famM_lean hf_aa) rfl g2 dL_sortByPoints_43 (fun H locs hP hD hS => ?_)
    obtain ⟨I3, eI3⟩ : ∃ z : SI, z = va_up I aa (upd (I aa) x3.toNatClampNeg x2) := ⟨_, rfl⟩
    have hm := nm_to eI3 hm
    have hP := P_eq (ws2 := wsM ad cI cJ cG I3 J) hP (by rw [eI3]; exact (fsetM_lean hf_aa))
    have hD := D_eq (ws2 := wsM ad cI cJ cG I3 J) hD (by rw [eI3]; exact (fsetM_lean hf_aa))
    obtain ⟨v4, ev4⟩ : ∃ z : Int32, z = x2 + 1 := ⟨_, rfl⟩
    have hm := nm_to ev4 hm
    refine lv_iinc (v := v4) (lv' := [(2, .int v4), (0, .ref (ad aa)), (1, .ref (ad bb)), (3, .int x3)]) hx hb dL_sortByPoints_44 hl (k := 2) rfl (by rw [ev4]; rfl) (by decide) rfl (fun ls hl => ?_)
    refine lv_goto (tgt := 2) hx hb dL_sortByPoints_47 (by decide) ?_
    exact hk2 aa bb v4 I3 J hm _ _ _ hP hD hS (lv_sub hl [1, 2, 0] rfl)
  · have hm := brn hm c1
    refine lv_aload_n hx hb dL_sortByPoints_13 rfl (lv_at hl 1 rfl) ?_
    refine lv_aload_n hx hb dL_sortByPoints_14 rfl (lv_at hl 0 rfl) ?_
    refine lv_iload_n hx hb dL_sortByPoints_15 rfl (lv_at hl 3 rfl) ?_
    refine lv_iconst (v := 1) hx hb dL_sortByPoints_16 (by decide) ?_
    refine lv_isub hx hb dL_sortByPoints_17 ?_
    refine lv_topi (fun v5 ev5 => ?_)
    have hm := nm_to ev5 hm
    obtain ⟨g6, hm⟩ := gd_to hm
    refine va_iald hx hb hK hP aa 0 (famM_lean hf_aa) rfl g6 dL_sortByPoints_18 ?_
    refine lv_topi (fun v7 ev7 => ?_)
    have hm := nm_to ev7 hm
    obtain ⟨g8, hm⟩ := gd_to hm
    refine va_iald hx hb hK hP bb 0 (famM_row hf_bb) rfl g8 dL_sortByPoints_19 ?_
    refine lv_topi (fun v9 ev9 => ?_)
    have hm := nm_to ev9 hm
    refine lv_aload_n hx hb dL_sortByPoints_20 rfl (lv_at hl 1 rfl) ?_
    refine lv_iload_n hx hb dL_sortByPoints_21 rfl (lv_at hl 2 rfl) ?_
    obtain ⟨g10, hm⟩ := gd_to hm
    refine va_iald hx hb hK hP bb 0 (famM_row hf_bb) rfl g10 dL_sortByPoints_22 ?_
    refine lv_topi (fun v11 ev11 => ?_)
    have hm := nm_to ev11 hm
    refine lv_icmp_le (tgt := 40) hx hb dL_sortByPoints_23 (by decide) (fun c12 => ?_) (fun c12 => ?_)
    · have hm := brp hm c12
      refine lv_aload_n hx hb dL_sortByPoints_40 rfl (lv_at hl 0 rfl) ?_
      refine lv_iload_n hx hb dL_sortByPoints_41 rfl (lv_at hl 3 rfl) ?_
      refine lv_iload_n hx hb dL_sortByPoints_42 rfl (lv_at hl 2 rfl) ?_
      obtain ⟨g13, hm⟩ := gd_to hm
      refine va_iast hx hb hK hP hD hS aa 0 (famM_lean hf_aa) rfl g13 dL_sortByPoints_43 (fun H locs hP hD hS => ?_)
      obtain ⟨I14, eI14⟩ : ∃ z : SI, z = va_up I aa (upd (I aa) x3.toNatClampNeg x2) := ⟨_, rfl⟩
      have hm := nm_to eI14 hm
      have hP := P_eq (ws2 := wsM ad cI cJ cG I14 J) hP (by rw [eI14]; exact (fsetM_lean hf_aa))
      have hD := D_eq (ws2 := wsM ad cI cJ cG I14 J) hD (by rw [eI14]; exact (fsetM_lean hf_aa))
      obtain ⟨v15, ev15⟩ : ∃ z : Int32, z = x2 + 1 := ⟨_, rfl⟩
      have hm := nm_to ev15 hm
      refine lv_iinc (v := v15) (lv' := [(2, .int v15), (0, .ref (ad aa)), (1, .ref (ad bb)), (3, .int x3)]) hx hb dL_sortByPoints_44 hl (k := 2) rfl (by rw [ev15]; rfl) (by decide) rfl (fun ls hl => ?_)
      refine lv_goto (tgt := 2) hx hb dL_sortByPoints_47 (by decide) ?_
      exact hk2 aa bb v15 I14 J hm _ _ _ hP hD hS (lv_sub hl [1, 2, 0] rfl)
    · have hm := brn hm c12
      refine lv_aload_n hx hb dL_sortByPoints_26 rfl (lv_at hl 0 rfl) ?_
      refine lv_iload_n hx hb dL_sortByPoints_27 rfl (lv_at hl 3 rfl) ?_
      refine lv_aload_n hx hb dL_sortByPoints_28 rfl (lv_at hl 0 rfl) ?_
      refine lv_iload_n hx hb dL_sortByPoints_29 rfl (lv_at hl 3 rfl) ?_
      refine lv_iconst (v := 1) hx hb dL_sortByPoints_30 (by decide) ?_
      refine lv_isub hx hb dL_sortByPoints_31 ?_
      refine lv_topi (fun v16 ev16 => ?_)
      have hm := nm_to ev16 hm
      obtain ⟨g17, hm⟩ := gd_to hm
      refine va_iald hx hb hK hP aa 0 (famM_lean hf_aa) rfl g17 dL_sortByPoints_32 ?_
      refine lv_topi (fun v18 ev18 => ?_)
      have hm := nm_to ev18 hm
      obtain ⟨g19, hm⟩ := gd_to hm
      refine va_iast hx hb hK hP hD hS aa 0 (famM_lean hf_aa) rfl g19 dL_sortByPoints_33 (fun H locs hP hD hS => ?_)
      obtain ⟨I20, eI20⟩ : ∃ z : SI, z = va_up I aa (upd (I aa) x3.toNatClampNeg v18) := ⟨_, rfl⟩
      have hm := nm_to eI20 hm
      have hP := P_eq (ws2 := wsM ad cI cJ cG I20 J) hP (by rw [eI20]; exact (fsetM_lean hf_aa))
      have hD := D_eq (ws2 := wsM ad cI cJ cG I20 J) hD (by rw [eI20]; exact (fsetM_lean hf_aa))
      obtain ⟨v21, ev21⟩ : ∃ z : Int32, z = x3 + (-1) := ⟨_, rfl⟩
      have hm := nm_to ev21 hm
      refine lv_iinc (v := v21) (lv' := [(3, .int v21), (0, .ref (ad aa)), (1, .ref (ad bb)), (2, .int x2)]) hx hb dL_sortByPoints_34 hl (k := 3) rfl (by rw [ev21]; rfl) (by decide) rfl (fun ls hl => ?_)
      refine lv_goto (tgt := 9) hx hb dL_sortByPoints_37 (by decide) ?_
      exact hk9 aa bb x2 v21 I20 J hm _ _ _ hP hD hS (lv_sub hl [1, 2, 3, 0] rfl)
set_option maxHeartbeats 4000000 in
set_option maxRecDepth 100000 in
theorem w_L_sortByPoints_0 {p : Program} {l : Launch} {e : Env} {s : State} {m : MethodId} {args : Array Value} {below : List Frame} {meth : Method} {c : Code} {D : va_G} {A : Nat → Prop} {ad : Nat → Nat} {cI cJ cG : ClassId} {res : SI × SJ} (X : Cx p s m args meth c bL_sortByPoints none 4 RL) (hK : va_K D vwCl (tysM cI cJ cG) s) (hN : NWs s) (hA : ∀ q, s.heap.size ≤ q → A q)
    {k2 : Nat → Nat → Int32 → SI → SJ → Option (SI × SJ)} (hk2 : ∀ (aa : Nat) (bb : Nat) (x2 : Int32) (I : SI) (J : SJ), k2 aa bb x2 I J = some res → WB p l e (headSpec (Cond.code yL_sortByPoints bL_sortByPoints 4 none :: gtb) rm_L_sortByPoints).room s m args below meth c (MQ below (va_Qv (fun (u : SI × SJ) => u = res) (atW D vwCl (tysM cI cJ cG) A (wsM ad cI cJ cG)) A) args s 0 0 A) D vwCl A 4 (wsM ad cI cJ cG I J) 2 [(0, .ref (ad aa)), (1, .ref (ad bb)), (2, .int x2)] [])
     (aa : Nat) (bb : Nat) (I : SI) (J : SJ) (hm : b_L_sortByPoints_0 k2 aa bb I J = some res) : WB p l e (headSpec (Cond.code yL_sortByPoints bL_sortByPoints 4 none :: gtb) rm_L_sortByPoints).room s m args below meth c (MQ below (va_Qv (fun (u : SI × SJ) => u = res) (atW D vwCl (tysM cI cJ cG) A (wsM ad cI cJ cG)) A) args s 0 0 A) D vwCl A 4 (wsM ad cI cJ cG I J) 0 [(0, .ref (ad aa)), (1, .ref (ad bb))] [] := by
  obtain ⟨hx, hb, hr, hml, hown, hT, hlk⟩ := X
  intro H locs ls hP hD hS hl
  unfold b_L_sortByPoints_0 at hm
  obtain ⟨hf_aa, hm⟩ := gd_to hm
  obtain ⟨hf_bb, hm⟩ := gd_to hm
  refine lv_iconst (v := 0) hx hb dL_sortByPoints_0 (by decide) ?_
  refine lv_istore_n (lv' := [(2, .int 0), (0, .ref (ad aa)), (1, .ref (ad bb))]) hx hb dL_sortByPoints_1 rfl hl (by decide) rfl (fun ls hl => ?_)
  exact hk2 aa bb 0 I J hm _ _ _ hP hD hS (lv_sub hl [1, 2, 0] rfl)
set_option maxHeartbeats 4000000 in
theorem gw_L_sortByPoints {p : Program} {l : Launch} {e : Env} {s : State} {m : MethodId} {args : Array Value} {below : List Frame} {meth : Method} {c : Code} {D : va_G} {A : Nat → Prop} {ad : Nat → Nat} {cI cJ cG : ClassId} {res : SI × SJ} (X : Cx p s m args meth c bL_sortByPoints none 4 RL) (hK : va_K D vwCl (tysM cI cJ cG) s) (hN : NWs s) (hA : ∀ q, s.heap.size ≤ q → A q) : ∀ n : Nat, (∀ (aa : Nat) (bb : Nat) (x2 : Int32) (I : SI) (J : SJ), (g_L_sortByPoints n).1 aa bb x2 I J = some res → WB p l e (headSpec (Cond.code yL_sortByPoints bL_sortByPoints 4 none :: gtb) rm_L_sortByPoints).room s m args below meth c (MQ below (va_Qv (fun (u : SI × SJ) => u = res) (atW D vwCl (tysM cI cJ cG) A (wsM ad cI cJ cG)) A) args s 0 0 A) D vwCl A 4 (wsM ad cI cJ cG I J) 2 [(0, .ref (ad aa)), (1, .ref (ad bb)), (2, .int x2)] []) ∧ (∀ (aa : Nat) (bb : Nat) (x2 : Int32) (x3 : Int32) (I : SI) (J : SJ), (g_L_sortByPoints n).2 aa bb x2 x3 I J = some res → WB p l e (headSpec (Cond.code yL_sortByPoints bL_sortByPoints 4 none :: gtb) rm_L_sortByPoints).room s m args below meth c (MQ below (va_Qv (fun (u : SI × SJ) => u = res) (atW D vwCl (tysM cI cJ cG) A (wsM ad cI cJ cG)) A) args s 0 0 A) D vwCl A 4 (wsM ad cI cJ cG I J) 9 [(0, .ref (ad aa)), (1, .ref (ad bb)), (2, .int x2), (3, .int x3)] []) := by
  intro n
  induction n with
  | zero => exact ⟨fun _ _ _ _ _ h => (by cases h), fun _ _ _ _ _ _ h => (by cases h)⟩
  | succ n ih =>
    obtain ⟨ih2, ih9⟩ := ih
    exact ⟨fun aa bb x2 I J h => w_L_sortByPoints_2 X hK hN hA ih9 aa bb x2 I J h, fun aa bb x2 x3 I J h => w_L_sortByPoints_9 X hK hN hA ih2 ih9 aa bb x2 x3 I J h⟩
set_option maxHeartbeats 4000000 in
set_option maxRecDepth 100000 in
theorem c_L_sortByPoints (l : Launch) (D : va_G) (ad : Nat → Nat) (cI cJ cG : ClassId) (sz : Nat) (aa : Nat) (bb : Nat) (I : SI) (J : SJ) (res : SI × SJ) (hm : m_L_sortByPoints aa bb I J = some res) : Met l yL_sortByPoints (Cond.code yL_sortByPoints bL_sortByPoints 4 none :: gtb) rm_L_sortByPoints (va_Pc [.ref (ad aa), .ref (ad bb)] (preW D vwCl (tysM cI cJ cG) (wsM ad cI cJ cG I J) sz)) (va_Qv (fun (u : SI × SJ) => u = res) (atW D vwCl (tysM cI cJ cG) (va_A (wsM ad cI cJ cG I J) sz) (wsM ad cI cJ cG)) (va_A (wsM ad cI cJ cG I J) sz)) 0 0 (va_A (wsM ad cI cJ cG I J) sz) := by
  refine Met.ofW (cc := bL_sortByPoints) (maxL := 4) (ret := none) (by decide) rfl ?_
  intro p e s m args below meth c s₁ B hml hv
  obtain ⟨rfl, hsz, hP, hK, hD0, hN⟩ := hv
  subst hsz
  have X : Cx p s m [.ref (ad aa), .ref (ad bb)].toArray meth c bL_sortByPoints none 4 RL := ⟨B.exec, B.bytes, B.returns, hml, findClass_of_methodNamed B.named, fun w h => atoms_spec (ws := (Cond.code yL_sortByPoints bL_sortByPoints 4 none :: gtb)) B.pre w (List.mem_cons_of_mem _ h), B.notSynchronized⟩
  have hl := lv_entry ([.ref (ad aa), .ref (ad bb)]) (n := 4) (Nat.le_of_ble_eq_true rfl)
  rw [lg_entry_eq]
  generalize (lg_sl ([.ref (ad aa), .ref (ad bb)]) ++ List.replicate (4 - (lg_sl ([.ref (ad aa), .ref (ad bb)])).length) Slot.unset).toArray = ls at hl ⊢
  have hl : lv_has ls 4 [(0, .ref (ad aa)), (1, .ref (ad bb))] := hl
  have hA : ∀ q, s.heap.size ≤ q → va_A (wsM ad cI cJ cG I J) s.heap.size q := fun q h => Or.inr h
  exact w_L_sortByPoints_0 X hK hN hA (gw_L_sortByPoints X hK hN hA fuel).1 aa bb I J hm _ _ _ hP hD0.self va_S.rf hl
def b_L_widen_0 (x1 : Int32) (I : SI) (J : SJ) : Option (SI × SJ) :=
  gd (vin x1 7) <|
  nm (va_up I 13 (upd (I 13) x1.toNatClampNeg 0)) fun I2 =>
  if x1 < 4 then
    if (I2 0 0) ≤ x1 then
      gd (vin x1 7) <|
      nm (va_up I2 14 (upd (I2 14) x1.toNatClampNeg 0)) fun I6 =>
      some (I6, J)
    else
      gd (vin x1 7) <|
      nm (va_up I2 14 (upd (I2 14) x1.toNatClampNeg (I2 12 2))) fun I8 =>
      some (I8, J)
  else
    nm (40 * (I2 12 2)) fun v9 =>
    gd (vin x1 7) <|
    nm (va_up I2 14 (upd (I2 14) x1.toNatClampNeg v9)) fun I11 =>
    some (I11, J)
def m_L_widen (x1 : Int32) (I : SI) (J : SJ) : Option (SI × SJ) := b_L_widen_0 x1 I J
def rm_L_widen : Room := { frames := 0, cells := 0, slots := 0, locals := 0 }
set_option maxHeartbeats 4000000 in
set_option maxRecDepth 100000 in
theorem w_L_widen_0 {p : Program} {l : Launch} {e : Env} {s : State} {m : MethodId} {args : Array Value} {below : List Frame} {meth : Method} {c : Code} {D : va_G} {A : Nat → Prop} {ad : Nat → Nat} {cI cJ cG : ClassId} {res : SI × SJ} (X : Cx p s m args meth c bL_widen none 2 RL) (hK : va_K D vwCl (tysM cI cJ cG) s) (hN : NWs s) (hA : ∀ q, s.heap.size ≤ q → A q)
     (x1 : Int32) (I : SI) (J : SJ) (hm : b_L_widen_0  x1 I J = some res) : WB p l e (headSpec (Cond.code yL_widen bL_widen 2 none :: gtb) rm_L_widen).room s m args below meth c (MQ below (va_Qv (fun (u : SI × SJ) => u = res) (atW D vwCl (tysM cI cJ cG) A (wsM ad cI cJ cG)) A) args s 0 0 A) D vwCl A 2 (wsM ad cI cJ cG I J) 0 [(0, .ref (ad 12)), (1, .int x1)] [] := by
  obtain ⟨hx, hb, hr, hml, hown, hT, hlk⟩ := X
  intro H locs ls hP hD hS hl
  unfold b_L_widen_0 at hm
  refine lv_aload_n hx hb dL_widen_0 rfl (lv_at hl 0 rfl) ?_
  refine va_get (D := D) (ci := 1) (v := .ref (ad 13)) (C := RL) (T := TL) (N := 7) hx hb hT inL hown hK hP 12 rfl rfl 4 (by decide) (hT _ wd_145) (fun _ h9 => h9) rfl dL_widen_1 ?_
  refine lv_iload_n hx hb dL_widen_4 rfl (lv_at hl 1 rfl) ?_
  refine lv_iconst (v := 0) hx hb dL_widen_5 (by decide) ?_
  obtain ⟨g1, hm⟩ := gd_to hm
  refine va_iast hx hb hK hP hD hS 13 0 rfl rfl g1 dL_widen_6 (fun H locs hP hD hS => ?_)
  obtain ⟨I2, eI2⟩ : ∃ z : SI, z = va_up I 13 (upd (I 13) x1.toNatClampNeg 0) := ⟨_, rfl⟩
  have hm := nm_to eI2 hm
  have hP := P_eq (ws2 := wsM ad cI cJ cG I2 J) hP (by rw [eI2]; rfl)
  have hD := D_eq (ws2 := wsM ad cI cJ cG I2 J) hD (by rw [eI2]; rfl)
  refine lv_iload_n hx hb dL_widen_7 rfl (lv_at hl 1 rfl) ?_
  refine lv_iconst (v := 4) hx hb dL_widen_8 (by decide) ?_
  refine lv_icmp_lt (tgt := 28) hx hb dL_widen_9 (by decide) (fun c3 => ?_) (fun c3 => ?_)
  · have hm := brp hm c3
    refine lv_aload_n hx hb dL_widen_28 rfl (lv_at hl 0 rfl) ?_
    refine va_get (D := D) (ci := 1) (v := .ref (ad 14)) (C := RL) (T := TL) (N := 7) hx hb hT inL hown hK hP 12 rfl rfl 5 (by decide) (hT _ wd_148) (fun _ h9 => h9) rfl dL_widen_29 ?_
    refine lv_iload_n hx hb dL_widen_32 rfl (lv_at hl 1 rfl) ?_
    refine lv_iload_n hx hb dL_widen_33 rfl (lv_at hl 1 rfl) ?_
    refine lv_aload_n hx hb dL_widen_34 rfl (lv_at hl 0 rfl) ?_
    refine va_get (D := D) (ci := 1) (v := .ref (ad 0)) (C := RL) (T := TL) (N := 7) hx hb hT inL hown hK hP 12 rfl rfl 0 (by decide) (hT _ wd_138) (fun _ h9 => h9) rfl dL_widen_35 ?_
    refine va_getN (D := D) (ci := 4) (v := .int (I2 0 0)) (C := RT) (T := TT) (N := 9) hx hb hT inT hown hK hP 0 rfl rfl 0 (by decide) (va_Nw.use rfl (hN _ nw_79)) (fun _ h9 => h9) rfl dL_widen_38 ?_
    refine lv_icmp_ge (tgt := 51) hx hb dL_widen_41 (by decide) (fun c4 => ?_) (fun c4 => ?_)
    · have hm := brp hm c4
      refine lv_iconst (v := 0) hx hb dL_widen_51 (by decide) ?_
      obtain ⟨g5, hm⟩ := gd_to hm
      refine va_iast hx hb hK hP hD hS 14 0 rfl rfl g5 dL_widen_52 (fun H locs hP hD hS => ?_)
      obtain ⟨I6, eI6⟩ : ∃ z : SI, z = va_up I2 14 (upd (I2 14) x1.toNatClampNeg 0) := ⟨_, rfl⟩
      have hm := nm_to eI6 hm
      have hP := P_eq (ws2 := wsM ad cI cJ cG I6 J) hP (by rw [eI6]; rfl)
      have hD := D_eq (ws2 := wsM ad cI cJ cG I6 J) hD (by rw [eI6]; rfl)
      exact W.vret hx hb hr (fun t ht hW => ⟨⟨(I6, J), rfl, Option.some.inj hm, ht ▸ hP, va_K.moved hW.alike hK, hD⟩, hS.F ht⟩) hS.2.2 dL_widen_53 hlk
    · have hm := brn hm c4
      refine lv_aload_n hx hb dL_widen_44 rfl (lv_at hl 0 rfl) ?_
      refine va_get (D := D) (ci := 1) (v := .int (I2 12 2)) (C := RL) (T := TL) (N := 7) hx hb hT inL hown hK hP 12 rfl rfl 2 (by decide) (hT _ wd_140) (fun _ h9 => h9) rfl dL_widen_45 ?_
      refine lv_goto (tgt := 52) hx hb dL_widen_48 (by decide) ?_
      obtain ⟨g7, hm⟩ := gd_to hm
      refine va_iast hx hb hK hP hD hS 14 0 rfl rfl g7 dL_widen_52 (fun H locs hP hD hS => ?_)
      obtain ⟨I8, eI8⟩ : ∃ z : SI, z = va_up I2 14 (upd (I2 14) x1.toNatClampNeg (I2 12 2)) := ⟨_, rfl⟩
      have hm := nm_to eI8 hm
      have hP := P_eq (ws2 := wsM ad cI cJ cG I8 J) hP (by rw [eI8]; rfl)
      have hD := D_eq (ws2 := wsM ad cI cJ cG I8 J) hD (by rw [eI8]; rfl)
      exact W.vret hx hb hr (fun t ht hW => ⟨⟨(I8, J), rfl, Option.some.inj hm, ht ▸ hP, va_K.moved hW.alike hK, hD⟩, hS.F ht⟩) hS.2.2 dL_widen_53 hlk
  · have hm := brn hm c3
    refine lv_aload_n hx hb dL_widen_12 rfl (lv_at hl 0 rfl) ?_
    refine va_get (D := D) (ci := 1) (v := .ref (ad 14)) (C := RL) (T := TL) (N := 7) hx hb hT inL hown hK hP 12 rfl rfl 5 (by decide) (hT _ wd_148) (fun _ h9 => h9) rfl dL_widen_13 ?_
    refine lv_iload_n hx hb dL_widen_16 rfl (lv_at hl 1 rfl) ?_
    refine lv_bipush (v := 40) hx hb dL_widen_17 (by decide) ?_
    refine lv_aload_n hx hb dL_widen_19 rfl (lv_at hl 0 rfl) ?_
    refine va_get (D := D) (ci := 1) (v := .int (I2 12 2)) (C := RL) (T := TL) (N := 7) hx hb hT inL hown hK hP 12 rfl rfl 2 (by decide) (hT _ wd_140) (fun _ h9 => h9) rfl dL_widen_20 ?_
    refine lv_imul hx hb dL_widen_23 ?_
    refine lv_topi (fun v9 ev9 => ?_)
    have hm := nm_to ev9 hm
    obtain ⟨g10, hm⟩ := gd_to hm
    refine va_iast hx hb hK hP hD hS 14 0 rfl rfl g10 dL_widen_24 (fun H locs hP hD hS => ?_)
    obtain ⟨I11, eI11⟩ : ∃ z : SI, z = va_up I2 14 (upd (I2 14) x1.toNatClampNeg v9) := ⟨_, rfl⟩
    have hm := nm_to eI11 hm
    have hP := P_eq (ws2 := wsM ad cI cJ cG I11 J) hP (by rw [eI11]; rfl)
    have hD := D_eq (ws2 := wsM ad cI cJ cG I11 J) hD (by rw [eI11]; rfl)
    refine lv_goto (tgt := 53) hx hb dL_widen_25 (by decide) ?_
    exact W.vret hx hb hr (fun t ht hW => ⟨⟨(I11, J), rfl, Option.some.inj hm, ht ▸ hP, va_K.moved hW.alike hK, hD⟩, hS.F ht⟩) hS.2.2 dL_widen_53 hlk
set_option maxHeartbeats 4000000 in
set_option maxRecDepth 100000 in
theorem c_L_widen (l : Launch) (D : va_G) (ad : Nat → Nat) (cI cJ cG : ClassId) (sz : Nat) (x1 : Int32) (I : SI) (J : SJ) (res : SI × SJ) (hm : m_L_widen x1 I J = some res) : Met l yL_widen (Cond.code yL_widen bL_widen 2 none :: gtb) rm_L_widen (va_Pc [.ref (ad 12), .int x1] (preW D vwCl (tysM cI cJ cG) (wsM ad cI cJ cG I J) sz)) (va_Qv (fun (u : SI × SJ) => u = res) (atW D vwCl (tysM cI cJ cG) (va_A (wsM ad cI cJ cG I J) sz) (wsM ad cI cJ cG)) (va_A (wsM ad cI cJ cG I J) sz)) 0 0 (va_A (wsM ad cI cJ cG I J) sz) := by
  refine Met.ofW (cc := bL_widen) (maxL := 2) (ret := none) (by decide) rfl ?_
  intro p e s m args below meth c s₁ B hml hv
  obtain ⟨rfl, hsz, hP, hK, hD0, hN⟩ := hv
  subst hsz
  have X : Cx p s m [.ref (ad 12), .int x1].toArray meth c bL_widen none 2 RL := ⟨B.exec, B.bytes, B.returns, hml, findClass_of_methodNamed B.named, fun w h => atoms_spec (ws := (Cond.code yL_widen bL_widen 2 none :: gtb)) B.pre w (List.mem_cons_of_mem _ h), B.notSynchronized⟩
  have hl := lv_entry ([.ref (ad 12), .int x1]) (n := 2) (Nat.le_of_ble_eq_true rfl)
  rw [lg_entry_eq]
  generalize (lg_sl ([.ref (ad 12), .int x1]) ++ List.replicate (2 - (lg_sl ([.ref (ad 12), .int x1])).length) Slot.unset).toArray = ls at hl ⊢
  have hl : lv_has ls 2 [(0, .ref (ad 12)), (1, .int x1)] := hl
  have hA : ∀ q, s.heap.size ≤ q → va_A (wsM ad cI cJ cG I J) s.heap.size q := fun q h => Or.inr h
  exact w_L_widen_0 X hK hN hA  x1 I J hm _ _ _ hP hD0.self va_S.rf hl
def b_L_isThere_0 (x1 : Int32) (I : SI) (J : SJ) : Option (Int32 × SI × SJ) :=
  cl1 (m_F_rowOf x1) fun r1 =>
  if 4 ≤ r1 then
    some (1, I, J)
  else
    if (I 0 0) ≤ r1 then
      some (0, I, J)
    else
      some (1, I, J)
def m_L_isThere (x1 : Int32) (I : SI) (J : SJ) : Option (Int32 × SI × SJ) := b_L_isThere_0 x1 I J
def rm_L_isThere : Room := { frames := 1, cells := 0, slots := 0, locals := 20 }
set_option maxHeartbeats 4000000 in
set_option maxRecDepth 100000 in
theorem w_L_isThere_0 {p : Program} {l : Launch} {e : Env} {s : State} {m : MethodId} {args : Array Value} {below : List Frame} {meth : Method} {c : Code} {D : va_G} {A : Nat → Prop} {ad : Nat → Nat} {cI cJ cG : ClassId} {res : Int32 × SI × SJ} (X : Cx p s m args meth c bL_isThere (some .boolean) 3 RL) (hK : va_K D vwCl (tysM cI cJ cG) s) (hN : NWs s) (hA : ∀ q, s.heap.size ≤ q → A q)
     (x1 : Int32) (I : SI) (J : SJ) (hm : b_L_isThere_0  x1 I J = some res) : WB p l e (headSpec (Cond.code yL_isThere bL_isThere 3 (some .boolean) :: gtb) rm_L_isThere).room s m args below meth c (MQ below (va_Qi (fun (r : Int32) (u : SI × SJ) => (r, u) = res) (atW D vwCl (tysM cI cJ cG) A (wsM ad cI cJ cG)) A) args s 0 0 A) D vwCl A 3 (wsM ad cI cJ cG I J) 0 [(0, .ref (ad 12)), (1, .int x1)] [] := by
  obtain ⟨hx, hb, hr, hml, hown, hT, hlk⟩ := X
  intro H locs ls hP hD hS hl
  unfold b_L_isThere_0 at hm
  refine lv_iload_n hx hb dL_isThere_0 rfl (lv_at hl 1 rfl) ?_
  obtain ⟨r1, hc2, hm⟩ := cl1_to hm
  refine pstZ_i hS (va_runSN (As := [.int x1]) (rest := []) ⟨hx, hb, hml, hown, hT⟩ (c_F_rowOf l x1 _ hc2) ⟨va_cnB 1 hT (gtb_good wd_352) rfl rfl rfl (hN _ nw_350) (hT _ wd_51) (by decide +kernel) ⟨Nat.le_of_ble_eq_true rfl, Nat.le_of_ble_eq_true rfl⟩, hT _ wd_351, trivial⟩ ⟨preZ_fb, preZ_at⟩ rfl rfl hl.1 rfl (lv_room (Nat.le_of_ble_eq_true rfl)) dL_isThere_1 ⟨Nat.zero_le _, Nat.zero_le _⟩) (fun H1 locs hq hS => ?_)
  have hP := keptP hP hq
  refine lv_istore_n (lv' := [(2, .int r1), (0, .ref (ad 12)), (1, .int x1)]) hx hb dL_isThere_4 rfl hl (by decide) rfl (fun ls hl => ?_)
  refine lv_iload_n hx hb dL_isThere_5 rfl (lv_at hl 0 rfl) ?_
  refine lv_iconst (v := 4) hx hb dL_isThere_6 (by decide) ?_
  refine lv_icmp_ge (tgt := 21) hx hb dL_isThere_7 (by decide) (fun c3 => ?_) (fun c3 => ?_)
  · have hm := brp hm c3
    refine lv_iconst (v := 1) hx hb dL_isThere_21 (by decide) ?_
    refine lv_goto (tgt := 26) hx hb dL_isThere_22 (by decide) ?_
    exact W.zret hx hb hr rfl (fun t ht hW => ⟨⟨1, (I, J), rfl, Option.some.inj hm, ht ▸ hP, va_K.moved hW.alike hK, hD⟩, hS.F ht⟩) hS.2.2 dL_isThere_26 hlk
  · have hm := brn hm c3
    refine lv_iload_n hx hb dL_isThere_10 rfl (lv_at hl 0 rfl) ?_
    refine lv_aload_n hx hb dL_isThere_11 rfl (lv_at hl 1 rfl) ?_
    refine va_get (D := D) (ci := 1) (v := .ref (ad 0)) (C := RL) (T := TL) (N := 7) hx hb hT inL hown hK hP 12 rfl rfl 0 (by decide) (hT _ wd_138) (fun _ h9 => h9) rfl dL_isThere_12 ?_
    refine va_getN (D := D) (ci := 4) (v := .int (I 0 0)) (C := RT) (T := TT) (N := 9) hx hb hT inT hown hK hP 0 rfl rfl 0 (by decide) (va_Nw.use rfl (hN _ nw_79)) (fun _ h9 => h9) rfl dL_isThere_15 ?_
    refine lv_icmp_ge (tgt := 25) hx hb dL_isThere_18 (by decide) (fun c4 => ?_) (fun c4 => ?_)
    · have hm := brp hm c4
      refine lv_iconst (v := 0) hx hb dL_isThere_25 (by decide) ?_
      exact W.zret hx hb hr rfl (fun t ht hW => ⟨⟨0, (I, J), rfl, Option.some.inj hm, ht ▸ hP, va_K.moved hW.alike hK, hD⟩, hS.F ht⟩) hS.2.2 dL_isThere_26 hlk
    · have hm := brn hm c4
      refine lv_iconst (v := 1) hx hb dL_isThere_21 (by decide) ?_
      refine lv_goto (tgt := 26) hx hb dL_isThere_22 (by decide) ?_
      exact W.zret hx hb hr rfl (fun t ht hW => ⟨⟨1, (I, J), rfl, Option.some.inj hm, ht ▸ hP, va_K.moved hW.alike hK, hD⟩, hS.F ht⟩) hS.2.2 dL_isThere_26 hlk
set_option maxHeartbeats 4000000 in
set_option maxRecDepth 100000 in
theorem c_L_isThere (l : Launch) (D : va_G) (ad : Nat → Nat) (cI cJ cG : ClassId) (sz : Nat) (x1 : Int32) (I : SI) (J : SJ) (res : Int32 × SI × SJ) (hm : m_L_isThere x1 I J = some res) : Met l yL_isThere (Cond.code yL_isThere bL_isThere 3 (some .boolean) :: gtb) rm_L_isThere (va_Pc [.ref (ad 12), .int x1] (preW D vwCl (tysM cI cJ cG) (wsM ad cI cJ cG I J) sz)) (va_Qi (fun (r : Int32) (u : SI × SJ) => (r, u) = res) (atW D vwCl (tysM cI cJ cG) (va_A (wsM ad cI cJ cG I J) sz) (wsM ad cI cJ cG)) (va_A (wsM ad cI cJ cG I J) sz)) 0 0 (va_A (wsM ad cI cJ cG I J) sz) := by
  refine Met.ofW (cc := bL_isThere) (maxL := 3) (ret := (some .boolean)) (by decide) rfl ?_
  intro p e s m args below meth c s₁ B hml hv
  obtain ⟨rfl, hsz, hP, hK, hD0, hN⟩ := hv
  subst hsz
  have X : Cx p s m [.ref (ad 12), .int x1].toArray meth c bL_isThere (some .boolean) 3 RL := ⟨B.exec, B.bytes, B.returns, hml, findClass_of_methodNamed B.named, fun w h => atoms_spec (ws := (Cond.code yL_isThere bL_isThere 3 (some .boolean) :: gtb)) B.pre w (List.mem_cons_of_mem _ h), B.notSynchronized⟩
  have hl := lv_entry ([.ref (ad 12), .int x1]) (n := 3) (Nat.le_of_ble_eq_true rfl)
  rw [lg_entry_eq]
  generalize (lg_sl ([.ref (ad 12), .int x1]) ++ List.replicate (3 - (lg_sl ([.ref (ad 12), .int x1])).length) Slot.unset).toArray = ls at hl ⊢
  have hl : lv_has ls 3 [(0, .ref (ad 12)), (1, .int x1)] := hl
  have hA : ∀ q, s.heap.size ≤ q → va_A (wsM ad cI cJ cG I J) s.heap.size q := fun q h => Or.inr h
  exact w_L_isThere_0 X hK hN hA  x1 I J hm _ _ _ hP hD0.self va_S.rf hl
def b_L_levelOf_0 (x1 : Int32) (I : SI) (J : SJ) : Option (Int32 × SI × SJ) :=
  cl1 (m_F_rowOf x1) fun r1 =>
  if 4 ≤ x1 then
    if 8 ≤ x1 then
      if 12 ≤ x1 then
        if 15 ≤ x1 then
          nm (r1 - 4) fun v7 =>
          gd (vin v7 3) <|
          nm (I 11 v7.toNatClampNeg) fun v9 =>
          nm ((I 12 2) * v9) fun v10 =>
          some (v10, I, J)
        else
          nm (r1 - 4) fun v11 =>
          gd (vin v11 3) <|
          nm (I 10 v11.toNatClampNeg) fun v13 =>
          nm ((I 12 2) * v13) fun v14 =>
          some (v14, I, J)
      else
        gd (vin r1 4) <|
        nm (I 4 r1.toNatClampNeg) fun v16 =>
        nm ((I 12 1) * v16) fun v17 =>
        some (v17, I, J)
    else
      gd (vin r1 4) <|
      nm (I 3 r1.toNatClampNeg) fun v19 =>
      nm ((I 12 1) * v19) fun v20 =>
      some (v20, I, J)
  else
    gd (vin r1 4) <|
    nm (I 2 r1.toNatClampNeg) fun v22 =>
    nm (10 * v22) fun v23 =>
    some (v23, I, J)
def m_L_levelOf (x1 : Int32) (I : SI) (J : SJ) : Option (Int32 × SI × SJ) := b_L_levelOf_0 x1 I J
def rm_L_levelOf : Room := { frames := 1, cells := 0, slots := 0, locals := 20 }
set_option maxHeartbeats 4000000 in
set_option maxRecDepth 100000 in
theorem w_L_levelOf_0 {p : Program} {l : Launch} {e : Env} {s : State} {m : MethodId} {args : Array Value} {below : List Frame} {meth : Method} {c : Code} {D : va_G} {A : Nat → Prop} {ad : Nat → Nat} {cI cJ cG : ClassId} {res : Int32 × SI × SJ} (X : Cx p s m args meth c bL_levelOf (some .int) 4 RL) (hK : va_K D vwCl (tysM cI cJ cG) s) (hN : NWs s) (hA : ∀ q, s.heap.size ≤ q → A q)
     (x1 : Int32) (I : SI) (J : SJ) (hm : b_L_levelOf_0  x1 I J = some res) : WB p l e (headSpec (Cond.code yL_levelOf bL_levelOf 4 (some .int) :: gtb) rm_L_levelOf).room s m args below meth c (MQ below (va_Qi (fun (r : Int32) (u : SI × SJ) => (r, u) = res) (atW D vwCl (tysM cI cJ cG) A (wsM ad cI cJ cG)) A) args s 0 0 A) D vwCl A 4 (wsM ad cI cJ cG I J) 0 [(0, .ref (ad 12)), (1, .int x1)] [] := by
  obtain ⟨hx, hb, hr, hml, hown, hT, hlk⟩ := X
  intro H locs ls hP hD hS hl
  unfold b_L_levelOf_0 at hm
  refine lv_iload_n hx hb dL_levelOf_0 rfl (lv_at hl 1 rfl) ?_
  obtain ⟨r1, hc2, hm⟩ := cl1_to hm
  refine pstZ_i hS (va_runSN (As := [.int x1]) (rest := []) ⟨hx, hb, hml, hown, hT⟩ (c_F_rowOf l x1 _ hc2) ⟨va_cnB 1 hT (gtb_good wd_352) rfl rfl rfl (hN _ nw_350) (hT _ wd_51) (by decide +kernel) ⟨Nat.le_of_ble_eq_true rfl, Nat.le_of_ble_eq_true rfl⟩, hT _ wd_351, trivial⟩ ⟨preZ_fb, preZ_at⟩ rfl rfl hl.1 rfl (lv_room (Nat.le_of_ble_eq_true rfl)) dL_levelOf_1 ⟨Nat.zero_le _, Nat.zero_le _⟩) (fun H1 locs hq hS => ?_)
  have hP := keptP hP hq
  refine lv_istore_n (lv' := [(2, .int r1), (0, .ref (ad 12)), (1, .int x1)]) hx hb dL_levelOf_4 rfl hl (by decide) rfl (fun ls hl => ?_)
  refine lv_iload_n hx hb dL_levelOf_5 rfl (lv_at hl 2 rfl) ?_
  refine lv_iconst (v := 4) hx hb dL_levelOf_6 (by decide) ?_
  refine lv_icmp_ge (tgt := 23) hx hb dL_levelOf_7 (by decide) (fun c3 => ?_) (fun c3 => ?_)
  · have hm := brp hm c3
    refine lv_iload_n hx hb dL_levelOf_23 rfl (lv_at hl 2 rfl) ?_
    refine lv_bipush (v := 8) hx hb dL_levelOf_24 (by decide) ?_
    refine lv_icmp_ge (tgt := 44) hx hb dL_levelOf_26 (by decide) (fun c4 => ?_) (fun c4 => ?_)
    · have hm := brp hm c4
      refine lv_iload_n hx hb dL_levelOf_44 rfl (lv_at hl 2 rfl) ?_
      refine lv_bipush (v := 12) hx hb dL_levelOf_45 (by decide) ?_
      refine lv_icmp_ge (tgt := 65) hx hb dL_levelOf_47 (by decide) (fun c5 => ?_) (fun c5 => ?_)
      · have hm := brp hm c5
        refine lv_iload_n hx hb dL_levelOf_65 rfl (lv_at hl 2 rfl) ?_
        refine lv_bipush (v := 15) hx hb dL_levelOf_66 (by decide) ?_
        refine lv_icmp_ge (tgt := 81) hx hb dL_levelOf_68 (by decide) (fun c6 => ?_) (fun c6 => ?_)
        · have hm := brp hm c6
          refine lv_aload_n hx hb dL_levelOf_81 rfl (lv_at hl 1 rfl) ?_
          refine va_get (D := D) (ci := 1) (v := .ref (ad 0)) (C := RL) (T := TL) (N := 7) hx hb hT inL hown hK hP 12 rfl rfl 0 (by decide) (hT _ wd_138) (fun _ h9 => h9) rfl dL_levelOf_82 ?_
          refine va_getN (D := D) (ci := 4) (v := .ref (ad 11)) (C := RT) (T := TT) (N := 9) hx hb hT inT hown hK hP 0 rfl rfl 8 (by decide) (va_Nw.use rfl (hN _ nw_104)) (fun _ h9 => h9) rfl dL_levelOf_85 ?_
          refine lv_astore_n (lv' := [(3, .ref (ad 11)), (2, .int r1), (0, .ref (ad 12)), (1, .int x1)]) hx hb dL_levelOf_88 rfl hl (by decide) rfl (fun ls hl => ?_)
          refine lv_aload_n hx hb dL_levelOf_89 rfl (lv_at hl 2 rfl) ?_
          refine va_get (D := D) (ci := 1) (v := .int (I 12 2)) (C := RL) (T := TL) (N := 7) hx hb hT inL hown hK hP 12 rfl rfl 2 (by decide) (hT _ wd_140) (fun _ h9 => h9) rfl dL_levelOf_90 ?_
          refine lv_aload_n hx hb dL_levelOf_93 rfl (lv_at hl 0 rfl) ?_
          refine lv_iload_n hx hb dL_levelOf_94 rfl (lv_at hl 1 rfl) ?_
          refine lv_iconst (v := 4) hx hb dL_levelOf_95 (by decide) ?_
          refine lv_isub hx hb dL_levelOf_96 ?_
          refine lv_topi (fun v7 ev7 => ?_)
          have hm := nm_to ev7 hm
          obtain ⟨g8, hm⟩ := gd_to hm
          refine va_iald hx hb hK hP 11 0 rfl rfl g8 dL_levelOf_97 ?_
          refine lv_topi (fun v9 ev9 => ?_)
          have hm := nm_to ev9 hm
          refine lv_imul hx hb dL_levelOf_98 ?_
          refine lv_topi (fun v10 ev10 => ?_)
          have hm := nm_to ev10 hm
          exact W.iret hx hb hr (fun t ht hW => ⟨⟨v10, (I, J), rfl, Option.some.inj hm, ht ▸ hP, va_K.moved hW.alike hK, hD⟩, hS.F ht⟩) hS.2.2 dL_levelOf_99 hlk
        · have hm := brn hm c6
          refine lv_aload_n hx hb dL_levelOf_71 rfl (lv_at hl 1 rfl) ?_
          refine va_get (D := D) (ci := 1) (v := .ref (ad 0)) (C := RL) (T := TL) (N := 7) hx hb hT inL hown hK hP 12 rfl rfl 0 (by decide) (hT _ wd_138) (fun _ h9 => h9) rfl dL_levelOf_72 ?_
          refine va_getN (D := D) (ci := 4) (v := .ref (ad 10)) (C := RT) (T := TT) (N := 9) hx hb hT inT hown hK hP 0 rfl rfl 7 (by decide) (va_Nw.use rfl (hN _ nw_101)) (fun _ h9 => h9) rfl dL_levelOf_75 ?_
          refine lv_goto (tgt := 88) hx hb dL_levelOf_78 (by decide) ?_
          refine lv_astore_n (lv' := [(3, .ref (ad 10)), (2, .int r1), (0, .ref (ad 12)), (1, .int x1)]) hx hb dL_levelOf_88 rfl hl (by decide) rfl (fun ls hl => ?_)
          refine lv_aload_n hx hb dL_levelOf_89 rfl (lv_at hl 2 rfl) ?_
          refine va_get (D := D) (ci := 1) (v := .int (I 12 2)) (C := RL) (T := TL) (N := 7) hx hb hT inL hown hK hP 12 rfl rfl 2 (by decide) (hT _ wd_140) (fun _ h9 => h9) rfl dL_levelOf_90 ?_
          refine lv_aload_n hx hb dL_levelOf_93 rfl (lv_at hl 0 rfl) ?_
          refine lv_iload_n hx hb dL_levelOf_94 rfl (lv_at hl 1 rfl) ?_
          refine lv_iconst (v := 4) hx hb dL_levelOf_95 (by decide) ?_
          refine lv_isub hx hb dL_levelOf_96 ?_
          refine lv_topi (fun v11 ev11 => ?_)
          have hm := nm_to ev11 hm
          obtain ⟨g12, hm⟩ := gd_to hm
          refine va_iald hx hb hK hP 10 0 rfl rfl g12 dL_levelOf_97 ?_
          refine lv_topi (fun v13 ev13 => ?_)
          have hm := nm_to ev13 hm
          refine lv_imul hx hb dL_levelOf_98 ?_
          refine lv_topi (fun v14 ev14 => ?_)
          have hm := nm_to ev14 hm
          exact W.iret hx hb hr (fun t ht hW => ⟨⟨v14, (I, J), rfl, Option.some.inj hm, ht ▸ hP, va_K.moved hW.alike hK, hD⟩, hS.F ht⟩) hS.2.2 dL_levelOf_99 hlk
      · have hm := brn hm c5
        refine lv_aload_n hx hb dL_levelOf_50 rfl (lv_at hl 1 rfl) ?_
        refine va_get (D := D) (ci := 1) (v := .int (I 12 1)) (C := RL) (T := TL) (N := 7) hx hb hT inL hown hK hP 12 rfl rfl 1 (by decide) (hT _ wd_139) (fun _ h9 => h9) rfl dL_levelOf_51 ?_
        refine lv_aload_n hx hb dL_levelOf_54 rfl (lv_at hl 1 rfl) ?_
        refine va_get (D := D) (ci := 1) (v := .ref (ad 0)) (C := RL) (T := TL) (N := 7) hx hb hT inL hown hK hP 12 rfl rfl 0 (by decide) (hT _ wd_138) (fun _ h9 => h9) rfl dL_levelOf_55 ?_
        refine va_getN (D := D) (ci := 4) (v := .ref (ad 4)) (C := RT) (T := TT) (N := 9) hx hb hT inT hown hK hP 0 rfl rfl 4 (by decide) (va_Nw.use rfl (hN _ nw_91)) (fun _ h9 => h9) rfl dL_levelOf_58 ?_
        refine lv_iload_n hx hb dL_levelOf_61 rfl (lv_at hl 0 rfl) ?_
        obtain ⟨g15, hm⟩ := gd_to hm
        refine va_iald hx hb hK hP 4 0 rfl rfl g15 dL_levelOf_62 ?_
        refine lv_topi (fun v16 ev16 => ?_)
        have hm := nm_to ev16 hm
        refine lv_imul hx hb dL_levelOf_63 ?_
        refine lv_topi (fun v17 ev17 => ?_)
        have hm := nm_to ev17 hm
        exact W.iret hx hb hr (fun t ht hW => ⟨⟨v17, (I, J), rfl, Option.some.inj hm, ht ▸ hP, va_K.moved hW.alike hK, hD⟩, hS.F ht⟩) hS.2.2 dL_levelOf_64 hlk
    · have hm := brn hm c4
      refine lv_aload_n hx hb dL_levelOf_29 rfl (lv_at hl 1 rfl) ?_
      refine va_get (D := D) (ci := 1) (v := .int (I 12 1)) (C := RL) (T := TL) (N := 7) hx hb hT inL hown hK hP 12 rfl rfl 1 (by decide) (hT _ wd_139) (fun _ h9 => h9) rfl dL_levelOf_30 ?_
      refine lv_aload_n hx hb dL_levelOf_33 rfl (lv_at hl 1 rfl) ?_
      refine va_get (D := D) (ci := 1) (v := .ref (ad 0)) (C := RL) (T := TL) (N := 7) hx hb hT inL hown hK hP 12 rfl rfl 0 (by decide) (hT _ wd_138) (fun _ h9 => h9) rfl dL_levelOf_34 ?_
      refine va_getN (D := D) (ci := 4) (v := .ref (ad 3)) (C := RT) (T := TT) (N := 9) hx hb hT inT hown hK hP 0 rfl rfl 3 (by decide) (va_Nw.use rfl (hN _ nw_88)) (fun _ h9 => h9) rfl dL_levelOf_37 ?_
      refine lv_iload_n hx hb dL_levelOf_40 rfl (lv_at hl 0 rfl) ?_
      obtain ⟨g18, hm⟩ := gd_to hm
      refine va_iald hx hb hK hP 3 0 rfl rfl g18 dL_levelOf_41 ?_
      refine lv_topi (fun v19 ev19 => ?_)
      have hm := nm_to ev19 hm
      refine lv_imul hx hb dL_levelOf_42 ?_
      refine lv_topi (fun v20 ev20 => ?_)
      have hm := nm_to ev20 hm
      exact W.iret hx hb hr (fun t ht hW => ⟨⟨v20, (I, J), rfl, Option.some.inj hm, ht ▸ hP, va_K.moved hW.alike hK, hD⟩, hS.F ht⟩) hS.2.2 dL_levelOf_43 hlk
  · have hm := brn hm c3
    refine lv_bipush (v := 10) hx hb dL_levelOf_10 (by decide) ?_
    refine lv_aload_n hx hb dL_levelOf_12 rfl (lv_at hl 1 rfl) ?_
    refine va_get (D := D) (ci := 1) (v := .ref (ad 0)) (C := RL) (T := TL) (N := 7) hx hb hT inL hown hK hP 12 rfl rfl 0 (by decide) (hT _ wd_138) (fun _ h9 => h9) rfl dL_levelOf_13 ?_
    refine va_getN (D := D) (ci := 4) (v := .ref (ad 2)) (C := RT) (T := TT) (N := 9) hx hb hT inT hown hK hP 0 rfl rfl 2 (by decide) (va_Nw.use rfl (hN _ nw_85)) (fun _ h9 => h9) rfl dL_levelOf_16 ?_
    refine lv_iload_n hx hb dL_levelOf_19 rfl (lv_at hl 0 rfl) ?_
    obtain ⟨g21, hm⟩ := gd_to hm
    refine va_iald hx hb hK hP 2 0 rfl rfl g21 dL_levelOf_20 ?_
    refine lv_topi (fun v22 ev22 => ?_)
    have hm := nm_to ev22 hm
    refine lv_imul hx hb dL_levelOf_21 ?_
    refine lv_topi (fun v23 ev23 => ?_)
    have hm := nm_to ev23 hm
    exact W.iret hx hb hr (fun t ht hW => ⟨⟨v23, (I, J), rfl, Option.some.inj hm, ht ▸ hP, va_K.moved hW.alike hK, hD⟩, hS.F ht⟩) hS.2.2 dL_levelOf_22 hlk
set_option maxHeartbeats 4000000 in
set_option maxRecDepth 100000 in
theorem c_L_levelOf (l : Launch) (D : va_G) (ad : Nat → Nat) (cI cJ cG : ClassId) (sz : Nat) (x1 : Int32) (I : SI) (J : SJ) (res : Int32 × SI × SJ) (hm : m_L_levelOf x1 I J = some res) : Met l yL_levelOf (Cond.code yL_levelOf bL_levelOf 4 (some .int) :: gtb) rm_L_levelOf (va_Pc [.ref (ad 12), .int x1] (preW D vwCl (tysM cI cJ cG) (wsM ad cI cJ cG I J) sz)) (va_Qi (fun (r : Int32) (u : SI × SJ) => (r, u) = res) (atW D vwCl (tysM cI cJ cG) (va_A (wsM ad cI cJ cG I J) sz) (wsM ad cI cJ cG)) (va_A (wsM ad cI cJ cG I J) sz)) 0 0 (va_A (wsM ad cI cJ cG I J) sz) := by
  refine Met.ofW (cc := bL_levelOf) (maxL := 4) (ret := (some .int)) (by decide) rfl ?_
  intro p e s m args below meth c s₁ B hml hv
  obtain ⟨rfl, hsz, hP, hK, hD0, hN⟩ := hv
  subst hsz
  have X : Cx p s m [.ref (ad 12), .int x1].toArray meth c bL_levelOf (some .int) 4 RL := ⟨B.exec, B.bytes, B.returns, hml, findClass_of_methodNamed B.named, fun w h => atoms_spec (ws := (Cond.code yL_levelOf bL_levelOf 4 (some .int) :: gtb)) B.pre w (List.mem_cons_of_mem _ h), B.notSynchronized⟩
  have hl := lv_entry ([.ref (ad 12), .int x1]) (n := 4) (Nat.le_of_ble_eq_true rfl)
  rw [lg_entry_eq]
  generalize (lg_sl ([.ref (ad 12), .int x1]) ++ List.replicate (4 - (lg_sl ([.ref (ad 12), .int x1])).length) Slot.unset).toArray = ls at hl ⊢
  have hl : lv_has ls 4 [(0, .ref (ad 12)), (1, .int x1)] := hl
  have hA : ∀ q, s.heap.size ≤ q → va_A (wsM ad cI cJ cG I J) s.heap.size q := fun q h => Or.inr h
  exact w_L_levelOf_0 X hK hN hA  x1 I J hm _ _ _ hP hD0.self va_S.rf hl
def b_L_keep_0 (x1 : Int32) (I : SI) (J : SJ) : Option (SI × SJ) :=
  nm (1 <<< (x1 &&& 31)) fun v1 =>
  nm ((I 12 3) ||| v1) fun v2 =>
  nm (va_up I 12 (upd (I 12) 3 v2)) fun I3 =>
  cl1 (m_F_rowOf x1) fun r4 =>
  cl1 (m_F_isLeast x1) fun r6 =>
  if r6 = 0 then
    gd (vin r4 7) <|
    nm (I3 14 r4.toNatClampNeg) fun v10 =>
    cl3 (m_L_levelOf x1 I3 J) fun r11 I12 J13 =>
    nm (if r11 < v10 then r11 else v10) fun v15 =>
    gd (vin r4 7) <|
    nm (va_up I12 14 (upd (I12 14) r4.toNatClampNeg v15)) fun I17 =>
    some (I17, J13)
  else
    gd (vin r4 7) <|
    nm (I3 13 r4.toNatClampNeg) fun v19 =>
    cl3 (m_L_levelOf x1 I3 J) fun r20 I21 J22 =>
    nm (if v19 < r20 then r20 else v19) fun v24 =>
    gd (vin r4 7) <|
    nm (va_up I21 13 (upd (I21 13) r4.toNatClampNeg v24)) fun I26 =>
    some (I26, J22)
def m_L_keep (x1 : Int32) (I : SI) (J : SJ) : Option (SI × SJ) := b_L_keep_0 x1 I J
def rm_L_keep : Room := { frames := 2, cells := 0, slots := 0, locals := 43 }
set_option maxHeartbeats 4000000 in
set_option maxRecDepth 100000 in
theorem w_L_keep_0 {p : Program} {l : Launch} {e : Env} {s : State} {m : MethodId} {args : Array Value} {below : List Frame} {meth : Method} {c : Code} {D : va_G} {A : Nat → Prop} {ad : Nat → Nat} {cI cJ cG : ClassId} {res : SI × SJ} (X : Cx p s m args meth c bL_keep none 3 RL) (hK : va_K D vwCl (tysM cI cJ cG) s) (hN : NWs s) (hA : ∀ q, s.heap.size ≤ q → A q)
     (x1 : Int32) (I : SI) (J : SJ) (hm : b_L_keep_0  x1 I J = some res) : WB p l e (headSpec (Cond.code yL_keep bL_keep 3 none :: gtb) rm_L_keep).room s m args below meth c (MQ below (va_Qv (fun (u : SI × SJ) => u = res) (atW D vwCl (tysM cI cJ cG) A (wsM ad cI cJ cG)) A) args s 0 0 A) D vwCl A 3 (wsM ad cI cJ cG I J) 0 [(0, .ref (ad 12)), (1, .int x1)] [] := by
  obtain ⟨hx, hb, hr, hml, hown, hT, hlk⟩ := X
  intro H locs ls hP hD hS hl
  unfold b_L_keep_0 at hm
  refine lv_aload_n hx hb dL_keep_0 rfl (lv_at hl 0 rfl) ?_
  refine lv_dup hx hb dL_keep_1 rfl ?_
  refine va_get (D := D) (ci := 1) (v := .int (I 12 3)) (C := RL) (T := TL) (N := 7) hx hb hT inL hown hK hP 12 rfl rfl 3 (by decide) (hT _ wd_143) (fun _ h9 => h9) rfl dL_keep_2 ?_
  refine lv_iconst (v := 1) hx hb dL_keep_5 (by decide) ?_
  refine lv_iload_n hx hb dL_keep_6 rfl (lv_at hl 1 rfl) ?_
  refine lv_ishl hx hb dL_keep_7 ?_
  refine lv_topi (fun v1 ev1 => ?_)
  have hm := nm_to ev1 hm
  refine lv_ior hx hb dL_keep_8 ?_
  refine lv_topi (fun v2 ev2 => ?_)
  have hm := nm_to ev2 hm
  refine va_put (D := D) (ci := 1) (v := .int v2) (ty := .int) (C := RL) (T := TL) (N := 7) hx hb hT inL tyL okL nmL hown hK hP hD hS 12 rfl rfl 3 (by decide) (hT _ wd_143) (fun _ h9 => h9) rfl pf_I rfl rfl (Nat.le_of_ble_eq_true rfl) dL_keep_9 (fun H locs hP hD hS => ?_)
  obtain ⟨I3, eI3⟩ : ∃ z : SI, z = va_up I 12 (upd (I 12) 3 v2) := ⟨_, rfl⟩
  have hm := nm_to eI3 hm
  have hP := P_eq (ws2 := wsM ad cI cJ cG I3 J) hP (by rw [eI3]; rfl)
  have hD := D_eq (ws2 := wsM ad cI cJ cG I3 J) hD (by rw [eI3]; rfl)
  refine lv_iload_n hx hb dL_keep_12 rfl (lv_at hl 1 rfl) ?_
  obtain ⟨r4, hc5, hm⟩ := cl1_to hm
  refine pstZ_i hS (va_runSN (As := [.int x1]) (rest := []) ⟨hx, hb, hml, hown, hT⟩ (c_F_rowOf l x1 _ hc5) ⟨va_cnB 1 hT (gtb_good wd_352) rfl rfl rfl (hN _ nw_350) (hT _ wd_51) (by decide +kernel) ⟨Nat.le_of_ble_eq_true rfl, Nat.le_of_ble_eq_true rfl⟩, hT _ wd_351, trivial⟩ ⟨preZ_fb, preZ_at⟩ rfl rfl hl.1 rfl (lv_room (Nat.le_of_ble_eq_true rfl)) dL_keep_13 ⟨Nat.zero_le _, Nat.zero_le _⟩) (fun H1 locs hq hS => ?_)
  have hP := keptP hP hq
  refine lv_istore_n (lv' := [(2, .int r4), (0, .ref (ad 12)), (1, .int x1)]) hx hb dL_keep_16 rfl hl (by decide) rfl (fun ls hl => ?_)
  refine lv_iload_n hx hb dL_keep_17 rfl (lv_at hl 2 rfl) ?_
  obtain ⟨r6, hc7, hm⟩ := cl1_to hm
  refine pstZ_i hS (va_runSN (As := [.int x1]) (rest := []) ⟨hx, hb, hml, hown, hT⟩ (c_F_isLeast l x1 _ hc7) ⟨va_cnB 1 hT (gtb_good wd_359) rfl rfl rfl (hN _ nw_357) (hT _ wd_51) (by decide +kernel) ⟨Nat.le_of_ble_eq_true rfl, Nat.le_of_ble_eq_true rfl⟩, hT _ wd_358, trivial⟩ ⟨preZ_fb, preZ_at⟩ rfl rfl hl.1 rfl (lv_room (Nat.le_of_ble_eq_true rfl)) dL_keep_18 ⟨Nat.zero_le _, Nat.zero_le _⟩) (fun H1 locs hq hS => ?_)
  have hP := keptP hP hq
  refine lv_if_eq (tgt := 47) hx hb dL_keep_21 (by decide) (fun c8 => ?_) (fun c8 => ?_)
  · have hm := brp hm c8
    refine lv_aload_n hx hb dL_keep_47 rfl (lv_at hl 1 rfl) ?_
    refine va_get (D := D) (ci := 1) (v := .ref (ad 14)) (C := RL) (T := TL) (N := 7) hx hb hT inL hown hK hP 12 rfl rfl 5 (by decide) (hT _ wd_148) (fun _ h9 => h9) rfl dL_keep_48 ?_
    refine lv_iload_n hx hb dL_keep_51 rfl (lv_at hl 0 rfl) ?_
    refine lv_aload_n hx hb dL_keep_52 rfl (lv_at hl 1 rfl) ?_
    refine va_get (D := D) (ci := 1) (v := .ref (ad 14)) (C := RL) (T := TL) (N := 7) hx hb hT inL hown hK hP 12 rfl rfl 5 (by decide) (hT _ wd_148) (fun _ h9 => h9) rfl dL_keep_53 ?_
    refine lv_iload_n hx hb dL_keep_56 rfl (lv_at hl 0 rfl) ?_
    obtain ⟨g9, hm⟩ := gd_to hm
    refine va_iald hx hb hK hP 14 0 rfl rfl g9 dL_keep_57 ?_
    refine lv_topi (fun v10 ev10 => ?_)
    have hm := nm_to ev10 hm
    refine lv_aload_n hx hb dL_keep_58 rfl (lv_at hl 1 rfl) ?_
    refine lv_iload_n hx hb dL_keep_59 rfl (lv_at hl 2 rfl) ?_
    obtain ⟨r11, I12, J13, hc14, hm⟩ := cl3_to hm
    refine pst_i (wf := wsM ad cI cJ cG) hD hS hA (va_runV (As := [.int x1]) (rest := [.int v10, .int r4, .ref (ad 14)]) ⟨hx, hb, hml, hown, hT⟩ (c_L_levelOf l D ad cI cJ cG _ x1 I3 J _ hc14) (cwV 1 hT (gV wd_360 wd_362 wd_7 wd_54 wd_363) rfl rfl rfl (by decide +kernel) ⟨Nat.le_of_ble_eq_true rfl, Nat.le_of_ble_eq_true rfl⟩) ⟨preW_fb, va_recv hK hP (ci := 1) (q0 := 12) rfl rfl, preW_at hP hK hN hD⟩ rfl rfl hl.1 rfl (lv_room (Nat.le_of_ble_eq_true rfl)) dL_keep_60 ⟨Nat.zero_le _, Nat.zero_le _⟩) (fun H locs hP hD hS => ?_)
    refine va_mmin hx hb (hml.trans hl.1.symm) hown (hT _ wd_367) (hT _ wd_368) (hT _ wd_58) (hT _ wd_369) (Nat.le_of_ble_eq_true rfl) (Nat.le_of_ble_eq_true rfl) (Nat.zero_le _) (Nat.zero_le _) dL_keep_63 ?_
    refine lv_topi (fun v15 ev15 => ?_)
    have hm := nm_to ev15 hm
    obtain ⟨g16, hm⟩ := gd_to hm
    refine va_iast hx hb hK hP hD hS 14 0 rfl rfl g16 dL_keep_66 (fun H locs hP hD hS => ?_)
    obtain ⟨I17, eI17⟩ : ∃ z : SI, z = va_up I12 14 (upd (I12 14) r4.toNatClampNeg v15) := ⟨_, rfl⟩
    have hm := nm_to eI17 hm
    have hP := P_eq (ws2 := wsM ad cI cJ cG I17 J13) hP (by rw [eI17]; rfl)
    have hD := D_eq (ws2 := wsM ad cI cJ cG I17 J13) hD (by rw [eI17]; rfl)
    exact W.vret hx hb hr (fun t ht hW => ⟨⟨(I17, J13), rfl, Option.some.inj hm, ht ▸ hP, va_K.moved hW.alike hK, hD⟩, hS.F ht⟩) hS.2.2 dL_keep_67 hlk
  · have hm := brn hm c8
    refine lv_aload_n hx hb dL_keep_24 rfl (lv_at hl 1 rfl) ?_
    refine va_get (D := D) (ci := 1) (v := .ref (ad 13)) (C := RL) (T := TL) (N := 7) hx hb hT inL hown hK hP 12 rfl rfl 4 (by decide) (hT _ wd_145) (fun _ h9 => h9) rfl dL_keep_25 ?_
    refine lv_iload_n hx hb dL_keep_28 rfl (lv_at hl 0 rfl) ?_
    refine lv_aload_n hx hb dL_keep_29 rfl (lv_at hl 1 rfl) ?_
    refine va_get (D := D) (ci := 1) (v := .ref (ad 13)) (C := RL) (T := TL) (N := 7) hx hb hT inL hown hK hP 12 rfl rfl 4 (by decide) (hT _ wd_145) (fun _ h9 => h9) rfl dL_keep_30 ?_
    refine lv_iload_n hx hb dL_keep_33 rfl (lv_at hl 0 rfl) ?_
    obtain ⟨g18, hm⟩ := gd_to hm
    refine va_iald hx hb hK hP 13 0 rfl rfl g18 dL_keep_34 ?_
    refine lv_topi (fun v19 ev19 => ?_)
    have hm := nm_to ev19 hm
    refine lv_aload_n hx hb dL_keep_35 rfl (lv_at hl 1 rfl) ?_
    refine lv_iload_n hx hb dL_keep_36 rfl (lv_at hl 2 rfl) ?_
    obtain ⟨r20, I21, J22, hc23, hm⟩ := cl3_to hm
    refine pst_i (wf := wsM ad cI cJ cG) hD hS hA (va_runV (As := [.int x1]) (rest := [.int v19, .int r4, .ref (ad 13)]) ⟨hx, hb, hml, hown, hT⟩ (c_L_levelOf l D ad cI cJ cG _ x1 I3 J _ hc23) (cwV 1 hT (gV wd_360 wd_362 wd_7 wd_54 wd_363) rfl rfl rfl (by decide +kernel) ⟨Nat.le_of_ble_eq_true rfl, Nat.le_of_ble_eq_true rfl⟩) ⟨preW_fb, va_recv hK hP (ci := 1) (q0 := 12) rfl rfl, preW_at hP hK hN hD⟩ rfl rfl hl.1 rfl (lv_room (Nat.le_of_ble_eq_true rfl)) dL_keep_37 ⟨Nat.zero_le _, Nat.zero_le _⟩) (fun H locs hP hD hS => ?_)
    refine va_mmax hx hb (hml.trans hl.1.symm) hown (hT _ wd_364) (hT _ wd_365) (hT _ wd_58) (hT _ wd_366) (Nat.le_of_ble_eq_true rfl) (Nat.le_of_ble_eq_true rfl) (Nat.zero_le _) (Nat.zero_le _) dL_keep_40 ?_
    refine lv_topi (fun v24 ev24 => ?_)
    have hm := nm_to ev24 hm
    obtain ⟨g25, hm⟩ := gd_to hm
    refine va_iast hx hb hK hP hD hS 13 0 rfl rfl g25 dL_keep_43 (fun H locs hP hD hS => ?_)
    obtain ⟨I26, eI26⟩ : ∃ z : SI, z = va_up I21 13 (upd (I21 13) r4.toNatClampNeg v24) := ⟨_, rfl⟩
    have hm := nm_to eI26 hm
    have hP := P_eq (ws2 := wsM ad cI cJ cG I26 J22) hP (by rw [eI26]; rfl)
    have hD := D_eq (ws2 := wsM ad cI cJ cG I26 J22) hD (by rw [eI26]; rfl)
    refine lv_goto (tgt := 67) hx hb dL_keep_44 (by decide) ?_
    exact W.vret hx hb hr (fun t ht hW => ⟨⟨(I26, J22), rfl, Option.some.inj hm, ht ▸ hP, va_K.moved hW.alike hK, hD⟩, hS.F ht⟩) hS.2.2 dL_keep_67 hlk
set_option maxHeartbeats 4000000 in
set_option maxRecDepth 100000 in
theorem c_L_keep (l : Launch) (D : va_G) (ad : Nat → Nat) (cI cJ cG : ClassId) (sz : Nat) (x1 : Int32) (I : SI) (J : SJ) (res : SI × SJ) (hm : m_L_keep x1 I J = some res) : Met l yL_keep (Cond.code yL_keep bL_keep 3 none :: gtb) rm_L_keep (va_Pc [.ref (ad 12), .int x1] (preW D vwCl (tysM cI cJ cG) (wsM ad cI cJ cG I J) sz)) (va_Qv (fun (u : SI × SJ) => u = res) (atW D vwCl (tysM cI cJ cG) (va_A (wsM ad cI cJ cG I J) sz) (wsM ad cI cJ cG)) (va_A (wsM ad cI cJ cG I J) sz)) 0 0 (va_A (wsM ad cI cJ cG I J) sz) := by
  refine Met.ofW (cc := bL_keep) (maxL := 3) (ret := none) (by decide) rfl ?_
  intro p e s m args below meth c s₁ B hml hv
  obtain ⟨rfl, hsz, hP, hK, hD0, hN⟩ := hv
  subst hsz
  have X : Cx p s m [.ref (ad 12), .int x1].toArray meth c bL_keep none 3 RL := ⟨B.exec, B.bytes, B.returns, hml, findClass_of_methodNamed B.named, fun w h => atoms_spec (ws := (Cond.code yL_keep bL_keep 3 none :: gtb)) B.pre w (List.mem_cons_of_mem _ h), B.notSynchronized⟩
  have hl := lv_entry ([.ref (ad 12), .int x1]) (n := 3) (Nat.le_of_ble_eq_true rfl)
  rw [lg_entry_eq]
  generalize (lg_sl ([.ref (ad 12), .int x1]) ++ List.replicate (3 - (lg_sl ([.ref (ad 12), .int x1])).length) Slot.unset).toArray = ls at hl ⊢
  have hl : lv_has ls 3 [(0, .ref (ad 12)), (1, .int x1)] := hl
  have hA : ∀ q, s.heap.size ≤ q → va_A (wsM ad cI cJ cG I J) s.heap.size q := fun q h => Or.inr h
  exact w_L_keep_0 X hK hN hA  x1 I J hm _ _ _ hP hD0.self va_S.rf hl
def b_L_keepAll_20 (k20 : Int32 → SI → SJ → Option (SI × SJ)) (k39 : Int32 → SI → SJ → Option (SI × SJ)) (x2 : Int32) (I : SI) (J : SJ) : Option (SI × SJ) :=
  if 7 ≤ x2 then
    k39 0 I J
  else
    cl2 (m_L_widen x2 I J) fun I3 J4 =>
    nm (x2 + 1) fun v6 =>
    k20 v6 I3 J4
def b_L_keepAll_39 (k39 : Int32 → SI → SJ → Option (SI × SJ)) (k66 : Int32 → SI → SJ → Option (SI × SJ)) (x2 : Int32) (I : SI) (J : SJ) : Option (SI × SJ) :=
  if 18 ≤ x2 then
    k66 0 I J
  else
    cl3 (m_L_isThere x2 I J) fun r2 I3 J4 =>
    if r2 = 0 then
      nm (x2 + 1) fun v7 =>
      k39 v7 I3 J4
    else
      cl2 (m_L_keep x2 I3 J4) fun I9 J10 =>
      nm (x2 + 1) fun v12 =>
      k39 v12 I9 J10
def b_L_keepAll_66 (k66 : Int32 → SI → SJ → Option (SI × SJ)) (x2 : Int32) (I : SI) (J : SJ) : Option (SI × SJ) :=
  if 3 ≤ x2 then
    some (I, J)
  else
    gd (vin x2 3) <|
    gd (vin x2 3) <|
    cl2 (m_L_sortByPoints (16 + x2.toNatClampNeg) (7 + x2.toNatClampNeg) I J) fun I5 J6 =>
    nm (x2 + 1) fun v8 =>
    k66 v8 I5 J6
def b_L_keepAll_0 (k20 : Int32 → SI → SJ → Option (SI × SJ)) (x1 : Int32) (I : SI) (J : SJ) : Option (SI × SJ) :=
  nm (va_up I 12 (upd (I 12) 1 x1)) fun I1 =>
  nm (10 * x1) fun v2 =>
  nm (va_up I1 12 (upd (I1 12) 2 v2)) fun I3 =>
  nm (va_up I3 12 (upd (I3 12) 3 0)) fun I4 =>
  k20 0 I4 J
def g_L_keepAll : Nat → (Int32 → SI → SJ → Option (SI × SJ)) × (Int32 → SI → SJ → Option (SI × SJ)) × (Int32 → SI → SJ → Option (SI × SJ))
  | 0 => (fun _ _ _ => none, fun _ _ _ => none, fun _ _ _ => none)
  | n + 1 => (fun x2 I J => b_L_keepAll_20 (g_L_keepAll n).1 (g_L_keepAll n).2.1 x2 I J, fun x2 I J => b_L_keepAll_39 (g_L_keepAll n).2.1 (g_L_keepAll n).2.2 x2 I J, fun x2 I J => b_L_keepAll_66 (g_L_keepAll n).2.2 x2 I J)
def m_L_keepAll (x1 : Int32) (I : SI) (J : SJ) : Option (SI × SJ) := b_L_keepAll_0 (g_L_keepAll fuel).1 x1 I J
def rm_L_keepAll : Room := { frames := 3, cells := 0, slots := 0, locals := 65 }
set_option maxHeartbeats 4000000 in
set_option maxRecDepth 100000 in
theorem w_L_keepAll_20 {p : Program} {l : Launch} {e : Env} {s : State} {m : MethodId} {args : Array Value} {below : List Frame} {meth : Method} {c : Code} {D : va_G} {A : Nat → Prop} {ad : Nat → Nat} {cI cJ cG : ClassId} {res : SI × SJ} (X : Cx p s m args meth c bL_keepAll none 3 RL) (hK : va_K D vwCl (tysM cI cJ cG) s) (hN : NWs s) (hA : ∀ q, s.heap.size ≤ q → A q)
    {k20 : Int32 → SI → SJ → Option (SI × SJ)} (hk20 : ∀ (x2 : Int32) (I : SI) (J : SJ), k20 x2 I J = some res → WB p l e (headSpec (Cond.code yL_keepAll bL_keepAll 3 none :: gtb) rm_L_keepAll).room s m args below meth c (MQ below (va_Qv (fun (u : SI × SJ) => u = res) (atW D vwCl (tysM cI cJ cG) A (wsM ad cI cJ cG)) A) args s 0 0 A) D vwCl A 3 (wsM ad cI cJ cG I J) 20 [(0, .ref (ad 12)), (2, .int x2)] [])
    {k39 : Int32 → SI → SJ → Option (SI × SJ)} (hk39 : ∀ (x2 : Int32) (I : SI) (J : SJ), k39 x2 I J = some res → WB p l e (headSpec (Cond.code yL_keepAll bL_keepAll 3 none :: gtb) rm_L_keepAll).room s m args below meth c (MQ below (va_Qv (fun (u : SI × SJ) => u = res) (atW D vwCl (tysM cI cJ cG) A (wsM ad cI cJ cG)) A) args s 0 0 A) D vwCl A 3 (wsM ad cI cJ cG I J) 39 [(0, .ref (ad 12)), (2, .int x2)] [])
     (x2 : Int32) (I : SI) (J : SJ) (hm : b_L_keepAll_20 k20 k39 x2 I J = some res) : WB p l e (headSpec (Cond.code yL_keepAll bL_keepAll 3 none :: gtb) rm_L_keepAll).room s m args below meth c (MQ below (va_Qv (fun (u : SI × SJ) => u = res) (atW D vwCl (tysM cI cJ cG) A (wsM ad cI cJ cG)) A) args s 0 0 A) D vwCl A 3 (wsM ad cI cJ cG I J) 20 [(0, .ref (ad 12)), (2, .int x2)] [] := by
  obtain ⟨hx, hb, hr, hml, hown, hT, hlk⟩ := X
  intro H locs ls hP hD hS hl
  unfold b_L_keepAll_20 at hm
  refine lv_iload_n hx hb dL_keepAll_20 rfl (lv_at hl 1 rfl) ?_
  refine lv_bipush (v := 7) hx hb dL_keepAll_21 (by decide) ?_
  refine lv_icmp_ge (tgt := 37) hx hb dL_keepAll_23 (by decide) (fun c1 => ?_) (fun c1 => ?_)
  · have hm := brp hm c1
    refine lv_iconst (v := 0) hx hb dL_keepAll_37 (by decide) ?_
    refine lv_istore_n (lv' := [(2, .int 0), (0, .ref (ad 12))]) hx hb dL_keepAll_38 rfl hl (by decide) rfl (fun ls hl => ?_)
    exact hk39 0 I J hm _ _ _ hP hD hS (lv_sub hl [1, 0] rfl)
  · have hm := brn hm c1
    refine lv_aload_n hx hb dL_keepAll_26 rfl (lv_at hl 0 rfl) ?_
    refine lv_iload_n hx hb dL_keepAll_27 rfl (lv_at hl 1 rfl) ?_
    obtain ⟨I3, J4, hc5, hm⟩ := cl2_to hm
    refine pst_v (wf := wsM ad cI cJ cG) hD hS hA (va_runV (As := [.int x2]) (rest := []) ⟨hx, hb, hml, hown, hT⟩ (c_L_widen l D ad cI cJ cG _ x2 I J _ hc5) (cwV 1 hT (gV wd_342 wd_344 wd_4 wd_54 wd_345) rfl rfl rfl (by decide +kernel) ⟨Nat.le_of_ble_eq_true rfl, Nat.le_of_ble_eq_true rfl⟩) ⟨preW_fb, va_recv hK hP (ci := 1) (q0 := 12) rfl rfl, preW_at hP hK hN hD⟩ rfl rfl hl.1 rfl (lv_room (Nat.le_of_ble_eq_true rfl)) dL_keepAll_28 ⟨Nat.zero_le _, Nat.zero_le _⟩) (fun H locs hP hD hS => ?_)
    obtain ⟨v6, ev6⟩ : ∃ z : Int32, z = x2 + 1 := ⟨_, rfl⟩
    have hm := nm_to ev6 hm
    refine lv_iinc (v := v6) (lv' := [(2, .int v6), (0, .ref (ad 12))]) hx hb dL_keepAll_31 hl (k := 1) rfl (by rw [ev6]; rfl) (by decide) rfl (fun ls hl => ?_)
    refine lv_goto (tgt := 20) hx hb dL_keepAll_34 (by decide) ?_
    exact hk20 v6 I3 J4 hm _ _ _ hP hD hS (lv_sub hl [1, 0] rfl)
set_option maxHeartbeats 4000000 in
set_option maxRecDepth 100000 in
theorem w_L_keepAll_39 {p : Program} {l : Launch} {e : Env} {s : State} {m : MethodId} {args : Array Value} {below : List Frame} {meth : Method} {c : Code} {D : va_G} {A : Nat → Prop} {ad : Nat → Nat} {cI cJ cG : ClassId} {res : SI × SJ} (X : Cx p s m args meth c bL_keepAll none 3 RL) (hK : va_K D vwCl (tysM cI cJ cG) s) (hN : NWs s) (hA : ∀ q, s.heap.size ≤ q → A q)
    {k39 : Int32 → SI → SJ → Option (SI × SJ)} (hk39 : ∀ (x2 : Int32) (I : SI) (J : SJ), k39 x2 I J = some res → WB p l e (headSpec (Cond.code yL_keepAll bL_keepAll 3 none :: gtb) rm_L_keepAll).room s m args below meth c (MQ below (va_Qv (fun (u : SI × SJ) => u = res) (atW D vwCl (tysM cI cJ cG) A (wsM ad cI cJ cG)) A) args s 0 0 A) D vwCl A 3 (wsM ad cI cJ cG I J) 39 [(0, .ref (ad 12)), (2, .int x2)] [])
    {k66 : Int32 → SI → SJ → Option (SI × SJ)} (hk66 : ∀ (x2 : Int32) (I : SI) (J : SJ), k66 x2 I J = some res → WB p l e (headSpec (Cond.code yL_keepAll bL_keepAll 3 none :: gtb) rm_L_keepAll).room s m args below meth c (MQ below (va_Qv (fun (u : SI × SJ) => u = res) (atW D vwCl (tysM cI cJ cG) A (wsM ad cI cJ cG)) A) args s 0 0 A) D vwCl A 3 (wsM ad cI cJ cG I J) 66 [(0, .ref (ad 12)), (2, .int x2)] [])
     (x2 : Int32) (I : SI) (J : SJ) (hm : b_L_keepAll_39 k39 k66 x2 I J = some res) : WB p l e (headSpec (Cond.code yL_keepAll bL_keepAll 3 none :: gtb) rm_L_keepAll).room s m args below meth c (MQ below (va_Qv (fun (u : SI × SJ) => u = res) (atW D vwCl (tysM cI cJ cG) A (wsM ad cI cJ cG)) A) args s 0 0 A) D vwCl A 3 (wsM ad cI cJ cG I J) 39 [(0, .ref (ad 12)), (2, .int x2)] [] := by
  obtain ⟨hx, hb, hr, hml, hown, hT, hlk⟩ := X
  intro H locs ls hP hD hS hl
  unfold b_L_keepAll_39 at hm
  refine lv_iload_n hx hb dL_keepAll_39 rfl (lv_at hl 1 rfl) ?_
  refine lv_bipush (v := 18) hx hb dL_keepAll_40 (by decide) ?_
  refine lv_icmp_ge (tgt := 64) hx hb dL_keepAll_42 (by decide) (fun c1 => ?_) (fun c1 => ?_)
  · have hm := brp hm c1
    refine lv_iconst (v := 0) hx hb dL_keepAll_64 (by decide) ?_
    refine lv_istore_n (lv' := [(2, .int 0), (0, .ref (ad 12))]) hx hb dL_keepAll_65 rfl hl (by decide) rfl (fun ls hl => ?_)
    exact hk66 0 I J hm _ _ _ hP hD hS (lv_sub hl [1, 0] rfl)
  · have hm := brn hm c1
    refine lv_aload_n hx hb dL_keepAll_45 rfl (lv_at hl 0 rfl) ?_
    refine lv_iload_n hx hb dL_keepAll_46 rfl (lv_at hl 1 rfl) ?_
    obtain ⟨r2, I3, J4, hc5, hm⟩ := cl3_to hm
    refine pst_i (wf := wsM ad cI cJ cG) hD hS hA (va_runV (As := [.int x2]) (rest := []) ⟨hx, hb, hml, hown, hT⟩ (c_L_isThere l D ad cI cJ cG _ x2 I J _ hc5) (cwV 1 hT (gV wd_346 wd_348 wd_5 wd_54 wd_349) rfl rfl rfl (by decide +kernel) ⟨Nat.le_of_ble_eq_true rfl, Nat.le_of_ble_eq_true rfl⟩) ⟨preW_fb, va_recv hK hP (ci := 1) (q0 := 12) rfl rfl, preW_at hP hK hN hD⟩ rfl rfl hl.1 rfl (lv_room (Nat.le_of_ble_eq_true rfl)) dL_keepAll_47 ⟨Nat.zero_le _, Nat.zero_le _⟩) (fun H locs hP hD hS => ?_)
    refine lv_if_eq (tgt := 58) hx hb dL_keepAll_50 (by decide) (fun c6 => ?_) (fun c6 => ?_)
    · have hm := brp hm c6
      obtain ⟨v7, ev7⟩ : ∃ z : Int32, z = x2 + 1 := ⟨_, rfl⟩
      have hm := nm_to ev7 hm
      refine lv_iinc (v := v7) (lv' := [(2, .int v7), (0, .ref (ad 12))]) hx hb dL_keepAll_58 hl (k := 1) rfl (by rw [ev7]; rfl) (by decide) rfl (fun ls hl => ?_)
      refine lv_goto (tgt := 39) hx hb dL_keepAll_61 (by decide) ?_
      exact hk39 v7 I3 J4 hm _ _ _ hP hD hS (lv_sub hl [1, 0] rfl)
    · have hm := brn hm c6
      refine lv_aload_n hx hb dL_keepAll_53 rfl (lv_at hl 0 rfl) ?_
      refine lv_iload_n hx hb dL_keepAll_54 rfl (lv_at hl 1 rfl) ?_
      obtain ⟨I9, J10, hc11, hm⟩ := cl2_to hm
      refine pst_v (wf := wsM ad cI cJ cG) hD hS hA (va_runV (As := [.int x2]) (rest := []) ⟨hx, hb, hml, hown, hT⟩ (c_L_keep l D ad cI cJ cG _ x2 I3 J4 _ hc11) (cwV 1 hT (gV wd_353 wd_355 wd_6 wd_54 wd_356) rfl rfl rfl (by decide +kernel) ⟨Nat.le_of_ble_eq_true rfl, Nat.le_of_ble_eq_true rfl⟩) ⟨preW_fb, va_recv hK hP (ci := 1) (q0 := 12) rfl rfl, preW_at hP hK hN hD⟩ rfl rfl hl.1 rfl (lv_room (Nat.le_of_ble_eq_true rfl)) dL_keepAll_55 ⟨Nat.zero_le _, Nat.zero_le _⟩) (fun H locs hP hD hS => ?_)
      obtain ⟨v12, ev12⟩ : ∃ z : Int32, z = x2 + 1 := ⟨_, rfl⟩
      have hm := nm_to ev12 hm
      refine lv_iinc (v := v12) (lv' := [(2, .int v12), (0, .ref (ad 12))]) hx hb dL_keepAll_58 hl (k := 1) rfl (by rw [ev12]; rfl) (by decide) rfl (fun ls hl => ?_)
      refine lv_goto (tgt := 39) hx hb dL_keepAll_61 (by decide) ?_
      exact hk39 v12 I9 J10 hm _ _ _ hP hD hS (lv_sub hl [1, 0] rfl)
set_option maxHeartbeats 4000000 in
set_option maxRecDepth 100000 in
theorem w_L_keepAll_66 {p : Program} {l : Launch} {e : Env} {s : State} {m : MethodId} {args : Array Value} {below : List Frame} {meth : Method} {c : Code} {D : va_G} {A : Nat → Prop} {ad : Nat → Nat} {cI cJ cG : ClassId} {res : SI × SJ} (X : Cx p s m args meth c bL_keepAll none 3 RL) (hK : va_K D vwCl (tysM cI cJ cG) s) (hN : NWs s) (hA : ∀ q, s.heap.size ≤ q → A q)
    {k66 : Int32 → SI → SJ → Option (SI × SJ)} (hk66 : ∀ (x2 : Int32) (I : SI) (J : SJ), k66 x2 I J = some res → WB p l e (headSpec (Cond.code yL_keepAll bL_keepAll 3 none :: gtb) rm_L_keepAll).room s m args below meth c (MQ below (va_Qv (fun (u : SI × SJ) => u = res) (atW D vwCl (tysM cI cJ cG) A (wsM ad cI cJ cG)) A) args s 0 0 A) D vwCl A 3 (wsM ad cI cJ cG I J) 66 [(0, .ref (ad 12)), (2, .int x2)] [])
     (x2 : Int32) (I : SI) (J : SJ) (hm : b_L_keepAll_66 k66 x2 I J = some res) : WB p l e (headSpec (Cond.code yL_keepAll bL_keepAll 3 none :: gtb) rm_L_keepAll).room s m args below meth c (MQ below (va_Qv (fun (u : SI × SJ) => u = res) (atW D vwCl (tysM cI cJ cG) A (wsM ad cI cJ cG)) A) args s 0 0 A) D vwCl A 3 (wsM ad cI cJ cG I J) 66 [(0, .ref (ad 12)), (2, .int x2)] [] := by
  obtain ⟨hx, hb, hr, hml, hown, hT, hlk⟩ := X
  intro H locs ls hP hD hS hl
  unfold b_L_keepAll_66 at hm
  refine lv_iload_n hx hb dL_keepAll_66 rfl (lv_at hl 1 rfl) ?_
  refine lv_iconst (v := 3) hx hb dL_keepAll_67 (by decide) ?_
  refine lv_icmp_ge (tgt := 95) hx hb dL_keepAll_68 (by decide) (fun c1 => ?_) (fun c1 => ?_)
  · have hm := brp hm c1
    exact W.vret hx hb hr (fun t ht hW => ⟨⟨(I, J), rfl, Option.some.inj hm, ht ▸ hP, va_K.moved hW.alike hK, hD⟩, hS.F ht⟩) hS.2.2 dL_keepAll_95 hlk
  · have hm := brn hm c1
    refine lv_aload_n hx hb dL_keepAll_71 rfl (lv_at hl 0 rfl) ?_
    refine va_get (D := D) (ci := 1) (v := .ref (ad 15)) (C := RL) (T := TL) (N := 7) hx hb hT inL hown hK hP 12 rfl rfl 6 (by decide) (hT _ wd_151) (fun _ h9 => h9) rfl dL_keepAll_72 ?_
    refine lv_iload_n hx hb dL_keepAll_75 rfl (lv_at hl 1 rfl) ?_
    obtain ⟨g2, hm⟩ := gd_to hm
    refine va_aldG hx hb hK hP 15 2 rfl rfl rfl g2 (outM_15 (vp_lt g2)) dL_keepAll_76 ?_
    refine lv_aload_n hx hb dL_keepAll_77 rfl (lv_at hl 0 rfl) ?_
    refine va_get (D := D) (ci := 1) (v := .ref (ad 0)) (C := RL) (T := TL) (N := 7) hx hb hT inL hown hK hP 12 rfl rfl 0 (by decide) (hT _ wd_138) (fun _ h9 => h9) rfl dL_keepAll_78 ?_
    refine va_getN (D := D) (ci := 4) (v := .ref (ad 6)) (C := RT) (T := TT) (N := 9) hx hb hT inT hown hK hP 0 rfl rfl 6 (by decide) (va_Nw.use rfl (hN _ nw_96)) (fun _ h9 => h9) rfl dL_keepAll_81 ?_
    refine lv_iload_n hx hb dL_keepAll_84 rfl (lv_at hl 1 rfl) ?_
    obtain ⟨g3, hm⟩ := gd_to hm
    refine va_aldG hx hb hK hP 6 2 rfl rfl rfl g3 (outM_6 (vp_lt g3)) dL_keepAll_85 ?_
    obtain ⟨I5, J6, hc7, hm⟩ := cl2_to hm
    refine pst_v (wf := wsM ad cI cJ cG) hD hS hA (va_runS (As := [.ref (ad (16 + x2.toNatClampNeg)), .ref (ad (7 + x2.toNatClampNeg))]) (rest := []) ⟨hx, hb, hml, hown, hT⟩ (c_L_sortByPoints l D ad cI cJ cG _ (16 + x2.toNatClampNeg) (7 + x2.toNatClampNeg) I J _ hc7) (va_cwS 2 hT (gS wd_370 wd_371 wd_54 wd_372) rfl rfl rfl (by decide +kernel) ⟨Nat.le_of_ble_eq_true rfl, Nat.le_of_ble_eq_true rfl⟩) ⟨preW_fb, preW_at hP hK hN hD⟩ rfl rfl hl.1 rfl (lv_room (Nat.le_of_ble_eq_true rfl)) dL_keepAll_86 ⟨Nat.zero_le _, Nat.zero_le _⟩) (fun H locs hP hD hS => ?_)
    obtain ⟨v8, ev8⟩ : ∃ z : Int32, z = x2 + 1 := ⟨_, rfl⟩
    have hm := nm_to ev8 hm
    refine lv_iinc (v := v8) (lv' := [(2, .int v8), (0, .ref (ad 12))]) hx hb dL_keepAll_89 hl (k := 1) rfl (by rw [ev8]; rfl) (by decide) rfl (fun ls hl => ?_)
    refine lv_goto (tgt := 66) hx hb dL_keepAll_92 (by decide) ?_
    exact hk66 v8 I5 J6 hm _ _ _ hP hD hS (lv_sub hl [1, 0] rfl)
set_option maxHeartbeats 4000000 in
set_option maxRecDepth 100000 in
theorem w_L_keepAll_0 {p : Program} {l : Launch} {e : Env} {s : State} {m : MethodId} {args : Array Value} {below : List Frame} {meth : Method} {c : Code} {D : va_G} {A : Nat → Prop} {ad : Nat → Nat} {cI cJ cG : ClassId} {res : SI × SJ} (X : Cx p s m args meth c bL_keepAll none 3 RL) (hK : va_K D vwCl (tysM cI cJ cG) s) (hN : NWs s) (hA : ∀ q, s.heap.size ≤ q → A q)
    {k20 : Int32 → SI → SJ → Option (SI × SJ)} (hk20 : ∀ (x2 : Int32) (I : SI) (J : SJ), k20 x2 I J = some res → WB p l e (headSpec (Cond.code yL_keepAll bL_keepAll 3 none :: gtb) rm_L_keepAll).room s m args below meth c (MQ below (va_Qv (fun (u : SI × SJ) => u = res) (atW D vwCl (tysM cI cJ cG) A (wsM ad cI cJ cG)) A) args s 0 0 A) D vwCl A 3 (wsM ad cI cJ cG I J) 20 [(0, .ref (ad 12)), (2, .int x2)] [])
     (x1 : Int32) (I : SI) (J : SJ) (hm : b_L_keepAll_0 k20 x1 I J = some res) : WB p l e (headSpec (Cond.code yL_keepAll bL_keepAll 3 none :: gtb) rm_L_keepAll).room s m args below meth c (MQ below (va_Qv (fun (u : SI × SJ) => u = res) (atW D vwCl (tysM cI cJ cG) A (wsM ad cI cJ cG)) A) args s 0 0 A) D vwCl A 3 (wsM ad cI cJ cG I J) 0 [(0, .ref (ad 12)), (1, .int x1)] [] := by
  obtain ⟨hx, hb, hr, hml, hown, hT, hlk⟩ := X
  intro H locs ls hP hD hS hl
  unfold b_L_keepAll_0 at hm
  refine lv_aload_n hx hb dL_keepAll_0 rfl (lv_at hl 0 rfl) ?_
  refine lv_iload_n hx hb dL_keepAll_1 rfl (lv_at hl 1 rfl) ?_
  refine va_put (D := D) (ci := 1) (v := .int x1) (ty := .int) (C := RL) (T := TL) (N := 7) hx hb hT inL tyL okL nmL hown hK hP hD hS 12 rfl rfl 1 (by decide) (hT _ wd_139) (fun _ h9 => h9) rfl pf_I rfl rfl (Nat.le_of_ble_eq_true rfl) dL_keepAll_2 (fun H locs hP hD hS => ?_)
  obtain ⟨I1, eI1⟩ : ∃ z : SI, z = va_up I 12 (upd (I 12) 1 x1) := ⟨_, rfl⟩
  have hm := nm_to eI1 hm
  have hP := P_eq (ws2 := wsM ad cI cJ cG I1 J) hP (by rw [eI1]; rfl)
  have hD := D_eq (ws2 := wsM ad cI cJ cG I1 J) hD (by rw [eI1]; rfl)
  refine lv_aload_n hx hb dL_keepAll_5 rfl (lv_at hl 0 rfl) ?_
  refine lv_bipush (v := 10) hx hb dL_keepAll_6 (by decide) ?_
  refine lv_iload_n hx hb dL_keepAll_8 rfl (lv_at hl 1 rfl) ?_
  refine lv_imul hx hb dL_keepAll_9 ?_
  refine lv_topi (fun v2 ev2 => ?_)
  have hm := nm_to ev2 hm
  refine va_put (D := D) (ci := 1) (v := .int v2) (ty := .int) (C := RL) (T := TL) (N := 7) hx hb hT inL tyL okL nmL hown hK hP hD hS 12 rfl rfl 2 (by decide) (hT _ wd_140) (fun _ h9 => h9) rfl pf_I rfl rfl (Nat.le_of_ble_eq_true rfl) dL_keepAll_10 (fun H locs hP hD hS => ?_)
  obtain ⟨I3, eI3⟩ : ∃ z : SI, z = va_up I1 12 (upd (I1 12) 2 v2) := ⟨_, rfl⟩
  have hm := nm_to eI3 hm
  have hP := P_eq (ws2 := wsM ad cI cJ cG I3 J) hP (by rw [eI3]; rfl)
  have hD := D_eq (ws2 := wsM ad cI cJ cG I3 J) hD (by rw [eI3]; rfl)
  refine lv_aload_n hx hb dL_keepAll_13 rfl (lv_at hl 0 rfl) ?_
  refine lv_iconst (v := 0) hx hb dL_keepAll_14 (by decide) ?_
  refine va_put (D := D) (ci := 1) (v := .int 0) (ty := .int) (C := RL) (T := TL) (N := 7) hx hb hT inL tyL okL nmL hown hK hP hD hS 12 rfl rfl 3 (by decide) (hT _ wd_143) (fun _ h9 => h9) rfl pf_I rfl rfl (Nat.le_of_ble_eq_true rfl) dL_keepAll_15 (fun H locs hP hD hS => ?_)
  obtain ⟨I4, eI4⟩ : ∃ z : SI, z = va_up I3 12 (upd (I3 12) 3 0) := ⟨_, rfl⟩
  have hm := nm_to eI4 hm
  have hP := P_eq (ws2 := wsM ad cI cJ cG I4 J) hP (by rw [eI4]; rfl)
  have hD := D_eq (ws2 := wsM ad cI cJ cG I4 J) hD (by rw [eI4]; rfl)
  refine lv_iconst (v := 0) hx hb dL_keepAll_18 (by decide) ?_
  refine lv_istore_n (lv' := [(2, .int 0), (0, .ref (ad 12)), (1, .int x1)]) hx hb dL_keepAll_19 rfl hl (by decide) rfl (fun ls hl => ?_)
  exact hk20 0 I4 J hm _ _ _ hP hD hS (lv_sub hl [1, 0] rfl)
set_option maxHeartbeats 4000000 in
theorem gw_L_keepAll {p : Program} {l : Launch} {e : Env} {s : State} {m : MethodId} {args : Array Value} {below : List Frame} {meth : Method} {c : Code} {D : va_G} {A : Nat → Prop} {ad : Nat → Nat} {cI cJ cG : ClassId} {res : SI × SJ} (X : Cx p s m args meth c bL_keepAll none 3 RL) (hK : va_K D vwCl (tysM cI cJ cG) s) (hN : NWs s) (hA : ∀ q, s.heap.size ≤ q → A q) : ∀ n : Nat, (∀ (x2 : Int32) (I : SI) (J : SJ), (g_L_keepAll n).1 x2 I J = some res → WB p l e (headSpec (Cond.code yL_keepAll bL_keepAll 3 none :: gtb) rm_L_keepAll).room s m args below meth c (MQ below (va_Qv (fun (u : SI × SJ) => u = res) (atW D vwCl (tysM cI cJ cG) A (wsM ad cI cJ cG)) A) args s 0 0 A) D vwCl A 3 (wsM ad cI cJ cG I J) 20 [(0, .ref (ad 12)), (2, .int x2)] []) ∧ (∀ (x2 : Int32) (I : SI) (J : SJ), (g_L_keepAll n).2.1 x2 I J = some res → WB p l e (headSpec (Cond.code yL_keepAll bL_keepAll 3 none :: gtb) rm_L_keepAll).room s m args below meth c (MQ below (va_Qv (fun (u : SI × SJ) => u = res) (atW D vwCl (tysM cI cJ cG) A (wsM ad cI cJ cG)) A) args s 0 0 A) D vwCl A 3 (wsM ad cI cJ cG I J) 39 [(0, .ref (ad 12)), (2, .int x2)] []) ∧ (∀ (x2 : Int32) (I : SI) (J : SJ), (g_L_keepAll n).2.2 x2 I J = some res → WB p l e (headSpec (Cond.code yL_keepAll bL_keepAll 3 none :: gtb) rm_L_keepAll).room s m args below meth c (MQ below (va_Qv (fun (u : SI × SJ) => u = res) (atW D vwCl (tysM cI cJ cG) A (wsM ad cI cJ cG)) A) args s 0 0 A) D vwCl A 3 (wsM ad cI cJ cG I J) 66 [(0, .ref (ad 12)), (2, .int x2)] []) := by
  intro n
  induction n with
  | zero => exact ⟨fun _ _ _ h => (by cases h), fun _ _ _ h => (by cases h), fun _ _ _ h => (by cases h)⟩
  | succ n ih =>
    obtain ⟨ih20, ih39, ih66⟩ := ih
    exact ⟨fun x2 I J h => w_L_keepAll_20 X hK hN hA ih20 ih39 x2 I J h, fun x2 I J h => w_L_keepAll_39 X hK hN hA ih39 ih66 x2 I J h, fun x2 I J h => w_L_keepAll_66 X hK hN hA ih66 x2 I J h⟩
set_option maxHeartbeats 4000000 in
set_option maxRecDepth 100000 in
theorem c_L_keepAll (l : Launch) (D : va_G) (ad : Nat → Nat) (cI cJ cG : ClassId) (sz : Nat) (x1 : Int32) (I : SI) (J : SJ) (res : SI × SJ) (hm : m_L_keepAll x1 I J = some res) : Met l yL_keepAll (Cond.code yL_keepAll bL_keepAll 3 none :: gtb) rm_L_keepAll (va_Pc [.ref (ad 12), .int x1] (preW D vwCl (tysM cI cJ cG) (wsM ad cI cJ cG I J) sz)) (va_Qv (fun (u : SI × SJ) => u = res) (atW D vwCl (tysM cI cJ cG) (va_A (wsM ad cI cJ cG I J) sz) (wsM ad cI cJ cG)) (va_A (wsM ad cI cJ cG I J) sz)) 0 0 (va_A (wsM ad cI cJ cG I J) sz) := by
  refine Met.ofW (cc := bL_keepAll) (maxL := 3) (ret := none) (by decide) rfl ?_
  intro p e s m args below meth c s₁ B hml hv
  obtain ⟨rfl, hsz, hP, hK, hD0, hN⟩ := hv
  subst hsz
  have X : Cx p s m [.ref (ad 12), .int x1].toArray meth c bL_keepAll none 3 RL := ⟨B.exec, B.bytes, B.returns, hml, findClass_of_methodNamed B.named, fun w h => atoms_spec (ws := (Cond.code yL_keepAll bL_keepAll 3 none :: gtb)) B.pre w (List.mem_cons_of_mem _ h), B.notSynchronized⟩
  have hl := lv_entry ([.ref (ad 12), .int x1]) (n := 3) (Nat.le_of_ble_eq_true rfl)
  rw [lg_entry_eq]
  generalize (lg_sl ([.ref (ad 12), .int x1]) ++ List.replicate (3 - (lg_sl ([.ref (ad 12), .int x1])).length) Slot.unset).toArray = ls at hl ⊢
  have hl : lv_has ls 3 [(0, .ref (ad 12)), (1, .int x1)] := hl
  have hA : ∀ q, s.heap.size ≤ q → va_A (wsM ad cI cJ cG I J) s.heap.size q := fun q h => Or.inr h
  exact w_L_keepAll_0 X hK hN hA (gw_L_keepAll X hK hN hA fuel).1 x1 I J hm _ _ _ hP hD0.self va_S.rf hl
def b_L_leaveOut_42 (k42 : Int32 → Int32 → Int32 → Int32 → SI → SJ → Option (Int32 × SI × SJ)) (x2 : Int32) (x3 : Int32) (x4 : Int32) (x5 : Int32) (I : SI) (J : SJ) : Option (Int32 × SI × SJ) :=
  if 18 ≤ x5 then
    gd (vin x2 7) <|
    nm (I 13 x2.toNatClampNeg) fun v3 =>
    if v3 = x3 then
      gd (vin x2 7) <|
      nm (I 14 x2.toNatClampNeg) fun v6 =>
      if v6 = x4 then
        some (0, I, J)
      else
        some (1, I, J)
    else
      some (1, I, J)
  else
    cl1 (m_F_hasBound (I 12 3) x5) fun r8 =>
    if r8 = 0 then
      nm (x5 + 1) fun v11 =>
      k42 x2 x3 x4 v11 I J
    else
      cl1 (m_F_rowOf x5) fun r12 =>
      if r12 = x2 then
        cl2 (m_L_keep x5 I J) fun I17 J18 =>
        nm (x5 + 1) fun v20 =>
        k42 x2 x3 x4 v20 I17 J18
      else
        nm (x5 + 1) fun v15 =>
        k42 x2 x3 x4 v15 I J
def b_L_leaveOut_0 (k42 : Int32 → Int32 → Int32 → Int32 → SI → SJ → Option (Int32 × SI × SJ)) (x1 : Int32) (I : SI) (J : SJ) : Option (Int32 × SI × SJ) :=
  cl1 (m_F_rowOf x1) fun r1 =>
  gd (vin r1 7) <|
  nm (I 13 r1.toNatClampNeg) fun v4 =>
  gd (vin r1 7) <|
  nm (I 14 r1.toNatClampNeg) fun v6 =>
  nm (1 <<< (x1 &&& 31)) fun v7 =>
  nm (v7 ^^^ (-1)) fun v8 =>
  nm ((I 12 3) &&& v8) fun v9 =>
  nm (va_up I 12 (upd (I 12) 3 v9)) fun I10 =>
  cl2 (m_L_widen r1 I10 J) fun I12 J13 =>
  k42 r1 v4 v6 0 I12 J13
def g_L_leaveOut : Nat → (Int32 → Int32 → Int32 → Int32 → SI → SJ → Option (Int32 × SI × SJ))
  | 0 => (fun _ _ _ _ _ _ => none)
  | n + 1 => (fun x2 x3 x4 x5 I J => b_L_leaveOut_42 (g_L_leaveOut n) x2 x3 x4 x5 I J)
def m_L_leaveOut (x1 : Int32) (I : SI) (J : SJ) : Option (Int32 × SI × SJ) := b_L_leaveOut_0 (g_L_leaveOut fuel) x1 I J
def rm_L_leaveOut : Room := { frames := 3, cells := 0, slots := 0, locals := 65 }
set_option maxHeartbeats 4000000 in
set_option maxRecDepth 100000 in
theorem w_L_leaveOut_42 {p : Program} {l : Launch} {e : Env} {s : State} {m : MethodId} {args : Array Value} {below : List Frame} {meth : Method} {c : Code} {D : va_G} {A : Nat → Prop} {ad : Nat → Nat} {cI cJ cG : ClassId} {res : Int32 × SI × SJ} (X : Cx p s m args meth c bL_leaveOut (some .boolean) 6 RL) (hK : va_K D vwCl (tysM cI cJ cG) s) (hN : NWs s) (hA : ∀ q, s.heap.size ≤ q → A q)
    {k42 : Int32 → Int32 → Int32 → Int32 → SI → SJ → Option (Int32 × SI × SJ)} (hk42 : ∀ (x2 : Int32) (x3 : Int32) (x4 : Int32) (x5 : Int32) (I : SI) (J : SJ), k42 x2 x3 x4 x5 I J = some res → WB p l e (headSpec (Cond.code yL_leaveOut bL_leaveOut 6 (some .boolean) :: gtb) rm_L_leaveOut).room s m args below meth c (MQ below (va_Qi (fun (r : Int32) (u : SI × SJ) => (r, u) = res) (atW D vwCl (tysM cI cJ cG) A (wsM ad cI cJ cG)) A) args s 0 0 A) D vwCl A 6 (wsM ad cI cJ cG I J) 42 [(0, .ref (ad 12)), (2, .int x2), (3, .int x3), (4, .int x4), (5, .int x5)] [])
     (x2 : Int32) (x3 : Int32) (x4 : Int32) (x5 : Int32) (I : SI) (J : SJ) (hm : b_L_leaveOut_42 k42 x2 x3 x4 x5 I J = some res) : WB p l e (headSpec (Cond.code yL_leaveOut bL_leaveOut 6 (some .boolean) :: gtb) rm_L_leaveOut).room s m args below meth c (MQ below (va_Qi (fun (r : Int32) (u : SI × SJ) => (r, u) = res) (atW D vwCl (tysM cI cJ cG) A (wsM ad cI cJ cG)) A) args s 0 0 A) D vwCl A 6 (wsM ad cI cJ cG I J) 42 [(0, .ref (ad 12)), (2, .int x2), (3, .int x3), (4, .int x4), (5, .int x5)] [] := by
  obtain ⟨hx, hb, hr, hml, hown, hT, hlk⟩ := X
  intro H locs ls hP hD hS hl
  unfold b_L_leaveOut_42 at hm
  refine lv_iload hx hb dL_leaveOut_42 (lv_at hl 4 rfl) ?_
  refine lv_bipush (v := 18) hx hb dL_leaveOut_44 (by decide) ?_
  refine lv_icmp_ge (tgt := 82) hx hb dL_leaveOut_46 (by decide) (fun c1 => ?_) (fun c1 => ?_)
  · have hm := brp hm c1
    refine lv_aload_n hx hb dL_leaveOut_82 rfl (lv_at hl 0 rfl) ?_
    refine va_get (D := D) (ci := 1) (v := .ref (ad 13)) (C := RL) (T := TL) (N := 7) hx hb hT inL hown hK hP 12 rfl rfl 4 (by decide) (hT _ wd_145) (fun _ h9 => h9) rfl dL_leaveOut_83 ?_
    refine lv_iload_n hx hb dL_leaveOut_86 rfl (lv_at hl 1 rfl) ?_
    obtain ⟨g2, hm⟩ := gd_to hm
    refine va_iald hx hb hK hP 13 0 rfl rfl g2 dL_leaveOut_87 ?_
    refine lv_topi (fun v3 ev3 => ?_)
    have hm := nm_to ev3 hm
    refine lv_iload_n hx hb dL_leaveOut_88 rfl (lv_at hl 2 rfl) ?_
    refine lv_icmp_ne (tgt := 103) hx hb dL_leaveOut_89 (by decide) (fun c4 => ?_) (fun c4 => ?_)
    · have hm := brn hm c4
      refine lv_iconst (v := 1) hx hb dL_leaveOut_103 (by decide) ?_
      refine lv_goto (tgt := 108) hx hb dL_leaveOut_104 (by decide) ?_
      exact W.zret hx hb hr rfl (fun t ht hW => ⟨⟨1, (I, J), rfl, Option.some.inj hm, ht ▸ hP, va_K.moved hW.alike hK, hD⟩, hS.F ht⟩) hS.2.2 dL_leaveOut_108 hlk
    · have hm := brp hm c4
      refine lv_aload_n hx hb dL_leaveOut_92 rfl (lv_at hl 0 rfl) ?_
      refine va_get (D := D) (ci := 1) (v := .ref (ad 14)) (C := RL) (T := TL) (N := 7) hx hb hT inL hown hK hP 12 rfl rfl 5 (by decide) (hT _ wd_148) (fun _ h9 => h9) rfl dL_leaveOut_93 ?_
      refine lv_iload_n hx hb dL_leaveOut_96 rfl (lv_at hl 1 rfl) ?_
      obtain ⟨g5, hm⟩ := gd_to hm
      refine va_iald hx hb hK hP 14 0 rfl rfl g5 dL_leaveOut_97 ?_
      refine lv_topi (fun v6 ev6 => ?_)
      have hm := nm_to ev6 hm
      refine lv_iload hx hb dL_leaveOut_98 (lv_at hl 3 rfl) ?_
      refine lv_icmp_eq (tgt := 107) hx hb dL_leaveOut_100 (by decide) (fun c7 => ?_) (fun c7 => ?_)
      · have hm := brp hm c7
        refine lv_iconst (v := 0) hx hb dL_leaveOut_107 (by decide) ?_
        exact W.zret hx hb hr rfl (fun t ht hW => ⟨⟨0, (I, J), rfl, Option.some.inj hm, ht ▸ hP, va_K.moved hW.alike hK, hD⟩, hS.F ht⟩) hS.2.2 dL_leaveOut_108 hlk
      · have hm := brn hm c7
        refine lv_iconst (v := 1) hx hb dL_leaveOut_103 (by decide) ?_
        refine lv_goto (tgt := 108) hx hb dL_leaveOut_104 (by decide) ?_
        exact W.zret hx hb hr rfl (fun t ht hW => ⟨⟨1, (I, J), rfl, Option.some.inj hm, ht ▸ hP, va_K.moved hW.alike hK, hD⟩, hS.F ht⟩) hS.2.2 dL_leaveOut_108 hlk
  · have hm := brn hm c1
    refine lv_aload_n hx hb dL_leaveOut_49 rfl (lv_at hl 0 rfl) ?_
    refine va_get (D := D) (ci := 1) (v := .int (I 12 3)) (C := RL) (T := TL) (N := 7) hx hb hT inL hown hK hP 12 rfl rfl 3 (by decide) (hT _ wd_143) (fun _ h9 => h9) rfl dL_leaveOut_50 ?_
    refine lv_iload hx hb dL_leaveOut_53 (lv_at hl 4 rfl) ?_
    obtain ⟨r8, hc9, hm⟩ := cl1_to hm
    refine pstZ_i hS (va_runSN (As := [.int (I 12 3), .int x5]) (rest := []) ⟨hx, hb, hml, hown, hT⟩ (c_F_hasBound l (I 12 3) x5 _ hc9) ⟨va_cnB 2 hT (gtb_good wd_481) rfl rfl rfl (hN _ nw_486) (hT _ wd_51) (by decide +kernel) ⟨Nat.le_of_ble_eq_true rfl, Nat.le_of_ble_eq_true rfl⟩, hT _ wd_480, trivial⟩ ⟨preZ_fb, preZ_at⟩ rfl rfl hl.1 rfl (lv_room (Nat.le_of_ble_eq_true rfl)) dL_leaveOut_55 ⟨Nat.zero_le _, Nat.zero_le _⟩) (fun H1 locs hq hS => ?_)
    have hP := keptP hP hq
    refine lv_if_eq (tgt := 76) hx hb dL_leaveOut_58 (by decide) (fun c10 => ?_) (fun c10 => ?_)
    · have hm := brp hm c10
      obtain ⟨v11, ev11⟩ : ∃ z : Int32, z = x5 + 1 := ⟨_, rfl⟩
      have hm := nm_to ev11 hm
      refine lv_iinc (v := v11) (lv' := [(5, .int v11), (0, .ref (ad 12)), (2, .int x2), (3, .int x3), (4, .int x4)]) hx hb dL_leaveOut_76 hl (k := 4) rfl (by rw [ev11]; rfl) (by decide) rfl (fun ls hl => ?_)
      refine lv_goto (tgt := 42) hx hb dL_leaveOut_79 (by decide) ?_
      exact hk42 x2 x3 x4 v11 I J hm _ _ _ hP hD hS (lv_sub hl [1, 2, 3, 4, 0] rfl)
    · have hm := brn hm c10
      refine lv_iload hx hb dL_leaveOut_61 (lv_at hl 4 rfl) ?_
      obtain ⟨r12, hc13, hm⟩ := cl1_to hm
      refine pstZ_i hS (va_runSN (As := [.int x5]) (rest := []) ⟨hx, hb, hml, hown, hT⟩ (c_F_rowOf l x5 _ hc13) ⟨va_cnB 1 hT (gtb_good wd_352) rfl rfl rfl (hN _ nw_350) (hT _ wd_51) (by decide +kernel) ⟨Nat.le_of_ble_eq_true rfl, Nat.le_of_ble_eq_true rfl⟩, hT _ wd_351, trivial⟩ ⟨preZ_fb, preZ_at⟩ rfl rfl hl.1 rfl (lv_room (Nat.le_of_ble_eq_true rfl)) dL_leaveOut_63 ⟨Nat.zero_le _, Nat.zero_le _⟩) (fun H1 locs hq hS => ?_)
      have hP := keptP hP hq
      refine lv_iload_n hx hb dL_leaveOut_66 rfl (lv_at hl 1 rfl) ?_
      refine lv_icmp_ne (tgt := 76) hx hb dL_leaveOut_67 (by decide) (fun c14 => ?_) (fun c14 => ?_)
      · have hm := brn hm c14
        obtain ⟨v15, ev15⟩ : ∃ z : Int32, z = x5 + 1 := ⟨_, rfl⟩
        have hm := nm_to ev15 hm
        refine lv_iinc (v := v15) (lv' := [(5, .int v15), (0, .ref (ad 12)), (2, .int x2), (3, .int x3), (4, .int x4)]) hx hb dL_leaveOut_76 hl (k := 4) rfl (by rw [ev15]; rfl) (by decide) rfl (fun ls hl => ?_)
        refine lv_goto (tgt := 42) hx hb dL_leaveOut_79 (by decide) ?_
        exact hk42 x2 x3 x4 v15 I J hm _ _ _ hP hD hS (lv_sub hl [1, 2, 3, 4, 0] rfl)
      · have hm := brp hm c14
        refine lv_aload_n hx hb dL_leaveOut_70 rfl (lv_at hl 0 rfl) ?_
        refine lv_iload hx hb dL_leaveOut_71 (lv_at hl 4 rfl) ?_
        obtain ⟨I17, J18, hc19, hm⟩ := cl2_to hm
        refine pst_v (wf := wsM ad cI cJ cG) hD hS hA (va_runV (As := [.int x5]) (rest := []) ⟨hx, hb, hml, hown, hT⟩ (c_L_keep l D ad cI cJ cG _ x5 I J _ hc19) (cwV 1 hT (gV wd_353 wd_355 wd_6 wd_54 wd_356) rfl rfl rfl (by decide +kernel) ⟨Nat.le_of_ble_eq_true rfl, Nat.le_of_ble_eq_true rfl⟩) ⟨preW_fb, va_recv hK hP (ci := 1) (q0 := 12) rfl rfl, preW_at hP hK hN hD⟩ rfl rfl hl.1 rfl (lv_room (Nat.le_of_ble_eq_true rfl)) dL_leaveOut_73 ⟨Nat.zero_le _, Nat.zero_le _⟩) (fun H locs hP hD hS => ?_)
        obtain ⟨v20, ev20⟩ : ∃ z : Int32, z = x5 + 1 := ⟨_, rfl⟩
        have hm := nm_to ev20 hm
        refine lv_iinc (v := v20) (lv' := [(5, .int v20), (0, .ref (ad 12)), (2, .int x2), (3, .int x3), (4, .int x4)]) hx hb dL_leaveOut_76 hl (k := 4) rfl (by rw [ev20]; rfl) (by decide) rfl (fun ls hl => ?_)
        refine lv_goto (tgt := 42) hx hb dL_leaveOut_79 (by decide) ?_
        exact hk42 x2 x3 x4 v20 I17 J18 hm _ _ _ hP hD hS (lv_sub hl [1, 2, 3, 4, 0] rfl)
set_option maxHeartbeats 4000000 in
set_option maxRecDepth 100000 in
theorem w_L_leaveOut_0 {p : Program} {l : Launch} {e : Env} {s : State} {m : MethodId} {args : Array Value} {below : List Frame} {meth : Method} {c : Code} {D : va_G} {A : Nat → Prop} {ad : Nat → Nat} {cI cJ cG : ClassId} {res : Int32 × SI × SJ} (X : Cx p s m args meth c bL_leaveOut (some .boolean) 6 RL) (hK : va_K D vwCl (tysM cI cJ cG) s) (hN : NWs s) (hA : ∀ q, s.heap.size ≤ q → A q)
    {k42 : Int32 → Int32 → Int32 → Int32 → SI → SJ → Option (Int32 × SI × SJ)} (hk42 : ∀ (x2 : Int32) (x3 : Int32) (x4 : Int32) (x5 : Int32) (I : SI) (J : SJ), k42 x2 x3 x4 x5 I J = some res → WB p l e (headSpec (Cond.code yL_leaveOut bL_leaveOut 6 (some .boolean) :: gtb) rm_L_leaveOut).room s m args below meth c (MQ below (va_Qi (fun (r : Int32) (u : SI × SJ) => (r, u) = res) (atW D vwCl (tysM cI cJ cG) A (wsM ad cI cJ cG)) A) args s 0 0 A) D vwCl A 6 (wsM ad cI cJ cG I J) 42 [(0, .ref (ad 12)), (2, .int x2), (3, .int x3), (4, .int x4), (5, .int x5)] [])
     (x1 : Int32) (I : SI) (J : SJ) (hm : b_L_leaveOut_0 k42 x1 I J = some res) : WB p l e (headSpec (Cond.code yL_leaveOut bL_leaveOut 6 (some .boolean) :: gtb) rm_L_leaveOut).room s m args below meth c (MQ below (va_Qi (fun (r : Int32) (u : SI × SJ) => (r, u) = res) (atW D vwCl (tysM cI cJ cG) A (wsM ad cI cJ cG)) A) args s 0 0 A) D vwCl A 6 (wsM ad cI cJ cG I J) 0 [(0, .ref (ad 12)), (1, .int x1)] [] := by
  obtain ⟨hx, hb, hr, hml, hown, hT, hlk⟩ := X
  intro H locs ls hP hD hS hl
  unfold b_L_leaveOut_0 at hm
  refine lv_iload_n hx hb dL_leaveOut_0 rfl (lv_at hl 1 rfl) ?_
  obtain ⟨r1, hc2, hm⟩ := cl1_to hm
  refine pstZ_i hS (va_runSN (As := [.int x1]) (rest := []) ⟨hx, hb, hml, hown, hT⟩ (c_F_rowOf l x1 _ hc2) ⟨va_cnB 1 hT (gtb_good wd_352) rfl rfl rfl (hN _ nw_350) (hT _ wd_51) (by decide +kernel) ⟨Nat.le_of_ble_eq_true rfl, Nat.le_of_ble_eq_true rfl⟩, hT _ wd_351, trivial⟩ ⟨preZ_fb, preZ_at⟩ rfl rfl hl.1 rfl (lv_room (Nat.le_of_ble_eq_true rfl)) dL_leaveOut_1 ⟨Nat.zero_le _, Nat.zero_le _⟩) (fun H1 locs hq hS => ?_)
  have hP := keptP hP hq
  refine lv_istore_n (lv' := [(2, .int r1), (0, .ref (ad 12)), (1, .int x1)]) hx hb dL_leaveOut_4 rfl hl (by decide) rfl (fun ls hl => ?_)
  refine lv_aload_n hx hb dL_leaveOut_5 rfl (lv_at hl 1 rfl) ?_
  refine va_get (D := D) (ci := 1) (v := .ref (ad 13)) (C := RL) (T := TL) (N := 7) hx hb hT inL hown hK hP 12 rfl rfl 4 (by decide) (hT _ wd_145) (fun _ h9 => h9) rfl dL_leaveOut_6 ?_
  refine lv_iload_n hx hb dL_leaveOut_9 rfl (lv_at hl 0 rfl) ?_
  obtain ⟨g3, hm⟩ := gd_to hm
  refine va_iald hx hb hK hP 13 0 rfl rfl g3 dL_leaveOut_10 ?_
  refine lv_topi (fun v4 ev4 => ?_)
  have hm := nm_to ev4 hm
  refine lv_istore_n (lv' := [(3, .int v4), (2, .int r1), (0, .ref (ad 12)), (1, .int x1)]) hx hb dL_leaveOut_11 rfl hl (by decide) rfl (fun ls hl => ?_)
  refine lv_aload_n hx hb dL_leaveOut_12 rfl (lv_at hl 2 rfl) ?_
  refine va_get (D := D) (ci := 1) (v := .ref (ad 14)) (C := RL) (T := TL) (N := 7) hx hb hT inL hown hK hP 12 rfl rfl 5 (by decide) (hT _ wd_148) (fun _ h9 => h9) rfl dL_leaveOut_13 ?_
  refine lv_iload_n hx hb dL_leaveOut_16 rfl (lv_at hl 1 rfl) ?_
  obtain ⟨g5, hm⟩ := gd_to hm
  refine va_iald hx hb hK hP 14 0 rfl rfl g5 dL_leaveOut_17 ?_
  refine lv_topi (fun v6 ev6 => ?_)
  have hm := nm_to ev6 hm
  refine lv_istore (lv' := [(4, .int v6), (3, .int v4), (2, .int r1), (0, .ref (ad 12)), (1, .int x1)]) hx hb dL_leaveOut_18 hl (by decide) rfl (fun ls hl => ?_)
  refine lv_aload_n hx hb dL_leaveOut_20 rfl (lv_at hl 3 rfl) ?_
  refine lv_dup hx hb dL_leaveOut_21 rfl ?_
  refine va_get (D := D) (ci := 1) (v := .int (I 12 3)) (C := RL) (T := TL) (N := 7) hx hb hT inL hown hK hP 12 rfl rfl 3 (by decide) (hT _ wd_143) (fun _ h9 => h9) rfl dL_leaveOut_22 ?_
  refine lv_iconst (v := 1) hx hb dL_leaveOut_25 (by decide) ?_
  refine lv_iload_n hx hb dL_leaveOut_26 rfl (lv_at hl 4 rfl) ?_
  refine lv_ishl hx hb dL_leaveOut_27 ?_
  refine lv_topi (fun v7 ev7 => ?_)
  have hm := nm_to ev7 hm
  refine lv_iconst (v := (-1)) hx hb dL_leaveOut_28 (by decide) ?_
  refine lv_ixor hx hb dL_leaveOut_29 ?_
  refine lv_topi (fun v8 ev8 => ?_)
  have hm := nm_to ev8 hm
  refine lv_iand hx hb dL_leaveOut_30 ?_
  refine lv_topi (fun v9 ev9 => ?_)
  have hm := nm_to ev9 hm
  refine va_put (D := D) (ci := 1) (v := .int v9) (ty := .int) (C := RL) (T := TL) (N := 7) hx hb hT inL tyL okL nmL hown hK hP hD hS 12 rfl rfl 3 (by decide) (hT _ wd_143) (fun _ h9 => h9) rfl pf_I rfl rfl (Nat.le_of_ble_eq_true rfl) dL_leaveOut_31 (fun H locs hP hD hS => ?_)
  obtain ⟨I10, eI10⟩ : ∃ z : SI, z = va_up I 12 (upd (I 12) 3 v9) := ⟨_, rfl⟩
  have hm := nm_to eI10 hm
  have hP := P_eq (ws2 := wsM ad cI cJ cG I10 J) hP (by rw [eI10]; rfl)
  have hD := D_eq (ws2 := wsM ad cI cJ cG I10 J) hD (by rw [eI10]; rfl)
  refine lv_aload_n hx hb dL_leaveOut_34 rfl (lv_at hl 3 rfl) ?_
  refine lv_iload_n hx hb dL_leaveOut_35 rfl (lv_at hl 2 rfl) ?_
  obtain ⟨I12, J13, hc14, hm⟩ := cl2_to hm
  refine pst_v (wf := wsM ad cI cJ cG) hD hS hA (va_runV (As := [.int r1]) (rest := []) ⟨hx, hb, hml, hown, hT⟩ (c_L_widen l D ad cI cJ cG _ r1 I10 J _ hc14) (cwV 1 hT (gV wd_342 wd_344 wd_4 wd_54 wd_345) rfl rfl rfl (by decide +kernel) ⟨Nat.le_of_ble_eq_true rfl, Nat.le_of_ble_eq_true rfl⟩) ⟨preW_fb, va_recv hK hP (ci := 1) (q0 := 12) rfl rfl, preW_at hP hK hN hD⟩ rfl rfl hl.1 rfl (lv_room (Nat.le_of_ble_eq_true rfl)) dL_leaveOut_36 ⟨Nat.zero_le _, Nat.zero_le _⟩) (fun H locs hP hD hS => ?_)
  refine lv_iconst (v := 0) hx hb dL_leaveOut_39 (by decide) ?_
  refine lv_istore (lv' := [(5, .int 0), (4, .int v6), (3, .int v4), (2, .int r1), (0, .ref (ad 12)), (1, .int x1)]) hx hb dL_leaveOut_40 hl (by decide) rfl (fun ls hl => ?_)
  exact hk42 r1 v4 v6 0 I12 J13 hm _ _ _ hP hD hS (lv_sub hl [4, 3, 2, 1, 0] rfl)
set_option maxHeartbeats 4000000 in
theorem gw_L_leaveOut {p : Program} {l : Launch} {e : Env} {s : State} {m : MethodId} {args : Array Value} {below : List Frame} {meth : Method} {c : Code} {D : va_G} {A : Nat → Prop} {ad : Nat → Nat} {cI cJ cG : ClassId} {res : Int32 × SI × SJ} (X : Cx p s m args meth c bL_leaveOut (some .boolean) 6 RL) (hK : va_K D vwCl (tysM cI cJ cG) s) (hN : NWs s) (hA : ∀ q, s.heap.size ≤ q → A q) : ∀ n : Nat, (∀ (x2 : Int32) (x3 : Int32) (x4 : Int32) (x5 : Int32) (I : SI) (J : SJ), (g_L_leaveOut n) x2 x3 x4 x5 I J = some res → WB p l e (headSpec (Cond.code yL_leaveOut bL_leaveOut 6 (some .boolean) :: gtb) rm_L_leaveOut).room s m args below meth c (MQ below (va_Qi (fun (r : Int32) (u : SI × SJ) => (r, u) = res) (atW D vwCl (tysM cI cJ cG) A (wsM ad cI cJ cG)) A) args s 0 0 A) D vwCl A 6 (wsM ad cI cJ cG I J) 42 [(0, .ref (ad 12)), (2, .int x2), (3, .int x3), (4, .int x4), (5, .int x5)] []) := by
  intro n
  induction n with
  | zero => exact fun _ _ _ _ _ _ h => (by cases h)
  | succ n ih =>
    have ih42 := ih
    exact fun x2 x3 x4 x5 I J h => w_L_leaveOut_42 X hK hN hA ih42 x2 x3 x4 x5 I J h
set_option maxHeartbeats 4000000 in
set_option maxRecDepth 100000 in
theorem c_L_leaveOut (l : Launch) (D : va_G) (ad : Nat → Nat) (cI cJ cG : ClassId) (sz : Nat) (x1 : Int32) (I : SI) (J : SJ) (res : Int32 × SI × SJ) (hm : m_L_leaveOut x1 I J = some res) : Met l yL_leaveOut (Cond.code yL_leaveOut bL_leaveOut 6 (some .boolean) :: gtb) rm_L_leaveOut (va_Pc [.ref (ad 12), .int x1] (preW D vwCl (tysM cI cJ cG) (wsM ad cI cJ cG I J) sz)) (va_Qi (fun (r : Int32) (u : SI × SJ) => (r, u) = res) (atW D vwCl (tysM cI cJ cG) (va_A (wsM ad cI cJ cG I J) sz) (wsM ad cI cJ cG)) (va_A (wsM ad cI cJ cG I J) sz)) 0 0 (va_A (wsM ad cI cJ cG I J) sz) := by
  refine Met.ofW (cc := bL_leaveOut) (maxL := 6) (ret := (some .boolean)) (by decide) rfl ?_
  intro p e s m args below meth c s₁ B hml hv
  obtain ⟨rfl, hsz, hP, hK, hD0, hN⟩ := hv
  subst hsz
  have X : Cx p s m [.ref (ad 12), .int x1].toArray meth c bL_leaveOut (some .boolean) 6 RL := ⟨B.exec, B.bytes, B.returns, hml, findClass_of_methodNamed B.named, fun w h => atoms_spec (ws := (Cond.code yL_leaveOut bL_leaveOut 6 (some .boolean) :: gtb)) B.pre w (List.mem_cons_of_mem _ h), B.notSynchronized⟩
  have hl := lv_entry ([.ref (ad 12), .int x1]) (n := 6) (Nat.le_of_ble_eq_true rfl)
  rw [lg_entry_eq]
  generalize (lg_sl ([.ref (ad 12), .int x1]) ++ List.replicate (6 - (lg_sl ([.ref (ad 12), .int x1])).length) Slot.unset).toArray = ls at hl ⊢
  have hl : lv_has ls 6 [(0, .ref (ad 12)), (1, .int x1)] := hl
  have hA : ∀ q, s.heap.size ≤ q → va_A (wsM ad cI cJ cG I J) s.heap.size q := fun q h => Or.inr h
  exact w_L_leaveOut_0 X hK hN hA (gw_L_leaveOut X hK hN hA fuel) x1 I J hm _ _ _ hP hD0.self va_S.rf hl
def b_L_leaveRoomToStuffs_6 (k6 : Int32 → Int32 → Int32 → SI → SJ → Option (Int32 × SI × SJ)) (x1 : Int32) (x2 : Int32) (x3 : Int32) (I : SI) (J : SJ) : Option (Int32 × SI × SJ) :=
  if 4 ≤ x3 then
    if (I 12 2) < x1 then
      some (0, I, J)
    else
      if x2 < (I 12 2) then
        some (0, I, J)
      else
        some (1, I, J)
  else
    gd (vin x3 7) <|
    nm (I 13 x3.toNatClampNeg) fun v5 =>
    gd (vin x3 7) <|
    nm (I 14 x3.toNatClampNeg) fun v7 =>
    if v5 ≤ v7 then
      gd (vin x3 7) <|
      nm (I 13 x3.toNatClampNeg) fun v10 =>
      nm (x1 + v10) fun v11 =>
      gd (vin x3 7) <|
      nm (I 14 x3.toNatClampNeg) fun v13 =>
      nm (x2 + v13) fun v14 =>
      nm (x3 + 1) fun v15 =>
      k6 v11 v14 v15 I J
    else
      some (0, I, J)
def b_L_leaveRoomToStuffs_0 (k6 : Int32 → Int32 → Int32 → SI → SJ → Option (Int32 × SI × SJ)) (I : SI) (J : SJ) : Option (Int32 × SI × SJ) :=
  k6 0 0 0 I J
def g_L_leaveRoomToStuffs : Nat → (Int32 → Int32 → Int32 → SI → SJ → Option (Int32 × SI × SJ))
  | 0 => (fun _ _ _ _ _ => none)
  | n + 1 => (fun x1 x2 x3 I J => b_L_leaveRoomToStuffs_6 (g_L_leaveRoomToStuffs n) x1 x2 x3 I J)
def m_L_leaveRoomToStuffs (I : SI) (J : SJ) : Option (Int32 × SI × SJ) := b_L_leaveRoomToStuffs_0 (g_L_leaveRoomToStuffs fuel)  I J
def rm_L_leaveRoomToStuffs : Room := { frames := 0, cells := 0, slots := 0, locals := 0 }
set_option maxHeartbeats 4000000 in
set_option maxRecDepth 100000 in
theorem w_L_leaveRoomToStuffs_6 {p : Program} {l : Launch} {e : Env} {s : State} {m : MethodId} {args : Array Value} {below : List Frame} {meth : Method} {c : Code} {D : va_G} {A : Nat → Prop} {ad : Nat → Nat} {cI cJ cG : ClassId} {res : Int32 × SI × SJ} (X : Cx p s m args meth c bL_leaveRoomToStuffs (some .boolean) 4 RL) (hK : va_K D vwCl (tysM cI cJ cG) s) (hN : NWs s) (hA : ∀ q, s.heap.size ≤ q → A q)
    {k6 : Int32 → Int32 → Int32 → SI → SJ → Option (Int32 × SI × SJ)} (hk6 : ∀ (x1 : Int32) (x2 : Int32) (x3 : Int32) (I : SI) (J : SJ), k6 x1 x2 x3 I J = some res → WB p l e (headSpec (Cond.code yL_leaveRoomToStuffs bL_leaveRoomToStuffs 4 (some .boolean) :: gtb) rm_L_leaveRoomToStuffs).room s m args below meth c (MQ below (va_Qi (fun (r : Int32) (u : SI × SJ) => (r, u) = res) (atW D vwCl (tysM cI cJ cG) A (wsM ad cI cJ cG)) A) args s 0 0 A) D vwCl A 4 (wsM ad cI cJ cG I J) 6 [(0, .ref (ad 12)), (1, .int x1), (2, .int x2), (3, .int x3)] [])
     (x1 : Int32) (x2 : Int32) (x3 : Int32) (I : SI) (J : SJ) (hm : b_L_leaveRoomToStuffs_6 k6 x1 x2 x3 I J = some res) : WB p l e (headSpec (Cond.code yL_leaveRoomToStuffs bL_leaveRoomToStuffs 4 (some .boolean) :: gtb) rm_L_leaveRoomToStuffs).room s m args below meth c (MQ below (va_Qi (fun (r : Int32) (u : SI × SJ) => (r, u) = res) (atW D vwCl (tysM cI cJ cG) A (wsM ad cI cJ cG)) A) args s 0 0 A) D vwCl A 4 (wsM ad cI cJ cG I J) 6 [(0, .ref (ad 12)), (1, .int x1), (2, .int x2), (3, .int x3)] [] := by
  obtain ⟨hx, hb, hr, hml, hown, hT, hlk⟩ := X
  intro H locs ls hP hD hS hl
  unfold b_L_leaveRoomToStuffs_6 at hm
  refine lv_iload_n hx hb dL_leaveRoomToStuffs_6 rfl (lv_at hl 3 rfl) ?_
  refine lv_iconst (v := 4) hx hb dL_leaveRoomToStuffs_7 (by decide) ?_
  refine lv_icmp_ge (tgt := 52) hx hb dL_leaveRoomToStuffs_8 (by decide) (fun c1 => ?_) (fun c1 => ?_)
  · have hm := brp hm c1
    refine lv_iload_n hx hb dL_leaveRoomToStuffs_52 rfl (lv_at hl 1 rfl) ?_
    refine lv_aload_n hx hb dL_leaveRoomToStuffs_53 rfl (lv_at hl 0 rfl) ?_
    refine va_get (D := D) (ci := 1) (v := .int (I 12 2)) (C := RL) (T := TL) (N := 7) hx hb hT inL hown hK hP 12 rfl rfl 2 (by decide) (hT _ wd_140) (fun _ h9 => h9) rfl dL_leaveRoomToStuffs_54 ?_
    refine lv_icmp_gt (tgt := 72) hx hb dL_leaveRoomToStuffs_57 (by decide) (fun c2 => ?_) (fun c2 => ?_)
    · have hm := brp hm c2
      refine lv_iconst (v := 0) hx hb dL_leaveRoomToStuffs_72 (by decide) ?_
      exact W.zret hx hb hr rfl (fun t ht hW => ⟨⟨0, (I, J), rfl, Option.some.inj hm, ht ▸ hP, va_K.moved hW.alike hK, hD⟩, hS.F ht⟩) hS.2.2 dL_leaveRoomToStuffs_73 hlk
    · have hm := brn hm c2
      refine lv_aload_n hx hb dL_leaveRoomToStuffs_60 rfl (lv_at hl 0 rfl) ?_
      refine va_get (D := D) (ci := 1) (v := .int (I 12 2)) (C := RL) (T := TL) (N := 7) hx hb hT inL hown hK hP 12 rfl rfl 2 (by decide) (hT _ wd_140) (fun _ h9 => h9) rfl dL_leaveRoomToStuffs_61 ?_
      refine lv_iload_n hx hb dL_leaveRoomToStuffs_64 rfl (lv_at hl 2 rfl) ?_
      refine lv_icmp_gt (tgt := 72) hx hb dL_leaveRoomToStuffs_65 (by decide) (fun c3 => ?_) (fun c3 => ?_)
      · have hm := brp hm c3
        refine lv_iconst (v := 0) hx hb dL_leaveRoomToStuffs_72 (by decide) ?_
        exact W.zret hx hb hr rfl (fun t ht hW => ⟨⟨0, (I, J), rfl, Option.some.inj hm, ht ▸ hP, va_K.moved hW.alike hK, hD⟩, hS.F ht⟩) hS.2.2 dL_leaveRoomToStuffs_73 hlk
      · have hm := brn hm c3
        refine lv_iconst (v := 1) hx hb dL_leaveRoomToStuffs_68 (by decide) ?_
        refine lv_goto (tgt := 73) hx hb dL_leaveRoomToStuffs_69 (by decide) ?_
        exact W.zret hx hb hr rfl (fun t ht hW => ⟨⟨1, (I, J), rfl, Option.some.inj hm, ht ▸ hP, va_K.moved hW.alike hK, hD⟩, hS.F ht⟩) hS.2.2 dL_leaveRoomToStuffs_73 hlk
  · have hm := brn hm c1
    refine lv_aload_n hx hb dL_leaveRoomToStuffs_11 rfl (lv_at hl 0 rfl) ?_
    refine va_get (D := D) (ci := 1) (v := .ref (ad 13)) (C := RL) (T := TL) (N := 7) hx hb hT inL hown hK hP 12 rfl rfl 4 (by decide) (hT _ wd_145) (fun _ h9 => h9) rfl dL_leaveRoomToStuffs_12 ?_
    refine lv_iload_n hx hb dL_leaveRoomToStuffs_15 rfl (lv_at hl 3 rfl) ?_
    obtain ⟨g4, hm⟩ := gd_to hm
    refine va_iald hx hb hK hP 13 0 rfl rfl g4 dL_leaveRoomToStuffs_16 ?_
    refine lv_topi (fun v5 ev5 => ?_)
    have hm := nm_to ev5 hm
    refine lv_aload_n hx hb dL_leaveRoomToStuffs_17 rfl (lv_at hl 0 rfl) ?_
    refine va_get (D := D) (ci := 1) (v := .ref (ad 14)) (C := RL) (T := TL) (N := 7) hx hb hT inL hown hK hP 12 rfl rfl 5 (by decide) (hT _ wd_148) (fun _ h9 => h9) rfl dL_leaveRoomToStuffs_18 ?_
    refine lv_iload_n hx hb dL_leaveRoomToStuffs_21 rfl (lv_at hl 3 rfl) ?_
    obtain ⟨g6, hm⟩ := gd_to hm
    refine va_iald hx hb hK hP 14 0 rfl rfl g6 dL_leaveRoomToStuffs_22 ?_
    refine lv_topi (fun v7 ev7 => ?_)
    have hm := nm_to ev7 hm
    refine lv_icmp_le (tgt := 28) hx hb dL_leaveRoomToStuffs_23 (by decide) (fun c8 => ?_) (fun c8 => ?_)
    · have hm := brp hm c8
      refine lv_iload_n hx hb dL_leaveRoomToStuffs_28 rfl (lv_at hl 1 rfl) ?_
      refine lv_aload_n hx hb dL_leaveRoomToStuffs_29 rfl (lv_at hl 0 rfl) ?_
      refine va_get (D := D) (ci := 1) (v := .ref (ad 13)) (C := RL) (T := TL) (N := 7) hx hb hT inL hown hK hP 12 rfl rfl 4 (by decide) (hT _ wd_145) (fun _ h9 => h9) rfl dL_leaveRoomToStuffs_30 ?_
      refine lv_iload_n hx hb dL_leaveRoomToStuffs_33 rfl (lv_at hl 3 rfl) ?_
      obtain ⟨g9, hm⟩ := gd_to hm
      refine va_iald hx hb hK hP 13 0 rfl rfl g9 dL_leaveRoomToStuffs_34 ?_
      refine lv_topi (fun v10 ev10 => ?_)
      have hm := nm_to ev10 hm
      refine lv_iadd hx hb dL_leaveRoomToStuffs_35 ?_
      refine lv_topi (fun v11 ev11 => ?_)
      have hm := nm_to ev11 hm
      refine lv_istore_n (lv' := [(1, .int v11), (0, .ref (ad 12)), (2, .int x2), (3, .int x3)]) hx hb dL_leaveRoomToStuffs_36 rfl hl (by decide) rfl (fun ls hl => ?_)
      refine lv_iload_n hx hb dL_leaveRoomToStuffs_37 rfl (lv_at hl 2 rfl) ?_
      refine lv_aload_n hx hb dL_leaveRoomToStuffs_38 rfl (lv_at hl 1 rfl) ?_
      refine va_get (D := D) (ci := 1) (v := .ref (ad 14)) (C := RL) (T := TL) (N := 7) hx hb hT inL hown hK hP 12 rfl rfl 5 (by decide) (hT _ wd_148) (fun _ h9 => h9) rfl dL_leaveRoomToStuffs_39 ?_
      refine lv_iload_n hx hb dL_leaveRoomToStuffs_42 rfl (lv_at hl 3 rfl) ?_
      obtain ⟨g12, hm⟩ := gd_to hm
      refine va_iald hx hb hK hP 14 0 rfl rfl g12 dL_leaveRoomToStuffs_43 ?_
      refine lv_topi (fun v13 ev13 => ?_)
      have hm := nm_to ev13 hm
      refine lv_iadd hx hb dL_leaveRoomToStuffs_44 ?_
      refine lv_topi (fun v14 ev14 => ?_)
      have hm := nm_to ev14 hm
      refine lv_istore_n (lv' := [(2, .int v14), (1, .int v11), (0, .ref (ad 12)), (3, .int x3)]) hx hb dL_leaveRoomToStuffs_45 rfl hl (by decide) rfl (fun ls hl => ?_)
      obtain ⟨v15, ev15⟩ : ∃ z : Int32, z = x3 + 1 := ⟨_, rfl⟩
      have hm := nm_to ev15 hm
      refine lv_iinc (v := v15) (lv' := [(3, .int v15), (2, .int v14), (1, .int v11), (0, .ref (ad 12))]) hx hb dL_leaveRoomToStuffs_46 hl (k := 3) rfl (by rw [ev15]; rfl) (by decide) rfl (fun ls hl => ?_)
      refine lv_goto (tgt := 6) hx hb dL_leaveRoomToStuffs_49 (by decide) ?_
      exact hk6 v11 v14 v15 I J hm _ _ _ hP hD hS (lv_sub hl [3, 2, 1, 0] rfl)
    · have hm := brn hm c8
      refine lv_iconst (v := 0) hx hb dL_leaveRoomToStuffs_26 (by decide) ?_
      exact W.zret hx hb hr rfl (fun t ht hW => ⟨⟨0, (I, J), rfl, Option.some.inj hm, ht ▸ hP, va_K.moved hW.alike hK, hD⟩, hS.F ht⟩) hS.2.2 dL_leaveRoomToStuffs_27 hlk
set_option maxHeartbeats 4000000 in
set_option maxRecDepth 100000 in
theorem w_L_leaveRoomToStuffs_0 {p : Program} {l : Launch} {e : Env} {s : State} {m : MethodId} {args : Array Value} {below : List Frame} {meth : Method} {c : Code} {D : va_G} {A : Nat → Prop} {ad : Nat → Nat} {cI cJ cG : ClassId} {res : Int32 × SI × SJ} (X : Cx p s m args meth c bL_leaveRoomToStuffs (some .boolean) 4 RL) (hK : va_K D vwCl (tysM cI cJ cG) s) (hN : NWs s) (hA : ∀ q, s.heap.size ≤ q → A q)
    {k6 : Int32 → Int32 → Int32 → SI → SJ → Option (Int32 × SI × SJ)} (hk6 : ∀ (x1 : Int32) (x2 : Int32) (x3 : Int32) (I : SI) (J : SJ), k6 x1 x2 x3 I J = some res → WB p l e (headSpec (Cond.code yL_leaveRoomToStuffs bL_leaveRoomToStuffs 4 (some .boolean) :: gtb) rm_L_leaveRoomToStuffs).room s m args below meth c (MQ below (va_Qi (fun (r : Int32) (u : SI × SJ) => (r, u) = res) (atW D vwCl (tysM cI cJ cG) A (wsM ad cI cJ cG)) A) args s 0 0 A) D vwCl A 4 (wsM ad cI cJ cG I J) 6 [(0, .ref (ad 12)), (1, .int x1), (2, .int x2), (3, .int x3)] [])
     (I : SI) (J : SJ) (hm : b_L_leaveRoomToStuffs_0 k6  I J = some res) : WB p l e (headSpec (Cond.code yL_leaveRoomToStuffs bL_leaveRoomToStuffs 4 (some .boolean) :: gtb) rm_L_leaveRoomToStuffs).room s m args below meth c (MQ below (va_Qi (fun (r : Int32) (u : SI × SJ) => (r, u) = res) (atW D vwCl (tysM cI cJ cG) A (wsM ad cI cJ cG)) A) args s 0 0 A) D vwCl A 4 (wsM ad cI cJ cG I J) 0 [(0, .ref (ad 12))] [] := by
  obtain ⟨hx, hb, hr, hml, hown, hT, hlk⟩ := X
  intro H locs ls hP hD hS hl
  unfold b_L_leaveRoomToStuffs_0 at hm
  refine lv_iconst (v := 0) hx hb dL_leaveRoomToStuffs_0 (by decide) ?_
  refine lv_istore_n (lv' := [(1, .int 0), (0, .ref (ad 12))]) hx hb dL_leaveRoomToStuffs_1 rfl hl (by decide) rfl (fun ls hl => ?_)
  refine lv_iconst (v := 0) hx hb dL_leaveRoomToStuffs_2 (by decide) ?_
  refine lv_istore_n (lv' := [(2, .int 0), (1, .int 0), (0, .ref (ad 12))]) hx hb dL_leaveRoomToStuffs_3 rfl hl (by decide) rfl (fun ls hl => ?_)
  refine lv_iconst (v := 0) hx hb dL_leaveRoomToStuffs_4 (by decide) ?_
  refine lv_istore_n (lv' := [(3, .int 0), (2, .int 0), (1, .int 0), (0, .ref (ad 12))]) hx hb dL_leaveRoomToStuffs_5 rfl hl (by decide) rfl (fun ls hl => ?_)
  exact hk6 0 0 0 I J hm _ _ _ hP hD hS (lv_sub hl [3, 2, 1, 0] rfl)
set_option maxHeartbeats 4000000 in
theorem gw_L_leaveRoomToStuffs {p : Program} {l : Launch} {e : Env} {s : State} {m : MethodId} {args : Array Value} {below : List Frame} {meth : Method} {c : Code} {D : va_G} {A : Nat → Prop} {ad : Nat → Nat} {cI cJ cG : ClassId} {res : Int32 × SI × SJ} (X : Cx p s m args meth c bL_leaveRoomToStuffs (some .boolean) 4 RL) (hK : va_K D vwCl (tysM cI cJ cG) s) (hN : NWs s) (hA : ∀ q, s.heap.size ≤ q → A q) : ∀ n : Nat, (∀ (x1 : Int32) (x2 : Int32) (x3 : Int32) (I : SI) (J : SJ), (g_L_leaveRoomToStuffs n) x1 x2 x3 I J = some res → WB p l e (headSpec (Cond.code yL_leaveRoomToStuffs bL_leaveRoomToStuffs 4 (some .boolean) :: gtb) rm_L_leaveRoomToStuffs).room s m args below meth c (MQ below (va_Qi (fun (r : Int32) (u : SI × SJ) => (r, u) = res) (atW D vwCl (tysM cI cJ cG) A (wsM ad cI cJ cG)) A) args s 0 0 A) D vwCl A 4 (wsM ad cI cJ cG I J) 6 [(0, .ref (ad 12)), (1, .int x1), (2, .int x2), (3, .int x3)] []) := by
  intro n
  induction n with
  | zero => exact fun _ _ _ _ _ h => (by cases h)
  | succ n ih =>
    have ih6 := ih
    exact fun x1 x2 x3 I J h => w_L_leaveRoomToStuffs_6 X hK hN hA ih6 x1 x2 x3 I J h
set_option maxHeartbeats 4000000 in
set_option maxRecDepth 100000 in
theorem c_L_leaveRoomToStuffs (l : Launch) (D : va_G) (ad : Nat → Nat) (cI cJ cG : ClassId) (sz : Nat) (I : SI) (J : SJ) (res : Int32 × SI × SJ) (hm : m_L_leaveRoomToStuffs  I J = some res) : Met l yL_leaveRoomToStuffs (Cond.code yL_leaveRoomToStuffs bL_leaveRoomToStuffs 4 (some .boolean) :: gtb) rm_L_leaveRoomToStuffs (va_Pc [.ref (ad 12)] (preW D vwCl (tysM cI cJ cG) (wsM ad cI cJ cG I J) sz)) (va_Qi (fun (r : Int32) (u : SI × SJ) => (r, u) = res) (atW D vwCl (tysM cI cJ cG) (va_A (wsM ad cI cJ cG I J) sz) (wsM ad cI cJ cG)) (va_A (wsM ad cI cJ cG I J) sz)) 0 0 (va_A (wsM ad cI cJ cG I J) sz) := by
  refine Met.ofW (cc := bL_leaveRoomToStuffs) (maxL := 4) (ret := (some .boolean)) (by decide) rfl ?_
  intro p e s m args below meth c s₁ B hml hv
  obtain ⟨rfl, hsz, hP, hK, hD0, hN⟩ := hv
  subst hsz
  have X : Cx p s m [.ref (ad 12)].toArray meth c bL_leaveRoomToStuffs (some .boolean) 4 RL := ⟨B.exec, B.bytes, B.returns, hml, findClass_of_methodNamed B.named, fun w h => atoms_spec (ws := (Cond.code yL_leaveRoomToStuffs bL_leaveRoomToStuffs 4 (some .boolean) :: gtb)) B.pre w (List.mem_cons_of_mem _ h), B.notSynchronized⟩
  have hl := lv_entry ([.ref (ad 12)]) (n := 4) (Nat.le_of_ble_eq_true rfl)
  rw [lg_entry_eq]
  generalize (lg_sl ([.ref (ad 12)]) ++ List.replicate (4 - (lg_sl ([.ref (ad 12)])).length) Slot.unset).toArray = ls at hl ⊢
  have hl : lv_has ls 4 [(0, .ref (ad 12))] := hl
  have hA : ∀ q, s.heap.size ≤ q → va_A (wsM ad cI cJ cG I J) s.heap.size q := fun q h => Or.inr h
  exact w_L_leaveRoomToStuffs_0 X hK hN hA (gw_L_leaveRoomToStuffs X hK hN hA fuel)  I J hm _ _ _ hP hD0.self va_S.rf hl
def b_L_extremeOf_30 (k30 : Int32 → Nat → Nat → Int32 → Int32 → Int32 → SI → SJ → Option (Int32 × SI × SJ)) (k74 : Int32 → Nat → Nat → Int32 → Int32 → Int32 → SI → SJ → Option (Int32 × SI × SJ)) (x2 : Int32) (j3 : Nat) (j4 : Nat) (x5 : Int32) (x6 : Int32) (x7 : Int32) (I : SI) (J : SJ) : Option (Int32 × SI × SJ) :=
  gd (j3 < 3) <|
  gd (j4 < 3) <|
  if 4 ≤ x7 then
    k74 x2 j3 j4 x5 x6 0 I J
  else
    gd (vin x7 4) <|
    nm (I (7 + j3) x7.toNatClampNeg) fun v3 =>
    gd (vin x7 7) <|
    nm (I 13 x7.toNatClampNeg) fun v5 =>
    nm (v3 * v5) fun v6 =>
    nm (x5 + v6) fun v7 =>
    gd (vin x7 7) <|
    nm (I 13 x7.toNatClampNeg) fun v9 =>
    nm (x6 - v9) fun v10 =>
    nm (x7 + 1) fun v11 =>
    k30 x2 j3 j4 v7 v10 v11 I J
def b_L_extremeOf_74 (k95 : Int32 → Nat → Nat → Int32 → Int32 → Int32 → Int32 → Nat → SI → SJ → Option (Int32 × SI × SJ)) (x2 : Int32) (j3 : Nat) (j4 : Nat) (x5 : Int32) (x6 : Int32) (x7 : Int32) (I : SI) (J : SJ) : Option (Int32 × SI × SJ) :=
  gd (j3 < 3) <|
  gd (j4 < 3) <|
  if 4 ≤ x7 then
    some (x5, I, J)
  else
    if x2 = 0 then
      k95 x2 j3 j4 x5 x6 x7 x7 j4 I J
    else
      nm (3 - x7) fun v3 =>
      k95 x2 j3 j4 x5 x6 x7 v3 j4 I J
def b_L_extremeOf_95 (k74 : Int32 → Nat → Nat → Int32 → Int32 → Int32 → SI → SJ → Option (Int32 × SI × SJ)) (x2 : Int32) (j3 : Nat) (j4 : Nat) (x5 : Int32) (x6 : Int32) (x7 : Int32) (k0 : Int32) (jk1 : Nat) (I : SI) (J : SJ) : Option (Int32 × SI × SJ) :=
  gd (j3 < 3) <|
  gd (j4 < 3) <|
  gd (jk1 < 3) <|
  gd (vin k0 4) <|
  nm (I (16 + jk1) k0.toNatClampNeg) fun v2 =>
  gd (vin v2 7) <|
  nm (I 14 v2.toNatClampNeg) fun v4 =>
  gd (vin v2 7) <|
  nm (I 13 v2.toNatClampNeg) fun v6 =>
  nm (v4 - v6) fun v7 =>
  nm (if v7 < x6 then v7 else x6) fun v8 =>
  gd (vin v2 4) <|
  nm (I (7 + j3) v2.toNatClampNeg) fun v10 =>
  nm (v10 * v8) fun v11 =>
  nm (x5 + v11) fun v12 =>
  nm (x6 - v8) fun v13 =>
  nm (x7 + 1) fun v14 =>
  k74 x2 j3 j4 v12 v13 v14 I J
def b_L_extremeOf_0 (k30 : Int32 → Nat → Nat → Int32 → Int32 → Int32 → SI → SJ → Option (Int32 × SI × SJ)) (x1 : Int32) (x2 : Int32) (I : SI) (J : SJ) : Option (Int32 × SI × SJ) :=
  gd (vin x1 3) <|
  gd (vin x1 3) <|
  k30 x2 x1.toNatClampNeg x1.toNatClampNeg 0 (I 12 2) 0 I J
def g_L_extremeOf : Nat → (Int32 → Nat → Nat → Int32 → Int32 → Int32 → SI → SJ → Option (Int32 × SI × SJ)) × (Int32 → Nat → Nat → Int32 → Int32 → Int32 → SI → SJ → Option (Int32 × SI × SJ)) × (Int32 → Nat → Nat → Int32 → Int32 → Int32 → Int32 → Nat → SI → SJ → Option (Int32 × SI × SJ))
  | 0 => (fun _ _ _ _ _ _ _ _ => none, fun _ _ _ _ _ _ _ _ => none, fun _ _ _ _ _ _ _ _ _ _ => none)
  | n + 1 => (fun x2 j3 j4 x5 x6 x7 I J => b_L_extremeOf_30 (g_L_extremeOf n).1 (g_L_extremeOf n).2.1 x2 j3 j4 x5 x6 x7 I J, fun x2 j3 j4 x5 x6 x7 I J => b_L_extremeOf_74 (g_L_extremeOf n).2.2 x2 j3 j4 x5 x6 x7 I J, fun x2 j3 j4 x5 x6 x7 k0 jk1 I J => b_L_extremeOf_95 (g_L_extremeOf n).2.1 x2 j3 j4 x5 x6 x7 k0 jk1 I J)
def m_L_extremeOf (x1 : Int32) (x2 : Int32) (I : SI) (J : SJ) : Option (Int32 × SI × SJ) := b_L_extremeOf_0 (g_L_extremeOf fuel).1 x1 x2 I J
def rm_L_extremeOf : Room := { frames := 1, cells := 0, slots := 0, locals := 30 }
set_option maxHeartbeats 4000000 in
set_option maxRecDepth 100000 in
theorem w_L_extremeOf_30 {p : Program} {l : Launch} {e : Env} {s : State} {m : MethodId} {args : Array Value} {below : List Frame} {meth : Method} {c : Code} {D : va_G} {A : Nat → Prop} {ad : Nat → Nat} {cI cJ cG : ClassId} {res : Int32 × SI × SJ} (X : Cx p s m args meth c bL_extremeOf (some .int) 10 RL) (hK : va_K D vwCl (tysM cI cJ cG) s) (hN : NWs s) (hA : ∀ q, s.heap.size ≤ q → A q)
    {k30 : Int32 → Nat → Nat → Int32 → Int32 → Int32 → SI → SJ → Option (Int32 × SI × SJ)} (hk30 : ∀ (x2 : Int32) (j3 : Nat) (j4 : Nat) (x5 : Int32) (x6 : Int32) (x7 : Int32) (I : SI) (J : SJ), k30 x2 j3 j4 x5 x6 x7 I J = some res → WB p l e (headSpec (Cond.code yL_extremeOf bL_extremeOf 10 (some .int) :: gtb) rm_L_extremeOf).room s m args below meth c (MQ below (va_Qi (fun (r : Int32) (u : SI × SJ) => (r, u) = res) (atW D vwCl (tysM cI cJ cG) A (wsM ad cI cJ cG)) A) args s 0 0 A) D vwCl A 10 (wsM ad cI cJ cG I J) 30 [(0, .ref (ad 12)), (2, .int x2), (3, .ref (ad (7 + j3))), (4, .ref (ad (16 + j4))), (5, .int x5), (6, .int x6), (7, .int x7)] [])
    {k74 : Int32 → Nat → Nat → Int32 → Int32 → Int32 → SI → SJ → Option (Int32 × SI × SJ)} (hk74 : ∀ (x2 : Int32) (j3 : Nat) (j4 : Nat) (x5 : Int32) (x6 : Int32) (x7 : Int32) (I : SI) (J : SJ), k74 x2 j3 j4 x5 x6 x7 I J = some res → WB p l e (headSpec (Cond.code yL_extremeOf bL_extremeOf 10 (some .int) :: gtb) rm_L_extremeOf).room s m args below meth c (MQ below (va_Qi (fun (r : Int32) (u : SI × SJ) => (r, u) = res) (atW D vwCl (tysM cI cJ cG) A (wsM ad cI cJ cG)) A) args s 0 0 A) D vwCl A 10 (wsM ad cI cJ cG I J) 74 [(0, .ref (ad 12)), (2, .int x2), (3, .ref (ad (7 + j3))), (4, .ref (ad (16 + j4))), (5, .int x5), (6, .int x6), (7, .int x7)] [])
     (x2 : Int32) (j3 : Nat) (j4 : Nat) (x5 : Int32) (x6 : Int32) (x7 : Int32) (I : SI) (J : SJ) (hm : b_L_extremeOf_30 k30 k74 x2 j3 j4 x5 x6 x7 I J = some res) : WB p l e (headSpec (Cond.code yL_extremeOf bL_extremeOf 10 (some .int) :: gtb) rm_L_extremeOf).room s m args below meth c (MQ below (va_Qi (fun (r : Int32) (u : SI × SJ) => (r, u) = res) (atW D vwCl (tysM cI cJ cG) A (wsM ad cI cJ cG)) A) args s 0 0 A) D vwCl A 10 (wsM ad cI cJ cG I J) 30 [(0, .ref (ad 12)), (2, .int x2), (3, .ref (ad (7 + j3))), (4, .ref (ad (16 + j4))), (5, .int x5), (6, .int x6), (7, .int x7)] [] := by
  obtain ⟨hx, hb, hr, hml, hown, hT, hlk⟩ := X
  intro H locs ls hP hD hS hl
  unfold b_L_extremeOf_30 at hm
  obtain ⟨hr_j3, hm⟩ := gd_to hm
  obtain ⟨hr_j4, hm⟩ := gd_to hm
  refine lv_iload hx hb dL_extremeOf_30 (lv_at hl 6 rfl) ?_
  refine lv_iconst (v := 4) hx hb dL_extremeOf_32 (by decide) ?_
  refine lv_icmp_ge (tgt := 71) hx hb dL_extremeOf_33 (by decide) (fun c1 => ?_) (fun c1 => ?_)
  · have hm := brp hm c1
    refine lv_iconst (v := 0) hx hb dL_extremeOf_71 (by decide) ?_
    refine lv_istore (lv' := [(7, .int 0), (0, .ref (ad 12)), (2, .int x2), (3, .ref (ad (7 + j3))), (4, .ref (ad (16 + j4))), (5, .int x5), (6, .int x6)]) hx hb dL_extremeOf_72 hl (by decide) rfl (fun ls hl => ?_)
    exact hk74 x2 j3 j4 x5 x6 0 I J hm _ _ _ hP hD hS (lv_sub hl [1, 2, 3, 4, 5, 6, 0] rfl)
  · have hm := brn hm c1
    refine lv_iload hx hb dL_extremeOf_36 (lv_at hl 4 rfl) ?_
    refine lv_aload_n hx hb dL_extremeOf_38 rfl (lv_at hl 2 rfl) ?_
    refine lv_iload hx hb dL_extremeOf_39 (lv_at hl 6 rfl) ?_
    obtain ⟨g2, hm⟩ := gd_to hm
    refine va_iald hx hb hK hP (7 + j3) 0 (rowM_6 hr_j3) rfl g2 dL_extremeOf_41 ?_
    refine lv_topi (fun v3 ev3 => ?_)
    have hm := nm_to ev3 hm
    refine lv_aload_n hx hb dL_extremeOf_42 rfl (lv_at hl 0 rfl) ?_
    refine va_get (D := D) (ci := 1) (v := .ref (ad 13)) (C := RL) (T := TL) (N := 7) hx hb hT inL hown hK hP 12 rfl rfl 4 (by decide) (hT _ wd_145) (fun _ h9 => h9) rfl dL_extremeOf_43 ?_
    refine lv_iload hx hb dL_extremeOf_46 (lv_at hl 6 rfl) ?_
    obtain ⟨g4, hm⟩ := gd_to hm
    refine va_iald hx hb hK hP 13 0 rfl rfl g4 dL_extremeOf_48 ?_
    refine lv_topi (fun v5 ev5 => ?_)
    have hm := nm_to ev5 hm
    refine lv_imul hx hb dL_extremeOf_49 ?_
    refine lv_topi (fun v6 ev6 => ?_)
    have hm := nm_to ev6 hm
    refine lv_iadd hx hb dL_extremeOf_50 ?_
    refine lv_topi (fun v7 ev7 => ?_)
    have hm := nm_to ev7 hm
    refine lv_istore (lv' := [(5, .int v7), (0, .ref (ad 12)), (2, .int x2), (3, .ref (ad (7 + j3))), (4, .ref (ad (16 + j4))), (6, .int x6), (7, .int x7)]) hx hb dL_extremeOf_51 hl (by decide) rfl (fun ls hl => ?_)
    refine lv_iload hx hb dL_extremeOf_53 (lv_at hl 5 rfl) ?_
    refine lv_aload_n hx hb dL_extremeOf_55 rfl (lv_at hl 1 rfl) ?_
    refine va_get (D := D) (ci := 1) (v := .ref (ad 13)) (C := RL) (T := TL) (N := 7) hx hb hT inL hown hK hP 12 rfl rfl 4 (by decide) (hT _ wd_145) (fun _ h9 => h9) rfl dL_extremeOf_56 ?_
    refine lv_iload hx hb dL_extremeOf_59 (lv_at hl 6 rfl) ?_
    obtain ⟨g8, hm⟩ := gd_to hm
    refine va_iald hx hb hK hP 13 0 rfl rfl g8 dL_extremeOf_61 ?_
    refine lv_topi (fun v9 ev9 => ?_)
    have hm := nm_to ev9 hm
    refine lv_isub hx hb dL_extremeOf_62 ?_
    refine lv_topi (fun v10 ev10 => ?_)
    have hm := nm_to ev10 hm
    refine lv_istore (lv' := [(6, .int v10), (5, .int v7), (0, .ref (ad 12)), (2, .int x2), (3, .ref (ad (7 + j3))), (4, .ref (ad (16 + j4))), (7, .int x7)]) hx hb dL_extremeOf_63 hl (by decide) rfl (fun ls hl => ?_)
    obtain ⟨v11, ev11⟩ : ∃ z : Int32, z = x7 + 1 := ⟨_, rfl⟩
    have hm := nm_to ev11 hm
    refine lv_iinc (v := v11) (lv' := [(7, .int v11), (6, .int v10), (5, .int v7), (0, .ref (ad 12)), (2, .int x2), (3, .ref (ad (7 + j3))), (4, .ref (ad (16 + j4)))]) hx hb dL_extremeOf_65 hl (k := 6) rfl (by rw [ev11]; rfl) (by decide) rfl (fun ls hl => ?_)
    refine lv_goto (tgt := 30) hx hb dL_extremeOf_68 (by decide) ?_
    exact hk30 x2 j3 j4 v7 v10 v11 I J hm _ _ _ hP hD hS (lv_sub hl [3, 4, 5, 6, 2, 1, 0] rfl)
set_option maxHeartbeats 4000000 in
set_option maxRecDepth 100000 in
theorem w_L_extremeOf_74 {p : Program} {l : Launch} {e : Env} {s : State} {m : MethodId} {args : Array Value} {below : List Frame} {meth : Method} {c : Code} {D : va_G} {A : Nat → Prop} {ad : Nat → Nat} {cI cJ cG : ClassId} {res : Int32 × SI × SJ} (X : Cx p s m args meth c bL_extremeOf (some .int) 10 RL) (hK : va_K D vwCl (tysM cI cJ cG) s) (hN : NWs s) (hA : ∀ q, s.heap.size ≤ q → A q)
    {k95 : Int32 → Nat → Nat → Int32 → Int32 → Int32 → Int32 → Nat → SI → SJ → Option (Int32 × SI × SJ)} (hk95 : ∀ (x2 : Int32) (j3 : Nat) (j4 : Nat) (x5 : Int32) (x6 : Int32) (x7 : Int32) (k0 : Int32) (jk1 : Nat) (I : SI) (J : SJ), k95 x2 j3 j4 x5 x6 x7 k0 jk1 I J = some res → WB p l e (headSpec (Cond.code yL_extremeOf bL_extremeOf 10 (some .int) :: gtb) rm_L_extremeOf).room s m args below meth c (MQ below (va_Qi (fun (r : Int32) (u : SI × SJ) => (r, u) = res) (atW D vwCl (tysM cI cJ cG) A (wsM ad cI cJ cG)) A) args s 0 0 A) D vwCl A 10 (wsM ad cI cJ cG I J) 95 [(0, .ref (ad 12)), (2, .int x2), (3, .ref (ad (7 + j3))), (4, .ref (ad (16 + j4))), (5, .int x5), (6, .int x6), (7, .int x7)] [.int k0, .ref (ad (16 + jk1))])
     (x2 : Int32) (j3 : Nat) (j4 : Nat) (x5 : Int32) (x6 : Int32) (x7 : Int32) (I : SI) (J : SJ) (hm : b_L_extremeOf_74 k95 x2 j3 j4 x5 x6 x7 I J = some res) : WB p l e (headSpec (Cond.code yL_extremeOf bL_extremeOf 10 (some .int) :: gtb) rm_L_extremeOf).room s m args below meth c (MQ below (va_Qi (fun (r : Int32) (u : SI × SJ) => (r, u) = res) (atW D vwCl (tysM cI cJ cG) A (wsM ad cI cJ cG)) A) args s 0 0 A) D vwCl A 10 (wsM ad cI cJ cG I J) 74 [(0, .ref (ad 12)), (2, .int x2), (3, .ref (ad (7 + j3))), (4, .ref (ad (16 + j4))), (5, .int x5), (6, .int x6), (7, .int x7)] [] := by
  obtain ⟨hx, hb, hr, hml, hown, hT, hlk⟩ := X
  intro H locs ls hP hD hS hl
  unfold b_L_extremeOf_74 at hm
  obtain ⟨hr_j3, hm⟩ := gd_to hm
  obtain ⟨hr_j4, hm⟩ := gd_to hm
  refine lv_iload hx hb dL_extremeOf_74 (lv_at hl 6 rfl) ?_
  refine lv_iconst (v := 4) hx hb dL_extremeOf_76 (by decide) ?_
  refine lv_icmp_ge (tgt := 145) hx hb dL_extremeOf_77 (by decide) (fun c1 => ?_) (fun c1 => ?_)
  · have hm := brp hm c1
    refine lv_iload hx hb dL_extremeOf_145 (lv_at hl 4 rfl) ?_
    exact W.iret hx hb hr (fun t ht hW => ⟨⟨x5, (I, J), rfl, Option.some.inj hm, ht ▸ hP, va_K.moved hW.alike hK, hD⟩, hS.F ht⟩) hS.2.2 dL_extremeOf_147 hlk
  · have hm := brn hm c1
    refine lv_aload hx hb dL_extremeOf_80 (lv_at hl 3 rfl) ?_
    refine lv_iload_n hx hb dL_extremeOf_82 rfl (lv_at hl 1 rfl) ?_
    refine lv_if_eq (tgt := 93) hx hb dL_extremeOf_83 (by decide) (fun c2 => ?_) (fun c2 => ?_)
    · have hm := brp hm c2
      refine lv_iload hx hb dL_extremeOf_93 (lv_at hl 6 rfl) ?_
      exact hk95 x2 j3 j4 x5 x6 x7 x7 j4 I J hm _ _ _ hP hD hS (lv_sub hl [0, 1, 2, 3, 4, 5, 6] rfl)
    · have hm := brn hm c2
      refine lv_iconst (v := 3) hx hb dL_extremeOf_86 (by decide) ?_
      refine lv_iload hx hb dL_extremeOf_87 (lv_at hl 6 rfl) ?_
      refine lv_isub hx hb dL_extremeOf_89 ?_
      refine lv_topi (fun v3 ev3 => ?_)
      have hm := nm_to ev3 hm
      refine lv_goto (tgt := 95) hx hb dL_extremeOf_90 (by decide) ?_
      exact hk95 x2 j3 j4 x5 x6 x7 v3 j4 I J hm _ _ _ hP hD hS (lv_sub hl [0, 1, 2, 3, 4, 5, 6] rfl)
set_option maxHeartbeats 4000000 in
set_option maxRecDepth 100000 in
theorem w_L_extremeOf_95 {p : Program} {l : Launch} {e : Env} {s : State} {m : MethodId} {args : Array Value} {below : List Frame} {meth : Method} {c : Code} {D : va_G} {A : Nat → Prop} {ad : Nat → Nat} {cI cJ cG : ClassId} {res : Int32 × SI × SJ} (X : Cx p s m args meth c bL_extremeOf (some .int) 10 RL) (hK : va_K D vwCl (tysM cI cJ cG) s) (hN : NWs s) (hA : ∀ q, s.heap.size ≤ q → A q)
    {k74 : Int32 → Nat → Nat → Int32 → Int32 → Int32 → SI → SJ → Option (Int32 × SI × SJ)} (hk74 : ∀ (x2 : Int32) (j3 : Nat) (j4 : Nat) (x5 : Int32) (x6 : Int32) (x7 : Int32) (I : SI) (J : SJ), k74 x2 j3 j4 x5 x6 x7 I J = some res → WB p l e (headSpec (Cond.code yL_extremeOf bL_extremeOf 10 (some .int) :: gtb) rm_L_extremeOf).room s m args below meth c (MQ below (va_Qi (fun (r : Int32) (u : SI × SJ) => (r, u) = res) (atW D vwCl (tysM cI cJ cG) A (wsM ad cI cJ cG)) A) args s 0 0 A) D vwCl A 10 (wsM ad cI cJ cG I J) 74 [(0, .ref (ad 12)), (2, .int x2), (3, .ref (ad (7 + j3))), (4, .ref (ad (16 + j4))), (5, .int x5), (6, .int x6), (7, .int x7)] [])
     (x2 : Int32) (j3 : Nat) (j4 : Nat) (x5 : Int32) (x6 : Int32) (x7 : Int32) (k0 : Int32) (jk1 : Nat) (I : SI) (J : SJ) (hm : b_L_extremeOf_95 k74 x2 j3 j4 x5 x6 x7 k0 jk1 I J = some res) : WB p l e (headSpec (Cond.code yL_extremeOf bL_extremeOf 10 (some .int) :: gtb) rm_L_extremeOf).room s m args below meth c (MQ below (va_Qi (fun (r : Int32) (u : SI × SJ) => (r, u) = res) (atW D vwCl (tysM cI cJ cG) A (wsM ad cI cJ cG)) A) args s 0 0 A) D vwCl A 10 (wsM ad cI cJ cG I J) 95 [(0, .ref (ad 12)), (2, .int x2), (3, .ref (ad (7 + j3))), (4, .ref (ad (16 + j4))), (5, .int x5), (6, .int x6), (7, .int x7)] [.int k0, .ref (ad (16 + jk1))] := by
  obtain ⟨hx, hb, hr, hml, hown, hT, hlk⟩ := X
  intro H locs ls hP hD hS hl
  unfold b_L_extremeOf_95 at hm
  obtain ⟨hr_j3, hm⟩ := gd_to hm
  obtain ⟨hr_j4, hm⟩ := gd_to hm
  obtain ⟨hr_jk1, hm⟩ := gd_to hm
  obtain ⟨g1, hm⟩ := gd_to hm
  refine va_iald hx hb hK hP (16 + jk1) 0 (rowM_15 hr_jk1) rfl g1 dL_extremeOf_95 ?_
  refine lv_topi (fun v2 ev2 => ?_)
  have hm := nm_to ev2 hm
  refine lv_istore (lv' := [(8, .int v2), (0, .ref (ad 12)), (2, .int x2), (3, .ref (ad (7 + j3))), (4, .ref (ad (16 + j4))), (5, .int x5), (6, .int x6), (7, .int x7)]) hx hb dL_extremeOf_96 hl (by decide) rfl (fun ls hl => ?_)
  refine lv_iload hx hb dL_extremeOf_98 (lv_at hl 6 rfl) ?_
  refine lv_aload_n hx hb dL_extremeOf_100 rfl (lv_at hl 1 rfl) ?_
  refine va_get (D := D) (ci := 1) (v := .ref (ad 14)) (C := RL) (T := TL) (N := 7) hx hb hT inL hown hK hP 12 rfl rfl 5 (by decide) (hT _ wd_148) (fun _ h9 => h9) rfl dL_extremeOf_101 ?_
  refine lv_iload hx hb dL_extremeOf_104 (lv_at hl 0 rfl) ?_
  obtain ⟨g3, hm⟩ := gd_to hm
  refine va_iald hx hb hK hP 14 0 rfl rfl g3 dL_extremeOf_106 ?_
  refine lv_topi (fun v4 ev4 => ?_)
  have hm := nm_to ev4 hm
  refine lv_aload_n hx hb dL_extremeOf_107 rfl (lv_at hl 1 rfl) ?_
  refine va_get (D := D) (ci := 1) (v := .ref (ad 13)) (C := RL) (T := TL) (N := 7) hx hb hT inL hown hK hP 12 rfl rfl 4 (by decide) (hT _ wd_145) (fun _ h9 => h9) rfl dL_extremeOf_108 ?_
  refine lv_iload hx hb dL_extremeOf_111 (lv_at hl 0 rfl) ?_
  obtain ⟨g5, hm⟩ := gd_to hm
  refine va_iald hx hb hK hP 13 0 rfl rfl g5 dL_extremeOf_113 ?_
  refine lv_topi (fun v6 ev6 => ?_)
  have hm := nm_to ev6 hm
  refine lv_isub hx hb dL_extremeOf_114 ?_
  refine lv_topi (fun v7 ev7 => ?_)
  have hm := nm_to ev7 hm
  refine va_mmin hx hb (hml.trans hl.1.symm) hown (hT _ wd_367) (hT _ wd_368) (hT _ wd_58) (hT _ wd_369) (Nat.le_of_ble_eq_true rfl) (Nat.le_of_ble_eq_true rfl) (Nat.zero_le _) (Nat.zero_le _) dL_extremeOf_115 ?_
  refine lv_topi (fun v8 ev8 => ?_)
  have hm := nm_to ev8 hm
  refine lv_istore (lv' := [(9, .int v8), (8, .int v2), (0, .ref (ad 12)), (2, .int x2), (3, .ref (ad (7 + j3))), (4, .ref (ad (16 + j4))), (5, .int x5), (6, .int x6), (7, .int x7)]) hx hb dL_extremeOf_118 hl (by decide) rfl (fun ls hl => ?_)
  refine lv_iload hx hb dL_extremeOf_120 (lv_at hl 6 rfl) ?_
  refine lv_aload_n hx hb dL_extremeOf_122 rfl (lv_at hl 4 rfl) ?_
  refine lv_iload hx hb dL_extremeOf_123 (lv_at hl 1 rfl) ?_
  obtain ⟨g9, hm⟩ := gd_to hm
  refine va_iald hx hb hK hP (7 + j3) 0 (rowM_6 hr_j3) rfl g9 dL_extremeOf_125 ?_
  refine lv_topi (fun v10 ev10 => ?_)
  have hm := nm_to ev10 hm
  refine lv_iload hx hb dL_extremeOf_126 (lv_at hl 0 rfl) ?_
  refine lv_imul hx hb dL_extremeOf_128 ?_
  refine lv_topi (fun v11 ev11 => ?_)
  have hm := nm_to ev11 hm
  refine lv_iadd hx hb dL_extremeOf_129 ?_
  refine lv_topi (fun v12 ev12 => ?_)
  have hm := nm_to ev12 hm
  refine lv_istore (lv' := [(5, .int v12), (9, .int v8), (8, .int v2), (0, .ref (ad 12)), (2, .int x2), (3, .ref (ad (7 + j3))), (4, .ref (ad (16 + j4))), (6, .int x6), (7, .int x7)]) hx hb dL_extremeOf_130 hl (by decide) rfl (fun ls hl => ?_)
  refine lv_iload hx hb dL_extremeOf_132 (lv_at hl 7 rfl) ?_
  refine lv_iload hx hb dL_extremeOf_134 (lv_at hl 1 rfl) ?_
  refine lv_isub hx hb dL_extremeOf_136 ?_
  refine lv_topi (fun v13 ev13 => ?_)
  have hm := nm_to ev13 hm
  refine lv_istore (lv' := [(6, .int v13), (5, .int v12), (9, .int v8), (8, .int v2), (0, .ref (ad 12)), (2, .int x2), (3, .ref (ad (7 + j3))), (4, .ref (ad (16 + j4))), (7, .int x7)]) hx hb dL_extremeOf_137 hl (by decide) rfl (fun ls hl => ?_)
  obtain ⟨v14, ev14⟩ : ∃ z : Int32, z = x7 + 1 := ⟨_, rfl⟩
  have hm := nm_to ev14 hm
  refine lv_iinc (v := v14) (lv' := [(7, .int v14), (6, .int v13), (5, .int v12), (9, .int v8), (8, .int v2), (0, .ref (ad 12)), (2, .int x2), (3, .ref (ad (7 + j3))), (4, .ref (ad (16 + j4)))]) hx hb dL_extremeOf_139 hl (k := 8) rfl (by rw [ev14]; rfl) (by decide) rfl (fun ls hl => ?_)
  refine lv_goto (tgt := 74) hx hb dL_extremeOf_142 (by decide) ?_
  exact hk74 x2 j3 j4 v12 v13 v14 I J hm _ _ _ hP hD hS (lv_sub hl [5, 6, 7, 8, 2, 1, 0] rfl)
set_option maxHeartbeats 4000000 in
set_option maxRecDepth 100000 in
theorem w_L_extremeOf_0 {p : Program} {l : Launch} {e : Env} {s : State} {m : MethodId} {args : Array Value} {below : List Frame} {meth : Method} {c : Code} {D : va_G} {A : Nat → Prop} {ad : Nat → Nat} {cI cJ cG : ClassId} {res : Int32 × SI × SJ} (X : Cx p s m args meth c bL_extremeOf (some .int) 10 RL) (hK : va_K D vwCl (tysM cI cJ cG) s) (hN : NWs s) (hA : ∀ q, s.heap.size ≤ q → A q)
    {k30 : Int32 → Nat → Nat → Int32 → Int32 → Int32 → SI → SJ → Option (Int32 × SI × SJ)} (hk30 : ∀ (x2 : Int32) (j3 : Nat) (j4 : Nat) (x5 : Int32) (x6 : Int32) (x7 : Int32) (I : SI) (J : SJ), k30 x2 j3 j4 x5 x6 x7 I J = some res → WB p l e (headSpec (Cond.code yL_extremeOf bL_extremeOf 10 (some .int) :: gtb) rm_L_extremeOf).room s m args below meth c (MQ below (va_Qi (fun (r : Int32) (u : SI × SJ) => (r, u) = res) (atW D vwCl (tysM cI cJ cG) A (wsM ad cI cJ cG)) A) args s 0 0 A) D vwCl A 10 (wsM ad cI cJ cG I J) 30 [(0, .ref (ad 12)), (2, .int x2), (3, .ref (ad (7 + j3))), (4, .ref (ad (16 + j4))), (5, .int x5), (6, .int x6), (7, .int x7)] [])
     (x1 : Int32) (x2 : Int32) (I : SI) (J : SJ) (hm : b_L_extremeOf_0 k30 x1 x2 I J = some res) : WB p l e (headSpec (Cond.code yL_extremeOf bL_extremeOf 10 (some .int) :: gtb) rm_L_extremeOf).room s m args below meth c (MQ below (va_Qi (fun (r : Int32) (u : SI × SJ) => (r, u) = res) (atW D vwCl (tysM cI cJ cG) A (wsM ad cI cJ cG)) A) args s 0 0 A) D vwCl A 10 (wsM ad cI cJ cG I J) 0 [(0, .ref (ad 12)), (1, .int x1), (2, .int x2)] [] := by
  obtain ⟨hx, hb, hr, hml, hown, hT, hlk⟩ := X
  intro H locs ls hP hD hS hl
  unfold b_L_extremeOf_0 at hm
  refine lv_aload_n hx hb dL_extremeOf_0 rfl (lv_at hl 0 rfl) ?_
  refine va_get (D := D) (ci := 1) (v := .ref (ad 0)) (C := RL) (T := TL) (N := 7) hx hb hT inL hown hK hP 12 rfl rfl 0 (by decide) (hT _ wd_138) (fun _ h9 => h9) rfl dL_extremeOf_1 ?_
  refine va_getN (D := D) (ci := 4) (v := .ref (ad 6)) (C := RT) (T := TT) (N := 9) hx hb hT inT hown hK hP 0 rfl rfl 6 (by decide) (va_Nw.use rfl (hN _ nw_96)) (fun _ h9 => h9) rfl dL_extremeOf_4 ?_
  refine lv_iload_n hx hb dL_extremeOf_7 rfl (lv_at hl 1 rfl) ?_
  obtain ⟨g1, hm⟩ := gd_to hm
  refine va_aldG hx hb hK hP 6 2 rfl rfl rfl g1 (outM_6 (vp_lt g1)) dL_extremeOf_8 ?_
  refine lv_astore_n (lv' := [(3, .ref (ad (7 + x1.toNatClampNeg))), (0, .ref (ad 12)), (1, .int x1), (2, .int x2)]) hx hb dL_extremeOf_9 rfl hl (by decide) rfl (fun ls hl => ?_)
  refine lv_aload_n hx hb dL_extremeOf_10 rfl (lv_at hl 1 rfl) ?_
  refine va_get (D := D) (ci := 1) (v := .ref (ad 15)) (C := RL) (T := TL) (N := 7) hx hb hT inL hown hK hP 12 rfl rfl 6 (by decide) (hT _ wd_151) (fun _ h9 => h9) rfl dL_extremeOf_11 ?_
  refine lv_iload_n hx hb dL_extremeOf_14 rfl (lv_at hl 2 rfl) ?_
  obtain ⟨g2, hm⟩ := gd_to hm
  refine va_aldG hx hb hK hP 15 2 rfl rfl rfl g2 (outM_15 (vp_lt g2)) dL_extremeOf_15 ?_
  refine lv_astore (lv' := [(4, .ref (ad (16 + x1.toNatClampNeg))), (3, .ref (ad (7 + x1.toNatClampNeg))), (0, .ref (ad 12)), (1, .int x1), (2, .int x2)]) hx hb dL_extremeOf_16 hl (by decide) rfl (fun ls hl => ?_)
  refine lv_iconst (v := 0) hx hb dL_extremeOf_18 (by decide) ?_
  refine lv_istore (lv' := [(5, .int 0), (4, .ref (ad (16 + x1.toNatClampNeg))), (3, .ref (ad (7 + x1.toNatClampNeg))), (0, .ref (ad 12)), (1, .int x1), (2, .int x2)]) hx hb dL_extremeOf_19 hl (by decide) rfl (fun ls hl => ?_)
  refine lv_aload_n hx hb dL_extremeOf_21 rfl (lv_at hl 3 rfl) ?_
  refine va_get (D := D) (ci := 1) (v := .int (I 12 2)) (C := RL) (T := TL) (N := 7) hx hb hT inL hown hK hP 12 rfl rfl 2 (by decide) (hT _ wd_140) (fun _ h9 => h9) rfl dL_extremeOf_22 ?_
  refine lv_istore (lv' := [(6, .int (I 12 2)), (5, .int 0), (4, .ref (ad (16 + x1.toNatClampNeg))), (3, .ref (ad (7 + x1.toNatClampNeg))), (0, .ref (ad 12)), (1, .int x1), (2, .int x2)]) hx hb dL_extremeOf_25 hl (by decide) rfl (fun ls hl => ?_)
  refine lv_iconst (v := 0) hx hb dL_extremeOf_27 (by decide) ?_
  refine lv_istore (lv' := [(7, .int 0), (6, .int (I 12 2)), (5, .int 0), (4, .ref (ad (16 + x1.toNatClampNeg))), (3, .ref (ad (7 + x1.toNatClampNeg))), (0, .ref (ad 12)), (1, .int x1), (2, .int x2)]) hx hb dL_extremeOf_28 hl (by decide) rfl (fun ls hl => ?_)
  exact hk30 x2 x1.toNatClampNeg x1.toNatClampNeg 0 (I 12 2) 0 I J hm _ _ _ hP hD hS (lv_sub hl [5, 7, 4, 3, 2, 1, 0] rfl)
set_option maxHeartbeats 4000000 in
theorem gw_L_extremeOf {p : Program} {l : Launch} {e : Env} {s : State} {m : MethodId} {args : Array Value} {below : List Frame} {meth : Method} {c : Code} {D : va_G} {A : Nat → Prop} {ad : Nat → Nat} {cI cJ cG : ClassId} {res : Int32 × SI × SJ} (X : Cx p s m args meth c bL_extremeOf (some .int) 10 RL) (hK : va_K D vwCl (tysM cI cJ cG) s) (hN : NWs s) (hA : ∀ q, s.heap.size ≤ q → A q) : ∀ n : Nat, (∀ (x2 : Int32) (j3 : Nat) (j4 : Nat) (x5 : Int32) (x6 : Int32) (x7 : Int32) (I : SI) (J : SJ), (g_L_extremeOf n).1 x2 j3 j4 x5 x6 x7 I J = some res → WB p l e (headSpec (Cond.code yL_extremeOf bL_extremeOf 10 (some .int) :: gtb) rm_L_extremeOf).room s m args below meth c (MQ below (va_Qi (fun (r : Int32) (u : SI × SJ) => (r, u) = res) (atW D vwCl (tysM cI cJ cG) A (wsM ad cI cJ cG)) A) args s 0 0 A) D vwCl A 10 (wsM ad cI cJ cG I J) 30 [(0, .ref (ad 12)), (2, .int x2), (3, .ref (ad (7 + j3))), (4, .ref (ad (16 + j4))), (5, .int x5), (6, .int x6), (7, .int x7)] []) ∧ (∀ (x2 : Int32) (j3 : Nat) (j4 : Nat) (x5 : Int32) (x6 : Int32) (x7 : Int32) (I : SI) (J : SJ), (g_L_extremeOf n).2.1 x2 j3 j4 x5 x6 x7 I J = some res → WB p l e (headSpec (Cond.code yL_extremeOf bL_extremeOf 10 (some .int) :: gtb) rm_L_extremeOf).room s m args below meth c (MQ below (va_Qi (fun (r : Int32) (u : SI × SJ) => (r, u) = res) (atW D vwCl (tysM cI cJ cG) A (wsM ad cI cJ cG)) A) args s 0 0 A) D vwCl A 10 (wsM ad cI cJ cG I J) 74 [(0, .ref (ad 12)), (2, .int x2), (3, .ref (ad (7 + j3))), (4, .ref (ad (16 + j4))), (5, .int x5), (6, .int x6), (7, .int x7)] []) ∧ (∀ (x2 : Int32) (j3 : Nat) (j4 : Nat) (x5 : Int32) (x6 : Int32) (x7 : Int32) (k0 : Int32) (jk1 : Nat) (I : SI) (J : SJ), (g_L_extremeOf n).2.2 x2 j3 j4 x5 x6 x7 k0 jk1 I J = some res → WB p l e (headSpec (Cond.code yL_extremeOf bL_extremeOf 10 (some .int) :: gtb) rm_L_extremeOf).room s m args below meth c (MQ below (va_Qi (fun (r : Int32) (u : SI × SJ) => (r, u) = res) (atW D vwCl (tysM cI cJ cG) A (wsM ad cI cJ cG)) A) args s 0 0 A) D vwCl A 10 (wsM ad cI cJ cG I J) 95 [(0, .ref (ad 12)), (2, .int x2), (3, .ref (ad (7 + j3))), (4, .ref (ad (16 + j4))), (5, .int x5), (6, .int x6), (7, .int x7)] [.int k0, .ref (ad (16 + jk1))]) := by
  intro n
  induction n with
  | zero => exact ⟨fun _ _ _ _ _ _ _ _ h => (by cases h), fun _ _ _ _ _ _ _ _ h => (by cases h), fun _ _ _ _ _ _ _ _ _ _ h => (by cases h)⟩
  | succ n ih =>
    obtain ⟨ih30, ih74, ih95⟩ := ih
    exact ⟨fun x2 j3 j4 x5 x6 x7 I J h => w_L_extremeOf_30 X hK hN hA ih30 ih74 x2 j3 j4 x5 x6 x7 I J h, fun x2 j3 j4 x5 x6 x7 I J h => w_L_extremeOf_74 X hK hN hA ih95 x2 j3 j4 x5 x6 x7 I J h, fun x2 j3 j4 x5 x6 x7 k0 jk1 I J h => w_L_extremeOf_95 X hK hN hA ih74 x2 j3 j4 x5 x6 x7 k0 jk1 I J h⟩
set_option maxHeartbeats 4000000 in
set_option maxRecDepth 100000 in
theorem c_L_extremeOf (l : Launch) (D : va_G) (ad : Nat → Nat) (cI cJ cG : ClassId) (sz : Nat) (x1 : Int32) (x2 : Int32) (I : SI) (J : SJ) (res : Int32 × SI × SJ) (hm : m_L_extremeOf x1 x2 I J = some res) : Met l yL_extremeOf (Cond.code yL_extremeOf bL_extremeOf 10 (some .int) :: gtb) rm_L_extremeOf (va_Pc [.ref (ad 12), .int x1, .int x2] (preW D vwCl (tysM cI cJ cG) (wsM ad cI cJ cG I J) sz)) (va_Qi (fun (r : Int32) (u : SI × SJ) => (r, u) = res) (atW D vwCl (tysM cI cJ cG) (va_A (wsM ad cI cJ cG I J) sz) (wsM ad cI cJ cG)) (va_A (wsM ad cI cJ cG I J) sz)) 0 0 (va_A (wsM ad cI cJ cG I J) sz) := by
  refine Met.ofW (cc := bL_extremeOf) (maxL := 10) (ret := (some .int)) (by decide) rfl ?_
  intro p e s m args below meth c s₁ B hml hv
  obtain ⟨rfl, hsz, hP, hK, hD0, hN⟩ := hv
  subst hsz
  have X : Cx p s m [.ref (ad 12), .int x1, .int x2].toArray meth c bL_extremeOf (some .int) 10 RL := ⟨B.exec, B.bytes, B.returns, hml, findClass_of_methodNamed B.named, fun w h => atoms_spec (ws := (Cond.code yL_extremeOf bL_extremeOf 10 (some .int) :: gtb)) B.pre w (List.mem_cons_of_mem _ h), B.notSynchronized⟩
  have hl := lv_entry ([.ref (ad 12), .int x1, .int x2]) (n := 10) (Nat.le_of_ble_eq_true rfl)
  rw [lg_entry_eq]
  generalize (lg_sl ([.ref (ad 12), .int x1, .int x2]) ++ List.replicate (10 - (lg_sl ([.ref (ad 12), .int x1, .int x2])).length) Slot.unset).toArray = ls at hl ⊢
  have hl : lv_has ls 10 [(0, .ref (ad 12)), (1, .int x1), (2, .int x2)] := hl
  have hA : ∀ q, s.heap.size ≤ q → va_A (wsM ad cI cJ cG I J) s.heap.size q := fun q h => Or.inr h
  exact w_L_extremeOf_0 X hK hN hA (gw_L_extremeOf X hK hN hA fuel).1 x1 x2 I J hm _ _ _ hP hD0.self va_S.rf hl
def b_L_allow_0 (x1 : Int32) (x2 : Int64) (x4 : Int64) (I : SI) (J : SJ) : Option (Int32 × SI × SJ) :=
  gd (vin x1 7) <|
  nm (I 13 x1.toNatClampNeg) fun v2 =>
  nm (Int32.toInt64 v2) fun v3 =>
  nm (v3 * x4) fun v4 =>
  nm (lg_cmp x2 v4) fun v5 =>
  if v5 < 0 then
    some (0, I, J)
  else
    gd (vin x1 7) <|
    nm (I 14 x1.toNatClampNeg) fun v8 =>
    nm (Int32.toInt64 v8) fun v9 =>
    nm (v9 * x4) fun v10 =>
    nm (lg_cmp x2 v10) fun v11 =>
    if 0 < v11 then
      some (0, I, J)
    else
      some (1, I, J)
def m_L_allow (x1 : Int32) (x2 : Int64) (x4 : Int64) (I : SI) (J : SJ) : Option (Int32 × SI × SJ) := b_L_allow_0 x1 x2 x4 I J
def rm_L_allow : Room := { frames := 0, cells := 0, slots := 0, locals := 0 }
set_option maxHeartbeats 4000000 in
set_option maxRecDepth 100000 in
theorem w_L_allow_0 {p : Program} {l : Launch} {e : Env} {s : State} {m : MethodId} {args : Array Value} {below : List Frame} {meth : Method} {c : Code} {D : va_G} {A : Nat → Prop} {ad : Nat → Nat} {cI cJ cG : ClassId} {res : Int32 × SI × SJ} (X : Cx p s m args meth c bL_allow (some .boolean) 6 RL) (hK : va_K D vwCl (tysM cI cJ cG) s) (hN : NWs s) (hA : ∀ q, s.heap.size ≤ q → A q)
     (x1 : Int32) (x2 : Int64) (x4 : Int64) (I : SI) (J : SJ) (hm : b_L_allow_0  x1 x2 x4 I J = some res) : WB p l e (headSpec (Cond.code yL_allow bL_allow 6 (some .boolean) :: gtb) rm_L_allow).room s m args below meth c (MQ below (va_Qi (fun (r : Int32) (u : SI × SJ) => (r, u) = res) (atW D vwCl (tysM cI cJ cG) A (wsM ad cI cJ cG)) A) args s 0 0 A) D vwCl A 6 (wsM ad cI cJ cG I J) 0 [(0, .ref (ad 12)), (1, .int x1), (2, .long x2), (4, .long x4)] [] := by
  obtain ⟨hx, hb, hr, hml, hown, hT, hlk⟩ := X
  intro H locs ls hP hD hS hl
  unfold b_L_allow_0 at hm
  refine lv_lload_n hx hb dL_allow_0 rfl (lv_at hl 2 rfl) ?_
  refine lv_aload_n hx hb dL_allow_1 rfl (lv_at hl 0 rfl) ?_
  refine va_get (D := D) (ci := 1) (v := .ref (ad 13)) (C := RL) (T := TL) (N := 7) hx hb hT inL hown hK hP 12 rfl rfl 4 (by decide) (hT _ wd_145) (fun _ h9 => h9) rfl dL_allow_2 ?_
  refine lv_iload_n hx hb dL_allow_5 rfl (lv_at hl 1 rfl) ?_
  obtain ⟨g1, hm⟩ := gd_to hm
  refine va_iald hx hb hK hP 13 0 rfl rfl g1 dL_allow_6 ?_
  refine lv_topi (fun v2 ev2 => ?_)
  have hm := nm_to ev2 hm
  refine lv_i2l hx hb dL_allow_7 rfl ?_
  refine lv_topl (fun v3 ev3 => ?_)
  have hm := nm_to ev3 hm
  refine lv_lload hx hb dL_allow_8 (lv_at hl 3 rfl) ?_
  refine lv_lmul hx hb dL_allow_10 ?_
  refine lv_topl (fun v4 ev4 => ?_)
  have hm := nm_to ev4 hm
  refine W.lcmp hx hb dL_allow_11 ?_
  refine lv_topi (fun v5 ev5 => ?_)
  have hm := nm_to ev5 hm
  refine lv_if_lt (tgt := 34) hx hb dL_allow_12 (by decide) (fun c6 => ?_) (fun c6 => ?_)
  · have hm := brp hm c6
    refine lv_iconst (v := 0) hx hb dL_allow_34 (by decide) ?_
    exact W.zret hx hb hr rfl (fun t ht hW => ⟨⟨0, (I, J), rfl, Option.some.inj hm, ht ▸ hP, va_K.moved hW.alike hK, hD⟩, hS.F ht⟩) hS.2.2 dL_allow_35 hlk
  · have hm := brn hm c6
    refine lv_lload_n hx hb dL_allow_15 rfl (lv_at hl 2 rfl) ?_
    refine lv_aload_n hx hb dL_allow_16 rfl (lv_at hl 0 rfl) ?_
    refine va_get (D := D) (ci := 1) (v := .ref (ad 14)) (C := RL) (T := TL) (N := 7) hx hb hT inL hown hK hP 12 rfl rfl 5 (by decide) (hT _ wd_148) (fun _ h9 => h9) rfl dL_allow_17 ?_
    refine lv_iload_n hx hb dL_allow_20 rfl (lv_at hl 1 rfl) ?_
    obtain ⟨g7, hm⟩ := gd_to hm
    refine va_iald hx hb hK hP 14 0 rfl rfl g7 dL_allow_21 ?_
    refine lv_topi (fun v8 ev8 => ?_)
    have hm := nm_to ev8 hm
    refine lv_i2l hx hb dL_allow_22 rfl ?_
    refine lv_topl (fun v9 ev9 => ?_)
    have hm := nm_to ev9 hm
    refine lv_lload hx hb dL_allow_23 (lv_at hl 3 rfl) ?_
    refine lv_lmul hx hb dL_allow_25 ?_
    refine lv_topl (fun v10 ev10 => ?_)
    have hm := nm_to ev10 hm
    refine W.lcmp hx hb dL_allow_26 ?_
    refine lv_topi (fun v11 ev11 => ?_)
    have hm := nm_to ev11 hm
    refine lv_if_gt (tgt := 34) hx hb dL_allow_27 (by decide) (fun c12 => ?_) (fun c12 => ?_)
    · have hm := brp hm c12
      refine lv_iconst (v := 0) hx hb dL_allow_34 (by decide) ?_
      exact W.zret hx hb hr rfl (fun t ht hW => ⟨⟨0, (I, J), rfl, Option.some.inj hm, ht ▸ hP, va_K.moved hW.alike hK, hD⟩, hS.F ht⟩) hS.2.2 dL_allow_35 hlk
    · have hm := brn hm c12
      refine lv_iconst (v := 1) hx hb dL_allow_30 (by decide) ?_
      refine lv_goto (tgt := 35) hx hb dL_allow_31 (by decide) ?_
      exact W.zret hx hb hr rfl (fun t ht hW => ⟨⟨1, (I, J), rfl, Option.some.inj hm, ht ▸ hP, va_K.moved hW.alike hK, hD⟩, hS.F ht⟩) hS.2.2 dL_allow_35 hlk
set_option maxHeartbeats 4000000 in
set_option maxRecDepth 100000 in
theorem c_L_allow (l : Launch) (D : va_G) (ad : Nat → Nat) (cI cJ cG : ClassId) (sz : Nat) (x1 : Int32) (x2 : Int64) (x4 : Int64) (I : SI) (J : SJ) (res : Int32 × SI × SJ) (hm : m_L_allow x1 x2 x4 I J = some res) : Met l yL_allow (Cond.code yL_allow bL_allow 6 (some .boolean) :: gtb) rm_L_allow (va_Pc [.ref (ad 12), .int x1, .long x2, .long x4] (preW D vwCl (tysM cI cJ cG) (wsM ad cI cJ cG I J) sz)) (va_Qi (fun (r : Int32) (u : SI × SJ) => (r, u) = res) (atW D vwCl (tysM cI cJ cG) (va_A (wsM ad cI cJ cG I J) sz) (wsM ad cI cJ cG)) (va_A (wsM ad cI cJ cG I J) sz)) 0 0 (va_A (wsM ad cI cJ cG I J) sz) := by
  refine Met.ofW (cc := bL_allow) (maxL := 6) (ret := (some .boolean)) (by decide) rfl ?_
  intro p e s m args below meth c s₁ B hml hv
  obtain ⟨rfl, hsz, hP, hK, hD0, hN⟩ := hv
  subst hsz
  have X : Cx p s m [.ref (ad 12), .int x1, .long x2, .long x4].toArray meth c bL_allow (some .boolean) 6 RL := ⟨B.exec, B.bytes, B.returns, hml, findClass_of_methodNamed B.named, fun w h => atoms_spec (ws := (Cond.code yL_allow bL_allow 6 (some .boolean) :: gtb)) B.pre w (List.mem_cons_of_mem _ h), B.notSynchronized⟩
  have hl := lv_entry ([.ref (ad 12), .int x1, .long x2, .long x4]) (n := 6) (Nat.le_of_ble_eq_true rfl)
  rw [lg_entry_eq]
  generalize (lg_sl ([.ref (ad 12), .int x1, .long x2, .long x4]) ++ List.replicate (6 - (lg_sl ([.ref (ad 12), .int x1, .long x2, .long x4])).length) Slot.unset).toArray = ls at hl ⊢
  have hl : lv_has ls 6 [(0, .ref (ad 12)), (1, .int x1), (2, .long x2), (4, .long x4)] := hl
  have hA : ∀ q, s.heap.size ≤ q → va_A (wsM ad cI cJ cG I J) s.heap.size q := fun q h => Or.inr h
  exact w_L_allow_0 X hK hN hA  x1 x2 x4 I J hm _ _ _ hP hD0.self va_S.rf hl
def b_L_allOf_0 (x1 : Int32) (aa : Nat) (I : SI) (J : SJ) : Option (Int64 × SI × SJ) :=
  gd (aa ∈ [32, 35]) <|
  if 4 ≤ x1 then
    nm (x1 - 4) fun v2 =>
    gd (vin v2 3) <|
    cl3 (m_X_sum aa (7 + v2.toNatClampNeg) I J) fun r4 I5 J6 =>
    some (r4, I5, J6)
  else
    gd (vin x1 4) <|
    nm (J (aa + 1) x1.toNatClampNeg) fun v9 =>
    some (v9, I, J)
def m_L_allOf (x1 : Int32) (aa : Nat) (I : SI) (J : SJ) : Option (Int64 × SI × SJ) := b_L_allOf_0 x1 aa I J
def rm_L_allOf : Room := { frames := 1, cells := 0, slots := 0, locals := 21 }
set_option maxHeartbeats 4000000 in
set_option maxRecDepth 100000 in
theorem w_L_allOf_0 {p : Program} {l : Launch} {e : Env} {s : State} {m : MethodId} {args : Array Value} {below : List Frame} {meth : Method} {c : Code} {D : va_G} {A : Nat → Prop} {ad : Nat → Nat} {cI cJ cG : ClassId} {res : Int64 × SI × SJ} (X : Cx p s m args meth c bL_allOf (some .long) 3 RL) (hK : va_K D vwCl (tysM cI cJ cG) s) (hN : NWs s) (hA : ∀ q, s.heap.size ≤ q → A q)
     (x1 : Int32) (aa : Nat) (I : SI) (J : SJ) (hm : b_L_allOf_0  x1 aa I J = some res) : WB p l e (headSpec (Cond.code yL_allOf bL_allOf 3 (some .long) :: gtb) rm_L_allOf).room s m args below meth c (MQ below (va_Ql (fun (r : Int64) (u : SI × SJ) => (r, u) = res) (atW D vwCl (tysM cI cJ cG) A (wsM ad cI cJ cG)) A) args s 0 0 A) D vwCl A 3 (wsM ad cI cJ cG I J) 0 [(0, .ref (ad 12)), (1, .int x1), (2, .ref (ad aa))] [] := by
  obtain ⟨hx, hb, hr, hml, hown, hT, hlk⟩ := X
  intro H locs ls hP hD hS hl
  unfold b_L_allOf_0 at hm
  obtain ⟨hf_aa, hm⟩ := gd_to hm
  refine lv_iload_n hx hb dL_allOf_0 rfl (lv_at hl 1 rfl) ?_
  refine lv_iconst (v := 4) hx hb dL_allOf_1 (by decide) ?_
  refine lv_icmp_ge (tgt := 14) hx hb dL_allOf_2 (by decide) (fun c1 => ?_) (fun c1 => ?_)
  · have hm := brp hm c1
    refine lv_aload_n hx hb dL_allOf_14 rfl (lv_at hl 2 rfl) ?_
    refine lv_aload_n hx hb dL_allOf_15 rfl (lv_at hl 0 rfl) ?_
    refine va_get (D := D) (ci := 1) (v := .ref (ad 0)) (C := RL) (T := TL) (N := 7) hx hb hT inL hown hK hP 12 rfl rfl 0 (by decide) (hT _ wd_138) (fun _ h9 => h9) rfl dL_allOf_16 ?_
    refine va_getN (D := D) (ci := 4) (v := .ref (ad 6)) (C := RT) (T := TT) (N := 9) hx hb hT inT hown hK hP 0 rfl rfl 6 (by decide) (va_Nw.use rfl (hN _ nw_96)) (fun _ h9 => h9) rfl dL_allOf_19 ?_
    refine lv_iload_n hx hb dL_allOf_22 rfl (lv_at hl 1 rfl) ?_
    refine lv_iconst (v := 4) hx hb dL_allOf_23 (by decide) ?_
    refine lv_isub hx hb dL_allOf_24 ?_
    refine lv_topi (fun v2 ev2 => ?_)
    have hm := nm_to ev2 hm
    obtain ⟨g3, hm⟩ := gd_to hm
    refine va_aldG hx hb hK hP 6 2 rfl rfl rfl g3 (outM_6 (vp_lt g3)) dL_allOf_25 ?_
    obtain ⟨r4, I5, J6, hc7, hm⟩ := cl3_to hm
    refine pst_l (wf := wsM ad cI cJ cG) hD hS hA (va_runVN (As := [.ref (ad (7 + v2.toNatClampNeg))]) (rest := []) ⟨hx, hb, hml, hown, hT⟩ (c_X_sum l D ad cI cJ cG _ aa (7 + v2.toNatClampNeg) I J _ hc7) ⟨va_cnB 1 hT (gtb_good wd_442) rfl rfl rfl (hN _ nw_439) (hT _ wd_56) (by decide +kernel) ⟨Nat.le_of_ble_eq_true rfl, Nat.le_of_ble_eq_true rfl⟩, hT _ wd_441, hT _ wd_23⟩ ⟨preW_fb, va_recv hK hP (ci := 2) (q0 := aa) rfl (famM_mix hf_aa), preW_at hP hK hN hD⟩ rfl rfl hl.1 rfl (lv_room (Nat.le_of_ble_eq_true rfl)) dL_allOf_26 ⟨Nat.zero_le _, Nat.zero_le _⟩) (fun H locs hP hD hS => ?_)
    exact W.lret hx hb hr (fun t ht hW => ⟨⟨r4, (I5, J6), rfl, Option.some.inj hm, ht ▸ hP, va_K.moved hW.alike hK, hD⟩, hS.F ht⟩) hS.2.2 dL_allOf_29 hlk
  · have hm := brn hm c1
    refine lv_aload_n hx hb dL_allOf_5 rfl (lv_at hl 2 rfl) ?_
    refine va_getN (D := D) (ci := 2) (v := .ref (ad (aa + 1))) (C := RX) (T := TX) (N := 3) hx hb hT inX hown hK hP aa (famM_mix hf_aa) rfl 0 (by decide) (va_Nw.use rfl (hN _ nw_183)) (fun _ h9 => h9) rfl dL_allOf_6 ?_
    refine lv_iload_n hx hb dL_allOf_9 rfl (lv_at hl 1 rfl) ?_
    obtain ⟨g8, hm⟩ := gd_to hm
    refine va_lald hx hb hK hP (aa + 1) 1 (famM_mix_1 hf_aa) rfl g8 dL_allOf_10 ?_
    refine lv_topl (fun v9 ev9 => ?_)
    have hm := nm_to ev9 hm
    refine lv_goto (tgt := 29) hx hb dL_allOf_11 (by decide) ?_
    exact W.lret hx hb hr (fun t ht hW => ⟨⟨v9, (I, J), rfl, Option.some.inj hm, ht ▸ hP, va_K.moved hW.alike hK, hD⟩, hS.F ht⟩) hS.2.2 dL_allOf_29 hlk
set_option maxHeartbeats 4000000 in
set_option maxRecDepth 100000 in
theorem c_L_allOf (l : Launch) (D : va_G) (ad : Nat → Nat) (cI cJ cG : ClassId) (sz : Nat) (x1 : Int32) (aa : Nat) (I : SI) (J : SJ) (res : Int64 × SI × SJ) (hm : m_L_allOf x1 aa I J = some res) : Met l yL_allOf (Cond.code yL_allOf bL_allOf 3 (some .long) :: gtb) rm_L_allOf (va_Pc [.ref (ad 12), .int x1, .ref (ad aa)] (preW D vwCl (tysM cI cJ cG) (wsM ad cI cJ cG I J) sz)) (va_Ql (fun (r : Int64) (u : SI × SJ) => (r, u) = res) (atW D vwCl (tysM cI cJ cG) (va_A (wsM ad cI cJ cG I J) sz) (wsM ad cI cJ cG)) (va_A (wsM ad cI cJ cG I J) sz)) 0 0 (va_A (wsM ad cI cJ cG I J) sz) := by
  refine Met.ofW (cc := bL_allOf) (maxL := 3) (ret := (some .long)) (by decide) rfl ?_
  intro p e s m args below meth c s₁ B hml hv
  obtain ⟨rfl, hsz, hP, hK, hD0, hN⟩ := hv
  subst hsz
  have X : Cx p s m [.ref (ad 12), .int x1, .ref (ad aa)].toArray meth c bL_allOf (some .long) 3 RL := ⟨B.exec, B.bytes, B.returns, hml, findClass_of_methodNamed B.named, fun w h => atoms_spec (ws := (Cond.code yL_allOf bL_allOf 3 (some .long) :: gtb)) B.pre w (List.mem_cons_of_mem _ h), B.notSynchronized⟩
  have hl := lv_entry ([.ref (ad 12), .int x1, .ref (ad aa)]) (n := 3) (Nat.le_of_ble_eq_true rfl)
  rw [lg_entry_eq]
  generalize (lg_sl ([.ref (ad 12), .int x1, .ref (ad aa)]) ++ List.replicate (3 - (lg_sl ([.ref (ad 12), .int x1, .ref (ad aa)])).length) Slot.unset).toArray = ls at hl ⊢
  have hl : lv_has ls 3 [(0, .ref (ad 12)), (1, .int x1), (2, .ref (ad aa))] := hl
  have hA : ∀ q, s.heap.size ≤ q → va_A (wsM ad cI cJ cG I J) s.heap.size q := fun q h => Or.inr h
  exact w_L_allOf_0 X hK hN hA  x1 aa I J hm _ _ _ hP hD0.self va_S.rf hl
