def b_F_isStuff_0 (x1 : Int32) (I : SI) (J : SJ) : Option (Int32 × SI × SJ) :=
  nm ((I 0 0) - 1) fun v1 =>
  cl1 (m_F_isWithin x1 0 v1) fun r2 =>
  gd (narrow .boolean (.int r2) = .int r2) <|
  some (r2, I, J)
def m_F_isStuff (x1 : Int32) (I : SI) (J : SJ) : Option (Int32 × SI × SJ) := b_F_isStuff_0 x1 I J
def rm_F_isStuff : Room := { frames := 1, cells := 0, slots := 0, locals := 22 }
set_option maxHeartbeats 4000000 in
set_option maxRecDepth 100000 in
theorem w_F_isStuff_0 {p : Program} {l : Launch} {e : Env} {s : State} {m : MethodId} {args : Array Value} {below : List Frame} {meth : Method} {c : Code} {D : va_G} {A : Nat → Prop} {ad : Nat → Nat} {cI cJ cG : ClassId} {res : Int32 × SI × SJ} (X : Cx p s m args meth c bF_isStuff (some .boolean) 2 RF) (hK : va_K D vwCl (tysF cI cJ cG) s) (hN : NWs s) (hA : ∀ q, s.heap.size ≤ q → A q)
     (x1 : Int32) (I : SI) (J : SJ) (hm : b_F_isStuff_0  x1 I J = some res) : WB p l e (headSpec (Cond.code yF_isStuff bF_isStuff 2 (some .boolean) :: gtb) rm_F_isStuff).room s m args below meth c (MQ below (va_Qi (fun (r : Int32) (u : SI × SJ) => (r, u) = res) (atW D vwCl (tysF cI cJ cG) A (wsF ad cI cJ cG)) A) args s 0 0 A) D vwCl A 2 (wsF ad cI cJ cG I J) 0 [(0, .ref (ad 41)), (1, .int x1)] [] := by
  obtain ⟨hx, hb, hr, hml, hown, hT, hlk⟩ := X
  intro H locs ls hP hD hS hl
  unfold b_F_isStuff_0 at hm
  refine lv_iload_n hx hb dF_isStuff_0 rfl (lv_at hl 1 rfl) ?_
  refine lv_iconst (v := 0) hx hb dF_isStuff_1 (by decide) ?_
  refine lv_aload_n hx hb dF_isStuff_2 rfl (lv_at hl 0 rfl) ?_
  refine va_get (D := D) (ci := 5) (v := .ref (ad 0)) (C := RF) (T := TF) (N := 12) hx hb hT inF hown hK hP 41 rfl rfl 0 (by decide) (hT _ wd_242) (fun _ h9 => h9) rfl dF_isStuff_3 ?_
  refine va_getN (D := D) (ci := 4) (v := .int (I 0 0)) (C := RT) (T := TT) (N := 9) hx hb hT inT hown hK hP 0 rfl rfl 0 (by decide) (va_Nw.use rfl (hN _ nw_77)) (fun _ h9 => h9) rfl dF_isStuff_6 ?_
  refine lv_iconst (v := 1) hx hb dF_isStuff_9 (by decide) ?_
  refine lv_isub hx hb dF_isStuff_10 ?_
  refine lv_topi (fun v1 ev1 => ?_)
  have hm := nm_to ev1 hm
  obtain ⟨r2, hc3, hm⟩ := cl1_to hm
  refine pstZ_i hS (va_runS (As := [.int x1, .int 0, .int v1]) (rest := []) ⟨hx, hb, hml, hown, hT⟩ (c_F_isWithin l x1 0 v1 _ hc3) (va_cwS 3 hT (gS wd_286 wd_287 wd_51 wd_288) rfl rfl rfl (by decide +kernel) ⟨Nat.le_of_ble_eq_true rfl, Nat.le_of_ble_eq_true rfl⟩) ⟨preZ_fb, preZ_at⟩ rfl rfl hl.1 rfl (lv_room (Nat.le_of_ble_eq_true rfl)) dF_isStuff_11 ⟨Nat.zero_le _, Nat.zero_le _⟩) (fun H1 locs hq hS => ?_)
  have hP := keptP hP hq
  obtain ⟨g4, hm⟩ := gd_to hm
  exact W.zret hx hb hr g4 (fun t ht hW => ⟨⟨r2, (I, J), rfl, Option.some.inj hm, ht ▸ hP, va_K.moved hW.alike hK, hD⟩, hS.F ht⟩) hS.2.2 dF_isStuff_14 hlk
set_option maxHeartbeats 4000000 in
set_option maxRecDepth 100000 in
theorem c_F_isStuff (l : Launch) (D : va_G) (ad : Nat → Nat) (cI cJ cG : ClassId) (sz : Nat) (x1 : Int32) (I : SI) (J : SJ) (res : Int32 × SI × SJ) (hm : m_F_isStuff x1 I J = some res) : Met l yF_isStuff (Cond.code yF_isStuff bF_isStuff 2 (some .boolean) :: gtb) rm_F_isStuff (va_Pc [.ref (ad 41), .int x1] (preW D vwCl (tysF cI cJ cG) (wsF ad cI cJ cG I J) sz)) (va_Qi (fun (r : Int32) (u : SI × SJ) => (r, u) = res) (atW D vwCl (tysF cI cJ cG) (va_A (wsF ad cI cJ cG I J) sz) (wsF ad cI cJ cG)) (va_A (wsF ad cI cJ cG I J) sz)) 0 0 (va_A (wsF ad cI cJ cG I J) sz) := by
  refine Met.ofW (cc := bF_isStuff) (maxL := 2) (ret := (some .boolean)) (by decide) rfl ?_
  intro p e s m args below meth c s₁ B hml hv
  obtain ⟨rfl, hsz, hP, hK, hD0, hN⟩ := hv
  subst hsz
  have X : Cx p s m [.ref (ad 41), .int x1].toArray meth c bF_isStuff (some .boolean) 2 RF := ⟨B.exec, B.bytes, B.returns, hml, findClass_of_methodNamed B.named, fun w h => atoms_spec (ws := (Cond.code yF_isStuff bF_isStuff 2 (some .boolean) :: gtb)) B.pre w (List.mem_cons_of_mem _ h), B.notSynchronized⟩
  have hl := lv_entry ([.ref (ad 41), .int x1]) (n := 2) (Nat.le_of_ble_eq_true rfl)
  rw [lg_entry_eq]
  generalize (lg_sl ([.ref (ad 41), .int x1]) ++ List.replicate (2 - (lg_sl ([.ref (ad 41), .int x1])).length) Slot.unset).toArray = ls at hl ⊢
  have hl : lv_has ls 2 [(0, .ref (ad 41)), (1, .int x1)] := hl
  have hA : ∀ q, s.heap.size ≤ q → va_A (wsF ad cI cJ cG I J) s.heap.size q := fun q h => Or.inr h
  exact w_F_isStuff_0 X hK hN hA  x1 I J hm _ _ _ hP hD0.self va_S.rf hl
def b_F_stuff_0 (x1 : Int32) (x2 : Int32) (I : SI) (J : SJ) : Option (Int32 × SI × SJ) :=
  if 4 ≤ (I 0 0) then
    some (-1, I, J)
  else
    cl1 (m_F_isPrice x1) fun r2 =>
    if r2 = 0 then
      some (-1, I, J)
    else
      cl1 (m_F_isStock x2) fun r5 =>
      if r5 = 0 then
        some (-1, I, J)
      else
        gd (vin (I 0 0) 4) <|
        nm (va_up I 1 (upd (I 1) (I 0 0).toNatClampNeg x1)) fun I9 =>
        gd (vin (I 0 0) 4) <|
        nm (va_up I9 2 (upd (I9 2) (I 0 0).toNatClampNeg x2)) fun I11 =>
        gd (vin (I 0 0) 4) <|
        nm (va_up I11 4 (upd (I11 4) (I 0 0).toNatClampNeg 10)) fun I13 =>
        nm ((I 0 0) + 1) fun v14 =>
        nm (va_up I13 0 (upd (I13 0) 0 v14)) fun I15 =>
        some (I 0 0, I15, J)
def m_F_stuff (x1 : Int32) (x2 : Int32) (I : SI) (J : SJ) : Option (Int32 × SI × SJ) := b_F_stuff_0 x1 x2 I J
def rm_F_stuff : Room := { frames := 2, cells := 0, slots := 0, locals := 42 }
set_option maxHeartbeats 4000000 in
set_option maxRecDepth 100000 in
theorem w_F_stuff_0 {p : Program} {l : Launch} {e : Env} {s : State} {m : MethodId} {args : Array Value} {below : List Frame} {meth : Method} {c : Code} {D : va_G} {A : Nat → Prop} {ad : Nat → Nat} {cI cJ cG : ClassId} {res : Int32 × SI × SJ} (X : Cx p s m args meth c bF_stuff (some .int) 4 RF) (hK : va_K D vwCl (tysF cI cJ cG) s) (hN : NWs s) (hA : ∀ q, s.heap.size ≤ q → A q)
     (x1 : Int32) (x2 : Int32) (I : SI) (J : SJ) (hm : b_F_stuff_0  x1 x2 I J = some res) : WB p l e (headSpec (Cond.code yF_stuff bF_stuff 4 (some .int) :: gtb) rm_F_stuff).room s m args below meth c (MQ below (va_Qi (fun (r : Int32) (u : SI × SJ) => (r, u) = res) (atW D vwCl (tysF cI cJ cG) A (wsF ad cI cJ cG)) A) args s 0 0 A) D vwCl A 4 (wsF ad cI cJ cG I J) 0 [(0, .ref (ad 41)), (1, .int x1), (2, .int x2)] [] := by
  obtain ⟨hx, hb, hr, hml, hown, hT, hlk⟩ := X
  intro H locs ls hP hD hS hl
  unfold b_F_stuff_0 at hm
  refine lv_aload_n hx hb dF_stuff_0 rfl (lv_at hl 0 rfl) ?_
  refine va_get (D := D) (ci := 5) (v := .ref (ad 0)) (C := RF) (T := TF) (N := 12) hx hb hT inF hown hK hP 41 rfl rfl 0 (by decide) (hT _ wd_242) (fun _ h9 => h9) rfl dF_stuff_1 ?_
  refine va_getN (D := D) (ci := 4) (v := .int (I 0 0)) (C := RT) (T := TT) (N := 9) hx hb hT inT hown hK hP 0 rfl rfl 0 (by decide) (va_Nw.use rfl (hN _ nw_77)) (fun _ h9 => h9) rfl dF_stuff_4 ?_
  refine lv_iconst (v := 4) hx hb dF_stuff_7 (by decide) ?_
  refine lv_icmp_ge (tgt := 25) hx hb dF_stuff_8 (by decide) (fun c1 => ?_) (fun c1 => ?_)
  · have hm := brp hm c1
    refine lv_iconst (v := (-1)) hx hb dF_stuff_25 (by decide) ?_
    exact W.iret hx hb hr (fun t ht hW => ⟨⟨-1, (I, J), rfl, Option.some.inj hm, ht ▸ hP, va_K.moved hW.alike hK, hD⟩, hS.F ht⟩) hS.2.2 dF_stuff_26 hlk
  · have hm := brn hm c1
    refine lv_iload_n hx hb dF_stuff_11 rfl (lv_at hl 1 rfl) ?_
    obtain ⟨r2, hc3, hm⟩ := cl1_to hm
    refine pstZ_i hS (va_runS (As := [.int x1]) (rest := []) ⟨hx, hb, hml, hown, hT⟩ (c_F_isPrice l x1 _ hc3) (va_cwS 1 hT (gS wd_283 wd_284 wd_51 wd_285) rfl rfl rfl (by decide +kernel) ⟨Nat.le_of_ble_eq_true rfl, Nat.le_of_ble_eq_true rfl⟩) ⟨preZ_fb, preZ_at⟩ rfl rfl hl.1 rfl (lv_room (Nat.le_of_ble_eq_true rfl)) dF_stuff_12 ⟨Nat.zero_le _, Nat.zero_le _⟩) (fun H1 locs hq hS => ?_)
    have hP := keptP hP hq
    refine lv_if_eq (tgt := 25) hx hb dF_stuff_15 (by decide) (fun c4 => ?_) (fun c4 => ?_)
    · have hm := brp hm c4
      refine lv_iconst (v := (-1)) hx hb dF_stuff_25 (by decide) ?_
      exact W.iret hx hb hr (fun t ht hW => ⟨⟨-1, (I, J), rfl, Option.some.inj hm, ht ▸ hP, va_K.moved hW.alike hK, hD⟩, hS.F ht⟩) hS.2.2 dF_stuff_26 hlk
    · have hm := brn hm c4
      refine lv_iload_n hx hb dF_stuff_18 rfl (lv_at hl 2 rfl) ?_
      obtain ⟨r5, hc6, hm⟩ := cl1_to hm
      refine pstZ_i hS (va_runS (As := [.int x2]) (rest := []) ⟨hx, hb, hml, hown, hT⟩ (c_F_isStock l x2 _ hc6) (va_cwS 1 hT (gS wd_289 wd_290 wd_51 wd_291) rfl rfl rfl (by decide +kernel) ⟨Nat.le_of_ble_eq_true rfl, Nat.le_of_ble_eq_true rfl⟩) ⟨preZ_fb, preZ_at⟩ rfl rfl hl.1 rfl (lv_room (Nat.le_of_ble_eq_true rfl)) dF_stuff_19 ⟨Nat.zero_le _, Nat.zero_le _⟩) (fun H1 locs hq hS => ?_)
      have hP := keptP hP hq
      refine lv_if_ne (tgt := 27) hx hb dF_stuff_22 (by decide) (fun c7 => ?_) (fun c7 => ?_)
      · have hm := brn hm c7
        refine lv_aload_n hx hb dF_stuff_27 rfl (lv_at hl 0 rfl) ?_
        refine va_get (D := D) (ci := 5) (v := .ref (ad 0)) (C := RF) (T := TF) (N := 12) hx hb hT inF hown hK hP 41 rfl rfl 0 (by decide) (hT _ wd_242) (fun _ h9 => h9) rfl dF_stuff_28 ?_
        refine va_getN (D := D) (ci := 4) (v := .int (I 0 0)) (C := RT) (T := TT) (N := 9) hx hb hT inT hown hK hP 0 rfl rfl 0 (by decide) (va_Nw.use rfl (hN _ nw_77)) (fun _ h9 => h9) rfl dF_stuff_31 ?_
        refine lv_istore_n (lv' := [(3, .int (I 0 0)), (0, .ref (ad 41)), (1, .int x1), (2, .int x2)]) hx hb dF_stuff_34 rfl hl (by decide) rfl (fun ls hl => ?_)
        refine lv_aload_n hx hb dF_stuff_35 rfl (lv_at hl 1 rfl) ?_
        refine va_get (D := D) (ci := 5) (v := .ref (ad 0)) (C := RF) (T := TF) (N := 12) hx hb hT inF hown hK hP 41 rfl rfl 0 (by decide) (hT _ wd_242) (fun _ h9 => h9) rfl dF_stuff_36 ?_
        refine va_getN (D := D) (ci := 4) (v := .ref (ad 1)) (C := RT) (T := TT) (N := 9) hx hb hT inT hown hK hP 0 rfl rfl 1 (by decide) (va_Nw.use rfl (hN _ nw_81)) (fun _ h9 => h9) rfl dF_stuff_39 ?_
        refine lv_iload_n hx hb dF_stuff_42 rfl (lv_at hl 0 rfl) ?_
        refine lv_iload_n hx hb dF_stuff_43 rfl (lv_at hl 2 rfl) ?_
        obtain ⟨g8, hm⟩ := gd_to hm
        refine va_iast hx hb hK hP hD hS 1 0 rfl rfl g8 dF_stuff_44 (fun H locs hP hD hS => ?_)
        obtain ⟨I9, eI9⟩ : ∃ z : SI, z = va_up I 1 (upd (I 1) (I 0 0).toNatClampNeg x1) := ⟨_, rfl⟩
        have hm := nm_to eI9 hm
        have hP := P_eq (ws2 := wsF ad cI cJ cG I9 J) hP (by rw [eI9]; rfl)
        have hD := D_eq (ws2 := wsF ad cI cJ cG I9 J) hD (by rw [eI9]; rfl)
        refine lv_aload_n hx hb dF_stuff_45 rfl (lv_at hl 1 rfl) ?_
        refine va_get (D := D) (ci := 5) (v := .ref (ad 0)) (C := RF) (T := TF) (N := 12) hx hb hT inF hown hK hP 41 rfl rfl 0 (by decide) (hT _ wd_242) (fun _ h9 => h9) rfl dF_stuff_46 ?_
        refine va_getN (D := D) (ci := 4) (v := .ref (ad 2)) (C := RT) (T := TT) (N := 9) hx hb hT inT hown hK hP 0 rfl rfl 2 (by decide) (va_Nw.use rfl (hN _ nw_84)) (fun _ h9 => h9) rfl dF_stuff_49 ?_
        refine lv_iload_n hx hb dF_stuff_52 rfl (lv_at hl 0 rfl) ?_
        refine lv_iload_n hx hb dF_stuff_53 rfl (lv_at hl 3 rfl) ?_
        obtain ⟨g10, hm⟩ := gd_to hm
        refine va_iast hx hb hK hP hD hS 2 0 rfl rfl g10 dF_stuff_54 (fun H locs hP hD hS => ?_)
        obtain ⟨I11, eI11⟩ : ∃ z : SI, z = va_up I9 2 (upd (I9 2) (I 0 0).toNatClampNeg x2) := ⟨_, rfl⟩
        have hm := nm_to eI11 hm
        have hP := P_eq (ws2 := wsF ad cI cJ cG I11 J) hP (by rw [eI11]; rfl)
        have hD := D_eq (ws2 := wsF ad cI cJ cG I11 J) hD (by rw [eI11]; rfl)
        refine lv_aload_n hx hb dF_stuff_55 rfl (lv_at hl 1 rfl) ?_
        refine va_get (D := D) (ci := 5) (v := .ref (ad 0)) (C := RF) (T := TF) (N := 12) hx hb hT inF hown hK hP 41 rfl rfl 0 (by decide) (hT _ wd_242) (fun _ h9 => h9) rfl dF_stuff_56 ?_
        refine va_getN (D := D) (ci := 4) (v := .ref (ad 4)) (C := RT) (T := TT) (N := 9) hx hb hT inT hown hK hP 0 rfl rfl 4 (by decide) (va_Nw.use rfl (hN _ nw_90)) (fun _ h9 => h9) rfl dF_stuff_59 ?_
        refine lv_iload_n hx hb dF_stuff_62 rfl (lv_at hl 0 rfl) ?_
        refine lv_bipush (v := 10) hx hb dF_stuff_63 (by decide) ?_
        obtain ⟨g12, hm⟩ := gd_to hm
        refine va_iast hx hb hK hP hD hS 4 0 rfl rfl g12 dF_stuff_65 (fun H locs hP hD hS => ?_)
        obtain ⟨I13, eI13⟩ : ∃ z : SI, z = va_up I11 4 (upd (I11 4) (I 0 0).toNatClampNeg 10) := ⟨_, rfl⟩
        have hm := nm_to eI13 hm
        have hP := P_eq (ws2 := wsF ad cI cJ cG I13 J) hP (by rw [eI13]; rfl)
        have hD := D_eq (ws2 := wsF ad cI cJ cG I13 J) hD (by rw [eI13]; rfl)
        refine lv_aload_n hx hb dF_stuff_66 rfl (lv_at hl 1 rfl) ?_
        refine va_get (D := D) (ci := 5) (v := .ref (ad 0)) (C := RF) (T := TF) (N := 12) hx hb hT inF hown hK hP 41 rfl rfl 0 (by decide) (hT _ wd_242) (fun _ h9 => h9) rfl dF_stuff_67 ?_
        refine lv_iload_n hx hb dF_stuff_70 rfl (lv_at hl 0 rfl) ?_
        refine lv_iconst (v := 1) hx hb dF_stuff_71 (by decide) ?_
        refine lv_iadd hx hb dF_stuff_72 ?_
        refine lv_topi (fun v14 ev14 => ?_)
        have hm := nm_to ev14 hm
        refine va_putN (D := D) (ci := 4) (v := .int v14) (ty := .int) (C := RT) (T := TT) (N := 9) hx hb hT inT tyT okT nmT hown hK hP hD hS 0 rfl rfl 0 (by decide) (va_Nw.use rfl (hN _ nw_77)) (fun _ h9 => h9) rfl pf_I rfl rfl (Nat.le_of_ble_eq_true rfl) dF_stuff_73 (fun H locs hP hD hS => ?_)
        obtain ⟨I15, eI15⟩ : ∃ z : SI, z = va_up I13 0 (upd (I13 0) 0 v14) := ⟨_, rfl⟩
        have hm := nm_to eI15 hm
        have hP := P_eq (ws2 := wsF ad cI cJ cG I15 J) hP (by rw [eI15]; rfl)
        have hD := D_eq (ws2 := wsF ad cI cJ cG I15 J) hD (by rw [eI15]; rfl)
        refine lv_iload_n hx hb dF_stuff_76 rfl (lv_at hl 0 rfl) ?_
        exact W.iret hx hb hr (fun t ht hW => ⟨⟨I 0 0, (I15, J), rfl, Option.some.inj hm, ht ▸ hP, va_K.moved hW.alike hK, hD⟩, hS.F ht⟩) hS.2.2 dF_stuff_77 hlk
      · have hm := brp hm c7
        refine lv_iconst (v := (-1)) hx hb dF_stuff_25 (by decide) ?_
        exact W.iret hx hb hr (fun t ht hW => ⟨⟨-1, (I, J), rfl, Option.some.inj hm, ht ▸ hP, va_K.moved hW.alike hK, hD⟩, hS.F ht⟩) hS.2.2 dF_stuff_26 hlk
set_option maxHeartbeats 4000000 in
set_option maxRecDepth 100000 in
theorem c_F_stuff (l : Launch) (D : va_G) (ad : Nat → Nat) (cI cJ cG : ClassId) (sz : Nat) (x1 : Int32) (x2 : Int32) (I : SI) (J : SJ) (res : Int32 × SI × SJ) (hm : m_F_stuff x1 x2 I J = some res) : Met l yF_stuff (Cond.code yF_stuff bF_stuff 4 (some .int) :: gtb) rm_F_stuff (va_Pc [.ref (ad 41), .int x1, .int x2] (preW D vwCl (tysF cI cJ cG) (wsF ad cI cJ cG I J) sz)) (va_Qi (fun (r : Int32) (u : SI × SJ) => (r, u) = res) (atW D vwCl (tysF cI cJ cG) (va_A (wsF ad cI cJ cG I J) sz) (wsF ad cI cJ cG)) (va_A (wsF ad cI cJ cG I J) sz)) 0 0 (va_A (wsF ad cI cJ cG I J) sz) := by
  refine Met.ofW (cc := bF_stuff) (maxL := 4) (ret := (some .int)) (by decide) rfl ?_
  intro p e s m args below meth c s₁ B hml hv
  obtain ⟨rfl, hsz, hP, hK, hD0, hN⟩ := hv
  subst hsz
  have X : Cx p s m [.ref (ad 41), .int x1, .int x2].toArray meth c bF_stuff (some .int) 4 RF := ⟨B.exec, B.bytes, B.returns, hml, findClass_of_methodNamed B.named, fun w h => atoms_spec (ws := (Cond.code yF_stuff bF_stuff 4 (some .int) :: gtb)) B.pre w (List.mem_cons_of_mem _ h), B.notSynchronized⟩
  have hl := lv_entry ([.ref (ad 41), .int x1, .int x2]) (n := 4) (Nat.le_of_ble_eq_true rfl)
  rw [lg_entry_eq]
  generalize (lg_sl ([.ref (ad 41), .int x1, .int x2]) ++ List.replicate (4 - (lg_sl ([.ref (ad 41), .int x1, .int x2])).length) Slot.unset).toArray = ls at hl ⊢
  have hl : lv_has ls 4 [(0, .ref (ad 41)), (1, .int x1), (2, .int x2)] := hl
  have hA : ∀ q, s.heap.size ≤ q → va_A (wsF ad cI cJ cG I J) s.heap.size q := fun q h => Or.inr h
  exact w_F_stuff_0 X hK hN hA  x1 x2 I J hm _ _ _ hP hD0.self va_S.rf hl
def b_F_price_0 (x1 : Int32) (x2 : Int32) (I : SI) (J : SJ) : Option (Int32 × SI × SJ) :=
  cl3 (m_F_isStuff x1 I J) fun r1 I2 J3 =>
  if r1 = 0 then
    some (-1, I2, J3)
  else
    cl1 (m_F_isPrice x2) fun r6 =>
    if r6 = 0 then
      some (-1, I2, J3)
    else
      gd (vin x1 4) <|
      nm (I2 1 x1.toNatClampNeg) fun v10 =>
      gd (vin x1 4) <|
      nm (va_up I2 1 (upd (I2 1) x1.toNatClampNeg x2)) fun I12 =>
      some (v10, I12, J3)
def m_F_price (x1 : Int32) (x2 : Int32) (I : SI) (J : SJ) : Option (Int32 × SI × SJ) := b_F_price_0 x1 x2 I J
def rm_F_price : Room := { frames := 2, cells := 0, slots := 0, locals := 43 }
set_option maxHeartbeats 4000000 in
set_option maxRecDepth 100000 in
theorem w_F_price_0 {p : Program} {l : Launch} {e : Env} {s : State} {m : MethodId} {args : Array Value} {below : List Frame} {meth : Method} {c : Code} {D : va_G} {A : Nat → Prop} {ad : Nat → Nat} {cI cJ cG : ClassId} {res : Int32 × SI × SJ} (X : Cx p s m args meth c bF_price (some .int) 4 RF) (hK : va_K D vwCl (tysF cI cJ cG) s) (hN : NWs s) (hA : ∀ q, s.heap.size ≤ q → A q)
     (x1 : Int32) (x2 : Int32) (I : SI) (J : SJ) (hm : b_F_price_0  x1 x2 I J = some res) : WB p l e (headSpec (Cond.code yF_price bF_price 4 (some .int) :: gtb) rm_F_price).room s m args below meth c (MQ below (va_Qi (fun (r : Int32) (u : SI × SJ) => (r, u) = res) (atW D vwCl (tysF cI cJ cG) A (wsF ad cI cJ cG)) A) args s 0 0 A) D vwCl A 4 (wsF ad cI cJ cG I J) 0 [(0, .ref (ad 41)), (1, .int x1), (2, .int x2)] [] := by
  obtain ⟨hx, hb, hr, hml, hown, hT, hlk⟩ := X
  intro H locs ls hP hD hS hl
  unfold b_F_price_0 at hm
  refine lv_aload_n hx hb dF_price_0 rfl (lv_at hl 0 rfl) ?_
  refine lv_iload_n hx hb dF_price_1 rfl (lv_at hl 1 rfl) ?_
  obtain ⟨r1, I2, J3, hc4, hm⟩ := cl3_to hm
  refine pst_i (wf := wsF ad cI cJ cG) hD hS hA (va_runV (As := [.int x1]) (rest := []) ⟨hx, hb, hml, hown, hT⟩ (c_F_isStuff l D ad cI cJ cG _ x1 I J _ hc4) (cwV 1 hT (gV wd_296 wd_298 wd_0 wd_51 wd_299) rfl rfl rfl (by decide +kernel) ⟨Nat.le_of_ble_eq_true rfl, Nat.le_of_ble_eq_true rfl⟩) ⟨preW_fb, va_recv hK hP (ci := 5) (q0 := 41) rfl rfl, preW_at hP hK hN hD⟩ rfl rfl hl.1 rfl (lv_room (Nat.le_of_ble_eq_true rfl)) dF_price_2 ⟨Nat.zero_le _, Nat.zero_le _⟩) (fun H locs hP hD hS => ?_)
  refine lv_if_eq (tgt := 15) hx hb dF_price_5 (by decide) (fun c5 => ?_) (fun c5 => ?_)
  · have hm := brp hm c5
    refine lv_iconst (v := (-1)) hx hb dF_price_15 (by decide) ?_
    exact W.iret hx hb hr (fun t ht hW => ⟨⟨-1, (I2, J3), rfl, Option.some.inj hm, ht ▸ hP, va_K.moved hW.alike hK, hD⟩, hS.F ht⟩) hS.2.2 dF_price_16 hlk
  · have hm := brn hm c5
    refine lv_iload_n hx hb dF_price_8 rfl (lv_at hl 2 rfl) ?_
    obtain ⟨r6, hc7, hm⟩ := cl1_to hm
    refine pstZ_i hS (va_runS (As := [.int x2]) (rest := []) ⟨hx, hb, hml, hown, hT⟩ (c_F_isPrice l x2 _ hc7) (va_cwS 1 hT (gS wd_283 wd_284 wd_51 wd_285) rfl rfl rfl (by decide +kernel) ⟨Nat.le_of_ble_eq_true rfl, Nat.le_of_ble_eq_true rfl⟩) ⟨preZ_fb, preZ_at⟩ rfl rfl hl.1 rfl (lv_room (Nat.le_of_ble_eq_true rfl)) dF_price_9 ⟨Nat.zero_le _, Nat.zero_le _⟩) (fun H1 locs hq hS => ?_)
    have hP := keptP hP hq
    refine lv_if_ne (tgt := 17) hx hb dF_price_12 (by decide) (fun c8 => ?_) (fun c8 => ?_)
    · have hm := brn hm c8
      refine lv_aload_n hx hb dF_price_17 rfl (lv_at hl 0 rfl) ?_
      refine va_get (D := D) (ci := 5) (v := .ref (ad 0)) (C := RF) (T := TF) (N := 12) hx hb hT inF hown hK hP 41 rfl rfl 0 (by decide) (hT _ wd_242) (fun _ h9 => h9) rfl dF_price_18 ?_
      refine va_getN (D := D) (ci := 4) (v := .ref (ad 1)) (C := RT) (T := TT) (N := 9) hx hb hT inT hown hK hP 0 rfl rfl 1 (by decide) (va_Nw.use rfl (hN _ nw_81)) (fun _ h9 => h9) rfl dF_price_21 ?_
      refine lv_iload_n hx hb dF_price_24 rfl (lv_at hl 1 rfl) ?_
      obtain ⟨g9, hm⟩ := gd_to hm
      refine va_iald hx hb hK hP 1 0 rfl rfl g9 dF_price_25 ?_
      refine lv_topi (fun v10 ev10 => ?_)
      have hm := nm_to ev10 hm
      refine lv_istore_n (lv' := [(3, .int v10), (0, .ref (ad 41)), (1, .int x1), (2, .int x2)]) hx hb dF_price_26 rfl hl (by decide) rfl (fun ls hl => ?_)
      refine lv_aload_n hx hb dF_price_27 rfl (lv_at hl 1 rfl) ?_
      refine va_get (D := D) (ci := 5) (v := .ref (ad 0)) (C := RF) (T := TF) (N := 12) hx hb hT inF hown hK hP 41 rfl rfl 0 (by decide) (hT _ wd_242) (fun _ h9 => h9) rfl dF_price_28 ?_
      refine va_getN (D := D) (ci := 4) (v := .ref (ad 1)) (C := RT) (T := TT) (N := 9) hx hb hT inT hown hK hP 0 rfl rfl 1 (by decide) (va_Nw.use rfl (hN _ nw_81)) (fun _ h9 => h9) rfl dF_price_31 ?_
      refine lv_iload_n hx hb dF_price_34 rfl (lv_at hl 2 rfl) ?_
      refine lv_iload_n hx hb dF_price_35 rfl (lv_at hl 3 rfl) ?_
      obtain ⟨g11, hm⟩ := gd_to hm
      refine va_iast hx hb hK hP hD hS 1 0 rfl rfl g11 dF_price_36 (fun H locs hP hD hS => ?_)
      obtain ⟨I12, eI12⟩ : ∃ z : SI, z = va_up I2 1 (upd (I2 1) x1.toNatClampNeg x2) := ⟨_, rfl⟩
      have hm := nm_to eI12 hm
      have hP := P_eq (ws2 := wsF ad cI cJ cG I12 J3) hP (by rw [eI12]; rfl)
      have hD := D_eq (ws2 := wsF ad cI cJ cG I12 J3) hD (by rw [eI12]; rfl)
      refine lv_iload_n hx hb dF_price_37 rfl (lv_at hl 0 rfl) ?_
      exact W.iret hx hb hr (fun t ht hW => ⟨⟨v10, (I12, J3), rfl, Option.some.inj hm, ht ▸ hP, va_K.moved hW.alike hK, hD⟩, hS.F ht⟩) hS.2.2 dF_price_38 hlk
    · have hm := brp hm c8
      refine lv_iconst (v := (-1)) hx hb dF_price_15 (by decide) ?_
      exact W.iret hx hb hr (fun t ht hW => ⟨⟨-1, (I2, J3), rfl, Option.some.inj hm, ht ▸ hP, va_K.moved hW.alike hK, hD⟩, hS.F ht⟩) hS.2.2 dF_price_16 hlk
set_option maxHeartbeats 4000000 in
set_option maxRecDepth 100000 in
theorem c_F_price (l : Launch) (D : va_G) (ad : Nat → Nat) (cI cJ cG : ClassId) (sz : Nat) (x1 : Int32) (x2 : Int32) (I : SI) (J : SJ) (res : Int32 × SI × SJ) (hm : m_F_price x1 x2 I J = some res) : Met l yF_price (Cond.code yF_price bF_price 4 (some .int) :: gtb) rm_F_price (va_Pc [.ref (ad 41), .int x1, .int x2] (preW D vwCl (tysF cI cJ cG) (wsF ad cI cJ cG I J) sz)) (va_Qi (fun (r : Int32) (u : SI × SJ) => (r, u) = res) (atW D vwCl (tysF cI cJ cG) (va_A (wsF ad cI cJ cG I J) sz) (wsF ad cI cJ cG)) (va_A (wsF ad cI cJ cG I J) sz)) 0 0 (va_A (wsF ad cI cJ cG I J) sz) := by
  refine Met.ofW (cc := bF_price) (maxL := 4) (ret := (some .int)) (by decide) rfl ?_
  intro p e s m args below meth c s₁ B hml hv
  obtain ⟨rfl, hsz, hP, hK, hD0, hN⟩ := hv
  subst hsz
  have X : Cx p s m [.ref (ad 41), .int x1, .int x2].toArray meth c bF_price (some .int) 4 RF := ⟨B.exec, B.bytes, B.returns, hml, findClass_of_methodNamed B.named, fun w h => atoms_spec (ws := (Cond.code yF_price bF_price 4 (some .int) :: gtb)) B.pre w (List.mem_cons_of_mem _ h), B.notSynchronized⟩
  have hl := lv_entry ([.ref (ad 41), .int x1, .int x2]) (n := 4) (Nat.le_of_ble_eq_true rfl)
  rw [lg_entry_eq]
  generalize (lg_sl ([.ref (ad 41), .int x1, .int x2]) ++ List.replicate (4 - (lg_sl ([.ref (ad 41), .int x1, .int x2])).length) Slot.unset).toArray = ls at hl ⊢
  have hl : lv_has ls 4 [(0, .ref (ad 41)), (1, .int x1), (2, .int x2)] := hl
  have hA : ∀ q, s.heap.size ≤ q → va_A (wsF ad cI cJ cG I J) s.heap.size q := fun q h => Or.inr h
  exact w_F_price_0 X hK hN hA  x1 x2 I J hm _ _ _ hP hD0.self va_S.rf hl
def b_F_stock_0 (x1 : Int32) (x2 : Int32) (I : SI) (J : SJ) : Option (Int32 × SI × SJ) :=
  cl3 (m_F_isStuff x1 I J) fun r1 I2 J3 =>
  if r1 = 0 then
    some (-1, I2, J3)
  else
    cl1 (m_F_isStock x2) fun r6 =>
    if r6 = 0 then
      some (-1, I2, J3)
    else
      gd (vin x1 4) <|
      nm (I2 2 x1.toNatClampNeg) fun v10 =>
      gd (vin x1 4) <|
      nm (va_up I2 2 (upd (I2 2) x1.toNatClampNeg x2)) fun I12 =>
      some (v10, I12, J3)
def m_F_stock (x1 : Int32) (x2 : Int32) (I : SI) (J : SJ) : Option (Int32 × SI × SJ) := b_F_stock_0 x1 x2 I J
def rm_F_stock : Room := { frames := 2, cells := 0, slots := 0, locals := 43 }
set_option maxHeartbeats 4000000 in
set_option maxRecDepth 100000 in
theorem w_F_stock_0 {p : Program} {l : Launch} {e : Env} {s : State} {m : MethodId} {args : Array Value} {below : List Frame} {meth : Method} {c : Code} {D : va_G} {A : Nat → Prop} {ad : Nat → Nat} {cI cJ cG : ClassId} {res : Int32 × SI × SJ} (X : Cx p s m args meth c bF_stock (some .int) 4 RF) (hK : va_K D vwCl (tysF cI cJ cG) s) (hN : NWs s) (hA : ∀ q, s.heap.size ≤ q → A q)
     (x1 : Int32) (x2 : Int32) (I : SI) (J : SJ) (hm : b_F_stock_0  x1 x2 I J = some res) : WB p l e (headSpec (Cond.code yF_stock bF_stock 4 (some .int) :: gtb) rm_F_stock).room s m args below meth c (MQ below (va_Qi (fun (r : Int32) (u : SI × SJ) => (r, u) = res) (atW D vwCl (tysF cI cJ cG) A (wsF ad cI cJ cG)) A) args s 0 0 A) D vwCl A 4 (wsF ad cI cJ cG I J) 0 [(0, .ref (ad 41)), (1, .int x1), (2, .int x2)] [] := by
  obtain ⟨hx, hb, hr, hml, hown, hT, hlk⟩ := X
  intro H locs ls hP hD hS hl
  unfold b_F_stock_0 at hm
  refine lv_aload_n hx hb dF_stock_0 rfl (lv_at hl 0 rfl) ?_
  refine lv_iload_n hx hb dF_stock_1 rfl (lv_at hl 1 rfl) ?_
  obtain ⟨r1, I2, J3, hc4, hm⟩ := cl3_to hm
  refine pst_i (wf := wsF ad cI cJ cG) hD hS hA (va_runV (As := [.int x1]) (rest := []) ⟨hx, hb, hml, hown, hT⟩ (c_F_isStuff l D ad cI cJ cG _ x1 I J _ hc4) (cwV 1 hT (gV wd_296 wd_298 wd_0 wd_51 wd_299) rfl rfl rfl (by decide +kernel) ⟨Nat.le_of_ble_eq_true rfl, Nat.le_of_ble_eq_true rfl⟩) ⟨preW_fb, va_recv hK hP (ci := 5) (q0 := 41) rfl rfl, preW_at hP hK hN hD⟩ rfl rfl hl.1 rfl (lv_room (Nat.le_of_ble_eq_true rfl)) dF_stock_2 ⟨Nat.zero_le _, Nat.zero_le _⟩) (fun H locs hP hD hS => ?_)
  refine lv_if_eq (tgt := 15) hx hb dF_stock_5 (by decide) (fun c5 => ?_) (fun c5 => ?_)
  · have hm := brp hm c5
    refine lv_iconst (v := (-1)) hx hb dF_stock_15 (by decide) ?_
    exact W.iret hx hb hr (fun t ht hW => ⟨⟨-1, (I2, J3), rfl, Option.some.inj hm, ht ▸ hP, va_K.moved hW.alike hK, hD⟩, hS.F ht⟩) hS.2.2 dF_stock_16 hlk
  · have hm := brn hm c5
    refine lv_iload_n hx hb dF_stock_8 rfl (lv_at hl 2 rfl) ?_
    obtain ⟨r6, hc7, hm⟩ := cl1_to hm
    refine pstZ_i hS (va_runS (As := [.int x2]) (rest := []) ⟨hx, hb, hml, hown, hT⟩ (c_F_isStock l x2 _ hc7) (va_cwS 1 hT (gS wd_289 wd_290 wd_51 wd_291) rfl rfl rfl (by decide +kernel) ⟨Nat.le_of_ble_eq_true rfl, Nat.le_of_ble_eq_true rfl⟩) ⟨preZ_fb, preZ_at⟩ rfl rfl hl.1 rfl (lv_room (Nat.le_of_ble_eq_true rfl)) dF_stock_9 ⟨Nat.zero_le _, Nat.zero_le _⟩) (fun H1 locs hq hS => ?_)
    have hP := keptP hP hq
    refine lv_if_ne (tgt := 17) hx hb dF_stock_12 (by decide) (fun c8 => ?_) (fun c8 => ?_)
    · have hm := brn hm c8
      refine lv_aload_n hx hb dF_stock_17 rfl (lv_at hl 0 rfl) ?_
      refine va_get (D := D) (ci := 5) (v := .ref (ad 0)) (C := RF) (T := TF) (N := 12) hx hb hT inF hown hK hP 41 rfl rfl 0 (by decide) (hT _ wd_242) (fun _ h9 => h9) rfl dF_stock_18 ?_
      refine va_getN (D := D) (ci := 4) (v := .ref (ad 2)) (C := RT) (T := TT) (N := 9) hx hb hT inT hown hK hP 0 rfl rfl 2 (by decide) (va_Nw.use rfl (hN _ nw_84)) (fun _ h9 => h9) rfl dF_stock_21 ?_
      refine lv_iload_n hx hb dF_stock_24 rfl (lv_at hl 1 rfl) ?_
      obtain ⟨g9, hm⟩ := gd_to hm
      refine va_iald hx hb hK hP 2 0 rfl rfl g9 dF_stock_25 ?_
      refine lv_topi (fun v10 ev10 => ?_)
      have hm := nm_to ev10 hm
      refine lv_istore_n (lv' := [(3, .int v10), (0, .ref (ad 41)), (1, .int x1), (2, .int x2)]) hx hb dF_stock_26 rfl hl (by decide) rfl (fun ls hl => ?_)
      refine lv_aload_n hx hb dF_stock_27 rfl (lv_at hl 1 rfl) ?_
      refine va_get (D := D) (ci := 5) (v := .ref (ad 0)) (C := RF) (T := TF) (N := 12) hx hb hT inF hown hK hP 41 rfl rfl 0 (by decide) (hT _ wd_242) (fun _ h9 => h9) rfl dF_stock_28 ?_
      refine va_getN (D := D) (ci := 4) (v := .ref (ad 2)) (C := RT) (T := TT) (N := 9) hx hb hT inT hown hK hP 0 rfl rfl 2 (by decide) (va_Nw.use rfl (hN _ nw_84)) (fun _ h9 => h9) rfl dF_stock_31 ?_
      refine lv_iload_n hx hb dF_stock_34 rfl (lv_at hl 2 rfl) ?_
      refine lv_iload_n hx hb dF_stock_35 rfl (lv_at hl 3 rfl) ?_
      obtain ⟨g11, hm⟩ := gd_to hm
      refine va_iast hx hb hK hP hD hS 2 0 rfl rfl g11 dF_stock_36 (fun H locs hP hD hS => ?_)
      obtain ⟨I12, eI12⟩ : ∃ z : SI, z = va_up I2 2 (upd (I2 2) x1.toNatClampNeg x2) := ⟨_, rfl⟩
      have hm := nm_to eI12 hm
      have hP := P_eq (ws2 := wsF ad cI cJ cG I12 J3) hP (by rw [eI12]; rfl)
      have hD := D_eq (ws2 := wsF ad cI cJ cG I12 J3) hD (by rw [eI12]; rfl)
      refine lv_iload_n hx hb dF_stock_37 rfl (lv_at hl 0 rfl) ?_
      exact W.iret hx hb hr (fun t ht hW => ⟨⟨v10, (I12, J3), rfl, Option.some.inj hm, ht ▸ hP, va_K.moved hW.alike hK, hD⟩, hS.F ht⟩) hS.2.2 dF_stock_38 hlk
    · have hm := brp hm c8
      refine lv_iconst (v := (-1)) hx hb dF_stock_15 (by decide) ?_
      exact W.iret hx hb hr (fun t ht hW => ⟨⟨-1, (I2, J3), rfl, Option.some.inj hm, ht ▸ hP, va_K.moved hW.alike hK, hD⟩, hS.F ht⟩) hS.2.2 dF_stock_16 hlk
set_option maxHeartbeats 4000000 in
set_option maxRecDepth 100000 in
theorem c_F_stock (l : Launch) (D : va_G) (ad : Nat → Nat) (cI cJ cG : ClassId) (sz : Nat) (x1 : Int32) (x2 : Int32) (I : SI) (J : SJ) (res : Int32 × SI × SJ) (hm : m_F_stock x1 x2 I J = some res) : Met l yF_stock (Cond.code yF_stock bF_stock 4 (some .int) :: gtb) rm_F_stock (va_Pc [.ref (ad 41), .int x1, .int x2] (preW D vwCl (tysF cI cJ cG) (wsF ad cI cJ cG I J) sz)) (va_Qi (fun (r : Int32) (u : SI × SJ) => (r, u) = res) (atW D vwCl (tysF cI cJ cG) (va_A (wsF ad cI cJ cG I J) sz) (wsF ad cI cJ cG)) (va_A (wsF ad cI cJ cG I J) sz)) 0 0 (va_A (wsF ad cI cJ cG I J) sz) := by
  refine Met.ofW (cc := bF_stock) (maxL := 4) (ret := (some .int)) (by decide) rfl ?_
  intro p e s m args below meth c s₁ B hml hv
  obtain ⟨rfl, hsz, hP, hK, hD0, hN⟩ := hv
  subst hsz
  have X : Cx p s m [.ref (ad 41), .int x1, .int x2].toArray meth c bF_stock (some .int) 4 RF := ⟨B.exec, B.bytes, B.returns, hml, findClass_of_methodNamed B.named, fun w h => atoms_spec (ws := (Cond.code yF_stock bF_stock 4 (some .int) :: gtb)) B.pre w (List.mem_cons_of_mem _ h), B.notSynchronized⟩
  have hl := lv_entry ([.ref (ad 41), .int x1, .int x2]) (n := 4) (Nat.le_of_ble_eq_true rfl)
  rw [lg_entry_eq]
  generalize (lg_sl ([.ref (ad 41), .int x1, .int x2]) ++ List.replicate (4 - (lg_sl ([.ref (ad 41), .int x1, .int x2])).length) Slot.unset).toArray = ls at hl ⊢
  have hl : lv_has ls 4 [(0, .ref (ad 41)), (1, .int x1), (2, .int x2)] := hl
  have hA : ∀ q, s.heap.size ≤ q → va_A (wsF ad cI cJ cG I J) s.heap.size q := fun q h => Or.inr h
  exact w_F_stock_0 X hK hN hA  x1 x2 I J hm _ _ _ hP hD0.self va_S.rf hl
def b_F_holds_0 (x1 : Int32) (x2 : Int32) (x3 : Int32) (I : SI) (J : SJ) : Option (Int32 × SI × SJ) :=
  cl3 (m_F_isStuff x1 I J) fun r1 I2 J3 =>
  if r1 = 0 then
    some (0, I2, J3)
  else
    cl1 (m_F_isNutrient x2) fun r6 =>
    if r6 = 0 then
      some (0, I2, J3)
    else
      cl1 (m_F_isWithin x3 0 40) fun r9 =>
      if r9 = 0 then
        some (0, I2, J3)
      else
        gd (vin x2 3) <|
        gd (vin x1 4) <|
        nm (va_up I2 (7 + x2.toNatClampNeg) (upd (I2 (7 + x2.toNatClampNeg)) x1.toNatClampNeg x3)) fun I14 =>
        some (1, I14, J3)
def m_F_holds (x1 : Int32) (x2 : Int32) (x3 : Int32) (I : SI) (J : SJ) : Option (Int32 × SI × SJ) := b_F_holds_0 x1 x2 x3 I J
def rm_F_holds : Room := { frames := 2, cells := 0, slots := 0, locals := 43 }
set_option maxHeartbeats 4000000 in
set_option maxRecDepth 100000 in
theorem w_F_holds_0 {p : Program} {l : Launch} {e : Env} {s : State} {m : MethodId} {args : Array Value} {below : List Frame} {meth : Method} {c : Code} {D : va_G} {A : Nat → Prop} {ad : Nat → Nat} {cI cJ cG : ClassId} {res : Int32 × SI × SJ} (X : Cx p s m args meth c bF_holds (some .boolean) 4 RF) (hK : va_K D vwCl (tysF cI cJ cG) s) (hN : NWs s) (hA : ∀ q, s.heap.size ≤ q → A q)
     (x1 : Int32) (x2 : Int32) (x3 : Int32) (I : SI) (J : SJ) (hm : b_F_holds_0  x1 x2 x3 I J = some res) : WB p l e (headSpec (Cond.code yF_holds bF_holds 4 (some .boolean) :: gtb) rm_F_holds).room s m args below meth c (MQ below (va_Qi (fun (r : Int32) (u : SI × SJ) => (r, u) = res) (atW D vwCl (tysF cI cJ cG) A (wsF ad cI cJ cG)) A) args s 0 0 A) D vwCl A 4 (wsF ad cI cJ cG I J) 0 [(0, .ref (ad 41)), (1, .int x1), (2, .int x2), (3, .int x3)] [] := by
  obtain ⟨hx, hb, hr, hml, hown, hT, hlk⟩ := X
  intro H locs ls hP hD hS hl
  unfold b_F_holds_0 at hm
  refine lv_aload_n hx hb dF_holds_0 rfl (lv_at hl 0 rfl) ?_
  refine lv_iload_n hx hb dF_holds_1 rfl (lv_at hl 1 rfl) ?_
  obtain ⟨r1, I2, J3, hc4, hm⟩ := cl3_to hm
  refine pst_i (wf := wsF ad cI cJ cG) hD hS hA (va_runV (As := [.int x1]) (rest := []) ⟨hx, hb, hml, hown, hT⟩ (c_F_isStuff l D ad cI cJ cG _ x1 I J _ hc4) (cwV 1 hT (gV wd_296 wd_298 wd_0 wd_51 wd_299) rfl rfl rfl (by decide +kernel) ⟨Nat.le_of_ble_eq_true rfl, Nat.le_of_ble_eq_true rfl⟩) ⟨preW_fb, va_recv hK hP (ci := 5) (q0 := 41) rfl rfl, preW_at hP hK hN hD⟩ rfl rfl hl.1 rfl (lv_room (Nat.le_of_ble_eq_true rfl)) dF_holds_2 ⟨Nat.zero_le _, Nat.zero_le _⟩) (fun H locs hP hD hS => ?_)
  refine lv_if_eq (tgt := 25) hx hb dF_holds_5 (by decide) (fun c5 => ?_) (fun c5 => ?_)
  · have hm := brp hm c5
    refine lv_iconst (v := 0) hx hb dF_holds_25 (by decide) ?_
    exact W.zret hx hb hr rfl (fun t ht hW => ⟨⟨0, (I2, J3), rfl, Option.some.inj hm, ht ▸ hP, va_K.moved hW.alike hK, hD⟩, hS.F ht⟩) hS.2.2 dF_holds_26 hlk
  · have hm := brn hm c5
    refine lv_iload_n hx hb dF_holds_8 rfl (lv_at hl 2 rfl) ?_
    obtain ⟨r6, hc7, hm⟩ := cl1_to hm
    refine pstZ_i hS (va_runS (As := [.int x2]) (rest := []) ⟨hx, hb, hml, hown, hT⟩ (c_F_isNutrient l x2 _ hc7) (va_cwS 1 hT (gS wd_308 wd_309 wd_51 wd_310) rfl rfl rfl (by decide +kernel) ⟨Nat.le_of_ble_eq_true rfl, Nat.le_of_ble_eq_true rfl⟩) ⟨preZ_fb, preZ_at⟩ rfl rfl hl.1 rfl (lv_room (Nat.le_of_ble_eq_true rfl)) dF_holds_9 ⟨Nat.zero_le _, Nat.zero_le _⟩) (fun H1 locs hq hS => ?_)
    have hP := keptP hP hq
    refine lv_if_eq (tgt := 25) hx hb dF_holds_12 (by decide) (fun c8 => ?_) (fun c8 => ?_)
    · have hm := brp hm c8
      refine lv_iconst (v := 0) hx hb dF_holds_25 (by decide) ?_
      exact W.zret hx hb hr rfl (fun t ht hW => ⟨⟨0, (I2, J3), rfl, Option.some.inj hm, ht ▸ hP, va_K.moved hW.alike hK, hD⟩, hS.F ht⟩) hS.2.2 dF_holds_26 hlk
    · have hm := brn hm c8
      refine lv_iload_n hx hb dF_holds_15 rfl (lv_at hl 3 rfl) ?_
      refine lv_iconst (v := 0) hx hb dF_holds_16 (by decide) ?_
      refine lv_bipush (v := 40) hx hb dF_holds_17 (by decide) ?_
      obtain ⟨r9, hc10, hm⟩ := cl1_to hm
      refine pstZ_i hS (va_runS (As := [.int x3, .int 0, .int 40]) (rest := []) ⟨hx, hb, hml, hown, hT⟩ (c_F_isWithin l x3 0 40 _ hc10) (va_cwS 3 hT (gS wd_286 wd_287 wd_51 wd_288) rfl rfl rfl (by decide +kernel) ⟨Nat.le_of_ble_eq_true rfl, Nat.le_of_ble_eq_true rfl⟩) ⟨preZ_fb, preZ_at⟩ rfl rfl hl.1 rfl (lv_room (Nat.le_of_ble_eq_true rfl)) dF_holds_19 ⟨Nat.zero_le _, Nat.zero_le _⟩) (fun H1 locs hq hS => ?_)
      have hP := keptP hP hq
      refine lv_if_ne (tgt := 27) hx hb dF_holds_22 (by decide) (fun c11 => ?_) (fun c11 => ?_)
      · have hm := brn hm c11
        refine lv_aload_n hx hb dF_holds_27 rfl (lv_at hl 0 rfl) ?_
        refine va_get (D := D) (ci := 5) (v := .ref (ad 0)) (C := RF) (T := TF) (N := 12) hx hb hT inF hown hK hP 41 rfl rfl 0 (by decide) (hT _ wd_242) (fun _ h9 => h9) rfl dF_holds_28 ?_
        refine va_getN (D := D) (ci := 4) (v := .ref (ad 6)) (C := RT) (T := TT) (N := 9) hx hb hT inT hown hK hP 0 rfl rfl 6 (by decide) (va_Nw.use rfl (hN _ nw_98)) (fun _ h9 => h9) rfl dF_holds_31 ?_
        refine lv_iload_n hx hb dF_holds_34 rfl (lv_at hl 2 rfl) ?_
        obtain ⟨g12, hm⟩ := gd_to hm
        refine va_aldG hx hb hK hP 6 2 rfl rfl rfl g12 (outF_6 (vp_lt g12)) dF_holds_35 ?_
        refine lv_iload_n hx hb dF_holds_36 rfl (lv_at hl 1 rfl) ?_
        refine lv_iload_n hx hb dF_holds_37 rfl (lv_at hl 3 rfl) ?_
        obtain ⟨g13, hm⟩ := gd_to hm
        refine va_iast hx hb hK hP hD hS (7 + x2.toNatClampNeg) 0 (rowF_6 (vp_lt g12)) rfl g13 dF_holds_38 (fun H locs hP hD hS => ?_)
        obtain ⟨I14, eI14⟩ : ∃ z : SI, z = va_up I2 (7 + x2.toNatClampNeg) (upd (I2 (7 + x2.toNatClampNeg)) x1.toNatClampNeg x3) := ⟨_, rfl⟩
        have hm := nm_to eI14 hm
        have hP := P_eq (ws2 := wsF ad cI cJ cG I14 J3) hP (by rw [eI14]; exact (rsetF_6 (vp_lt g12)))
        have hD := D_eq (ws2 := wsF ad cI cJ cG I14 J3) hD (by rw [eI14]; exact (rsetF_6 (vp_lt g12)))
        refine lv_iconst (v := 1) hx hb dF_holds_39 (by decide) ?_
        exact W.zret hx hb hr rfl (fun t ht hW => ⟨⟨1, (I14, J3), rfl, Option.some.inj hm, ht ▸ hP, va_K.moved hW.alike hK, hD⟩, hS.F ht⟩) hS.2.2 dF_holds_40 hlk
      · have hm := brp hm c11
        refine lv_iconst (v := 0) hx hb dF_holds_25 (by decide) ?_
        exact W.zret hx hb hr rfl (fun t ht hW => ⟨⟨0, (I2, J3), rfl, Option.some.inj hm, ht ▸ hP, va_K.moved hW.alike hK, hD⟩, hS.F ht⟩) hS.2.2 dF_holds_26 hlk
set_option maxHeartbeats 4000000 in
set_option maxRecDepth 100000 in
theorem c_F_holds (l : Launch) (D : va_G) (ad : Nat → Nat) (cI cJ cG : ClassId) (sz : Nat) (x1 : Int32) (x2 : Int32) (x3 : Int32) (I : SI) (J : SJ) (res : Int32 × SI × SJ) (hm : m_F_holds x1 x2 x3 I J = some res) : Met l yF_holds (Cond.code yF_holds bF_holds 4 (some .boolean) :: gtb) rm_F_holds (va_Pc [.ref (ad 41), .int x1, .int x2, .int x3] (preW D vwCl (tysF cI cJ cG) (wsF ad cI cJ cG I J) sz)) (va_Qi (fun (r : Int32) (u : SI × SJ) => (r, u) = res) (atW D vwCl (tysF cI cJ cG) (va_A (wsF ad cI cJ cG I J) sz) (wsF ad cI cJ cG)) (va_A (wsF ad cI cJ cG I J) sz)) 0 0 (va_A (wsF ad cI cJ cG I J) sz) := by
  refine Met.ofW (cc := bF_holds) (maxL := 4) (ret := (some .boolean)) (by decide) rfl ?_
  intro p e s m args below meth c s₁ B hml hv
  obtain ⟨rfl, hsz, hP, hK, hD0, hN⟩ := hv
  subst hsz
  have X : Cx p s m [.ref (ad 41), .int x1, .int x2, .int x3].toArray meth c bF_holds (some .boolean) 4 RF := ⟨B.exec, B.bytes, B.returns, hml, findClass_of_methodNamed B.named, fun w h => atoms_spec (ws := (Cond.code yF_holds bF_holds 4 (some .boolean) :: gtb)) B.pre w (List.mem_cons_of_mem _ h), B.notSynchronized⟩
  have hl := lv_entry ([.ref (ad 41), .int x1, .int x2, .int x3]) (n := 4) (Nat.le_of_ble_eq_true rfl)
  rw [lg_entry_eq]
  generalize (lg_sl ([.ref (ad 41), .int x1, .int x2, .int x3]) ++ List.replicate (4 - (lg_sl ([.ref (ad 41), .int x1, .int x2, .int x3])).length) Slot.unset).toArray = ls at hl ⊢
  have hl : lv_has ls 4 [(0, .ref (ad 41)), (1, .int x1), (2, .int x2), (3, .int x3)] := hl
  have hA : ∀ q, s.heap.size ≤ q → va_A (wsF ad cI cJ cG I J) s.heap.size q := fun q h => Or.inr h
  exact w_F_holds_0 X hK hN hA  x1 x2 x3 I J hm _ _ _ hP hD0.self va_S.rf hl
def b_F_need_0 (x1 : Int32) (x2 : Int32) (x3 : Int32) (I : SI) (J : SJ) : Option (Int32 × SI × SJ) :=
  cl1 (m_F_isNutrient x1) fun r1 =>
  if r1 = 0 then
    some (0, I, J)
  else
    cl1 (m_F_isRange x2 x3 40) fun r4 =>
    if r4 = 0 then
      some (0, I, J)
    else
      gd (vin x1 3) <|
      nm (va_up I 10 (upd (I 10) x1.toNatClampNeg x2)) fun I8 =>
      gd (vin x1 3) <|
      nm (va_up I8 11 (upd (I8 11) x1.toNatClampNeg x3)) fun I10 =>
      some (1, I10, J)
def m_F_need (x1 : Int32) (x2 : Int32) (x3 : Int32) (I : SI) (J : SJ) : Option (Int32 × SI × SJ) := b_F_need_0 x1 x2 x3 I J
def rm_F_need : Room := { frames := 2, cells := 0, slots := 0, locals := 42 }
set_option maxHeartbeats 4000000 in
set_option maxRecDepth 100000 in
theorem w_F_need_0 {p : Program} {l : Launch} {e : Env} {s : State} {m : MethodId} {args : Array Value} {below : List Frame} {meth : Method} {c : Code} {D : va_G} {A : Nat → Prop} {ad : Nat → Nat} {cI cJ cG : ClassId} {res : Int32 × SI × SJ} (X : Cx p s m args meth c bF_need (some .boolean) 4 RF) (hK : va_K D vwCl (tysF cI cJ cG) s) (hN : NWs s) (hA : ∀ q, s.heap.size ≤ q → A q)
     (x1 : Int32) (x2 : Int32) (x3 : Int32) (I : SI) (J : SJ) (hm : b_F_need_0  x1 x2 x3 I J = some res) : WB p l e (headSpec (Cond.code yF_need bF_need 4 (some .boolean) :: gtb) rm_F_need).room s m args below meth c (MQ below (va_Qi (fun (r : Int32) (u : SI × SJ) => (r, u) = res) (atW D vwCl (tysF cI cJ cG) A (wsF ad cI cJ cG)) A) args s 0 0 A) D vwCl A 4 (wsF ad cI cJ cG I J) 0 [(0, .ref (ad 41)), (1, .int x1), (2, .int x2), (3, .int x3)] [] := by
  obtain ⟨hx, hb, hr, hml, hown, hT, hlk⟩ := X
  intro H locs ls hP hD hS hl
  unfold b_F_need_0 at hm
  refine lv_iload_n hx hb dF_need_0 rfl (lv_at hl 1 rfl) ?_
  obtain ⟨r1, hc2, hm⟩ := cl1_to hm
  refine pstZ_i hS (va_runS (As := [.int x1]) (rest := []) ⟨hx, hb, hml, hown, hT⟩ (c_F_isNutrient l x1 _ hc2) (va_cwS 1 hT (gS wd_308 wd_309 wd_51 wd_310) rfl rfl rfl (by decide +kernel) ⟨Nat.le_of_ble_eq_true rfl, Nat.le_of_ble_eq_true rfl⟩) ⟨preZ_fb, preZ_at⟩ rfl rfl hl.1 rfl (lv_room (Nat.le_of_ble_eq_true rfl)) dF_need_1 ⟨Nat.zero_le _, Nat.zero_le _⟩) (fun H1 locs hq hS => ?_)
  have hP := keptP hP hq
  refine lv_if_eq (tgt := 17) hx hb dF_need_4 (by decide) (fun c3 => ?_) (fun c3 => ?_)
  · have hm := brp hm c3
    refine lv_iconst (v := 0) hx hb dF_need_17 (by decide) ?_
    exact W.zret hx hb hr rfl (fun t ht hW => ⟨⟨0, (I, J), rfl, Option.some.inj hm, ht ▸ hP, va_K.moved hW.alike hK, hD⟩, hS.F ht⟩) hS.2.2 dF_need_18 hlk
  · have hm := brn hm c3
    refine lv_iload_n hx hb dF_need_7 rfl (lv_at hl 2 rfl) ?_
    refine lv_iload_n hx hb dF_need_8 rfl (lv_at hl 3 rfl) ?_
    refine lv_bipush (v := 40) hx hb dF_need_9 (by decide) ?_
    obtain ⟨r4, hc5, hm⟩ := cl1_to hm
    refine pstZ_i hS (va_runS (As := [.int x2, .int x3, .int 40]) (rest := []) ⟨hx, hb, hml, hown, hT⟩ (c_F_isRange l x2 x3 40 _ hc5) (va_cwS 3 hT (gS wd_315 wd_316 wd_51 wd_317) rfl rfl rfl (by decide +kernel) ⟨Nat.le_of_ble_eq_true rfl, Nat.le_of_ble_eq_true rfl⟩) ⟨preZ_fb, preZ_at⟩ rfl rfl hl.1 rfl (lv_room (Nat.le_of_ble_eq_true rfl)) dF_need_11 ⟨Nat.zero_le _, Nat.zero_le _⟩) (fun H1 locs hq hS => ?_)
    have hP := keptP hP hq
    refine lv_if_ne (tgt := 19) hx hb dF_need_14 (by decide) (fun c6 => ?_) (fun c6 => ?_)
    · have hm := brn hm c6
      refine lv_aload_n hx hb dF_need_19 rfl (lv_at hl 0 rfl) ?_
      refine va_get (D := D) (ci := 5) (v := .ref (ad 0)) (C := RF) (T := TF) (N := 12) hx hb hT inF hown hK hP 41 rfl rfl 0 (by decide) (hT _ wd_242) (fun _ h9 => h9) rfl dF_need_20 ?_
      refine va_getN (D := D) (ci := 4) (v := .ref (ad 10)) (C := RT) (T := TT) (N := 9) hx hb hT inT hown hK hP 0 rfl rfl 7 (by decide) (va_Nw.use rfl (hN _ nw_100)) (fun _ h9 => h9) rfl dF_need_23 ?_
      refine lv_iload_n hx hb dF_need_26 rfl (lv_at hl 1 rfl) ?_
      refine lv_iload_n hx hb dF_need_27 rfl (lv_at hl 2 rfl) ?_
      obtain ⟨g7, hm⟩ := gd_to hm
      refine va_iast hx hb hK hP hD hS 10 0 rfl rfl g7 dF_need_28 (fun H locs hP hD hS => ?_)
      obtain ⟨I8, eI8⟩ : ∃ z : SI, z = va_up I 10 (upd (I 10) x1.toNatClampNeg x2) := ⟨_, rfl⟩
      have hm := nm_to eI8 hm
      have hP := P_eq (ws2 := wsF ad cI cJ cG I8 J) hP (by rw [eI8]; rfl)
      have hD := D_eq (ws2 := wsF ad cI cJ cG I8 J) hD (by rw [eI8]; rfl)
      refine lv_aload_n hx hb dF_need_29 rfl (lv_at hl 0 rfl) ?_
      refine va_get (D := D) (ci := 5) (v := .ref (ad 0)) (C := RF) (T := TF) (N := 12) hx hb hT inF hown hK hP 41 rfl rfl 0 (by decide) (hT _ wd_242) (fun _ h9 => h9) rfl dF_need_30 ?_
      refine va_getN (D := D) (ci := 4) (v := .ref (ad 11)) (C := RT) (T := TT) (N := 9) hx hb hT inT hown hK hP 0 rfl rfl 8 (by decide) (va_Nw.use rfl (hN _ nw_103)) (fun _ h9 => h9) rfl dF_need_33 ?_
      refine lv_iload_n hx hb dF_need_36 rfl (lv_at hl 1 rfl) ?_
      refine lv_iload_n hx hb dF_need_37 rfl (lv_at hl 3 rfl) ?_
      obtain ⟨g9, hm⟩ := gd_to hm
      refine va_iast hx hb hK hP hD hS 11 0 rfl rfl g9 dF_need_38 (fun H locs hP hD hS => ?_)
      obtain ⟨I10, eI10⟩ : ∃ z : SI, z = va_up I8 11 (upd (I8 11) x1.toNatClampNeg x3) := ⟨_, rfl⟩
      have hm := nm_to eI10 hm
      have hP := P_eq (ws2 := wsF ad cI cJ cG I10 J) hP (by rw [eI10]; rfl)
      have hD := D_eq (ws2 := wsF ad cI cJ cG I10 J) hD (by rw [eI10]; rfl)
      refine lv_iconst (v := 1) hx hb dF_need_39 (by decide) ?_
      exact W.zret hx hb hr rfl (fun t ht hW => ⟨⟨1, (I10, J), rfl, Option.some.inj hm, ht ▸ hP, va_K.moved hW.alike hK, hD⟩, hS.F ht⟩) hS.2.2 dF_need_40 hlk
    · have hm := brp hm c6
      refine lv_iconst (v := 0) hx hb dF_need_17 (by decide) ?_
      exact W.zret hx hb hr rfl (fun t ht hW => ⟨⟨0, (I, J), rfl, Option.some.inj hm, ht ▸ hP, va_K.moved hW.alike hK, hD⟩, hS.F ht⟩) hS.2.2 dF_need_18 hlk
set_option maxHeartbeats 4000000 in
set_option maxRecDepth 100000 in
theorem c_F_need (l : Launch) (D : va_G) (ad : Nat → Nat) (cI cJ cG : ClassId) (sz : Nat) (x1 : Int32) (x2 : Int32) (x3 : Int32) (I : SI) (J : SJ) (res : Int32 × SI × SJ) (hm : m_F_need x1 x2 x3 I J = some res) : Met l yF_need (Cond.code yF_need bF_need 4 (some .boolean) :: gtb) rm_F_need (va_Pc [.ref (ad 41), .int x1, .int x2, .int x3] (preW D vwCl (tysF cI cJ cG) (wsF ad cI cJ cG I J) sz)) (va_Qi (fun (r : Int32) (u : SI × SJ) => (r, u) = res) (atW D vwCl (tysF cI cJ cG) (va_A (wsF ad cI cJ cG I J) sz) (wsF ad cI cJ cG)) (va_A (wsF ad cI cJ cG I J) sz)) 0 0 (va_A (wsF ad cI cJ cG I J) sz) := by
  refine Met.ofW (cc := bF_need) (maxL := 4) (ret := (some .boolean)) (by decide) rfl ?_
  intro p e s m args below meth c s₁ B hml hv
  obtain ⟨rfl, hsz, hP, hK, hD0, hN⟩ := hv
  subst hsz
  have X : Cx p s m [.ref (ad 41), .int x1, .int x2, .int x3].toArray meth c bF_need (some .boolean) 4 RF := ⟨B.exec, B.bytes, B.returns, hml, findClass_of_methodNamed B.named, fun w h => atoms_spec (ws := (Cond.code yF_need bF_need 4 (some .boolean) :: gtb)) B.pre w (List.mem_cons_of_mem _ h), B.notSynchronized⟩
  have hl := lv_entry ([.ref (ad 41), .int x1, .int x2, .int x3]) (n := 4) (Nat.le_of_ble_eq_true rfl)
  rw [lg_entry_eq]
  generalize (lg_sl ([.ref (ad 41), .int x1, .int x2, .int x3]) ++ List.replicate (4 - (lg_sl ([.ref (ad 41), .int x1, .int x2, .int x3])).length) Slot.unset).toArray = ls at hl ⊢
  have hl : lv_has ls 4 [(0, .ref (ad 41)), (1, .int x1), (2, .int x2), (3, .int x3)] := hl
  have hA : ∀ q, s.heap.size ≤ q → va_A (wsF ad cI cJ cG I J) s.heap.size q := fun q h => Or.inr h
  exact w_F_need_0 X hK hN hA  x1 x2 x3 I J hm _ _ _ hP hD0.self va_S.rf hl
def b_F_shares_0 (x1 : Int32) (x2 : Int32) (x3 : Int32) (I : SI) (J : SJ) : Option (Int32 × SI × SJ) :=
  cl3 (m_F_isStuff x1 I J) fun r1 I2 J3 =>
  if r1 = 0 then
    some (0, I2, J3)
  else
    cl1 (m_F_isRange x2 x3 10) fun r6 =>
    if r6 = 0 then
      some (0, I2, J3)
    else
      gd (vin x1 4) <|
      nm (va_up I2 3 (upd (I2 3) x1.toNatClampNeg x2)) fun I10 =>
      gd (vin x1 4) <|
      nm (va_up I10 4 (upd (I10 4) x1.toNatClampNeg x3)) fun I12 =>
      some (1, I12, J3)
def m_F_shares (x1 : Int32) (x2 : Int32) (x3 : Int32) (I : SI) (J : SJ) : Option (Int32 × SI × SJ) := b_F_shares_0 x1 x2 x3 I J
def rm_F_shares : Room := { frames := 2, cells := 0, slots := 0, locals := 43 }
set_option maxHeartbeats 4000000 in
set_option maxRecDepth 100000 in
theorem w_F_shares_0 {p : Program} {l : Launch} {e : Env} {s : State} {m : MethodId} {args : Array Value} {below : List Frame} {meth : Method} {c : Code} {D : va_G} {A : Nat → Prop} {ad : Nat → Nat} {cI cJ cG : ClassId} {res : Int32 × SI × SJ} (X : Cx p s m args meth c bF_shares (some .boolean) 4 RF) (hK : va_K D vwCl (tysF cI cJ cG) s) (hN : NWs s) (hA : ∀ q, s.heap.size ≤ q → A q)
     (x1 : Int32) (x2 : Int32) (x3 : Int32) (I : SI) (J : SJ) (hm : b_F_shares_0  x1 x2 x3 I J = some res) : WB p l e (headSpec (Cond.code yF_shares bF_shares 4 (some .boolean) :: gtb) rm_F_shares).room s m args below meth c (MQ below (va_Qi (fun (r : Int32) (u : SI × SJ) => (r, u) = res) (atW D vwCl (tysF cI cJ cG) A (wsF ad cI cJ cG)) A) args s 0 0 A) D vwCl A 4 (wsF ad cI cJ cG I J) 0 [(0, .ref (ad 41)), (1, .int x1), (2, .int x2), (3, .int x3)] [] := by
  obtain ⟨hx, hb, hr, hml, hown, hT, hlk⟩ := X
  intro H locs ls hP hD hS hl
  unfold b_F_shares_0 at hm
  refine lv_aload_n hx hb dF_shares_0 rfl (lv_at hl 0 rfl) ?_
  refine lv_iload_n hx hb dF_shares_1 rfl (lv_at hl 1 rfl) ?_
  obtain ⟨r1, I2, J3, hc4, hm⟩ := cl3_to hm
  refine pst_i (wf := wsF ad cI cJ cG) hD hS hA (va_runV (As := [.int x1]) (rest := []) ⟨hx, hb, hml, hown, hT⟩ (c_F_isStuff l D ad cI cJ cG _ x1 I J _ hc4) (cwV 1 hT (gV wd_296 wd_298 wd_0 wd_51 wd_299) rfl rfl rfl (by decide +kernel) ⟨Nat.le_of_ble_eq_true rfl, Nat.le_of_ble_eq_true rfl⟩) ⟨preW_fb, va_recv hK hP (ci := 5) (q0 := 41) rfl rfl, preW_at hP hK hN hD⟩ rfl rfl hl.1 rfl (lv_room (Nat.le_of_ble_eq_true rfl)) dF_shares_2 ⟨Nat.zero_le _, Nat.zero_le _⟩) (fun H locs hP hD hS => ?_)
  refine lv_if_eq (tgt := 18) hx hb dF_shares_5 (by decide) (fun c5 => ?_) (fun c5 => ?_)
  · have hm := brp hm c5
    refine lv_iconst (v := 0) hx hb dF_shares_18 (by decide) ?_
    exact W.zret hx hb hr rfl (fun t ht hW => ⟨⟨0, (I2, J3), rfl, Option.some.inj hm, ht ▸ hP, va_K.moved hW.alike hK, hD⟩, hS.F ht⟩) hS.2.2 dF_shares_19 hlk
  · have hm := brn hm c5
    refine lv_iload_n hx hb dF_shares_8 rfl (lv_at hl 2 rfl) ?_
    refine lv_iload_n hx hb dF_shares_9 rfl (lv_at hl 3 rfl) ?_
    refine lv_bipush (v := 10) hx hb dF_shares_10 (by decide) ?_
    obtain ⟨r6, hc7, hm⟩ := cl1_to hm
    refine pstZ_i hS (va_runS (As := [.int x2, .int x3, .int 10]) (rest := []) ⟨hx, hb, hml, hown, hT⟩ (c_F_isRange l x2 x3 10 _ hc7) (va_cwS 3 hT (gS wd_315 wd_316 wd_51 wd_317) rfl rfl rfl (by decide +kernel) ⟨Nat.le_of_ble_eq_true rfl, Nat.le_of_ble_eq_true rfl⟩) ⟨preZ_fb, preZ_at⟩ rfl rfl hl.1 rfl (lv_room (Nat.le_of_ble_eq_true rfl)) dF_shares_12 ⟨Nat.zero_le _, Nat.zero_le _⟩) (fun H1 locs hq hS => ?_)
    have hP := keptP hP hq
    refine lv_if_ne (tgt := 20) hx hb dF_shares_15 (by decide) (fun c8 => ?_) (fun c8 => ?_)
    · have hm := brn hm c8
      refine lv_aload_n hx hb dF_shares_20 rfl (lv_at hl 0 rfl) ?_
      refine va_get (D := D) (ci := 5) (v := .ref (ad 0)) (C := RF) (T := TF) (N := 12) hx hb hT inF hown hK hP 41 rfl rfl 0 (by decide) (hT _ wd_242) (fun _ h9 => h9) rfl dF_shares_21 ?_
      refine va_getN (D := D) (ci := 4) (v := .ref (ad 3)) (C := RT) (T := TT) (N := 9) hx hb hT inT hown hK hP 0 rfl rfl 3 (by decide) (va_Nw.use rfl (hN _ nw_87)) (fun _ h9 => h9) rfl dF_shares_24 ?_
      refine lv_iload_n hx hb dF_shares_27 rfl (lv_at hl 1 rfl) ?_
      refine lv_iload_n hx hb dF_shares_28 rfl (lv_at hl 2 rfl) ?_
      obtain ⟨g9, hm⟩ := gd_to hm
      refine va_iast hx hb hK hP hD hS 3 0 rfl rfl g9 dF_shares_29 (fun H locs hP hD hS => ?_)
      obtain ⟨I10, eI10⟩ : ∃ z : SI, z = va_up I2 3 (upd (I2 3) x1.toNatClampNeg x2) := ⟨_, rfl⟩
      have hm := nm_to eI10 hm
      have hP := P_eq (ws2 := wsF ad cI cJ cG I10 J3) hP (by rw [eI10]; rfl)
      have hD := D_eq (ws2 := wsF ad cI cJ cG I10 J3) hD (by rw [eI10]; rfl)
      refine lv_aload_n hx hb dF_shares_30 rfl (lv_at hl 0 rfl) ?_
      refine va_get (D := D) (ci := 5) (v := .ref (ad 0)) (C := RF) (T := TF) (N := 12) hx hb hT inF hown hK hP 41 rfl rfl 0 (by decide) (hT _ wd_242) (fun _ h9 => h9) rfl dF_shares_31 ?_
      refine va_getN (D := D) (ci := 4) (v := .ref (ad 4)) (C := RT) (T := TT) (N := 9) hx hb hT inT hown hK hP 0 rfl rfl 4 (by decide) (va_Nw.use rfl (hN _ nw_90)) (fun _ h9 => h9) rfl dF_shares_34 ?_
      refine lv_iload_n hx hb dF_shares_37 rfl (lv_at hl 1 rfl) ?_
      refine lv_iload_n hx hb dF_shares_38 rfl (lv_at hl 3 rfl) ?_
      obtain ⟨g11, hm⟩ := gd_to hm
      refine va_iast hx hb hK hP hD hS 4 0 rfl rfl g11 dF_shares_39 (fun H locs hP hD hS => ?_)
      obtain ⟨I12, eI12⟩ : ∃ z : SI, z = va_up I10 4 (upd (I10 4) x1.toNatClampNeg x3) := ⟨_, rfl⟩
      have hm := nm_to eI12 hm
      have hP := P_eq (ws2 := wsF ad cI cJ cG I12 J3) hP (by rw [eI12]; rfl)
      have hD := D_eq (ws2 := wsF ad cI cJ cG I12 J3) hD (by rw [eI12]; rfl)
      refine lv_iconst (v := 1) hx hb dF_shares_40 (by decide) ?_
      exact W.zret hx hb hr rfl (fun t ht hW => ⟨⟨1, (I12, J3), rfl, Option.some.inj hm, ht ▸ hP, va_K.moved hW.alike hK, hD⟩, hS.F ht⟩) hS.2.2 dF_shares_41 hlk
    · have hm := brp hm c8
      refine lv_iconst (v := 0) hx hb dF_shares_18 (by decide) ?_
      exact W.zret hx hb hr rfl (fun t ht hW => ⟨⟨0, (I2, J3), rfl, Option.some.inj hm, ht ▸ hP, va_K.moved hW.alike hK, hD⟩, hS.F ht⟩) hS.2.2 dF_shares_19 hlk
set_option maxHeartbeats 4000000 in
set_option maxRecDepth 100000 in
theorem c_F_shares (l : Launch) (D : va_G) (ad : Nat → Nat) (cI cJ cG : ClassId) (sz : Nat) (x1 : Int32) (x2 : Int32) (x3 : Int32) (I : SI) (J : SJ) (res : Int32 × SI × SJ) (hm : m_F_shares x1 x2 x3 I J = some res) : Met l yF_shares (Cond.code yF_shares bF_shares 4 (some .boolean) :: gtb) rm_F_shares (va_Pc [.ref (ad 41), .int x1, .int x2, .int x3] (preW D vwCl (tysF cI cJ cG) (wsF ad cI cJ cG I J) sz)) (va_Qi (fun (r : Int32) (u : SI × SJ) => (r, u) = res) (atW D vwCl (tysF cI cJ cG) (va_A (wsF ad cI cJ cG I J) sz) (wsF ad cI cJ cG)) (va_A (wsF ad cI cJ cG I J) sz)) 0 0 (va_A (wsF ad cI cJ cG I J) sz) := by
  refine Met.ofW (cc := bF_shares) (maxL := 4) (ret := (some .boolean)) (by decide) rfl ?_
  intro p e s m args below meth c s₁ B hml hv
  obtain ⟨rfl, hsz, hP, hK, hD0, hN⟩ := hv
  subst hsz
  have X : Cx p s m [.ref (ad 41), .int x1, .int x2, .int x3].toArray meth c bF_shares (some .boolean) 4 RF := ⟨B.exec, B.bytes, B.returns, hml, findClass_of_methodNamed B.named, fun w h => atoms_spec (ws := (Cond.code yF_shares bF_shares 4 (some .boolean) :: gtb)) B.pre w (List.mem_cons_of_mem _ h), B.notSynchronized⟩
  have hl := lv_entry ([.ref (ad 41), .int x1, .int x2, .int x3]) (n := 4) (Nat.le_of_ble_eq_true rfl)
  rw [lg_entry_eq]
  generalize (lg_sl ([.ref (ad 41), .int x1, .int x2, .int x3]) ++ List.replicate (4 - (lg_sl ([.ref (ad 41), .int x1, .int x2, .int x3])).length) Slot.unset).toArray = ls at hl ⊢
  have hl : lv_has ls 4 [(0, .ref (ad 41)), (1, .int x1), (2, .int x2), (3, .int x3)] := hl
  have hA : ∀ q, s.heap.size ≤ q → va_A (wsF ad cI cJ cG I J) s.heap.size q := fun q h => Or.inr h
  exact w_F_shares_0 X hK hN hA  x1 x2 x3 I J hm _ _ _ hP hD0.self va_S.rf hl
def b_F_silo_0 (x1 : Int32) (x2 : Int32) (I : SI) (J : SJ) : Option (Int32 × SI × SJ) :=
  cl3 (m_F_isStuff x1 I J) fun r1 I2 J3 =>
  if r1 = 0 then
    some (0, I2, J3)
  else
    if x2 = 0 then
      gd (vin x1 4) <|
      nm (va_up I2 5 (upd (I2 5) x1.toNatClampNeg x2)) fun I8 =>
      some (1, I8, J3)
    else
      cl1 (m_F_isWithin x2 5 40) fun r9 =>
      if r9 = 0 then
        some (0, I2, J3)
      else
        gd (vin x1 4) <|
        nm (va_up I2 5 (upd (I2 5) x1.toNatClampNeg x2)) fun I13 =>
        some (1, I13, J3)
def m_F_silo (x1 : Int32) (x2 : Int32) (I : SI) (J : SJ) : Option (Int32 × SI × SJ) := b_F_silo_0 x1 x2 I J
def rm_F_silo : Room := { frames := 2, cells := 0, slots := 0, locals := 43 }
set_option maxHeartbeats 4000000 in
set_option maxRecDepth 100000 in
theorem w_F_silo_0 {p : Program} {l : Launch} {e : Env} {s : State} {m : MethodId} {args : Array Value} {below : List Frame} {meth : Method} {c : Code} {D : va_G} {A : Nat → Prop} {ad : Nat → Nat} {cI cJ cG : ClassId} {res : Int32 × SI × SJ} (X : Cx p s m args meth c bF_silo (some .boolean) 3 RF) (hK : va_K D vwCl (tysF cI cJ cG) s) (hN : NWs s) (hA : ∀ q, s.heap.size ≤ q → A q)
     (x1 : Int32) (x2 : Int32) (I : SI) (J : SJ) (hm : b_F_silo_0  x1 x2 I J = some res) : WB p l e (headSpec (Cond.code yF_silo bF_silo 3 (some .boolean) :: gtb) rm_F_silo).room s m args below meth c (MQ below (va_Qi (fun (r : Int32) (u : SI × SJ) => (r, u) = res) (atW D vwCl (tysF cI cJ cG) A (wsF ad cI cJ cG)) A) args s 0 0 A) D vwCl A 3 (wsF ad cI cJ cG I J) 0 [(0, .ref (ad 41)), (1, .int x1), (2, .int x2)] [] := by
  obtain ⟨hx, hb, hr, hml, hown, hT, hlk⟩ := X
  intro H locs ls hP hD hS hl
  unfold b_F_silo_0 at hm
  refine lv_aload_n hx hb dF_silo_0 rfl (lv_at hl 0 rfl) ?_
  refine lv_iload_n hx hb dF_silo_1 rfl (lv_at hl 1 rfl) ?_
  obtain ⟨r1, I2, J3, hc4, hm⟩ := cl3_to hm
  refine pst_i (wf := wsF ad cI cJ cG) hD hS hA (va_runV (As := [.int x1]) (rest := []) ⟨hx, hb, hml, hown, hT⟩ (c_F_isStuff l D ad cI cJ cG _ x1 I J _ hc4) (cwV 1 hT (gV wd_296 wd_298 wd_0 wd_51 wd_299) rfl rfl rfl (by decide +kernel) ⟨Nat.le_of_ble_eq_true rfl, Nat.le_of_ble_eq_true rfl⟩) ⟨preW_fb, va_recv hK hP (ci := 5) (q0 := 41) rfl rfl, preW_at hP hK hN hD⟩ rfl rfl hl.1 rfl (lv_room (Nat.le_of_ble_eq_true rfl)) dF_silo_2 ⟨Nat.zero_le _, Nat.zero_le _⟩) (fun H locs hP hD hS => ?_)
  refine lv_if_eq (tgt := 22) hx hb dF_silo_5 (by decide) (fun c5 => ?_) (fun c5 => ?_)
  · have hm := brp hm c5
    refine lv_iconst (v := 0) hx hb dF_silo_22 (by decide) ?_
    exact W.zret hx hb hr rfl (fun t ht hW => ⟨⟨0, (I2, J3), rfl, Option.some.inj hm, ht ▸ hP, va_K.moved hW.alike hK, hD⟩, hS.F ht⟩) hS.2.2 dF_silo_23 hlk
  · have hm := brn hm c5
    refine lv_iload_n hx hb dF_silo_8 rfl (lv_at hl 2 rfl) ?_
    refine lv_if_eq (tgt := 24) hx hb dF_silo_9 (by decide) (fun c6 => ?_) (fun c6 => ?_)
    · have hm := brp hm c6
      refine lv_aload_n hx hb dF_silo_24 rfl (lv_at hl 0 rfl) ?_
      refine va_get (D := D) (ci := 5) (v := .ref (ad 0)) (C := RF) (T := TF) (N := 12) hx hb hT inF hown hK hP 41 rfl rfl 0 (by decide) (hT _ wd_242) (fun _ h9 => h9) rfl dF_silo_25 ?_
      refine va_getN (D := D) (ci := 4) (v := .ref (ad 5)) (C := RT) (T := TT) (N := 9) hx hb hT inT hown hK hP 0 rfl rfl 5 (by decide) (va_Nw.use rfl (hN _ nw_94)) (fun _ h9 => h9) rfl dF_silo_28 ?_
      refine lv_iload_n hx hb dF_silo_31 rfl (lv_at hl 1 rfl) ?_
      refine lv_iload_n hx hb dF_silo_32 rfl (lv_at hl 2 rfl) ?_
      obtain ⟨g7, hm⟩ := gd_to hm
      refine va_iast hx hb hK hP hD hS 5 0 rfl rfl g7 dF_silo_33 (fun H locs hP hD hS => ?_)
      obtain ⟨I8, eI8⟩ : ∃ z : SI, z = va_up I2 5 (upd (I2 5) x1.toNatClampNeg x2) := ⟨_, rfl⟩
      have hm := nm_to eI8 hm
      have hP := P_eq (ws2 := wsF ad cI cJ cG I8 J3) hP (by rw [eI8]; rfl)
      have hD := D_eq (ws2 := wsF ad cI cJ cG I8 J3) hD (by rw [eI8]; rfl)
      refine lv_iconst (v := 1) hx hb dF_silo_34 (by decide) ?_
      exact W.zret hx hb hr rfl (fun t ht hW => ⟨⟨1, (I8, J3), rfl, Option.some.inj hm, ht ▸ hP, va_K.moved hW.alike hK, hD⟩, hS.F ht⟩) hS.2.2 dF_silo_35 hlk
    · have hm := brn hm c6
      refine lv_iload_n hx hb dF_silo_12 rfl (lv_at hl 2 rfl) ?_
      refine lv_iconst (v := 5) hx hb dF_silo_13 (by decide) ?_
      refine lv_bipush (v := 40) hx hb dF_silo_14 (by decide) ?_
      obtain ⟨r9, hc10, hm⟩ := cl1_to hm
      refine pstZ_i hS (va_runS (As := [.int x2, .int 5, .int 40]) (rest := []) ⟨hx, hb, hml, hown, hT⟩ (c_F_isWithin l x2 5 40 _ hc10) (va_cwS 3 hT (gS wd_286 wd_287 wd_51 wd_288) rfl rfl rfl (by decide +kernel) ⟨Nat.le_of_ble_eq_true rfl, Nat.le_of_ble_eq_true rfl⟩) ⟨preZ_fb, preZ_at⟩ rfl rfl hl.1 rfl (lv_room (Nat.le_of_ble_eq_true rfl)) dF_silo_16 ⟨Nat.zero_le _, Nat.zero_le _⟩) (fun H1 locs hq hS => ?_)
      have hP := keptP hP hq
      refine lv_if_ne (tgt := 24) hx hb dF_silo_19 (by decide) (fun c11 => ?_) (fun c11 => ?_)
      · have hm := brn hm c11
        refine lv_aload_n hx hb dF_silo_24 rfl (lv_at hl 0 rfl) ?_
        refine va_get (D := D) (ci := 5) (v := .ref (ad 0)) (C := RF) (T := TF) (N := 12) hx hb hT inF hown hK hP 41 rfl rfl 0 (by decide) (hT _ wd_242) (fun _ h9 => h9) rfl dF_silo_25 ?_
        refine va_getN (D := D) (ci := 4) (v := .ref (ad 5)) (C := RT) (T := TT) (N := 9) hx hb hT inT hown hK hP 0 rfl rfl 5 (by decide) (va_Nw.use rfl (hN _ nw_94)) (fun _ h9 => h9) rfl dF_silo_28 ?_
        refine lv_iload_n hx hb dF_silo_31 rfl (lv_at hl 1 rfl) ?_
        refine lv_iload_n hx hb dF_silo_32 rfl (lv_at hl 2 rfl) ?_
        obtain ⟨g12, hm⟩ := gd_to hm
        refine va_iast hx hb hK hP hD hS 5 0 rfl rfl g12 dF_silo_33 (fun H locs hP hD hS => ?_)
        obtain ⟨I13, eI13⟩ : ∃ z : SI, z = va_up I2 5 (upd (I2 5) x1.toNatClampNeg x2) := ⟨_, rfl⟩
        have hm := nm_to eI13 hm
        have hP := P_eq (ws2 := wsF ad cI cJ cG I13 J3) hP (by rw [eI13]; rfl)
        have hD := D_eq (ws2 := wsF ad cI cJ cG I13 J3) hD (by rw [eI13]; rfl)
        refine lv_iconst (v := 1) hx hb dF_silo_34 (by decide) ?_
        exact W.zret hx hb hr rfl (fun t ht hW => ⟨⟨1, (I13, J3), rfl, Option.some.inj hm, ht ▸ hP, va_K.moved hW.alike hK, hD⟩, hS.F ht⟩) hS.2.2 dF_silo_35 hlk
      · have hm := brp hm c11
        refine lv_iconst (v := 0) hx hb dF_silo_22 (by decide) ?_
        exact W.zret hx hb hr rfl (fun t ht hW => ⟨⟨0, (I2, J3), rfl, Option.some.inj hm, ht ▸ hP, va_K.moved hW.alike hK, hD⟩, hS.F ht⟩) hS.2.2 dF_silo_23 hlk
set_option maxHeartbeats 4000000 in
set_option maxRecDepth 100000 in
theorem c_F_silo (l : Launch) (D : va_G) (ad : Nat → Nat) (cI cJ cG : ClassId) (sz : Nat) (x1 : Int32) (x2 : Int32) (I : SI) (J : SJ) (res : Int32 × SI × SJ) (hm : m_F_silo x1 x2 I J = some res) : Met l yF_silo (Cond.code yF_silo bF_silo 3 (some .boolean) :: gtb) rm_F_silo (va_Pc [.ref (ad 41), .int x1, .int x2] (preW D vwCl (tysF cI cJ cG) (wsF ad cI cJ cG I J) sz)) (va_Qi (fun (r : Int32) (u : SI × SJ) => (r, u) = res) (atW D vwCl (tysF cI cJ cG) (va_A (wsF ad cI cJ cG I J) sz) (wsF ad cI cJ cG)) (va_A (wsF ad cI cJ cG I J) sz)) 0 0 (va_A (wsF ad cI cJ cG I J) sz) := by
  refine Met.ofW (cc := bF_silo) (maxL := 3) (ret := (some .boolean)) (by decide) rfl ?_
  intro p e s m args below meth c s₁ B hml hv
  obtain ⟨rfl, hsz, hP, hK, hD0, hN⟩ := hv
  subst hsz
  have X : Cx p s m [.ref (ad 41), .int x1, .int x2].toArray meth c bF_silo (some .boolean) 3 RF := ⟨B.exec, B.bytes, B.returns, hml, findClass_of_methodNamed B.named, fun w h => atoms_spec (ws := (Cond.code yF_silo bF_silo 3 (some .boolean) :: gtb)) B.pre w (List.mem_cons_of_mem _ h), B.notSynchronized⟩
  have hl := lv_entry ([.ref (ad 41), .int x1, .int x2]) (n := 3) (Nat.le_of_ble_eq_true rfl)
  rw [lg_entry_eq]
  generalize (lg_sl ([.ref (ad 41), .int x1, .int x2]) ++ List.replicate (3 - (lg_sl ([.ref (ad 41), .int x1, .int x2])).length) Slot.unset).toArray = ls at hl ⊢
  have hl : lv_has ls 3 [(0, .ref (ad 41)), (1, .int x1), (2, .int x2)] := hl
  have hA : ∀ q, s.heap.size ≤ q → va_A (wsF ad cI cJ cG I J) s.heap.size q := fun q h => Or.inr h
  exact w_F_silo_0 X hK hN hA  x1 x2 I J hm _ _ _ hP hD0.self va_S.rf hl
def b_F_amount_0 (x1 : Int32) (x2 : Int32) (I : SI) (J : SJ) : Option (Int64 × SI × SJ) :=
  if (I 41 2) = 0 then
    nm ((I 41 4) - 1) fun v2 =>
    cl1 (m_F_isWithin x1 0 v2) fun r3 =>
    if r3 = 0 then
      some (-1, I, J)
    else
      gd (vin x1 4) <|
      nm (J 36 x1.toNatClampNeg) fun v7 =>
      nm (10 * (J 35 2)) fun v8 =>
      cl1 (m_F_partOf v7 v8 x2) fun r9 =>
      some (r9, I, J)
  else
    some (-1, I, J)
def m_F_amount (x1 : Int32) (x2 : Int32) (I : SI) (J : SJ) : Option (Int64 × SI × SJ) := b_F_amount_0 x1 x2 I J
def rm_F_amount : Room := { frames := 2, cells := 0, slots := 0, locals := 56 }
set_option maxHeartbeats 4000000 in
set_option maxRecDepth 100000 in
theorem w_F_amount_0 {p : Program} {l : Launch} {e : Env} {s : State} {m : MethodId} {args : Array Value} {below : List Frame} {meth : Method} {c : Code} {D : va_G} {A : Nat → Prop} {ad : Nat → Nat} {cI cJ cG : ClassId} {res : Int64 × SI × SJ} (X : Cx p s m args meth c bF_amount (some .long) 3 RF) (hK : va_K D vwCl (tysF cI cJ cG) s) (hN : NWs s) (hA : ∀ q, s.heap.size ≤ q → A q)
     (x1 : Int32) (x2 : Int32) (I : SI) (J : SJ) (hm : b_F_amount_0  x1 x2 I J = some res) : WB p l e (headSpec (Cond.code yF_amount bF_amount 3 (some .long) :: gtb) rm_F_amount).room s m args below meth c (MQ below (va_Ql (fun (r : Int64) (u : SI × SJ) => (r, u) = res) (atW D vwCl (tysF cI cJ cG) A (wsF ad cI cJ cG)) A) args s 0 0 A) D vwCl A 3 (wsF ad cI cJ cG I J) 0 [(0, .ref (ad 41)), (1, .int x1), (2, .int x2)] [] := by
  obtain ⟨hx, hb, hr, hml, hown, hT, hlk⟩ := X
  intro H locs ls hP hD hS hl
  unfold b_F_amount_0 at hm
  refine lv_aload_n hx hb dF_amount_0 rfl (lv_at hl 0 rfl) ?_
  refine va_get (D := D) (ci := 5) (v := .int (I 41 2)) (C := RF) (T := TF) (N := 12) hx hb hT inF hown hK hP 41 rfl rfl 2 (by decide) (hT _ wd_244) (fun _ h9 => h9) rfl dF_amount_1 ?_
  refine lv_if_ne (tgt := 21) hx hb dF_amount_4 (by decide) (fun c1 => ?_) (fun c1 => ?_)
  · have hm := brn hm c1
    refine lv_ldc2 (v := (-1)) hx hb hown (hT _ wd_492) dF_amount_21 ?_
    exact W.lret hx hb hr (fun t ht hW => ⟨⟨-1, (I, J), rfl, Option.some.inj hm, ht ▸ hP, va_K.moved hW.alike hK, hD⟩, hS.F ht⟩) hS.2.2 dF_amount_24 hlk
  · have hm := brp hm c1
    refine lv_iload_n hx hb dF_amount_7 rfl (lv_at hl 1 rfl) ?_
    refine lv_iconst (v := 0) hx hb dF_amount_8 (by decide) ?_
    refine lv_aload_n hx hb dF_amount_9 rfl (lv_at hl 0 rfl) ?_
    refine va_get (D := D) (ci := 5) (v := .int (I 41 4)) (C := RF) (T := TF) (N := 12) hx hb hT inF hown hK hP 41 rfl rfl 4 (by decide) (hT _ wd_246) (fun _ h9 => h9) rfl dF_amount_10 ?_
    refine lv_iconst (v := 1) hx hb dF_amount_13 (by decide) ?_
    refine lv_isub hx hb dF_amount_14 ?_
    refine lv_topi (fun v2 ev2 => ?_)
    have hm := nm_to ev2 hm
    obtain ⟨r3, hc4, hm⟩ := cl1_to hm
    refine pstZ_i hS (va_runS (As := [.int x1, .int 0, .int v2]) (rest := []) ⟨hx, hb, hml, hown, hT⟩ (c_F_isWithin l x1 0 v2 _ hc4) (va_cwS 3 hT (gS wd_286 wd_287 wd_51 wd_288) rfl rfl rfl (by decide +kernel) ⟨Nat.le_of_ble_eq_true rfl, Nat.le_of_ble_eq_true rfl⟩) ⟨preZ_fb, preZ_at⟩ rfl rfl hl.1 rfl (lv_room (Nat.le_of_ble_eq_true rfl)) dF_amount_15 ⟨Nat.zero_le _, Nat.zero_le _⟩) (fun H1 locs hq hS => ?_)
    have hP := keptP hP hq
    refine lv_if_ne (tgt := 25) hx hb dF_amount_18 (by decide) (fun c5 => ?_) (fun c5 => ?_)
    · have hm := brn hm c5
      refine lv_aload_n hx hb dF_amount_25 rfl (lv_at hl 0 rfl) ?_
      refine va_get (D := D) (ci := 5) (v := .ref (ad 35)) (C := RF) (T := TF) (N := 12) hx hb hT inF hown hK hP 41 rfl rfl 7 (by decide) (hT _ wd_249) (fun _ h9 => h9) rfl dF_amount_26 ?_
      refine va_getN (D := D) (ci := 2) (v := .ref (ad 36)) (C := RX) (T := TX) (N := 3) hx hb hT inX hown hK hP 35 rfl rfl 0 (by decide) (va_Nw.use rfl (hN _ nw_181)) (fun _ h9 => h9) rfl dF_amount_29 ?_
      refine lv_iload_n hx hb dF_amount_32 rfl (lv_at hl 1 rfl) ?_
      obtain ⟨g6, hm⟩ := gd_to hm
      refine va_lald hx hb hK hP 36 1 rfl rfl g6 dF_amount_33 ?_
      refine lv_topl (fun v7 ev7 => ?_)
      have hm := nm_to ev7 hm
      refine lv_ldc2 (v := 10) hx hb hown (hT _ wd_493) dF_amount_34 ?_
      refine lv_aload_n hx hb dF_amount_37 rfl (lv_at hl 0 rfl) ?_
      refine va_get (D := D) (ci := 5) (v := .ref (ad 35)) (C := RF) (T := TF) (N := 12) hx hb hT inF hown hK hP 41 rfl rfl 7 (by decide) (hT _ wd_249) (fun _ h9 => h9) rfl dF_amount_38 ?_
      refine va_getN (D := D) (ci := 2) (v := .long (J 35 2)) (C := RX) (T := TX) (N := 3) hx hb hT inX hown hK hP 35 rfl rfl 2 (by decide) (va_Nw.use rfl (hN _ nw_189)) (fun _ h9 => h9) rfl dF_amount_41 ?_
      refine lv_lmul hx hb dF_amount_44 ?_
      refine lv_topl (fun v8 ev8 => ?_)
      have hm := nm_to ev8 hm
      refine lv_iload_n hx hb dF_amount_45 rfl (lv_at hl 2 rfl) ?_
      obtain ⟨r9, hc10, hm⟩ := cl1_to hm
      refine pstZ_l hS (va_runS (As := [.long v7, .long v8, .int x2]) (rest := []) ⟨hx, hb, hml, hown, hT⟩ (c_F_partOf l v7 v8 x2 _ hc10) (va_cwS 3 hT (gS wd_494 wd_495 wd_51 wd_496) rfl rfl rfl (by decide +kernel) ⟨Nat.le_of_ble_eq_true rfl, Nat.le_of_ble_eq_true rfl⟩) ⟨preZ_fb, preZ_at⟩ rfl rfl hl.1 rfl (lv_room (Nat.le_of_ble_eq_true rfl)) dF_amount_46 ⟨Nat.zero_le _, Nat.zero_le _⟩) (fun H1 locs hq hS => ?_)
      have hP := keptP hP hq
      exact W.lret hx hb hr (fun t ht hW => ⟨⟨r9, (I, J), rfl, Option.some.inj hm, ht ▸ hP, va_K.moved hW.alike hK, hD⟩, hS.F ht⟩) hS.2.2 dF_amount_49 hlk
    · have hm := brp hm c5
      refine lv_ldc2 (v := (-1)) hx hb hown (hT _ wd_492) dF_amount_21 ?_
      exact W.lret hx hb hr (fun t ht hW => ⟨⟨-1, (I, J), rfl, Option.some.inj hm, ht ▸ hP, va_K.moved hW.alike hK, hD⟩, hS.F ht⟩) hS.2.2 dF_amount_24 hlk
set_option maxHeartbeats 4000000 in
set_option maxRecDepth 100000 in
theorem c_F_amount (l : Launch) (D : va_G) (ad : Nat → Nat) (cI cJ cG : ClassId) (sz : Nat) (x1 : Int32) (x2 : Int32) (I : SI) (J : SJ) (res : Int64 × SI × SJ) (hm : m_F_amount x1 x2 I J = some res) : Met l yF_amount (Cond.code yF_amount bF_amount 3 (some .long) :: gtb) rm_F_amount (va_Pc [.ref (ad 41), .int x1, .int x2] (preW D vwCl (tysF cI cJ cG) (wsF ad cI cJ cG I J) sz)) (va_Ql (fun (r : Int64) (u : SI × SJ) => (r, u) = res) (atW D vwCl (tysF cI cJ cG) (va_A (wsF ad cI cJ cG I J) sz) (wsF ad cI cJ cG)) (va_A (wsF ad cI cJ cG I J) sz)) 0 0 (va_A (wsF ad cI cJ cG I J) sz) := by
  refine Met.ofW (cc := bF_amount) (maxL := 3) (ret := (some .long)) (by decide) rfl ?_
  intro p e s m args below meth c s₁ B hml hv
  obtain ⟨rfl, hsz, hP, hK, hD0, hN⟩ := hv
  subst hsz
  have X : Cx p s m [.ref (ad 41), .int x1, .int x2].toArray meth c bF_amount (some .long) 3 RF := ⟨B.exec, B.bytes, B.returns, hml, findClass_of_methodNamed B.named, fun w h => atoms_spec (ws := (Cond.code yF_amount bF_amount 3 (some .long) :: gtb)) B.pre w (List.mem_cons_of_mem _ h), B.notSynchronized⟩
  have hl := lv_entry ([.ref (ad 41), .int x1, .int x2]) (n := 3) (Nat.le_of_ble_eq_true rfl)
  rw [lg_entry_eq]
  generalize (lg_sl ([.ref (ad 41), .int x1, .int x2]) ++ List.replicate (3 - (lg_sl ([.ref (ad 41), .int x1, .int x2])).length) Slot.unset).toArray = ls at hl ⊢
  have hl : lv_has ls 3 [(0, .ref (ad 41)), (1, .int x1), (2, .int x2)] := hl
  have hA : ∀ q, s.heap.size ≤ q → va_A (wsF ad cI cJ cG I J) s.heap.size q := fun q h => Or.inr h
  exact w_F_amount_0 X hK hN hA  x1 x2 I J hm _ _ _ hP hD0.self va_S.rf hl
def b_F_cost_0 (x1 : Int32) (I : SI) (J : SJ) : Option (Int64 × SI × SJ) :=
  if (I 41 2) = 0 then
    nm (10 * (J 35 2)) fun v2 =>
    cl1 (m_F_partOf (J 35 1) v2 x1) fun r3 =>
    some (r3, I, J)
  else
    some (-1, I, J)
def m_F_cost (x1 : Int32) (I : SI) (J : SJ) : Option (Int64 × SI × SJ) := b_F_cost_0 x1 I J
def rm_F_cost : Room := { frames := 2, cells := 0, slots := 0, locals := 56 }
set_option maxHeartbeats 4000000 in
set_option maxRecDepth 100000 in
theorem w_F_cost_0 {p : Program} {l : Launch} {e : Env} {s : State} {m : MethodId} {args : Array Value} {below : List Frame} {meth : Method} {c : Code} {D : va_G} {A : Nat → Prop} {ad : Nat → Nat} {cI cJ cG : ClassId} {res : Int64 × SI × SJ} (X : Cx p s m args meth c bF_cost (some .long) 2 RF) (hK : va_K D vwCl (tysF cI cJ cG) s) (hN : NWs s) (hA : ∀ q, s.heap.size ≤ q → A q)
     (x1 : Int32) (I : SI) (J : SJ) (hm : b_F_cost_0  x1 I J = some res) : WB p l e (headSpec (Cond.code yF_cost bF_cost 2 (some .long) :: gtb) rm_F_cost).room s m args below meth c (MQ below (va_Ql (fun (r : Int64) (u : SI × SJ) => (r, u) = res) (atW D vwCl (tysF cI cJ cG) A (wsF ad cI cJ cG)) A) args s 0 0 A) D vwCl A 2 (wsF ad cI cJ cG I J) 0 [(0, .ref (ad 41)), (1, .int x1)] [] := by
  obtain ⟨hx, hb, hr, hml, hown, hT, hlk⟩ := X
  intro H locs ls hP hD hS hl
  unfold b_F_cost_0 at hm
  refine lv_aload_n hx hb dF_cost_0 rfl (lv_at hl 0 rfl) ?_
  refine va_get (D := D) (ci := 5) (v := .int (I 41 2)) (C := RF) (T := TF) (N := 12) hx hb hT inF hown hK hP 41 rfl rfl 2 (by decide) (hT _ wd_244) (fun _ h9 => h9) rfl dF_cost_1 ?_
  refine lv_if_eq (tgt := 11) hx hb dF_cost_4 (by decide) (fun c1 => ?_) (fun c1 => ?_)
  · have hm := brp hm c1
    refine lv_aload_n hx hb dF_cost_11 rfl (lv_at hl 0 rfl) ?_
    refine va_get (D := D) (ci := 5) (v := .ref (ad 35)) (C := RF) (T := TF) (N := 12) hx hb hT inF hown hK hP 41 rfl rfl 7 (by decide) (hT _ wd_249) (fun _ h9 => h9) rfl dF_cost_12 ?_
    refine va_getN (D := D) (ci := 2) (v := .long (J 35 1)) (C := RX) (T := TX) (N := 3) hx hb hT inX hown hK hP 35 rfl rfl 1 (by decide) (va_Nw.use rfl (hN _ nw_185)) (fun _ h9 => h9) rfl dF_cost_15 ?_
    refine lv_ldc2 (v := 10) hx hb hown (hT _ wd_493) dF_cost_18 ?_
    refine lv_aload_n hx hb dF_cost_21 rfl (lv_at hl 0 rfl) ?_
    refine va_get (D := D) (ci := 5) (v := .ref (ad 35)) (C := RF) (T := TF) (N := 12) hx hb hT inF hown hK hP 41 rfl rfl 7 (by decide) (hT _ wd_249) (fun _ h9 => h9) rfl dF_cost_22 ?_
    refine va_getN (D := D) (ci := 2) (v := .long (J 35 2)) (C := RX) (T := TX) (N := 3) hx hb hT inX hown hK hP 35 rfl rfl 2 (by decide) (va_Nw.use rfl (hN _ nw_189)) (fun _ h9 => h9) rfl dF_cost_25 ?_
    refine lv_lmul hx hb dF_cost_28 ?_
    refine lv_topl (fun v2 ev2 => ?_)
    have hm := nm_to ev2 hm
    refine lv_iload_n hx hb dF_cost_29 rfl (lv_at hl 1 rfl) ?_
    obtain ⟨r3, hc4, hm⟩ := cl1_to hm
    refine pstZ_l hS (va_runS (As := [.long (J 35 1), .long v2, .int x1]) (rest := []) ⟨hx, hb, hml, hown, hT⟩ (c_F_partOf l (J 35 1) v2 x1 _ hc4) (va_cwS 3 hT (gS wd_494 wd_495 wd_51 wd_496) rfl rfl rfl (by decide +kernel) ⟨Nat.le_of_ble_eq_true rfl, Nat.le_of_ble_eq_true rfl⟩) ⟨preZ_fb, preZ_at⟩ rfl rfl hl.1 rfl (lv_room (Nat.le_of_ble_eq_true rfl)) dF_cost_30 ⟨Nat.zero_le _, Nat.zero_le _⟩) (fun H1 locs hq hS => ?_)
    have hP := keptP hP hq
    exact W.lret hx hb hr (fun t ht hW => ⟨⟨r3, (I, J), rfl, Option.some.inj hm, ht ▸ hP, va_K.moved hW.alike hK, hD⟩, hS.F ht⟩) hS.2.2 dF_cost_33 hlk
  · have hm := brn hm c1
    refine lv_ldc2 (v := (-1)) hx hb hown (hT _ wd_492) dF_cost_7 ?_
    exact W.lret hx hb hr (fun t ht hW => ⟨⟨-1, (I, J), rfl, Option.some.inj hm, ht ▸ hP, va_K.moved hW.alike hK, hD⟩, hS.F ht⟩) hS.2.2 dF_cost_10 hlk
set_option maxHeartbeats 4000000 in
set_option maxRecDepth 100000 in
theorem c_F_cost (l : Launch) (D : va_G) (ad : Nat → Nat) (cI cJ cG : ClassId) (sz : Nat) (x1 : Int32) (I : SI) (J : SJ) (res : Int64 × SI × SJ) (hm : m_F_cost x1 I J = some res) : Met l yF_cost (Cond.code yF_cost bF_cost 2 (some .long) :: gtb) rm_F_cost (va_Pc [.ref (ad 41), .int x1] (preW D vwCl (tysF cI cJ cG) (wsF ad cI cJ cG I J) sz)) (va_Ql (fun (r : Int64) (u : SI × SJ) => (r, u) = res) (atW D vwCl (tysF cI cJ cG) (va_A (wsF ad cI cJ cG I J) sz) (wsF ad cI cJ cG)) (va_A (wsF ad cI cJ cG I J) sz)) 0 0 (va_A (wsF ad cI cJ cG I J) sz) := by
  refine Met.ofW (cc := bF_cost) (maxL := 2) (ret := (some .long)) (by decide) rfl ?_
  intro p e s m args below meth c s₁ B hml hv
  obtain ⟨rfl, hsz, hP, hK, hD0, hN⟩ := hv
  subst hsz
  have X : Cx p s m [.ref (ad 41), .int x1].toArray meth c bF_cost (some .long) 2 RF := ⟨B.exec, B.bytes, B.returns, hml, findClass_of_methodNamed B.named, fun w h => atoms_spec (ws := (Cond.code yF_cost bF_cost 2 (some .long) :: gtb)) B.pre w (List.mem_cons_of_mem _ h), B.notSynchronized⟩
  have hl := lv_entry ([.ref (ad 41), .int x1]) (n := 2) (Nat.le_of_ble_eq_true rfl)
  rw [lg_entry_eq]
  generalize (lg_sl ([.ref (ad 41), .int x1]) ++ List.replicate (2 - (lg_sl ([.ref (ad 41), .int x1])).length) Slot.unset).toArray = ls at hl ⊢
  have hl : lv_has ls 2 [(0, .ref (ad 41)), (1, .int x1)] := hl
  have hA : ∀ q, s.heap.size ≤ q → va_A (wsF ad cI cJ cG I J) s.heap.size q := fun q h => Or.inr h
  exact w_F_cost_0 X hK hN hA  x1 I J hm _ _ _ hP hD0.self va_S.rf hl
def b_F_tight_0 (I : SI) (J : SJ) : Option (Int32 × SI × SJ) :=
  if (I 41 2) = 0 then
    some (I 41 5, I, J)
  else
    some (-1, I, J)
def m_F_tight (I : SI) (J : SJ) : Option (Int32 × SI × SJ) := b_F_tight_0  I J
def rm_F_tight : Room := { frames := 0, cells := 0, slots := 0, locals := 0 }
set_option maxHeartbeats 4000000 in
set_option maxRecDepth 100000 in
theorem w_F_tight_0 {p : Program} {l : Launch} {e : Env} {s : State} {m : MethodId} {args : Array Value} {below : List Frame} {meth : Method} {c : Code} {D : va_G} {A : Nat → Prop} {ad : Nat → Nat} {cI cJ cG : ClassId} {res : Int32 × SI × SJ} (X : Cx p s m args meth c bF_tight (some .int) 1 RF) (hK : va_K D vwCl (tysF cI cJ cG) s) (hN : NWs s) (hA : ∀ q, s.heap.size ≤ q → A q)
     (I : SI) (J : SJ) (hm : b_F_tight_0   I J = some res) : WB p l e (headSpec (Cond.code yF_tight bF_tight 1 (some .int) :: gtb) rm_F_tight).room s m args below meth c (MQ below (va_Qi (fun (r : Int32) (u : SI × SJ) => (r, u) = res) (atW D vwCl (tysF cI cJ cG) A (wsF ad cI cJ cG)) A) args s 0 0 A) D vwCl A 1 (wsF ad cI cJ cG I J) 0 [(0, .ref (ad 41))] [] := by
  obtain ⟨hx, hb, hr, hml, hown, hT, hlk⟩ := X
  intro H locs ls hP hD hS hl
  unfold b_F_tight_0 at hm
  refine lv_aload_n hx hb dF_tight_0 rfl (lv_at hl 0 rfl) ?_
  refine va_get (D := D) (ci := 5) (v := .int (I 41 2)) (C := RF) (T := TF) (N := 12) hx hb hT inF hown hK hP 41 rfl rfl 2 (by decide) (hT _ wd_244) (fun _ h9 => h9) rfl dF_tight_1 ?_
  refine lv_if_ne (tgt := 14) hx hb dF_tight_4 (by decide) (fun c1 => ?_) (fun c1 => ?_)
  · have hm := brn hm c1
    refine lv_iconst (v := (-1)) hx hb dF_tight_14 (by decide) ?_
    exact W.iret hx hb hr (fun t ht hW => ⟨⟨-1, (I, J), rfl, Option.some.inj hm, ht ▸ hP, va_K.moved hW.alike hK, hD⟩, hS.F ht⟩) hS.2.2 dF_tight_15 hlk
  · have hm := brp hm c1
    refine lv_aload_n hx hb dF_tight_7 rfl (lv_at hl 0 rfl) ?_
    refine va_get (D := D) (ci := 5) (v := .int (I 41 5)) (C := RF) (T := TF) (N := 12) hx hb hT inF hown hK hP 41 rfl rfl 5 (by decide) (hT _ wd_247) (fun _ h9 => h9) rfl dF_tight_8 ?_
    refine lv_goto (tgt := 15) hx hb dF_tight_11 (by decide) ?_
    exact W.iret hx hb hr (fun t ht hW => ⟨⟨I 41 5, (I, J), rfl, Option.some.inj hm, ht ▸ hP, va_K.moved hW.alike hK, hD⟩, hS.F ht⟩) hS.2.2 dF_tight_15 hlk
set_option maxHeartbeats 4000000 in
set_option maxRecDepth 100000 in
theorem c_F_tight (l : Launch) (D : va_G) (ad : Nat → Nat) (cI cJ cG : ClassId) (sz : Nat) (I : SI) (J : SJ) (res : Int32 × SI × SJ) (hm : m_F_tight  I J = some res) : Met l yF_tight (Cond.code yF_tight bF_tight 1 (some .int) :: gtb) rm_F_tight (va_Pc [.ref (ad 41)] (preW D vwCl (tysF cI cJ cG) (wsF ad cI cJ cG I J) sz)) (va_Qi (fun (r : Int32) (u : SI × SJ) => (r, u) = res) (atW D vwCl (tysF cI cJ cG) (va_A (wsF ad cI cJ cG I J) sz) (wsF ad cI cJ cG)) (va_A (wsF ad cI cJ cG I J) sz)) 0 0 (va_A (wsF ad cI cJ cG I J) sz) := by
  refine Met.ofW (cc := bF_tight) (maxL := 1) (ret := (some .int)) (by decide) rfl ?_
  intro p e s m args below meth c s₁ B hml hv
  obtain ⟨rfl, hsz, hP, hK, hD0, hN⟩ := hv
  subst hsz
  have X : Cx p s m [.ref (ad 41)].toArray meth c bF_tight (some .int) 1 RF := ⟨B.exec, B.bytes, B.returns, hml, findClass_of_methodNamed B.named, fun w h => atoms_spec (ws := (Cond.code yF_tight bF_tight 1 (some .int) :: gtb)) B.pre w (List.mem_cons_of_mem _ h), B.notSynchronized⟩
  have hl := lv_entry ([.ref (ad 41)]) (n := 1) (Nat.le_of_ble_eq_true rfl)
  rw [lg_entry_eq]
  generalize (lg_sl ([.ref (ad 41)]) ++ List.replicate (1 - (lg_sl ([.ref (ad 41)])).length) Slot.unset).toArray = ls at hl ⊢
  have hl : lv_has ls 1 [(0, .ref (ad 41))] := hl
  have hA : ∀ q, s.heap.size ≤ q → va_A (wsF ad cI cJ cG I J) s.heap.size q := fun q h => Or.inr h
  exact w_F_tight_0 X hK hN hA   I J hm _ _ _ hP hD0.self va_S.rf hl
def b_F_clash_18 (k18 : Int32 → Int32 → SI → SJ → Option (Int32 × SI × SJ)) (x2 : Int32) (x3 : Int32) (I : SI) (J : SJ) : Option (Int32 × SI × SJ) :=
  if 18 ≤ x3 then
    some (-1, I, J)
  else
    cl1 (m_F_hasBound (I 41 6) x3) fun r2 =>
    if r2 = 0 then
      nm (x3 + 1) fun v5 =>
      k18 x2 v5 I J
    else
      if x2 = 0 then
        some (x3, I, J)
      else
        nm (x2 + (-1)) fun v7 =>
        nm (x3 + 1) fun v8 =>
        k18 v7 v8 I J
def b_F_clash_0 (k18 : Int32 → Int32 → SI → SJ → Option (Int32 × SI × SJ)) (x1 : Int32) (I : SI) (J : SJ) : Option (Int32 × SI × SJ) :=
  if (I 41 2) = 1 then
    if 0 ≤ x1 then
      k18 x1 0 I J
    else
      some (-1, I, J)
  else
    some (-1, I, J)
def g_F_clash : Nat → (Int32 → Int32 → SI → SJ → Option (Int32 × SI × SJ))
  | 0 => (fun _ _ _ _ => none)
  | n + 1 => (fun x2 x3 I J => b_F_clash_18 (g_F_clash n) x2 x3 I J)
def m_F_clash (x1 : Int32) (I : SI) (J : SJ) : Option (Int32 × SI × SJ) := b_F_clash_0 (g_F_clash fuel) x1 I J
def rm_F_clash : Room := { frames := 1, cells := 0, slots := 0, locals := 21 }
set_option maxHeartbeats 4000000 in
set_option maxRecDepth 100000 in
theorem w_F_clash_18 {p : Program} {l : Launch} {e : Env} {s : State} {m : MethodId} {args : Array Value} {below : List Frame} {meth : Method} {c : Code} {D : va_G} {A : Nat → Prop} {ad : Nat → Nat} {cI cJ cG : ClassId} {res : Int32 × SI × SJ} (X : Cx p s m args meth c bF_clash (some .int) 4 RF) (hK : va_K D vwCl (tysF cI cJ cG) s) (hN : NWs s) (hA : ∀ q, s.heap.size ≤ q → A q)
    {k18 : Int32 → Int32 → SI → SJ → Option (Int32 × SI × SJ)} (hk18 : ∀ (x2 : Int32) (x3 : Int32) (I : SI) (J : SJ), k18 x2 x3 I J = some res → WB p l e (headSpec (Cond.code yF_clash bF_clash 4 (some .int) :: gtb) rm_F_clash).room s m args below meth c (MQ below (va_Qi (fun (r : Int32) (u : SI × SJ) => (r, u) = res) (atW D vwCl (tysF cI cJ cG) A (wsF ad cI cJ cG)) A) args s 0 0 A) D vwCl A 4 (wsF ad cI cJ cG I J) 18 [(0, .ref (ad 41)), (2, .int x2), (3, .int x3)] [])
     (x2 : Int32) (x3 : Int32) (I : SI) (J : SJ) (hm : b_F_clash_18 k18 x2 x3 I J = some res) : WB p l e (headSpec (Cond.code yF_clash bF_clash 4 (some .int) :: gtb) rm_F_clash).room s m args below meth c (MQ below (va_Qi (fun (r : Int32) (u : SI × SJ) => (r, u) = res) (atW D vwCl (tysF cI cJ cG) A (wsF ad cI cJ cG)) A) args s 0 0 A) D vwCl A 4 (wsF ad cI cJ cG I J) 18 [(0, .ref (ad 41)), (2, .int x2), (3, .int x3)] [] := by
  obtain ⟨hx, hb, hr, hml, hown, hT, hlk⟩ := X
  intro H locs ls hP hD hS hl
  unfold b_F_clash_18 at hm
  refine lv_iload_n hx hb dF_clash_18 rfl (lv_at hl 2 rfl) ?_
  refine lv_bipush (v := 18) hx hb dF_clash_19 (by decide) ?_
  refine lv_icmp_ge (tgt := 50) hx hb dF_clash_21 (by decide) (fun c1 => ?_) (fun c1 => ?_)
  · have hm := brp hm c1
    refine lv_iconst (v := (-1)) hx hb dF_clash_50 (by decide) ?_
    exact W.iret hx hb hr (fun t ht hW => ⟨⟨-1, (I, J), rfl, Option.some.inj hm, ht ▸ hP, va_K.moved hW.alike hK, hD⟩, hS.F ht⟩) hS.2.2 dF_clash_51 hlk
  · have hm := brn hm c1
    refine lv_aload_n hx hb dF_clash_24 rfl (lv_at hl 0 rfl) ?_
    refine va_get (D := D) (ci := 5) (v := .int (I 41 6)) (C := RF) (T := TF) (N := 12) hx hb hT inF hown hK hP 41 rfl rfl 6 (by decide) (hT _ wd_248) (fun _ h9 => h9) rfl dF_clash_25 ?_
    refine lv_iload_n hx hb dF_clash_28 rfl (lv_at hl 2 rfl) ?_
    obtain ⟨r2, hc3, hm⟩ := cl1_to hm
    refine pstZ_i hS (va_runS (As := [.int (I 41 6), .int x3]) (rest := []) ⟨hx, hb, hml, hown, hT⟩ (c_F_hasBound l (I 41 6) x3 _ hc3) (va_cwS 2 hT (gS wd_512 wd_480 wd_51 wd_481) rfl rfl rfl (by decide +kernel) ⟨Nat.le_of_ble_eq_true rfl, Nat.le_of_ble_eq_true rfl⟩) ⟨preZ_fb, preZ_at⟩ rfl rfl hl.1 rfl (lv_room (Nat.le_of_ble_eq_true rfl)) dF_clash_29 ⟨Nat.zero_le _, Nat.zero_le _⟩) (fun H1 locs hq hS => ?_)
    have hP := keptP hP hq
    refine lv_if_eq (tgt := 44) hx hb dF_clash_32 (by decide) (fun c4 => ?_) (fun c4 => ?_)
    · have hm := brp hm c4
      obtain ⟨v5, ev5⟩ : ∃ z : Int32, z = x3 + 1 := ⟨_, rfl⟩
      have hm := nm_to ev5 hm
      refine lv_iinc (v := v5) (lv' := [(3, .int v5), (0, .ref (ad 41)), (2, .int x2)]) hx hb dF_clash_44 hl (k := 2) rfl (by rw [ev5]; rfl) (by decide) rfl (fun ls hl => ?_)
      refine lv_goto (tgt := 18) hx hb dF_clash_47 (by decide) ?_
      exact hk18 x2 v5 I J hm _ _ _ hP hD hS (lv_sub hl [1, 2, 0] rfl)
    · have hm := brn hm c4
      refine lv_iload_n hx hb dF_clash_35 rfl (lv_at hl 1 rfl) ?_
      refine lv_if_ne (tgt := 41) hx hb dF_clash_36 (by decide) (fun c6 => ?_) (fun c6 => ?_)
      · have hm := brn hm c6
        obtain ⟨v7, ev7⟩ : ∃ z : Int32, z = x2 + (-1) := ⟨_, rfl⟩
        have hm := nm_to ev7 hm
        refine lv_iinc (v := v7) (lv' := [(2, .int v7), (0, .ref (ad 41)), (3, .int x3)]) hx hb dF_clash_41 hl (k := 1) rfl (by rw [ev7]; rfl) (by decide) rfl (fun ls hl => ?_)
        obtain ⟨v8, ev8⟩ : ∃ z : Int32, z = x3 + 1 := ⟨_, rfl⟩
        have hm := nm_to ev8 hm
        refine lv_iinc (v := v8) (lv' := [(3, .int v8), (2, .int v7), (0, .ref (ad 41))]) hx hb dF_clash_44 hl (k := 2) rfl (by rw [ev8]; rfl) (by decide) rfl (fun ls hl => ?_)
        refine lv_goto (tgt := 18) hx hb dF_clash_47 (by decide) ?_
        exact hk18 v7 v8 I J hm _ _ _ hP hD hS (lv_sub hl [2, 1, 0] rfl)
      · have hm := brp hm c6
        refine lv_iload_n hx hb dF_clash_39 rfl (lv_at hl 2 rfl) ?_
        exact W.iret hx hb hr (fun t ht hW => ⟨⟨x3, (I, J), rfl, Option.some.inj hm, ht ▸ hP, va_K.moved hW.alike hK, hD⟩, hS.F ht⟩) hS.2.2 dF_clash_40 hlk
set_option maxHeartbeats 4000000 in
set_option maxRecDepth 100000 in
theorem w_F_clash_0 {p : Program} {l : Launch} {e : Env} {s : State} {m : MethodId} {args : Array Value} {below : List Frame} {meth : Method} {c : Code} {D : va_G} {A : Nat → Prop} {ad : Nat → Nat} {cI cJ cG : ClassId} {res : Int32 × SI × SJ} (X : Cx p s m args meth c bF_clash (some .int) 4 RF) (hK : va_K D vwCl (tysF cI cJ cG) s) (hN : NWs s) (hA : ∀ q, s.heap.size ≤ q → A q)
    {k18 : Int32 → Int32 → SI → SJ → Option (Int32 × SI × SJ)} (hk18 : ∀ (x2 : Int32) (x3 : Int32) (I : SI) (J : SJ), k18 x2 x3 I J = some res → WB p l e (headSpec (Cond.code yF_clash bF_clash 4 (some .int) :: gtb) rm_F_clash).room s m args below meth c (MQ below (va_Qi (fun (r : Int32) (u : SI × SJ) => (r, u) = res) (atW D vwCl (tysF cI cJ cG) A (wsF ad cI cJ cG)) A) args s 0 0 A) D vwCl A 4 (wsF ad cI cJ cG I J) 18 [(0, .ref (ad 41)), (2, .int x2), (3, .int x3)] [])
     (x1 : Int32) (I : SI) (J : SJ) (hm : b_F_clash_0 k18 x1 I J = some res) : WB p l e (headSpec (Cond.code yF_clash bF_clash 4 (some .int) :: gtb) rm_F_clash).room s m args below meth c (MQ below (va_Qi (fun (r : Int32) (u : SI × SJ) => (r, u) = res) (atW D vwCl (tysF cI cJ cG) A (wsF ad cI cJ cG)) A) args s 0 0 A) D vwCl A 4 (wsF ad cI cJ cG I J) 0 [(0, .ref (ad 41)), (1, .int x1)] [] := by
  obtain ⟨hx, hb, hr, hml, hown, hT, hlk⟩ := X
  intro H locs ls hP hD hS hl
  unfold b_F_clash_0 at hm
  refine lv_aload_n hx hb dF_clash_0 rfl (lv_at hl 0 rfl) ?_
  refine va_get (D := D) (ci := 5) (v := .int (I 41 2)) (C := RF) (T := TF) (N := 12) hx hb hT inF hown hK hP 41 rfl rfl 2 (by decide) (hT _ wd_244) (fun _ h9 => h9) rfl dF_clash_1 ?_
  refine lv_iconst (v := 1) hx hb dF_clash_4 (by decide) ?_
  refine lv_icmp_ne (tgt := 12) hx hb dF_clash_5 (by decide) (fun c1 => ?_) (fun c1 => ?_)
  · have hm := brn hm c1
    refine lv_iconst (v := (-1)) hx hb dF_clash_12 (by decide) ?_
    exact W.iret hx hb hr (fun t ht hW => ⟨⟨-1, (I, J), rfl, Option.some.inj hm, ht ▸ hP, va_K.moved hW.alike hK, hD⟩, hS.F ht⟩) hS.2.2 dF_clash_13 hlk
  · have hm := brp hm c1
    refine lv_iload_n hx hb dF_clash_8 rfl (lv_at hl 1 rfl) ?_
    refine lv_if_ge (tgt := 14) hx hb dF_clash_9 (by decide) (fun c2 => ?_) (fun c2 => ?_)
    · have hm := brp hm c2
      refine lv_iload_n hx hb dF_clash_14 rfl (lv_at hl 1 rfl) ?_
      refine lv_istore_n (lv' := [(2, .int x1), (0, .ref (ad 41)), (1, .int x1)]) hx hb dF_clash_15 rfl hl (by decide) rfl (fun ls hl => ?_)
      refine lv_iconst (v := 0) hx hb dF_clash_16 (by decide) ?_
      refine lv_istore_n (lv' := [(3, .int 0), (2, .int x1), (0, .ref (ad 41)), (1, .int x1)]) hx hb dF_clash_17 rfl hl (by decide) rfl (fun ls hl => ?_)
      exact hk18 x1 0 I J hm _ _ _ hP hD hS (lv_sub hl [2, 1, 0] rfl)
    · have hm := brn hm c2
      refine lv_iconst (v := (-1)) hx hb dF_clash_12 (by decide) ?_
      exact W.iret hx hb hr (fun t ht hW => ⟨⟨-1, (I, J), rfl, Option.some.inj hm, ht ▸ hP, va_K.moved hW.alike hK, hD⟩, hS.F ht⟩) hS.2.2 dF_clash_13 hlk
set_option maxHeartbeats 4000000 in
theorem gw_F_clash {p : Program} {l : Launch} {e : Env} {s : State} {m : MethodId} {args : Array Value} {below : List Frame} {meth : Method} {c : Code} {D : va_G} {A : Nat → Prop} {ad : Nat → Nat} {cI cJ cG : ClassId} {res : Int32 × SI × SJ} (X : Cx p s m args meth c bF_clash (some .int) 4 RF) (hK : va_K D vwCl (tysF cI cJ cG) s) (hN : NWs s) (hA : ∀ q, s.heap.size ≤ q → A q) : ∀ n : Nat, (∀ (x2 : Int32) (x3 : Int32) (I : SI) (J : SJ), (g_F_clash n) x2 x3 I J = some res → WB p l e (headSpec (Cond.code yF_clash bF_clash 4 (some .int) :: gtb) rm_F_clash).room s m args below meth c (MQ below (va_Qi (fun (r : Int32) (u : SI × SJ) => (r, u) = res) (atW D vwCl (tysF cI cJ cG) A (wsF ad cI cJ cG)) A) args s 0 0 A) D vwCl A 4 (wsF ad cI cJ cG I J) 18 [(0, .ref (ad 41)), (2, .int x2), (3, .int x3)] []) := by
  intro n
  induction n with
  | zero => exact fun _ _ _ _ h => (by cases h)
  | succ n ih =>
    have ih18 := ih
    exact fun x2 x3 I J h => w_F_clash_18 X hK hN hA ih18 x2 x3 I J h
set_option maxHeartbeats 4000000 in
set_option maxRecDepth 100000 in
theorem c_F_clash (l : Launch) (D : va_G) (ad : Nat → Nat) (cI cJ cG : ClassId) (sz : Nat) (x1 : Int32) (I : SI) (J : SJ) (res : Int32 × SI × SJ) (hm : m_F_clash x1 I J = some res) : Met l yF_clash (Cond.code yF_clash bF_clash 4 (some .int) :: gtb) rm_F_clash (va_Pc [.ref (ad 41), .int x1] (preW D vwCl (tysF cI cJ cG) (wsF ad cI cJ cG I J) sz)) (va_Qi (fun (r : Int32) (u : SI × SJ) => (r, u) = res) (atW D vwCl (tysF cI cJ cG) (va_A (wsF ad cI cJ cG I J) sz) (wsF ad cI cJ cG)) (va_A (wsF ad cI cJ cG I J) sz)) 0 0 (va_A (wsF ad cI cJ cG I J) sz) := by
  refine Met.ofW (cc := bF_clash) (maxL := 4) (ret := (some .int)) (by decide) rfl ?_
  intro p e s m args below meth c s₁ B hml hv
  obtain ⟨rfl, hsz, hP, hK, hD0, hN⟩ := hv
  subst hsz
  have X : Cx p s m [.ref (ad 41), .int x1].toArray meth c bF_clash (some .int) 4 RF := ⟨B.exec, B.bytes, B.returns, hml, findClass_of_methodNamed B.named, fun w h => atoms_spec (ws := (Cond.code yF_clash bF_clash 4 (some .int) :: gtb)) B.pre w (List.mem_cons_of_mem _ h), B.notSynchronized⟩
  have hl := lv_entry ([.ref (ad 41), .int x1]) (n := 4) (Nat.le_of_ble_eq_true rfl)
  rw [lg_entry_eq]
  generalize (lg_sl ([.ref (ad 41), .int x1]) ++ List.replicate (4 - (lg_sl ([.ref (ad 41), .int x1])).length) Slot.unset).toArray = ls at hl ⊢
  have hl : lv_has ls 4 [(0, .ref (ad 41)), (1, .int x1)] := hl
  have hA : ∀ q, s.heap.size ≤ q → va_A (wsF ad cI cJ cG I J) s.heap.size q := fun q h => Or.inr h
  exact w_F_clash_0 X hK hN hA (gw_F_clash X hK hN hA fuel) x1 I J hm _ _ _ hP hD0.self va_S.rf hl
def b_F_line_0 (x1 : Int32) (I : SI) (J : SJ) : Option (Int32 × SI × SJ) :=
  cl1 (m_F_isWithin x1 0 3) fun r1 =>
  if r1 = 0 then
    some (-1, I, J)
  else
    if (I 41 2) = 0 then
      if (I 41 10) = 0 then
        nm (va_up I 41 (upd (I 41) 10 x1)) fun I6 =>
        nm ((I6 41 11) + 1) fun v7 =>
        nm (va_up I6 41 (upd (I6 41) 11 v7)) fun I8 =>
        some (0, I8, J)
      else
        if (I 41 10) = x1 then
          nm (va_up I 41 (upd (I 41) 10 x1)) fun I10 =>
          nm ((I10 41 11) + 1) fun v11 =>
          nm (va_up I10 41 (upd (I10 41) 11 v11)) fun I12 =>
          some (0, I12, J)
        else
          some (1, I, J)
    else
      some (-1, I, J)
def m_F_line (x1 : Int32) (I : SI) (J : SJ) : Option (Int32 × SI × SJ) := b_F_line_0 x1 I J
def rm_F_line : Room := { frames := 1, cells := 0, slots := 0, locals := 22 }
set_option maxHeartbeats 4000000 in
set_option maxRecDepth 100000 in
theorem w_F_line_0 {p : Program} {l : Launch} {e : Env} {s : State} {m : MethodId} {args : Array Value} {below : List Frame} {meth : Method} {c : Code} {D : va_G} {A : Nat → Prop} {ad : Nat → Nat} {cI cJ cG : ClassId} {res : Int32 × SI × SJ} (X : Cx p s m args meth c bF_line (some .int) 2 RF) (hK : va_K D vwCl (tysF cI cJ cG) s) (hN : NWs s) (hA : ∀ q, s.heap.size ≤ q → A q)
     (x1 : Int32) (I : SI) (J : SJ) (hm : b_F_line_0  x1 I J = some res) : WB p l e (headSpec (Cond.code yF_line bF_line 2 (some .int) :: gtb) rm_F_line).room s m args below meth c (MQ below (va_Qi (fun (r : Int32) (u : SI × SJ) => (r, u) = res) (atW D vwCl (tysF cI cJ cG) A (wsF ad cI cJ cG)) A) args s 0 0 A) D vwCl A 2 (wsF ad cI cJ cG I J) 0 [(0, .ref (ad 41)), (1, .int x1)] [] := by
  obtain ⟨hx, hb, hr, hml, hown, hT, hlk⟩ := X
  intro H locs ls hP hD hS hl
  unfold b_F_line_0 at hm
  refine lv_iload_n hx hb dF_line_0 rfl (lv_at hl 1 rfl) ?_
  refine lv_iconst (v := 0) hx hb dF_line_1 (by decide) ?_
  refine lv_iconst (v := 3) hx hb dF_line_2 (by decide) ?_
  obtain ⟨r1, hc2, hm⟩ := cl1_to hm
  refine pstZ_i hS (va_runS (As := [.int x1, .int 0, .int 3]) (rest := []) ⟨hx, hb, hml, hown, hT⟩ (c_F_isWithin l x1 0 3 _ hc2) (va_cwS 3 hT (gS wd_286 wd_287 wd_51 wd_288) rfl rfl rfl (by decide +kernel) ⟨Nat.le_of_ble_eq_true rfl, Nat.le_of_ble_eq_true rfl⟩) ⟨preZ_fb, preZ_at⟩ rfl rfl hl.1 rfl (lv_room (Nat.le_of_ble_eq_true rfl)) dF_line_3 ⟨Nat.zero_le _, Nat.zero_le _⟩) (fun H1 locs hq hS => ?_)
  have hP := keptP hP hq
  refine lv_if_eq (tgt := 16) hx hb dF_line_6 (by decide) (fun c3 => ?_) (fun c3 => ?_)
  · have hm := brp hm c3
    refine lv_iconst (v := (-1)) hx hb dF_line_16 (by decide) ?_
    exact W.iret hx hb hr (fun t ht hW => ⟨⟨-1, (I, J), rfl, Option.some.inj hm, ht ▸ hP, va_K.moved hW.alike hK, hD⟩, hS.F ht⟩) hS.2.2 dF_line_17 hlk
  · have hm := brn hm c3
    refine lv_aload_n hx hb dF_line_9 rfl (lv_at hl 0 rfl) ?_
    refine va_get (D := D) (ci := 5) (v := .int (I 41 2)) (C := RF) (T := TF) (N := 12) hx hb hT inF hown hK hP 41 rfl rfl 2 (by decide) (hT _ wd_244) (fun _ h9 => h9) rfl dF_line_10 ?_
    refine lv_if_eq (tgt := 18) hx hb dF_line_13 (by decide) (fun c4 => ?_) (fun c4 => ?_)
    · have hm := brp hm c4
      refine lv_aload_n hx hb dF_line_18 rfl (lv_at hl 0 rfl) ?_
      refine va_get (D := D) (ci := 5) (v := .int (I 41 10)) (C := RF) (T := TF) (N := 12) hx hb hT inF hown hK hP 41 rfl rfl 10 (by decide) (hT _ wd_252) (fun _ h9 => h9) rfl dF_line_19 ?_
      refine lv_if_eq (tgt := 35) hx hb dF_line_22 (by decide) (fun c5 => ?_) (fun c5 => ?_)
      · have hm := brp hm c5
        refine lv_aload_n hx hb dF_line_35 rfl (lv_at hl 0 rfl) ?_
        refine lv_iload_n hx hb dF_line_36 rfl (lv_at hl 1 rfl) ?_
        refine va_put (D := D) (ci := 5) (v := .int x1) (ty := .int) (C := RF) (T := TF) (N := 12) hx hb hT inF tyF okF nmF hown hK hP hD hS 41 rfl rfl 10 (by decide) (hT _ wd_252) (fun _ h9 => h9) rfl pf_I rfl rfl (Nat.le_of_ble_eq_true rfl) dF_line_37 (fun H locs hP hD hS => ?_)
        obtain ⟨I6, eI6⟩ : ∃ z : SI, z = va_up I 41 (upd (I 41) 10 x1) := ⟨_, rfl⟩
        have hm := nm_to eI6 hm
        have hP := P_eq (ws2 := wsF ad cI cJ cG I6 J) hP (by rw [eI6]; rfl)
        have hD := D_eq (ws2 := wsF ad cI cJ cG I6 J) hD (by rw [eI6]; rfl)
        refine lv_aload_n hx hb dF_line_40 rfl (lv_at hl 0 rfl) ?_
        refine lv_dup hx hb dF_line_41 rfl ?_
        refine va_get (D := D) (ci := 5) (v := .int (I6 41 11)) (C := RF) (T := TF) (N := 12) hx hb hT inF hown hK hP 41 rfl rfl 11 (by decide) (hT _ wd_253) (fun _ h9 => h9) rfl dF_line_42 ?_
        refine lv_iconst (v := 1) hx hb dF_line_45 (by decide) ?_
        refine lv_iadd hx hb dF_line_46 ?_
        refine lv_topi (fun v7 ev7 => ?_)
        have hm := nm_to ev7 hm
        refine va_put (D := D) (ci := 5) (v := .int v7) (ty := .int) (C := RF) (T := TF) (N := 12) hx hb hT inF tyF okF nmF hown hK hP hD hS 41 rfl rfl 11 (by decide) (hT _ wd_253) (fun _ h9 => h9) rfl pf_I rfl rfl (Nat.le_of_ble_eq_true rfl) dF_line_47 (fun H locs hP hD hS => ?_)
        obtain ⟨I8, eI8⟩ : ∃ z : SI, z = va_up I6 41 (upd (I6 41) 11 v7) := ⟨_, rfl⟩
        have hm := nm_to eI8 hm
        have hP := P_eq (ws2 := wsF ad cI cJ cG I8 J) hP (by rw [eI8]; rfl)
        have hD := D_eq (ws2 := wsF ad cI cJ cG I8 J) hD (by rw [eI8]; rfl)
        refine lv_iconst (v := 0) hx hb dF_line_50 (by decide) ?_
        exact W.iret hx hb hr (fun t ht hW => ⟨⟨0, (I8, J), rfl, Option.some.inj hm, ht ▸ hP, va_K.moved hW.alike hK, hD⟩, hS.F ht⟩) hS.2.2 dF_line_51 hlk
      · have hm := brn hm c5
        refine lv_aload_n hx hb dF_line_25 rfl (lv_at hl 0 rfl) ?_
        refine va_get (D := D) (ci := 5) (v := .int (I 41 10)) (C := RF) (T := TF) (N := 12) hx hb hT inF hown hK hP 41 rfl rfl 10 (by decide) (hT _ wd_252) (fun _ h9 => h9) rfl dF_line_26 ?_
        refine lv_iload_n hx hb dF_line_29 rfl (lv_at hl 1 rfl) ?_
        refine lv_icmp_eq (tgt := 35) hx hb dF_line_30 (by decide) (fun c9 => ?_) (fun c9 => ?_)
        · have hm := brp hm c9
          refine lv_aload_n hx hb dF_line_35 rfl (lv_at hl 0 rfl) ?_
          refine lv_iload_n hx hb dF_line_36 rfl (lv_at hl 1 rfl) ?_
          refine va_put (D := D) (ci := 5) (v := .int x1) (ty := .int) (C := RF) (T := TF) (N := 12) hx hb hT inF tyF okF nmF hown hK hP hD hS 41 rfl rfl 10 (by decide) (hT _ wd_252) (fun _ h9 => h9) rfl pf_I rfl rfl (Nat.le_of_ble_eq_true rfl) dF_line_37 (fun H locs hP hD hS => ?_)
          obtain ⟨I10, eI10⟩ : ∃ z : SI, z = va_up I 41 (upd (I 41) 10 x1) := ⟨_, rfl⟩
          have hm := nm_to eI10 hm
          have hP := P_eq (ws2 := wsF ad cI cJ cG I10 J) hP (by rw [eI10]; rfl)
          have hD := D_eq (ws2 := wsF ad cI cJ cG I10 J) hD (by rw [eI10]; rfl)
          refine lv_aload_n hx hb dF_line_40 rfl (lv_at hl 0 rfl) ?_
          refine lv_dup hx hb dF_line_41 rfl ?_
          refine va_get (D := D) (ci := 5) (v := .int (I10 41 11)) (C := RF) (T := TF) (N := 12) hx hb hT inF hown hK hP 41 rfl rfl 11 (by decide) (hT _ wd_253) (fun _ h9 => h9) rfl dF_line_42 ?_
          refine lv_iconst (v := 1) hx hb dF_line_45 (by decide) ?_
          refine lv_iadd hx hb dF_line_46 ?_
          refine lv_topi (fun v11 ev11 => ?_)
          have hm := nm_to ev11 hm
          refine va_put (D := D) (ci := 5) (v := .int v11) (ty := .int) (C := RF) (T := TF) (N := 12) hx hb hT inF tyF okF nmF hown hK hP hD hS 41 rfl rfl 11 (by decide) (hT _ wd_253) (fun _ h9 => h9) rfl pf_I rfl rfl (Nat.le_of_ble_eq_true rfl) dF_line_47 (fun H locs hP hD hS => ?_)
          obtain ⟨I12, eI12⟩ : ∃ z : SI, z = va_up I10 41 (upd (I10 41) 11 v11) := ⟨_, rfl⟩
          have hm := nm_to eI12 hm
          have hP := P_eq (ws2 := wsF ad cI cJ cG I12 J) hP (by rw [eI12]; rfl)
          have hD := D_eq (ws2 := wsF ad cI cJ cG I12 J) hD (by rw [eI12]; rfl)
          refine lv_iconst (v := 0) hx hb dF_line_50 (by decide) ?_
          exact W.iret hx hb hr (fun t ht hW => ⟨⟨0, (I12, J), rfl, Option.some.inj hm, ht ▸ hP, va_K.moved hW.alike hK, hD⟩, hS.F ht⟩) hS.2.2 dF_line_51 hlk
        · have hm := brn hm c9
          refine lv_iconst (v := 1) hx hb dF_line_33 (by decide) ?_
          exact W.iret hx hb hr (fun t ht hW => ⟨⟨1, (I, J), rfl, Option.some.inj hm, ht ▸ hP, va_K.moved hW.alike hK, hD⟩, hS.F ht⟩) hS.2.2 dF_line_34 hlk
    · have hm := brn hm c4
      refine lv_iconst (v := (-1)) hx hb dF_line_16 (by decide) ?_
      exact W.iret hx hb hr (fun t ht hW => ⟨⟨-1, (I, J), rfl, Option.some.inj hm, ht ▸ hP, va_K.moved hW.alike hK, hD⟩, hS.F ht⟩) hS.2.2 dF_line_17 hlk
set_option maxHeartbeats 4000000 in
set_option maxRecDepth 100000 in
theorem c_F_line (l : Launch) (D : va_G) (ad : Nat → Nat) (cI cJ cG : ClassId) (sz : Nat) (x1 : Int32) (I : SI) (J : SJ) (res : Int32 × SI × SJ) (hm : m_F_line x1 I J = some res) : Met l yF_line (Cond.code yF_line bF_line 2 (some .int) :: gtb) rm_F_line (va_Pc [.ref (ad 41), .int x1] (preW D vwCl (tysF cI cJ cG) (wsF ad cI cJ cG I J) sz)) (va_Qi (fun (r : Int32) (u : SI × SJ) => (r, u) = res) (atW D vwCl (tysF cI cJ cG) (va_A (wsF ad cI cJ cG I J) sz) (wsF ad cI cJ cG)) (va_A (wsF ad cI cJ cG I J) sz)) 0 0 (va_A (wsF ad cI cJ cG I J) sz) := by
  refine Met.ofW (cc := bF_line) (maxL := 2) (ret := (some .int)) (by decide) rfl ?_
  intro p e s m args below meth c s₁ B hml hv
  obtain ⟨rfl, hsz, hP, hK, hD0, hN⟩ := hv
  subst hsz
  have X : Cx p s m [.ref (ad 41), .int x1].toArray meth c bF_line (some .int) 2 RF := ⟨B.exec, B.bytes, B.returns, hml, findClass_of_methodNamed B.named, fun w h => atoms_spec (ws := (Cond.code yF_line bF_line 2 (some .int) :: gtb)) B.pre w (List.mem_cons_of_mem _ h), B.notSynchronized⟩
  have hl := lv_entry ([.ref (ad 41), .int x1]) (n := 2) (Nat.le_of_ble_eq_true rfl)
  rw [lg_entry_eq]
  generalize (lg_sl ([.ref (ad 41), .int x1]) ++ List.replicate (2 - (lg_sl ([.ref (ad 41), .int x1])).length) Slot.unset).toArray = ls at hl ⊢
  have hl : lv_has ls 2 [(0, .ref (ad 41)), (1, .int x1)] := hl
  have hA : ∀ q, s.heap.size ≤ q → va_A (wsF ad cI cJ cG I J) s.heap.size q := fun q h => Or.inr h
  exact w_F_line_0 X hK hN hA  x1 I J hm _ _ _ hP hD0.self va_S.rf hl
def b_F_clean_0 (I : SI) (J : SJ) : Option (Int32 × SI × SJ) :=
  nm (va_up I 41 (upd (I 41) 10 0)) fun I1 =>
  some (I 41 10, I1, J)
def m_F_clean (I : SI) (J : SJ) : Option (Int32 × SI × SJ) := b_F_clean_0  I J
def rm_F_clean : Room := { frames := 0, cells := 0, slots := 0, locals := 0 }
set_option maxHeartbeats 4000000 in
set_option maxRecDepth 100000 in
theorem w_F_clean_0 {p : Program} {l : Launch} {e : Env} {s : State} {m : MethodId} {args : Array Value} {below : List Frame} {meth : Method} {c : Code} {D : va_G} {A : Nat → Prop} {ad : Nat → Nat} {cI cJ cG : ClassId} {res : Int32 × SI × SJ} (X : Cx p s m args meth c bF_clean (some .int) 2 RF) (hK : va_K D vwCl (tysF cI cJ cG) s) (hN : NWs s) (hA : ∀ q, s.heap.size ≤ q → A q)
     (I : SI) (J : SJ) (hm : b_F_clean_0   I J = some res) : WB p l e (headSpec (Cond.code yF_clean bF_clean 2 (some .int) :: gtb) rm_F_clean).room s m args below meth c (MQ below (va_Qi (fun (r : Int32) (u : SI × SJ) => (r, u) = res) (atW D vwCl (tysF cI cJ cG) A (wsF ad cI cJ cG)) A) args s 0 0 A) D vwCl A 2 (wsF ad cI cJ cG I J) 0 [(0, .ref (ad 41))] [] := by
  obtain ⟨hx, hb, hr, hml, hown, hT, hlk⟩ := X
  intro H locs ls hP hD hS hl
  unfold b_F_clean_0 at hm
  refine lv_aload_n hx hb dF_clean_0 rfl (lv_at hl 0 rfl) ?_
  refine va_get (D := D) (ci := 5) (v := .int (I 41 10)) (C := RF) (T := TF) (N := 12) hx hb hT inF hown hK hP 41 rfl rfl 10 (by decide) (hT _ wd_252) (fun _ h9 => h9) rfl dF_clean_1 ?_
  refine lv_istore_n (lv' := [(1, .int (I 41 10)), (0, .ref (ad 41))]) hx hb dF_clean_4 rfl hl (by decide) rfl (fun ls hl => ?_)
  refine lv_aload_n hx hb dF_clean_5 rfl (lv_at hl 1 rfl) ?_
  refine lv_iconst (v := 0) hx hb dF_clean_6 (by decide) ?_
  refine va_put (D := D) (ci := 5) (v := .int 0) (ty := .int) (C := RF) (T := TF) (N := 12) hx hb hT inF tyF okF nmF hown hK hP hD hS 41 rfl rfl 10 (by decide) (hT _ wd_252) (fun _ h9 => h9) rfl pf_I rfl rfl (Nat.le_of_ble_eq_true rfl) dF_clean_7 (fun H locs hP hD hS => ?_)
  obtain ⟨I1, eI1⟩ : ∃ z : SI, z = va_up I 41 (upd (I 41) 10 0) := ⟨_, rfl⟩
  have hm := nm_to eI1 hm
  have hP := P_eq (ws2 := wsF ad cI cJ cG I1 J) hP (by rw [eI1]; rfl)
  have hD := D_eq (ws2 := wsF ad cI cJ cG I1 J) hD (by rw [eI1]; rfl)
  refine lv_iload_n hx hb dF_clean_10 rfl (lv_at hl 0 rfl) ?_
  exact W.iret hx hb hr (fun t ht hW => ⟨⟨I 41 10, (I1, J), rfl, Option.some.inj hm, ht ▸ hP, va_K.moved hW.alike hK, hD⟩, hS.F ht⟩) hS.2.2 dF_clean_11 hlk
set_option maxHeartbeats 4000000 in
set_option maxRecDepth 100000 in
theorem c_F_clean (l : Launch) (D : va_G) (ad : Nat → Nat) (cI cJ cG : ClassId) (sz : Nat) (I : SI) (J : SJ) (res : Int32 × SI × SJ) (hm : m_F_clean  I J = some res) : Met l yF_clean (Cond.code yF_clean bF_clean 2 (some .int) :: gtb) rm_F_clean (va_Pc [.ref (ad 41)] (preW D vwCl (tysF cI cJ cG) (wsF ad cI cJ cG I J) sz)) (va_Qi (fun (r : Int32) (u : SI × SJ) => (r, u) = res) (atW D vwCl (tysF cI cJ cG) (va_A (wsF ad cI cJ cG I J) sz) (wsF ad cI cJ cG)) (va_A (wsF ad cI cJ cG I J) sz)) 0 0 (va_A (wsF ad cI cJ cG I J) sz) := by
  refine Met.ofW (cc := bF_clean) (maxL := 2) (ret := (some .int)) (by decide) rfl ?_
  intro p e s m args below meth c s₁ B hml hv
  obtain ⟨rfl, hsz, hP, hK, hD0, hN⟩ := hv
  subst hsz
  have X : Cx p s m [.ref (ad 41)].toArray meth c bF_clean (some .int) 2 RF := ⟨B.exec, B.bytes, B.returns, hml, findClass_of_methodNamed B.named, fun w h => atoms_spec (ws := (Cond.code yF_clean bF_clean 2 (some .int) :: gtb)) B.pre w (List.mem_cons_of_mem _ h), B.notSynchronized⟩
  have hl := lv_entry ([.ref (ad 41)]) (n := 2) (Nat.le_of_ble_eq_true rfl)
  rw [lg_entry_eq]
  generalize (lg_sl ([.ref (ad 41)]) ++ List.replicate (2 - (lg_sl ([.ref (ad 41)])).length) Slot.unset).toArray = ls at hl ⊢
  have hl : lv_has ls 2 [(0, .ref (ad 41))] := hl
  have hA : ∀ q, s.heap.size ≤ q → va_A (wsF ad cI cJ cG I J) s.heap.size q := fun q h => Or.inr h
  exact w_F_clean_0 X hK hN hA   I J hm _ _ _ hP hD0.self va_S.rf hl
def b_F_made_0 (I : SI) (J : SJ) : Option (Int32 × SI × SJ) :=
  some (I 41 11, I, J)
def m_F_made (I : SI) (J : SJ) : Option (Int32 × SI × SJ) := b_F_made_0  I J
def rm_F_made : Room := { frames := 0, cells := 0, slots := 0, locals := 0 }
set_option maxHeartbeats 4000000 in
set_option maxRecDepth 100000 in
theorem w_F_made_0 {p : Program} {l : Launch} {e : Env} {s : State} {m : MethodId} {args : Array Value} {below : List Frame} {meth : Method} {c : Code} {D : va_G} {A : Nat → Prop} {ad : Nat → Nat} {cI cJ cG : ClassId} {res : Int32 × SI × SJ} (X : Cx p s m args meth c bF_made (some .int) 1 RF) (hK : va_K D vwCl (tysF cI cJ cG) s) (hN : NWs s) (hA : ∀ q, s.heap.size ≤ q → A q)
     (I : SI) (J : SJ) (hm : b_F_made_0   I J = some res) : WB p l e (headSpec (Cond.code yF_made bF_made 1 (some .int) :: gtb) rm_F_made).room s m args below meth c (MQ below (va_Qi (fun (r : Int32) (u : SI × SJ) => (r, u) = res) (atW D vwCl (tysF cI cJ cG) A (wsF ad cI cJ cG)) A) args s 0 0 A) D vwCl A 1 (wsF ad cI cJ cG I J) 0 [(0, .ref (ad 41))] [] := by
  obtain ⟨hx, hb, hr, hml, hown, hT, hlk⟩ := X
  intro H locs ls hP hD hS hl
  unfold b_F_made_0 at hm
  refine lv_aload_n hx hb dF_made_0 rfl (lv_at hl 0 rfl) ?_
  refine va_get (D := D) (ci := 5) (v := .int (I 41 11)) (C := RF) (T := TF) (N := 12) hx hb hT inF hown hK hP 41 rfl rfl 11 (by decide) (hT _ wd_253) (fun _ h9 => h9) rfl dF_made_1 ?_
  exact W.iret hx hb hr (fun t ht hW => ⟨⟨I 41 11, (I, J), rfl, Option.some.inj hm, ht ▸ hP, va_K.moved hW.alike hK, hD⟩, hS.F ht⟩) hS.2.2 dF_made_4 hlk
set_option maxHeartbeats 4000000 in
set_option maxRecDepth 100000 in
theorem c_F_made (l : Launch) (D : va_G) (ad : Nat → Nat) (cI cJ cG : ClassId) (sz : Nat) (I : SI) (J : SJ) (res : Int32 × SI × SJ) (hm : m_F_made  I J = some res) : Met l yF_made (Cond.code yF_made bF_made 1 (some .int) :: gtb) rm_F_made (va_Pc [.ref (ad 41)] (preW D vwCl (tysF cI cJ cG) (wsF ad cI cJ cG I J) sz)) (va_Qi (fun (r : Int32) (u : SI × SJ) => (r, u) = res) (atW D vwCl (tysF cI cJ cG) (va_A (wsF ad cI cJ cG I J) sz) (wsF ad cI cJ cG)) (va_A (wsF ad cI cJ cG I J) sz)) 0 0 (va_A (wsF ad cI cJ cG I J) sz) := by
  refine Met.ofW (cc := bF_made) (maxL := 1) (ret := (some .int)) (by decide) rfl ?_
  intro p e s m args below meth c s₁ B hml hv
  obtain ⟨rfl, hsz, hP, hK, hD0, hN⟩ := hv
  subst hsz
  have X : Cx p s m [.ref (ad 41)].toArray meth c bF_made (some .int) 1 RF := ⟨B.exec, B.bytes, B.returns, hml, findClass_of_methodNamed B.named, fun w h => atoms_spec (ws := (Cond.code yF_made bF_made 1 (some .int) :: gtb)) B.pre w (List.mem_cons_of_mem _ h), B.notSynchronized⟩
  have hl := lv_entry ([.ref (ad 41)]) (n := 1) (Nat.le_of_ble_eq_true rfl)
  rw [lg_entry_eq]
  generalize (lg_sl ([.ref (ad 41)]) ++ List.replicate (1 - (lg_sl ([.ref (ad 41)])).length) Slot.unset).toArray = ls at hl ⊢
  have hl : lv_has ls 1 [(0, .ref (ad 41))] := hl
  have hA : ∀ q, s.heap.size ≤ q → va_A (wsF ad cI cJ cG I J) s.heap.size q := fun q h => Or.inr h
  exact w_F_made_0 X hK hN hA   I J hm _ _ _ hP hD0.self va_S.rf hl
