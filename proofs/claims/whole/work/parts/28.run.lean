def b_F_run_0 (x1 : Int32) (I : SI) (J : SJ) : Option (Int32 × SI × SJ) :=
  cl1 (m_F_isWithin x1 1 40) fun r1 =>
  if r1 = 0 then
    some (-1, I, J)
  else
    if (I 0 0) = 0 then
      some (-1, I, J)
    else
      nm (va_up I 41 (upd (I 41) 3 x1)) fun I5 =>
      nm (va_up I5 41 (upd (I5 41) 4 (I5 0 0))) fun I6 =>
      nm (va_up I6 41 (upd (I6 41) 5 0)) fun I7 =>
      nm (va_up I7 41 (upd (I7 41) 6 0)) fun I8 =>
      cl3 (m_E_findBest x1 (sI 35 I8) (sJ 35 J)) fun r9 I10 J11 =>
      nm (mrg 35 I8 I10) fun I13 =>
      nm (mrg 35 J J11) fun J14 =>
      if r9 = 0 then
        cl3 (m_E_canKeepBounds x1 (sI 35 I13) (sJ 35 J14)) fun r16 I17 J18 =>
        nm (mrg 35 I13 I17) fun I20 =>
        nm (mrg 35 J14 J18) fun J21 =>
        if r16 = 0 then
          nm (va_up I20 41 (upd (I20 41) 2 1)) fun I23 =>
          cl3 (m_E_clashingBounds x1 (sI 35 I23) (sJ 35 J21)) fun r24 I25 J26 =>
          nm (mrg 35 I23 I25) fun I28 =>
          nm (mrg 35 J21 J26) fun J29 =>
          nm (va_up I28 41 (upd (I28 41) 6 r24)) fun I30 =>
          some (I30 41 2, I30, J29)
        else
          nm (va_up I20 41 (upd (I20 41) 2 2)) fun I31 =>
          some (I31 41 2, I31, J21)
      else
        nm (va_up I13 41 (upd (I13 41) 2 0)) fun I32 =>
        cl3 (m_E_tightBounds (sI 35 I32) (sJ 35 J14)) fun r33 I34 J35 =>
        nm (mrg 35 I32 I34) fun I37 =>
        nm (mrg 35 J14 J35) fun J38 =>
        nm (va_up I37 41 (upd (I37 41) 5 r33)) fun I39 =>
        some (I39 41 2, I39, J38)
def m_F_run (x1 : Int32) (I : SI) (J : SJ) : Option (Int32 × SI × SJ) := b_F_run_0 x1 I J
def rm_F_run : Room := { frames := 13, cells := 0, slots := 0, locals := 346 }
set_option maxHeartbeats 4000000 in
set_option maxRecDepth 100000 in
theorem w_F_run_0 {p : Program} {l : Launch} {e : Env} {s : State} {m : MethodId} {args : Array Value} {below : List Frame} {meth : Method} {c : Code} {D : va_G} {A : Nat → Prop} {ad : Nat → Nat} {cI cJ cG : ClassId} {res : Int32 × SI × SJ} (X : Cx p s m args meth c bF_run (some .int) 2 RF) (hK : va_K D vwCl (tysF cI cJ cG) s) (hN : NWs s) (hA : ∀ q, s.heap.size ≤ q → A q)
     (x1 : Int32) (I : SI) (J : SJ) (hm : b_F_run_0  x1 I J = some res) : WB p l e (headSpec (Cond.code yF_run bF_run 2 (some .int) :: gtb) rm_F_run).room s m args below meth c (MQ below (va_Qi (fun (r : Int32) (u : SI × SJ) => (r, u) = res) (atW D vwCl (tysF cI cJ cG) A (wsF ad cI cJ cG)) A) args s 0 0 A) D vwCl A 2 (wsF ad cI cJ cG I J) 0 [(0, .ref (ad 41)), (1, .int x1)] [] := by
  obtain ⟨hx, hb, hr, hml, hown, hT, hlk⟩ := X
  intro H locs ls hP hD hS hl
  unfold b_F_run_0 at hm
  refine lv_iload_n hx hb dF_run_0 rfl (lv_at hl 1 rfl) ?_
  refine lv_iconst (v := 1) hx hb dF_run_1 (by decide) ?_
  refine lv_bipush (v := 40) hx hb dF_run_2 (by decide) ?_
  obtain ⟨r1, hc2, hm⟩ := cl1_to hm
  refine pstZ_i hS (va_runS (As := [.int x1, .int 1, .int 40]) (rest := []) ⟨hx, hb, hml, hown, hT⟩ (c_F_isWithin l x1 1 40 _ hc2) (va_cwS 3 hT (gS wd_286 wd_287 wd_51 wd_288) rfl rfl rfl (by decide +kernel) ⟨Nat.le_of_ble_eq_true rfl, Nat.le_of_ble_eq_true rfl⟩) ⟨preZ_fb, preZ_at⟩ rfl rfl hl.1 rfl (lv_room (Nat.le_of_ble_eq_true rfl)) dF_run_4 ⟨Nat.zero_le _, Nat.zero_le _⟩) (fun H1 locs hq hS => ?_)
  have hP := keptP hP hq
  refine lv_if_eq (tgt := 20) hx hb dF_run_7 (by decide) (fun c3 => ?_) (fun c3 => ?_)
  · have hm := brp hm c3
    refine lv_iconst (v := (-1)) hx hb dF_run_20 (by decide) ?_
    exact W.iret hx hb hr (fun t ht hW => ⟨⟨-1, (I, J), rfl, Option.some.inj hm, ht ▸ hP, va_K.moved hW.alike hK, hD⟩, hS.F ht⟩) hS.2.2 dF_run_21 hlk
  · have hm := brn hm c3
    refine lv_aload_n hx hb dF_run_10 rfl (lv_at hl 0 rfl) ?_
    refine va_get (D := D) (ci := 5) (v := .ref (ad 0)) (C := RF) (T := TF) (N := 12) hx hb hT inF hown hK hP 41 rfl rfl 0 (by decide) (hT _ wd_242) (fun _ h9 => h9) rfl dF_run_11 ?_
    refine va_getN (D := D) (ci := 4) (v := .int (I 0 0)) (C := RT) (T := TT) (N := 9) hx hb hT inT hown hK hP 0 rfl rfl 0 (by decide) (va_Nw.use rfl (hN _ nw_77)) (fun _ h9 => h9) rfl dF_run_14 ?_
    refine lv_if_ne (tgt := 22) hx hb dF_run_17 (by decide) (fun c4 => ?_) (fun c4 => ?_)
    · have hm := brn hm c4
      refine lv_aload_n hx hb dF_run_22 rfl (lv_at hl 0 rfl) ?_
      refine lv_iload_n hx hb dF_run_23 rfl (lv_at hl 1 rfl) ?_
      refine va_put (D := D) (ci := 5) (v := .int x1) (ty := .int) (C := RF) (T := TF) (N := 12) hx hb hT inF tyF okF nmF hown hK hP hD hS 41 rfl rfl 3 (by decide) (hT _ wd_245) (fun _ h9 => h9) rfl pf_I rfl rfl (Nat.le_of_ble_eq_true rfl) dF_run_24 (fun H locs hP hD hS => ?_)
      obtain ⟨I5, eI5⟩ : ∃ z : SI, z = va_up I 41 (upd (I 41) 3 x1) := ⟨_, rfl⟩
      have hm := nm_to eI5 hm
      have hP := P_eq (ws2 := wsF ad cI cJ cG I5 J) hP (by rw [eI5]; rfl)
      have hD := D_eq (ws2 := wsF ad cI cJ cG I5 J) hD (by rw [eI5]; rfl)
      refine lv_aload_n hx hb dF_run_27 rfl (lv_at hl 0 rfl) ?_
      refine lv_aload_n hx hb dF_run_28 rfl (lv_at hl 0 rfl) ?_
      refine va_get (D := D) (ci := 5) (v := .ref (ad 0)) (C := RF) (T := TF) (N := 12) hx hb hT inF hown hK hP 41 rfl rfl 0 (by decide) (hT _ wd_242) (fun _ h9 => h9) rfl dF_run_29 ?_
      refine va_getN (D := D) (ci := 4) (v := .int (I5 0 0)) (C := RT) (T := TT) (N := 9) hx hb hT inT hown hK hP 0 rfl rfl 0 (by decide) (va_Nw.use rfl (hN _ nw_77)) (fun _ h9 => h9) rfl dF_run_32 ?_
      refine va_put (D := D) (ci := 5) (v := .int (I5 0 0)) (ty := .int) (C := RF) (T := TF) (N := 12) hx hb hT inF tyF okF nmF hown hK hP hD hS 41 rfl rfl 4 (by decide) (hT _ wd_246) (fun _ h9 => h9) rfl pf_I rfl rfl (Nat.le_of_ble_eq_true rfl) dF_run_35 (fun H locs hP hD hS => ?_)
      obtain ⟨I6, eI6⟩ : ∃ z : SI, z = va_up I5 41 (upd (I5 41) 4 (I5 0 0)) := ⟨_, rfl⟩
      have hm := nm_to eI6 hm
      have hP := P_eq (ws2 := wsF ad cI cJ cG I6 J) hP (by rw [eI6]; rfl)
      have hD := D_eq (ws2 := wsF ad cI cJ cG I6 J) hD (by rw [eI6]; rfl)
      refine lv_aload_n hx hb dF_run_38 rfl (lv_at hl 0 rfl) ?_
      refine lv_iconst (v := 0) hx hb dF_run_39 (by decide) ?_
      refine va_put (D := D) (ci := 5) (v := .int 0) (ty := .int) (C := RF) (T := TF) (N := 12) hx hb hT inF tyF okF nmF hown hK hP hD hS 41 rfl rfl 5 (by decide) (hT _ wd_247) (fun _ h9 => h9) rfl pf_I rfl rfl (Nat.le_of_ble_eq_true rfl) dF_run_40 (fun H locs hP hD hS => ?_)
      obtain ⟨I7, eI7⟩ : ∃ z : SI, z = va_up I6 41 (upd (I6 41) 5 0) := ⟨_, rfl⟩
      have hm := nm_to eI7 hm
      have hP := P_eq (ws2 := wsF ad cI cJ cG I7 J) hP (by rw [eI7]; rfl)
      have hD := D_eq (ws2 := wsF ad cI cJ cG I7 J) hD (by rw [eI7]; rfl)
      refine lv_aload_n hx hb dF_run_43 rfl (lv_at hl 0 rfl) ?_
      refine lv_iconst (v := 0) hx hb dF_run_44 (by decide) ?_
      refine va_put (D := D) (ci := 5) (v := .int 0) (ty := .int) (C := RF) (T := TF) (N := 12) hx hb hT inF tyF okF nmF hown hK hP hD hS 41 rfl rfl 6 (by decide) (hT _ wd_248) (fun _ h9 => h9) rfl pf_I rfl rfl (Nat.le_of_ble_eq_true rfl) dF_run_45 (fun H locs hP hD hS => ?_)
      obtain ⟨I8, eI8⟩ : ∃ z : SI, z = va_up I7 41 (upd (I7 41) 6 0) := ⟨_, rfl⟩
      have hm := nm_to eI8 hm
      have hP := P_eq (ws2 := wsF ad cI cJ cG I8 J) hP (by rw [eI8]; rfl)
      have hD := D_eq (ws2 := wsF ad cI cJ cG I8 J) hD (by rw [eI8]; rfl)
      refine lv_aload_n hx hb dF_run_48 rfl (lv_at hl 0 rfl) ?_
      refine va_get (D := D) (ci := 5) (v := .ref (ad 34)) (C := RF) (T := TF) (N := 12) hx hb hT inF hown hK hP 41 rfl rfl 1 (by decide) (hT _ wd_243) (fun _ h9 => h9) rfl dF_run_49 ?_
      refine lv_iload_n hx hb dF_run_52 rfl (lv_at hl 1 rfl) ?_
      refine lv_aload_n hx hb dF_run_53 rfl (lv_at hl 0 rfl) ?_
      refine va_get (D := D) (ci := 5) (v := .ref (ad 35)) (C := RF) (T := TF) (N := 12) hx hb hT inF hown hK hP 41 rfl rfl 7 (by decide) (hT _ wd_249) (fun _ h9 => h9) rfl dF_run_54 ?_
      obtain ⟨r9, I10, J11, hc12, hm⟩ := cl3_to hm
      have hPc := hP.sub (ws' := (wsM (fun k => ad (rho 35 k)) cI cJ cG (sI 35 I8) (sJ 35 J))) [0, 1, 2, 3, 4, 5, 6, 7, 8, 9, 10, 11, 12, 13, 14, 15, 16, 17, 18, 19, 20, 21, 22, 23, 24, 25, 26, 27, 28, 29, 30, 31, 32, 33, 34, 35, 36] rfl
      have hDc := hD.sub (ws' := (wsM (fun k => ad (rho 35 k)) cI cJ cG (sI 35 I8) (sJ 35 J))) [0, 1, 2, 3, 4, 5, 6, 7, 8, 9, 10, 11, 12, 13, 14, 15, 16, 17, 18, 19, 20, 21, 22, 23, 24, 25, 26, 27, 28, 29, 30, 31, 32, 33, 34, 35, 36] (by decide) rfl
      refine pstX_i (wf := wsM (fun k => ad (rho 35 k)) cI cJ cG) (wc := (wsM (fun k => ad (rho 35 k)) cI cJ cG (sI 35 I8) (sJ 35 J))) (wr := [(ad 37, .inr (2, [.ref (ad 38), .long (J 37 1), .long (J 37 2)])), (ad 38, .inl (cJ, 4, .inr (.inl (J 38)))), (ad 39, .inr (2, [.ref (ad 40), .long (J 39 1), .long (J 39 2)])), (ad 40, .inl (cJ, 4, .inr (.inl (J 40)))), (ad 41, .inr (5, [.ref (ad 0), .ref (ad 34), .int (I8 41 2), .int (I8 41 3), .int (I8 41 4), .int (I8 41 5), .int (I8 41 6), .ref (ad 35), .ref (ad 37), .ref (ad 39), .int (I8 41 10), .int (I8 41 11)]))]) hP hD hS hA [0, 1, 2, 3, 4, 5, 6, 7, 8, 9, 10, 11, 12, 13, 14, 15, 16, 17, 18, 19, 20, 21, 22, 23, 24, 25, 26, 27, 28, 29, 30, 31, 32, 33, 34, 35, 36] [37, 38, 39, 40, 41] rfl rfl (by decide) (by decide) (va_runVN (As := [.int x1, .ref (ad 35)]) (rest := []) ⟨hx, hb, hml, hown, hT⟩ (c_E_findBest l D (fun k => ad (rho 35 k)) cI cJ cG _ x1 (sI 35 I8) (sJ 35 J) _ hc12) ⟨va_cnB 2 hT (gtb_good wd_333) rfl rfl rfl (hN _ nw_330) (hT _ wd_53) (by decide +kernel) ⟨Nat.le_of_ble_eq_true rfl, Nat.le_of_ble_eq_true rfl⟩, hT _ wd_332, hT _ wd_1⟩ ⟨preW_fb, va_recv hK hPc (ci := 3) (q0 := 34) rfl rfl, preW_at hPc hK hN hDc⟩ rfl rfl hl.1 rfl (lv_room (Nat.le_of_ble_eq_true rfl)) dF_run_57 ⟨Nat.zero_le _, Nat.zero_le _⟩) (fun H locs hP hD hS => ?_)
      obtain ⟨I13, eI13⟩ : ∃ z : SI, z = mrg 35 I8 I10 := ⟨_, rfl⟩
      have hm := nm_to eI13 hm
      obtain ⟨J14, eJ14⟩ : ∃ z : SJ, z = mrg 35 J J11 := ⟨_, rfl⟩
      have hm := nm_to eJ14 hm
      have hP := hP.sub (ws' := (wsF ad cI cJ cG I13 J14)) [5, 6, 7, 8, 9, 10, 11, 12, 13, 14, 15, 16, 17, 18, 19, 20, 21, 22, 23, 24, 25, 26, 27, 28, 29, 30, 31, 32, 33, 34, 35, 36, 37, 38, 39, 40, 41, 0, 1, 2, 3, 4] (by rw [eI13, eJ14]; rfl)
      have hD := hD.sub (ws' := (wsF ad cI cJ cG I13 J14)) [5, 6, 7, 8, 9, 10, 11, 12, 13, 14, 15, 16, 17, 18, 19, 20, 21, 22, 23, 24, 25, 26, 27, 28, 29, 30, 31, 32, 33, 34, 35, 36, 37, 38, 39, 40, 41, 0, 1, 2, 3, 4] (by decide) (by rw [eI13, eJ14]; rfl)
      refine lv_if_eq (tgt := 86) hx hb dF_run_60 (by decide) (fun c15 => ?_) (fun c15 => ?_)
      · have hm := brp hm c15
        refine lv_aload_n hx hb dF_run_86 rfl (lv_at hl 0 rfl) ?_
        refine va_get (D := D) (ci := 5) (v := .ref (ad 34)) (C := RF) (T := TF) (N := 12) hx hb hT inF hown hK hP 41 rfl rfl 1 (by decide) (hT _ wd_243) (fun _ h9 => h9) rfl dF_run_87 ?_
        refine lv_iload_n hx hb dF_run_90 rfl (lv_at hl 1 rfl) ?_
        obtain ⟨r16, I17, J18, hc19, hm⟩ := cl3_to hm
        have hPc := hP.sub (ws' := (wsM (fun k => ad (rho 35 k)) cI cJ cG (sI 35 I13) (sJ 35 J14))) [0, 1, 2, 3, 4, 5, 6, 7, 8, 9, 10, 11, 12, 13, 14, 15, 16, 17, 18, 19, 20, 21, 22, 23, 24, 25, 26, 27, 28, 29, 30, 31, 32, 33, 34, 35, 36] rfl
        have hDc := hD.sub (ws' := (wsM (fun k => ad (rho 35 k)) cI cJ cG (sI 35 I13) (sJ 35 J14))) [0, 1, 2, 3, 4, 5, 6, 7, 8, 9, 10, 11, 12, 13, 14, 15, 16, 17, 18, 19, 20, 21, 22, 23, 24, 25, 26, 27, 28, 29, 30, 31, 32, 33, 34, 35, 36] (by decide) rfl
        refine pstX_i (wf := wsM (fun k => ad (rho 35 k)) cI cJ cG) (wc := (wsM (fun k => ad (rho 35 k)) cI cJ cG (sI 35 I13) (sJ 35 J14))) (wr := [(ad 37, .inr (2, [.ref (ad 38), .long (J14 37 1), .long (J14 37 2)])), (ad 38, .inl (cJ, 4, .inr (.inl (J14 38)))), (ad 39, .inr (2, [.ref (ad 40), .long (J14 39 1), .long (J14 39 2)])), (ad 40, .inl (cJ, 4, .inr (.inl (J14 40)))), (ad 41, .inr (5, [.ref (ad 0), .ref (ad 34), .int (I13 41 2), .int (I13 41 3), .int (I13 41 4), .int (I13 41 5), .int (I13 41 6), .ref (ad 35), .ref (ad 37), .ref (ad 39), .int (I13 41 10), .int (I13 41 11)]))]) hP hD hS hA [0, 1, 2, 3, 4, 5, 6, 7, 8, 9, 10, 11, 12, 13, 14, 15, 16, 17, 18, 19, 20, 21, 22, 23, 24, 25, 26, 27, 28, 29, 30, 31, 32, 33, 34, 35, 36] [37, 38, 39, 40, 41] rfl rfl (by decide) (by decide) (va_runVN (As := [.int x1]) (rest := []) ⟨hx, hb, hml, hown, hT⟩ (c_E_canKeepBounds l D (fun k => ad (rho 35 k)) cI cJ cG _ x1 (sI 35 I13) (sJ 35 J14) _ hc19) ⟨va_cnB 1 hT (gtb_good wd_474) rfl rfl rfl (hN _ nw_471) (hT _ wd_53) (by decide +kernel) ⟨Nat.le_of_ble_eq_true rfl, Nat.le_of_ble_eq_true rfl⟩, hT _ wd_473, hT _ wd_29⟩ ⟨preW_fb, va_recv hK hPc (ci := 3) (q0 := 34) rfl rfl, preW_at hPc hK hN hDc⟩ rfl rfl hl.1 rfl (lv_room (Nat.le_of_ble_eq_true rfl)) dF_run_91 ⟨Nat.zero_le _, Nat.zero_le _⟩) (fun H locs hP hD hS => ?_)
        obtain ⟨I20, eI20⟩ : ∃ z : SI, z = mrg 35 I13 I17 := ⟨_, rfl⟩
        have hm := nm_to eI20 hm
        obtain ⟨J21, eJ21⟩ : ∃ z : SJ, z = mrg 35 J14 J18 := ⟨_, rfl⟩
        have hm := nm_to eJ21 hm
        have hP := hP.sub (ws' := (wsF ad cI cJ cG I20 J21)) [5, 6, 7, 8, 9, 10, 11, 12, 13, 14, 15, 16, 17, 18, 19, 20, 21, 22, 23, 24, 25, 26, 27, 28, 29, 30, 31, 32, 33, 34, 35, 36, 37, 38, 39, 40, 41, 0, 1, 2, 3, 4] (by rw [eI20, eJ21]; rfl)
        have hD := hD.sub (ws' := (wsF ad cI cJ cG I20 J21)) [5, 6, 7, 8, 9, 10, 11, 12, 13, 14, 15, 16, 17, 18, 19, 20, 21, 22, 23, 24, 25, 26, 27, 28, 29, 30, 31, 32, 33, 34, 35, 36, 37, 38, 39, 40, 41, 0, 1, 2, 3, 4] (by decide) (by rw [eI20, eJ21]; rfl)
        refine lv_if_eq (tgt := 105) hx hb dF_run_94 (by decide) (fun c22 => ?_) (fun c22 => ?_)
        · have hm := brp hm c22
          refine lv_aload_n hx hb dF_run_105 rfl (lv_at hl 0 rfl) ?_
          refine lv_iconst (v := 1) hx hb dF_run_106 (by decide) ?_
          refine va_put (D := D) (ci := 5) (v := .int 1) (ty := .int) (C := RF) (T := TF) (N := 12) hx hb hT inF tyF okF nmF hown hK hP hD hS 41 rfl rfl 2 (by decide) (hT _ wd_244) (fun _ h9 => h9) rfl pf_I rfl rfl (Nat.le_of_ble_eq_true rfl) dF_run_107 (fun H locs hP hD hS => ?_)
          obtain ⟨I23, eI23⟩ : ∃ z : SI, z = va_up I20 41 (upd (I20 41) 2 1) := ⟨_, rfl⟩
          have hm := nm_to eI23 hm
          have hP := P_eq (ws2 := wsF ad cI cJ cG I23 J21) hP (by rw [eI23]; rfl)
          have hD := D_eq (ws2 := wsF ad cI cJ cG I23 J21) hD (by rw [eI23]; rfl)
          refine lv_aload_n hx hb dF_run_110 rfl (lv_at hl 0 rfl) ?_
          refine lv_aload_n hx hb dF_run_111 rfl (lv_at hl 0 rfl) ?_
          refine va_get (D := D) (ci := 5) (v := .ref (ad 34)) (C := RF) (T := TF) (N := 12) hx hb hT inF hown hK hP 41 rfl rfl 1 (by decide) (hT _ wd_243) (fun _ h9 => h9) rfl dF_run_112 ?_
          refine lv_iload_n hx hb dF_run_115 rfl (lv_at hl 1 rfl) ?_
          obtain ⟨r24, I25, J26, hc27, hm⟩ := cl3_to hm
          have hPc := hP.sub (ws' := (wsM (fun k => ad (rho 35 k)) cI cJ cG (sI 35 I23) (sJ 35 J21))) [0, 1, 2, 3, 4, 5, 6, 7, 8, 9, 10, 11, 12, 13, 14, 15, 16, 17, 18, 19, 20, 21, 22, 23, 24, 25, 26, 27, 28, 29, 30, 31, 32, 33, 34, 35, 36] rfl
          have hDc := hD.sub (ws' := (wsM (fun k => ad (rho 35 k)) cI cJ cG (sI 35 I23) (sJ 35 J21))) [0, 1, 2, 3, 4, 5, 6, 7, 8, 9, 10, 11, 12, 13, 14, 15, 16, 17, 18, 19, 20, 21, 22, 23, 24, 25, 26, 27, 28, 29, 30, 31, 32, 33, 34, 35, 36] (by decide) rfl
          refine pstX_i (wf := wsM (fun k => ad (rho 35 k)) cI cJ cG) (wc := (wsM (fun k => ad (rho 35 k)) cI cJ cG (sI 35 I23) (sJ 35 J21))) (wr := [(ad 37, .inr (2, [.ref (ad 38), .long (J21 37 1), .long (J21 37 2)])), (ad 38, .inl (cJ, 4, .inr (.inl (J21 38)))), (ad 39, .inr (2, [.ref (ad 40), .long (J21 39 1), .long (J21 39 2)])), (ad 40, .inl (cJ, 4, .inr (.inl (J21 40)))), (ad 41, .inr (5, [.ref (ad 0), .ref (ad 34), .int (I23 41 2), .int (I23 41 3), .int (I23 41 4), .int (I23 41 5), .int (I23 41 6), .ref (ad 35), .ref (ad 37), .ref (ad 39), .int (I23 41 10), .int (I23 41 11)]))]) hP hD hS hA [0, 1, 2, 3, 4, 5, 6, 7, 8, 9, 10, 11, 12, 13, 14, 15, 16, 17, 18, 19, 20, 21, 22, 23, 24, 25, 26, 27, 28, 29, 30, 31, 32, 33, 34, 35, 36] [37, 38, 39, 40, 41] rfl rfl (by decide) (by decide) (va_runVN (As := [.int x1]) (rest := [.ref (ad 41)]) ⟨hx, hb, hml, hown, hT⟩ (c_E_clashingBounds l D (fun k => ad (rho 35 k)) cI cJ cG _ x1 (sI 35 I23) (sJ 35 J21) _ hc27) ⟨va_cnB 1 hT (gtb_good wd_478) rfl rfl rfl (hN _ nw_475) (hT _ wd_53) (by decide +kernel) ⟨Nat.le_of_ble_eq_true rfl, Nat.le_of_ble_eq_true rfl⟩, hT _ wd_477, hT _ wd_30⟩ ⟨preW_fb, va_recv hK hPc (ci := 3) (q0 := 34) rfl rfl, preW_at hPc hK hN hDc⟩ rfl rfl hl.1 rfl (lv_room (Nat.le_of_ble_eq_true rfl)) dF_run_116 ⟨Nat.zero_le _, Nat.zero_le _⟩) (fun H locs hP hD hS => ?_)
          obtain ⟨I28, eI28⟩ : ∃ z : SI, z = mrg 35 I23 I25 := ⟨_, rfl⟩
          have hm := nm_to eI28 hm
          obtain ⟨J29, eJ29⟩ : ∃ z : SJ, z = mrg 35 J21 J26 := ⟨_, rfl⟩
          have hm := nm_to eJ29 hm
          have hP := hP.sub (ws' := (wsF ad cI cJ cG I28 J29)) [5, 6, 7, 8, 9, 10, 11, 12, 13, 14, 15, 16, 17, 18, 19, 20, 21, 22, 23, 24, 25, 26, 27, 28, 29, 30, 31, 32, 33, 34, 35, 36, 37, 38, 39, 40, 41, 0, 1, 2, 3, 4] (by rw [eI28, eJ29]; rfl)
          have hD := hD.sub (ws' := (wsF ad cI cJ cG I28 J29)) [5, 6, 7, 8, 9, 10, 11, 12, 13, 14, 15, 16, 17, 18, 19, 20, 21, 22, 23, 24, 25, 26, 27, 28, 29, 30, 31, 32, 33, 34, 35, 36, 37, 38, 39, 40, 41, 0, 1, 2, 3, 4] (by decide) (by rw [eI28, eJ29]; rfl)
          refine va_put (D := D) (ci := 5) (v := .int r24) (ty := .int) (C := RF) (T := TF) (N := 12) hx hb hT inF tyF okF nmF hown hK hP hD hS 41 rfl rfl 6 (by decide) (hT _ wd_248) (fun _ h9 => h9) rfl pf_I rfl rfl (Nat.le_of_ble_eq_true rfl) dF_run_119 (fun H locs hP hD hS => ?_)
          obtain ⟨I30, eI30⟩ : ∃ z : SI, z = va_up I28 41 (upd (I28 41) 6 r24) := ⟨_, rfl⟩
          have hm := nm_to eI30 hm
          have hP := P_eq (ws2 := wsF ad cI cJ cG I30 J29) hP (by rw [eI30]; rfl)
          have hD := D_eq (ws2 := wsF ad cI cJ cG I30 J29) hD (by rw [eI30]; rfl)
          refine lv_aload_n hx hb dF_run_122 rfl (lv_at hl 0 rfl) ?_
          refine va_get (D := D) (ci := 5) (v := .int (I30 41 2)) (C := RF) (T := TF) (N := 12) hx hb hT inF hown hK hP 41 rfl rfl 2 (by decide) (hT _ wd_244) (fun _ h9 => h9) rfl dF_run_123 ?_
          exact W.iret hx hb hr (fun t ht hW => ⟨⟨I30 41 2, (I30, J29), rfl, Option.some.inj hm, ht ▸ hP, va_K.moved hW.alike hK, hD⟩, hS.F ht⟩) hS.2.2 dF_run_126 hlk
        · have hm := brn hm c22
          refine lv_aload_n hx hb dF_run_97 rfl (lv_at hl 0 rfl) ?_
          refine lv_iconst (v := 2) hx hb dF_run_98 (by decide) ?_
          refine va_put (D := D) (ci := 5) (v := .int 2) (ty := .int) (C := RF) (T := TF) (N := 12) hx hb hT inF tyF okF nmF hown hK hP hD hS 41 rfl rfl 2 (by decide) (hT _ wd_244) (fun _ h9 => h9) rfl pf_I rfl rfl (Nat.le_of_ble_eq_true rfl) dF_run_99 (fun H locs hP hD hS => ?_)
          obtain ⟨I31, eI31⟩ : ∃ z : SI, z = va_up I20 41 (upd (I20 41) 2 2) := ⟨_, rfl⟩
          have hm := nm_to eI31 hm
          have hP := P_eq (ws2 := wsF ad cI cJ cG I31 J21) hP (by rw [eI31]; rfl)
          have hD := D_eq (ws2 := wsF ad cI cJ cG I31 J21) hD (by rw [eI31]; rfl)
          refine lv_goto (tgt := 122) hx hb dF_run_102 (by decide) ?_
          refine lv_aload_n hx hb dF_run_122 rfl (lv_at hl 0 rfl) ?_
          refine va_get (D := D) (ci := 5) (v := .int (I31 41 2)) (C := RF) (T := TF) (N := 12) hx hb hT inF hown hK hP 41 rfl rfl 2 (by decide) (hT _ wd_244) (fun _ h9 => h9) rfl dF_run_123 ?_
          exact W.iret hx hb hr (fun t ht hW => ⟨⟨I31 41 2, (I31, J21), rfl, Option.some.inj hm, ht ▸ hP, va_K.moved hW.alike hK, hD⟩, hS.F ht⟩) hS.2.2 dF_run_126 hlk
      · have hm := brn hm c15
        refine lv_aload_n hx hb dF_run_63 rfl (lv_at hl 0 rfl) ?_
        refine lv_iconst (v := 0) hx hb dF_run_64 (by decide) ?_
        refine va_put (D := D) (ci := 5) (v := .int 0) (ty := .int) (C := RF) (T := TF) (N := 12) hx hb hT inF tyF okF nmF hown hK hP hD hS 41 rfl rfl 2 (by decide) (hT _ wd_244) (fun _ h9 => h9) rfl pf_I rfl rfl (Nat.le_of_ble_eq_true rfl) dF_run_65 (fun H locs hP hD hS => ?_)
        obtain ⟨I32, eI32⟩ : ∃ z : SI, z = va_up I13 41 (upd (I13 41) 2 0) := ⟨_, rfl⟩
        have hm := nm_to eI32 hm
        have hP := P_eq (ws2 := wsF ad cI cJ cG I32 J14) hP (by rw [eI32]; rfl)
        have hD := D_eq (ws2 := wsF ad cI cJ cG I32 J14) hD (by rw [eI32]; rfl)
        refine lv_aload_n hx hb dF_run_68 rfl (lv_at hl 0 rfl) ?_
        refine lv_aload_n hx hb dF_run_69 rfl (lv_at hl 0 rfl) ?_
        refine va_get (D := D) (ci := 5) (v := .ref (ad 34)) (C := RF) (T := TF) (N := 12) hx hb hT inF hown hK hP 41 rfl rfl 1 (by decide) (hT _ wd_243) (fun _ h9 => h9) rfl dF_run_70 ?_
        refine lv_aload_n hx hb dF_run_73 rfl (lv_at hl 0 rfl) ?_
        refine va_get (D := D) (ci := 5) (v := .ref (ad 35)) (C := RF) (T := TF) (N := 12) hx hb hT inF hown hK hP 41 rfl rfl 7 (by decide) (hT _ wd_249) (fun _ h9 => h9) rfl dF_run_74 ?_
        obtain ⟨r33, I34, J35, hc36, hm⟩ := cl3_to hm
        have hPc := hP.sub (ws' := (wsM (fun k => ad (rho 35 k)) cI cJ cG (sI 35 I32) (sJ 35 J14))) [0, 1, 2, 3, 4, 5, 6, 7, 8, 9, 10, 11, 12, 13, 14, 15, 16, 17, 18, 19, 20, 21, 22, 23, 24, 25, 26, 27, 28, 29, 30, 31, 32, 33, 34, 35, 36] rfl
        have hDc := hD.sub (ws' := (wsM (fun k => ad (rho 35 k)) cI cJ cG (sI 35 I32) (sJ 35 J14))) [0, 1, 2, 3, 4, 5, 6, 7, 8, 9, 10, 11, 12, 13, 14, 15, 16, 17, 18, 19, 20, 21, 22, 23, 24, 25, 26, 27, 28, 29, 30, 31, 32, 33, 34, 35, 36] (by decide) rfl
        refine pstX_i (wf := wsM (fun k => ad (rho 35 k)) cI cJ cG) (wc := (wsM (fun k => ad (rho 35 k)) cI cJ cG (sI 35 I32) (sJ 35 J14))) (wr := [(ad 37, .inr (2, [.ref (ad 38), .long (J14 37 1), .long (J14 37 2)])), (ad 38, .inl (cJ, 4, .inr (.inl (J14 38)))), (ad 39, .inr (2, [.ref (ad 40), .long (J14 39 1), .long (J14 39 2)])), (ad 40, .inl (cJ, 4, .inr (.inl (J14 40)))), (ad 41, .inr (5, [.ref (ad 0), .ref (ad 34), .int (I32 41 2), .int (I32 41 3), .int (I32 41 4), .int (I32 41 5), .int (I32 41 6), .ref (ad 35), .ref (ad 37), .ref (ad 39), .int (I32 41 10), .int (I32 41 11)]))]) hP hD hS hA [0, 1, 2, 3, 4, 5, 6, 7, 8, 9, 10, 11, 12, 13, 14, 15, 16, 17, 18, 19, 20, 21, 22, 23, 24, 25, 26, 27, 28, 29, 30, 31, 32, 33, 34, 35, 36] [37, 38, 39, 40, 41] rfl rfl (by decide) (by decide) (va_runVN (As := [.ref (ad 35)]) (rest := [.ref (ad 41)]) ⟨hx, hb, hml, hown, hT⟩ (c_E_tightBounds l D (fun k => ad (rho 35 k)) cI cJ cG _ (sI 35 I32) (sJ 35 J14) _ hc36) ⟨va_cnB 1 hT (gtb_good wd_466) rfl rfl rfl (hN _ nw_463) (hT _ wd_53) (by decide +kernel) ⟨Nat.le_of_ble_eq_true rfl, Nat.le_of_ble_eq_true rfl⟩, hT _ wd_465, hT _ wd_28⟩ ⟨preW_fb, va_recv hK hPc (ci := 3) (q0 := 34) rfl rfl, preW_at hPc hK hN hDc⟩ rfl rfl hl.1 rfl (lv_room (Nat.le_of_ble_eq_true rfl)) dF_run_77 ⟨Nat.zero_le _, Nat.zero_le _⟩) (fun H locs hP hD hS => ?_)
        obtain ⟨I37, eI37⟩ : ∃ z : SI, z = mrg 35 I32 I34 := ⟨_, rfl⟩
        have hm := nm_to eI37 hm
        obtain ⟨J38, eJ38⟩ : ∃ z : SJ, z = mrg 35 J14 J35 := ⟨_, rfl⟩
        have hm := nm_to eJ38 hm
        have hP := hP.sub (ws' := (wsF ad cI cJ cG I37 J38)) [5, 6, 7, 8, 9, 10, 11, 12, 13, 14, 15, 16, 17, 18, 19, 20, 21, 22, 23, 24, 25, 26, 27, 28, 29, 30, 31, 32, 33, 34, 35, 36, 37, 38, 39, 40, 41, 0, 1, 2, 3, 4] (by rw [eI37, eJ38]; rfl)
        have hD := hD.sub (ws' := (wsF ad cI cJ cG I37 J38)) [5, 6, 7, 8, 9, 10, 11, 12, 13, 14, 15, 16, 17, 18, 19, 20, 21, 22, 23, 24, 25, 26, 27, 28, 29, 30, 31, 32, 33, 34, 35, 36, 37, 38, 39, 40, 41, 0, 1, 2, 3, 4] (by decide) (by rw [eI37, eJ38]; rfl)
        refine va_put (D := D) (ci := 5) (v := .int r33) (ty := .int) (C := RF) (T := TF) (N := 12) hx hb hT inF tyF okF nmF hown hK hP hD hS 41 rfl rfl 5 (by decide) (hT _ wd_247) (fun _ h9 => h9) rfl pf_I rfl rfl (Nat.le_of_ble_eq_true rfl) dF_run_80 (fun H locs hP hD hS => ?_)
        obtain ⟨I39, eI39⟩ : ∃ z : SI, z = va_up I37 41 (upd (I37 41) 5 r33) := ⟨_, rfl⟩
        have hm := nm_to eI39 hm
        have hP := P_eq (ws2 := wsF ad cI cJ cG I39 J38) hP (by rw [eI39]; rfl)
        have hD := D_eq (ws2 := wsF ad cI cJ cG I39 J38) hD (by rw [eI39]; rfl)
        refine lv_goto (tgt := 122) hx hb dF_run_83 (by decide) ?_
        refine lv_aload_n hx hb dF_run_122 rfl (lv_at hl 0 rfl) ?_
        refine va_get (D := D) (ci := 5) (v := .int (I39 41 2)) (C := RF) (T := TF) (N := 12) hx hb hT inF hown hK hP 41 rfl rfl 2 (by decide) (hT _ wd_244) (fun _ h9 => h9) rfl dF_run_123 ?_
        exact W.iret hx hb hr (fun t ht hW => ⟨⟨I39 41 2, (I39, J38), rfl, Option.some.inj hm, ht ▸ hP, va_K.moved hW.alike hK, hD⟩, hS.F ht⟩) hS.2.2 dF_run_126 hlk
    · have hm := brp hm c4
      refine lv_iconst (v := (-1)) hx hb dF_run_20 (by decide) ?_
      exact W.iret hx hb hr (fun t ht hW => ⟨⟨-1, (I, J), rfl, Option.some.inj hm, ht ▸ hP, va_K.moved hW.alike hK, hD⟩, hS.F ht⟩) hS.2.2 dF_run_21 hlk
set_option maxHeartbeats 4000000 in
set_option maxRecDepth 100000 in
theorem c_F_run (l : Launch) (D : va_G) (ad : Nat → Nat) (cI cJ cG : ClassId) (sz : Nat) (x1 : Int32) (I : SI) (J : SJ) (res : Int32 × SI × SJ) (hm : m_F_run x1 I J = some res) : Met l yF_run (Cond.code yF_run bF_run 2 (some .int) :: gtb) rm_F_run (va_Pc [.ref (ad 41), .int x1] (preW D vwCl (tysF cI cJ cG) (wsF ad cI cJ cG I J) sz)) (va_Qi (fun (r : Int32) (u : SI × SJ) => (r, u) = res) (atW D vwCl (tysF cI cJ cG) (va_A (wsF ad cI cJ cG I J) sz) (wsF ad cI cJ cG)) (va_A (wsF ad cI cJ cG I J) sz)) 0 0 (va_A (wsF ad cI cJ cG I J) sz) := by
  refine Met.ofW (cc := bF_run) (maxL := 2) (ret := (some .int)) (by decide) rfl ?_
  intro p e s m args below meth c s₁ B hml hv
  obtain ⟨rfl, hsz, hP, hK, hD0, hN⟩ := hv
  subst hsz
  have X : Cx p s m [.ref (ad 41), .int x1].toArray meth c bF_run (some .int) 2 RF := ⟨B.exec, B.bytes, B.returns, hml, findClass_of_methodNamed B.named, fun w h => atoms_spec (ws := (Cond.code yF_run bF_run 2 (some .int) :: gtb)) B.pre w (List.mem_cons_of_mem _ h), B.notSynchronized⟩
  have hl := lv_entry ([.ref (ad 41), .int x1]) (n := 2) (Nat.le_of_ble_eq_true rfl)
  rw [lg_entry_eq]
  generalize (lg_sl ([.ref (ad 41), .int x1]) ++ List.replicate (2 - (lg_sl ([.ref (ad 41), .int x1])).length) Slot.unset).toArray = ls at hl ⊢
  have hl : lv_has ls 2 [(0, .ref (ad 41)), (1, .int x1)] := hl
  have hA : ∀ q, s.heap.size ≤ q → va_A (wsF ad cI cJ cG I J) s.heap.size q := fun q h => Or.inr h
  exact w_F_run_0 X hK hN hA  x1 I J hm _ _ _ hP hD0.self va_S.rf hl
def b_F_dearer_0 (x1 : Int32) (x2 : Int32) (I : SI) (J : SJ) : Option (Int64 × SI × SJ) :=
  if (I 41 2) = (-1) then
    some (-1, I, J)
  else
    cl1 (m_F_isNutrient x1) fun r2 =>
    if r2 = 0 then
      some (-1, I, J)
    else
      gd (vin x1 3) <|
      nm (I 10 x1.toNatClampNeg) fun v6 =>
      gd (vin x1 3) <|
      nm (I 11 x1.toNatClampNeg) fun v8 =>
      if v8 ≤ v6 then
        some (-1, I, J)
      else
        cl3 (m_E_findBest (I 41 3) (sI 37 I) (sJ 37 J)) fun r10 I11 J12 =>
        nm (mrg 37 I I11) fun I14 =>
        nm (mrg 37 J J12) fun J15 =>
        if r10 = 0 then
          some (-1, I14, J15)
        else
          nm (v6 + 1) fun v17 =>
          gd (vin x1 3) <|
          nm (va_up I14 10 (upd (I14 10) x1.toNatClampNeg v17)) fun I19 =>
          cl3 (m_E_findBest (I19 41 3) (sI 39 I19) (sJ 39 J15)) fun r20 I21 J22 =>
          nm (mrg 39 I19 I21) fun I24 =>
          nm (mrg 39 J15 J22) fun J25 =>
          gd (vin x1 3) <|
          nm (va_up I24 10 (upd (I24 10) x1.toNatClampNeg v6)) fun I27 =>
          if r20 = 0 then
            some (-1, I27, J25)
          else
            nm ((J25 39 1) * (J25 37 2)) fun v29 =>
            nm ((J25 37 1) * (J25 39 2)) fun v30 =>
            nm (v29 - v30) fun v31 =>
            nm (10 * (J25 37 2)) fun v32 =>
            nm (v32 * (J25 39 2)) fun v33 =>
            cl1 (m_F_partOf v31 v33 x2) fun r34 =>
            some (r34, I27, J25)
def m_F_dearer (x1 : Int32) (x2 : Int32) (I : SI) (J : SJ) : Option (Int64 × SI × SJ) := b_F_dearer_0 x1 x2 I J
def rm_F_dearer : Room := { frames := 13, cells := 0, slots := 0, locals := 346 }
set_option maxHeartbeats 4000000 in
set_option maxRecDepth 100000 in
theorem w_F_dearer_0 {p : Program} {l : Launch} {e : Env} {s : State} {m : MethodId} {args : Array Value} {below : List Frame} {meth : Method} {c : Code} {D : va_G} {A : Nat → Prop} {ad : Nat → Nat} {cI cJ cG : ClassId} {res : Int64 × SI × SJ} (X : Cx p s m args meth c bF_dearer (some .long) 7 RF) (hK : va_K D vwCl (tysF cI cJ cG) s) (hN : NWs s) (hA : ∀ q, s.heap.size ≤ q → A q)
     (x1 : Int32) (x2 : Int32) (I : SI) (J : SJ) (hm : b_F_dearer_0  x1 x2 I J = some res) : WB p l e (headSpec (Cond.code yF_dearer bF_dearer 7 (some .long) :: gtb) rm_F_dearer).room s m args below meth c (MQ below (va_Ql (fun (r : Int64) (u : SI × SJ) => (r, u) = res) (atW D vwCl (tysF cI cJ cG) A (wsF ad cI cJ cG)) A) args s 0 0 A) D vwCl A 7 (wsF ad cI cJ cG I J) 0 [(0, .ref (ad 41)), (1, .int x1), (2, .int x2)] [] := by
  obtain ⟨hx, hb, hr, hml, hown, hT, hlk⟩ := X
  intro H locs ls hP hD hS hl
  unfold b_F_dearer_0 at hm
  refine lv_aload_n hx hb dF_dearer_0 rfl (lv_at hl 0 rfl) ?_
  refine va_get (D := D) (ci := 5) (v := .int (I 41 2)) (C := RF) (T := TF) (N := 12) hx hb hT inF hown hK hP 41 rfl rfl 2 (by decide) (hT _ wd_244) (fun _ h9 => h9) rfl dF_dearer_1 ?_
  refine lv_iconst (v := (-1)) hx hb dF_dearer_4 (by decide) ?_
  refine lv_icmp_eq (tgt := 15) hx hb dF_dearer_5 (by decide) (fun c1 => ?_) (fun c1 => ?_)
  · have hm := brp hm c1
    refine lv_ldc2 (v := (-1)) hx hb hown (hT _ wd_492) dF_dearer_15 ?_
    exact W.lret hx hb hr (fun t ht hW => ⟨⟨-1, (I, J), rfl, Option.some.inj hm, ht ▸ hP, va_K.moved hW.alike hK, hD⟩, hS.F ht⟩) hS.2.2 dF_dearer_18 hlk
  · have hm := brn hm c1
    refine lv_iload_n hx hb dF_dearer_8 rfl (lv_at hl 1 rfl) ?_
    obtain ⟨r2, hc3, hm⟩ := cl1_to hm
    refine pstZ_i hS (va_runS (As := [.int x1]) (rest := []) ⟨hx, hb, hml, hown, hT⟩ (c_F_isNutrient l x1 _ hc3) (va_cwS 1 hT (gS wd_308 wd_309 wd_51 wd_310) rfl rfl rfl (by decide +kernel) ⟨Nat.le_of_ble_eq_true rfl, Nat.le_of_ble_eq_true rfl⟩) ⟨preZ_fb, preZ_at⟩ rfl rfl hl.1 rfl (lv_room (Nat.le_of_ble_eq_true rfl)) dF_dearer_9 ⟨Nat.zero_le _, Nat.zero_le _⟩) (fun H1 locs hq hS => ?_)
    have hP := keptP hP hq
    refine lv_if_ne (tgt := 19) hx hb dF_dearer_12 (by decide) (fun c4 => ?_) (fun c4 => ?_)
    · have hm := brn hm c4
      refine lv_aload_n hx hb dF_dearer_19 rfl (lv_at hl 0 rfl) ?_
      refine va_get (D := D) (ci := 5) (v := .ref (ad 0)) (C := RF) (T := TF) (N := 12) hx hb hT inF hown hK hP 41 rfl rfl 0 (by decide) (hT _ wd_242) (fun _ h9 => h9) rfl dF_dearer_20 ?_
      refine va_getN (D := D) (ci := 4) (v := .ref (ad 10)) (C := RT) (T := TT) (N := 9) hx hb hT inT hown hK hP 0 rfl rfl 7 (by decide) (va_Nw.use rfl (hN _ nw_100)) (fun _ h9 => h9) rfl dF_dearer_23 ?_
      refine lv_iload_n hx hb dF_dearer_26 rfl (lv_at hl 1 rfl) ?_
      obtain ⟨g5, hm⟩ := gd_to hm
      refine va_iald hx hb hK hP 10 0 rfl rfl g5 dF_dearer_27 ?_
      refine lv_topi (fun v6 ev6 => ?_)
      have hm := nm_to ev6 hm
      refine lv_istore_n (lv' := [(3, .int v6), (0, .ref (ad 41)), (1, .int x1), (2, .int x2)]) hx hb dF_dearer_28 rfl hl (by decide) rfl (fun ls hl => ?_)
      refine lv_iload_n hx hb dF_dearer_29 rfl (lv_at hl 0 rfl) ?_
      refine lv_aload_n hx hb dF_dearer_30 rfl (lv_at hl 1 rfl) ?_
      refine va_get (D := D) (ci := 5) (v := .ref (ad 0)) (C := RF) (T := TF) (N := 12) hx hb hT inF hown hK hP 41 rfl rfl 0 (by decide) (hT _ wd_242) (fun _ h9 => h9) rfl dF_dearer_31 ?_
      refine va_getN (D := D) (ci := 4) (v := .ref (ad 11)) (C := RT) (T := TT) (N := 9) hx hb hT inT hown hK hP 0 rfl rfl 8 (by decide) (va_Nw.use rfl (hN _ nw_103)) (fun _ h9 => h9) rfl dF_dearer_34 ?_
      refine lv_iload_n hx hb dF_dearer_37 rfl (lv_at hl 2 rfl) ?_
      obtain ⟨g7, hm⟩ := gd_to hm
      refine va_iald hx hb hK hP 11 0 rfl rfl g7 dF_dearer_38 ?_
      refine lv_topi (fun v8 ev8 => ?_)
      have hm := nm_to ev8 hm
      refine lv_icmp_ge (tgt := 60) hx hb dF_dearer_39 (by decide) (fun c9 => ?_) (fun c9 => ?_)
      · have hm := brp hm c9
        refine lv_ldc2 (v := (-1)) hx hb hown (hT _ wd_492) dF_dearer_60 ?_
        exact W.lret hx hb hr (fun t ht hW => ⟨⟨-1, (I, J), rfl, Option.some.inj hm, ht ▸ hP, va_K.moved hW.alike hK, hD⟩, hS.F ht⟩) hS.2.2 dF_dearer_63 hlk
      · have hm := brn hm c9
        refine lv_aload_n hx hb dF_dearer_42 rfl (lv_at hl 1 rfl) ?_
        refine va_get (D := D) (ci := 5) (v := .ref (ad 34)) (C := RF) (T := TF) (N := 12) hx hb hT inF hown hK hP 41 rfl rfl 1 (by decide) (hT _ wd_243) (fun _ h9 => h9) rfl dF_dearer_43 ?_
        refine lv_aload_n hx hb dF_dearer_46 rfl (lv_at hl 1 rfl) ?_
        refine va_get (D := D) (ci := 5) (v := .int (I 41 3)) (C := RF) (T := TF) (N := 12) hx hb hT inF hown hK hP 41 rfl rfl 3 (by decide) (hT _ wd_245) (fun _ h9 => h9) rfl dF_dearer_47 ?_
        refine lv_aload_n hx hb dF_dearer_50 rfl (lv_at hl 1 rfl) ?_
        refine va_get (D := D) (ci := 5) (v := .ref (ad 37)) (C := RF) (T := TF) (N := 12) hx hb hT inF hown hK hP 41 rfl rfl 8 (by decide) (hT _ wd_250) (fun _ h9 => h9) rfl dF_dearer_51 ?_
        obtain ⟨r10, I11, J12, hc13, hm⟩ := cl3_to hm
        have hPc := hP.sub (ws' := (wsM (fun k => ad (rho 37 k)) cI cJ cG (sI 37 I) (sJ 37 J))) [0, 1, 2, 3, 4, 5, 6, 7, 8, 9, 10, 11, 12, 13, 14, 15, 16, 17, 18, 19, 20, 21, 22, 23, 24, 25, 26, 27, 28, 29, 30, 31, 32, 33, 34, 37, 38] rfl
        have hDc := hD.sub (ws' := (wsM (fun k => ad (rho 37 k)) cI cJ cG (sI 37 I) (sJ 37 J))) [0, 1, 2, 3, 4, 5, 6, 7, 8, 9, 10, 11, 12, 13, 14, 15, 16, 17, 18, 19, 20, 21, 22, 23, 24, 25, 26, 27, 28, 29, 30, 31, 32, 33, 34, 37, 38] (by decide) rfl
        refine pstX_i (wf := wsM (fun k => ad (rho 37 k)) cI cJ cG) (wc := (wsM (fun k => ad (rho 37 k)) cI cJ cG (sI 37 I) (sJ 37 J))) (wr := [(ad 35, .inr (2, [.ref (ad 36), .long (J 35 1), .long (J 35 2)])), (ad 36, .inl (cJ, 4, .inr (.inl (J 36)))), (ad 39, .inr (2, [.ref (ad 40), .long (J 39 1), .long (J 39 2)])), (ad 40, .inl (cJ, 4, .inr (.inl (J 40)))), (ad 41, .inr (5, [.ref (ad 0), .ref (ad 34), .int (I 41 2), .int (I 41 3), .int (I 41 4), .int (I 41 5), .int (I 41 6), .ref (ad 35), .ref (ad 37), .ref (ad 39), .int (I 41 10), .int (I 41 11)]))]) hP hD hS hA [0, 1, 2, 3, 4, 5, 6, 7, 8, 9, 10, 11, 12, 13, 14, 15, 16, 17, 18, 19, 20, 21, 22, 23, 24, 25, 26, 27, 28, 29, 30, 31, 32, 33, 34, 37, 38] [35, 36, 39, 40, 41] rfl rfl (by decide) (by decide) (va_runVN (As := [.int (I 41 3), .ref (ad 37)]) (rest := []) ⟨hx, hb, hml, hown, hT⟩ (c_E_findBest l D (fun k => ad (rho 37 k)) cI cJ cG _ (I 41 3) (sI 37 I) (sJ 37 J) _ hc13) ⟨va_cnB 2 hT (gtb_good wd_333) rfl rfl rfl (hN _ nw_330) (hT _ wd_53) (by decide +kernel) ⟨Nat.le_of_ble_eq_true rfl, Nat.le_of_ble_eq_true rfl⟩, hT _ wd_332, hT _ wd_1⟩ ⟨preW_fb, va_recv hK hPc (ci := 3) (q0 := 34) rfl rfl, preW_at hPc hK hN hDc⟩ rfl rfl hl.1 rfl (lv_room (Nat.le_of_ble_eq_true rfl)) dF_dearer_54 ⟨Nat.zero_le _, Nat.zero_le _⟩) (fun H locs hP hD hS => ?_)
        obtain ⟨I14, eI14⟩ : ∃ z : SI, z = mrg 37 I I11 := ⟨_, rfl⟩
        have hm := nm_to eI14 hm
        obtain ⟨J15, eJ15⟩ : ∃ z : SJ, z = mrg 37 J J12 := ⟨_, rfl⟩
        have hm := nm_to eJ15 hm
        have hP := hP.sub (ws' := (wsF ad cI cJ cG I14 J15)) [5, 6, 7, 8, 9, 10, 11, 12, 13, 14, 15, 16, 17, 18, 19, 20, 21, 22, 23, 24, 25, 26, 27, 28, 29, 30, 31, 32, 33, 34, 35, 36, 37, 38, 39, 0, 1, 40, 41, 2, 3, 4] (by rw [eI14, eJ15]; rfl)
        have hD := hD.sub (ws' := (wsF ad cI cJ cG I14 J15)) [5, 6, 7, 8, 9, 10, 11, 12, 13, 14, 15, 16, 17, 18, 19, 20, 21, 22, 23, 24, 25, 26, 27, 28, 29, 30, 31, 32, 33, 34, 35, 36, 37, 38, 39, 0, 1, 40, 41, 2, 3, 4] (by decide) (by rw [eI14, eJ15]; rfl)
        refine lv_if_ne (tgt := 64) hx hb dF_dearer_57 (by decide) (fun c16 => ?_) (fun c16 => ?_)
        · have hm := brn hm c16
          refine lv_aload_n hx hb dF_dearer_64 rfl (lv_at hl 1 rfl) ?_
          refine va_get (D := D) (ci := 5) (v := .ref (ad 0)) (C := RF) (T := TF) (N := 12) hx hb hT inF hown hK hP 41 rfl rfl 0 (by decide) (hT _ wd_242) (fun _ h9 => h9) rfl dF_dearer_65 ?_
          refine va_getN (D := D) (ci := 4) (v := .ref (ad 10)) (C := RT) (T := TT) (N := 9) hx hb hT inT hown hK hP 0 rfl rfl 7 (by decide) (va_Nw.use rfl (hN _ nw_100)) (fun _ h9 => h9) rfl dF_dearer_68 ?_
          refine lv_iload_n hx hb dF_dearer_71 rfl (lv_at hl 2 rfl) ?_
          refine lv_iload_n hx hb dF_dearer_72 rfl (lv_at hl 0 rfl) ?_
          refine lv_iconst (v := 1) hx hb dF_dearer_73 (by decide) ?_
          refine lv_iadd hx hb dF_dearer_74 ?_
          refine lv_topi (fun v17 ev17 => ?_)
          have hm := nm_to ev17 hm
          obtain ⟨g18, hm⟩ := gd_to hm
          refine va_iast hx hb hK hP hD hS 10 0 rfl rfl g18 dF_dearer_75 (fun H locs hP hD hS => ?_)
          obtain ⟨I19, eI19⟩ : ∃ z : SI, z = va_up I14 10 (upd (I14 10) x1.toNatClampNeg v17) := ⟨_, rfl⟩
          have hm := nm_to eI19 hm
          have hP := P_eq (ws2 := wsF ad cI cJ cG I19 J15) hP (by rw [eI19]; rfl)
          have hD := D_eq (ws2 := wsF ad cI cJ cG I19 J15) hD (by rw [eI19]; rfl)
          refine lv_aload_n hx hb dF_dearer_76 rfl (lv_at hl 1 rfl) ?_
          refine va_get (D := D) (ci := 5) (v := .ref (ad 34)) (C := RF) (T := TF) (N := 12) hx hb hT inF hown hK hP 41 rfl rfl 1 (by decide) (hT _ wd_243) (fun _ h9 => h9) rfl dF_dearer_77 ?_
          refine lv_aload_n hx hb dF_dearer_80 rfl (lv_at hl 1 rfl) ?_
          refine va_get (D := D) (ci := 5) (v := .int (I19 41 3)) (C := RF) (T := TF) (N := 12) hx hb hT inF hown hK hP 41 rfl rfl 3 (by decide) (hT _ wd_245) (fun _ h9 => h9) rfl dF_dearer_81 ?_
          refine lv_aload_n hx hb dF_dearer_84 rfl (lv_at hl 1 rfl) ?_
          refine va_get (D := D) (ci := 5) (v := .ref (ad 39)) (C := RF) (T := TF) (N := 12) hx hb hT inF hown hK hP 41 rfl rfl 9 (by decide) (hT _ wd_251) (fun _ h9 => h9) rfl dF_dearer_85 ?_
          obtain ⟨r20, I21, J22, hc23, hm⟩ := cl3_to hm
          have hPc := hP.sub (ws' := (wsM (fun k => ad (rho 39 k)) cI cJ cG (sI 39 I19) (sJ 39 J15))) [0, 1, 2, 3, 4, 5, 6, 7, 8, 9, 10, 11, 12, 13, 14, 15, 16, 17, 18, 19, 20, 21, 22, 23, 24, 25, 26, 27, 28, 29, 30, 31, 32, 33, 34, 39, 40] rfl
          have hDc := hD.sub (ws' := (wsM (fun k => ad (rho 39 k)) cI cJ cG (sI 39 I19) (sJ 39 J15))) [0, 1, 2, 3, 4, 5, 6, 7, 8, 9, 10, 11, 12, 13, 14, 15, 16, 17, 18, 19, 20, 21, 22, 23, 24, 25, 26, 27, 28, 29, 30, 31, 32, 33, 34, 39, 40] (by decide) rfl
          refine pstX_i (wf := wsM (fun k => ad (rho 39 k)) cI cJ cG) (wc := (wsM (fun k => ad (rho 39 k)) cI cJ cG (sI 39 I19) (sJ 39 J15))) (wr := [(ad 35, .inr (2, [.ref (ad 36), .long (J15 35 1), .long (J15 35 2)])), (ad 36, .inl (cJ, 4, .inr (.inl (J15 36)))), (ad 37, .inr (2, [.ref (ad 38), .long (J15 37 1), .long (J15 37 2)])), (ad 38, .inl (cJ, 4, .inr (.inl (J15 38)))), (ad 41, .inr (5, [.ref (ad 0), .ref (ad 34), .int (I19 41 2), .int (I19 41 3), .int (I19 41 4), .int (I19 41 5), .int (I19 41 6), .ref (ad 35), .ref (ad 37), .ref (ad 39), .int (I19 41 10), .int (I19 41 11)]))]) hP hD hS hA [0, 1, 2, 3, 4, 5, 6, 7, 8, 9, 10, 11, 12, 13, 14, 15, 16, 17, 18, 19, 20, 21, 22, 23, 24, 25, 26, 27, 28, 29, 30, 31, 32, 33, 34, 39, 40] [35, 36, 37, 38, 41] rfl rfl (by decide) (by decide) (va_runVN (As := [.int (I19 41 3), .ref (ad 39)]) (rest := []) ⟨hx, hb, hml, hown, hT⟩ (c_E_findBest l D (fun k => ad (rho 39 k)) cI cJ cG _ (I19 41 3) (sI 39 I19) (sJ 39 J15) _ hc23) ⟨va_cnB 2 hT (gtb_good wd_333) rfl rfl rfl (hN _ nw_330) (hT _ wd_53) (by decide +kernel) ⟨Nat.le_of_ble_eq_true rfl, Nat.le_of_ble_eq_true rfl⟩, hT _ wd_332, hT _ wd_1⟩ ⟨preW_fb, va_recv hK hPc (ci := 3) (q0 := 34) rfl rfl, preW_at hPc hK hN hDc⟩ rfl rfl hl.1 rfl (lv_room (Nat.le_of_ble_eq_true rfl)) dF_dearer_88 ⟨Nat.zero_le _, Nat.zero_le _⟩) (fun H locs hP hD hS => ?_)
          obtain ⟨I24, eI24⟩ : ∃ z : SI, z = mrg 39 I19 I21 := ⟨_, rfl⟩
          have hm := nm_to eI24 hm
          obtain ⟨J25, eJ25⟩ : ∃ z : SJ, z = mrg 39 J15 J22 := ⟨_, rfl⟩
          have hm := nm_to eJ25 hm
          have hP := hP.sub (ws' := (wsF ad cI cJ cG I24 J25)) [5, 6, 7, 8, 9, 10, 11, 12, 13, 14, 15, 16, 17, 18, 19, 20, 21, 22, 23, 24, 25, 26, 27, 28, 29, 30, 31, 32, 33, 34, 35, 36, 37, 38, 39, 0, 1, 2, 3, 40, 41, 4] (by rw [eI24, eJ25]; rfl)
          have hD := hD.sub (ws' := (wsF ad cI cJ cG I24 J25)) [5, 6, 7, 8, 9, 10, 11, 12, 13, 14, 15, 16, 17, 18, 19, 20, 21, 22, 23, 24, 25, 26, 27, 28, 29, 30, 31, 32, 33, 34, 35, 36, 37, 38, 39, 0, 1, 2, 3, 40, 41, 4] (by decide) (by rw [eI24, eJ25]; rfl)
          refine lv_istore (lv' := [(4, .int r20), (3, .int v6), (0, .ref (ad 41)), (1, .int x1), (2, .int x2)]) hx hb dF_dearer_91 hl (by decide) rfl (fun ls hl => ?_)
          refine lv_aload_n hx hb dF_dearer_93 rfl (lv_at hl 2 rfl) ?_
          refine va_get (D := D) (ci := 5) (v := .ref (ad 0)) (C := RF) (T := TF) (N := 12) hx hb hT inF hown hK hP 41 rfl rfl 0 (by decide) (hT _ wd_242) (fun _ h9 => h9) rfl dF_dearer_94 ?_
          refine va_getN (D := D) (ci := 4) (v := .ref (ad 10)) (C := RT) (T := TT) (N := 9) hx hb hT inT hown hK hP 0 rfl rfl 7 (by decide) (va_Nw.use rfl (hN _ nw_100)) (fun _ h9 => h9) rfl dF_dearer_97 ?_
          refine lv_iload_n hx hb dF_dearer_100 rfl (lv_at hl 3 rfl) ?_
          refine lv_iload_n hx hb dF_dearer_101 rfl (lv_at hl 1 rfl) ?_
          obtain ⟨g26, hm⟩ := gd_to hm
          refine va_iast hx hb hK hP hD hS 10 0 rfl rfl g26 dF_dearer_102 (fun H locs hP hD hS => ?_)
          obtain ⟨I27, eI27⟩ : ∃ z : SI, z = va_up I24 10 (upd (I24 10) x1.toNatClampNeg v6) := ⟨_, rfl⟩
          have hm := nm_to eI27 hm
          have hP := P_eq (ws2 := wsF ad cI cJ cG I27 J25) hP (by rw [eI27]; rfl)
          have hD := D_eq (ws2 := wsF ad cI cJ cG I27 J25) hD (by rw [eI27]; rfl)
          refine lv_iload hx hb dF_dearer_103 (lv_at hl 0 rfl) ?_
          refine lv_if_ne (tgt := 112) hx hb dF_dearer_105 (by decide) (fun c28 => ?_) (fun c28 => ?_)
          · have hm := brn hm c28
            refine lv_aload_n hx hb dF_dearer_112 rfl (lv_at hl 2 rfl) ?_
            refine va_get (D := D) (ci := 5) (v := .ref (ad 39)) (C := RF) (T := TF) (N := 12) hx hb hT inF hown hK hP 41 rfl rfl 9 (by decide) (hT _ wd_251) (fun _ h9 => h9) rfl dF_dearer_113 ?_
            refine va_getN (D := D) (ci := 2) (v := .long (J25 39 1)) (C := RX) (T := TX) (N := 3) hx hb hT inX hown hK hP 39 rfl rfl 1 (by decide) (va_Nw.use rfl (hN _ nw_185)) (fun _ h9 => h9) rfl dF_dearer_116 ?_
            refine lv_aload_n hx hb dF_dearer_119 rfl (lv_at hl 2 rfl) ?_
            refine va_get (D := D) (ci := 5) (v := .ref (ad 37)) (C := RF) (T := TF) (N := 12) hx hb hT inF hown hK hP 41 rfl rfl 8 (by decide) (hT _ wd_250) (fun _ h9 => h9) rfl dF_dearer_120 ?_
            refine va_getN (D := D) (ci := 2) (v := .long (J25 37 2)) (C := RX) (T := TX) (N := 3) hx hb hT inX hown hK hP 37 rfl rfl 2 (by decide) (va_Nw.use rfl (hN _ nw_189)) (fun _ h9 => h9) rfl dF_dearer_123 ?_
            refine lv_lmul hx hb dF_dearer_126 ?_
            refine lv_topl (fun v29 ev29 => ?_)
            have hm := nm_to ev29 hm
            refine lv_aload_n hx hb dF_dearer_127 rfl (lv_at hl 2 rfl) ?_
            refine va_get (D := D) (ci := 5) (v := .ref (ad 37)) (C := RF) (T := TF) (N := 12) hx hb hT inF hown hK hP 41 rfl rfl 8 (by decide) (hT _ wd_250) (fun _ h9 => h9) rfl dF_dearer_128 ?_
            refine va_getN (D := D) (ci := 2) (v := .long (J25 37 1)) (C := RX) (T := TX) (N := 3) hx hb hT inX hown hK hP 37 rfl rfl 1 (by decide) (va_Nw.use rfl (hN _ nw_185)) (fun _ h9 => h9) rfl dF_dearer_131 ?_
            refine lv_aload_n hx hb dF_dearer_134 rfl (lv_at hl 2 rfl) ?_
            refine va_get (D := D) (ci := 5) (v := .ref (ad 39)) (C := RF) (T := TF) (N := 12) hx hb hT inF hown hK hP 41 rfl rfl 9 (by decide) (hT _ wd_251) (fun _ h9 => h9) rfl dF_dearer_135 ?_
            refine va_getN (D := D) (ci := 2) (v := .long (J25 39 2)) (C := RX) (T := TX) (N := 3) hx hb hT inX hown hK hP 39 rfl rfl 2 (by decide) (va_Nw.use rfl (hN _ nw_189)) (fun _ h9 => h9) rfl dF_dearer_138 ?_
            refine lv_lmul hx hb dF_dearer_141 ?_
            refine lv_topl (fun v30 ev30 => ?_)
            have hm := nm_to ev30 hm
            refine lv_lsub hx hb dF_dearer_142 ?_
            refine lv_topl (fun v31 ev31 => ?_)
            have hm := nm_to ev31 hm
            refine lv_lstore (lv' := [(5, .long v31), (4, .int r20), (3, .int v6), (0, .ref (ad 41)), (1, .int x1), (2, .int x2)]) hx hb dF_dearer_143 hl (by decide) rfl (fun ls hl => ?_)
            refine lv_lload hx hb dF_dearer_145 (lv_at hl 0 rfl) ?_
            refine lv_ldc2 (v := 10) hx hb hown (hT _ wd_493) dF_dearer_147 ?_
            refine lv_aload_n hx hb dF_dearer_150 rfl (lv_at hl 3 rfl) ?_
            refine va_get (D := D) (ci := 5) (v := .ref (ad 37)) (C := RF) (T := TF) (N := 12) hx hb hT inF hown hK hP 41 rfl rfl 8 (by decide) (hT _ wd_250) (fun _ h9 => h9) rfl dF_dearer_151 ?_
            refine va_getN (D := D) (ci := 2) (v := .long (J25 37 2)) (C := RX) (T := TX) (N := 3) hx hb hT inX hown hK hP 37 rfl rfl 2 (by decide) (va_Nw.use rfl (hN _ nw_189)) (fun _ h9 => h9) rfl dF_dearer_154 ?_
            refine lv_lmul hx hb dF_dearer_157 ?_
            refine lv_topl (fun v32 ev32 => ?_)
            have hm := nm_to ev32 hm
            refine lv_aload_n hx hb dF_dearer_158 rfl (lv_at hl 3 rfl) ?_
            refine va_get (D := D) (ci := 5) (v := .ref (ad 39)) (C := RF) (T := TF) (N := 12) hx hb hT inF hown hK hP 41 rfl rfl 9 (by decide) (hT _ wd_251) (fun _ h9 => h9) rfl dF_dearer_159 ?_
            refine va_getN (D := D) (ci := 2) (v := .long (J25 39 2)) (C := RX) (T := TX) (N := 3) hx hb hT inX hown hK hP 39 rfl rfl 2 (by decide) (va_Nw.use rfl (hN _ nw_189)) (fun _ h9 => h9) rfl dF_dearer_162 ?_
            refine lv_lmul hx hb dF_dearer_165 ?_
            refine lv_topl (fun v33 ev33 => ?_)
            have hm := nm_to ev33 hm
            refine lv_iload_n hx hb dF_dearer_166 rfl (lv_at hl 5 rfl) ?_
            obtain ⟨r34, hc35, hm⟩ := cl1_to hm
            refine pstZ_l hS (va_runS (As := [.long v31, .long v33, .int x2]) (rest := []) ⟨hx, hb, hml, hown, hT⟩ (c_F_partOf l v31 v33 x2 _ hc35) (va_cwS 3 hT (gS wd_494 wd_495 wd_51 wd_496) rfl rfl rfl (by decide +kernel) ⟨Nat.le_of_ble_eq_true rfl, Nat.le_of_ble_eq_true rfl⟩) ⟨preZ_fb, preZ_at⟩ rfl rfl hl.1 rfl (lv_room (Nat.le_of_ble_eq_true rfl)) dF_dearer_167 ⟨Nat.zero_le _, Nat.zero_le _⟩) (fun H1 locs hq hS => ?_)
            have hP := keptP hP hq
            exact W.lret hx hb hr (fun t ht hW => ⟨⟨r34, (I27, J25), rfl, Option.some.inj hm, ht ▸ hP, va_K.moved hW.alike hK, hD⟩, hS.F ht⟩) hS.2.2 dF_dearer_170 hlk
          · have hm := brp hm c28
            refine lv_ldc2 (v := (-1)) hx hb hown (hT _ wd_492) dF_dearer_108 ?_
            exact W.lret hx hb hr (fun t ht hW => ⟨⟨-1, (I27, J25), rfl, Option.some.inj hm, ht ▸ hP, va_K.moved hW.alike hK, hD⟩, hS.F ht⟩) hS.2.2 dF_dearer_111 hlk
        · have hm := brp hm c16
          refine lv_ldc2 (v := (-1)) hx hb hown (hT _ wd_492) dF_dearer_60 ?_
          exact W.lret hx hb hr (fun t ht hW => ⟨⟨-1, (I14, J15), rfl, Option.some.inj hm, ht ▸ hP, va_K.moved hW.alike hK, hD⟩, hS.F ht⟩) hS.2.2 dF_dearer_63 hlk
    · have hm := brp hm c4
      refine lv_ldc2 (v := (-1)) hx hb hown (hT _ wd_492) dF_dearer_15 ?_
      exact W.lret hx hb hr (fun t ht hW => ⟨⟨-1, (I, J), rfl, Option.some.inj hm, ht ▸ hP, va_K.moved hW.alike hK, hD⟩, hS.F ht⟩) hS.2.2 dF_dearer_18 hlk
set_option maxHeartbeats 4000000 in
set_option maxRecDepth 100000 in
theorem c_F_dearer (l : Launch) (D : va_G) (ad : Nat → Nat) (cI cJ cG : ClassId) (sz : Nat) (x1 : Int32) (x2 : Int32) (I : SI) (J : SJ) (res : Int64 × SI × SJ) (hm : m_F_dearer x1 x2 I J = some res) : Met l yF_dearer (Cond.code yF_dearer bF_dearer 7 (some .long) :: gtb) rm_F_dearer (va_Pc [.ref (ad 41), .int x1, .int x2] (preW D vwCl (tysF cI cJ cG) (wsF ad cI cJ cG I J) sz)) (va_Ql (fun (r : Int64) (u : SI × SJ) => (r, u) = res) (atW D vwCl (tysF cI cJ cG) (va_A (wsF ad cI cJ cG I J) sz) (wsF ad cI cJ cG)) (va_A (wsF ad cI cJ cG I J) sz)) 0 0 (va_A (wsF ad cI cJ cG I J) sz) := by
  refine Met.ofW (cc := bF_dearer) (maxL := 7) (ret := (some .long)) (by decide) rfl ?_
  intro p e s m args below meth c s₁ B hml hv
  obtain ⟨rfl, hsz, hP, hK, hD0, hN⟩ := hv
  subst hsz
  have X : Cx p s m [.ref (ad 41), .int x1, .int x2].toArray meth c bF_dearer (some .long) 7 RF := ⟨B.exec, B.bytes, B.returns, hml, findClass_of_methodNamed B.named, fun w h => atoms_spec (ws := (Cond.code yF_dearer bF_dearer 7 (some .long) :: gtb)) B.pre w (List.mem_cons_of_mem _ h), B.notSynchronized⟩
  have hl := lv_entry ([.ref (ad 41), .int x1, .int x2]) (n := 7) (Nat.le_of_ble_eq_true rfl)
  rw [lg_entry_eq]
  generalize (lg_sl ([.ref (ad 41), .int x1, .int x2]) ++ List.replicate (7 - (lg_sl ([.ref (ad 41), .int x1, .int x2])).length) Slot.unset).toArray = ls at hl ⊢
  have hl : lv_has ls 7 [(0, .ref (ad 41)), (1, .int x1), (2, .int x2)] := hl
  have hA : ∀ q, s.heap.size ≤ q → va_A (wsF ad cI cJ cG I J) s.heap.size q := fun q h => Or.inr h
  exact w_F_dearer_0 X hK hN hA  x1 x2 I J hm _ _ _ hP hD0.self va_S.rf hl
