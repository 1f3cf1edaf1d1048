def b_R_over_15 (k15 : Int32 → Nat → Int64 → Int32 → SI → SJ → Option (Int64 × SI × SJ)) (x1 : Int32) (aa : Nat) (x6 : Int64) (x8 : Int32) (I : SI) (J : SJ) : Option (Int64 × SI × SJ) :=
  gd (aa ∈ [15, 17]) <|
  if (I 0 0) ≤ x8 then
    some (x6, I, J)
  else
    cl3 (m_R_factor x1 x8 I J) fun r2 I3 J4 =>
    gd (vin x8 4) <|
    nm (J4 aa x8.toNatClampNeg) fun v7 =>
    nm (r2 * v7) fun v8 =>
    nm (x6 + v8) fun v9 =>
    nm (x8 + 1) fun v10 =>
    k15 x1 aa v9 v10 I3 J4
def b_R_over_0 (k15 : Int32 → Nat → Int64 → Int32 → SI → SJ → Option (Int64 × SI × SJ)) (x1 : Int32) (x2 : Int32) (aa : Nat) (x4 : Int64) (I : SI) (J : SJ) : Option (Int64 × SI × SJ) :=
  gd (aa ∈ [15, 17]) <|
  cl3 (m_R_right x1 x2 I J) fun r1 I2 J3 =>
  nm (-r1) fun v5 =>
  nm (v5 * x4) fun v6 =>
  k15 x1 aa v6 0 I2 J3
def g_R_over : Nat → (Int32 → Nat → Int64 → Int32 → SI → SJ → Option (Int64 × SI × SJ))
  | 0 => (fun _ _ _ _ _ _ => none)
  | n + 1 => (fun x1 aa x6 x8 I J => b_R_over_15 (g_R_over n) x1 aa x6 x8 I J)
def m_R_over (x1 : Int32) (x2 : Int32) (aa : Nat) (x4 : Int64) (I : SI) (J : SJ) : Option (Int64 × SI × SJ) := b_R_over_0 (g_R_over fuel) x1 x2 aa x4 I J
def rm_R_over : Room := { frames := 1, cells := 0, slots := 0, locals := 22 }
set_option maxHeartbeats 4000000 in
set_option maxRecDepth 100000 in
theorem w_R_over_15 {p : Program} {l : Launch} {e : Env} {s : State} {m : MethodId} {args : Array Value} {below : List Frame} {meth : Method} {c : Code} {D : va_G} {A : Nat → Prop} {ad : Nat → Nat} {cI cJ cG : ClassId} {res : Int64 × SI × SJ} (X : Cx p s m args meth c bR_over (some .long) 9 RR) (hK : va_K D vwCl (tysR cI cJ cG) s) (hN : NWs s) (hA : ∀ q, s.heap.size ≤ q → A q)
    {k15 : Int32 → Nat → Int64 → Int32 → SI → SJ → Option (Int64 × SI × SJ)} (hk15 : ∀ (x1 : Int32) (aa : Nat) (x6 : Int64) (x8 : Int32) (I : SI) (J : SJ), k15 x1 aa x6 x8 I J = some res → WB p l e (headSpec (Cond.code yR_over bR_over 9 (some .long) :: gtb) rm_R_over).room s m args below meth c (MQ below (va_Ql (fun (r : Int64) (u : SI × SJ) => (r, u) = res) (atW D vwCl (tysR cI cJ cG) A (wsR ad cI cJ cG)) A) args s 0 0 A) D vwCl A 9 (wsR ad cI cJ cG I J) 15 [(0, .ref (ad 0)), (1, .int x1), (3, .ref (ad aa)), (6, .long x6), (8, .int x8)] [])
     (x1 : Int32) (aa : Nat) (x6 : Int64) (x8 : Int32) (I : SI) (J : SJ) (hm : b_R_over_15 k15 x1 aa x6 x8 I J = some res) : WB p l e (headSpec (Cond.code yR_over bR_over 9 (some .long) :: gtb) rm_R_over).room s m args below meth c (MQ below (va_Ql (fun (r : Int64) (u : SI × SJ) => (r, u) = res) (atW D vwCl (tysR cI cJ cG) A (wsR ad cI cJ cG)) A) args s 0 0 A) D vwCl A 9 (wsR ad cI cJ cG I J) 15 [(0, .ref (ad 0)), (1, .int x1), (3, .ref (ad aa)), (6, .long x6), (8, .int x8)] [] := by
  obtain ⟨hx, hb, hr, hml, hown, hT, hlk⟩ := X
  intro H locs ls hP hD hS hl
  unfold b_R_over_15 at hm
  obtain ⟨hf_aa, hm⟩ := gd_to hm
  refine lv_iload hx hb dR_over_15 (lv_at hl 4 rfl) ?_
  refine lv_aload_n hx hb dR_over_17 rfl (lv_at hl 0 rfl) ?_
  refine va_get (D := D) (ci := 6) (v := .int (I 0 0)) (C := RR) (T := TR) (N := 31) hx hb hT inR hown hK hP 0 rfl rfl 0 (by decide) (hT _ wd_535) (fun _ h9 => h9) rfl dR_over_18 ?_
  refine lv_icmp_ge (tgt := 47) hx hb dR_over_21 (by decide) (fun c1 => ?_) (fun c1 => ?_)
  · have hm := brp hm c1
    refine lv_lload hx hb dR_over_47 (lv_at hl 3 rfl) ?_
    exact W.lret hx hb hr (fun t ht hW => ⟨⟨x6, (I, J), rfl, Option.some.inj hm, ht ▸ hP, va_K.moved hW.alike hK, hD⟩, hS.F ht⟩) hS.2.2 dR_over_49 hlk
  · have hm := brn hm c1
    refine lv_lload hx hb dR_over_24 (lv_at hl 3 rfl) ?_
    refine lv_aload_n hx hb dR_over_26 rfl (lv_at hl 0 rfl) ?_
    refine lv_iload_n hx hb dR_over_27 rfl (lv_at hl 1 rfl) ?_
    refine lv_iload hx hb dR_over_28 (lv_at hl 4 rfl) ?_
    obtain ⟨r2, I3, J4, hc5, hm⟩ := cl3_to hm
    refine pst_l (wf := wsR ad cI cJ cG) hD hS hA (va_runV (As := [.int x1, .int x8]) (rest := [.long x6]) ⟨hx, hb, hml, hown, hT⟩ (c_R_factor l D ad cI cJ cG _ x1 x8 I J _ hc5) (cwV 2 hT (gV wd_701 wd_703 wd_41 wd_57 wd_704) rfl rfl rfl (by decide +kernel) ⟨Nat.le_of_ble_eq_true rfl, Nat.le_of_ble_eq_true rfl⟩) ⟨preW_fb, va_recv hK hP (ci := 6) (q0 := 0) rfl rfl, preW_at hP hK hN hD⟩ rfl rfl hl.1 rfl (lv_room (Nat.le_of_ble_eq_true rfl)) dR_over_30 ⟨Nat.zero_le _, Nat.zero_le _⟩) (fun H locs hP hD hS => ?_)
    refine lv_aload_n hx hb dR_over_33 rfl (lv_at hl 2 rfl) ?_
    refine lv_iload hx hb dR_over_34 (lv_at hl 4 rfl) ?_
    obtain ⟨g6, hm⟩ := gd_to hm
    refine va_lald hx hb hK hP aa 1 (famR_am hf_aa) rfl g6 dR_over_36 ?_
    refine lv_topl (fun v7 ev7 => ?_)
    have hm := nm_to ev7 hm
    refine lv_lmul hx hb dR_over_37 ?_
    refine lv_topl (fun v8 ev8 => ?_)
    have hm := nm_to ev8 hm
    refine lv_ladd hx hb dR_over_38 ?_
    refine lv_topl (fun v9 ev9 => ?_)
    have hm := nm_to ev9 hm
    refine lv_lstore (lv' := [(6, .long v9), (0, .ref (ad 0)), (1, .int x1), (3, .ref (ad aa)), (8, .int x8)]) hx hb dR_over_39 hl (by decide) rfl (fun ls hl => ?_)
    obtain ⟨v10, ev10⟩ : ∃ z : Int32, z = x8 + 1 := ⟨_, rfl⟩
    have hm := nm_to ev10 hm
    refine lv_iinc (v := v10) (lv' := [(8, .int v10), (6, .long v9), (0, .ref (ad 0)), (1, .int x1), (3, .ref (ad aa))]) hx hb dR_over_41 hl (k := 4) rfl (by rw [ev10]; rfl) (by decide) rfl (fun ls hl => ?_)
    refine lv_goto (tgt := 15) hx hb dR_over_44 (by decide) ?_
    exact hk15 x1 aa v9 v10 I3 J4 hm _ _ _ hP hD hS (lv_sub hl [2, 3, 4, 1, 0] rfl)
set_option maxHeartbeats 4000000 in
set_option maxRecDepth 100000 in
theorem w_R_over_0 {p : Program} {l : Launch} {e : Env} {s : State} {m : MethodId} {args : Array Value} {below : List Frame} {meth : Method} {c : Code} {D : va_G} {A : Nat → Prop} {ad : Nat → Nat} {cI cJ cG : ClassId} {res : Int64 × SI × SJ} (X : Cx p s m args meth c bR_over (some .long) 9 RR) (hK : va_K D vwCl (tysR cI cJ cG) s) (hN : NWs s) (hA : ∀ q, s.heap.size ≤ q → A q)
    {k15 : Int32 → Nat → Int64 → Int32 → SI → SJ → Option (Int64 × SI × SJ)} (hk15 : ∀ (x1 : Int32) (aa : Nat) (x6 : Int64) (x8 : Int32) (I : SI) (J : SJ), k15 x1 aa x6 x8 I J = some res → WB p l e (headSpec (Cond.code yR_over bR_over 9 (some .long) :: gtb) rm_R_over).room s m args below meth c (MQ below (va_Ql (fun (r : Int64) (u : SI × SJ) => (r, u) = res) (atW D vwCl (tysR cI cJ cG) A (wsR ad cI cJ cG)) A) args s 0 0 A) D vwCl A 9 (wsR ad cI cJ cG I J) 15 [(0, .ref (ad 0)), (1, .int x1), (3, .ref (ad aa)), (6, .long x6), (8, .int x8)] [])
     (x1 : Int32) (x2 : Int32) (aa : Nat) (x4 : Int64) (I : SI) (J : SJ) (hm : b_R_over_0 k15 x1 x2 aa x4 I J = some res) : WB p l e (headSpec (Cond.code yR_over bR_over 9 (some .long) :: gtb) rm_R_over).room s m args below meth c (MQ below (va_Ql (fun (r : Int64) (u : SI × SJ) => (r, u) = res) (atW D vwCl (tysR cI cJ cG) A (wsR ad cI cJ cG)) A) args s 0 0 A) D vwCl A 9 (wsR ad cI cJ cG I J) 0 [(0, .ref (ad 0)), (1, .int x1), (2, .int x2), (3, .ref (ad aa)), (4, .long x4)] [] := by
  obtain ⟨hx, hb, hr, hml, hown, hT, hlk⟩ := X
  intro H locs ls hP hD hS hl
  unfold b_R_over_0 at hm
  obtain ⟨hf_aa, hm⟩ := gd_to hm
  refine lv_aload_n hx hb dR_over_0 rfl (lv_at hl 0 rfl) ?_
  refine lv_iload_n hx hb dR_over_1 rfl (lv_at hl 1 rfl) ?_
  refine lv_iload_n hx hb dR_over_2 rfl (lv_at hl 2 rfl) ?_
  obtain ⟨r1, I2, J3, hc4, hm⟩ := cl3_to hm
  refine pst_l (wf := wsR ad cI cJ cG) hD hS hA (va_runV (As := [.int x1, .int x2]) (rest := []) ⟨hx, hb, hml, hown, hT⟩ (c_R_right l D ad cI cJ cG _ x1 x2 I J _ hc4) (cwV 2 hT (gV wd_697 wd_699 wd_40 wd_57 wd_700) rfl rfl rfl (by decide +kernel) ⟨Nat.le_of_ble_eq_true rfl, Nat.le_of_ble_eq_true rfl⟩) ⟨preW_fb, va_recv hK hP (ci := 6) (q0 := 0) rfl rfl, preW_at hP hK hN hD⟩ rfl rfl hl.1 rfl (lv_room (Nat.le_of_ble_eq_true rfl)) dR_over_3 ⟨Nat.zero_le _, Nat.zero_le _⟩) (fun H locs hP hD hS => ?_)
  refine lv_lneg hx hb dR_over_6 ?_
  refine lv_topl (fun v5 ev5 => ?_)
  have hm := nm_to ev5 hm
  refine lv_lload hx hb dR_over_7 (lv_at hl 4 rfl) ?_
  refine lv_lmul hx hb dR_over_9 ?_
  refine lv_topl (fun v6 ev6 => ?_)
  have hm := nm_to ev6 hm
  refine lv_lstore (lv' := [(6, .long v6), (0, .ref (ad 0)), (1, .int x1), (2, .int x2), (3, .ref (ad aa)), (4, .long x4)]) hx hb dR_over_10 hl (by decide) rfl (fun ls hl => ?_)
  refine lv_iconst (v := 0) hx hb dR_over_12 (by decide) ?_
  refine lv_istore (lv' := [(8, .int 0), (6, .long v6), (0, .ref (ad 0)), (1, .int x1), (2, .int x2), (3, .ref (ad aa)), (4, .long x4)]) hx hb dR_over_13 hl (by decide) rfl (fun ls hl => ?_)
  exact hk15 x1 aa v6 0 I2 J3 hm _ _ _ hP hD hS (lv_sub hl [2, 3, 5, 1, 0] rfl)
set_option maxHeartbeats 4000000 in
theorem gw_R_over {p : Program} {l : Launch} {e : Env} {s : State} {m : MethodId} {args : Array Value} {below : List Frame} {meth : Method} {c : Code} {D : va_G} {A : Nat → Prop} {ad : Nat → Nat} {cI cJ cG : ClassId} {res : Int64 × SI × SJ} (X : Cx p s m args meth c bR_over (some .long) 9 RR) (hK : va_K D vwCl (tysR cI cJ cG) s) (hN : NWs s) (hA : ∀ q, s.heap.size ≤ q → A q) : ∀ n : Nat, (∀ (x1 : Int32) (aa : Nat) (x6 : Int64) (x8 : Int32) (I : SI) (J : SJ), (g_R_over n) x1 aa x6 x8 I J = some res → WB p l e (headSpec (Cond.code yR_over bR_over 9 (some .long) :: gtb) rm_R_over).room s m args below meth c (MQ below (va_Ql (fun (r : Int64) (u : SI × SJ) => (r, u) = res) (atW D vwCl (tysR cI cJ cG) A (wsR ad cI cJ cG)) A) args s 0 0 A) D vwCl A 9 (wsR ad cI cJ cG I J) 15 [(0, .ref (ad 0)), (1, .int x1), (3, .ref (ad aa)), (6, .long x6), (8, .int x8)] []) := by
  intro n
  induction n with
  | zero => exact fun _ _ _ _ _ _ h => (by cases h)
  | succ n ih =>
    have ih15 := ih
    exact fun x1 aa x6 x8 I J h => w_R_over_15 X hK hN hA ih15 x1 aa x6 x8 I J h
set_option maxHeartbeats 4000000 in
set_option maxRecDepth 100000 in
theorem c_R_over (l : Launch) (D : va_G) (ad : Nat → Nat) (cI cJ cG : ClassId) (sz : Nat) (x1 : Int32) (x2 : Int32) (aa : Nat) (x4 : Int64) (I : SI) (J : SJ) (res : Int64 × SI × SJ) (hm : m_R_over x1 x2 aa x4 I J = some res) : Met l yR_over (Cond.code yR_over bR_over 9 (some .long) :: gtb) rm_R_over (va_Pc [.ref (ad 0), .int x1, .int x2, .ref (ad aa), .long x4] (preW D vwCl (tysR cI cJ cG) (wsR ad cI cJ cG I J) sz)) (va_Ql (fun (r : Int64) (u : SI × SJ) => (r, u) = res) (atW D vwCl (tysR cI cJ cG) (va_A (wsR ad cI cJ cG I J) sz) (wsR ad cI cJ cG)) (va_A (wsR ad cI cJ cG I J) sz)) 0 0 (va_A (wsR ad cI cJ cG I J) sz) := by
  refine Met.ofW (cc := bR_over) (maxL := 9) (ret := (some .long)) (by decide) rfl ?_
  intro p e s m args below meth c s₁ B hml hv
  obtain ⟨rfl, hsz, hP, hK, hD0, hN⟩ := hv
  subst hsz
  have X : Cx p s m [.ref (ad 0), .int x1, .int x2, .ref (ad aa), .long x4].toArray meth c bR_over (some .long) 9 RR := ⟨B.exec, B.bytes, B.returns, hml, findClass_of_methodNamed B.named, fun w h => atoms_spec (ws := (Cond.code yR_over bR_over 9 (some .long) :: gtb)) B.pre w (List.mem_cons_of_mem _ h), B.notSynchronized⟩
  have hl := lv_entry ([.ref (ad 0), .int x1, .int x2, .ref (ad aa), .long x4]) (n := 9) (Nat.le_of_ble_eq_true rfl)
  rw [lg_entry_eq]
  generalize (lg_sl ([.ref (ad 0), .int x1, .int x2, .ref (ad aa), .long x4]) ++ List.replicate (9 - (lg_sl ([.ref (ad 0), .int x1, .int x2, .ref (ad aa), .long x4])).length) Slot.unset).toArray = ls at hl ⊢
  have hl : lv_has ls 9 [(0, .ref (ad 0)), (1, .int x1), (2, .int x2), (3, .ref (ad aa)), (4, .long x4)] := hl
  have hA : ∀ q, s.heap.size ≤ q → va_A (wsR ad cI cJ cG I J) s.heap.size q := fun q h => Or.inr h
  exact w_R_over_0 X hK hN hA (gw_R_over X hK hN hA fuel) x1 x2 aa x4 I J hm _ _ _ hP hD0.self va_S.rf hl
def b_R_keepsAll_4 (k4 : Int32 → Int32 → Int32 → SI → SJ → Option (Int32 × SI × SJ)) (x1 : Int32) (x2 : Int32) (x3 : Int32) (I : SI) (J : SJ) : Option (Int32 × SI × SJ) :=
  if 22 ≤ x3 then
    gd (narrow .boolean (.int x2) = .int x2) <|
    some (x2, I, J)
  else
    if x2 = 0 then
      gd (narrow .boolean (.int x2) = .int x2) <|
      some (x2, I, J)
    else
      gd (vin x3 22) <|
      nm (I 11 x3.toNatClampNeg) fun v6 =>
      if v6 = 0 then
        nm (x3 + 1) fun v8 =>
        k4 x1 x2 v8 I J
      else
        cl3 (m_R_over x3 x1 15 (J 0 26) I J) fun r9 I10 J11 =>
        cl1 (m_R_isLeast x3) fun r13 =>
        if r13 = 0 then
          nm (lg_cmp r9 0) fun v16 =>
          if 0 < v16 then
            nm (x3 + 1) fun v18 =>
            k4 x1 0 v18 I10 J11
          else
            nm (x3 + 1) fun v19 =>
            k4 x1 1 v19 I10 J11
        else
          nm (lg_cmp r9 0) fun v20 =>
          if v20 < 0 then
            nm (x3 + 1) fun v22 =>
            k4 x1 0 v22 I10 J11
          else
            nm (x3 + 1) fun v23 =>
            k4 x1 1 v23 I10 J11
def b_R_keepsAll_0 (k4 : Int32 → Int32 → Int32 → SI → SJ → Option (Int32 × SI × SJ)) (x1 : Int32) (I : SI) (J : SJ) : Option (Int32 × SI × SJ) :=
  k4 x1 1 0 I J
def g_R_keepsAll : Nat → (Int32 → Int32 → Int32 → SI → SJ → Option (Int32 × SI × SJ))
  | 0 => (fun _ _ _ _ _ => none)
  | n + 1 => (fun x1 x2 x3 I J => b_R_keepsAll_4 (g_R_keepsAll n) x1 x2 x3 I J)
def m_R_keepsAll (x1 : Int32) (I : SI) (J : SJ) : Option (Int32 × SI × SJ) := b_R_keepsAll_0 (g_R_keepsAll fuel) x1 I J
def rm_R_keepsAll : Room := { frames := 2, cells := 0, slots := 0, locals := 50 }
set_option maxHeartbeats 4000000 in
set_option maxRecDepth 100000 in
theorem w_R_keepsAll_4 {p : Program} {l : Launch} {e : Env} {s : State} {m : MethodId} {args : Array Value} {below : List Frame} {meth : Method} {c : Code} {D : va_G} {A : Nat → Prop} {ad : Nat → Nat} {cI cJ cG : ClassId} {res : Int32 × SI × SJ} (X : Cx p s m args meth c bR_keepsAll (some .boolean) 6 RR) (hK : va_K D vwCl (tysR cI cJ cG) s) (hN : NWs s) (hA : ∀ q, s.heap.size ≤ q → A q)
    {k4 : Int32 → Int32 → Int32 → SI → SJ → Option (Int32 × SI × SJ)} (hk4 : ∀ (x1 : Int32) (x2 : Int32) (x3 : Int32) (I : SI) (J : SJ), k4 x1 x2 x3 I J = some res → WB p l e (headSpec (Cond.code yR_keepsAll bR_keepsAll 6 (some .boolean) :: gtb) rm_R_keepsAll).room s m args below meth c (MQ below (va_Qi (fun (r : Int32) (u : SI × SJ) => (r, u) = res) (atW D vwCl (tysR cI cJ cG) A (wsR ad cI cJ cG)) A) args s 0 0 A) D vwCl A 6 (wsR ad cI cJ cG I J) 4 [(0, .ref (ad 0)), (1, .int x1), (2, .int x2), (3, .int x3)] [])
     (x1 : Int32) (x2 : Int32) (x3 : Int32) (I : SI) (J : SJ) (hm : b_R_keepsAll_4 k4 x1 x2 x3 I J = some res) : WB p l e (headSpec (Cond.code yR_keepsAll bR_keepsAll 6 (some .boolean) :: gtb) rm_R_keepsAll).room s m args below meth c (MQ below (va_Qi (fun (r : Int32) (u : SI × SJ) => (r, u) = res) (atW D vwCl (tysR cI cJ cG) A (wsR ad cI cJ cG)) A) args s 0 0 A) D vwCl A 6 (wsR ad cI cJ cG I J) 4 [(0, .ref (ad 0)), (1, .int x1), (2, .int x2), (3, .int x3)] [] := by
  obtain ⟨hx, hb, hr, hml, hown, hT, hlk⟩ := X
  intro H locs ls hP hD hS hl
  unfold b_R_keepsAll_4 at hm
  refine lv_iload_n hx hb dR_keepsAll_4 rfl (lv_at hl 3 rfl) ?_
  refine lv_bipush (v := 22) hx hb dR_keepsAll_5 (by decide) ?_
  refine lv_icmp_ge (tgt := 80) hx hb dR_keepsAll_7 (by decide) (fun c1 => ?_) (fun c1 => ?_)
  · have hm := brp hm c1
    refine lv_iload_n hx hb dR_keepsAll_80 rfl (lv_at hl 2 rfl) ?_
    obtain ⟨g2, hm⟩ := gd_to hm
    exact W.zret hx hb hr g2 (fun t ht hW => ⟨⟨x2, (I, J), rfl, Option.some.inj hm, ht ▸ hP, va_K.moved hW.alike hK, hD⟩, hS.F ht⟩) hS.2.2 dR_keepsAll_81 hlk
  · have hm := brn hm c1
    refine lv_iload_n hx hb dR_keepsAll_10 rfl (lv_at hl 2 rfl) ?_
    refine lv_if_eq (tgt := 80) hx hb dR_keepsAll_11 (by decide) (fun c3 => ?_) (fun c3 => ?_)
    · have hm := brp hm c3
      refine lv_iload_n hx hb dR_keepsAll_80 rfl (lv_at hl 2 rfl) ?_
      obtain ⟨g4, hm⟩ := gd_to hm
      exact W.zret hx hb hr g4 (fun t ht hW => ⟨⟨x2, (I, J), rfl, Option.some.inj hm, ht ▸ hP, va_K.moved hW.alike hK, hD⟩, hS.F ht⟩) hS.2.2 dR_keepsAll_81 hlk
    · have hm := brn hm c3
      refine lv_aload_n hx hb dR_keepsAll_14 rfl (lv_at hl 0 rfl) ?_
      refine va_get (D := D) (ci := 6) (v := .ref (ad 11)) (C := RR) (T := TR) (N := 31) hx hb hT inR hown hK hP 0 rfl rfl 20 (by decide) (hT _ wd_555) (fun _ h9 => h9) rfl dR_keepsAll_15 ?_
      refine lv_iload_n hx hb dR_keepsAll_18 rfl (lv_at hl 3 rfl) ?_
      obtain ⟨g5, hm⟩ := gd_to hm
      refine va_zald hx hb hK hP 11 2 rfl rfl g5 dR_keepsAll_19 ?_
      refine lv_topi (fun v6 ev6 => ?_)
      have hm := nm_to ev6 hm
      refine lv_if_eq (tgt := 74) hx hb dR_keepsAll_20 (by decide) (fun c7 => ?_) (fun c7 => ?_)
      · have hm := brp hm c7
        obtain ⟨v8, ev8⟩ : ∃ z : Int32, z = x3 + 1 := ⟨_, rfl⟩
        have hm := nm_to ev8 hm
        refine lv_iinc (v := v8) (lv' := [(3, .int v8), (0, .ref (ad 0)), (1, .int x1), (2, .int x2)]) hx hb dR_keepsAll_74 hl (k := 3) rfl (by rw [ev8]; rfl) (by decide) rfl (fun ls hl => ?_)
        refine lv_goto (tgt := 4) hx hb dR_keepsAll_77 (by decide) ?_
        exact hk4 x1 x2 v8 I J hm _ _ _ hP hD hS (lv_sub hl [1, 2, 3, 0] rfl)
      · have hm := brn hm c7
        refine lv_aload_n hx hb dR_keepsAll_23 rfl (lv_at hl 0 rfl) ?_
        refine lv_iload_n hx hb dR_keepsAll_24 rfl (lv_at hl 3 rfl) ?_
        refine lv_iload_n hx hb dR_keepsAll_25 rfl (lv_at hl 1 rfl) ?_
        refine lv_aload_n hx hb dR_keepsAll_26 rfl (lv_at hl 0 rfl) ?_
        refine va_get (D := D) (ci := 6) (v := .ref (ad 15)) (C := RR) (T := TR) (N := 31) hx hb hT inR hown hK hP 0 rfl rfl 25 (by decide) (hT _ wd_560) (fun _ h9 => h9) rfl dR_keepsAll_27 ?_
        refine lv_aload_n hx hb dR_keepsAll_30 rfl (lv_at hl 0 rfl) ?_
        refine va_get (D := D) (ci := 6) (v := .long (J 0 26)) (C := RR) (T := TR) (N := 31) hx hb hT inR hown hK hP 0 rfl rfl 26 (by decide) (hT _ wd_561) (fun _ h9 => h9) rfl dR_keepsAll_31 ?_
        obtain ⟨r9, I10, J11, hc12, hm⟩ := cl3_to hm
        refine pst_l (wf := wsR ad cI cJ cG) hD hS hA (va_runV (As := [.int x3, .int x1, .ref (ad 15), .long (J 0 26)]) (rest := []) ⟨hx, hb, hml, hown, hT⟩ (c_R_over l D ad cI cJ cG _ x3 x1 15 (J 0 26) I J _ hc12) (cwV 4 hT (gV wd_711 wd_713 wd_43 wd_57 wd_714) rfl rfl rfl (by decide +kernel) ⟨Nat.le_of_ble_eq_true rfl, Nat.le_of_ble_eq_true rfl⟩) ⟨preW_fb, va_recv hK hP (ci := 6) (q0 := 0) rfl rfl, preW_at hP hK hN hD⟩ rfl rfl hl.1 rfl (lv_room (Nat.le_of_ble_eq_true rfl)) dR_keepsAll_34 ⟨Nat.zero_le _, Nat.zero_le _⟩) (fun H locs hP hD hS => ?_)
        refine lv_lstore (lv' := [(4, .long r9), (0, .ref (ad 0)), (1, .int x1), (2, .int x2), (3, .int x3)]) hx hb dR_keepsAll_37 hl (by decide) rfl (fun ls hl => ?_)
        refine lv_iload_n hx hb dR_keepsAll_39 rfl (lv_at hl 4 rfl) ?_
        obtain ⟨r13, hc14, hm⟩ := cl1_to hm
        refine pstZ_i hS (va_runS (As := [.int x3]) (rest := []) ⟨hx, hb, hml, hown, hT⟩ (c_R_isLeast l x3 _ hc14) (va_cwS 1 hT (gS wd_715 wd_716 wd_57 wd_717) rfl rfl rfl (by decide +kernel) ⟨Nat.le_of_ble_eq_true rfl, Nat.le_of_ble_eq_true rfl⟩) ⟨preZ_fb, preZ_at⟩ rfl rfl hl.1 rfl (lv_room (Nat.le_of_ble_eq_true rfl)) dR_keepsAll_40 ⟨Nat.zero_le _, Nat.zero_le _⟩) (fun H1 locs hq hS => ?_)
        have hP := keptP hP hq
        refine lv_if_eq (tgt := 61) hx hb dR_keepsAll_43 (by decide) (fun c15 => ?_) (fun c15 => ?_)
        · have hm := brp hm c15
          refine lv_lload hx hb dR_keepsAll_61 (lv_at hl 0 rfl) ?_
          refine lv_lconst (v := 0) hx hb dR_keepsAll_63 (by decide) ?_
          refine W.lcmp hx hb dR_keepsAll_64 ?_
          refine lv_topi (fun v16 ev16 => ?_)
          have hm := nm_to ev16 hm
          refine lv_if_gt (tgt := 72) hx hb dR_keepsAll_65 (by decide) (fun c17 => ?_) (fun c17 => ?_)
          · have hm := brp hm c17
            refine lv_iconst (v := 0) hx hb dR_keepsAll_72 (by decide) ?_
            refine lv_istore_n (lv' := [(2, .int 0), (4, .long r9), (0, .ref (ad 0)), (1, .int x1), (3, .int x3)]) hx hb dR_keepsAll_73 rfl hl (by decide) rfl (fun ls hl => ?_)
            obtain ⟨v18, ev18⟩ : ∃ z : Int32, z = x3 + 1 := ⟨_, rfl⟩
            have hm := nm_to ev18 hm
            refine lv_iinc (v := v18) (lv' := [(3, .int v18), (2, .int 0), (4, .long r9), (0, .ref (ad 0)), (1, .int x1)]) hx hb dR_keepsAll_74 hl (k := 4) rfl (by rw [ev18]; rfl) (by decide) rfl (fun ls hl => ?_)
            refine lv_goto (tgt := 4) hx hb dR_keepsAll_77 (by decide) ?_
            exact hk4 x1 0 v18 I10 J11 hm _ _ _ hP hD hS (lv_sub hl [3, 4, 1, 0] rfl)
          · have hm := brn hm c17
            refine lv_iconst (v := 1) hx hb dR_keepsAll_68 (by decide) ?_
            refine lv_goto (tgt := 73) hx hb dR_keepsAll_69 (by decide) ?_
            refine lv_istore_n (lv' := [(2, .int 1), (4, .long r9), (0, .ref (ad 0)), (1, .int x1), (3, .int x3)]) hx hb dR_keepsAll_73 rfl hl (by decide) rfl (fun ls hl => ?_)
            obtain ⟨v19, ev19⟩ : ∃ z : Int32, z = x3 + 1 := ⟨_, rfl⟩
            have hm := nm_to ev19 hm
            refine lv_iinc (v := v19) (lv' := [(3, .int v19), (2, .int 1), (4, .long r9), (0, .ref (ad 0)), (1, .int x1)]) hx hb dR_keepsAll_74 hl (k := 4) rfl (by rw [ev19]; rfl) (by decide) rfl (fun ls hl => ?_)
            refine lv_goto (tgt := 4) hx hb dR_keepsAll_77 (by decide) ?_
            exact hk4 x1 1 v19 I10 J11 hm _ _ _ hP hD hS (lv_sub hl [3, 4, 1, 0] rfl)
        · have hm := brn hm c15
          refine lv_lload hx hb dR_keepsAll_46 (lv_at hl 0 rfl) ?_
          refine lv_lconst (v := 0) hx hb dR_keepsAll_48 (by decide) ?_
          refine W.lcmp hx hb dR_keepsAll_49 ?_
          refine lv_topi (fun v20 ev20 => ?_)
          have hm := nm_to ev20 hm
          refine lv_if_lt (tgt := 57) hx hb dR_keepsAll_50 (by decide) (fun c21 => ?_) (fun c21 => ?_)
          · have hm := brp hm c21
            refine lv_iconst (v := 0) hx hb dR_keepsAll_57 (by decide) ?_
            refine lv_goto (tgt := 73) hx hb dR_keepsAll_58 (by decide) ?_
            refine lv_istore_n (lv' := [(2, .int 0), (4, .long r9), (0, .ref (ad 0)), (1, .int x1), (3, .int x3)]) hx hb dR_keepsAll_73 rfl hl (by decide) rfl (fun ls hl => ?_)
            obtain ⟨v22, ev22⟩ : ∃ z : Int32, z = x3 + 1 := ⟨_, rfl⟩
            have hm := nm_to ev22 hm
            refine lv_iinc (v := v22) (lv' := [(3, .int v22), (2, .int 0), (4, .long r9), (0, .ref (ad 0)), (1, .int x1)]) hx hb dR_keepsAll_74 hl (k := 4) rfl (by rw [ev22]; rfl) (by decide) rfl (fun ls hl => ?_)
            refine lv_goto (tgt := 4) hx hb dR_keepsAll_77 (by decide) ?_
            exact hk4 x1 0 v22 I10 J11 hm _ _ _ hP hD hS (lv_sub hl [3, 4, 1, 0] rfl)
          · have hm := brn hm c21
            refine lv_iconst (v := 1) hx hb dR_keepsAll_53 (by decide) ?_
            refine lv_goto (tgt := 73) hx hb dR_keepsAll_54 (by decide) ?_
            refine lv_istore_n (lv' := [(2, .int 1), (4, .long r9), (0, .ref (ad 0)), (1, .int x1), (3, .int x3)]) hx hb dR_keepsAll_73 rfl hl (by decide) rfl (fun ls hl => ?_)
            obtain ⟨v23, ev23⟩ : ∃ z : Int32, z = x3 + 1 := ⟨_, rfl⟩
            have hm := nm_to ev23 hm
            refine lv_iinc (v := v23) (lv' := [(3, .int v23), (2, .int 1), (4, .long r9), (0, .ref (ad 0)), (1, .int x1)]) hx hb dR_keepsAll_74 hl (k := 4) rfl (by rw [ev23]; rfl) (by decide) rfl (fun ls hl => ?_)
            refine lv_goto (tgt := 4) hx hb dR_keepsAll_77 (by decide) ?_
            exact hk4 x1 1 v23 I10 J11 hm _ _ _ hP hD hS (lv_sub hl [3, 4, 1, 0] rfl)
set_option maxHeartbeats 4000000 in
set_option maxRecDepth 100000 in
theorem w_R_keepsAll_0 {p : Program} {l : Launch} {e : Env} {s : State} {m : MethodId} {args : Array Value} {below : List Frame} {meth : Method} {c : Code} {D : va_G} {A : Nat → Prop} {ad : Nat → Nat} {cI cJ cG : ClassId} {res : Int32 × SI × SJ} (X : Cx p s m args meth c bR_keepsAll (some .boolean) 6 RR) (hK : va_K D vwCl (tysR cI cJ cG) s) (hN : NWs s) (hA : ∀ q, s.heap.size ≤ q → A q)
    {k4 : Int32 → Int32 → Int32 → SI → SJ → Option (Int32 × SI × SJ)} (hk4 : ∀ (x1 : Int32) (x2 : Int32) (x3 : Int32) (I : SI) (J : SJ), k4 x1 x2 x3 I J = some res → WB p l e (headSpec (Cond.code yR_keepsAll bR_keepsAll 6 (some .boolean) :: gtb) rm_R_keepsAll).room s m args below meth c (MQ below (va_Qi (fun (r : Int32) (u : SI × SJ) => (r, u) = res) (atW D vwCl (tysR cI cJ cG) A (wsR ad cI cJ cG)) A) args s 0 0 A) D vwCl A 6 (wsR ad cI cJ cG I J) 4 [(0, .ref (ad 0)), (1, .int x1), (2, .int x2), (3, .int x3)] [])
     (x1 : Int32) (I : SI) (J : SJ) (hm : b_R_keepsAll_0 k4 x1 I J = some res) : WB p l e (headSpec (Cond.code yR_keepsAll bR_keepsAll 6 (some .boolean) :: gtb) rm_R_keepsAll).room s m args below meth c (MQ below (va_Qi (fun (r : Int32) (u : SI × SJ) => (r, u) = res) (atW D vwCl (tysR cI cJ cG) A (wsR ad cI cJ cG)) A) args s 0 0 A) D vwCl A 6 (wsR ad cI cJ cG I J) 0 [(0, .ref (ad 0)), (1, .int x1)] [] := by
  obtain ⟨hx, hb, hr, hml, hown, hT, hlk⟩ := X
  intro H locs ls hP hD hS hl
  unfold b_R_keepsAll_0 at hm
  refine lv_iconst (v := 1) hx hb dR_keepsAll_0 (by decide) ?_
  refine lv_istore_n (lv' := [(2, .int 1), (0, .ref (ad 0)), (1, .int x1)]) hx hb dR_keepsAll_1 rfl hl (by decide) rfl (fun ls hl => ?_)
  refine lv_iconst (v := 0) hx hb dR_keepsAll_2 (by decide) ?_
  refine lv_istore_n (lv' := [(3, .int 0), (2, .int 1), (0, .ref (ad 0)), (1, .int x1)]) hx hb dR_keepsAll_3 rfl hl (by decide) rfl (fun ls hl => ?_)
  exact hk4 x1 1 0 I J hm _ _ _ hP hD hS (lv_sub hl [2, 3, 1, 0] rfl)
set_option maxHeartbeats 4000000 in
theorem gw_R_keepsAll {p : Program} {l : Launch} {e : Env} {s : State} {m : MethodId} {args : Array Value} {below : List Frame} {meth : Method} {c : Code} {D : va_G} {A : Nat → Prop} {ad : Nat → Nat} {cI cJ cG : ClassId} {res : Int32 × SI × SJ} (X : Cx p s m args meth c bR_keepsAll (some .boolean) 6 RR) (hK : va_K D vwCl (tysR cI cJ cG) s) (hN : NWs s) (hA : ∀ q, s.heap.size ≤ q → A q) : ∀ n : Nat, (∀ (x1 : Int32) (x2 : Int32) (x3 : Int32) (I : SI) (J : SJ), (g_R_keepsAll n) x1 x2 x3 I J = some res → WB p l e (headSpec (Cond.code yR_keepsAll bR_keepsAll 6 (some .boolean) :: gtb) rm_R_keepsAll).room s m args below meth c (MQ below (va_Qi (fun (r : Int32) (u : SI × SJ) => (r, u) = res) (atW D vwCl (tysR cI cJ cG) A (wsR ad cI cJ cG)) A) args s 0 0 A) D vwCl A 6 (wsR ad cI cJ cG I J) 4 [(0, .ref (ad 0)), (1, .int x1), (2, .int x2), (3, .int x3)] []) := by
  intro n
  induction n with
  | zero => exact fun _ _ _ _ _ h => (by cases h)
  | succ n ih =>
    have ih4 := ih
    exact fun x1 x2 x3 I J h => w_R_keepsAll_4 X hK hN hA ih4 x1 x2 x3 I J h
set_option maxHeartbeats 4000000 in
set_option maxRecDepth 100000 in
theorem c_R_keepsAll (l : Launch) (D : va_G) (ad : Nat → Nat) (cI cJ cG : ClassId) (sz : Nat) (x1 : Int32) (I : SI) (J : SJ) (res : Int32 × SI × SJ) (hm : m_R_keepsAll x1 I J = some res) : Met l yR_keepsAll (Cond.code yR_keepsAll bR_keepsAll 6 (some .boolean) :: gtb) rm_R_keepsAll (va_Pc [.ref (ad 0), .int x1] (preW D vwCl (tysR cI cJ cG) (wsR ad cI cJ cG I J) sz)) (va_Qi (fun (r : Int32) (u : SI × SJ) => (r, u) = res) (atW D vwCl (tysR cI cJ cG) (va_A (wsR ad cI cJ cG I J) sz) (wsR ad cI cJ cG)) (va_A (wsR ad cI cJ cG I J) sz)) 0 0 (va_A (wsR ad cI cJ cG I J) sz) := by
  refine Met.ofW (cc := bR_keepsAll) (maxL := 6) (ret := (some .boolean)) (by decide) rfl ?_
  intro p e s m args below meth c s₁ B hml hv
  obtain ⟨rfl, hsz, hP, hK, hD0, hN⟩ := hv
  subst hsz
  have X : Cx p s m [.ref (ad 0), .int x1].toArray meth c bR_keepsAll (some .boolean) 6 RR := ⟨B.exec, B.bytes, B.returns, hml, findClass_of_methodNamed B.named, fun w h => atoms_spec (ws := (Cond.code yR_keepsAll bR_keepsAll 6 (some .boolean) :: gtb)) B.pre w (List.mem_cons_of_mem _ h), B.notSynchronized⟩
  have hl := lv_entry ([.ref (ad 0), .int x1]) (n := 6) (Nat.le_of_ble_eq_true rfl)
  rw [lg_entry_eq]
  generalize (lg_sl ([.ref (ad 0), .int x1]) ++ List.replicate (6 - (lg_sl ([.ref (ad 0), .int x1])).length) Slot.unset).toArray = ls at hl ⊢
  have hl : lv_has ls 6 [(0, .ref (ad 0)), (1, .int x1)] := hl
  have hA : ∀ q, s.heap.size ≤ q → va_A (wsR ad cI cJ cG I J) s.heap.size q := fun q h => Or.inr h
  exact w_R_keepsAll_0 X hK hN hA (gw_R_keepsAll X hK hN hA fuel) x1 I J hm _ _ _ hP hD0.self va_S.rf hl
def b_R_costOf_5 (k5 : Nat → Int64 → Int32 → SI → SJ → Option (Int64 × SI × SJ)) (aa : Nat) (x2 : Int64) (x4 : Int32) (I : SI) (J : SJ) : Option (Int64 × SI × SJ) :=
  gd (aa ∈ [15, 17]) <|
  if (I 0 0) ≤ x4 then
    some (x2, I, J)
  else
    gd (vin x4 4) <|
    nm (I 1 x4.toNatClampNeg) fun v3 =>
    nm (Int32.toInt64 v3) fun v4 =>
    gd (vin x4 4) <|
    nm (J aa x4.toNatClampNeg) fun v6 =>
    nm (v4 * v6) fun v7 =>
    nm (x2 + v7) fun v8 =>
    nm (x4 + 1) fun v9 =>
    k5 aa v8 v9 I J
def b_R_costOf_0 (k5 : Nat → Int64 → Int32 → SI → SJ → Option (Int64 × SI × SJ)) (aa : Nat) (I : SI) (J : SJ) : Option (Int64 × SI × SJ) :=
  gd (aa ∈ [15, 17]) <|
  k5 aa 0 0 I J
def g_R_costOf : Nat → (Nat → Int64 → Int32 → SI → SJ → Option (Int64 × SI × SJ))
  | 0 => (fun _ _ _ _ _ => none)
  | n + 1 => (fun aa x2 x4 I J => b_R_costOf_5 (g_R_costOf n) aa x2 x4 I J)
def m_R_costOf (aa : Nat) (I : SI) (J : SJ) : Option (Int64 × SI × SJ) := b_R_costOf_0 (g_R_costOf fuel) aa I J
def rm_R_costOf : Room := { frames := 0, cells := 0, slots := 0, locals := 0 }
set_option maxHeartbeats 4000000 in
set_option maxRecDepth 100000 in
theorem w_R_costOf_5 {p : Program} {l : Launch} {e : Env} {s : State} {m : MethodId} {args : Array Value} {below : List Frame} {meth : Method} {c : Code} {D : va_G} {A : Nat → Prop} {ad : Nat → Nat} {cI cJ cG : ClassId} {res : Int64 × SI × SJ} (X : Cx p s m args meth c bR_costOf (some .long) 5 RR) (hK : va_K D vwCl (tysR cI cJ cG) s) (hN : NWs s) (hA : ∀ q, s.heap.size ≤ q → A q)
    {k5 : Nat → Int64 → Int32 → SI → SJ → Option (Int64 × SI × SJ)} (hk5 : ∀ (aa : Nat) (x2 : Int64) (x4 : Int32) (I : SI) (J : SJ), k5 aa x2 x4 I J = some res → WB p l e (headSpec (Cond.code yR_costOf bR_costOf 5 (some .long) :: gtb) rm_R_costOf).room s m args below meth c (MQ below (va_Ql (fun (r : Int64) (u : SI × SJ) => (r, u) = res) (atW D vwCl (tysR cI cJ cG) A (wsR ad cI cJ cG)) A) args s 0 0 A) D vwCl A 5 (wsR ad cI cJ cG I J) 5 [(0, .ref (ad 0)), (1, .ref (ad aa)), (2, .long x2), (4, .int x4)] [])
     (aa : Nat) (x2 : Int64) (x4 : Int32) (I : SI) (J : SJ) (hm : b_R_costOf_5 k5 aa x2 x4 I J = some res) : WB p l e (headSpec (Cond.code yR_costOf bR_costOf 5 (some .long) :: gtb) rm_R_costOf).room s m args below meth c (MQ below (va_Ql (fun (r : Int64) (u : SI × SJ) => (r, u) = res) (atW D vwCl (tysR cI cJ cG) A (wsR ad cI cJ cG)) A) args s 0 0 A) D vwCl A 5 (wsR ad cI cJ cG I J) 5 [(0, .ref (ad 0)), (1, .ref (ad aa)), (2, .long x2), (4, .int x4)] [] := by
  obtain ⟨hx, hb, hr, hml, hown, hT, hlk⟩ := X
  intro H locs ls hP hD hS hl
  unfold b_R_costOf_5 at hm
  obtain ⟨hf_aa, hm⟩ := gd_to hm
  refine lv_iload hx hb dR_costOf_5 (lv_at hl 3 rfl) ?_
  refine lv_aload_n hx hb dR_costOf_7 rfl (lv_at hl 0 rfl) ?_
  refine va_get (D := D) (ci := 6) (v := .int (I 0 0)) (C := RR) (T := TR) (N := 31) hx hb hT inR hown hK hP 0 rfl rfl 0 (by decide) (hT _ wd_535) (fun _ h9 => h9) rfl dR_costOf_8 ?_
  refine lv_icmp_ge (tgt := 36) hx hb dR_costOf_11 (by decide) (fun c1 => ?_) (fun c1 => ?_)
  · have hm := brp hm c1
    refine lv_lload_n hx hb dR_costOf_36 rfl (lv_at hl 2 rfl) ?_
    exact W.lret hx hb hr (fun t ht hW => ⟨⟨x2, (I, J), rfl, Option.some.inj hm, ht ▸ hP, va_K.moved hW.alike hK, hD⟩, hS.F ht⟩) hS.2.2 dR_costOf_37 hlk
  · have hm := brn hm c1
    refine lv_lload_n hx hb dR_costOf_14 rfl (lv_at hl 2 rfl) ?_
    refine lv_aload_n hx hb dR_costOf_15 rfl (lv_at hl 0 rfl) ?_
    refine va_get (D := D) (ci := 6) (v := .ref (ad 1)) (C := RR) (T := TR) (N := 31) hx hb hT inR hown hK hP 0 rfl rfl 1 (by decide) (hT _ wd_536) (fun _ h9 => h9) rfl dR_costOf_16 ?_
    refine lv_iload hx hb dR_costOf_19 (lv_at hl 3 rfl) ?_
    obtain ⟨g2, hm⟩ := gd_to hm
    refine va_iald hx hb hK hP 1 0 rfl rfl g2 dR_costOf_21 ?_
    refine lv_topi (fun v3 ev3 => ?_)
    have hm := nm_to ev3 hm
    refine lv_i2l hx hb dR_costOf_22 rfl ?_
    refine lv_topl (fun v4 ev4 => ?_)
    have hm := nm_to ev4 hm
    refine lv_aload_n hx hb dR_costOf_23 rfl (lv_at hl 1 rfl) ?_
    refine lv_iload hx hb dR_costOf_24 (lv_at hl 3 rfl) ?_
    obtain ⟨g5, hm⟩ := gd_to hm
    refine va_lald hx hb hK hP aa 1 (famR_am hf_aa) rfl g5 dR_costOf_26 ?_
    refine lv_topl (fun v6 ev6 => ?_)
    have hm := nm_to ev6 hm
    refine lv_lmul hx hb dR_costOf_27 ?_
    refine lv_topl (fun v7 ev7 => ?_)
    have hm := nm_to ev7 hm
    refine lv_ladd hx hb dR_costOf_28 ?_
    refine lv_topl (fun v8 ev8 => ?_)
    have hm := nm_to ev8 hm
    refine lv_lstore_n (lv' := [(2, .long v8), (0, .ref (ad 0)), (1, .ref (ad aa)), (4, .int x4)]) hx hb dR_costOf_29 rfl hl (by decide) rfl (fun ls hl => ?_)
    obtain ⟨v9, ev9⟩ : ∃ z : Int32, z = x4 + 1 := ⟨_, rfl⟩
    have hm := nm_to ev9 hm
    refine lv_iinc (v := v9) (lv' := [(4, .int v9), (2, .long v8), (0, .ref (ad 0)), (1, .ref (ad aa))]) hx hb dR_costOf_30 hl (k := 3) rfl (by rw [ev9]; rfl) (by decide) rfl (fun ls hl => ?_)
    refine lv_goto (tgt := 5) hx hb dR_costOf_33 (by decide) ?_
    exact hk5 aa v8 v9 I J hm _ _ _ hP hD hS (lv_sub hl [2, 3, 1, 0] rfl)
set_option maxHeartbeats 4000000 in
set_option maxRecDepth 100000 in
theorem w_R_costOf_0 {p : Program} {l : Launch} {e : Env} {s : State} {m : MethodId} {args : Array Value} {below : List Frame} {meth : Method} {c : Code} {D : va_G} {A : Nat → Prop} {ad : Nat → Nat} {cI cJ cG : ClassId} {res : Int64 × SI × SJ} (X : Cx p s m args meth c bR_costOf (some .long) 5 RR) (hK : va_K D vwCl (tysR cI cJ cG) s) (hN : NWs s) (hA : ∀ q, s.heap.size ≤ q → A q)
    {k5 : Nat → Int64 → Int32 → SI → SJ → Option (Int64 × SI × SJ)} (hk5 : ∀ (aa : Nat) (x2 : Int64) (x4 : Int32) (I : SI) (J : SJ), k5 aa x2 x4 I J = some res → WB p l e (headSpec (Cond.code yR_costOf bR_costOf 5 (some .long) :: gtb) rm_R_costOf).room s m args below meth c (MQ below (va_Ql (fun (r : Int64) (u : SI × SJ) => (r, u) = res) (atW D vwCl (tysR cI cJ cG) A (wsR ad cI cJ cG)) A) args s 0 0 A) D vwCl A 5 (wsR ad cI cJ cG I J) 5 [(0, .ref (ad 0)), (1, .ref (ad aa)), (2, .long x2), (4, .int x4)] [])
     (aa : Nat) (I : SI) (J : SJ) (hm : b_R_costOf_0 k5 aa I J = some res) : WB p l e (headSpec (Cond.code yR_costOf bR_costOf 5 (some .long) :: gtb) rm_R_costOf).room s m args below meth c (MQ below (va_Ql (fun (r : Int64) (u : SI × SJ) => (r, u) = res) (atW D vwCl (tysR cI cJ cG) A (wsR ad cI cJ cG)) A) args s 0 0 A) D vwCl A 5 (wsR ad cI cJ cG I J) 0 [(0, .ref (ad 0)), (1, .ref (ad aa))] [] := by
  obtain ⟨hx, hb, hr, hml, hown, hT, hlk⟩ := X
  intro H locs ls hP hD hS hl
  unfold b_R_costOf_0 at hm
  obtain ⟨hf_aa, hm⟩ := gd_to hm
  refine lv_lconst (v := 0) hx hb dR_costOf_0 (by decide) ?_
  refine lv_lstore_n (lv' := [(2, .long 0), (0, .ref (ad 0)), (1, .ref (ad aa))]) hx hb dR_costOf_1 rfl hl (by decide) rfl (fun ls hl => ?_)
  refine lv_iconst (v := 0) hx hb dR_costOf_2 (by decide) ?_
  refine lv_istore (lv' := [(4, .int 0), (2, .long 0), (0, .ref (ad 0)), (1, .ref (ad aa))]) hx hb dR_costOf_3 hl (by decide) rfl (fun ls hl => ?_)
  exact hk5 aa 0 0 I J hm _ _ _ hP hD hS (lv_sub hl [2, 3, 1, 0] rfl)
set_option maxHeartbeats 4000000 in
theorem gw_R_costOf {p : Program} {l : Launch} {e : Env} {s : State} {m : MethodId} {args : Array Value} {below : List Frame} {meth : Method} {c : Code} {D : va_G} {A : Nat → Prop} {ad : Nat → Nat} {cI cJ cG : ClassId} {res : Int64 × SI × SJ} (X : Cx p s m args meth c bR_costOf (some .long) 5 RR) (hK : va_K D vwCl (tysR cI cJ cG) s) (hN : NWs s) (hA : ∀ q, s.heap.size ≤ q → A q) : ∀ n : Nat, (∀ (aa : Nat) (x2 : Int64) (x4 : Int32) (I : SI) (J : SJ), (g_R_costOf n) aa x2 x4 I J = some res → WB p l e (headSpec (Cond.code yR_costOf bR_costOf 5 (some .long) :: gtb) rm_R_costOf).room s m args below meth c (MQ below (va_Ql (fun (r : Int64) (u : SI × SJ) => (r, u) = res) (atW D vwCl (tysR cI cJ cG) A (wsR ad cI cJ cG)) A) args s 0 0 A) D vwCl A 5 (wsR ad cI cJ cG I J) 5 [(0, .ref (ad 0)), (1, .ref (ad aa)), (2, .long x2), (4, .int x4)] []) := by
  intro n
  induction n with
  | zero => exact fun _ _ _ _ _ h => (by cases h)
  | succ n ih =>
    have ih5 := ih
    exact fun aa x2 x4 I J h => w_R_costOf_5 X hK hN hA ih5 aa x2 x4 I J h
set_option maxHeartbeats 4000000 in
set_option maxRecDepth 100000 in
theorem c_R_costOf (l : Launch) (D : va_G) (ad : Nat → Nat) (cI cJ cG : ClassId) (sz : Nat) (aa : Nat) (I : SI) (J : SJ) (res : Int64 × SI × SJ) (hm : m_R_costOf aa I J = some res) : Met l yR_costOf (Cond.code yR_costOf bR_costOf 5 (some .long) :: gtb) rm_R_costOf (va_Pc [.ref (ad 0), .ref (ad aa)] (preW D vwCl (tysR cI cJ cG) (wsR ad cI cJ cG I J) sz)) (va_Ql (fun (r : Int64) (u : SI × SJ) => (r, u) = res) (atW D vwCl (tysR cI cJ cG) (va_A (wsR ad cI cJ cG I J) sz) (wsR ad cI cJ cG)) (va_A (wsR ad cI cJ cG I J) sz)) 0 0 (va_A (wsR ad cI cJ cG I J) sz) := by
  refine Met.ofW (cc := bR_costOf) (maxL := 5) (ret := (some .long)) (by decide) rfl ?_
  intro p e s m args below meth c s₁ B hml hv
  obtain ⟨rfl, hsz, hP, hK, hD0, hN⟩ := hv
  subst hsz
  have X : Cx p s m [.ref (ad 0), .ref (ad aa)].toArray meth c bR_costOf (some .long) 5 RR := ⟨B.exec, B.bytes, B.returns, hml, findClass_of_methodNamed B.named, fun w h => atoms_spec (ws := (Cond.code yR_costOf bR_costOf 5 (some .long) :: gtb)) B.pre w (List.mem_cons_of_mem _ h), B.notSynchronized⟩
  have hl := lv_entry ([.ref (ad 0), .ref (ad aa)]) (n := 5) (Nat.le_of_ble_eq_true rfl)
  rw [lg_entry_eq]
  generalize (lg_sl ([.ref (ad 0), .ref (ad aa)]) ++ List.replicate (5 - (lg_sl ([.ref (ad 0), .ref (ad aa)])).length) Slot.unset).toArray = ls at hl ⊢
  have hl : lv_has ls 5 [(0, .ref (ad 0)), (1, .ref (ad aa))] := hl
  have hA : ∀ q, s.heap.size ≤ q → va_A (wsR ad cI cJ cG I J) s.heap.size q := fun q h => Or.inr h
  exact w_R_costOf_0 X hK hN hA (gw_R_costOf X hK hN hA fuel) aa I J hm _ _ _ hP hD0.self va_S.rf hl
def b_R_isBetter_31 (k31 : Int64 → Int64 → Int32 → SI → SJ → Option (Int32 × SI × SJ)) (x1 : Int64) (x3 : Int64) (x5 : Int32) (I : SI) (J : SJ) : Option (Int32 × SI × SJ) :=
  if (I 0 0) ≤ x5 then
    nm (lg_cmp x1 x3) fun v2 =>
    if 0 ≤ v2 then
      some (0, I, J)
    else
      some (1, I, J)
  else
    nm (lg_cmp x1 x3) fun v4 =>
    if v4 = 0 then
      gd (vin x5 4) <|
      nm (J 15 x5.toNatClampNeg) fun v9 =>
      nm (v9 * (J 0 30)) fun v10 =>
      gd (vin x5 4) <|
      nm (J 17 x5.toNatClampNeg) fun v12 =>
      nm (v12 * (J 0 26)) fun v13 =>
      nm (x5 + 1) fun v14 =>
      k31 v10 v13 v14 I J
    else
      nm (lg_cmp x1 x3) fun v6 =>
      if 0 ≤ v6 then
        some (0, I, J)
      else
        some (1, I, J)
def b_R_isBetter_0 (k31 : Int64 → Int64 → Int32 → SI → SJ → Option (Int32 × SI × SJ)) (I : SI) (J : SJ) : Option (Int32 × SI × SJ) :=
  cl3 (m_R_costOf 15 I J) fun r1 I2 J3 =>
  nm (r1 * (J3 0 30)) fun v5 =>
  cl3 (m_R_costOf 17 I2 J3) fun r6 I7 J8 =>
  nm (r6 * (J8 0 26)) fun v10 =>
  k31 v5 v10 0 I7 J8
def g_R_isBetter : Nat → (Int64 → Int64 → Int32 → SI → SJ → Option (Int32 × SI × SJ))
  | 0 => (fun _ _ _ _ _ => none)
  | n + 1 => (fun x1 x3 x5 I J => b_R_isBetter_31 (g_R_isBetter n) x1 x3 x5 I J)
def m_R_isBetter (I : SI) (J : SJ) : Option (Int32 × SI × SJ) := b_R_isBetter_0 (g_R_isBetter fuel)  I J
def rm_R_isBetter : Room := { frames := 1, cells := 0, slots := 0, locals := 24 }
set_option maxHeartbeats 4000000 in
set_option maxRecDepth 100000 in
theorem w_R_isBetter_31 {p : Program} {l : Launch} {e : Env} {s : State} {m : MethodId} {args : Array Value} {below : List Frame} {meth : Method} {c : Code} {D : va_G} {A : Nat → Prop} {ad : Nat → Nat} {cI cJ cG : ClassId} {res : Int32 × SI × SJ} (X : Cx p s m args meth c bR_isBetter (some .boolean) 6 RR) (hK : va_K D vwCl (tysR cI cJ cG) s) (hN : NWs s) (hA : ∀ q, s.heap.size ≤ q → A q)
    {k31 : Int64 → Int64 → Int32 → SI → SJ → Option (Int32 × SI × SJ)} (hk31 : ∀ (x1 : Int64) (x3 : Int64) (x5 : Int32) (I : SI) (J : SJ), k31 x1 x3 x5 I J = some res → WB p l e (headSpec (Cond.code yR_isBetter bR_isBetter 6 (some .boolean) :: gtb) rm_R_isBetter).room s m args below meth c (MQ below (va_Qi (fun (r : Int32) (u : SI × SJ) => (r, u) = res) (atW D vwCl (tysR cI cJ cG) A (wsR ad cI cJ cG)) A) args s 0 0 A) D vwCl A 6 (wsR ad cI cJ cG I J) 31 [(0, .ref (ad 0)), (1, .long x1), (3, .long x3), (5, .int x5)] [])
     (x1 : Int64) (x3 : Int64) (x5 : Int32) (I : SI) (J : SJ) (hm : b_R_isBetter_31 k31 x1 x3 x5 I J = some res) : WB p l e (headSpec (Cond.code yR_isBetter bR_isBetter 6 (some .boolean) :: gtb) rm_R_isBetter).room s m args below meth c (MQ below (va_Qi (fun (r : Int32) (u : SI × SJ) => (r, u) = res) (atW D vwCl (tysR cI cJ cG) A (wsR ad cI cJ cG)) A) args s 0 0 A) D vwCl A 6 (wsR ad cI cJ cG I J) 31 [(0, .ref (ad 0)), (1, .long x1), (3, .long x3), (5, .int x5)] [] := by
  obtain ⟨hx, hb, hr, hml, hown, hT, hlk⟩ := X
  intro H locs ls hP hD hS hl
  unfold b_R_isBetter_31 at hm
  refine lv_iload hx hb dR_isBetter_31 (lv_at hl 3 rfl) ?_
  refine lv_aload_n hx hb dR_isBetter_33 rfl (lv_at hl 0 rfl) ?_
  refine va_get (D := D) (ci := 6) (v := .int (I 0 0)) (C := RR) (T := TR) (N := 31) hx hb hT inR hown hK hP 0 rfl rfl 0 (by decide) (hT _ wd_535) (fun _ h9 => h9) rfl dR_isBetter_34 ?_
  refine lv_icmp_ge (tgt := 78) hx hb dR_isBetter_37 (by decide) (fun c1 => ?_) (fun c1 => ?_)
  · have hm := brp hm c1
    refine lv_lload_n hx hb dR_isBetter_78 rfl (lv_at hl 1 rfl) ?_
    refine lv_lload_n hx hb dR_isBetter_79 rfl (lv_at hl 2 rfl) ?_
    refine W.lcmp hx hb dR_isBetter_80 ?_
    refine lv_topi (fun v2 ev2 => ?_)
    have hm := nm_to ev2 hm
    refine lv_if_ge (tgt := 88) hx hb dR_isBetter_81 (by decide) (fun c3 => ?_) (fun c3 => ?_)
    · have hm := brp hm c3
      refine lv_iconst (v := 0) hx hb dR_isBetter_88 (by decide) ?_
      exact W.zret hx hb hr rfl (fun t ht hW => ⟨⟨0, (I, J), rfl, Option.some.inj hm, ht ▸ hP, va_K.moved hW.alike hK, hD⟩, hS.F ht⟩) hS.2.2 dR_isBetter_89 hlk
    · have hm := brn hm c3
      refine lv_iconst (v := 1) hx hb dR_isBetter_84 (by decide) ?_
      refine lv_goto (tgt := 89) hx hb dR_isBetter_85 (by decide) ?_
      exact W.zret hx hb hr rfl (fun t ht hW => ⟨⟨1, (I, J), rfl, Option.some.inj hm, ht ▸ hP, va_K.moved hW.alike hK, hD⟩, hS.F ht⟩) hS.2.2 dR_isBetter_89 hlk
  · have hm := brn hm c1
    refine lv_lload_n hx hb dR_isBetter_40 rfl (lv_at hl 1 rfl) ?_
    refine lv_lload_n hx hb dR_isBetter_41 rfl (lv_at hl 2 rfl) ?_
    refine W.lcmp hx hb dR_isBetter_42 ?_
    refine lv_topi (fun v4 ev4 => ?_)
    have hm := nm_to ev4 hm
    refine lv_if_ne (tgt := 78) hx hb dR_isBetter_43 (by decide) (fun c5 => ?_) (fun c5 => ?_)
    · have hm := brn hm c5
      refine lv_lload_n hx hb dR_isBetter_78 rfl (lv_at hl 1 rfl) ?_
      refine lv_lload_n hx hb dR_isBetter_79 rfl (lv_at hl 2 rfl) ?_
      refine W.lcmp hx hb dR_isBetter_80 ?_
      refine lv_topi (fun v6 ev6 => ?_)
      have hm := nm_to ev6 hm
      refine lv_if_ge (tgt := 88) hx hb dR_isBetter_81 (by decide) (fun c7 => ?_) (fun c7 => ?_)
      · have hm := brp hm c7
        refine lv_iconst (v := 0) hx hb dR_isBetter_88 (by decide) ?_
        exact W.zret hx hb hr rfl (fun t ht hW => ⟨⟨0, (I, J), rfl, Option.some.inj hm, ht ▸ hP, va_K.moved hW.alike hK, hD⟩, hS.F ht⟩) hS.2.2 dR_isBetter_89 hlk
      · have hm := brn hm c7
        refine lv_iconst (v := 1) hx hb dR_isBetter_84 (by decide) ?_
        refine lv_goto (tgt := 89) hx hb dR_isBetter_85 (by decide) ?_
        exact W.zret hx hb hr rfl (fun t ht hW => ⟨⟨1, (I, J), rfl, Option.some.inj hm, ht ▸ hP, va_K.moved hW.alike hK, hD⟩, hS.F ht⟩) hS.2.2 dR_isBetter_89 hlk
    · have hm := brp hm c5
      refine lv_aload_n hx hb dR_isBetter_46 rfl (lv_at hl 0 rfl) ?_
      refine va_get (D := D) (ci := 6) (v := .ref (ad 15)) (C := RR) (T := TR) (N := 31) hx hb hT inR hown hK hP 0 rfl rfl 25 (by decide) (hT _ wd_560) (fun _ h9 => h9) rfl dR_isBetter_47 ?_
      refine lv_iload hx hb dR_isBetter_50 (lv_at hl 3 rfl) ?_
      obtain ⟨g8, hm⟩ := gd_to hm
      refine va_lald hx hb hK hP 15 1 rfl rfl g8 dR_isBetter_52 ?_
      refine lv_topl (fun v9 ev9 => ?_)
      have hm := nm_to ev9 hm
      refine lv_aload_n hx hb dR_isBetter_53 rfl (lv_at hl 0 rfl) ?_
      refine va_get (D := D) (ci := 6) (v := .long (J 0 30)) (C := RR) (T := TR) (N := 31) hx hb hT inR hown hK hP 0 rfl rfl 30 (by decide) (hT _ wd_565) (fun _ h9 => h9) rfl dR_isBetter_54 ?_
      refine lv_lmul hx hb dR_isBetter_57 ?_
      refine lv_topl (fun v10 ev10 => ?_)
      have hm := nm_to ev10 hm
      refine lv_lstore_n (lv' := [(1, .long v10), (0, .ref (ad 0)), (3, .long x3), (5, .int x5)]) hx hb dR_isBetter_58 rfl hl (by decide) rfl (fun ls hl => ?_)
      refine lv_aload_n hx hb dR_isBetter_59 rfl (lv_at hl 1 rfl) ?_
      refine va_get (D := D) (ci := 6) (v := .ref (ad 17)) (C := RR) (T := TR) (N := 31) hx hb hT inR hown hK hP 0 rfl rfl 29 (by decide) (hT _ wd_564) (fun _ h9 => h9) rfl dR_isBetter_60 ?_
      refine lv_iload hx hb dR_isBetter_63 (lv_at hl 3 rfl) ?_
      obtain ⟨g11, hm⟩ := gd_to hm
      refine va_lald hx hb hK hP 17 1 rfl rfl g11 dR_isBetter_65 ?_
      refine lv_topl (fun v12 ev12 => ?_)
      have hm := nm_to ev12 hm
      refine lv_aload_n hx hb dR_isBetter_66 rfl (lv_at hl 1 rfl) ?_
      refine va_get (D := D) (ci := 6) (v := .long (J 0 26)) (C := RR) (T := TR) (N := 31) hx hb hT inR hown hK hP 0 rfl rfl 26 (by decide) (hT _ wd_561) (fun _ h9 => h9) rfl dR_isBetter_67 ?_
      refine lv_lmul hx hb dR_isBetter_70 ?_
      refine lv_topl (fun v13 ev13 => ?_)
      have hm := nm_to ev13 hm
      refine lv_lstore_n (lv' := [(3, .long v13), (1, .long v10), (0, .ref (ad 0)), (5, .int x5)]) hx hb dR_isBetter_71 rfl hl (by decide) rfl (fun ls hl => ?_)
      obtain ⟨v14, ev14⟩ : ∃ z : Int32, z = x5 + 1 := ⟨_, rfl⟩
      have hm := nm_to ev14 hm
      refine lv_iinc (v := v14) (lv' := [(5, .int v14), (3, .long v13), (1, .long v10), (0, .ref (ad 0))]) hx hb dR_isBetter_72 hl (k := 3) rfl (by rw [ev14]; rfl) (by decide) rfl (fun ls hl => ?_)
      refine lv_goto (tgt := 31) hx hb dR_isBetter_75 (by decide) ?_
      exact hk31 v10 v13 v14 I J hm _ _ _ hP hD hS (lv_sub hl [3, 2, 1, 0] rfl)
set_option maxHeartbeats 4000000 in
set_option maxRecDepth 100000 in
theorem w_R_isBetter_0 {p : Program} {l : Launch} {e : Env} {s : State} {m : MethodId} {args : Array Value} {below : List Frame} {meth : Method} {c : Code} {D : va_G} {A : Nat → Prop} {ad : Nat → Nat} {cI cJ cG : ClassId} {res : Int32 × SI × SJ} (X : Cx p s m args meth c bR_isBetter (some .boolean) 6 RR) (hK : va_K D vwCl (tysR cI cJ cG) s) (hN : NWs s) (hA : ∀ q, s.heap.size ≤ q → A q)
    {k31 : Int64 → Int64 → Int32 → SI → SJ → Option (Int32 × SI × SJ)} (hk31 : ∀ (x1 : Int64) (x3 : Int64) (x5 : Int32) (I : SI) (J : SJ), k31 x1 x3 x5 I J = some res → WB p l e (headSpec (Cond.code yR_isBetter bR_isBetter 6 (some .boolean) :: gtb) rm_R_isBetter).room s m args below meth c (MQ below (va_Qi (fun (r : Int32) (u : SI × SJ) => (r, u) = res) (atW D vwCl (tysR cI cJ cG) A (wsR ad cI cJ cG)) A) args s 0 0 A) D vwCl A 6 (wsR ad cI cJ cG I J) 31 [(0, .ref (ad 0)), (1, .long x1), (3, .long x3), (5, .int x5)] [])
     (I : SI) (J : SJ) (hm : b_R_isBetter_0 k31  I J = some res) : WB p l e (headSpec (Cond.code yR_isBetter bR_isBetter 6 (some .boolean) :: gtb) rm_R_isBetter).room s m args below meth c (MQ below (va_Qi (fun (r : Int32) (u : SI × SJ) => (r, u) = res) (atW D vwCl (tysR cI cJ cG) A (wsR ad cI cJ cG)) A) args s 0 0 A) D vwCl A 6 (wsR ad cI cJ cG I J) 0 [(0, .ref (ad 0))] [] := by
  obtain ⟨hx, hb, hr, hml, hown, hT, hlk⟩ := X
  intro H locs ls hP hD hS hl
  unfold b_R_isBetter_0 at hm
  refine lv_aload_n hx hb dR_isBetter_0 rfl (lv_at hl 0 rfl) ?_
  refine lv_aload_n hx hb dR_isBetter_1 rfl (lv_at hl 0 rfl) ?_
  refine va_get (D := D) (ci := 6) (v := .ref (ad 15)) (C := RR) (T := TR) (N := 31) hx hb hT inR hown hK hP 0 rfl rfl 25 (by decide) (hT _ wd_560) (fun _ h9 => h9) rfl dR_isBetter_2 ?_
  obtain ⟨r1, I2, J3, hc4, hm⟩ := cl3_to hm
  refine pst_l (wf := wsR ad cI cJ cG) hD hS hA (va_runV (As := [.ref (ad 15)]) (rest := []) ⟨hx, hb, hml, hown, hT⟩ (c_R_costOf l D ad cI cJ cG _ 15 I J _ hc4) (cwV 1 hT (gV wd_722 wd_724 wd_45 wd_57 wd_725) rfl rfl rfl (by decide +kernel) ⟨Nat.le_of_ble_eq_true rfl, Nat.le_of_ble_eq_true rfl⟩) ⟨preW_fb, va_recv hK hP (ci := 6) (q0 := 0) rfl rfl, preW_at hP hK hN hD⟩ rfl rfl hl.1 rfl (lv_room (Nat.le_of_ble_eq_true rfl)) dR_isBetter_5 ⟨Nat.zero_le _, Nat.zero_le _⟩) (fun H locs hP hD hS => ?_)
  refine lv_aload_n hx hb dR_isBetter_8 rfl (lv_at hl 0 rfl) ?_
  refine va_get (D := D) (ci := 6) (v := .long (J3 0 30)) (C := RR) (T := TR) (N := 31) hx hb hT inR hown hK hP 0 rfl rfl 30 (by decide) (hT _ wd_565) (fun _ h9 => h9) rfl dR_isBetter_9 ?_
  refine lv_lmul hx hb dR_isBetter_12 ?_
  refine lv_topl (fun v5 ev5 => ?_)
  have hm := nm_to ev5 hm
  refine lv_lstore_n (lv' := [(1, .long v5), (0, .ref (ad 0))]) hx hb dR_isBetter_13 rfl hl (by decide) rfl (fun ls hl => ?_)
  refine lv_aload_n hx hb dR_isBetter_14 rfl (lv_at hl 1 rfl) ?_
  refine lv_aload_n hx hb dR_isBetter_15 rfl (lv_at hl 1 rfl) ?_
  refine va_get (D := D) (ci := 6) (v := .ref (ad 17)) (C := RR) (T := TR) (N := 31) hx hb hT inR hown hK hP 0 rfl rfl 29 (by decide) (hT _ wd_564) (fun _ h9 => h9) rfl dR_isBetter_16 ?_
  obtain ⟨r6, I7, J8, hc9, hm⟩ := cl3_to hm
  refine pst_l (wf := wsR ad cI cJ cG) hD hS hA (va_runV (As := [.ref (ad 17)]) (rest := []) ⟨hx, hb, hml, hown, hT⟩ (c_R_costOf l D ad cI cJ cG _ 17 I2 J3 _ hc9) (cwV 1 hT (gV wd_722 wd_724 wd_45 wd_57 wd_725) rfl rfl rfl (by decide +kernel) ⟨Nat.le_of_ble_eq_true rfl, Nat.le_of_ble_eq_true rfl⟩) ⟨preW_fb, va_recv hK hP (ci := 6) (q0 := 0) rfl rfl, preW_at hP hK hN hD⟩ rfl rfl hl.1 rfl (lv_room (Nat.le_of_ble_eq_true rfl)) dR_isBetter_19 ⟨Nat.zero_le _, Nat.zero_le _⟩) (fun H locs hP hD hS => ?_)
  refine lv_aload_n hx hb dR_isBetter_22 rfl (lv_at hl 1 rfl) ?_
  refine va_get (D := D) (ci := 6) (v := .long (J8 0 26)) (C := RR) (T := TR) (N := 31) hx hb hT inR hown hK hP 0 rfl rfl 26 (by decide) (hT _ wd_561) (fun _ h9 => h9) rfl dR_isBetter_23 ?_
  refine lv_lmul hx hb dR_isBetter_26 ?_
  refine lv_topl (fun v10 ev10 => ?_)
  have hm := nm_to ev10 hm
  refine lv_lstore_n (lv' := [(3, .long v10), (1, .long v5), (0, .ref (ad 0))]) hx hb dR_isBetter_27 rfl hl (by decide) rfl (fun ls hl => ?_)
  refine lv_iconst (v := 0) hx hb dR_isBetter_28 (by decide) ?_
  refine lv_istore (lv' := [(5, .int 0), (3, .long v10), (1, .long v5), (0, .ref (ad 0))]) hx hb dR_isBetter_29 hl (by decide) rfl (fun ls hl => ?_)
  exact hk31 v5 v10 0 I7 J8 hm _ _ _ hP hD hS (lv_sub hl [3, 2, 1, 0] rfl)
set_option maxHeartbeats 4000000 in
theorem gw_R_isBetter {p : Program} {l : Launch} {e : Env} {s : State} {m : MethodId} {args : Array Value} {below : List Frame} {meth : Method} {c : Code} {D : va_G} {A : Nat → Prop} {ad : Nat → Nat} {cI cJ cG : ClassId} {res : Int32 × SI × SJ} (X : Cx p s m args meth c bR_isBetter (some .boolean) 6 RR) (hK : va_K D vwCl (tysR cI cJ cG) s) (hN : NWs s) (hA : ∀ q, s.heap.size ≤ q → A q) : ∀ n : Nat, (∀ (x1 : Int64) (x3 : Int64) (x5 : Int32) (I : SI) (J : SJ), (g_R_isBetter n) x1 x3 x5 I J = some res → WB p l e (headSpec (Cond.code yR_isBetter bR_isBetter 6 (some .boolean) :: gtb) rm_R_isBetter).room s m args below meth c (MQ below (va_Qi (fun (r : Int32) (u : SI × SJ) => (r, u) = res) (atW D vwCl (tysR cI cJ cG) A (wsR ad cI cJ cG)) A) args s 0 0 A) D vwCl A 6 (wsR ad cI cJ cG I J) 31 [(0, .ref (ad 0)), (1, .long x1), (3, .long x3), (5, .int x5)] []) := by
  intro n
  induction n with
  | zero => exact fun _ _ _ _ _ h => (by cases h)
  | succ n ih =>
    have ih31 := ih
    exact fun x1 x3 x5 I J h => w_R_isBetter_31 X hK hN hA ih31 x1 x3 x5 I J h
set_option maxHeartbeats 4000000 in
set_option maxRecDepth 100000 in
theorem c_R_isBetter (l : Launch) (D : va_G) (ad : Nat → Nat) (cI cJ cG : ClassId) (sz : Nat) (I : SI) (J : SJ) (res : Int32 × SI × SJ) (hm : m_R_isBetter  I J = some res) : Met l yR_isBetter (Cond.code yR_isBetter bR_isBetter 6 (some .boolean) :: gtb) rm_R_isBetter (va_Pc [.ref (ad 0)] (preW D vwCl (tysR cI cJ cG) (wsR ad cI cJ cG I J) sz)) (va_Qi (fun (r : Int32) (u : SI × SJ) => (r, u) = res) (atW D vwCl (tysR cI cJ cG) (va_A (wsR ad cI cJ cG I J) sz) (wsR ad cI cJ cG)) (va_A (wsR ad cI cJ cG I J) sz)) 0 0 (va_A (wsR ad cI cJ cG I J) sz) := by
  refine Met.ofW (cc := bR_isBetter) (maxL := 6) (ret := (some .boolean)) (by decide) rfl ?_
  intro p e s m args below meth c s₁ B hml hv
  obtain ⟨rfl, hsz, hP, hK, hD0, hN⟩ := hv
  subst hsz
  have X : Cx p s m [.ref (ad 0)].toArray meth c bR_isBetter (some .boolean) 6 RR := ⟨B.exec, B.bytes, B.returns, hml, findClass_of_methodNamed B.named, fun w h => atoms_spec (ws := (Cond.code yR_isBetter bR_isBetter 6 (some .boolean) :: gtb)) B.pre w (List.mem_cons_of_mem _ h), B.notSynchronized⟩
  have hl := lv_entry ([.ref (ad 0)]) (n := 6) (Nat.le_of_ble_eq_true rfl)
  rw [lg_entry_eq]
  generalize (lg_sl ([.ref (ad 0)]) ++ List.replicate (6 - (lg_sl ([.ref (ad 0)])).length) Slot.unset).toArray = ls at hl ⊢
  have hl : lv_has ls 6 [(0, .ref (ad 0))] := hl
  have hA : ∀ q, s.heap.size ≤ q → va_A (wsR ad cI cJ cG I J) s.heap.size q := fun q h => Or.inr h
  exact w_R_isBetter_0 X hK hN hA (gw_R_isBetter X hK hN hA fuel)  I J hm _ _ _ hP hD0.self va_S.rf hl
def b_R_solve_7 (k39 : Int32 → Int32 → Int32 → Int64 → Int32 → SI → SJ → Option (Int32 × SI × SJ)) (k180 : Int32 → Int32 → Int64 → Int32 → SI → SJ → Option (Int32 × SI × SJ)) (x1 : Int32) (x2 : Int32) (x3 : Int32) (I : SI) (J : SJ) : Option (Int32 × SI × SJ) :=
  if x2 ≤ x3 then
    k180 x1 x2 1 0 I J
  else
    if x3 = 0 then
      nm (Int32.toInt64 x1) fun v10 =>
      k39 x1 x2 x3 v10 0 I J
    else
      nm (x3 - 1) fun v3 =>
      gd (vin v3 3) <|
      nm (I 16 v3.toNatClampNeg) fun v5 =>
      cl3 (m_R_right v5 x1 I J) fun r6 I7 J8 =>
      k39 x1 x2 x3 r6 0 I7 J8
def b_R_solve_180 (k190 : Int32 → Int32 → Int64 → Int32 → Int32 → SI → SJ → Option (Int32 × SI × SJ)) (k431 : Int32 → Int32 → Int64 → SI → SJ → Option (Int32 × SI × SJ)) (x1 : Int32) (x2 : Int32) (x3 : Int64) (x5 : Int32) (I : SI) (J : SJ) : Option (Int32 × SI × SJ) :=
  if x2 ≤ x5 then
    if x2 = 0 then
      k431 x1 x2 1 I J
    else
      k431 x1 x2 x3 I J
  else
    k190 x1 x2 x3 x5 x5 I J
def b_R_solve_39 (k39 : Int32 → Int32 → Int32 → Int64 → Int32 → SI → SJ → Option (Int32 × SI × SJ)) (k107 : Int32 → Int32 → Int32 → Int64 → Int32 → SI → SJ → Option (Int32 × SI × SJ)) (x1 : Int32) (x2 : Int32) (x3 : Int32) (x4 : Int64) (x6 : Int32) (I : SI) (J : SJ) : Option (Int32 × SI × SJ) :=
  if (I 0 0) ≤ x6 then
    k107 x1 x2 x3 x4 0 I J
  else
    gd (vin x6 4) <|
    nm (I 12 x6.toNatClampNeg) fun v3 =>
    if 0 ≤ v3 then
      if x3 = 0 then
        gd (vin x6 4) <|
        nm (I 12 x6.toNatClampNeg) fun v20 =>
        nm (Int32.toInt64 v20) fun v21 =>
        nm (1 * v21) fun v22 =>
        nm (x4 - v22) fun v23 =>
        nm (x6 + 1) fun v24 =>
        k39 x1 x2 x3 v23 v24 I J
      else
        nm (x3 - 1) fun v6 =>
        gd (vin v6 3) <|
        nm (I 16 v6.toNatClampNeg) fun v8 =>
        cl3 (m_R_factor v8 x6 I J) fun r9 I10 J11 =>
        gd (vin x6 4) <|
        nm (I10 12 x6.toNatClampNeg) fun v14 =>
        nm (Int32.toInt64 v14) fun v15 =>
        nm (r9 * v15) fun v16 =>
        nm (x4 - v16) fun v17 =>
        nm (x6 + 1) fun v18 =>
        k39 x1 x2 x3 v17 v18 I10 J11
    else
      nm (x4 - 0) fun v25 =>
      nm (x6 + 1) fun v26 =>
      k39 x1 x2 x3 v25 v26 I J
def b_R_solve_431 (k466 : Int32 → Int32 → Int64 → Int32 → SI → SJ → Option (Int32 × SI × SJ)) (x1 : Int32) (x2 : Int32) (k0 : Int64) (I : SI) (J : SJ) : Option (Int32 × SI × SJ) :=
  nm (va_up J 0 (vp_updL (J 0) 26 k0)) fun J1 =>
  nm (lg_cmp (J1 0 26) 0) fun v2 =>
  if 0 ≤ v2 then
    nm ((J1 0 26) * 1) fun v4 =>
    nm (va_up J1 0 (vp_updL (J1 0) 26 v4)) fun J5 =>
    k466 x1 x2 1 0 I J5
  else
    nm ((J1 0 26) * (-1)) fun v6 =>
    nm (va_up J1 0 (vp_updL (J1 0) 26 v6)) fun J7 =>
    k466 x1 x2 (-1) 0 I J7
def b_R_solve_190 (k190 : Int32 → Int32 → Int64 → Int32 → Int32 → SI → SJ → Option (Int32 × SI × SJ)) (k230 : Int32 → Int32 → Int64 → Int32 → Int32 → Int32 → SI → SJ → Option (Int32 × SI × SJ)) (x1 : Int32) (x2 : Int32) (x3 : Int64) (x5 : Int32) (x6 : Int32) (I : SI) (J : SJ) : Option (Int32 × SI × SJ) :=
  if x2 ≤ x6 then
    if x6 = x2 then
      some (0, I, J)
    else
      k230 x1 x2 x3 x5 x6 0 I J
  else
    nm (5 * x6) fun v3 =>
    nm (v3 + x5) fun v4 =>
    gd (vin v4 20) <|
    nm (J 14 v4.toNatClampNeg) fun v6 =>
    nm (lg_cmp v6 0) fun v7 =>
    if v7 = 0 then
      nm (x6 + 1) fun v10 =>
      k190 x1 x2 x3 x5 v10 I J
    else
      if x6 = x2 then
        some (0, I, J)
      else
        k230 x1 x2 x3 x5 x6 0 I J
def b_R_solve_107 (k7 : Int32 → Int32 → Int32 → SI → SJ → Option (Int32 × SI × SJ)) (k107 : Int32 → Int32 → Int32 → Int64 → Int32 → SI → SJ → Option (Int32 × SI × SJ)) (x1 : Int32) (x2 : Int32) (x3 : Int32) (x4 : Int64) (x6 : Int32) (I : SI) (J : SJ) : Option (Int32 × SI × SJ) :=
  if x2 ≤ x6 then
    nm (5 * x3) fun v2 =>
    nm (v2 + 4) fun v3 =>
    gd (vin v3 20) <|
    nm (va_up J 14 (vp_updL (J 14) v3.toNatClampNeg x4)) fun J5 =>
    nm (x3 + 1) fun v6 =>
    k7 x1 x2 v6 I J5
  else
    nm (5 * x3) fun v7 =>
    nm (v7 + x6) fun v8 =>
    if x3 = 0 then
      gd (vin v8 20) <|
      nm (va_up J 14 (vp_updL (J 14) v8.toNatClampNeg 1)) fun J23 =>
      nm (x6 + 1) fun v24 =>
      k107 x1 x2 x3 x4 v24 I J23
    else
      nm (x3 - 1) fun v10 =>
      gd (vin v10 3) <|
      nm (I 16 v10.toNatClampNeg) fun v12 =>
      gd (vin x6 4) <|
      nm (I 13 x6.toNatClampNeg) fun v14 =>
      cl3 (m_R_factor v12 v14 I J) fun r15 I16 J17 =>
      gd (vin v8 20) <|
      nm (va_up J17 14 (vp_updL (J17 14) v8.toNatClampNeg r15)) fun J20 =>
      nm (x6 + 1) fun v21 =>
      k107 x1 x2 x3 x4 v21 I16 J20
def b_R_solve_466 (k466 : Int32 → Int32 → Int64 → Int32 → SI → SJ → Option (Int32 × SI × SJ)) (k510 : Int32 → Int64 → Int32 → SI → SJ → Option (Int32 × SI × SJ)) (x1 : Int32) (x2 : Int32) (x5 : Int64) (x7 : Int32) (I : SI) (J : SJ) : Option (Int32 × SI × SJ) :=
  if x2 ≤ x7 then
    k510 x1 0 0 I J
  else
    gd (vin x7 4) <|
    nm (I 13 x7.toNatClampNeg) fun v3 =>
    nm (5 * x7) fun v4 =>
    nm (v4 + 4) fun v5 =>
    gd (vin v5 20) <|
    nm (J 14 v5.toNatClampNeg) fun v7 =>
    nm (v7 * x5) fun v8 =>
    gd (vin v3 4) <|
    nm (va_up J 15 (vp_updL (J 15) v3.toNatClampNeg v8)) fun J10 =>
    nm (x7 + 1) fun v11 =>
    k466 x1 x2 x5 v11 I J10
def b_R_solve_230 (k230 : Int32 → Int32 → Int64 → Int32 → Int32 → Int32 → SI → SJ → Option (Int32 × SI × SJ)) (k319 : Int32 → Int32 → Int64 → Int32 → Int64 → Int32 → SI → SJ → Option (Int32 × SI × SJ)) (x1 : Int32) (x2 : Int32) (x3 : Int64) (x5 : Int32) (x6 : Int32) (x7 : Int32) (I : SI) (J : SJ) : Option (Int32 × SI × SJ) :=
  if 5 ≤ x7 then
    nm (5 * x5) fun v2 =>
    nm (v2 + x5) fun v3 =>
    gd (vin v3 20) <|
    nm (J 14 v3.toNatClampNeg) fun v5 =>
    k319 x1 x2 x3 x5 v5 0 I J
  else
    if x6 = x5 then
      nm (5 * x5) fun v7 =>
      nm (v7 + x5) fun v8 =>
      gd (vin v8 20) <|
      nm (J 14 v8.toNatClampNeg) fun v10 =>
      k319 x1 x2 x3 x5 v10 0 I J
    else
      nm (5 * x6) fun v11 =>
      nm (v11 + x7) fun v12 =>
      gd (vin v12 20) <|
      nm (J 14 v12.toNatClampNeg) fun v14 =>
      nm (5 * x6) fun v15 =>
      nm (v15 + x7) fun v16 =>
      nm (5 * x5) fun v17 =>
      nm (v17 + x7) fun v18 =>
      gd (vin v18 20) <|
      nm (J 14 v18.toNatClampNeg) fun v20 =>
      gd (vin v16 20) <|
      nm (va_up J 14 (vp_updL (J 14) v16.toNatClampNeg v20)) fun J22 =>
      nm (5 * x5) fun v23 =>
      nm (v23 + x7) fun v24 =>
      nm (-v14) fun v25 =>
      gd (vin v24 20) <|
      nm (va_up J22 14 (vp_updL (J22 14) v24.toNatClampNeg v25)) fun J27 =>
      nm (x7 + 1) fun v28 =>
      k230 x1 x2 x3 x5 x6 v28 I J27
def b_R_solve_510 (k510 : Int32 → Int64 → Int32 → SI → SJ → Option (Int32 × SI × SJ)) (x1 : Int32) (x7 : Int64) (x9 : Int32) (I : SI) (J : SJ) : Option (Int32 × SI × SJ) :=
  if (I 0 0) ≤ x9 then
    nm (Int32.toInt64 x1) fun v2 =>
    nm (v2 * (J 0 26)) fun v3 =>
    nm (lg_cmp x7 v3) fun v4 =>
    if v4 = 0 then
      some (1, I, J)
    else
      some (0, I, J)
  else
    gd (vin x9 4) <|
    nm (I 12 x9.toNatClampNeg) fun v7 =>
    if 0 ≤ v7 then
      gd (vin x9 4) <|
      nm (I 12 x9.toNatClampNeg) fun v10 =>
      nm (Int32.toInt64 v10) fun v11 =>
      nm (v11 * (J 0 26)) fun v12 =>
      gd (vin x9 4) <|
      nm (va_up J 15 (vp_updL (J 15) x9.toNatClampNeg v12)) fun J14 =>
      gd (vin x9 4) <|
      nm (J14 15 x9.toNatClampNeg) fun v16 =>
      nm (x7 + v16) fun v17 =>
      nm (x9 + 1) fun v18 =>
      k510 x1 v17 v18 I J14
    else
      gd (vin x9 4) <|
      nm (J 15 x9.toNatClampNeg) fun v20 =>
      gd (vin x9 4) <|
      nm (va_up J 15 (vp_updL (J 15) x9.toNatClampNeg v20)) fun J22 =>
      gd (vin x9 4) <|
      nm (J22 15 x9.toNatClampNeg) fun v24 =>
      nm (x7 + v24) fun v25 =>
      nm (x9 + 1) fun v26 =>
      k510 x1 v25 v26 I J22
def b_R_solve_319 (k180 : Int32 → Int32 → Int64 → Int32 → SI → SJ → Option (Int32 × SI × SJ)) (k319 : Int32 → Int32 → Int64 → Int32 → Int64 → Int32 → SI → SJ → Option (Int32 × SI × SJ)) (k349 : Int32 → Int32 → Int64 → Int32 → Int64 → Int32 → Int64 → Int32 → SI → SJ → Option (Int32 × SI × SJ)) (x1 : Int32) (x2 : Int32) (x3 : Int64) (x5 : Int32) (x7 : Int64) (x9 : Int32) (I : SI) (J : SJ) : Option (Int32 × SI × SJ) :=
  if x2 ≤ x9 then
    nm (x5 + 1) fun v2 =>
    k180 x1 x2 x7 v2 I J
  else
    if x9 = x5 then
      nm (x9 + 1) fun v4 =>
      k319 x1 x2 x3 x5 x7 v4 I J
    else
      nm (5 * x9) fun v5 =>
      nm (v5 + x5) fun v6 =>
      gd (vin v6 20) <|
      nm (J 14 v6.toNatClampNeg) fun v8 =>
      k349 x1 x2 x3 x5 x7 x9 v8 0 I J
def b_R_solve_349 (k319 : Int32 → Int32 → Int64 → Int32 → Int64 → Int32 → SI → SJ → Option (Int32 × SI × SJ)) (k349 : Int32 → Int32 → Int64 → Int32 → Int64 → Int32 → Int64 → Int32 → SI → SJ → Option (Int32 × SI × SJ)) (x1 : Int32) (x2 : Int32) (x3 : Int64) (x5 : Int32) (x7 : Int64) (x9 : Int32) (x10 : Int64) (x12 : Int32) (I : SI) (J : SJ) : Option (Int32 × SI × SJ) :=
  if 5 ≤ x12 then
    nm (x9 + 1) fun v2 =>
    k319 x1 x2 x3 x5 x7 v2 I J
  else
    nm (5 * x9) fun v3 =>
    nm (v3 + x12) fun v4 =>
    nm (5 * x9) fun v5 =>
    nm (v5 + x12) fun v6 =>
    gd (vin v6 20) <|
    nm (J 14 v6.toNatClampNeg) fun v8 =>
    nm (v8 * x7) fun v9 =>
    nm (5 * x5) fun v10 =>
    nm (v10 + x12) fun v11 =>
    gd (vin v11 20) <|
    nm (J 14 v11.toNatClampNeg) fun v13 =>
    nm (x10 * v13) fun v14 =>
    nm (v9 - v14) fun v15 =>
    gd (¬ x3 = 0) <|
    nm (v15 / x3) fun v17 =>
    gd (vin v4 20) <|
    nm (va_up J 14 (vp_updL (J 14) v4.toNatClampNeg v17)) fun J19 =>
    nm (x12 + 1) fun v20 =>
    k349 x1 x2 x3 x5 x7 x9 x10 v20 I J19
def b_R_solve_0 (k7 : Int32 → Int32 → Int32 → SI → SJ → Option (Int32 × SI × SJ)) (x1 : Int32) (I : SI) (J : SJ) : Option (Int32 × SI × SJ) :=
  k7 x1 (I 0 23) 0 I J
def g_R_solve : Nat → (Int32 → Int32 → Int32 → SI → SJ → Option (Int32 × SI × SJ)) × (Int32 → Int32 → Int32 → Int64 → Int32 → SI → SJ → Option (Int32 × SI × SJ)) × (Int32 → Int32 → Int32 → Int64 → Int32 → SI → SJ → Option (Int32 × SI × SJ)) × (Int32 → Int32 → Int64 → Int32 → SI → SJ → Option (Int32 × SI × SJ)) × (Int32 → Int32 → Int64 → Int32 → Int32 → SI → SJ → Option (Int32 × SI × SJ)) × (Int32 → Int32 → Int64 → Int32 → Int32 → Int32 → SI → SJ → Option (Int32 × SI × SJ)) × (Int32 → Int32 → Int64 → Int32 → Int64 → Int32 → SI → SJ → Option (Int32 × SI × SJ)) × (Int32 → Int32 → Int64 → Int32 → Int64 → Int32 → Int64 → Int32 → SI → SJ → Option (Int32 × SI × SJ)) × (Int32 → Int32 → Int64 → SI → SJ → Option (Int32 × SI × SJ)) × (Int32 → Int32 → Int64 → Int32 → SI → SJ → Option (Int32 × SI × SJ)) × (Int32 → Int64 → Int32 → SI → SJ → Option (Int32 × SI × SJ))
  | 0 => (fun _ _ _ _ _ => none, fun _ _ _ _ _ _ _ => none, fun _ _ _ _ _ _ _ => none, fun _ _ _ _ _ _ => none, fun _ _ _ _ _ _ _ => none, fun _ _ _ _ _ _ _ _ => none, fun _ _ _ _ _ _ _ _ => none, fun _ _ _ _ _ _ _ _ _ _ => none, fun _ _ _ _ _ => none, fun _ _ _ _ _ _ => none, fun _ _ _ _ _ => none)
  | n + 1 => (fun x1 x2 x3 I J => b_R_solve_7 (g_R_solve n).2.1 (g_R_solve n).2.2.2.1 x1 x2 x3 I J, fun x1 x2 x3 x4 x6 I J => b_R_solve_39 (g_R_solve n).2.1 (g_R_solve n).2.2.1 x1 x2 x3 x4 x6 I J, fun x1 x2 x3 x4 x6 I J => b_R_solve_107 (g_R_solve n).1 (g_R_solve n).2.2.1 x1 x2 x3 x4 x6 I J, fun x1 x2 x3 x5 I J => b_R_solve_180 (g_R_solve n).2.2.2.2.1 (g_R_solve n).2.2.2.2.2.2.2.2.1 x1 x2 x3 x5 I J, fun x1 x2 x3 x5 x6 I J => b_R_solve_190 (g_R_solve n).2.2.2.2.1 (g_R_solve n).2.2.2.2.2.1 x1 x2 x3 x5 x6 I J, fun x1 x2 x3 x5 x6 x7 I J => b_R_solve_230 (g_R_solve n).2.2.2.2.2.1 (g_R_solve n).2.2.2.2.2.2.1 x1 x2 x3 x5 x6 x7 I J, fun x1 x2 x3 x5 x7 x9 I J => b_R_solve_319 (g_R_solve n).2.2.2.1 (g_R_solve n).2.2.2.2.2.2.1 (g_R_solve n).2.2.2.2.2.2.2.1 x1 x2 x3 x5 x7 x9 I J, fun x1 x2 x3 x5 x7 x9 x10 x12 I J => b_R_solve_349 (g_R_solve n).2.2.2.2.2.2.1 (g_R_solve n).2.2.2.2.2.2.2.1 x1 x2 x3 x5 x7 x9 x10 x12 I J, fun x1 x2 k0 I J => b_R_solve_431 (g_R_solve n).2.2.2.2.2.2.2.2.2.1 x1 x2 k0 I J, fun x1 x2 x5 x7 I J => b_R_solve_466 (g_R_solve n).2.2.2.2.2.2.2.2.2.1 (g_R_solve n).2.2.2.2.2.2.2.2.2.2 x1 x2 x5 x7 I J, fun x1 x7 x9 I J => b_R_solve_510 (g_R_solve n).2.2.2.2.2.2.2.2.2.2 x1 x7 x9 I J)
def m_R_solve (x1 : Int32) (I : SI) (J : SJ) : Option (Int32 × SI × SJ) := b_R_solve_0 (g_R_solve fuel).1 x1 I J
def rm_R_solve : Room := { frames := 1, cells := 0, slots := 0, locals := 22 }
set_option maxHeartbeats 4000000 in
set_option maxRecDepth 100000 in
theorem w_R_solve_7 {p : Program} {l : Launch} {e : Env} {s : State} {m : MethodId} {args : Array Value} {below : List Frame} {meth : Method} {c : Code} {D : va_G} {A : Nat → Prop} {ad : Nat → Nat} {cI cJ cG : ClassId} {res : Int32 × SI × SJ} (X : Cx p s m args meth c bR_solve (some .boolean) 13 RR) (hK : va_K D vwCl (tysR cI cJ cG) s) (hN : NWs s) (hA : ∀ q, s.heap.size ≤ q → A q)
    {k39 : Int32 → Int32 → Int32 → Int64 → Int32 → SI → SJ → Option (Int32 × SI × SJ)} (hk39 : ∀ (x1 : Int32) (x2 : Int32) (x3 : Int32) (x4 : Int64) (x6 : Int32) (I : SI) (J : SJ), k39 x1 x2 x3 x4 x6 I J = some res → WB p l e (headSpec (Cond.code yR_solve bR_solve 13 (some .boolean) :: gtb) rm_R_solve).room s m args below meth c (MQ below (va_Qi (fun (r : Int32) (u : SI × SJ) => (r, u) = res) (atW D vwCl (tysR cI cJ cG) A (wsR ad cI cJ cG)) A) args s 0 0 A) D vwCl A 13 (wsR ad cI cJ cG I J) 39 [(0, .ref (ad 0)), (1, .int x1), (2, .int x2), (3, .int x3), (4, .long x4), (6, .int x6)] [])
    {k180 : Int32 → Int32 → Int64 → Int32 → SI → SJ → Option (Int32 × SI × SJ)} (hk180 : ∀ (x1 : Int32) (x2 : Int32) (x3 : Int64) (x5 : Int32) (I : SI) (J : SJ), k180 x1 x2 x3 x5 I J = some res → WB p l e (headSpec (Cond.code yR_solve bR_solve 13 (some .boolean) :: gtb) rm_R_solve).room s m args below meth c (MQ below (va_Qi (fun (r : Int32) (u : SI × SJ) => (r, u) = res) (atW D vwCl (tysR cI cJ cG) A (wsR ad cI cJ cG)) A) args s 0 0 A) D vwCl A 13 (wsR ad cI cJ cG I J) 180 [(0, .ref (ad 0)), (1, .int x1), (2, .int x2), (3, .long x3), (5, .int x5)] [])
     (x1 : Int32) (x2 : Int32) (x3 : Int32) (I : SI) (J : SJ) (hm : b_R_solve_7 k39 k180 x1 x2 x3 I J = some res) : WB p l e (headSpec (Cond.code yR_solve bR_solve 13 (some .boolean) :: gtb) rm_R_solve).room s m args below meth c (MQ below (va_Qi (fun (r : Int32) (u : SI × SJ) => (r, u) = res) (atW D vwCl (tysR cI cJ cG) A (wsR ad cI cJ cG)) A) args s 0 0 A) D vwCl A 13 (wsR ad cI cJ cG I J) 7 [(0, .ref (ad 0)), (1, .int x1), (2, .int x2), (3, .int x3)] [] := by
  obtain ⟨hx, hb, hr, hml, hown, hT, hlk⟩ := X
  intro H locs ls hP hD hS hl
  unfold b_R_solve_7 at hm
  refine lv_iload_n hx hb dR_solve_7 rfl (lv_at hl 3 rfl) ?_
  refine lv_iload_n hx hb dR_solve_8 rfl (lv_at hl 2 rfl) ?_
  refine lv_icmp_ge (tgt := 175) hx hb dR_solve_9 (by decide) (fun c1 => ?_) (fun c1 => ?_)
  · have hm := brp hm c1
    refine lv_lconst (v := 1) hx hb dR_solve_175 (by decide) ?_
    refine lv_lstore_n (lv' := [(3, .long 1), (0, .ref (ad 0)), (1, .int x1), (2, .int x2)]) hx hb dR_solve_176 rfl hl (by decide) rfl (fun ls hl => ?_)
    refine lv_iconst (v := 0) hx hb dR_solve_177 (by decide) ?_
    refine lv_istore (lv' := [(5, .int 0), (3, .long 1), (0, .ref (ad 0)), (1, .int x1), (2, .int x2)]) hx hb dR_solve_178 hl (by decide) rfl (fun ls hl => ?_)
    exact hk180 x1 x2 1 0 I J hm _ _ _ hP hD hS (lv_sub hl [2, 3, 4, 1, 0] rfl)
  · have hm := brn hm c1
    refine lv_iload_n hx hb dR_solve_12 rfl (lv_at hl 3 rfl) ?_
    refine lv_if_ne (tgt := 21) hx hb dR_solve_13 (by decide) (fun c2 => ?_) (fun c2 => ?_)
    · have hm := brn hm c2
      refine lv_aload_n hx hb dR_solve_21 rfl (lv_at hl 0 rfl) ?_
      refine lv_aload_n hx hb dR_solve_22 rfl (lv_at hl 0 rfl) ?_
      refine va_get (D := D) (ci := 6) (v := .ref (ad 16)) (C := RR) (T := TR) (N := 31) hx hb hT inR hown hK hP 0 rfl rfl 27 (by decide) (hT _ wd_562) (fun _ h9 => h9) rfl dR_solve_23 ?_
      refine lv_iload_n hx hb dR_solve_26 rfl (lv_at hl 3 rfl) ?_
      refine lv_iconst (v := 1) hx hb dR_solve_27 (by decide) ?_
      refine lv_isub hx hb dR_solve_28 ?_
      refine lv_topi (fun v3 ev3 => ?_)
      have hm := nm_to ev3 hm
      obtain ⟨g4, hm⟩ := gd_to hm
      refine va_iald hx hb hK hP 16 0 rfl rfl g4 dR_solve_29 ?_
      refine lv_topi (fun v5 ev5 => ?_)
      have hm := nm_to ev5 hm
      refine lv_iload_n hx hb dR_solve_30 rfl (lv_at hl 1 rfl) ?_
      obtain ⟨r6, I7, J8, hc9, hm⟩ := cl3_to hm
      refine pst_l (wf := wsR ad cI cJ cG) hD hS hA (va_runV (As := [.int v5, .int x1]) (rest := []) ⟨hx, hb, hml, hown, hT⟩ (c_R_right l D ad cI cJ cG _ v5 x1 I J _ hc9) (cwV 2 hT (gV wd_697 wd_699 wd_40 wd_57 wd_700) rfl rfl rfl (by decide +kernel) ⟨Nat.le_of_ble_eq_true rfl, Nat.le_of_ble_eq_true rfl⟩) ⟨preW_fb, va_recv hK hP (ci := 6) (q0 := 0) rfl rfl, preW_at hP hK hN hD⟩ rfl rfl hl.1 rfl (lv_room (Nat.le_of_ble_eq_true rfl)) dR_solve_31 ⟨Nat.zero_le _, Nat.zero_le _⟩) (fun H locs hP hD hS => ?_)
      refine lv_lstore (lv' := [(4, .long r6), (0, .ref (ad 0)), (1, .int x1), (2, .int x2), (3, .int x3)]) hx hb dR_solve_34 hl (by decide) rfl (fun ls hl => ?_)
      refine lv_iconst (v := 0) hx hb dR_solve_36 (by decide) ?_
      refine lv_istore (lv' := [(6, .int 0), (4, .long r6), (0, .ref (ad 0)), (1, .int x1), (2, .int x2), (3, .int x3)]) hx hb dR_solve_37 hl (by decide) rfl (fun ls hl => ?_)
      exact hk39 x1 x2 x3 r6 0 I7 J8 hm _ _ _ hP hD hS (lv_sub hl [2, 3, 4, 5, 1, 0] rfl)
    · have hm := brp hm c2
      refine lv_iload_n hx hb dR_solve_16 rfl (lv_at hl 1 rfl) ?_
      refine lv_i2l hx hb dR_solve_17 rfl ?_
      refine lv_topl (fun v10 ev10 => ?_)
      have hm := nm_to ev10 hm
      refine lv_goto (tgt := 34) hx hb dR_solve_18 (by decide) ?_
      refine lv_lstore (lv' := [(4, .long v10), (0, .ref (ad 0)), (1, .int x1), (2, .int x2), (3, .int x3)]) hx hb dR_solve_34 hl (by decide) rfl (fun ls hl => ?_)
      refine lv_iconst (v := 0) hx hb dR_solve_36 (by decide) ?_
      refine lv_istore (lv' := [(6, .int 0), (4, .long v10), (0, .ref (ad 0)), (1, .int x1), (2, .int x2), (3, .int x3)]) hx hb dR_solve_37 hl (by decide) rfl (fun ls hl => ?_)
      exact hk39 x1 x2 x3 v10 0 I J hm _ _ _ hP hD hS (lv_sub hl [2, 3, 4, 5, 1, 0] rfl)
set_option maxHeartbeats 4000000 in
set_option maxRecDepth 100000 in
theorem w_R_solve_180 {p : Program} {l : Launch} {e : Env} {s : State} {m : MethodId} {args : Array Value} {below : List Frame} {meth : Method} {c : Code} {D : va_G} {A : Nat → Prop} {ad : Nat → Nat} {cI cJ cG : ClassId} {res : Int32 × SI × SJ} (X : Cx p s m args meth c bR_solve (some .boolean) 13 RR) (hK : va_K D vwCl (tysR cI cJ cG) s) (hN : NWs s) (hA : ∀ q, s.heap.size ≤ q → A q)
    {k190 : Int32 → Int32 → Int64 → Int32 → Int32 → SI → SJ → Option (Int32 × SI × SJ)} (hk190 : ∀ (x1 : Int32) (x2 : Int32) (x3 : Int64) (x5 : Int32) (x6 : Int32) (I : SI) (J : SJ), k190 x1 x2 x3 x5 x6 I J = some res → WB p l e (headSpec (Cond.code yR_solve bR_solve 13 (some .boolean) :: gtb) rm_R_solve).room s m args below meth c (MQ below (va_Qi (fun (r : Int32) (u : SI × SJ) => (r, u) = res) (atW D vwCl (tysR cI cJ cG) A (wsR ad cI cJ cG)) A) args s 0 0 A) D vwCl A 13 (wsR ad cI cJ cG I J) 190 [(0, .ref (ad 0)), (1, .int x1), (2, .int x2), (3, .long x3), (5, .int x5), (6, .int x6)] [])
    {k431 : Int32 → Int32 → Int64 → SI → SJ → Option (Int32 × SI × SJ)} (hk431 : ∀ (x1 : Int32) (x2 : Int32) (k0 : Int64) (I : SI) (J : SJ), k431 x1 x2 k0 I J = some res → WB p l e (headSpec (Cond.code yR_solve bR_solve 13 (some .boolean) :: gtb) rm_R_solve).room s m args below meth c (MQ below (va_Qi (fun (r : Int32) (u : SI × SJ) => (r, u) = res) (atW D vwCl (tysR cI cJ cG) A (wsR ad cI cJ cG)) A) args s 0 0 A) D vwCl A 13 (wsR ad cI cJ cG I J) 431 [(0, .ref (ad 0)), (1, .int x1), (2, .int x2)] [.long k0, .ref (ad 0)])
     (x1 : Int32) (x2 : Int32) (x3 : Int64) (x5 : Int32) (I : SI) (J : SJ) (hm : b_R_solve_180 k190 k431 x1 x2 x3 x5 I J = some res) : WB p l e (headSpec (Cond.code yR_solve bR_solve 13 (some .boolean) :: gtb) rm_R_solve).room s m args below meth c (MQ below (va_Qi (fun (r : Int32) (u : SI × SJ) => (r, u) = res) (atW D vwCl (tysR cI cJ cG) A (wsR ad cI cJ cG)) A) args s 0 0 A) D vwCl A 13 (wsR ad cI cJ cG I J) 180 [(0, .ref (ad 0)), (1, .int x1), (2, .int x2), (3, .long x3), (5, .int x5)] [] := by
  obtain ⟨hx, hb, hr, hml, hown, hT, hlk⟩ := X
  intro H locs ls hP hD hS hl
  unfold b_R_solve_180 at hm
  refine lv_iload hx hb dR_solve_180 (lv_at hl 4 rfl) ?_
  refine lv_iload_n hx hb dR_solve_182 rfl (lv_at hl 2 rfl) ?_
  refine lv_icmp_ge (tgt := 421) hx hb dR_solve_183 (by decide) (fun c1 => ?_) (fun c1 => ?_)
  · have hm := brp hm c1
    refine lv_aload_n hx hb dR_solve_421 rfl (lv_at hl 0 rfl) ?_
    refine lv_iload_n hx hb dR_solve_422 rfl (lv_at hl 2 rfl) ?_
    refine lv_if_ne (tgt := 430) hx hb dR_solve_423 (by decide) (fun c2 => ?_) (fun c2 => ?_)
    · have hm := brn hm c2
      refine lv_lload_n hx hb dR_solve_430 rfl (lv_at hl 3 rfl) ?_
      exact hk431 x1 x2 x3 I J hm _ _ _ hP hD hS (lv_sub hl [0, 1, 2] rfl)
    · have hm := brp hm c2
      refine lv_lconst (v := 1) hx hb dR_solve_426 (by decide) ?_
      refine lv_goto (tgt := 431) hx hb dR_solve_427 (by decide) ?_
      exact hk431 x1 x2 1 I J hm _ _ _ hP hD hS (lv_sub hl [0, 1, 2] rfl)
  · have hm := brn hm c1
    refine lv_iload hx hb dR_solve_186 (lv_at hl 4 rfl) ?_
    refine lv_istore (lv' := [(6, .int x5), (0, .ref (ad 0)), (1, .int x1), (2, .int x2), (3, .long x3), (5, .int x5)]) hx hb dR_solve_188 hl (by decide) rfl (fun ls hl => ?_)
    exact hk190 x1 x2 x3 x5 x5 I J hm _ _ _ hP hD hS (lv_sub hl [1, 2, 3, 4, 5, 0] rfl)
set_option maxHeartbeats 4000000 in
set_option maxRecDepth 100000 in
theorem w_R_solve_39 {p : Program} {l : Launch} {e : Env} {s : State} {m : MethodId} {args : Array Value} {below : List Frame} {meth : Method} {c : Code} {D : va_G} {A : Nat → Prop} {ad : Nat → Nat} {cI cJ cG : ClassId} {res : Int32 × SI × SJ} (X : Cx p s m args meth c bR_solve (some .boolean) 13 RR) (hK : va_K D vwCl (tysR cI cJ cG) s) (hN : NWs s) (hA : ∀ q, s.heap.size ≤ q → A q)
    {k39 : Int32 → Int32 → Int32 → Int64 → Int32 → SI → SJ → Option (Int32 × SI × SJ)} (hk39 : ∀ (x1 : Int32) (x2 : Int32) (x3 : Int32) (x4 : Int64) (x6 : Int32) (I : SI) (J : SJ), k39 x1 x2 x3 x4 x6 I J = some res → WB p l e (headSpec (Cond.code yR_solve bR_solve 13 (some .boolean) :: gtb) rm_R_solve).room s m args below meth c (MQ below (va_Qi (fun (r : Int32) (u : SI × SJ) => (r, u) = res) (atW D vwCl (tysR cI cJ cG) A (wsR ad cI cJ cG)) A) args s 0 0 A) D vwCl A 13 (wsR ad cI cJ cG I J) 39 [(0, .ref (ad 0)), (1, .int x1), (2, .int x2), (3, .int x3), (4, .long x4), (6, .int x6)] [])
    {k107 : Int32 → Int32 → Int32 → Int64 → Int32 → SI → SJ → Option (Int32 × SI × SJ)} (hk107 : ∀ (x1 : Int32) (x2 : Int32) (x3 : Int32) (x4 : Int64) (x6 : Int32) (I : SI) (J : SJ), k107 x1 x2 x3 x4 x6 I J = some res → WB p l e (headSpec (Cond.code yR_solve bR_solve 13 (some .boolean) :: gtb) rm_R_solve).room s m args below meth c (MQ below (va_Qi (fun (r : Int32) (u : SI × SJ) => (r, u) = res) (atW D vwCl (tysR cI cJ cG) A (wsR ad cI cJ cG)) A) args s 0 0 A) D vwCl A 13 (wsR ad cI cJ cG I J) 107 [(0, .ref (ad 0)), (1, .int x1), (2, .int x2), (3, .int x3), (4, .long x4), (6, .int x6)] [])
     (x1 : Int32) (x2 : Int32) (x3 : Int32) (x4 : Int64) (x6 : Int32) (I : SI) (J : SJ) (hm : b_R_solve_39 k39 k107 x1 x2 x3 x4 x6 I J = some res) : WB p l e (headSpec (Cond.code yR_solve bR_solve 13 (some .boolean) :: gtb) rm_R_solve).room s m args below meth c (MQ below (va_Qi (fun (r : Int32) (u : SI × SJ) => (r, u) = res) (atW D vwCl (tysR cI cJ cG) A (wsR ad cI cJ cG)) A) args s 0 0 A) D vwCl A 13 (wsR ad cI cJ cG I J) 39 [(0, .ref (ad 0)), (1, .int x1), (2, .int x2), (3, .int x3), (4, .long x4), (6, .int x6)] [] := by
  obtain ⟨hx, hb, hr, hml, hown, hT, hlk⟩ := X
  intro H locs ls hP hD hS hl
  unfold b_R_solve_39 at hm
  refine lv_iload hx hb dR_solve_39 (lv_at hl 5 rfl) ?_
  refine lv_aload_n hx hb dR_solve_41 rfl (lv_at hl 0 rfl) ?_
  refine va_get (D := D) (ci := 6) (v := .int (I 0 0)) (C := RR) (T := TR) (N := 31) hx hb hT inR hown hK hP 0 rfl rfl 0 (by decide) (hT _ wd_535) (fun _ h9 => h9) rfl dR_solve_42 ?_
  refine lv_icmp_ge (tgt := 104) hx hb dR_solve_45 (by decide) (fun c1 => ?_) (fun c1 => ?_)
  · have hm := brp hm c1
    refine lv_iconst (v := 0) hx hb dR_solve_104 (by decide) ?_
    refine lv_istore (lv' := [(6, .int 0), (0, .ref (ad 0)), (1, .int x1), (2, .int x2), (3, .int x3), (4, .long x4)]) hx hb dR_solve_105 hl (by decide) rfl (fun ls hl => ?_)
    exact hk107 x1 x2 x3 x4 0 I J hm _ _ _ hP hD hS (lv_sub hl [1, 2, 3, 4, 5, 0] rfl)
  · have hm := brn hm c1
    refine lv_lload hx hb dR_solve_48 (lv_at hl 4 rfl) ?_
    refine lv_aload_n hx hb dR_solve_50 rfl (lv_at hl 0 rfl) ?_
    refine va_get (D := D) (ci := 6) (v := .ref (ad 12)) (C := RR) (T := TR) (N := 31) hx hb hT inR hown hK hP 0 rfl rfl 21 (by decide) (hT _ wd_556) (fun _ h9 => h9) rfl dR_solve_51 ?_
    refine lv_iload hx hb dR_solve_54 (lv_at hl 5 rfl) ?_
    obtain ⟨g2, hm⟩ := gd_to hm
    refine va_iald hx hb hK hP 12 0 rfl rfl g2 dR_solve_56 ?_
    refine lv_topi (fun v3 ev3 => ?_)
    have hm := nm_to ev3 hm
    refine lv_if_ge (tgt := 64) hx hb dR_solve_57 (by decide) (fun c4 => ?_) (fun c4 => ?_)
    · have hm := brp hm c4
      refine lv_iload_n hx hb dR_solve_64 rfl (lv_at hl 3 rfl) ?_
      refine lv_if_ne (tgt := 72) hx hb dR_solve_65 (by decide) (fun c5 => ?_) (fun c5 => ?_)
      · have hm := brn hm c5
        refine lv_aload_n hx hb dR_solve_72 rfl (lv_at hl 0 rfl) ?_
        refine lv_aload_n hx hb dR_solve_73 rfl (lv_at hl 0 rfl) ?_
        refine va_get (D := D) (ci := 6) (v := .ref (ad 16)) (C := RR) (T := TR) (N := 31) hx hb hT inR hown hK hP 0 rfl rfl 27 (by decide) (hT _ wd_562) (fun _ h9 => h9) rfl dR_solve_74 ?_
        refine lv_iload_n hx hb dR_solve_77 rfl (lv_at hl 3 rfl) ?_
        refine lv_iconst (v := 1) hx hb dR_solve_78 (by decide) ?_
        refine lv_isub hx hb dR_solve_79 ?_
        refine lv_topi (fun v6 ev6 => ?_)
        have hm := nm_to ev6 hm
        obtain ⟨g7, hm⟩ := gd_to hm
        refine va_iald hx hb hK hP 16 0 rfl rfl g7 dR_solve_80 ?_
        refine lv_topi (fun v8 ev8 => ?_)
        have hm := nm_to ev8 hm
        refine lv_iload hx hb dR_solve_81 (lv_at hl 5 rfl) ?_
        obtain ⟨r9, I10, J11, hc12, hm⟩ := cl3_to hm
        refine pst_l (wf := wsR ad cI cJ cG) hD hS hA (va_runV (As := [.int v8, .int x6]) (rest := [.long x4]) ⟨hx, hb, hml, hown, hT⟩ (c_R_factor l D ad cI cJ cG _ v8 x6 I J _ hc12) (cwV 2 hT (gV wd_701 wd_703 wd_41 wd_57 wd_704) rfl rfl rfl (by decide +kernel) ⟨Nat.le_of_ble_eq_true rfl, Nat.le_of_ble_eq_true rfl⟩) ⟨preW_fb, va_recv hK hP (ci := 6) (q0 := 0) rfl rfl, preW_at hP hK hN hD⟩ rfl rfl hl.1 rfl (lv_room (Nat.le_of_ble_eq_true rfl)) dR_solve_83 ⟨Nat.zero_le _, Nat.zero_le _⟩) (fun H locs hP hD hS => ?_)
        refine lv_aload_n hx hb dR_solve_86 rfl (lv_at hl 0 rfl) ?_
        refine va_get (D := D) (ci := 6) (v := .ref (ad 12)) (C := RR) (T := TR) (N := 31) hx hb hT inR hown hK hP 0 rfl rfl 21 (by decide) (hT _ wd_556) (fun _ h9 => h9) rfl dR_solve_87 ?_
        refine lv_iload hx hb dR_solve_90 (lv_at hl 5 rfl) ?_
        obtain ⟨g13, hm⟩ := gd_to hm
        refine va_iald hx hb hK hP 12 0 rfl rfl g13 dR_solve_92 ?_
        refine lv_topi (fun v14 ev14 => ?_)
        have hm := nm_to ev14 hm
        refine lv_i2l hx hb dR_solve_93 rfl ?_
        refine lv_topl (fun v15 ev15 => ?_)
        have hm := nm_to ev15 hm
        refine lv_lmul hx hb dR_solve_94 ?_
        refine lv_topl (fun v16 ev16 => ?_)
        have hm := nm_to ev16 hm
        refine lv_lsub hx hb dR_solve_95 ?_
        refine lv_topl (fun v17 ev17 => ?_)
        have hm := nm_to ev17 hm
        refine lv_lstore (lv' := [(4, .long v17), (0, .ref (ad 0)), (1, .int x1), (2, .int x2), (3, .int x3), (6, .int x6)]) hx hb dR_solve_96 hl (by decide) rfl (fun ls hl => ?_)
        obtain ⟨v18, ev18⟩ : ∃ z : Int32, z = x6 + 1 := ⟨_, rfl⟩
        have hm := nm_to ev18 hm
        refine lv_iinc (v := v18) (lv' := [(6, .int v18), (4, .long v17), (0, .ref (ad 0)), (1, .int x1), (2, .int x2), (3, .int x3)]) hx hb dR_solve_98 hl (k := 5) rfl (by rw [ev18]; rfl) (by decide) rfl (fun ls hl => ?_)
        refine lv_goto (tgt := 39) hx hb dR_solve_101 (by decide) ?_
        exact hk39 x1 x2 x3 v17 v18 I10 J11 hm _ _ _ hP hD hS (lv_sub hl [2, 3, 4, 5, 1, 0] rfl)
      · have hm := brp hm c5
        refine lv_lconst (v := 1) hx hb dR_solve_68 (by decide) ?_
        refine lv_goto (tgt := 86) hx hb dR_solve_69 (by decide) ?_
        refine lv_aload_n hx hb dR_solve_86 rfl (lv_at hl 0 rfl) ?_
        refine va_get (D := D) (ci := 6) (v := .ref (ad 12)) (C := RR) (T := TR) (N := 31) hx hb hT inR hown hK hP 0 rfl rfl 21 (by decide) (hT _ wd_556) (fun _ h9 => h9) rfl dR_solve_87 ?_
        refine lv_iload hx hb dR_solve_90 (lv_at hl 5 rfl) ?_
        obtain ⟨g19, hm⟩ := gd_to hm
        refine va_iald hx hb hK hP 12 0 rfl rfl g19 dR_solve_92 ?_
        refine lv_topi (fun v20 ev20 => ?_)
        have hm := nm_to ev20 hm
        refine lv_i2l hx hb dR_solve_93 rfl ?_
        refine lv_topl (fun v21 ev21 => ?_)
        have hm := nm_to ev21 hm
        refine lv_lmul hx hb dR_solve_94 ?_
        refine lv_topl (fun v22 ev22 => ?_)
        have hm := nm_to ev22 hm
        refine lv_lsub hx hb dR_solve_95 ?_
        refine lv_topl (fun v23 ev23 => ?_)
        have hm := nm_to ev23 hm
        refine lv_lstore (lv' := [(4, .long v23), (0, .ref (ad 0)), (1, .int x1), (2, .int x2), (3, .int x3), (6, .int x6)]) hx hb dR_solve_96 hl (by decide) rfl (fun ls hl => ?_)
        obtain ⟨v24, ev24⟩ : ∃ z : Int32, z = x6 + 1 := ⟨_, rfl⟩
        have hm := nm_to ev24 hm
        refine lv_iinc (v := v24) (lv' := [(6, .int v24), (4, .long v23), (0, .ref (ad 0)), (1, .int x1), (2, .int x2), (3, .int x3)]) hx hb dR_solve_98 hl (k := 5) rfl (by rw [ev24]; rfl) (by decide) rfl (fun ls hl => ?_)
        refine lv_goto (tgt := 39) hx hb dR_solve_101 (by decide) ?_
        exact hk39 x1 x2 x3 v23 v24 I J hm _ _ _ hP hD hS (lv_sub hl [2, 3, 4, 5, 1, 0] rfl)
    · have hm := brn hm c4
      refine lv_lconst (v := 0) hx hb dR_solve_60 (by decide) ?_
      refine lv_goto (tgt := 95) hx hb dR_solve_61 (by decide) ?_
      refine lv_lsub hx hb dR_solve_95 ?_
      refine lv_topl (fun v25 ev25 => ?_)
      have hm := nm_to ev25 hm
      refine lv_lstore (lv' := [(4, .long v25), (0, .ref (ad 0)), (1, .int x1), (2, .int x2), (3, .int x3), (6, .int x6)]) hx hb dR_solve_96 hl (by decide) rfl (fun ls hl => ?_)
      obtain ⟨v26, ev26⟩ : ∃ z : Int32, z = x6 + 1 := ⟨_, rfl⟩
      have hm := nm_to ev26 hm
      refine lv_iinc (v := v26) (lv' := [(6, .int v26), (4, .long v25), (0, .ref (ad 0)), (1, .int x1), (2, .int x2), (3, .int x3)]) hx hb dR_solve_98 hl (k := 5) rfl (by rw [ev26]; rfl) (by decide) rfl (fun ls hl => ?_)
      refine lv_goto (tgt := 39) hx hb dR_solve_101 (by decide) ?_
      exact hk39 x1 x2 x3 v25 v26 I J hm _ _ _ hP hD hS (lv_sub hl [2, 3, 4, 5, 1, 0] rfl)
set_option maxHeartbeats 4000000 in
set_option maxRecDepth 100000 in
theorem w_R_solve_431 {p : Program} {l : Launch} {e : Env} {s : State} {m : MethodId} {args : Array Value} {below : List Frame} {meth : Method} {c : Code} {D : va_G} {A : Nat → Prop} {ad : Nat → Nat} {cI cJ cG : ClassId} {res : Int32 × SI × SJ} (X : Cx p s m args meth c bR_solve (some .boolean) 13 RR) (hK : va_K D vwCl (tysR cI cJ cG) s) (hN : NWs s) (hA : ∀ q, s.heap.size ≤ q → A q)
    {k466 : Int32 → Int32 → Int64 → Int32 → SI → SJ → Option (Int32 × SI × SJ)} (hk466 : ∀ (x1 : Int32) (x2 : Int32) (x5 : Int64) (x7 : Int32) (I : SI) (J : SJ), k466 x1 x2 x5 x7 I J = some res → WB p l e (headSpec (Cond.code yR_solve bR_solve 13 (some .boolean) :: gtb) rm_R_solve).room s m args below meth c (MQ below (va_Qi (fun (r : Int32) (u : SI × SJ) => (r, u) = res) (atW D vwCl (tysR cI cJ cG) A (wsR ad cI cJ cG)) A) args s 0 0 A) D vwCl A 13 (wsR ad cI cJ cG I J) 466 [(0, .ref (ad 0)), (1, .int x1), (2, .int x2), (5, .long x5), (7, .int x7)] [])
     (x1 : Int32) (x2 : Int32) (k0 : Int64) (I : SI) (J : SJ) (hm : b_R_solve_431 k466 x1 x2 k0 I J = some res) : WB p l e (headSpec (Cond.code yR_solve bR_solve 13 (some .boolean) :: gtb) rm_R_solve).room s m args below meth c (MQ below (va_Qi (fun (r : Int32) (u : SI × SJ) => (r, u) = res) (atW D vwCl (tysR cI cJ cG) A (wsR ad cI cJ cG)) A) args s 0 0 A) D vwCl A 13 (wsR ad cI cJ cG I J) 431 [(0, .ref (ad 0)), (1, .int x1), (2, .int x2)] [.long k0, .ref (ad 0)] := by
  obtain ⟨hx, hb, hr, hml, hown, hT, hlk⟩ := X
  intro H locs ls hP hD hS hl
  unfold b_R_solve_431 at hm
  refine va_put (D := D) (ci := 6) (v := .long k0) (ty := .long) (C := RR) (T := TR) (N := 31) hx hb hT inR tyR okR nmR hown hK hP hD hS 0 rfl rfl 26 (by decide) (hT _ wd_561) (fun _ h9 => h9) rfl pf_J rfl rfl (Nat.le_of_ble_eq_true rfl) dR_solve_431 (fun H locs hP hD hS => ?_)
  obtain ⟨J1, eJ1⟩ : ∃ z : SJ, z = va_up J 0 (vp_updL (J 0) 26 k0) := ⟨_, rfl⟩
  have hm := nm_to eJ1 hm
  have hP := P_eq (ws2 := wsR ad cI cJ cG I J1) hP (by rw [eJ1]; rfl)
  have hD := D_eq (ws2 := wsR ad cI cJ cG I J1) hD (by rw [eJ1]; rfl)
  refine lv_aload_n hx hb dR_solve_434 rfl (lv_at hl 0 rfl) ?_
  refine va_get (D := D) (ci := 6) (v := .long (J1 0 26)) (C := RR) (T := TR) (N := 31) hx hb hT inR hown hK hP 0 rfl rfl 26 (by decide) (hT _ wd_561) (fun _ h9 => h9) rfl dR_solve_435 ?_
  refine lv_lconst (v := 0) hx hb dR_solve_438 (by decide) ?_
  refine W.lcmp hx hb dR_solve_439 ?_
  refine lv_topi (fun v2 ev2 => ?_)
  have hm := nm_to ev2 hm
  refine lv_if_ge (tgt := 449) hx hb dR_solve_440 (by decide) (fun c3 => ?_) (fun c3 => ?_)
  · have hm := brp hm c3
    refine lv_lconst (v := 1) hx hb dR_solve_449 (by decide) ?_
    refine lv_lstore (lv' := [(5, .long 1), (0, .ref (ad 0)), (1, .int x1), (2, .int x2)]) hx hb dR_solve_450 hl (by decide) rfl (fun ls hl => ?_)
    refine lv_aload_n hx hb dR_solve_452 rfl (lv_at hl 1 rfl) ?_
    refine lv_aload_n hx hb dR_solve_453 rfl (lv_at hl 1 rfl) ?_
    refine va_get (D := D) (ci := 6) (v := .long (J1 0 26)) (C := RR) (T := TR) (N := 31) hx hb hT inR hown hK hP 0 rfl rfl 26 (by decide) (hT _ wd_561) (fun _ h9 => h9) rfl dR_solve_454 ?_
    refine lv_lload hx hb dR_solve_457 (lv_at hl 0 rfl) ?_
    refine lv_lmul hx hb dR_solve_459 ?_
    refine lv_topl (fun v4 ev4 => ?_)
    have hm := nm_to ev4 hm
    refine va_put (D := D) (ci := 6) (v := .long v4) (ty := .long) (C := RR) (T := TR) (N := 31) hx hb hT inR tyR okR nmR hown hK hP hD hS 0 rfl rfl 26 (by decide) (hT _ wd_561) (fun _ h9 => h9) rfl pf_J rfl rfl (Nat.le_of_ble_eq_true rfl) dR_solve_460 (fun H locs hP hD hS => ?_)
    obtain ⟨J5, eJ5⟩ : ∃ z : SJ, z = va_up J1 0 (vp_updL (J1 0) 26 v4) := ⟨_, rfl⟩
    have hm := nm_to eJ5 hm
    have hP := P_eq (ws2 := wsR ad cI cJ cG I J5) hP (by rw [eJ5]; rfl)
    have hD := D_eq (ws2 := wsR ad cI cJ cG I J5) hD (by rw [eJ5]; rfl)
    refine lv_iconst (v := 0) hx hb dR_solve_463 (by decide) ?_
    refine lv_istore (lv' := [(7, .int 0), (5, .long 1), (0, .ref (ad 0)), (1, .int x1), (2, .int x2)]) hx hb dR_solve_464 hl (by decide) rfl (fun ls hl => ?_)
    exact hk466 x1 x2 1 0 I J5 hm _ _ _ hP hD hS (lv_sub hl [2, 3, 4, 1, 0] rfl)
  · have hm := brn hm c3
    refine lv_ldc2 (v := (-1)) hx hb hown (hT _ wd_706) dR_solve_443 ?_
    refine lv_goto (tgt := 450) hx hb dR_solve_446 (by decide) ?_
    refine lv_lstore (lv' := [(5, .long (-1)), (0, .ref (ad 0)), (1, .int x1), (2, .int x2)]) hx hb dR_solve_450 hl (by decide) rfl (fun ls hl => ?_)
    refine lv_aload_n hx hb dR_solve_452 rfl (lv_at hl 1 rfl) ?_
    refine lv_aload_n hx hb dR_solve_453 rfl (lv_at hl 1 rfl) ?_
    refine va_get (D := D) (ci := 6) (v := .long (J1 0 26)) (C := RR) (T := TR) (N := 31) hx hb hT inR hown hK hP 0 rfl rfl 26 (by decide) (hT _ wd_561) (fun _ h9 => h9) rfl dR_solve_454 ?_
    refine lv_lload hx hb dR_solve_457 (lv_at hl 0 rfl) ?_
    refine lv_lmul hx hb dR_solve_459 ?_
    refine lv_topl (fun v6 ev6 => ?_)
    have hm := nm_to ev6 hm
    refine va_put (D := D) (ci := 6) (v := .long v6) (ty := .long) (C := RR) (T := TR) (N := 31) hx hb hT inR tyR okR nmR hown hK hP hD hS 0 rfl rfl 26 (by decide) (hT _ wd_561) (fun _ h9 => h9) rfl pf_J rfl rfl (Nat.le_of_ble_eq_true rfl) dR_solve_460 (fun H locs hP hD hS => ?_)
    obtain ⟨J7, eJ7⟩ : ∃ z : SJ, z = va_up J1 0 (vp_updL (J1 0) 26 v6) := ⟨_, rfl⟩
    have hm := nm_to eJ7 hm
    have hP := P_eq (ws2 := wsR ad cI cJ cG I J7) hP (by rw [eJ7]; rfl)
    have hD := D_eq (ws2 := wsR ad cI cJ cG I J7) hD (by rw [eJ7]; rfl)
    refine lv_iconst (v := 0) hx hb dR_solve_463 (by decide) ?_
    refine lv_istore (lv' := [(7, .int 0), (5, .long (-1)), (0, .ref (ad 0)), (1, .int x1), (2, .int x2)]) hx hb dR_solve_464 hl (by decide) rfl (fun ls hl => ?_)
    exact hk466 x1 x2 (-1) 0 I J7 hm _ _ _ hP hD hS (lv_sub hl [2, 3, 4, 1, 0] rfl)
set_option maxHeartbeats 4000000 in
set_option maxRecDepth 100000 in
theorem w_R_solve_190 {p : Program} {l : Launch} {e : Env} {s : State} {m : MethodId} {args : Array Value} {below : List Frame} {meth : Method} {c : Code} {D : va_G} {A : Nat → Prop} {ad : Nat → Nat} {cI cJ cG : ClassId} {res : Int32 × SI × SJ} (X : Cx p s m args meth c bR_solve (some .boolean) 13 RR) (hK : va_K D vwCl (tysR cI cJ cG) s) (hN : NWs s) (hA : ∀ q, s.heap.size ≤ q → A q)
    {k190 : Int32 → Int32 → Int64 → Int32 → Int32 → SI → SJ → Option (Int32 × SI × SJ)} (hk190 : ∀ (x1 : Int32) (x2 : Int32) (x3 : Int64) (x5 : Int32) (x6 : Int32) (I : SI) (J : SJ), k190 x1 x2 x3 x5 x6 I J = some res → WB p l e (headSpec (Cond.code yR_solve bR_solve 13 (some .boolean) :: gtb) rm_R_solve).room s m args below meth c (MQ below (va_Qi (fun (r : Int32) (u : SI × SJ) => (r, u) = res) (atW D vwCl (tysR cI cJ cG) A (wsR ad cI cJ cG)) A) args s 0 0 A) D vwCl A 13 (wsR ad cI cJ cG I J) 190 [(0, .ref (ad 0)), (1, .int x1), (2, .int x2), (3, .long x3), (5, .int x5), (6, .int x6)] [])
    {k230 : Int32 → Int32 → Int64 → Int32 → Int32 → Int32 → SI → SJ → Option (Int32 × SI × SJ)} (hk230 : ∀ (x1 : Int32) (x2 : Int32) (x3 : Int64) (x5 : Int32) (x6 : Int32) (x7 : Int32) (I : SI) (J : SJ), k230 x1 x2 x3 x5 x6 x7 I J = some res → WB p l e (headSpec (Cond.code yR_solve bR_solve 13 (some .boolean) :: gtb) rm_R_solve).room s m args below meth c (MQ below (va_Qi (fun (r : Int32) (u : SI × SJ) => (r, u) = res) (atW D vwCl (tysR cI cJ cG) A (wsR ad cI cJ cG)) A) args s 0 0 A) D vwCl A 13 (wsR ad cI cJ cG I J) 230 [(0, .ref (ad 0)), (1, .int x1), (2, .int x2), (3, .long x3), (5, .int x5), (6, .int x6), (7, .int x7)] [])
     (x1 : Int32) (x2 : Int32) (x3 : Int64) (x5 : Int32) (x6 : Int32) (I : SI) (J : SJ) (hm : b_R_solve_190 k190 k230 x1 x2 x3 x5 x6 I J = some res) : WB p l e (headSpec (Cond.code yR_solve bR_solve 13 (some .boolean) :: gtb) rm_R_solve).room s m args below meth c (MQ below (va_Qi (fun (r : Int32) (u : SI × SJ) => (r, u) = res) (atW D vwCl (tysR cI cJ cG) A (wsR ad cI cJ cG)) A) args s 0 0 A) D vwCl A 13 (wsR ad cI cJ cG I J) 190 [(0, .ref (ad 0)), (1, .int x1), (2, .int x2), (3, .long x3), (5, .int x5), (6, .int x6)] [] := by
  obtain ⟨hx, hb, hr, hml, hown, hT, hlk⟩ := X
  intro H locs ls hP hD hS hl
  unfold b_R_solve_190 at hm
  refine lv_iload hx hb dR_solve_190 (lv_at hl 5 rfl) ?_
  refine lv_iload_n hx hb dR_solve_192 rfl (lv_at hl 2 rfl) ?_
  refine lv_icmp_ge (tgt := 219) hx hb dR_solve_193 (by decide) (fun c1 => ?_) (fun c1 => ?_)
  · have hm := brp hm c1
    refine lv_iload hx hb dR_solve_219 (lv_at hl 5 rfl) ?_
    refine lv_iload_n hx hb dR_solve_221 rfl (lv_at hl 2 rfl) ?_
    refine lv_icmp_ne (tgt := 227) hx hb dR_solve_222 (by decide) (fun c2 => ?_) (fun c2 => ?_)
    · have hm := brn hm c2
      refine lv_iconst (v := 0) hx hb dR_solve_227 (by decide) ?_
      refine lv_istore (lv' := [(7, .int 0), (0, .ref (ad 0)), (1, .int x1), (2, .int x2), (3, .long x3), (5, .int x5), (6, .int x6)]) hx hb dR_solve_228 hl (by decide) rfl (fun ls hl => ?_)
      exact hk230 x1 x2 x3 x5 x6 0 I J hm _ _ _ hP hD hS (lv_sub hl [1, 2, 3, 4, 5, 6, 0] rfl)
    · have hm := brp hm c2
      refine lv_iconst (v := 0) hx hb dR_solve_225 (by decide) ?_
      exact W.zret hx hb hr rfl (fun t ht hW => ⟨⟨0, (I, J), rfl, Option.some.inj hm, ht ▸ hP, va_K.moved hW.alike hK, hD⟩, hS.F ht⟩) hS.2.2 dR_solve_226 hlk
  · have hm := brn hm c1
    refine lv_aload_n hx hb dR_solve_196 rfl (lv_at hl 0 rfl) ?_
    refine va_get (D := D) (ci := 6) (v := .ref (ad 14)) (C := RR) (T := TR) (N := 31) hx hb hT inR hown hK hP 0 rfl rfl 24 (by decide) (hT _ wd_559) (fun _ h9 => h9) rfl dR_solve_197 ?_
    refine lv_iconst (v := 5) hx hb dR_solve_200 (by decide) ?_
    refine lv_iload hx hb dR_solve_201 (lv_at hl 5 rfl) ?_
    refine lv_imul hx hb dR_solve_203 ?_
    refine lv_topi (fun v3 ev3 => ?_)
    have hm := nm_to ev3 hm
    refine lv_iload hx hb dR_solve_204 (lv_at hl 4 rfl) ?_
    refine lv_iadd hx hb dR_solve_206 ?_
    refine lv_topi (fun v4 ev4 => ?_)
    have hm := nm_to ev4 hm
    obtain ⟨g5, hm⟩ := gd_to hm
    refine va_lald hx hb hK hP 14 1 rfl rfl g5 dR_solve_207 ?_
    refine lv_topl (fun v6 ev6 => ?_)
    have hm := nm_to ev6 hm
    refine lv_lconst (v := 0) hx hb dR_solve_208 (by decide) ?_
    refine W.lcmp hx hb dR_solve_209 ?_
    refine lv_topi (fun v7 ev7 => ?_)
    have hm := nm_to ev7 hm
    refine lv_if_ne (tgt := 219) hx hb dR_solve_210 (by decide) (fun c8 => ?_) (fun c8 => ?_)
    · have hm := brn hm c8
      refine lv_iload hx hb dR_solve_219 (lv_at hl 5 rfl) ?_
      refine lv_iload_n hx hb dR_solve_221 rfl (lv_at hl 2 rfl) ?_
      refine lv_icmp_ne (tgt := 227) hx hb dR_solve_222 (by decide) (fun c9 => ?_) (fun c9 => ?_)
      · have hm := brn hm c9
        refine lv_iconst (v := 0) hx hb dR_solve_227 (by decide) ?_
        refine lv_istore (lv' := [(7, .int 0), (0, .ref (ad 0)), (1, .int x1), (2, .int x2), (3, .long x3), (5, .int x5), (6, .int x6)]) hx hb dR_solve_228 hl (by decide) rfl (fun ls hl => ?_)
        exact hk230 x1 x2 x3 x5 x6 0 I J hm _ _ _ hP hD hS (lv_sub hl [1, 2, 3, 4, 5, 6, 0] rfl)
      · have hm := brp hm c9
        refine lv_iconst (v := 0) hx hb dR_solve_225 (by decide) ?_
        exact W.zret hx hb hr rfl (fun t ht hW => ⟨⟨0, (I, J), rfl, Option.some.inj hm, ht ▸ hP, va_K.moved hW.alike hK, hD⟩, hS.F ht⟩) hS.2.2 dR_solve_226 hlk
    · have hm := brp hm c8
      obtain ⟨v10, ev10⟩ : ∃ z : Int32, z = x6 + 1 := ⟨_, rfl⟩
      have hm := nm_to ev10 hm
      refine lv_iinc (v := v10) (lv' := [(6, .int v10), (0, .ref (ad 0)), (1, .int x1), (2, .int x2), (3, .long x3), (5, .int x5)]) hx hb dR_solve_213 hl (k := 5) rfl (by rw [ev10]; rfl) (by decide) rfl (fun ls hl => ?_)
      refine lv_goto (tgt := 190) hx hb dR_solve_216 (by decide) ?_
      exact hk190 x1 x2 x3 x5 v10 I J hm _ _ _ hP hD hS (lv_sub hl [1, 2, 3, 4, 5, 0] rfl)
set_option maxHeartbeats 4000000 in
set_option maxRecDepth 100000 in
theorem w_R_solve_107 {p : Program} {l : Launch} {e : Env} {s : State} {m : MethodId} {args : Array Value} {below : List Frame} {meth : Method} {c : Code} {D : va_G} {A : Nat → Prop} {ad : Nat → Nat} {cI cJ cG : ClassId} {res : Int32 × SI × SJ} (X : Cx p s m args meth c bR_solve (some .boolean) 13 RR) (hK : va_K D vwCl (tysR cI cJ cG) s) (hN : NWs s) (hA : ∀ q, s.heap.size ≤ q → A q)
    {k7 : Int32 → Int32 → Int32 → SI → SJ → Option (Int32 × SI × SJ)} (hk7 : ∀ (x1 : Int32) (x2 : Int32) (x3 : Int32) (I : SI) (J : SJ), k7 x1 x2 x3 I J = some res → WB p l e (headSpec (Cond.code yR_solve bR_solve 13 (some .boolean) :: gtb) rm_R_solve).room s m args below meth c (MQ below (va_Qi (fun (r : Int32) (u : SI × SJ) => (r, u) = res) (atW D vwCl (tysR cI cJ cG) A (wsR ad cI cJ cG)) A) args s 0 0 A) D vwCl A 13 (wsR ad cI cJ cG I J) 7 [(0, .ref (ad 0)), (1, .int x1), (2, .int x2), (3, .int x3)] [])
    {k107 : Int32 → Int32 → Int32 → Int64 → Int32 → SI → SJ → Option (Int32 × SI × SJ)} (hk107 : ∀ (x1 : Int32) (x2 : Int32) (x3 : Int32) (x4 : Int64) (x6 : Int32) (I : SI) (J : SJ), k107 x1 x2 x3 x4 x6 I J = some res → WB p l e (headSpec (Cond.code yR_solve bR_solve 13 (some .boolean) :: gtb) rm_R_solve).room s m args below meth c (MQ below (va_Qi (fun (r : Int32) (u : SI × SJ) => (r, u) = res) (atW D vwCl (tysR cI cJ cG) A (wsR ad cI cJ cG)) A) args s 0 0 A) D vwCl A 13 (wsR ad cI cJ cG I J) 107 [(0, .ref (ad 0)), (1, .int x1), (2, .int x2), (3, .int x3), (4, .long x4), (6, .int x6)] [])
     (x1 : Int32) (x2 : Int32) (x3 : Int32) (x4 : Int64) (x6 : Int32) (I : SI) (J : SJ) (hm : b_R_solve_107 k7 k107 x1 x2 x3 x4 x6 I J = some res) : WB p l e (headSpec (Cond.code yR_solve bR_solve 13 (some .boolean) :: gtb) rm_R_solve).room s m args below meth c (MQ below (va_Qi (fun (r : Int32) (u : SI × SJ) => (r, u) = res) (atW D vwCl (tysR cI cJ cG) A (wsR ad cI cJ cG)) A) args s 0 0 A) D vwCl A 13 (wsR ad cI cJ cG I J) 107 [(0, .ref (ad 0)), (1, .int x1), (2, .int x2), (3, .int x3), (4, .long x4), (6, .int x6)] [] := by
  obtain ⟨hx, hb, hr, hml, hown, hT, hlk⟩ := X
  intro H locs ls hP hD hS hl
  unfold b_R_solve_107 at hm
  refine lv_iload hx hb dR_solve_107 (lv_at hl 5 rfl) ?_
  refine lv_iload_n hx hb dR_solve_109 rfl (lv_at hl 2 rfl) ?_
  refine lv_icmp_ge (tgt := 157) hx hb dR_solve_110 (by decide) (fun c1 => ?_) (fun c1 => ?_)
  · have hm := brp hm c1
    refine lv_aload_n hx hb dR_solve_157 rfl (lv_at hl 0 rfl) ?_
    refine va_get (D := D) (ci := 6) (v := .ref (ad 14)) (C := RR) (T := TR) (N := 31) hx hb hT inR hown hK hP 0 rfl rfl 24 (by decide) (hT _ wd_559) (fun _ h9 => h9) rfl dR_solve_158 ?_
    refine lv_iconst (v := 5) hx hb dR_solve_161 (by decide) ?_
    refine lv_iload_n hx hb dR_solve_162 rfl (lv_at hl 3 rfl) ?_
    refine lv_imul hx hb dR_solve_163 ?_
    refine lv_topi (fun v2 ev2 => ?_)
    have hm := nm_to ev2 hm
    refine lv_iconst (v := 4) hx hb dR_solve_164 (by decide) ?_
    refine lv_iadd hx hb dR_solve_165 ?_
    refine lv_topi (fun v3 ev3 => ?_)
    have hm := nm_to ev3 hm
    refine lv_lload hx hb dR_solve_166 (lv_at hl 4 rfl) ?_
    obtain ⟨g4, hm⟩ := gd_to hm
    refine va_last hx hb hK hP hD hS 14 1 rfl rfl g4 dR_solve_168 (fun H locs hP hD hS => ?_)
    obtain ⟨J5, eJ5⟩ : ∃ z : SJ, z = va_up J 14 (vp_updL (J 14) v3.toNatClampNeg x4) := ⟨_, rfl⟩
    have hm := nm_to eJ5 hm
    have hP := P_eq (ws2 := wsR ad cI cJ cG I J5) hP (by rw [eJ5]; rfl)
    have hD := D_eq (ws2 := wsR ad cI cJ cG I J5) hD (by rw [eJ5]; rfl)
    obtain ⟨v6, ev6⟩ : ∃ z : Int32, z = x3 + 1 := ⟨_, rfl⟩
    have hm := nm_to ev6 hm
    refine lv_iinc (v := v6) (lv' := [(3, .int v6), (0, .ref (ad 0)), (1, .int x1), (2, .int x2), (4, .long x4), (6, .int x6)]) hx hb dR_solve_169 hl (k := 3) rfl (by rw [ev6]; rfl) (by decide) rfl (fun ls hl => ?_)
    refine lv_goto (tgt := 7) hx hb dR_solve_172 (by decide) ?_
    exact hk7 x1 x2 v6 I J5 hm _ _ _ hP hD hS (lv_sub hl [1, 2, 3, 0] rfl)
  · have hm := brn hm c1
    refine lv_aload_n hx hb dR_solve_113 rfl (lv_at hl 0 rfl) ?_
    refine va_get (D := D) (ci := 6) (v := .ref (ad 14)) (C := RR) (T := TR) (N := 31) hx hb hT inR hown hK hP 0 rfl rfl 24 (by decide) (hT _ wd_559) (fun _ h9 => h9) rfl dR_solve_114 ?_
    refine lv_iconst (v := 5) hx hb dR_solve_117 (by decide) ?_
    refine lv_iload_n hx hb dR_solve_118 rfl (lv_at hl 3 rfl) ?_
    refine lv_imul hx hb dR_solve_119 ?_
    refine lv_topi (fun v7 ev7 => ?_)
    have hm := nm_to ev7 hm
    refine lv_iload hx hb dR_solve_120 (lv_at hl 5 rfl) ?_
    refine lv_iadd hx hb dR_solve_122 ?_
    refine lv_topi (fun v8 ev8 => ?_)
    have hm := nm_to ev8 hm
    refine lv_iload_n hx hb dR_solve_123 rfl (lv_at hl 3 rfl) ?_
    refine lv_if_ne (tgt := 131) hx hb dR_solve_124 (by decide) (fun c9 => ?_) (fun c9 => ?_)
    · have hm := brn hm c9
      refine lv_aload_n hx hb dR_solve_131 rfl (lv_at hl 0 rfl) ?_
      refine lv_aload_n hx hb dR_solve_132 rfl (lv_at hl 0 rfl) ?_
      refine va_get (D := D) (ci := 6) (v := .ref (ad 16)) (C := RR) (T := TR) (N := 31) hx hb hT inR hown hK hP 0 rfl rfl 27 (by decide) (hT _ wd_562) (fun _ h9 => h9) rfl dR_solve_133 ?_
      refine lv_iload_n hx hb dR_solve_136 rfl (lv_at hl 3 rfl) ?_
      refine lv_iconst (v := 1) hx hb dR_solve_137 (by decide) ?_
      refine lv_isub hx hb dR_solve_138 ?_
      refine lv_topi (fun v10 ev10 => ?_)
      have hm := nm_to ev10 hm
      obtain ⟨g11, hm⟩ := gd_to hm
      refine va_iald hx hb hK hP 16 0 rfl rfl g11 dR_solve_139 ?_
      refine lv_topi (fun v12 ev12 => ?_)
      have hm := nm_to ev12 hm
      refine lv_aload_n hx hb dR_solve_140 rfl (lv_at hl 0 rfl) ?_
      refine va_get (D := D) (ci := 6) (v := .ref (ad 13)) (C := RR) (T := TR) (N := 31) hx hb hT inR hown hK hP 0 rfl rfl 22 (by decide) (hT _ wd_557) (fun _ h9 => h9) rfl dR_solve_141 ?_
      refine lv_iload hx hb dR_solve_144 (lv_at hl 5 rfl) ?_
      obtain ⟨g13, hm⟩ := gd_to hm
      refine va_iald hx hb hK hP 13 0 rfl rfl g13 dR_solve_146 ?_
      refine lv_topi (fun v14 ev14 => ?_)
      have hm := nm_to ev14 hm
      obtain ⟨r15, I16, J17, hc18, hm⟩ := cl3_to hm
      refine pst_l (wf := wsR ad cI cJ cG) hD hS hA (va_runV (As := [.int v12, .int v14]) (rest := [.int v8, .ref (ad 14)]) ⟨hx, hb, hml, hown, hT⟩ (c_R_factor l D ad cI cJ cG _ v12 v14 I J _ hc18) (cwV 2 hT (gV wd_701 wd_703 wd_41 wd_57 wd_704) rfl rfl rfl (by decide +kernel) ⟨Nat.le_of_ble_eq_true rfl, Nat.le_of_ble_eq_true rfl⟩) ⟨preW_fb, va_recv hK hP (ci := 6) (q0 := 0) rfl rfl, preW_at hP hK hN hD⟩ rfl rfl hl.1 rfl (lv_room (Nat.le_of_ble_eq_true rfl)) dR_solve_147 ⟨Nat.zero_le _, Nat.zero_le _⟩) (fun H locs hP hD hS => ?_)
      obtain ⟨g19, hm⟩ := gd_to hm
      refine va_last hx hb hK hP hD hS 14 1 rfl rfl g19 dR_solve_150 (fun H locs hP hD hS => ?_)
      obtain ⟨J20, eJ20⟩ : ∃ z : SJ, z = va_up J17 14 (vp_updL (J17 14) v8.toNatClampNeg r15) := ⟨_, rfl⟩
      have hm := nm_to eJ20 hm
      have hP := P_eq (ws2 := wsR ad cI cJ cG I16 J20) hP (by rw [eJ20]; rfl)
      have hD := D_eq (ws2 := wsR ad cI cJ cG I16 J20) hD (by rw [eJ20]; rfl)
      obtain ⟨v21, ev21⟩ : ∃ z : Int32, z = x6 + 1 := ⟨_, rfl⟩
      have hm := nm_to ev21 hm
      refine lv_iinc (v := v21) (lv' := [(6, .int v21), (0, .ref (ad 0)), (1, .int x1), (2, .int x2), (3, .int x3), (4, .long x4)]) hx hb dR_solve_151 hl (k := 5) rfl (by rw [ev21]; rfl) (by decide) rfl (fun ls hl => ?_)
      refine lv_goto (tgt := 107) hx hb dR_solve_154 (by decide) ?_
      exact hk107 x1 x2 x3 x4 v21 I16 J20 hm _ _ _ hP hD hS (lv_sub hl [1, 2, 3, 4, 5, 0] rfl)
    · have hm := brp hm c9
      refine lv_lconst (v := 1) hx hb dR_solve_127 (by decide) ?_
      refine lv_goto (tgt := 150) hx hb dR_solve_128 (by decide) ?_
      obtain ⟨g22, hm⟩ := gd_to hm
      refine va_last hx hb hK hP hD hS 14 1 rfl rfl g22 dR_solve_150 (fun H locs hP hD hS => ?_)
      obtain ⟨J23, eJ23⟩ : ∃ z : SJ, z = va_up J 14 (vp_updL (J 14) v8.toNatClampNeg 1) := ⟨_, rfl⟩
      have hm := nm_to eJ23 hm
      have hP := P_eq (ws2 := wsR ad cI cJ cG I J23) hP (by rw [eJ23]; rfl)
      have hD := D_eq (ws2 := wsR ad cI cJ cG I J23) hD (by rw [eJ23]; rfl)
      obtain ⟨v24, ev24⟩ : ∃ z : Int32, z = x6 + 1 := ⟨_, rfl⟩
      have hm := nm_to ev24 hm
      refine lv_iinc (v := v24) (lv' := [(6, .int v24), (0, .ref (ad 0)), (1, .int x1), (2, .int x2), (3, .int x3), (4, .long x4)]) hx hb dR_solve_151 hl (k := 5) rfl (by rw [ev24]; rfl) (by decide) rfl (fun ls hl => ?_)
      refine lv_goto (tgt := 107) hx hb dR_solve_154 (by decide) ?_
      exact hk107 x1 x2 x3 x4 v24 I J23 hm _ _ _ hP hD hS (lv_sub hl [1, 2, 3, 4, 5, 0] rfl)
set_option maxHeartbeats 4000000 in
set_option maxRecDepth 100000 in
theorem w_R_solve_466 {p : Program} {l : Launch} {e : Env} {s : State} {m : MethodId} {args : Array Value} {below : List Frame} {meth : Method} {c : Code} {D : va_G} {A : Nat → Prop} {ad : Nat → Nat} {cI cJ cG : ClassId} {res : Int32 × SI × SJ} (X : Cx p s m args meth c bR_solve (some .boolean) 13 RR) (hK : va_K D vwCl (tysR cI cJ cG) s) (hN : NWs s) (hA : ∀ q, s.heap.size ≤ q → A q)
    {k466 : Int32 → Int32 → Int64 → Int32 → SI → SJ → Option (Int32 × SI × SJ)} (hk466 : ∀ (x1 : Int32) (x2 : Int32) (x5 : Int64) (x7 : Int32) (I : SI) (J : SJ), k466 x1 x2 x5 x7 I J = some res → WB p l e (headSpec (Cond.code yR_solve bR_solve 13 (some .boolean) :: gtb) rm_R_solve).room s m args below meth c (MQ below (va_Qi (fun (r : Int32) (u : SI × SJ) => (r, u) = res) (atW D vwCl (tysR cI cJ cG) A (wsR ad cI cJ cG)) A) args s 0 0 A) D vwCl A 13 (wsR ad cI cJ cG I J) 466 [(0, .ref (ad 0)), (1, .int x1), (2, .int x2), (5, .long x5), (7, .int x7)] [])
    {k510 : Int32 → Int64 → Int32 → SI → SJ → Option (Int32 × SI × SJ)} (hk510 : ∀ (x1 : Int32) (x7 : Int64) (x9 : Int32) (I : SI) (J : SJ), k510 x1 x7 x9 I J = some res → WB p l e (headSpec (Cond.code yR_solve bR_solve 13 (some .boolean) :: gtb) rm_R_solve).room s m args below meth c (MQ below (va_Qi (fun (r : Int32) (u : SI × SJ) => (r, u) = res) (atW D vwCl (tysR cI cJ cG) A (wsR ad cI cJ cG)) A) args s 0 0 A) D vwCl A 13 (wsR ad cI cJ cG I J) 510 [(0, .ref (ad 0)), (1, .int x1), (7, .long x7), (9, .int x9)] [])
     (x1 : Int32) (x2 : Int32) (x5 : Int64) (x7 : Int32) (I : SI) (J : SJ) (hm : b_R_solve_466 k466 k510 x1 x2 x5 x7 I J = some res) : WB p l e (headSpec (Cond.code yR_solve bR_solve 13 (some .boolean) :: gtb) rm_R_solve).room s m args below meth c (MQ below (va_Qi (fun (r : Int32) (u : SI × SJ) => (r, u) = res) (atW D vwCl (tysR cI cJ cG) A (wsR ad cI cJ cG)) A) args s 0 0 A) D vwCl A 13 (wsR ad cI cJ cG I J) 466 [(0, .ref (ad 0)), (1, .int x1), (2, .int x2), (5, .long x5), (7, .int x7)] [] := by
  obtain ⟨hx, hb, hr, hml, hown, hT, hlk⟩ := X
  intro H locs ls hP hD hS hl
  unfold b_R_solve_466 at hm
  refine lv_iload hx hb dR_solve_466 (lv_at hl 4 rfl) ?_
  refine lv_iload_n hx hb dR_solve_468 rfl (lv_at hl 2 rfl) ?_
  refine lv_icmp_ge (tgt := 504) hx hb dR_solve_469 (by decide) (fun c1 => ?_) (fun c1 => ?_)
  · have hm := brp hm c1
    refine lv_lconst (v := 0) hx hb dR_solve_504 (by decide) ?_
    refine lv_lstore (lv' := [(7, .long 0), (0, .ref (ad 0)), (1, .int x1), (2, .int x2), (5, .long x5)]) hx hb dR_solve_505 hl (by decide) rfl (fun ls hl => ?_)
    refine lv_iconst (v := 0) hx hb dR_solve_507 (by decide) ?_
    refine lv_istore (lv' := [(9, .int 0), (7, .long 0), (0, .ref (ad 0)), (1, .int x1), (2, .int x2), (5, .long x5)]) hx hb dR_solve_508 hl (by decide) rfl (fun ls hl => ?_)
    exact hk510 x1 0 0 I J hm _ _ _ hP hD hS (lv_sub hl [2, 3, 1, 0] rfl)
  · have hm := brn hm c1
    refine lv_aload_n hx hb dR_solve_472 rfl (lv_at hl 0 rfl) ?_
    refine va_get (D := D) (ci := 6) (v := .ref (ad 15)) (C := RR) (T := TR) (N := 31) hx hb hT inR hown hK hP 0 rfl rfl 25 (by decide) (hT _ wd_560) (fun _ h9 => h9) rfl dR_solve_473 ?_
    refine lv_aload_n hx hb dR_solve_476 rfl (lv_at hl 0 rfl) ?_
    refine va_get (D := D) (ci := 6) (v := .ref (ad 13)) (C := RR) (T := TR) (N := 31) hx hb hT inR hown hK hP 0 rfl rfl 22 (by decide) (hT _ wd_557) (fun _ h9 => h9) rfl dR_solve_477 ?_
    refine lv_iload hx hb dR_solve_480 (lv_at hl 4 rfl) ?_
    obtain ⟨g2, hm⟩ := gd_to hm
    refine va_iald hx hb hK hP 13 0 rfl rfl g2 dR_solve_482 ?_
    refine lv_topi (fun v3 ev3 => ?_)
    have hm := nm_to ev3 hm
    refine lv_aload_n hx hb dR_solve_483 rfl (lv_at hl 0 rfl) ?_
    refine va_get (D := D) (ci := 6) (v := .ref (ad 14)) (C := RR) (T := TR) (N := 31) hx hb hT inR hown hK hP 0 rfl rfl 24 (by decide) (hT _ wd_559) (fun _ h9 => h9) rfl dR_solve_484 ?_
    refine lv_iconst (v := 5) hx hb dR_solve_487 (by decide) ?_
    refine lv_iload hx hb dR_solve_488 (lv_at hl 4 rfl) ?_
    refine lv_imul hx hb dR_solve_490 ?_
    refine lv_topi (fun v4 ev4 => ?_)
    have hm := nm_to ev4 hm
    refine lv_iconst (v := 4) hx hb dR_solve_491 (by decide) ?_
    refine lv_iadd hx hb dR_solve_492 ?_
    refine lv_topi (fun v5 ev5 => ?_)
    have hm := nm_to ev5 hm
    obtain ⟨g6, hm⟩ := gd_to hm
    refine va_lald hx hb hK hP 14 1 rfl rfl g6 dR_solve_493 ?_
    refine lv_topl (fun v7 ev7 => ?_)
    have hm := nm_to ev7 hm
    refine lv_lload hx hb dR_solve_494 (lv_at hl 3 rfl) ?_
    refine lv_lmul hx hb dR_solve_496 ?_
    refine lv_topl (fun v8 ev8 => ?_)
    have hm := nm_to ev8 hm
    obtain ⟨g9, hm⟩ := gd_to hm
    refine va_last hx hb hK hP hD hS 15 1 rfl rfl g9 dR_solve_497 (fun H locs hP hD hS => ?_)
    obtain ⟨J10, eJ10⟩ : ∃ z : SJ, z = va_up J 15 (vp_updL (J 15) v3.toNatClampNeg v8) := ⟨_, rfl⟩
    have hm := nm_to eJ10 hm
    have hP := P_eq (ws2 := wsR ad cI cJ cG I J10) hP (by rw [eJ10]; rfl)
    have hD := D_eq (ws2 := wsR ad cI cJ cG I J10) hD (by rw [eJ10]; rfl)
    obtain ⟨v11, ev11⟩ : ∃ z : Int32, z = x7 + 1 := ⟨_, rfl⟩
    have hm := nm_to ev11 hm
    refine lv_iinc (v := v11) (lv' := [(7, .int v11), (0, .ref (ad 0)), (1, .int x1), (2, .int x2), (5, .long x5)]) hx hb dR_solve_498 hl (k := 4) rfl (by rw [ev11]; rfl) (by decide) rfl (fun ls hl => ?_)
    refine lv_goto (tgt := 466) hx hb dR_solve_501 (by decide) ?_
    exact hk466 x1 x2 x5 v11 I J10 hm _ _ _ hP hD hS (lv_sub hl [1, 2, 3, 4, 0] rfl)
set_option maxHeartbeats 4000000 in
set_option maxRecDepth 100000 in
theorem w_R_solve_230 {p : Program} {l : Launch} {e : Env} {s : State} {m : MethodId} {args : Array Value} {below : List Frame} {meth : Method} {c : Code} {D : va_G} {A : Nat → Prop} {ad : Nat → Nat} {cI cJ cG : ClassId} {res : Int32 × SI × SJ} (X : Cx p s m args meth c bR_solve (some .boolean) 13 RR) (hK : va_K D vwCl (tysR cI cJ cG) s) (hN : NWs s) (hA : ∀ q, s.heap.size ≤ q → A q)
    {k230 : Int32 → Int32 → Int64 → Int32 → Int32 → Int32 → SI → SJ → Option (Int32 × SI × SJ)} (hk230 : ∀ (x1 : Int32) (x2 : Int32) (x3 : Int64) (x5 : Int32) (x6 : Int32) (x7 : Int32) (I : SI) (J : SJ), k230 x1 x2 x3 x5 x6 x7 I J = some res → WB p l e (headSpec (Cond.code yR_solve bR_solve 13 (some .boolean) :: gtb) rm_R_solve).room s m args below meth c (MQ below (va_Qi (fun (r : Int32) (u : SI × SJ) => (r, u) = res) (atW D vwCl (tysR cI cJ cG) A (wsR ad cI cJ cG)) A) args s 0 0 A) D vwCl A 13 (wsR ad cI cJ cG I J) 230 [(0, .ref (ad 0)), (1, .int x1), (2, .int x2), (3, .long x3), (5, .int x5), (6, .int x6), (7, .int x7)] [])
    {k319 : Int32 → Int32 → Int64 → Int32 → Int64 → Int32 → SI → SJ → Option (Int32 × SI × SJ)} (hk319 : ∀ (x1 : Int32) (x2 : Int32) (x3 : Int64) (x5 : Int32) (x7 : Int64) (x9 : Int32) (I : SI) (J : SJ), k319 x1 x2 x3 x5 x7 x9 I J = some res → WB p l e (headSpec (Cond.code yR_solve bR_solve 13 (some .boolean) :: gtb) rm_R_solve).room s m args below meth c (MQ below (va_Qi (fun (r : Int32) (u : SI × SJ) => (r, u) = res) (atW D vwCl (tysR cI cJ cG) A (wsR ad cI cJ cG)) A) args s 0 0 A) D vwCl A 13 (wsR ad cI cJ cG I J) 319 [(0, .ref (ad 0)), (1, .int x1), (2, .int x2), (3, .long x3), (5, .int x5), (7, .long x7), (9, .int x9)] [])
     (x1 : Int32) (x2 : Int32) (x3 : Int64) (x5 : Int32) (x6 : Int32) (x7 : Int32) (I : SI) (J : SJ) (hm : b_R_solve_230 k230 k319 x1 x2 x3 x5 x6 x7 I J = some res) : WB p l e (headSpec (Cond.code yR_solve bR_solve 13 (some .boolean) :: gtb) rm_R_solve).room s m args below meth c (MQ below (va_Qi (fun (r : Int32) (u : SI × SJ) => (r, u) = res) (atW D vwCl (tysR cI cJ cG) A (wsR ad cI cJ cG)) A) args s 0 0 A) D vwCl A 13 (wsR ad cI cJ cG I J) 230 [(0, .ref (ad 0)), (1, .int x1), (2, .int x2), (3, .long x3), (5, .int x5), (6, .int x6), (7, .int x7)] [] := by
  obtain ⟨hx, hb, hr, hml, hown, hT, hlk⟩ := X
  intro H locs ls hP hD hS hl
  unfold b_R_solve_230 at hm
  refine lv_iload hx hb dR_solve_230 (lv_at hl 6 rfl) ?_
  refine lv_iconst (v := 5) hx hb dR_solve_232 (by decide) ?_
  refine lv_icmp_ge (tgt := 302) hx hb dR_solve_233 (by decide) (fun c1 => ?_) (fun c1 => ?_)
  · have hm := brp hm c1
    refine lv_aload_n hx hb dR_solve_302 rfl (lv_at hl 0 rfl) ?_
    refine va_get (D := D) (ci := 6) (v := .ref (ad 14)) (C := RR) (T := TR) (N := 31) hx hb hT inR hown hK hP 0 rfl rfl 24 (by decide) (hT _ wd_559) (fun _ h9 => h9) rfl dR_solve_303 ?_
    refine lv_iconst (v := 5) hx hb dR_solve_306 (by decide) ?_
    refine lv_iload hx hb dR_solve_307 (lv_at hl 4 rfl) ?_
    refine lv_imul hx hb dR_solve_309 ?_
    refine lv_topi (fun v2 ev2 => ?_)
    have hm := nm_to ev2 hm
    refine lv_iload hx hb dR_solve_310 (lv_at hl 4 rfl) ?_
    refine lv_iadd hx hb dR_solve_312 ?_
    refine lv_topi (fun v3 ev3 => ?_)
    have hm := nm_to ev3 hm
    obtain ⟨g4, hm⟩ := gd_to hm
    refine va_lald hx hb hK hP 14 1 rfl rfl g4 dR_solve_313 ?_
    refine lv_topl (fun v5 ev5 => ?_)
    have hm := nm_to ev5 hm
    refine lv_lstore (lv' := [(7, .long v5), (0, .ref (ad 0)), (1, .int x1), (2, .int x2), (3, .long x3), (5, .int x5), (6, .int x6)]) hx hb dR_solve_314 hl (by decide) rfl (fun ls hl => ?_)
    refine lv_iconst (v := 0) hx hb dR_solve_316 (by decide) ?_
    refine lv_istore (lv' := [(9, .int 0), (7, .long v5), (0, .ref (ad 0)), (1, .int x1), (2, .int x2), (3, .long x3), (5, .int x5), (6, .int x6)]) hx hb dR_solve_317 hl (by decide) rfl (fun ls hl => ?_)
    exact hk319 x1 x2 x3 x5 v5 0 I J hm _ _ _ hP hD hS (lv_sub hl [2, 3, 4, 5, 6, 1, 0] rfl)
  · have hm := brn hm c1
    refine lv_iload hx hb dR_solve_236 (lv_at hl 5 rfl) ?_
    refine lv_iload hx hb dR_solve_238 (lv_at hl 4 rfl) ?_
    refine lv_icmp_eq (tgt := 302) hx hb dR_solve_240 (by decide) (fun c6 => ?_) (fun c6 => ?_)
    · have hm := brp hm c6
      refine lv_aload_n hx hb dR_solve_302 rfl (lv_at hl 0 rfl) ?_
      refine va_get (D := D) (ci := 6) (v := .ref (ad 14)) (C := RR) (T := TR) (N := 31) hx hb hT inR hown hK hP 0 rfl rfl 24 (by decide) (hT _ wd_559) (fun _ h9 => h9) rfl dR_solve_303 ?_
      refine lv_iconst (v := 5) hx hb dR_solve_306 (by decide) ?_
      refine lv_iload hx hb dR_solve_307 (lv_at hl 4 rfl) ?_
      refine lv_imul hx hb dR_solve_309 ?_
      refine lv_topi (fun v7 ev7 => ?_)
      have hm := nm_to ev7 hm
      refine lv_iload hx hb dR_solve_310 (lv_at hl 4 rfl) ?_
      refine lv_iadd hx hb dR_solve_312 ?_
      refine lv_topi (fun v8 ev8 => ?_)
      have hm := nm_to ev8 hm
      obtain ⟨g9, hm⟩ := gd_to hm
      refine va_lald hx hb hK hP 14 1 rfl rfl g9 dR_solve_313 ?_
      refine lv_topl (fun v10 ev10 => ?_)
      have hm := nm_to ev10 hm
      refine lv_lstore (lv' := [(7, .long v10), (0, .ref (ad 0)), (1, .int x1), (2, .int x2), (3, .long x3), (5, .int x5), (6, .int x6)]) hx hb dR_solve_314 hl (by decide) rfl (fun ls hl => ?_)
      refine lv_iconst (v := 0) hx hb dR_solve_316 (by decide) ?_
      refine lv_istore (lv' := [(9, .int 0), (7, .long v10), (0, .ref (ad 0)), (1, .int x1), (2, .int x2), (3, .long x3), (5, .int x5), (6, .int x6)]) hx hb dR_solve_317 hl (by decide) rfl (fun ls hl => ?_)
      exact hk319 x1 x2 x3 x5 v10 0 I J hm _ _ _ hP hD hS (lv_sub hl [2, 3, 4, 5, 6, 1, 0] rfl)
    · have hm := brn hm c6
      refine lv_aload_n hx hb dR_solve_243 rfl (lv_at hl 0 rfl) ?_
      refine va_get (D := D) (ci := 6) (v := .ref (ad 14)) (C := RR) (T := TR) (N := 31) hx hb hT inR hown hK hP 0 rfl rfl 24 (by decide) (hT _ wd_559) (fun _ h9 => h9) rfl dR_solve_244 ?_
      refine lv_iconst (v := 5) hx hb dR_solve_247 (by decide) ?_
      refine lv_iload hx hb dR_solve_248 (lv_at hl 5 rfl) ?_
      refine lv_imul hx hb dR_solve_250 ?_
      refine lv_topi (fun v11 ev11 => ?_)
      have hm := nm_to ev11 hm
      refine lv_iload hx hb dR_solve_251 (lv_at hl 6 rfl) ?_
      refine lv_iadd hx hb dR_solve_253 ?_
      refine lv_topi (fun v12 ev12 => ?_)
      have hm := nm_to ev12 hm
      obtain ⟨g13, hm⟩ := gd_to hm
      refine va_lald hx hb hK hP 14 1 rfl rfl g13 dR_solve_254 ?_
      refine lv_topl (fun v14 ev14 => ?_)
      have hm := nm_to ev14 hm
      refine lv_lstore (lv' := [(8, .long v14), (0, .ref (ad 0)), (1, .int x1), (2, .int x2), (3, .long x3), (5, .int x5), (6, .int x6), (7, .int x7)]) hx hb dR_solve_255 hl (by decide) rfl (fun ls hl => ?_)
      refine lv_aload_n hx hb dR_solve_257 rfl (lv_at hl 1 rfl) ?_
      refine va_get (D := D) (ci := 6) (v := .ref (ad 14)) (C := RR) (T := TR) (N := 31) hx hb hT inR hown hK hP 0 rfl rfl 24 (by decide) (hT _ wd_559) (fun _ h9 => h9) rfl dR_solve_258 ?_
      refine lv_iconst (v := 5) hx hb dR_solve_261 (by decide) ?_
      refine lv_iload hx hb dR_solve_262 (lv_at hl 6 rfl) ?_
      refine lv_imul hx hb dR_solve_264 ?_
      refine lv_topi (fun v15 ev15 => ?_)
      have hm := nm_to ev15 hm
      refine lv_iload hx hb dR_solve_265 (lv_at hl 7 rfl) ?_
      refine lv_iadd hx hb dR_solve_267 ?_
      refine lv_topi (fun v16 ev16 => ?_)
      have hm := nm_to ev16 hm
      refine lv_aload_n hx hb dR_solve_268 rfl (lv_at hl 1 rfl) ?_
      refine va_get (D := D) (ci := 6) (v := .ref (ad 14)) (C := RR) (T := TR) (N := 31) hx hb hT inR hown hK hP 0 rfl rfl 24 (by decide) (hT _ wd_559) (fun _ h9 => h9) rfl dR_solve_269 ?_
      refine lv_iconst (v := 5) hx hb dR_solve_272 (by decide) ?_
      refine lv_iload hx hb dR_solve_273 (lv_at hl 5 rfl) ?_
      refine lv_imul hx hb dR_solve_275 ?_
      refine lv_topi (fun v17 ev17 => ?_)
      have hm := nm_to ev17 hm
      refine lv_iload hx hb dR_solve_276 (lv_at hl 7 rfl) ?_
      refine lv_iadd hx hb dR_solve_278 ?_
      refine lv_topi (fun v18 ev18 => ?_)
      have hm := nm_to ev18 hm
      obtain ⟨g19, hm⟩ := gd_to hm
      refine va_lald hx hb hK hP 14 1 rfl rfl g19 dR_solve_279 ?_
      refine lv_topl (fun v20 ev20 => ?_)
      have hm := nm_to ev20 hm
      obtain ⟨g21, hm⟩ := gd_to hm
      refine va_last hx hb hK hP hD hS 14 1 rfl rfl g21 dR_solve_280 (fun H locs hP hD hS => ?_)
      obtain ⟨J22, eJ22⟩ : ∃ z : SJ, z = va_up J 14 (vp_updL (J 14) v16.toNatClampNeg v20) := ⟨_, rfl⟩
      have hm := nm_to eJ22 hm
      have hP := P_eq (ws2 := wsR ad cI cJ cG I J22) hP (by rw [eJ22]; rfl)
      have hD := D_eq (ws2 := wsR ad cI cJ cG I J22) hD (by rw [eJ22]; rfl)
      refine lv_aload_n hx hb dR_solve_281 rfl (lv_at hl 1 rfl) ?_
      refine va_get (D := D) (ci := 6) (v := .ref (ad 14)) (C := RR) (T := TR) (N := 31) hx hb hT inR hown hK hP 0 rfl rfl 24 (by decide) (hT _ wd_559) (fun _ h9 => h9) rfl dR_solve_282 ?_
      refine lv_iconst (v := 5) hx hb dR_solve_285 (by decide) ?_
      refine lv_iload hx hb dR_solve_286 (lv_at hl 5 rfl) ?_
      refine lv_imul hx hb dR_solve_288 ?_
      refine lv_topi (fun v23 ev23 => ?_)
      have hm := nm_to ev23 hm
      refine lv_iload hx hb dR_solve_289 (lv_at hl 7 rfl) ?_
      refine lv_iadd hx hb dR_solve_291 ?_
      refine lv_topi (fun v24 ev24 => ?_)
      have hm := nm_to ev24 hm
      refine lv_lload hx hb dR_solve_292 (lv_at hl 0 rfl) ?_
      refine lv_lneg hx hb dR_solve_294 ?_
      refine lv_topl (fun v25 ev25 => ?_)
      have hm := nm_to ev25 hm
      obtain ⟨g26, hm⟩ := gd_to hm
      refine va_last hx hb hK hP hD hS 14 1 rfl rfl g26 dR_solve_295 (fun H locs hP hD hS => ?_)
      obtain ⟨J27, eJ27⟩ : ∃ z : SJ, z = va_up J22 14 (vp_updL (J22 14) v24.toNatClampNeg v25) := ⟨_, rfl⟩
      have hm := nm_to eJ27 hm
      have hP := P_eq (ws2 := wsR ad cI cJ cG I J27) hP (by rw [eJ27]; rfl)
      have hD := D_eq (ws2 := wsR ad cI cJ cG I J27) hD (by rw [eJ27]; rfl)
      obtain ⟨v28, ev28⟩ : ∃ z : Int32, z = x7 + 1 := ⟨_, rfl⟩
      have hm := nm_to ev28 hm
      refine lv_iinc (v := v28) (lv' := [(7, .int v28), (8, .long v14), (0, .ref (ad 0)), (1, .int x1), (2, .int x2), (3, .long x3), (5, .int x5), (6, .int x6)]) hx hb dR_solve_296 hl (k := 7) rfl (by rw [ev28]; rfl) (by decide) rfl (fun ls hl => ?_)
      refine lv_goto (tgt := 230) hx hb dR_solve_299 (by decide) ?_
      exact hk230 x1 x2 x3 x5 x6 v28 I J27 hm _ _ _ hP hD hS (lv_sub hl [2, 3, 4, 5, 6, 7, 0] rfl)
set_option maxHeartbeats 4000000 in
set_option maxRecDepth 100000 in
theorem w_R_solve_510 {p : Program} {l : Launch} {e : Env} {s : State} {m : MethodId} {args : Array Value} {below : List Frame} {meth : Method} {c : Code} {D : va_G} {A : Nat → Prop} {ad : Nat → Nat} {cI cJ cG : ClassId} {res : Int32 × SI × SJ} (X : Cx p s m args meth c bR_solve (some .boolean) 13 RR) (hK : va_K D vwCl (tysR cI cJ cG) s) (hN : NWs s) (hA : ∀ q, s.heap.size ≤ q → A q)
    {k510 : Int32 → Int64 → Int32 → SI → SJ → Option (Int32 × SI × SJ)} (hk510 : ∀ (x1 : Int32) (x7 : Int64) (x9 : Int32) (I : SI) (J : SJ), k510 x1 x7 x9 I J = some res → WB p l e (headSpec (Cond.code yR_solve bR_solve 13 (some .boolean) :: gtb) rm_R_solve).room s m args below meth c (MQ below (va_Qi (fun (r : Int32) (u : SI × SJ) => (r, u) = res) (atW D vwCl (tysR cI cJ cG) A (wsR ad cI cJ cG)) A) args s 0 0 A) D vwCl A 13 (wsR ad cI cJ cG I J) 510 [(0, .ref (ad 0)), (1, .int x1), (7, .long x7), (9, .int x9)] [])
     (x1 : Int32) (x7 : Int64) (x9 : Int32) (I : SI) (J : SJ) (hm : b_R_solve_510 k510 x1 x7 x9 I J = some res) : WB p l e (headSpec (Cond.code yR_solve bR_solve 13 (some .boolean) :: gtb) rm_R_solve).room s m args below meth c (MQ below (va_Qi (fun (r : Int32) (u : SI × SJ) => (r, u) = res) (atW D vwCl (tysR cI cJ cG) A (wsR ad cI cJ cG)) A) args s 0 0 A) D vwCl A 13 (wsR ad cI cJ cG I J) 510 [(0, .ref (ad 0)), (1, .int x1), (7, .long x7), (9, .int x9)] [] := by
  obtain ⟨hx, hb, hr, hml, hown, hT, hlk⟩ := X
  intro H locs ls hP hD hS hl
  unfold b_R_solve_510 at hm
  refine lv_iload hx hb dR_solve_510 (lv_at hl 3 rfl) ?_
  refine lv_aload_n hx hb dR_solve_512 rfl (lv_at hl 0 rfl) ?_
  refine va_get (D := D) (ci := 6) (v := .int (I 0 0)) (C := RR) (T := TR) (N := 31) hx hb hT inR hown hK hP 0 rfl rfl 0 (by decide) (hT _ wd_535) (fun _ h9 => h9) rfl dR_solve_513 ?_
  refine lv_icmp_ge (tgt := 577) hx hb dR_solve_516 (by decide) (fun c1 => ?_) (fun c1 => ?_)
  · have hm := brp hm c1
    refine lv_lload hx hb dR_solve_577 (lv_at hl 2 rfl) ?_
    refine lv_iload_n hx hb dR_solve_579 rfl (lv_at hl 1 rfl) ?_
    refine lv_i2l hx hb dR_solve_580 rfl ?_
    refine lv_topl (fun v2 ev2 => ?_)
    have hm := nm_to ev2 hm
    refine lv_aload_n hx hb dR_solve_581 rfl (lv_at hl 0 rfl) ?_
    refine va_get (D := D) (ci := 6) (v := .long (J 0 26)) (C := RR) (T := TR) (N := 31) hx hb hT inR hown hK hP 0 rfl rfl 26 (by decide) (hT _ wd_561) (fun _ h9 => h9) rfl dR_solve_582 ?_
    refine lv_lmul hx hb dR_solve_585 ?_
    refine lv_topl (fun v3 ev3 => ?_)
    have hm := nm_to ev3 hm
    refine W.lcmp hx hb dR_solve_586 ?_
    refine lv_topi (fun v4 ev4 => ?_)
    have hm := nm_to ev4 hm
    refine lv_if_ne (tgt := 594) hx hb dR_solve_587 (by decide) (fun c5 => ?_) (fun c5 => ?_)
    · have hm := brn hm c5
      refine lv_iconst (v := 0) hx hb dR_solve_594 (by decide) ?_
      exact W.zret hx hb hr rfl (fun t ht hW => ⟨⟨0, (I, J), rfl, Option.some.inj hm, ht ▸ hP, va_K.moved hW.alike hK, hD⟩, hS.F ht⟩) hS.2.2 dR_solve_595 hlk
    · have hm := brp hm c5
      refine lv_iconst (v := 1) hx hb dR_solve_590 (by decide) ?_
      refine lv_goto (tgt := 595) hx hb dR_solve_591 (by decide) ?_
      exact W.zret hx hb hr rfl (fun t ht hW => ⟨⟨1, (I, J), rfl, Option.some.inj hm, ht ▸ hP, va_K.moved hW.alike hK, hD⟩, hS.F ht⟩) hS.2.2 dR_solve_595 hlk
  · have hm := brn hm c1
    refine lv_aload_n hx hb dR_solve_519 rfl (lv_at hl 0 rfl) ?_
    refine va_get (D := D) (ci := 6) (v := .ref (ad 15)) (C := RR) (T := TR) (N := 31) hx hb hT inR hown hK hP 0 rfl rfl 25 (by decide) (hT _ wd_560) (fun _ h9 => h9) rfl dR_solve_520 ?_
    refine lv_iload hx hb dR_solve_523 (lv_at hl 3 rfl) ?_
    refine lv_aload_n hx hb dR_solve_525 rfl (lv_at hl 0 rfl) ?_
    refine va_get (D := D) (ci := 6) (v := .ref (ad 12)) (C := RR) (T := TR) (N := 31) hx hb hT inR hown hK hP 0 rfl rfl 21 (by decide) (hT _ wd_556) (fun _ h9 => h9) rfl dR_solve_526 ?_
    refine lv_iload hx hb dR_solve_529 (lv_at hl 3 rfl) ?_
    obtain ⟨g6, hm⟩ := gd_to hm
    refine va_iald hx hb hK hP 12 0 rfl rfl g6 dR_solve_531 ?_
    refine lv_topi (fun v7 ev7 => ?_)
    have hm := nm_to ev7 hm
    refine lv_if_ge (tgt := 545) hx hb dR_solve_532 (by decide) (fun c8 => ?_) (fun c8 => ?_)
    · have hm := brp hm c8
      refine lv_aload_n hx hb dR_solve_545 rfl (lv_at hl 0 rfl) ?_
      refine va_get (D := D) (ci := 6) (v := .ref (ad 12)) (C := RR) (T := TR) (N := 31) hx hb hT inR hown hK hP 0 rfl rfl 21 (by decide) (hT _ wd_556) (fun _ h9 => h9) rfl dR_solve_546 ?_
      refine lv_iload hx hb dR_solve_549 (lv_at hl 3 rfl) ?_
      obtain ⟨g9, hm⟩ := gd_to hm
      refine va_iald hx hb hK hP 12 0 rfl rfl g9 dR_solve_551 ?_
      refine lv_topi (fun v10 ev10 => ?_)
      have hm := nm_to ev10 hm
      refine lv_i2l hx hb dR_solve_552 rfl ?_
      refine lv_topl (fun v11 ev11 => ?_)
      have hm := nm_to ev11 hm
      refine lv_aload_n hx hb dR_solve_553 rfl (lv_at hl 0 rfl) ?_
      refine va_get (D := D) (ci := 6) (v := .long (J 0 26)) (C := RR) (T := TR) (N := 31) hx hb hT inR hown hK hP 0 rfl rfl 26 (by decide) (hT _ wd_561) (fun _ h9 => h9) rfl dR_solve_554 ?_
      refine lv_lmul hx hb dR_solve_557 ?_
      refine lv_topl (fun v12 ev12 => ?_)
      have hm := nm_to ev12 hm
      obtain ⟨g13, hm⟩ := gd_to hm
      refine va_last hx hb hK hP hD hS 15 1 rfl rfl g13 dR_solve_558 (fun H locs hP hD hS => ?_)
      obtain ⟨J14, eJ14⟩ : ∃ z : SJ, z = va_up J 15 (vp_updL (J 15) x9.toNatClampNeg v12) := ⟨_, rfl⟩
      have hm := nm_to eJ14 hm
      have hP := P_eq (ws2 := wsR ad cI cJ cG I J14) hP (by rw [eJ14]; rfl)
      have hD := D_eq (ws2 := wsR ad cI cJ cG I J14) hD (by rw [eJ14]; rfl)
      refine lv_lload hx hb dR_solve_559 (lv_at hl 2 rfl) ?_
      refine lv_aload_n hx hb dR_solve_561 rfl (lv_at hl 0 rfl) ?_
      refine va_get (D := D) (ci := 6) (v := .ref (ad 15)) (C := RR) (T := TR) (N := 31) hx hb hT inR hown hK hP 0 rfl rfl 25 (by decide) (hT _ wd_560) (fun _ h9 => h9) rfl dR_solve_562 ?_
      refine lv_iload hx hb dR_solve_565 (lv_at hl 3 rfl) ?_
      obtain ⟨g15, hm⟩ := gd_to hm
      refine va_lald hx hb hK hP 15 1 rfl rfl g15 dR_solve_567 ?_
      refine lv_topl (fun v16 ev16 => ?_)
      have hm := nm_to ev16 hm
      refine lv_ladd hx hb dR_solve_568 ?_
      refine lv_topl (fun v17 ev17 => ?_)
      have hm := nm_to ev17 hm
      refine lv_lstore (lv' := [(7, .long v17), (0, .ref (ad 0)), (1, .int x1), (9, .int x9)]) hx hb dR_solve_569 hl (by decide) rfl (fun ls hl => ?_)
      obtain ⟨v18, ev18⟩ : ∃ z : Int32, z = x9 + 1 := ⟨_, rfl⟩
      have hm := nm_to ev18 hm
      refine lv_iinc (v := v18) (lv' := [(9, .int v18), (7, .long v17), (0, .ref (ad 0)), (1, .int x1)]) hx hb dR_solve_571 hl (k := 3) rfl (by rw [ev18]; rfl) (by decide) rfl (fun ls hl => ?_)
      refine lv_goto (tgt := 510) hx hb dR_solve_574 (by decide) ?_
      exact hk510 x1 v17 v18 I J14 hm _ _ _ hP hD hS (lv_sub hl [2, 3, 1, 0] rfl)
    · have hm := brn hm c8
      refine lv_aload_n hx hb dR_solve_535 rfl (lv_at hl 0 rfl) ?_
      refine va_get (D := D) (ci := 6) (v := .ref (ad 15)) (C := RR) (T := TR) (N := 31) hx hb hT inR hown hK hP 0 rfl rfl 25 (by decide) (hT _ wd_560) (fun _ h9 => h9) rfl dR_solve_536 ?_
      refine lv_iload hx hb dR_solve_539 (lv_at hl 3 rfl) ?_
      obtain ⟨g19, hm⟩ := gd_to hm
      refine va_lald hx hb hK hP 15 1 rfl rfl g19 dR_solve_541 ?_
      refine lv_topl (fun v20 ev20 => ?_)
      have hm := nm_to ev20 hm
      refine lv_goto (tgt := 558) hx hb dR_solve_542 (by decide) ?_
      obtain ⟨g21, hm⟩ := gd_to hm
      refine va_last hx hb hK hP hD hS 15 1 rfl rfl g21 dR_solve_558 (fun H locs hP hD hS => ?_)
      obtain ⟨J22, eJ22⟩ : ∃ z : SJ, z = va_up J 15 (vp_updL (J 15) x9.toNatClampNeg v20) := ⟨_, rfl⟩
      have hm := nm_to eJ22 hm
      have hP := P_eq (ws2 := wsR ad cI cJ cG I J22) hP (by rw [eJ22]; rfl)
      have hD := D_eq (ws2 := wsR ad cI cJ cG I J22) hD (by rw [eJ22]; rfl)
      refine lv_lload hx hb dR_solve_559 (lv_at hl 2 rfl) ?_
      refine lv_aload_n hx hb dR_solve_561 rfl (lv_at hl 0 rfl) ?_
      refine va_get (D := D) (ci := 6) (v := .ref (ad 15)) (C := RR) (T := TR) (N := 31) hx hb hT inR hown hK hP 0 rfl rfl 25 (by decide) (hT _ wd_560) (fun _ h9 => h9) rfl dR_solve_562 ?_
      refine lv_iload hx hb dR_solve_565 (lv_at hl 3 rfl) ?_
      obtain ⟨g23, hm⟩ := gd_to hm
      refine va_lald hx hb hK hP 15 1 rfl rfl g23 dR_solve_567 ?_
      refine lv_topl (fun v24 ev24 => ?_)
      have hm := nm_to ev24 hm
      refine lv_ladd hx hb dR_solve_568 ?_
      refine lv_topl (fun v25 ev25 => ?_)
      have hm := nm_to ev25 hm
      refine lv_lstore (lv' := [(7, .long v25), (0, .ref (ad 0)), (1, .int x1), (9, .int x9)]) hx hb dR_solve_569 hl (by decide) rfl (fun ls hl => ?_)
      obtain ⟨v26, ev26⟩ : ∃ z : Int32, z = x9 + 1 := ⟨_, rfl⟩
      have hm := nm_to ev26 hm
      refine lv_iinc (v := v26) (lv' := [(9, .int v26), (7, .long v25), (0, .ref (ad 0)), (1, .int x1)]) hx hb dR_solve_571 hl (k := 3) rfl (by rw [ev26]; rfl) (by decide) rfl (fun ls hl => ?_)
      refine lv_goto (tgt := 510) hx hb dR_solve_574 (by decide) ?_
      exact hk510 x1 v25 v26 I J22 hm _ _ _ hP hD hS (lv_sub hl [2, 3, 1, 0] rfl)
set_option maxHeartbeats 4000000 in
set_option maxRecDepth 100000 in
theorem w_R_solve_319 {p : Program} {l : Launch} {e : Env} {s : State} {m : MethodId} {args : Array Value} {below : List Frame} {meth : Method} {c : Code} {D : va_G} {A : Nat → Prop} {ad : Nat → Nat} {cI cJ cG : ClassId} {res : Int32 × SI × SJ} (X : Cx p s m args meth c bR_solve (some .boolean) 13 RR) (hK : va_K D vwCl (tysR cI cJ cG) s) (hN : NWs s) (hA : ∀ q, s.heap.size ≤ q → A q)
    {k180 : Int32 → Int32 → Int64 → Int32 → SI → SJ → Option (Int32 × SI × SJ)} (hk180 : ∀ (x1 : Int32) (x2 : Int32) (x3 : Int64) (x5 : Int32) (I : SI) (J : SJ), k180 x1 x2 x3 x5 I J = some res → WB p l e (headSpec (Cond.code yR_solve bR_solve 13 (some .boolean) :: gtb) rm_R_solve).room s m args below meth c (MQ below (va_Qi (fun (r : Int32) (u : SI × SJ) => (r, u) = res) (atW D vwCl (tysR cI cJ cG) A (wsR ad cI cJ cG)) A) args s 0 0 A) D vwCl A 13 (wsR ad cI cJ cG I J) 180 [(0, .ref (ad 0)), (1, .int x1), (2, .int x2), (3, .long x3), (5, .int x5)] [])
    {k319 : Int32 → Int32 → Int64 → Int32 → Int64 → Int32 → SI → SJ → Option (Int32 × SI × SJ)} (hk319 : ∀ (x1 : Int32) (x2 : Int32) (x3 : Int64) (x5 : Int32) (x7 : Int64) (x9 : Int32) (I : SI) (J : SJ), k319 x1 x2 x3 x5 x7 x9 I J = some res → WB p l e (headSpec (Cond.code yR_solve bR_solve 13 (some .boolean) :: gtb) rm_R_solve).room s m args below meth c (MQ below (va_Qi (fun (r : Int32) (u : SI × SJ) => (r, u) = res) (atW D vwCl (tysR cI cJ cG) A (wsR ad cI cJ cG)) A) args s 0 0 A) D vwCl A 13 (wsR ad cI cJ cG I J) 319 [(0, .ref (ad 0)), (1, .int x1), (2, .int x2), (3, .long x3), (5, .int x5), (7, .long x7), (9, .int x9)] [])
    {k349 : Int32 → Int32 → Int64 → Int32 → Int64 → Int32 → Int64 → Int32 → SI → SJ → Option (Int32 × SI × SJ)} (hk349 : ∀ (x1 : Int32) (x2 : Int32) (x3 : Int64) (x5 : Int32) (x7 : Int64) (x9 : Int32) (x10 : Int64) (x12 : Int32) (I : SI) (J : SJ), k349 x1 x2 x3 x5 x7 x9 x10 x12 I J = some res → WB p l e (headSpec (Cond.code yR_solve bR_solve 13 (some .boolean) :: gtb) rm_R_solve).room s m args below meth c (MQ below (va_Qi (fun (r : Int32) (u : SI × SJ) => (r, u) = res) (atW D vwCl (tysR cI cJ cG) A (wsR ad cI cJ cG)) A) args s 0 0 A) D vwCl A 13 (wsR ad cI cJ cG I J) 349 [(0, .ref (ad 0)), (1, .int x1), (2, .int x2), (3, .long x3), (5, .int x5), (7, .long x7), (9, .int x9), (10, .long x10), (12, .int x12)] [])
     (x1 : Int32) (x2 : Int32) (x3 : Int64) (x5 : Int32) (x7 : Int64) (x9 : Int32) (I : SI) (J : SJ) (hm : b_R_solve_319 k180 k319 k349 x1 x2 x3 x5 x7 x9 I J = some res) : WB p l e (headSpec (Cond.code yR_solve bR_solve 13 (some .boolean) :: gtb) rm_R_solve).room s m args below meth c (MQ below (va_Qi (fun (r : Int32) (u : SI × SJ) => (r, u) = res) (atW D vwCl (tysR cI cJ cG) A (wsR ad cI cJ cG)) A) args s 0 0 A) D vwCl A 13 (wsR ad cI cJ cG I J) 319 [(0, .ref (ad 0)), (1, .int x1), (2, .int x2), (3, .long x3), (5, .int x5), (7, .long x7), (9, .int x9)] [] := by
  obtain ⟨hx, hb, hr, hml, hown, hT, hlk⟩ := X
  intro H locs ls hP hD hS hl
  unfold b_R_solve_319 at hm
  refine lv_iload hx hb dR_solve_319 (lv_at hl 6 rfl) ?_
  refine lv_iload_n hx hb dR_solve_321 rfl (lv_at hl 2 rfl) ?_
  refine lv_icmp_ge (tgt := 412) hx hb dR_solve_322 (by decide) (fun c1 => ?_) (fun c1 => ?_)
  · have hm := brp hm c1
    refine lv_lload hx hb dR_solve_412 (lv_at hl 5 rfl) ?_
    refine lv_lstore_n (lv' := [(3, .long x7), (0, .ref (ad 0)), (1, .int x1), (2, .int x2), (5, .int x5), (7, .long x7), (9, .int x9)]) hx hb dR_solve_414 rfl hl (by decide) rfl (fun ls hl => ?_)
    obtain ⟨v2, ev2⟩ : ∃ z : Int32, z = x5 + 1 := ⟨_, rfl⟩
    have hm := nm_to ev2 hm
    refine lv_iinc (v := v2) (lv' := [(5, .int v2), (3, .long x7), (0, .ref (ad 0)), (1, .int x1), (2, .int x2), (7, .long x7), (9, .int x9)]) hx hb dR_solve_415 hl (k := 4) rfl (by rw [ev2]; rfl) (by decide) rfl (fun ls hl => ?_)
    refine lv_goto (tgt := 180) hx hb dR_solve_418 (by decide) ?_
    exact hk180 x1 x2 x7 v2 I J hm _ _ _ hP hD hS (lv_sub hl [2, 3, 4, 1, 0] rfl)
  · have hm := brn hm c1
    refine lv_iload hx hb dR_solve_325 (lv_at hl 6 rfl) ?_
    refine lv_iload hx hb dR_solve_327 (lv_at hl 4 rfl) ?_
    refine lv_icmp_eq (tgt := 406) hx hb dR_solve_329 (by decide) (fun c3 => ?_) (fun c3 => ?_)
    · have hm := brp hm c3
      obtain ⟨v4, ev4⟩ : ∃ z : Int32, z = x9 + 1 := ⟨_, rfl⟩
      have hm := nm_to ev4 hm
      refine lv_iinc (v := v4) (lv' := [(9, .int v4), (0, .ref (ad 0)), (1, .int x1), (2, .int x2), (3, .long x3), (5, .int x5), (7, .long x7)]) hx hb dR_solve_406 hl (k := 6) rfl (by rw [ev4]; rfl) (by decide) rfl (fun ls hl => ?_)
      refine lv_goto (tgt := 319) hx hb dR_solve_409 (by decide) ?_
      exact hk319 x1 x2 x3 x5 x7 v4 I J hm _ _ _ hP hD hS (lv_sub hl [1, 2, 3, 4, 5, 6, 0] rfl)
    · have hm := brn hm c3
      refine lv_aload_n hx hb dR_solve_332 rfl (lv_at hl 0 rfl) ?_
      refine va_get (D := D) (ci := 6) (v := .ref (ad 14)) (C := RR) (T := TR) (N := 31) hx hb hT inR hown hK hP 0 rfl rfl 24 (by decide) (hT _ wd_559) (fun _ h9 => h9) rfl dR_solve_333 ?_
      refine lv_iconst (v := 5) hx hb dR_solve_336 (by decide) ?_
      refine lv_iload hx hb dR_solve_337 (lv_at hl 6 rfl) ?_
      refine lv_imul hx hb dR_solve_339 ?_
      refine lv_topi (fun v5 ev5 => ?_)
      have hm := nm_to ev5 hm
      refine lv_iload hx hb dR_solve_340 (lv_at hl 4 rfl) ?_
      refine lv_iadd hx hb dR_solve_342 ?_
      refine lv_topi (fun v6 ev6 => ?_)
      have hm := nm_to ev6 hm
      obtain ⟨g7, hm⟩ := gd_to hm
      refine va_lald hx hb hK hP 14 1 rfl rfl g7 dR_solve_343 ?_
      refine lv_topl (fun v8 ev8 => ?_)
      have hm := nm_to ev8 hm
      refine lv_lstore (lv' := [(10, .long v8), (0, .ref (ad 0)), (1, .int x1), (2, .int x2), (3, .long x3), (5, .int x5), (7, .long x7), (9, .int x9)]) hx hb dR_solve_344 hl (by decide) rfl (fun ls hl => ?_)
      refine lv_iconst (v := 0) hx hb dR_solve_346 (by decide) ?_
      refine lv_istore (lv' := [(12, .int 0), (10, .long v8), (0, .ref (ad 0)), (1, .int x1), (2, .int x2), (3, .long x3), (5, .int x5), (7, .long x7), (9, .int x9)]) hx hb dR_solve_347 hl (by decide) rfl (fun ls hl => ?_)
      exact hk349 x1 x2 x3 x5 x7 x9 v8 0 I J hm _ _ _ hP hD hS (lv_sub hl [2, 3, 4, 5, 6, 7, 8, 1, 0] rfl)
set_option maxHeartbeats 4000000 in
set_option maxRecDepth 100000 in
theorem w_R_solve_349 {p : Program} {l : Launch} {e : Env} {s : State} {m : MethodId} {args : Array Value} {below : List Frame} {meth : Method} {c : Code} {D : va_G} {A : Nat → Prop} {ad : Nat → Nat} {cI cJ cG : ClassId} {res : Int32 × SI × SJ} (X : Cx p s m args meth c bR_solve (some .boolean) 13 RR) (hK : va_K D vwCl (tysR cI cJ cG) s) (hN : NWs s) (hA : ∀ q, s.heap.size ≤ q → A q)
    {k319 : Int32 → Int32 → Int64 → Int32 → Int64 → Int32 → SI → SJ → Option (Int32 × SI × SJ)} (hk319 : ∀ (x1 : Int32) (x2 : Int32) (x3 : Int64) (x5 : Int32) (x7 : Int64) (x9 : Int32) (I : SI) (J : SJ), k319 x1 x2 x3 x5 x7 x9 I J = some res → WB p l e (headSpec (Cond.code yR_solve bR_solve 13 (some .boolean) :: gtb) rm_R_solve).room s m args below meth c (MQ below (va_Qi (fun (r : Int32) (u : SI × SJ) => (r, u) = res) (atW D vwCl (tysR cI cJ cG) A (wsR ad cI cJ cG)) A) args s 0 0 A) D vwCl A 13 (wsR ad cI cJ cG I J) 319 [(0, .ref (ad 0)), (1, .int x1), (2, .int x2), (3, .long x3), (5, .int x5), (7, .long x7), (9, .int x9)] [])
    {k349 : Int32 → Int32 → Int64 → Int32 → Int64 → Int32 → Int64 → Int32 → SI → SJ → Option (Int32 × SI × SJ)} (hk349 : ∀ (x1 : Int32) (x2 : Int32) (x3 : Int64) (x5 : Int32) (x7 : Int64) (x9 : Int32) (x10 : Int64) (x12 : Int32) (I : SI) (J : SJ), k349 x1 x2 x3 x5 x7 x9 x10 x12 I J = some res → WB p l e (headSpec (Cond.code yR_solve bR_solve 13 (some .boolean) :: gtb) rm_R_solve).room s m args below meth c (MQ below (va_Qi (fun (r : Int32) (u : SI × SJ) => (r, u) = res) (atW D vwCl (tysR cI cJ cG) A (wsR ad cI cJ cG)) A) args s 0 0 A) D vwCl A 13 (wsR ad cI cJ cG I J) 349 [(0, .ref (ad 0)), (1, .int x1), (2, .int x2), (3, .long x3), (5, .int x5), (7, .long x7), (9, .int x9), (10, .long x10), (12, .int x12)] [])
     (x1 : Int32) (x2 : Int32) (x3 : Int64) (x5 : Int32) (x7 : Int64) (x9 : Int32) (x10 : Int64) (x12 : Int32) (I : SI) (J : SJ) (hm : b_R_solve_349 k319 k349 x1 x2 x3 x5 x7 x9 x10 x12 I J = some res) : WB p l e (headSpec (Cond.code yR_solve bR_solve 13 (some .boolean) :: gtb) rm_R_solve).room s m args below meth c (MQ below (va_Qi (fun (r : Int32) (u : SI × SJ) => (r, u) = res) (atW D vwCl (tysR cI cJ cG) A (wsR ad cI cJ cG)) A) args s 0 0 A) D vwCl A 13 (wsR ad cI cJ cG I J) 349 [(0, .ref (ad 0)), (1, .int x1), (2, .int x2), (3, .long x3), (5, .int x5), (7, .long x7), (9, .int x9), (10, .long x10), (12, .int x12)] [] := by
  obtain ⟨hx, hb, hr, hml, hown, hT, hlk⟩ := X
  intro H locs ls hP hD hS hl
  unfold b_R_solve_349 at hm
  refine lv_iload hx hb dR_solve_349 (lv_at hl 8 rfl) ?_
  refine lv_iconst (v := 5) hx hb dR_solve_351 (by decide) ?_
  refine lv_icmp_ge (tgt := 406) hx hb dR_solve_352 (by decide) (fun c1 => ?_) (fun c1 => ?_)
  · have hm := brp hm c1
    obtain ⟨v2, ev2⟩ : ∃ z : Int32, z = x9 + 1 := ⟨_, rfl⟩
    have hm := nm_to ev2 hm
    refine lv_iinc (v := v2) (lv' := [(9, .int v2), (0, .ref (ad 0)), (1, .int x1), (2, .int x2), (3, .long x3), (5, .int x5), (7, .long x7), (10, .long x10), (12, .int x12)]) hx hb dR_solve_406 hl (k := 6) rfl (by rw [ev2]; rfl) (by decide) rfl (fun ls hl => ?_)
    refine lv_goto (tgt := 319) hx hb dR_solve_409 (by decide) ?_
    exact hk319 x1 x2 x3 x5 x7 v2 I J hm _ _ _ hP hD hS (lv_sub hl [1, 2, 3, 4, 5, 6, 0] rfl)
  · have hm := brn hm c1
    refine lv_aload_n hx hb dR_solve_355 rfl (lv_at hl 0 rfl) ?_
    refine va_get (D := D) (ci := 6) (v := .ref (ad 14)) (C := RR) (T := TR) (N := 31) hx hb hT inR hown hK hP 0 rfl rfl 24 (by decide) (hT _ wd_559) (fun _ h9 => h9) rfl dR_solve_356 ?_
    refine lv_iconst (v := 5) hx hb dR_solve_359 (by decide) ?_
    refine lv_iload hx hb dR_solve_360 (lv_at hl 6 rfl) ?_
    refine lv_imul hx hb dR_solve_362 ?_
    refine lv_topi (fun v3 ev3 => ?_)
    have hm := nm_to ev3 hm
    refine lv_iload hx hb dR_solve_363 (lv_at hl 8 rfl) ?_
    refine lv_iadd hx hb dR_solve_365 ?_
    refine lv_topi (fun v4 ev4 => ?_)
    have hm := nm_to ev4 hm
    refine lv_aload_n hx hb dR_solve_366 rfl (lv_at hl 0 rfl) ?_
    refine va_get (D := D) (ci := 6) (v := .ref (ad 14)) (C := RR) (T := TR) (N := 31) hx hb hT inR hown hK hP 0 rfl rfl 24 (by decide) (hT _ wd_559) (fun _ h9 => h9) rfl dR_solve_367 ?_
    refine lv_iconst (v := 5) hx hb dR_solve_370 (by decide) ?_
    refine lv_iload hx hb dR_solve_371 (lv_at hl 6 rfl) ?_
    refine lv_imul hx hb dR_solve_373 ?_
    refine lv_topi (fun v5 ev5 => ?_)
    have hm := nm_to ev5 hm
    refine lv_iload hx hb dR_solve_374 (lv_at hl 8 rfl) ?_
    refine lv_iadd hx hb dR_solve_376 ?_
    refine lv_topi (fun v6 ev6 => ?_)
    have hm := nm_to ev6 hm
    obtain ⟨g7, hm⟩ := gd_to hm
    refine va_lald hx hb hK hP 14 1 rfl rfl g7 dR_solve_377 ?_
    refine lv_topl (fun v8 ev8 => ?_)
    have hm := nm_to ev8 hm
    refine lv_lload hx hb dR_solve_378 (lv_at hl 5 rfl) ?_
    refine lv_lmul hx hb dR_solve_380 ?_
    refine lv_topl (fun v9 ev9 => ?_)
    have hm := nm_to ev9 hm
    refine lv_lload hx hb dR_solve_381 (lv_at hl 7 rfl) ?_
    refine lv_aload_n hx hb dR_solve_383 rfl (lv_at hl 0 rfl) ?_
    refine va_get (D := D) (ci := 6) (v := .ref (ad 14)) (C := RR) (T := TR) (N := 31) hx hb hT inR hown hK hP 0 rfl rfl 24 (by decide) (hT _ wd_559) (fun _ h9 => h9) rfl dR_solve_384 ?_
    refine lv_iconst (v := 5) hx hb dR_solve_387 (by decide) ?_
    refine lv_iload hx hb dR_solve_388 (lv_at hl 4 rfl) ?_
    refine lv_imul hx hb dR_solve_390 ?_
    refine lv_topi (fun v10 ev10 => ?_)
    have hm := nm_to ev10 hm
    refine lv_iload hx hb dR_solve_391 (lv_at hl 8 rfl) ?_
    refine lv_iadd hx hb dR_solve_393 ?_
    refine lv_topi (fun v11 ev11 => ?_)
    have hm := nm_to ev11 hm
    obtain ⟨g12, hm⟩ := gd_to hm
    refine va_lald hx hb hK hP 14 1 rfl rfl g12 dR_solve_394 ?_
    refine lv_topl (fun v13 ev13 => ?_)
    have hm := nm_to ev13 hm
    refine lv_lmul hx hb dR_solve_395 ?_
    refine lv_topl (fun v14 ev14 => ?_)
    have hm := nm_to ev14 hm
    refine lv_lsub hx hb dR_solve_396 ?_
    refine lv_topl (fun v15 ev15 => ?_)
    have hm := nm_to ev15 hm
    refine lv_lload_n hx hb dR_solve_397 rfl (lv_at hl 3 rfl) ?_
    obtain ⟨g16, hm⟩ := gd_to hm
    refine lv_ldiv hx hb dR_solve_398 g16 ?_
    refine lv_topl (fun v17 ev17 => ?_)
    have hm := nm_to ev17 hm
    obtain ⟨g18, hm⟩ := gd_to hm
    refine va_last hx hb hK hP hD hS 14 1 rfl rfl g18 dR_solve_399 (fun H locs hP hD hS => ?_)
    obtain ⟨J19, eJ19⟩ : ∃ z : SJ, z = va_up J 14 (vp_updL (J 14) v4.toNatClampNeg v17) := ⟨_, rfl⟩
    have hm := nm_to eJ19 hm
    have hP := P_eq (ws2 := wsR ad cI cJ cG I J19) hP (by rw [eJ19]; rfl)
    have hD := D_eq (ws2 := wsR ad cI cJ cG I J19) hD (by rw [eJ19]; rfl)
    obtain ⟨v20, ev20⟩ : ∃ z : Int32, z = x12 + 1 := ⟨_, rfl⟩
    have hm := nm_to ev20 hm
    refine lv_iinc (v := v20) (lv' := [(12, .int v20), (0, .ref (ad 0)), (1, .int x1), (2, .int x2), (3, .long x3), (5, .int x5), (7, .long x7), (9, .int x9), (10, .long x10)]) hx hb dR_solve_400 hl (k := 8) rfl (by rw [ev20]; rfl) (by decide) rfl (fun ls hl => ?_)
    refine lv_goto (tgt := 349) hx hb dR_solve_403 (by decide) ?_
    exact hk349 x1 x2 x3 x5 x7 x9 x10 v20 I J19 hm _ _ _ hP hD hS (lv_sub hl [1, 2, 3, 4, 5, 6, 7, 8, 0] rfl)
set_option maxHeartbeats 4000000 in
set_option maxRecDepth 100000 in
theorem w_R_solve_0 {p : Program} {l : Launch} {e : Env} {s : State} {m : MethodId} {args : Array Value} {below : List Frame} {meth : Method} {c : Code} {D : va_G} {A : Nat → Prop} {ad : Nat → Nat} {cI cJ cG : ClassId} {res : Int32 × SI × SJ} (X : Cx p s m args meth c bR_solve (some .boolean) 13 RR) (hK : va_K D vwCl (tysR cI cJ cG) s) (hN : NWs s) (hA : ∀ q, s.heap.size ≤ q → A q)
    {k7 : Int32 → Int32 → Int32 → SI → SJ → Option (Int32 × SI × SJ)} (hk7 : ∀ (x1 : Int32) (x2 : Int32) (x3 : Int32) (I : SI) (J : SJ), k7 x1 x2 x3 I J = some res → WB p l e (headSpec (Cond.code yR_solve bR_solve 13 (some .boolean) :: gtb) rm_R_solve).room s m args below meth c (MQ below (va_Qi (fun (r : Int32) (u : SI × SJ) => (r, u) = res) (atW D vwCl (tysR cI cJ cG) A (wsR ad cI cJ cG)) A) args s 0 0 A) D vwCl A 13 (wsR ad cI cJ cG I J) 7 [(0, .ref (ad 0)), (1, .int x1), (2, .int x2), (3, .int x3)] [])
     (x1 : Int32) (I : SI) (J : SJ) (hm : b_R_solve_0 k7 x1 I J = some res) : WB p l e (headSpec (Cond.code yR_solve bR_solve 13 (some .boolean) :: gtb) rm_R_solve).room s m args below meth c (MQ below (va_Qi (fun (r : Int32) (u : SI × SJ) => (r, u) = res) (atW D vwCl (tysR cI cJ cG) A (wsR ad cI cJ cG)) A) args s 0 0 A) D vwCl A 13 (wsR ad cI cJ cG I J) 0 [(0, .ref (ad 0)), (1, .int x1)] [] := by
  obtain ⟨hx, hb, hr, hml, hown, hT, hlk⟩ := X
  intro H locs ls hP hD hS hl
  unfold b_R_solve_0 at hm
  refine lv_aload_n hx hb dR_solve_0 rfl (lv_at hl 0 rfl) ?_
  refine va_get (D := D) (ci := 6) (v := .int (I 0 23)) (C := RR) (T := TR) (N := 31) hx hb hT inR hown hK hP 0 rfl rfl 23 (by decide) (hT _ wd_558) (fun _ h9 => h9) rfl dR_solve_1 ?_
  refine lv_istore_n (lv' := [(2, .int (I 0 23)), (0, .ref (ad 0)), (1, .int x1)]) hx hb dR_solve_4 rfl hl (by decide) rfl (fun ls hl => ?_)
  refine lv_iconst (v := 0) hx hb dR_solve_5 (by decide) ?_
  refine lv_istore_n (lv' := [(3, .int 0), (2, .int (I 0 23)), (0, .ref (ad 0)), (1, .int x1)]) hx hb dR_solve_6 rfl hl (by decide) rfl (fun ls hl => ?_)
  exact hk7 x1 (I 0 23) 0 I J hm _ _ _ hP hD hS (lv_sub hl [2, 3, 1, 0] rfl)
set_option maxHeartbeats 4000000 in
theorem gw_R_solve {p : Program} {l : Launch} {e : Env} {s : State} {m : MethodId} {args : Array Value} {below : List Frame} {meth : Method} {c : Code} {D : va_G} {A : Nat → Prop} {ad : Nat → Nat} {cI cJ cG : ClassId} {res : Int32 × SI × SJ} (X : Cx p s m args meth c bR_solve (some .boolean) 13 RR) (hK : va_K D vwCl (tysR cI cJ cG) s) (hN : NWs s) (hA : ∀ q, s.heap.size ≤ q → A q) : ∀ n : Nat, (∀ (x1 : Int32) (x2 : Int32) (x3 : Int32) (I : SI) (J : SJ), (g_R_solve n).1 x1 x2 x3 I J = some res → WB p l e (headSpec (Cond.code yR_solve bR_solve 13 (some .boolean) :: gtb) rm_R_solve).room s m args below meth c (MQ below (va_Qi (fun (r : Int32) (u : SI × SJ) => (r, u) = res) (atW D vwCl (tysR cI cJ cG) A (wsR ad cI cJ cG)) A) args s 0 0 A) D vwCl A 13 (wsR ad cI cJ cG I J) 7 [(0, .ref (ad 0)), (1, .int x1), (2, .int x2), (3, .int x3)] []) ∧ (∀ (x1 : Int32) (x2 : Int32) (x3 : Int32) (x4 : Int64) (x6 : Int32) (I : SI) (J : SJ), (g_R_solve n).2.1 x1 x2 x3 x4 x6 I J = some res → WB p l e (headSpec (Cond.code yR_solve bR_solve 13 (some .boolean) :: gtb) rm_R_solve).room s m args below meth c (MQ below (va_Qi (fun (r : Int32) (u : SI × SJ) => (r, u) = res) (atW D vwCl (tysR cI cJ cG) A (wsR ad cI cJ cG)) A) args s 0 0 A) D vwCl A 13 (wsR ad cI cJ cG I J) 39 [(0, .ref (ad 0)), (1, .int x1), (2, .int x2), (3, .int x3), (4, .long x4), (6, .int x6)] []) ∧ (∀ (x1 : Int32) (x2 : Int32) (x3 : Int32) (x4 : Int64) (x6 : Int32) (I : SI) (J : SJ), (g_R_solve n).2.2.1 x1 x2 x3 x4 x6 I J = some res → WB p l e (headSpec (Cond.code yR_solve bR_solve 13 (some .boolean) :: gtb) rm_R_solve).room s m args below meth c (MQ below (va_Qi (fun (r : Int32) (u : SI × SJ) => (r, u) = res) (atW D vwCl (tysR cI cJ cG) A (wsR ad cI cJ cG)) A) args s 0 0 A) D vwCl A 13 (wsR ad cI cJ cG I J) 107 [(0, .ref (ad 0)), (1, .int x1), (2, .int x2), (3, .int x3), (4, .long x4), (6, .int x6)] []) ∧ (∀ (x1 : Int32) (x2 : Int32) (x3 : Int64) (x5 : Int32) (I : SI) (J : SJ), (g_R_solve n).2.2.2.1 x1 x2 x3 x5 I J = some res → WB p l e (headSpec (Cond.code yR_solve bR_solve 13 (some .boolean) :: gtb) rm_R_solve).room s m args below meth c (MQ below (va_Qi (fun (r : Int32) (u : SI × SJ) => (r, u) = res) (atW D vwCl (tysR cI cJ cG) A (wsR ad cI cJ cG)) A) args s 0 0 A) D vwCl A 13 (wsR ad cI cJ cG I J) 180 [(0, .ref (ad 0)), (1, .int x1), (2, .int x2), (3, .long x3), (5, .int x5)] []) ∧ (∀ (x1 : Int32) (x2 : Int32) (x3 : Int64) (x5 : Int32) (x6 : Int32) (I : SI) (J : SJ), (g_R_solve n).2.2.2.2.1 x1 x2 x3 x5 x6 I J = some res → WB p l e (headSpec (Cond.code yR_solve bR_solve 13 (some .boolean) :: gtb) rm_R_solve).room s m args below meth c (MQ below (va_Qi (fun (r : Int32) (u : SI × SJ) => (r, u) = res) (atW D vwCl (tysR cI cJ cG) A (wsR ad cI cJ cG)) A) args s 0 0 A) D vwCl A 13 (wsR ad cI cJ cG I J) 190 [(0, .ref (ad 0)), (1, .int x1), (2, .int x2), (3, .long x3), (5, .int x5), (6, .int x6)] []) ∧ (∀ (x1 : Int32) (x2 : Int32) (x3 : Int64) (x5 : Int32) (x6 : Int32) (x7 : Int32) (I : SI) (J : SJ), (g_R_solve n).2.2.2.2.2.1 x1 x2 x3 x5 x6 x7 I J = some res → WB p l e (headSpec (Cond.code yR_solve bR_solve 13 (some .boolean) :: gtb) rm_R_solve).room s m args below meth c (MQ below (va_Qi (fun (r : Int32) (u : SI × SJ) => (r, u) = res) (atW D vwCl (tysR cI cJ cG) A (wsR ad cI cJ cG)) A) args s 0 0 A) D vwCl A 13 (wsR ad cI cJ cG I J) 230 [(0, .ref (ad 0)), (1, .int x1), (2, .int x2), (3, .long x3), (5, .int x5), (6, .int x6), (7, .int x7)] []) ∧ (∀ (x1 : Int32) (x2 : Int32) (x3 : Int64) (x5 : Int32) (x7 : Int64) (x9 : Int32) (I : SI) (J : SJ), (g_R_solve n).2.2.2.2.2.2.1 x1 x2 x3 x5 x7 x9 I J = some res → WB p l e (headSpec (Cond.code yR_solve bR_solve 13 (some .boolean) :: gtb) rm_R_solve).room s m args below meth c (MQ below (va_Qi (fun (r : Int32) (u : SI × SJ) => (r, u) = res) (atW D vwCl (tysR cI cJ cG) A (wsR ad cI cJ cG)) A) args s 0 0 A) D vwCl A 13 (wsR ad cI cJ cG I J) 319 [(0, .ref (ad 0)), (1, .int x1), (2, .int x2), (3, .long x3), (5, .int x5), (7, .long x7), (9, .int x9)] []) ∧ (∀ (x1 : Int32) (x2 : Int32) (x3 : Int64) (x5 : Int32) (x7 : Int64) (x9 : Int32) (x10 : Int64) (x12 : Int32) (I : SI) (J : SJ), (g_R_solve n).2.2.2.2.2.2.2.1 x1 x2 x3 x5 x7 x9 x10 x12 I J = some res → WB p l e (headSpec (Cond.code yR_solve bR_solve 13 (some .boolean) :: gtb) rm_R_solve).room s m args below meth c (MQ below (va_Qi (fun (r : Int32) (u : SI × SJ) => (r, u) = res) (atW D vwCl (tysR cI cJ cG) A (wsR ad cI cJ cG)) A) args s 0 0 A) D vwCl A 13 (wsR ad cI cJ cG I J) 349 [(0, .ref (ad 0)), (1, .int x1), (2, .int x2), (3, .long x3), (5, .int x5), (7, .long x7), (9, .int x9), (10, .long x10), (12, .int x12)] []) ∧ (∀ (x1 : Int32) (x2 : Int32) (k0 : Int64) (I : SI) (J : SJ), (g_R_solve n).2.2.2.2.2.2.2.2.1 x1 x2 k0 I J = some res → WB p l e (headSpec (Cond.code yR_solve bR_solve 13 (some .boolean) :: gtb) rm_R_solve).room s m args below meth c (MQ below (va_Qi (fun (r : Int32) (u : SI × SJ) => (r, u) = res) (atW D vwCl (tysR cI cJ cG) A (wsR ad cI cJ cG)) A) args s 0 0 A) D vwCl A 13 (wsR ad cI cJ cG I J) 431 [(0, .ref (ad 0)), (1, .int x1), (2, .int x2)] [.long k0, .ref (ad 0)]) ∧ (∀ (x1 : Int32) (x2 : Int32) (x5 : Int64) (x7 : Int32) (I : SI) (J : SJ), (g_R_solve n).2.2.2.2.2.2.2.2.2.1 x1 x2 x5 x7 I J = some res → WB p l e (headSpec (Cond.code yR_solve bR_solve 13 (some .boolean) :: gtb) rm_R_solve).room s m args below meth c (MQ below (va_Qi (fun (r : Int32) (u : SI × SJ) => (r, u) = res) (atW D vwCl (tysR cI cJ cG) A (wsR ad cI cJ cG)) A) args s 0 0 A) D vwCl A 13 (wsR ad cI cJ cG I J) 466 [(0, .ref (ad 0)), (1, .int x1), (2, .int x2), (5, .long x5), (7, .int x7)] []) ∧ (∀ (x1 : Int32) (x7 : Int64) (x9 : Int32) (I : SI) (J : SJ), (g_R_solve n).2.2.2.2.2.2.2.2.2.2 x1 x7 x9 I J = some res → WB p l e (headSpec (Cond.code yR_solve bR_solve 13 (some .boolean) :: gtb) rm_R_solve).room s m args below meth c (MQ below (va_Qi (fun (r : Int32) (u : SI × SJ) => (r, u) = res) (atW D vwCl (tysR cI cJ cG) A (wsR ad cI cJ cG)) A) args s 0 0 A) D vwCl A 13 (wsR ad cI cJ cG I J) 510 [(0, .ref (ad 0)), (1, .int x1), (7, .long x7), (9, .int x9)] []) := by
  intro n
  induction n with
  | zero => exact ⟨fun _ _ _ _ _ h => (by cases h), fun _ _ _ _ _ _ _ h => (by cases h), fun _ _ _ _ _ _ _ h => (by cases h), fun _ _ _ _ _ _ h => (by cases h), fun _ _ _ _ _ _ _ h => (by cases h), fun _ _ _ _ _ _ _ _ h => (by cases h), fun _ _ _ _ _ _ _ _ h => (by cases h), fun _ _ _ _ _ _ _ _ _ _ h => (by cases h), fun _ _ _ _ _ h => (by cases h), fun _ _ _ _ _ _ h => (by cases h), fun _ _ _ _ _ h => (by cases h)⟩
  | succ n ih =>
    obtain ⟨ih7, ih39, ih107, ih180, ih190, ih230, ih319, ih349, ih431, ih466, ih510⟩ := ih
    exact ⟨fun x1 x2 x3 I J h => w_R_solve_7 X hK hN hA ih39 ih180 x1 x2 x3 I J h, fun x1 x2 x3 x4 x6 I J h => w_R_solve_39 X hK hN hA ih39 ih107 x1 x2 x3 x4 x6 I J h, fun x1 x2 x3 x4 x6 I J h => w_R_solve_107 X hK hN hA ih7 ih107 x1 x2 x3 x4 x6 I J h, fun x1 x2 x3 x5 I J h => w_R_solve_180 X hK hN hA ih190 ih431 x1 x2 x3 x5 I J h, fun x1 x2 x3 x5 x6 I J h => w_R_solve_190 X hK hN hA ih190 ih230 x1 x2 x3 x5 x6 I J h, fun x1 x2 x3 x5 x6 x7 I J h => w_R_solve_230 X hK hN hA ih230 ih319 x1 x2 x3 x5 x6 x7 I J h, fun x1 x2 x3 x5 x7 x9 I J h => w_R_solve_319 X hK hN hA ih180 ih319 ih349 x1 x2 x3 x5 x7 x9 I J h, fun x1 x2 x3 x5 x7 x9 x10 x12 I J h => w_R_solve_349 X hK hN hA ih319 ih349 x1 x2 x3 x5 x7 x9 x10 x12 I J h, fun x1 x2 k0 I J h => w_R_solve_431 X hK hN hA ih466 x1 x2 k0 I J h, fun x1 x2 x5 x7 I J h => w_R_solve_466 X hK hN hA ih466 ih510 x1 x2 x5 x7 I J h, fun x1 x7 x9 I J h => w_R_solve_510 X hK hN hA ih510 x1 x7 x9 I J h⟩
set_option maxHeartbeats 4000000 in
set_option maxRecDepth 100000 in
theorem c_R_solve (l : Launch) (D : va_G) (ad : Nat → Nat) (cI cJ cG : ClassId) (sz : Nat) (x1 : Int32) (I : SI) (J : SJ) (res : Int32 × SI × SJ) (hm : m_R_solve x1 I J = some res) : Met l yR_solve (Cond.code yR_solve bR_solve 13 (some .boolean) :: gtb) rm_R_solve (va_Pc [.ref (ad 0), .int x1] (preW D vwCl (tysR cI cJ cG) (wsR ad cI cJ cG I J) sz)) (va_Qi (fun (r : Int32) (u : SI × SJ) => (r, u) = res) (atW D vwCl (tysR cI cJ cG) (va_A (wsR ad cI cJ cG I J) sz) (wsR ad cI cJ cG)) (va_A (wsR ad cI cJ cG I J) sz)) 0 0 (va_A (wsR ad cI cJ cG I J) sz) := by
  refine Met.ofW (cc := bR_solve) (maxL := 13) (ret := (some .boolean)) (by decide) rfl ?_
  intro p e s m args below meth c s₁ B hml hv
  obtain ⟨rfl, hsz, hP, hK, hD0, hN⟩ := hv
  subst hsz
  have X : Cx p s m [.ref (ad 0), .int x1].toArray meth c bR_solve (some .boolean) 13 RR := ⟨B.exec, B.bytes, B.returns, hml, findClass_of_methodNamed B.named, fun w h => atoms_spec (ws := (Cond.code yR_solve bR_solve 13 (some .boolean) :: gtb)) B.pre w (List.mem_cons_of_mem _ h), B.notSynchronized⟩
  have hl := lv_entry ([.ref (ad 0), .int x1]) (n := 13) (Nat.le_of_ble_eq_true rfl)
  rw [lg_entry_eq]
  generalize (lg_sl ([.ref (ad 0), .int x1]) ++ List.replicate (13 - (lg_sl ([.ref (ad 0), .int x1])).length) Slot.unset).toArray = ls at hl ⊢
  have hl : lv_has ls 13 [(0, .ref (ad 0)), (1, .int x1)] := hl
  have hA : ∀ q, s.heap.size ≤ q → va_A (wsR ad cI cJ cG I J) s.heap.size q := fun q h => Or.inr h
  exact w_R_solve_0 X hK hN hA (gw_R_solve X hK hN hA fuel).1 x1 I J hm _ _ _ hP hD0.self va_S.rf hl
def b_R_look_34 (k34 : Int32 → SI → SJ → Option (Int32 × SI × SJ)) (x2 : Int32) (I : SI) (J : SJ) : Option (Int32 × SI × SJ) :=
  if (I 0 0) ≤ x2 then
    nm (va_up J 0 (vp_updL (J 0) 30 (J 0 26))) fun J2 =>
    nm (va_up I 0 (upd (I 0) 28 1)) fun I3 =>
    some (1, I3, J2)
  else
    gd (vin x2 4) <|
    nm (J 15 x2.toNatClampNeg) fun v5 =>
    gd (vin x2 4) <|
    nm (va_up J 17 (vp_updL (J 17) x2.toNatClampNeg v5)) fun J7 =>
    nm (x2 + 1) fun v8 =>
    k34 v8 I J7
def b_R_look_0 (k34 : Int32 → SI → SJ → Option (Int32 × SI × SJ)) (x1 : Int32) (I : SI) (J : SJ) : Option (Int32 × SI × SJ) :=
  cl3 (m_R_solve x1 I J) fun r1 I2 J3 =>
  if r1 = 0 then
    some (0, I2, J3)
  else
    cl3 (m_R_keepsAll x1 I2 J3) fun r6 I7 J8 =>
    if r6 = 0 then
      some (0, I7, J8)
    else
      if (I7 0 28) = 0 then
        k34 0 I7 J8
      else
        cl3 (m_R_isBetter I7 J8) fun r12 I13 J14 =>
        if r12 = 0 then
          nm (va_up I13 0 (upd (I13 0) 28 1)) fun I17 =>
          some (1, I17, J14)
        else
          k34 0 I13 J14
def g_R_look : Nat → (Int32 → SI → SJ → Option (Int32 × SI × SJ))
  | 0 => (fun _ _ _ => none)
  | n + 1 => (fun x2 I J => b_R_look_34 (g_R_look n) x2 I J)
def m_R_look (x1 : Int32) (I : SI) (J : SJ) : Option (Int32 × SI × SJ) := b_R_look_0 (g_R_look fuel) x1 I J
def rm_R_look : Room := { frames := 3, cells := 0, slots := 0, locals := 75 }
set_option maxHeartbeats 4000000 in
set_option maxRecDepth 100000 in
theorem w_R_look_34 {p : Program} {l : Launch} {e : Env} {s : State} {m : MethodId} {args : Array Value} {below : List Frame} {meth : Method} {c : Code} {D : va_G} {A : Nat → Prop} {ad : Nat → Nat} {cI cJ cG : ClassId} {res : Int32 × SI × SJ} (X : Cx p s m args meth c bR_look (some .boolean) 3 RR) (hK : va_K D vwCl (tysR cI cJ cG) s) (hN : NWs s) (hA : ∀ q, s.heap.size ≤ q → A q)
    {k34 : Int32 → SI → SJ → Option (Int32 × SI × SJ)} (hk34 : ∀ (x2 : Int32) (I : SI) (J : SJ), k34 x2 I J = some res → WB p l e (headSpec (Cond.code yR_look bR_look 3 (some .boolean) :: gtb) rm_R_look).room s m args below meth c (MQ below (va_Qi (fun (r : Int32) (u : SI × SJ) => (r, u) = res) (atW D vwCl (tysR cI cJ cG) A (wsR ad cI cJ cG)) A) args s 0 0 A) D vwCl A 3 (wsR ad cI cJ cG I J) 34 [(0, .ref (ad 0)), (2, .int x2)] [])
     (x2 : Int32) (I : SI) (J : SJ) (hm : b_R_look_34 k34 x2 I J = some res) : WB p l e (headSpec (Cond.code yR_look bR_look 3 (some .boolean) :: gtb) rm_R_look).room s m args below meth c (MQ below (va_Qi (fun (r : Int32) (u : SI × SJ) => (r, u) = res) (atW D vwCl (tysR cI cJ cG) A (wsR ad cI cJ cG)) A) args s 0 0 A) D vwCl A 3 (wsR ad cI cJ cG I J) 34 [(0, .ref (ad 0)), (2, .int x2)] [] := by
  obtain ⟨hx, hb, hr, hml, hown, hT, hlk⟩ := X
  intro H locs ls hP hD hS hl
  unfold b_R_look_34 at hm
  refine lv_iload_n hx hb dR_look_34 rfl (lv_at hl 1 rfl) ?_
  refine lv_aload_n hx hb dR_look_35 rfl (lv_at hl 0 rfl) ?_
  refine va_get (D := D) (ci := 6) (v := .int (I 0 0)) (C := RR) (T := TR) (N := 31) hx hb hT inR hown hK hP 0 rfl rfl 0 (by decide) (hT _ wd_535) (fun _ h9 => h9) rfl dR_look_36 ?_
  refine lv_icmp_ge (tgt := 60) hx hb dR_look_39 (by decide) (fun c1 => ?_) (fun c1 => ?_)
  · have hm := brp hm c1
    refine lv_aload_n hx hb dR_look_60 rfl (lv_at hl 0 rfl) ?_
    refine lv_aload_n hx hb dR_look_61 rfl (lv_at hl 0 rfl) ?_
    refine va_get (D := D) (ci := 6) (v := .long (J 0 26)) (C := RR) (T := TR) (N := 31) hx hb hT inR hown hK hP 0 rfl rfl 26 (by decide) (hT _ wd_561) (fun _ h9 => h9) rfl dR_look_62 ?_
    refine va_put (D := D) (ci := 6) (v := .long (J 0 26)) (ty := .long) (C := RR) (T := TR) (N := 31) hx hb hT inR tyR okR nmR hown hK hP hD hS 0 rfl rfl 30 (by decide) (hT _ wd_565) (fun _ h9 => h9) rfl pf_J rfl rfl (Nat.le_of_ble_eq_true rfl) dR_look_65 (fun H locs hP hD hS => ?_)
    obtain ⟨J2, eJ2⟩ : ∃ z : SJ, z = va_up J 0 (vp_updL (J 0) 30 (J 0 26)) := ⟨_, rfl⟩
    have hm := nm_to eJ2 hm
    have hP := P_eq (ws2 := wsR ad cI cJ cG I J2) hP (by rw [eJ2]; rfl)
    have hD := D_eq (ws2 := wsR ad cI cJ cG I J2) hD (by rw [eJ2]; rfl)
    refine lv_aload_n hx hb dR_look_68 rfl (lv_at hl 0 rfl) ?_
    refine lv_iconst (v := 1) hx hb dR_look_69 (by decide) ?_
    refine va_put (D := D) (ci := 6) (v := .int 1) (ty := .boolean) (C := RR) (T := TR) (N := 31) hx hb hT inR tyR okR nmR hown hK hP hD hS 0 rfl rfl 28 (by decide) (hT _ wd_563) (fun _ h9 => h9) rfl pf_Z rfl rfl (Nat.le_of_ble_eq_true rfl) dR_look_70 (fun H locs hP hD hS => ?_)
    obtain ⟨I3, eI3⟩ : ∃ z : SI, z = va_up I 0 (upd (I 0) 28 1) := ⟨_, rfl⟩
    have hm := nm_to eI3 hm
    have hP := P_eq (ws2 := wsR ad cI cJ cG I3 J2) hP (by rw [eI3]; rfl)
    have hD := D_eq (ws2 := wsR ad cI cJ cG I3 J2) hD (by rw [eI3]; rfl)
    refine lv_iconst (v := 1) hx hb dR_look_73 (by decide) ?_
    exact W.zret hx hb hr rfl (fun t ht hW => ⟨⟨1, (I3, J2), rfl, Option.some.inj hm, ht ▸ hP, va_K.moved hW.alike hK, hD⟩, hS.F ht⟩) hS.2.2 dR_look_74 hlk
  · have hm := brn hm c1
    refine lv_aload_n hx hb dR_look_42 rfl (lv_at hl 0 rfl) ?_
    refine va_get (D := D) (ci := 6) (v := .ref (ad 17)) (C := RR) (T := TR) (N := 31) hx hb hT inR hown hK hP 0 rfl rfl 29 (by decide) (hT _ wd_564) (fun _ h9 => h9) rfl dR_look_43 ?_
    refine lv_iload_n hx hb dR_look_46 rfl (lv_at hl 1 rfl) ?_
    refine lv_aload_n hx hb dR_look_47 rfl (lv_at hl 0 rfl) ?_
    refine va_get (D := D) (ci := 6) (v := .ref (ad 15)) (C := RR) (T := TR) (N := 31) hx hb hT inR hown hK hP 0 rfl rfl 25 (by decide) (hT _ wd_560) (fun _ h9 => h9) rfl dR_look_48 ?_
    refine lv_iload_n hx hb dR_look_51 rfl (lv_at hl 1 rfl) ?_
    obtain ⟨g4, hm⟩ := gd_to hm
    refine va_lald hx hb hK hP 15 1 rfl rfl g4 dR_look_52 ?_
    refine lv_topl (fun v5 ev5 => ?_)
    have hm := nm_to ev5 hm
    obtain ⟨g6, hm⟩ := gd_to hm
    refine va_last hx hb hK hP hD hS 17 1 rfl rfl g6 dR_look_53 (fun H locs hP hD hS => ?_)
    obtain ⟨J7, eJ7⟩ : ∃ z : SJ, z = va_up J 17 (vp_updL (J 17) x2.toNatClampNeg v5) := ⟨_, rfl⟩
    have hm := nm_to eJ7 hm
    have hP := P_eq (ws2 := wsR ad cI cJ cG I J7) hP (by rw [eJ7]; rfl)
    have hD := D_eq (ws2 := wsR ad cI cJ cG I J7) hD (by rw [eJ7]; rfl)
    obtain ⟨v8, ev8⟩ : ∃ z : Int32, z = x2 + 1 := ⟨_, rfl⟩
    have hm := nm_to ev8 hm
    refine lv_iinc (v := v8) (lv' := [(2, .int v8), (0, .ref (ad 0))]) hx hb dR_look_54 hl (k := 1) rfl (by rw [ev8]; rfl) (by decide) rfl (fun ls hl => ?_)
    refine lv_goto (tgt := 34) hx hb dR_look_57 (by decide) ?_
    exact hk34 v8 I J7 hm _ _ _ hP hD hS (lv_sub hl [1, 0] rfl)
set_option maxHeartbeats 4000000 in
set_option maxRecDepth 100000 in
theorem w_R_look_0 {p : Program} {l : Launch} {e : Env} {s : State} {m : MethodId} {args : Array Value} {below : List Frame} {meth : Method} {c : Code} {D : va_G} {A : Nat → Prop} {ad : Nat → Nat} {cI cJ cG : ClassId} {res : Int32 × SI × SJ} (X : Cx p s m args meth c bR_look (some .boolean) 3 RR) (hK : va_K D vwCl (tysR cI cJ cG) s) (hN : NWs s) (hA : ∀ q, s.heap.size ≤ q → A q)
    {k34 : Int32 → SI → SJ → Option (Int32 × SI × SJ)} (hk34 : ∀ (x2 : Int32) (I : SI) (J : SJ), k34 x2 I J = some res → WB p l e (headSpec (Cond.code yR_look bR_look 3 (some .boolean) :: gtb) rm_R_look).room s m args below meth c (MQ below (va_Qi (fun (r : Int32) (u : SI × SJ) => (r, u) = res) (atW D vwCl (tysR cI cJ cG) A (wsR ad cI cJ cG)) A) args s 0 0 A) D vwCl A 3 (wsR ad cI cJ cG I J) 34 [(0, .ref (ad 0)), (2, .int x2)] [])
     (x1 : Int32) (I : SI) (J : SJ) (hm : b_R_look_0 k34 x1 I J = some res) : WB p l e (headSpec (Cond.code yR_look bR_look 3 (some .boolean) :: gtb) rm_R_look).room s m args below meth c (MQ below (va_Qi (fun (r : Int32) (u : SI × SJ) => (r, u) = res) (atW D vwCl (tysR cI cJ cG) A (wsR ad cI cJ cG)) A) args s 0 0 A) D vwCl A 3 (wsR ad cI cJ cG I J) 0 [(0, .ref (ad 0)), (1, .int x1)] [] := by
  obtain ⟨hx, hb, hr, hml, hown, hT, hlk⟩ := X
  intro H locs ls hP hD hS hl
  unfold b_R_look_0 at hm
  refine lv_aload_n hx hb dR_look_0 rfl (lv_at hl 0 rfl) ?_
  refine lv_iload_n hx hb dR_look_1 rfl (lv_at hl 1 rfl) ?_
  obtain ⟨r1, I2, J3, hc4, hm⟩ := cl3_to hm
  refine pst_i (wf := wsR ad cI cJ cG) hD hS hA (va_runV (As := [.int x1]) (rest := []) ⟨hx, hb, hml, hown, hT⟩ (c_R_solve l D ad cI cJ cG _ x1 I J _ hc4) (cwV 1 hT (gV wd_693 wd_695 wd_39 wd_57 wd_696) rfl rfl rfl (by decide +kernel) ⟨Nat.le_of_ble_eq_true rfl, Nat.le_of_ble_eq_true rfl⟩) ⟨preW_fb, va_recv hK hP (ci := 6) (q0 := 0) rfl rfl, preW_at hP hK hN hD⟩ rfl rfl hl.1 rfl (lv_room (Nat.le_of_ble_eq_true rfl)) dR_look_2 ⟨Nat.zero_le _, Nat.zero_le _⟩) (fun H locs hP hD hS => ?_)
  refine lv_if_eq (tgt := 16) hx hb dR_look_5 (by decide) (fun c5 => ?_) (fun c5 => ?_)
  · have hm := brp hm c5
    refine lv_iconst (v := 0) hx hb dR_look_16 (by decide) ?_
    exact W.zret hx hb hr rfl (fun t ht hW => ⟨⟨0, (I2, J3), rfl, Option.some.inj hm, ht ▸ hP, va_K.moved hW.alike hK, hD⟩, hS.F ht⟩) hS.2.2 dR_look_17 hlk
  · have hm := brn hm c5
    refine lv_aload_n hx hb dR_look_8 rfl (lv_at hl 0 rfl) ?_
    refine lv_iload_n hx hb dR_look_9 rfl (lv_at hl 1 rfl) ?_
    obtain ⟨r6, I7, J8, hc9, hm⟩ := cl3_to hm
    refine pst_i (wf := wsR ad cI cJ cG) hD hS hA (va_runV (As := [.int x1]) (rest := []) ⟨hx, hb, hml, hown, hT⟩ (c_R_keepsAll l D ad cI cJ cG _ x1 I2 J3 _ hc9) (cwV 1 hT (gV wd_707 wd_709 wd_42 wd_57 wd_710) rfl rfl rfl (by decide +kernel) ⟨Nat.le_of_ble_eq_true rfl, Nat.le_of_ble_eq_true rfl⟩) ⟨preW_fb, va_recv hK hP (ci := 6) (q0 := 0) rfl rfl, preW_at hP hK hN hD⟩ rfl rfl hl.1 rfl (lv_room (Nat.le_of_ble_eq_true rfl)) dR_look_10 ⟨Nat.zero_le _, Nat.zero_le _⟩) (fun H locs hP hD hS => ?_)
    refine lv_if_ne (tgt := 18) hx hb dR_look_13 (by decide) (fun c10 => ?_) (fun c10 => ?_)
    · have hm := brn hm c10
      refine lv_aload_n hx hb dR_look_18 rfl (lv_at hl 0 rfl) ?_
      refine va_get (D := D) (ci := 6) (v := .int (I7 0 28)) (C := RR) (T := TR) (N := 31) hx hb hT inR hown hK hP 0 rfl rfl 28 (by decide) (hT _ wd_563) (fun _ h9 => h9) rfl dR_look_19 ?_
      refine lv_if_eq (tgt := 32) hx hb dR_look_22 (by decide) (fun c11 => ?_) (fun c11 => ?_)
      · have hm := brp hm c11
        refine lv_iconst (v := 0) hx hb dR_look_32 (by decide) ?_
        refine lv_istore_n (lv' := [(2, .int 0), (0, .ref (ad 0)), (1, .int x1)]) hx hb dR_look_33 rfl hl (by decide) rfl (fun ls hl => ?_)
        exact hk34 0 I7 J8 hm _ _ _ hP hD hS (lv_sub hl [1, 0] rfl)
      · have hm := brn hm c11
        refine lv_aload_n hx hb dR_look_25 rfl (lv_at hl 0 rfl) ?_
        obtain ⟨r12, I13, J14, hc15, hm⟩ := cl3_to hm
        refine pst_i (wf := wsR ad cI cJ cG) hD hS hA (va_runV (As := []) (rest := []) ⟨hx, hb, hml, hown, hT⟩ (c_R_isBetter l D ad cI cJ cG _ I7 J8 _ hc15) (cwV 0 hT (gV wd_718 wd_720 wd_44 wd_57 wd_721) rfl rfl rfl (by decide +kernel) ⟨Nat.le_of_ble_eq_true rfl, Nat.le_of_ble_eq_true rfl⟩) ⟨preW_fb, va_recv hK hP (ci := 6) (q0 := 0) rfl rfl, preW_at hP hK hN hD⟩ rfl rfl hl.1 rfl (lv_room (Nat.le_of_ble_eq_true rfl)) dR_look_26 ⟨Nat.zero_le _, Nat.zero_le _⟩) (fun H locs hP hD hS => ?_)
        refine lv_if_eq (tgt := 68) hx hb dR_look_29 (by decide) (fun c16 => ?_) (fun c16 => ?_)
        · have hm := brp hm c16
          refine lv_aload_n hx hb dR_look_68 rfl (lv_at hl 0 rfl) ?_
          refine lv_iconst (v := 1) hx hb dR_look_69 (by decide) ?_
          refine va_put (D := D) (ci := 6) (v := .int 1) (ty := .boolean) (C := RR) (T := TR) (N := 31) hx hb hT inR tyR okR nmR hown hK hP hD hS 0 rfl rfl 28 (by decide) (hT _ wd_563) (fun _ h9 => h9) rfl pf_Z rfl rfl (Nat.le_of_ble_eq_true rfl) dR_look_70 (fun H locs hP hD hS => ?_)
          obtain ⟨I17, eI17⟩ : ∃ z : SI, z = va_up I13 0 (upd (I13 0) 28 1) := ⟨_, rfl⟩
          have hm := nm_to eI17 hm
          have hP := P_eq (ws2 := wsR ad cI cJ cG I17 J14) hP (by rw [eI17]; rfl)
          have hD := D_eq (ws2 := wsR ad cI cJ cG I17 J14) hD (by rw [eI17]; rfl)
          refine lv_iconst (v := 1) hx hb dR_look_73 (by decide) ?_
          exact W.zret hx hb hr rfl (fun t ht hW => ⟨⟨1, (I17, J14), rfl, Option.some.inj hm, ht ▸ hP, va_K.moved hW.alike hK, hD⟩, hS.F ht⟩) hS.2.2 dR_look_74 hlk
        · have hm := brn hm c16
          refine lv_iconst (v := 0) hx hb dR_look_32 (by decide) ?_
          refine lv_istore_n (lv' := [(2, .int 0), (0, .ref (ad 0)), (1, .int x1)]) hx hb dR_look_33 rfl hl (by decide) rfl (fun ls hl => ?_)
          exact hk34 0 I13 J14 hm _ _ _ hP hD hS (lv_sub hl [1, 0] rfl)
    · have hm := brp hm c10
      refine lv_iconst (v := 0) hx hb dR_look_16 (by decide) ?_
      exact W.zret hx hb hr rfl (fun t ht hW => ⟨⟨0, (I7, J8), rfl, Option.some.inj hm, ht ▸ hP, va_K.moved hW.alike hK, hD⟩, hS.F ht⟩) hS.2.2 dR_look_17 hlk
set_option maxHeartbeats 4000000 in
theorem gw_R_look {p : Program} {l : Launch} {e : Env} {s : State} {m : MethodId} {args : Array Value} {below : List Frame} {meth : Method} {c : Code} {D : va_G} {A : Nat → Prop} {ad : Nat → Nat} {cI cJ cG : ClassId} {res : Int32 × SI × SJ} (X : Cx p s m args meth c bR_look (some .boolean) 3 RR) (hK : va_K D vwCl (tysR cI cJ cG) s) (hN : NWs s) (hA : ∀ q, s.heap.size ≤ q → A q) : ∀ n : Nat, (∀ (x2 : Int32) (I : SI) (J : SJ), (g_R_look n) x2 I J = some res → WB p l e (headSpec (Cond.code yR_look bR_look 3 (some .boolean) :: gtb) rm_R_look).room s m args below meth c (MQ below (va_Qi (fun (r : Int32) (u : SI × SJ) => (r, u) = res) (atW D vwCl (tysR cI cJ cG) A (wsR ad cI cJ cG)) A) args s 0 0 A) D vwCl A 3 (wsR ad cI cJ cG I J) 34 [(0, .ref (ad 0)), (2, .int x2)] []) := by
  intro n
  induction n with
  | zero => exact fun _ _ _ h => (by cases h)
  | succ n ih =>
    have ih34 := ih
    exact fun x2 I J h => w_R_look_34 X hK hN hA ih34 x2 I J h
set_option maxHeartbeats 4000000 in
set_option maxRecDepth 100000 in
theorem c_R_look (l : Launch) (D : va_G) (ad : Nat → Nat) (cI cJ cG : ClassId) (sz : Nat) (x1 : Int32) (I : SI) (J : SJ) (res : Int32 × SI × SJ) (hm : m_R_look x1 I J = some res) : Met l yR_look (Cond.code yR_look bR_look 3 (some .boolean) :: gtb) rm_R_look (va_Pc [.ref (ad 0), .int x1] (preW D vwCl (tysR cI cJ cG) (wsR ad cI cJ cG I J) sz)) (va_Qi (fun (r : Int32) (u : SI × SJ) => (r, u) = res) (atW D vwCl (tysR cI cJ cG) (va_A (wsR ad cI cJ cG I J) sz) (wsR ad cI cJ cG)) (va_A (wsR ad cI cJ cG I J) sz)) 0 0 (va_A (wsR ad cI cJ cG I J) sz) := by
  refine Met.ofW (cc := bR_look) (maxL := 3) (ret := (some .boolean)) (by decide) rfl ?_
  intro p e s m args below meth c s₁ B hml hv
  obtain ⟨rfl, hsz, hP, hK, hD0, hN⟩ := hv
  subst hsz
  have X : Cx p s m [.ref (ad 0), .int x1].toArray meth c bR_look (some .boolean) 3 RR := ⟨B.exec, B.bytes, B.returns, hml, findClass_of_methodNamed B.named, fun w h => atoms_spec (ws := (Cond.code yR_look bR_look 3 (some .boolean) :: gtb)) B.pre w (List.mem_cons_of_mem _ h), B.notSynchronized⟩
  have hl := lv_entry ([.ref (ad 0), .int x1]) (n := 3) (Nat.le_of_ble_eq_true rfl)
  rw [lg_entry_eq]
  generalize (lg_sl ([.ref (ad 0), .int x1]) ++ List.replicate (3 - (lg_sl ([.ref (ad 0), .int x1])).length) Slot.unset).toArray = ls at hl ⊢
  have hl : lv_has ls 3 [(0, .ref (ad 0)), (1, .int x1)] := hl
  have hA : ∀ q, s.heap.size ≤ q → va_A (wsR ad cI cJ cG I J) s.heap.size q := fun q h => Or.inr h
  exact w_R_look_0 X hK hN hA (gw_R_look X hK hN hA fuel) x1 I J hm _ _ _ hP hD0.self va_S.rf hl
def b_R_corners_7 (k7 : Int32 → Int32 → Int32 → SI → SJ → Option (SI × SJ)) (k72 : Int32 → Int32 → Int32 → Int32 → Int32 → SI → SJ → Option (SI × SJ)) (x1 : Int32) (x2 : Int32) (x3 : Int32) (I : SI) (J : SJ) : Option (SI × SJ) :=
  if (I 0 0) ≤ x3 then
    nm ((I 0 23) - 1) fun v2 =>
    if v2 ≤ 0 then
      k72 x1 x2 v2 1 21 I J
    else
      k72 x1 x2 v2 1 0 I J
  else
    gd (vin x3 4) <|
    nm (I 12 x3.toNatClampNeg) fun v5 =>
    if 0 ≤ v5 then
      nm (x3 + 1) fun v7 =>
      k7 x1 x2 v7 I J
    else
      gd (vin (I 0 23) 4) <|
      nm (va_up I 13 (upd (I 13) (I 0 23).toNatClampNeg x3)) fun I9 =>
      nm ((I9 0 23) + 1) fun v10 =>
      nm (va_up I9 0 (upd (I9 0) 23 v10)) fun I11 =>
      nm (x3 + 1) fun v12 =>
      k7 x1 x2 v12 I11 J
def b_R_corners_72 (k72 : Int32 → Int32 → Int32 → Int32 → Int32 → SI → SJ → Option (SI × SJ)) (k117 : Int32 → Int32 → Int32 → Int32 → Int32 → Int32 → SI → SJ → Option (SI × SJ)) (x1 : Int32) (x2 : Int32) (x3 : Int32) (x4 : Int32) (x5 : Int32) (I : SI) (J : SJ) : Option (SI × SJ) :=
  if 22 ≤ x5 then
    some (I, J)
  else
    if x4 = 0 then
      some (I, J)
    else
      if x3 ≤ 0 then
        if x3 ≤ 1 then
          k117 x1 x2 x3 x4 x5 21 I J
        else
          nm (x5 + 1) fun v5 =>
          k117 x1 x2 x3 x4 x5 v5 I J
      else
        gd (vin x5 22) <|
        nm (I 11 x5.toNatClampNeg) fun v7 =>
        if v7 = 0 then
          nm (x5 + 1) fun v11 =>
          k72 x1 x2 x3 x4 v11 I J
        else
          if x3 ≤ 1 then
            k117 x1 x2 x3 x4 x5 21 I J
          else
            nm (x5 + 1) fun v10 =>
            k117 x1 x2 x3 x4 x5 v10 I J
def b_R_corners_117 (k72 : Int32 → Int32 → Int32 → Int32 → Int32 → SI → SJ → Option (SI × SJ)) (k117 : Int32 → Int32 → Int32 → Int32 → Int32 → Int32 → SI → SJ → Option (SI × SJ)) (k163 : Int32 → Int32 → Int32 → Int32 → Int32 → Int32 → Int32 → SI → SJ → Option (SI × SJ)) (x1 : Int32) (x2 : Int32) (x3 : Int32) (x4 : Int32) (x5 : Int32) (x6 : Int32) (I : SI) (J : SJ) : Option (SI × SJ) :=
  if 22 ≤ x6 then
    nm (x5 + 1) fun v2 =>
    k72 x1 x2 x3 x4 v2 I J
  else
    if x4 = 0 then
      nm (x5 + 1) fun v4 =>
      k72 x1 x2 x3 x4 v4 I J
    else
      if x3 ≤ 1 then
        if x3 ≤ 2 then
          k163 x1 x2 x3 x4 x5 x6 21 I J
        else
          nm (x6 + 1) fun v7 =>
          k163 x1 x2 x3 x4 x5 x6 v7 I J
      else
        gd (vin x6 22) <|
        nm (I 11 x6.toNatClampNeg) fun v9 =>
        if v9 = 0 then
          nm (x6 + 1) fun v13 =>
          k117 x1 x2 x3 x4 x5 v13 I J
        else
          if x3 ≤ 2 then
            k163 x1 x2 x3 x4 x5 x6 21 I J
          else
            nm (x6 + 1) fun v12 =>
            k163 x1 x2 x3 x4 x5 x6 v12 I J
def b_R_corners_163 (k117 : Int32 → Int32 → Int32 → Int32 → Int32 → Int32 → SI → SJ → Option (SI × SJ)) (k163 : Int32 → Int32 → Int32 → Int32 → Int32 → Int32 → Int32 → SI → SJ → Option (SI × SJ)) (k190 : Int32 → Int32 → Int32 → Int32 → Int32 → Int32 → SI → SJ → Option (SI × SJ)) (x1 : Int32) (x2 : Int32) (x3 : Int32) (x4 : Int32) (x5 : Int32) (x6 : Int32) (x7 : Int32) (I : SI) (J : SJ) : Option (SI × SJ) :=
  if 22 ≤ x7 then
    nm (x6 + 1) fun v2 =>
    k117 x1 x2 x3 x4 x5 v2 I J
  else
    if x4 = 0 then
      nm (x6 + 1) fun v4 =>
      k117 x1 x2 x3 x4 x5 v4 I J
    else
      if x3 ≤ 2 then
        k190 x1 x2 x3 x5 x6 x7 I J
      else
        gd (vin x7 22) <|
        nm (I 11 x7.toNatClampNeg) fun v7 =>
        if v7 = 0 then
          nm (x7 + 1) fun v9 =>
          k163 x1 x2 x3 x4 x5 x6 v9 I J
        else
          k190 x1 x2 x3 x5 x6 x7 I J
def b_R_corners_190 (k163 : Int32 → Int32 → Int32 → Int32 → Int32 → Int32 → Int32 → SI → SJ → Option (SI × SJ)) (x1 : Int32) (x2 : Int32) (x3 : Int32) (x5 : Int32) (x6 : Int32) (x7 : Int32) (I : SI) (J : SJ) : Option (SI × SJ) :=
  gd (vin 0 3) <|
  nm (va_up I 16 (upd (I 16) (Int32.toNatClampNeg 0) x5)) fun I2 =>
  gd (vin 1 3) <|
  nm (va_up I2 16 (upd (I2 16) (Int32.toNatClampNeg 1) x6)) fun I4 =>
  gd (vin 2 3) <|
  nm (va_up I4 16 (upd (I4 16) (Int32.toNatClampNeg 2) x7)) fun I6 =>
  cl3 (m_R_look x1 I6 J) fun r7 I8 J9 =>
  if r7 = 0 then
    nm (x7 + 1) fun v12 =>
    k163 x1 x2 x3 1 x5 x6 v12 I8 J9
  else
    if x2 = 0 then
      nm (x7 + 1) fun v15 =>
      k163 x1 x2 x3 1 x5 x6 v15 I8 J9
    else
      nm (x7 + 1) fun v14 =>
      k163 x1 x2 x3 0 x5 x6 v14 I8 J9
def b_R_corners_0 (k7 : Int32 → Int32 → Int32 → SI → SJ → Option (SI × SJ)) (x1 : Int32) (x2 : Int32) (I : SI) (J : SJ) : Option (SI × SJ) :=
  nm (va_up I 0 (upd (I 0) 23 0)) fun I1 =>
  k7 x1 x2 0 I1 J
def g_R_corners : Nat → (Int32 → Int32 → Int32 → SI → SJ → Option (SI × SJ)) × (Int32 → Int32 → Int32 → Int32 → Int32 → SI → SJ → Option (SI × SJ)) × (Int32 → Int32 → Int32 → Int32 → Int32 → Int32 → SI → SJ → Option (SI × SJ)) × (Int32 → Int32 → Int32 → Int32 → Int32 → Int32 → Int32 → SI → SJ → Option (SI × SJ)) × (Int32 → Int32 → Int32 → Int32 → Int32 → Int32 → SI → SJ → Option (SI × SJ))
  | 0 => (fun _ _ _ _ _ => none, fun _ _ _ _ _ _ _ => none, fun _ _ _ _ _ _ _ _ => none, fun _ _ _ _ _ _ _ _ _ => none, fun _ _ _ _ _ _ _ _ => none)
  | n + 1 => (fun x1 x2 x3 I J => b_R_corners_7 (g_R_corners n).1 (g_R_corners n).2.1 x1 x2 x3 I J, fun x1 x2 x3 x4 x5 I J => b_R_corners_72 (g_R_corners n).2.1 (g_R_corners n).2.2.1 x1 x2 x3 x4 x5 I J, fun x1 x2 x3 x4 x5 x6 I J => b_R_corners_117 (g_R_corners n).2.1 (g_R_corners n).2.2.1 (g_R_corners n).2.2.2.1 x1 x2 x3 x4 x5 x6 I J, fun x1 x2 x3 x4 x5 x6 x7 I J => b_R_corners_163 (g_R_corners n).2.2.1 (g_R_corners n).2.2.2.1 (g_R_corners n).2.2.2.2 x1 x2 x3 x4 x5 x6 x7 I J, fun x1 x2 x3 x5 x6 x7 I J => b_R_corners_190 (g_R_corners n).2.2.2.1 x1 x2 x3 x5 x6 x7 I J)
def m_R_corners (x1 : Int32) (x2 : Int32) (I : SI) (J : SJ) : Option (SI × SJ) := b_R_corners_0 (g_R_corners fuel).1 x1 x2 I J
def rm_R_corners : Room := { frames := 4, cells := 0, slots := 0, locals := 97 }
set_option maxHeartbeats 4000000 in
set_option maxRecDepth 100000 in
theorem w_R_corners_7 {p : Program} {l : Launch} {e : Env} {s : State} {m : MethodId} {args : Array Value} {below : List Frame} {meth : Method} {c : Code} {D : va_G} {A : Nat → Prop} {ad : Nat → Nat} {cI cJ cG : ClassId} {res : SI × SJ} (X : Cx p s m args meth c bR_corners none 9 RR) (hK : va_K D vwCl (tysR cI cJ cG) s) (hN : NWs s) (hA : ∀ q, s.heap.size ≤ q → A q)
    {k7 : Int32 → Int32 → Int32 → SI → SJ → Option (SI × SJ)} (hk7 : ∀ (x1 : Int32) (x2 : Int32) (x3 : Int32) (I : SI) (J : SJ), k7 x1 x2 x3 I J = some res → WB p l e (headSpec (Cond.code yR_corners bR_corners 9 none :: gtb) rm_R_corners).room s m args below meth c (MQ below (va_Qv (fun (u : SI × SJ) => u = res) (atW D vwCl (tysR cI cJ cG) A (wsR ad cI cJ cG)) A) args s 0 0 A) D vwCl A 9 (wsR ad cI cJ cG I J) 7 [(0, .ref (ad 0)), (1, .int x1), (2, .int x2), (3, .int x3)] [])
    {k72 : Int32 → Int32 → Int32 → Int32 → Int32 → SI → SJ → Option (SI × SJ)} (hk72 : ∀ (x1 : Int32) (x2 : Int32) (x3 : Int32) (x4 : Int32) (x5 : Int32) (I : SI) (J : SJ), k72 x1 x2 x3 x4 x5 I J = some res → WB p l e (headSpec (Cond.code yR_corners bR_corners 9 none :: gtb) rm_R_corners).room s m args below meth c (MQ below (va_Qv (fun (u : SI × SJ) => u = res) (atW D vwCl (tysR cI cJ cG) A (wsR ad cI cJ cG)) A) args s 0 0 A) D vwCl A 9 (wsR ad cI cJ cG I J) 72 [(0, .ref (ad 0)), (1, .int x1), (2, .int x2), (3, .int x3), (4, .int x4), (5, .int x5)] [])
     (x1 : Int32) (x2 : Int32) (x3 : Int32) (I : SI) (J : SJ) (hm : b_R_corners_7 k7 k72 x1 x2 x3 I J = some res) : WB p l e (headSpec (Cond.code yR_corners bR_corners 9 none :: gtb) rm_R_corners).room s m args below meth c (MQ below (va_Qv (fun (u : SI × SJ) => u = res) (atW D vwCl (tysR cI cJ cG) A (wsR ad cI cJ cG)) A) args s 0 0 A) D vwCl A 9 (wsR ad cI cJ cG I J) 7 [(0, .ref (ad 0)), (1, .int x1), (2, .int x2), (3, .int x3)] [] := by
  obtain ⟨hx, hb, hr, hml, hown, hT, hlk⟩ := X
  intro H locs ls hP hD hS hl
  unfold b_R_corners_7 at hm
  refine lv_iload_n hx hb dR_corners_7 rfl (lv_at hl 3 rfl) ?_
  refine lv_aload_n hx hb dR_corners_8 rfl (lv_at hl 0 rfl) ?_
  refine va_get (D := D) (ci := 6) (v := .int (I 0 0)) (C := RR) (T := TR) (N := 31) hx hb hT inR hown hK hP 0 rfl rfl 0 (by decide) (hT _ wd_535) (fun _ h9 => h9) rfl dR_corners_9 ?_
  refine lv_icmp_ge (tgt := 50) hx hb dR_corners_12 (by decide) (fun c1 => ?_) (fun c1 => ?_)
  · have hm := brp hm c1
    refine lv_aload_n hx hb dR_corners_50 rfl (lv_at hl 0 rfl) ?_
    refine va_get (D := D) (ci := 6) (v := .int (I 0 23)) (C := RR) (T := TR) (N := 31) hx hb hT inR hown hK hP 0 rfl rfl 23 (by decide) (hT _ wd_558) (fun _ h9 => h9) rfl dR_corners_51 ?_
    refine lv_iconst (v := 1) hx hb dR_corners_54 (by decide) ?_
    refine lv_isub hx hb dR_corners_55 ?_
    refine lv_topi (fun v2 ev2 => ?_)
    have hm := nm_to ev2 hm
    refine lv_istore_n (lv' := [(3, .int v2), (0, .ref (ad 0)), (1, .int x1), (2, .int x2)]) hx hb dR_corners_56 rfl hl (by decide) rfl (fun ls hl => ?_)
    refine lv_iconst (v := 1) hx hb dR_corners_57 (by decide) ?_
    refine lv_istore (lv' := [(4, .int 1), (3, .int v2), (0, .ref (ad 0)), (1, .int x1), (2, .int x2)]) hx hb dR_corners_58 hl (by decide) rfl (fun ls hl => ?_)
    refine lv_iload_n hx hb dR_corners_60 rfl (lv_at hl 1 rfl) ?_
    refine lv_if_le (tgt := 68) hx hb dR_corners_61 (by decide) (fun c3 => ?_) (fun c3 => ?_)
    · have hm := brp hm c3
      refine lv_bipush (v := 21) hx hb dR_corners_68 (by decide) ?_
      refine lv_istore (lv' := [(5, .int 21), (4, .int 1), (3, .int v2), (0, .ref (ad 0)), (1, .int x1), (2, .int x2)]) hx hb dR_corners_70 hl (by decide) rfl (fun ls hl => ?_)
      exact hk72 x1 x2 v2 1 21 I J hm _ _ _ hP hD hS (lv_sub hl [3, 4, 5, 2, 1, 0] rfl)
    · have hm := brn hm c3
      refine lv_iconst (v := 0) hx hb dR_corners_64 (by decide) ?_
      refine lv_goto (tgt := 70) hx hb dR_corners_65 (by decide) ?_
      refine lv_istore (lv' := [(5, .int 0), (4, .int 1), (3, .int v2), (0, .ref (ad 0)), (1, .int x1), (2, .int x2)]) hx hb dR_corners_70 hl (by decide) rfl (fun ls hl => ?_)
      exact hk72 x1 x2 v2 1 0 I J hm _ _ _ hP hD hS (lv_sub hl [3, 4, 5, 2, 1, 0] rfl)
  · have hm := brn hm c1
    refine lv_aload_n hx hb dR_corners_15 rfl (lv_at hl 0 rfl) ?_
    refine va_get (D := D) (ci := 6) (v := .ref (ad 12)) (C := RR) (T := TR) (N := 31) hx hb hT inR hown hK hP 0 rfl rfl 21 (by decide) (hT _ wd_556) (fun _ h9 => h9) rfl dR_corners_16 ?_
    refine lv_iload_n hx hb dR_corners_19 rfl (lv_at hl 3 rfl) ?_
    obtain ⟨g4, hm⟩ := gd_to hm
    refine va_iald hx hb hK hP 12 0 rfl rfl g4 dR_corners_20 ?_
    refine lv_topi (fun v5 ev5 => ?_)
    have hm := nm_to ev5 hm
    refine lv_if_ge (tgt := 44) hx hb dR_corners_21 (by decide) (fun c6 => ?_) (fun c6 => ?_)
    · have hm := brp hm c6
      obtain ⟨v7, ev7⟩ : ∃ z : Int32, z = x3 + 1 := ⟨_, rfl⟩
      have hm := nm_to ev7 hm
      refine lv_iinc (v := v7) (lv' := [(3, .int v7), (0, .ref (ad 0)), (1, .int x1), (2, .int x2)]) hx hb dR_corners_44 hl (k := 3) rfl (by rw [ev7]; rfl) (by decide) rfl (fun ls hl => ?_)
      refine lv_goto (tgt := 7) hx hb dR_corners_47 (by decide) ?_
      exact hk7 x1 x2 v7 I J hm _ _ _ hP hD hS (lv_sub hl [1, 2, 3, 0] rfl)
    · have hm := brn hm c6
      refine lv_aload_n hx hb dR_corners_24 rfl (lv_at hl 0 rfl) ?_
      refine va_get (D := D) (ci := 6) (v := .ref (ad 13)) (C := RR) (T := TR) (N := 31) hx hb hT inR hown hK hP 0 rfl rfl 22 (by decide) (hT _ wd_557) (fun _ h9 => h9) rfl dR_corners_25 ?_
      refine lv_aload_n hx hb dR_corners_28 rfl (lv_at hl 0 rfl) ?_
      refine va_get (D := D) (ci := 6) (v := .int (I 0 23)) (C := RR) (T := TR) (N := 31) hx hb hT inR hown hK hP 0 rfl rfl 23 (by decide) (hT _ wd_558) (fun _ h9 => h9) rfl dR_corners_29 ?_
      refine lv_iload_n hx hb dR_corners_32 rfl (lv_at hl 3 rfl) ?_
      obtain ⟨g8, hm⟩ := gd_to hm
      refine va_iast hx hb hK hP hD hS 13 0 rfl rfl g8 dR_corners_33 (fun H locs hP hD hS => ?_)
      obtain ⟨I9, eI9⟩ : ∃ z : SI, z = va_up I 13 (upd (I 13) (I 0 23).toNatClampNeg x3) := ⟨_, rfl⟩
      have hm := nm_to eI9 hm
      have hP := P_eq (ws2 := wsR ad cI cJ cG I9 J) hP (by rw [eI9]; rfl)
      have hD := D_eq (ws2 := wsR ad cI cJ cG I9 J) hD (by rw [eI9]; rfl)
      refine lv_aload_n hx hb dR_corners_34 rfl (lv_at hl 0 rfl) ?_
      refine lv_dup hx hb dR_corners_35 rfl ?_
      refine va_get (D := D) (ci := 6) (v := .int (I9 0 23)) (C := RR) (T := TR) (N := 31) hx hb hT inR hown hK hP 0 rfl rfl 23 (by decide) (hT _ wd_558) (fun _ h9 => h9) rfl dR_corners_36 ?_
      refine lv_iconst (v := 1) hx hb dR_corners_39 (by decide) ?_
      refine lv_iadd hx hb dR_corners_40 ?_
      refine lv_topi (fun v10 ev10 => ?_)
      have hm := nm_to ev10 hm
      refine va_put (D := D) (ci := 6) (v := .int v10) (ty := .int) (C := RR) (T := TR) (N := 31) hx hb hT inR tyR okR nmR hown hK hP hD hS 0 rfl rfl 23 (by decide) (hT _ wd_558) (fun _ h9 => h9) rfl pf_I rfl rfl (Nat.le_of_ble_eq_true rfl) dR_corners_41 (fun H locs hP hD hS => ?_)
      obtain ⟨I11, eI11⟩ : ∃ z : SI, z = va_up I9 0 (upd (I9 0) 23 v10) := ⟨_, rfl⟩
      have hm := nm_to eI11 hm
      have hP := P_eq (ws2 := wsR ad cI cJ cG I11 J) hP (by rw [eI11]; rfl)
      have hD := D_eq (ws2 := wsR ad cI cJ cG I11 J) hD (by rw [eI11]; rfl)
      obtain ⟨v12, ev12⟩ : ∃ z : Int32, z = x3 + 1 := ⟨_, rfl⟩
      have hm := nm_to ev12 hm
      refine lv_iinc (v := v12) (lv' := [(3, .int v12), (0, .ref (ad 0)), (1, .int x1), (2, .int x2)]) hx hb dR_corners_44 hl (k := 3) rfl (by rw [ev12]; rfl) (by decide) rfl (fun ls hl => ?_)
      refine lv_goto (tgt := 7) hx hb dR_corners_47 (by decide) ?_
      exact hk7 x1 x2 v12 I11 J hm _ _ _ hP hD hS (lv_sub hl [1, 2, 3, 0] rfl)
set_option maxHeartbeats 4000000 in
set_option maxRecDepth 100000 in
theorem w_R_corners_72 {p : Program} {l : Launch} {e : Env} {s : State} {m : MethodId} {args : Array Value} {below : List Frame} {meth : Method} {c : Code} {D : va_G} {A : Nat → Prop} {ad : Nat → Nat} {cI cJ cG : ClassId} {res : SI × SJ} (X : Cx p s m args meth c bR_corners none 9 RR) (hK : va_K D vwCl (tysR cI cJ cG) s) (hN : NWs s) (hA : ∀ q, s.heap.size ≤ q → A q)
    {k72 : Int32 → Int32 → Int32 → Int32 → Int32 → SI → SJ → Option (SI × SJ)} (hk72 : ∀ (x1 : Int32) (x2 : Int32) (x3 : Int32) (x4 : Int32) (x5 : Int32) (I : SI) (J : SJ), k72 x1 x2 x3 x4 x5 I J = some res → WB p l e (headSpec (Cond.code yR_corners bR_corners 9 none :: gtb) rm_R_corners).room s m args below meth c (MQ below (va_Qv (fun (u : SI × SJ) => u = res) (atW D vwCl (tysR cI cJ cG) A (wsR ad cI cJ cG)) A) args s 0 0 A) D vwCl A 9 (wsR ad cI cJ cG I J) 72 [(0, .ref (ad 0)), (1, .int x1), (2, .int x2), (3, .int x3), (4, .int x4), (5, .int x5)] [])
    {k117 : Int32 → Int32 → Int32 → Int32 → Int32 → Int32 → SI → SJ → Option (SI × SJ)} (hk117 : ∀ (x1 : Int32) (x2 : Int32) (x3 : Int32) (x4 : Int32) (x5 : Int32) (x6 : Int32) (I : SI) (J : SJ), k117 x1 x2 x3 x4 x5 x6 I J = some res → WB p l e (headSpec (Cond.code yR_corners bR_corners 9 none :: gtb) rm_R_corners).room s m args below meth c (MQ below (va_Qv (fun (u : SI × SJ) => u = res) (atW D vwCl (tysR cI cJ cG) A (wsR ad cI cJ cG)) A) args s 0 0 A) D vwCl A 9 (wsR ad cI cJ cG I J) 117 [(0, .ref (ad 0)), (1, .int x1), (2, .int x2), (3, .int x3), (4, .int x4), (5, .int x5), (6, .int x6)] [])
     (x1 : Int32) (x2 : Int32) (x3 : Int32) (x4 : Int32) (x5 : Int32) (I : SI) (J : SJ) (hm : b_R_corners_72 k72 k117 x1 x2 x3 x4 x5 I J = some res) : WB p l e (headSpec (Cond.code yR_corners bR_corners 9 none :: gtb) rm_R_corners).room s m args below meth c (MQ below (va_Qv (fun (u : SI × SJ) => u = res) (atW D vwCl (tysR cI cJ cG) A (wsR ad cI cJ cG)) A) args s 0 0 A) D vwCl A 9 (wsR ad cI cJ cG I J) 72 [(0, .ref (ad 0)), (1, .int x1), (2, .int x2), (3, .int x3), (4, .int x4), (5, .int x5)] [] := by
  obtain ⟨hx, hb, hr, hml, hown, hT, hlk⟩ := X
  intro H locs ls hP hD hS hl
  unfold b_R_corners_72 at hm
  refine lv_iload hx hb dR_corners_72 (lv_at hl 5 rfl) ?_
  refine lv_bipush (v := 22) hx hb dR_corners_74 (by decide) ?_
  refine lv_icmp_ge (tgt := 255) hx hb dR_corners_76 (by decide) (fun c1 => ?_) (fun c1 => ?_)
  · have hm := brp hm c1
    exact W.vret hx hb hr (fun t ht hW => ⟨⟨(I, J), rfl, Option.some.inj hm, ht ▸ hP, va_K.moved hW.alike hK, hD⟩, hS.F ht⟩) hS.2.2 dR_corners_255 hlk
  · have hm := brn hm c1
    refine lv_iload hx hb dR_corners_79 (lv_at hl 4 rfl) ?_
    refine lv_if_eq (tgt := 255) hx hb dR_corners_81 (by decide) (fun c2 => ?_) (fun c2 => ?_)
    · have hm := brp hm c2
      exact W.vret hx hb hr (fun t ht hW => ⟨⟨(I, J), rfl, Option.some.inj hm, ht ▸ hP, va_K.moved hW.alike hK, hD⟩, hS.F ht⟩) hS.2.2 dR_corners_255 hlk
    · have hm := brn hm c2
      refine lv_iload_n hx hb dR_corners_84 rfl (lv_at hl 3 rfl) ?_
      refine lv_if_le (tgt := 101) hx hb dR_corners_85 (by decide) (fun c3 => ?_) (fun c3 => ?_)
      · have hm := brp hm c3
        refine lv_iload_n hx hb dR_corners_101 rfl (lv_at hl 3 rfl) ?_
        refine lv_iconst (v := 1) hx hb dR_corners_102 (by decide) ?_
        refine lv_icmp_le (tgt := 113) hx hb dR_corners_103 (by decide) (fun c4 => ?_) (fun c4 => ?_)
        · have hm := brp hm c4
          refine lv_bipush (v := 21) hx hb dR_corners_113 (by decide) ?_
          refine lv_istore (lv' := [(6, .int 21), (0, .ref (ad 0)), (1, .int x1), (2, .int x2), (3, .int x3), (4, .int x4), (5, .int x5)]) hx hb dR_corners_115 hl (by decide) rfl (fun ls hl => ?_)
          exact hk117 x1 x2 x3 x4 x5 21 I J hm _ _ _ hP hD hS (lv_sub hl [1, 2, 3, 4, 5, 6, 0] rfl)
        · have hm := brn hm c4
          refine lv_iload hx hb dR_corners_106 (lv_at hl 5 rfl) ?_
          refine lv_iconst (v := 1) hx hb dR_corners_108 (by decide) ?_
          refine lv_iadd hx hb dR_corners_109 ?_
          refine lv_topi (fun v5 ev5 => ?_)
          have hm := nm_to ev5 hm
          refine lv_goto (tgt := 115) hx hb dR_corners_110 (by decide) ?_
          refine lv_istore (lv' := [(6, .int v5), (0, .ref (ad 0)), (1, .int x1), (2, .int x2), (3, .int x3), (4, .int x4), (5, .int x5)]) hx hb dR_corners_115 hl (by decide) rfl (fun ls hl => ?_)
          exact hk117 x1 x2 x3 x4 x5 v5 I J hm _ _ _ hP hD hS (lv_sub hl [1, 2, 3, 4, 5, 6, 0] rfl)
      · have hm := brn hm c3
        refine lv_aload_n hx hb dR_corners_88 rfl (lv_at hl 0 rfl) ?_
        refine va_get (D := D) (ci := 6) (v := .ref (ad 11)) (C := RR) (T := TR) (N := 31) hx hb hT inR hown hK hP 0 rfl rfl 20 (by decide) (hT _ wd_555) (fun _ h9 => h9) rfl dR_corners_89 ?_
        refine lv_iload hx hb dR_corners_92 (lv_at hl 5 rfl) ?_
        obtain ⟨g6, hm⟩ := gd_to hm
        refine va_zald hx hb hK hP 11 2 rfl rfl g6 dR_corners_94 ?_
        refine lv_topi (fun v7 ev7 => ?_)
        have hm := nm_to ev7 hm
        refine lv_if_ne (tgt := 101) hx hb dR_corners_95 (by decide) (fun c8 => ?_) (fun c8 => ?_)
        · have hm := brn hm c8
          refine lv_iload_n hx hb dR_corners_101 rfl (lv_at hl 3 rfl) ?_
          refine lv_iconst (v := 1) hx hb dR_corners_102 (by decide) ?_
          refine lv_icmp_le (tgt := 113) hx hb dR_corners_103 (by decide) (fun c9 => ?_) (fun c9 => ?_)
          · have hm := brp hm c9
            refine lv_bipush (v := 21) hx hb dR_corners_113 (by decide) ?_
            refine lv_istore (lv' := [(6, .int 21), (0, .ref (ad 0)), (1, .int x1), (2, .int x2), (3, .int x3), (4, .int x4), (5, .int x5)]) hx hb dR_corners_115 hl (by decide) rfl (fun ls hl => ?_)
            exact hk117 x1 x2 x3 x4 x5 21 I J hm _ _ _ hP hD hS (lv_sub hl [1, 2, 3, 4, 5, 6, 0] rfl)
          · have hm := brn hm c9
            refine lv_iload hx hb dR_corners_106 (lv_at hl 5 rfl) ?_
            refine lv_iconst (v := 1) hx hb dR_corners_108 (by decide) ?_
            refine lv_iadd hx hb dR_corners_109 ?_
            refine lv_topi (fun v10 ev10 => ?_)
            have hm := nm_to ev10 hm
            refine lv_goto (tgt := 115) hx hb dR_corners_110 (by decide) ?_
            refine lv_istore (lv' := [(6, .int v10), (0, .ref (ad 0)), (1, .int x1), (2, .int x2), (3, .int x3), (4, .int x4), (5, .int x5)]) hx hb dR_corners_115 hl (by decide) rfl (fun ls hl => ?_)
            exact hk117 x1 x2 x3 x4 x5 v10 I J hm _ _ _ hP hD hS (lv_sub hl [1, 2, 3, 4, 5, 6, 0] rfl)
        · have hm := brp hm c8
          refine lv_goto (tgt := 249) hx hb dR_corners_98 (by decide) ?_
          obtain ⟨v11, ev11⟩ : ∃ z : Int32, z = x5 + 1 := ⟨_, rfl⟩
          have hm := nm_to ev11 hm
          refine lv_iinc (v := v11) (lv' := [(5, .int v11), (0, .ref (ad 0)), (1, .int x1), (2, .int x2), (3, .int x3), (4, .int x4)]) hx hb dR_corners_249 hl (k := 5) rfl (by rw [ev11]; rfl) (by decide) rfl (fun ls hl => ?_)
          refine lv_goto (tgt := 72) hx hb dR_corners_252 (by decide) ?_
          exact hk72 x1 x2 x3 x4 v11 I J hm _ _ _ hP hD hS (lv_sub hl [1, 2, 3, 4, 5, 0] rfl)
set_option maxHeartbeats 4000000 in
set_option maxRecDepth 100000 in
theorem w_R_corners_117 {p : Program} {l : Launch} {e : Env} {s : State} {m : MethodId} {args : Array Value} {below : List Frame} {meth : Method} {c : Code} {D : va_G} {A : Nat → Prop} {ad : Nat → Nat} {cI cJ cG : ClassId} {res : SI × SJ} (X : Cx p s m args meth c bR_corners none 9 RR) (hK : va_K D vwCl (tysR cI cJ cG) s) (hN : NWs s) (hA : ∀ q, s.heap.size ≤ q → A q)
    {k72 : Int32 → Int32 → Int32 → Int32 → Int32 → SI → SJ → Option (SI × SJ)} (hk72 : ∀ (x1 : Int32) (x2 : Int32) (x3 : Int32) (x4 : Int32) (x5 : Int32) (I : SI) (J : SJ), k72 x1 x2 x3 x4 x5 I J = some res → WB p l e (headSpec (Cond.code yR_corners bR_corners 9 none :: gtb) rm_R_corners).room s m args below meth c (MQ below (va_Qv (fun (u : SI × SJ) => u = res) (atW D vwCl (tysR cI cJ cG) A (wsR ad cI cJ cG)) A) args s 0 0 A) D vwCl A 9 (wsR ad cI cJ cG I J) 72 [(0, .ref (ad 0)), (1, .int x1), (2, .int x2), (3, .int x3), (4, .int x4), (5, .int x5)] [])
    {k117 : Int32 → Int32 → Int32 → Int32 → Int32 → Int32 → SI → SJ → Option (SI × SJ)} (hk117 : ∀ (x1 : Int32) (x2 : Int32) (x3 : Int32) (x4 : Int32) (x5 : Int32) (x6 : Int32) (I : SI) (J : SJ), k117 x1 x2 x3 x4 x5 x6 I J = some res → WB p l e (headSpec (Cond.code yR_corners bR_corners 9 none :: gtb) rm_R_corners).room s m args below meth c (MQ below (va_Qv (fun (u : SI × SJ) => u = res) (atW D vwCl (tysR cI cJ cG) A (wsR ad cI cJ cG)) A) args s 0 0 A) D vwCl A 9 (wsR ad cI cJ cG I J) 117 [(0, .ref (ad 0)), (1, .int x1), (2, .int x2), (3, .int x3), (4, .int x4), (5, .int x5), (6, .int x6)] [])
    {k163 : Int32 → Int32 → Int32 → Int32 → Int32 → Int32 → Int32 → SI → SJ → Option (SI × SJ)} (hk163 : ∀ (x1 : Int32) (x2 : Int32) (x3 : Int32) (x4 : Int32) (x5 : Int32) (x6 : Int32) (x7 : Int32) (I : SI) (J : SJ), k163 x1 x2 x3 x4 x5 x6 x7 I J = some res → WB p l e (headSpec (Cond.code yR_corners bR_corners 9 none :: gtb) rm_R_corners).room s m args below meth c (MQ below (va_Qv (fun (u : SI × SJ) => u = res) (atW D vwCl (tysR cI cJ cG) A (wsR ad cI cJ cG)) A) args s 0 0 A) D vwCl A 9 (wsR ad cI cJ cG I J) 163 [(0, .ref (ad 0)), (1, .int x1), (2, .int x2), (3, .int x3), (4, .int x4), (5, .int x5), (6, .int x6), (7, .int x7)] [])
     (x1 : Int32) (x2 : Int32) (x3 : Int32) (x4 : Int32) (x5 : Int32) (x6 : Int32) (I : SI) (J : SJ) (hm : b_R_corners_117 k72 k117 k163 x1 x2 x3 x4 x5 x6 I J = some res) : WB p l e (headSpec (Cond.code yR_corners bR_corners 9 none :: gtb) rm_R_corners).room s m args below meth c (MQ below (va_Qv (fun (u : SI × SJ) => u = res) (atW D vwCl (tysR cI cJ cG) A (wsR ad cI cJ cG)) A) args s 0 0 A) D vwCl A 9 (wsR ad cI cJ cG I J) 117 [(0, .ref (ad 0)), (1, .int x1), (2, .int x2), (3, .int x3), (4, .int x4), (5, .int x5), (6, .int x6)] [] := by
  obtain ⟨hx, hb, hr, hml, hown, hT, hlk⟩ := X
  intro H locs ls hP hD hS hl
  unfold b_R_corners_117 at hm
  refine lv_iload hx hb dR_corners_117 (lv_at hl 6 rfl) ?_
  refine lv_bipush (v := 22) hx hb dR_corners_119 (by decide) ?_
  refine lv_icmp_ge (tgt := 249) hx hb dR_corners_121 (by decide) (fun c1 => ?_) (fun c1 => ?_)
  · have hm := brp hm c1
    obtain ⟨v2, ev2⟩ : ∃ z : Int32, z = x5 + 1 := ⟨_, rfl⟩
    have hm := nm_to ev2 hm
    refine lv_iinc (v := v2) (lv' := [(5, .int v2), (0, .ref (ad 0)), (1, .int x1), (2, .int x2), (3, .int x3), (4, .int x4), (6, .int x6)]) hx hb dR_corners_249 hl (k := 5) rfl (by rw [ev2]; rfl) (by decide) rfl (fun ls hl => ?_)
    refine lv_goto (tgt := 72) hx hb dR_corners_252 (by decide) ?_
    exact hk72 x1 x2 x3 x4 v2 I J hm _ _ _ hP hD hS (lv_sub hl [1, 2, 3, 4, 5, 0] rfl)
  · have hm := brn hm c1
    refine lv_iload hx hb dR_corners_124 (lv_at hl 4 rfl) ?_
    refine lv_if_eq (tgt := 249) hx hb dR_corners_126 (by decide) (fun c3 => ?_) (fun c3 => ?_)
    · have hm := brp hm c3
      obtain ⟨v4, ev4⟩ : ∃ z : Int32, z = x5 + 1 := ⟨_, rfl⟩
      have hm := nm_to ev4 hm
      refine lv_iinc (v := v4) (lv' := [(5, .int v4), (0, .ref (ad 0)), (1, .int x1), (2, .int x2), (3, .int x3), (4, .int x4), (6, .int x6)]) hx hb dR_corners_249 hl (k := 5) rfl (by rw [ev4]; rfl) (by decide) rfl (fun ls hl => ?_)
      refine lv_goto (tgt := 72) hx hb dR_corners_252 (by decide) ?_
      exact hk72 x1 x2 x3 x4 v4 I J hm _ _ _ hP hD hS (lv_sub hl [1, 2, 3, 4, 5, 0] rfl)
    · have hm := brn hm c3
      refine lv_iload_n hx hb dR_corners_129 rfl (lv_at hl 3 rfl) ?_
      refine lv_iconst (v := 1) hx hb dR_corners_130 (by decide) ?_
      refine lv_icmp_le (tgt := 147) hx hb dR_corners_131 (by decide) (fun c5 => ?_) (fun c5 => ?_)
      · have hm := brp hm c5
        refine lv_iload_n hx hb dR_corners_147 rfl (lv_at hl 3 rfl) ?_
        refine lv_iconst (v := 2) hx hb dR_corners_148 (by decide) ?_
        refine lv_icmp_le (tgt := 159) hx hb dR_corners_149 (by decide) (fun c6 => ?_) (fun c6 => ?_)
        · have hm := brp hm c6
          refine lv_bipush (v := 21) hx hb dR_corners_159 (by decide) ?_
          refine lv_istore (lv' := [(7, .int 21), (0, .ref (ad 0)), (1, .int x1), (2, .int x2), (3, .int x3), (4, .int x4), (5, .int x5), (6, .int x6)]) hx hb dR_corners_161 hl (by decide) rfl (fun ls hl => ?_)
          exact hk163 x1 x2 x3 x4 x5 x6 21 I J hm _ _ _ hP hD hS (lv_sub hl [1, 2, 3, 4, 5, 6, 7, 0] rfl)
        · have hm := brn hm c6
          refine lv_iload hx hb dR_corners_152 (lv_at hl 6 rfl) ?_
          refine lv_iconst (v := 1) hx hb dR_corners_154 (by decide) ?_
          refine lv_iadd hx hb dR_corners_155 ?_
          refine lv_topi (fun v7 ev7 => ?_)
          have hm := nm_to ev7 hm
          refine lv_goto (tgt := 161) hx hb dR_corners_156 (by decide) ?_
          refine lv_istore (lv' := [(7, .int v7), (0, .ref (ad 0)), (1, .int x1), (2, .int x2), (3, .int x3), (4, .int x4), (5, .int x5), (6, .int x6)]) hx hb dR_corners_161 hl (by decide) rfl (fun ls hl => ?_)
          exact hk163 x1 x2 x3 x4 x5 x6 v7 I J hm _ _ _ hP hD hS (lv_sub hl [1, 2, 3, 4, 5, 6, 7, 0] rfl)
      · have hm := brn hm c5
        refine lv_aload_n hx hb dR_corners_134 rfl (lv_at hl 0 rfl) ?_
        refine va_get (D := D) (ci := 6) (v := .ref (ad 11)) (C := RR) (T := TR) (N := 31) hx hb hT inR hown hK hP 0 rfl rfl 20 (by decide) (hT _ wd_555) (fun _ h9 => h9) rfl dR_corners_135 ?_
        refine lv_iload hx hb dR_corners_138 (lv_at hl 6 rfl) ?_
        obtain ⟨g8, hm⟩ := gd_to hm
        refine va_zald hx hb hK hP 11 2 rfl rfl g8 dR_corners_140 ?_
        refine lv_topi (fun v9 ev9 => ?_)
        have hm := nm_to ev9 hm
        refine lv_if_ne (tgt := 147) hx hb dR_corners_141 (by decide) (fun c10 => ?_) (fun c10 => ?_)
        · have hm := brn hm c10
          refine lv_iload_n hx hb dR_corners_147 rfl (lv_at hl 3 rfl) ?_
          refine lv_iconst (v := 2) hx hb dR_corners_148 (by decide) ?_
          refine lv_icmp_le (tgt := 159) hx hb dR_corners_149 (by decide) (fun c11 => ?_) (fun c11 => ?_)
          · have hm := brp hm c11
            refine lv_bipush (v := 21) hx hb dR_corners_159 (by decide) ?_
            refine lv_istore (lv' := [(7, .int 21), (0, .ref (ad 0)), (1, .int x1), (2, .int x2), (3, .int x3), (4, .int x4), (5, .int x5), (6, .int x6)]) hx hb dR_corners_161 hl (by decide) rfl (fun ls hl => ?_)
            exact hk163 x1 x2 x3 x4 x5 x6 21 I J hm _ _ _ hP hD hS (lv_sub hl [1, 2, 3, 4, 5, 6, 7, 0] rfl)
          · have hm := brn hm c11
            refine lv_iload hx hb dR_corners_152 (lv_at hl 6 rfl) ?_
            refine lv_iconst (v := 1) hx hb dR_corners_154 (by decide) ?_
            refine lv_iadd hx hb dR_corners_155 ?_
            refine lv_topi (fun v12 ev12 => ?_)
            have hm := nm_to ev12 hm
            refine lv_goto (tgt := 161) hx hb dR_corners_156 (by decide) ?_
            refine lv_istore (lv' := [(7, .int v12), (0, .ref (ad 0)), (1, .int x1), (2, .int x2), (3, .int x3), (4, .int x4), (5, .int x5), (6, .int x6)]) hx hb dR_corners_161 hl (by decide) rfl (fun ls hl => ?_)
            exact hk163 x1 x2 x3 x4 x5 x6 v12 I J hm _ _ _ hP hD hS (lv_sub hl [1, 2, 3, 4, 5, 6, 7, 0] rfl)
        · have hm := brp hm c10
          refine lv_goto (tgt := 243) hx hb dR_corners_144 (by decide) ?_
          obtain ⟨v13, ev13⟩ : ∃ z : Int32, z = x6 + 1 := ⟨_, rfl⟩
          have hm := nm_to ev13 hm
          refine lv_iinc (v := v13) (lv' := [(6, .int v13), (0, .ref (ad 0)), (1, .int x1), (2, .int x2), (3, .int x3), (4, .int x4), (5, .int x5)]) hx hb dR_corners_243 hl (k := 6) rfl (by rw [ev13]; rfl) (by decide) rfl (fun ls hl => ?_)
          refine lv_goto (tgt := 117) hx hb dR_corners_246 (by decide) ?_
          exact hk117 x1 x2 x3 x4 x5 v13 I J hm _ _ _ hP hD hS (lv_sub hl [1, 2, 3, 4, 5, 6, 0] rfl)
set_option maxHeartbeats 4000000 in
set_option maxRecDepth 100000 in
theorem w_R_corners_163 {p : Program} {l : Launch} {e : Env} {s : State} {m : MethodId} {args : Array Value} {below : List Frame} {meth : Method} {c : Code} {D : va_G} {A : Nat → Prop} {ad : Nat → Nat} {cI cJ cG : ClassId} {res : SI × SJ} (X : Cx p s m args meth c bR_corners none 9 RR) (hK : va_K D vwCl (tysR cI cJ cG) s) (hN : NWs s) (hA : ∀ q, s.heap.size ≤ q → A q)
    {k117 : Int32 → Int32 → Int32 → Int32 → Int32 → Int32 → SI → SJ → Option (SI × SJ)} (hk117 : ∀ (x1 : Int32) (x2 : Int32) (x3 : Int32) (x4 : Int32) (x5 : Int32) (x6 : Int32) (I : SI) (J : SJ), k117 x1 x2 x3 x4 x5 x6 I J = some res → WB p l e (headSpec (Cond.code yR_corners bR_corners 9 none :: gtb) rm_R_corners).room s m args below meth c (MQ below (va_Qv (fun (u : SI × SJ) => u = res) (atW D vwCl (tysR cI cJ cG) A (wsR ad cI cJ cG)) A) args s 0 0 A) D vwCl A 9 (wsR ad cI cJ cG I J) 117 [(0, .ref (ad 0)), (1, .int x1), (2, .int x2), (3, .int x3), (4, .int x4), (5, .int x5), (6, .int x6)] [])
    {k163 : Int32 → Int32 → Int32 → Int32 → Int32 → Int32 → Int32 → SI → SJ → Option (SI × SJ)} (hk163 : ∀ (x1 : Int32) (x2 : Int32) (x3 : Int32) (x4 : Int32) (x5 : Int32) (x6 : Int32) (x7 : Int32) (I : SI) (J : SJ), k163 x1 x2 x3 x4 x5 x6 x7 I J = some res → WB p l e (headSpec (Cond.code yR_corners bR_corners 9 none :: gtb) rm_R_corners).room s m args below meth c (MQ below (va_Qv (fun (u : SI × SJ) => u = res) (atW D vwCl (tysR cI cJ cG) A (wsR ad cI cJ cG)) A) args s 0 0 A) D vwCl A 9 (wsR ad cI cJ cG I J) 163 [(0, .ref (ad 0)), (1, .int x1), (2, .int x2), (3, .int x3), (4, .int x4), (5, .int x5), (6, .int x6), (7, .int x7)] [])
    {k190 : Int32 → Int32 → Int32 → Int32 → Int32 → Int32 → SI → SJ → Option (SI × SJ)} (hk190 : ∀ (x1 : Int32) (x2 : Int32) (x3 : Int32) (x5 : Int32) (x6 : Int32) (x7 : Int32) (I : SI) (J : SJ), k190 x1 x2 x3 x5 x6 x7 I J = some res → WB p l e (headSpec (Cond.code yR_corners bR_corners 9 none :: gtb) rm_R_corners).room s m args below meth c (MQ below (va_Qv (fun (u : SI × SJ) => u = res) (atW D vwCl (tysR cI cJ cG) A (wsR ad cI cJ cG)) A) args s 0 0 A) D vwCl A 9 (wsR ad cI cJ cG I J) 190 [(0, .ref (ad 0)), (1, .int x1), (2, .int x2), (3, .int x3), (5, .int x5), (6, .int x6), (7, .int x7)] [])
     (x1 : Int32) (x2 : Int32) (x3 : Int32) (x4 : Int32) (x5 : Int32) (x6 : Int32) (x7 : Int32) (I : SI) (J : SJ) (hm : b_R_corners_163 k117 k163 k190 x1 x2 x3 x4 x5 x6 x7 I J = some res) : WB p l e (headSpec (Cond.code yR_corners bR_corners 9 none :: gtb) rm_R_corners).room s m args below meth c (MQ below (va_Qv (fun (u : SI × SJ) => u = res) (atW D vwCl (tysR cI cJ cG) A (wsR ad cI cJ cG)) A) args s 0 0 A) D vwCl A 9 (wsR ad cI cJ cG I J) 163 [(0, .ref (ad 0)), (1, .int x1), (2, .int x2), (3, .int x3), (4, .int x4), (5, .int x5), (6, .int x6), (7, .int x7)] [] := by
  obtain ⟨hx, hb, hr, hml, hown, hT, hlk⟩ := X
  intro H locs ls hP hD hS hl
  unfold b_R_corners_163 at hm
  refine lv_iload hx hb dR_corners_163 (lv_at hl 7 rfl) ?_
  refine lv_bipush (v := 22) hx hb dR_corners_165 (by decide) ?_
  refine lv_icmp_ge (tgt := 243) hx hb dR_corners_167 (by decide) (fun c1 => ?_) (fun c1 => ?_)
  · have hm := brp hm c1
    obtain ⟨v2, ev2⟩ : ∃ z : Int32, z = x6 + 1 := ⟨_, rfl⟩
    have hm := nm_to ev2 hm
    refine lv_iinc (v := v2) (lv' := [(6, .int v2), (0, .ref (ad 0)), (1, .int x1), (2, .int x2), (3, .int x3), (4, .int x4), (5, .int x5), (7, .int x7)]) hx hb dR_corners_243 hl (k := 6) rfl (by rw [ev2]; rfl) (by decide) rfl (fun ls hl => ?_)
    refine lv_goto (tgt := 117) hx hb dR_corners_246 (by decide) ?_
    exact hk117 x1 x2 x3 x4 x5 v2 I J hm _ _ _ hP hD hS (lv_sub hl [1, 2, 3, 4, 5, 6, 0] rfl)
  · have hm := brn hm c1
    refine lv_iload hx hb dR_corners_170 (lv_at hl 4 rfl) ?_
    refine lv_if_eq (tgt := 243) hx hb dR_corners_172 (by decide) (fun c3 => ?_) (fun c3 => ?_)
    · have hm := brp hm c3
      obtain ⟨v4, ev4⟩ : ∃ z : Int32, z = x6 + 1 := ⟨_, rfl⟩
      have hm := nm_to ev4 hm
      refine lv_iinc (v := v4) (lv' := [(6, .int v4), (0, .ref (ad 0)), (1, .int x1), (2, .int x2), (3, .int x3), (4, .int x4), (5, .int x5), (7, .int x7)]) hx hb dR_corners_243 hl (k := 6) rfl (by rw [ev4]; rfl) (by decide) rfl (fun ls hl => ?_)
      refine lv_goto (tgt := 117) hx hb dR_corners_246 (by decide) ?_
      exact hk117 x1 x2 x3 x4 x5 v4 I J hm _ _ _ hP hD hS (lv_sub hl [1, 2, 3, 4, 5, 6, 0] rfl)
    · have hm := brn hm c3
      refine lv_iload_n hx hb dR_corners_175 rfl (lv_at hl 3 rfl) ?_
      refine lv_iconst (v := 2) hx hb dR_corners_176 (by decide) ?_
      refine lv_icmp_le (tgt := 190) hx hb dR_corners_177 (by decide) (fun c5 => ?_) (fun c5 => ?_)
      · have hm := brp hm c5
        exact hk190 x1 x2 x3 x5 x6 x7 I J hm _ _ _ hP hD hS (lv_sub hl [0, 1, 2, 3, 5, 6, 7] rfl)
      · have hm := brn hm c5
        refine lv_aload_n hx hb dR_corners_180 rfl (lv_at hl 0 rfl) ?_
        refine va_get (D := D) (ci := 6) (v := .ref (ad 11)) (C := RR) (T := TR) (N := 31) hx hb hT inR hown hK hP 0 rfl rfl 20 (by decide) (hT _ wd_555) (fun _ h9 => h9) rfl dR_corners_181 ?_
        refine lv_iload hx hb dR_corners_184 (lv_at hl 7 rfl) ?_
        obtain ⟨g6, hm⟩ := gd_to hm
        refine va_zald hx hb hK hP 11 2 rfl rfl g6 dR_corners_186 ?_
        refine lv_topi (fun v7 ev7 => ?_)
        have hm := nm_to ev7 hm
        refine lv_if_eq (tgt := 237) hx hb dR_corners_187 (by decide) (fun c8 => ?_) (fun c8 => ?_)
        · have hm := brp hm c8
          obtain ⟨v9, ev9⟩ : ∃ z : Int32, z = x7 + 1 := ⟨_, rfl⟩
          have hm := nm_to ev9 hm
          refine lv_iinc (v := v9) (lv' := [(7, .int v9), (0, .ref (ad 0)), (1, .int x1), (2, .int x2), (3, .int x3), (4, .int x4), (5, .int x5), (6, .int x6)]) hx hb dR_corners_237 hl (k := 7) rfl (by rw [ev9]; rfl) (by decide) rfl (fun ls hl => ?_)
          refine lv_goto (tgt := 163) hx hb dR_corners_240 (by decide) ?_
          exact hk163 x1 x2 x3 x4 x5 x6 v9 I J hm _ _ _ hP hD hS (lv_sub hl [1, 2, 3, 4, 5, 6, 7, 0] rfl)
        · have hm := brn hm c8
          exact hk190 x1 x2 x3 x5 x6 x7 I J hm _ _ _ hP hD hS (lv_sub hl [0, 1, 2, 3, 5, 6, 7] rfl)
set_option maxHeartbeats 4000000 in
set_option maxRecDepth 100000 in
theorem w_R_corners_190 {p : Program} {l : Launch} {e : Env} {s : State} {m : MethodId} {args : Array Value} {below : List Frame} {meth : Method} {c : Code} {D : va_G} {A : Nat → Prop} {ad : Nat → Nat} {cI cJ cG : ClassId} {res : SI × SJ} (X : Cx p s m args meth c bR_corners none 9 RR) (hK : va_K D vwCl (tysR cI cJ cG) s) (hN : NWs s) (hA : ∀ q, s.heap.size ≤ q → A q)
    {k163 : Int32 → Int32 → Int32 → Int32 → Int32 → Int32 → Int32 → SI → SJ → Option (SI × SJ)} (hk163 : ∀ (x1 : Int32) (x2 : Int32) (x3 : Int32) (x4 : Int32) (x5 : Int32) (x6 : Int32) (x7 : Int32) (I : SI) (J : SJ), k163 x1 x2 x3 x4 x5 x6 x7 I J = some res → WB p l e (headSpec (Cond.code yR_corners bR_corners 9 none :: gtb) rm_R_corners).room s m args below meth c (MQ below (va_Qv (fun (u : SI × SJ) => u = res) (atW D vwCl (tysR cI cJ cG) A (wsR ad cI cJ cG)) A) args s 0 0 A) D vwCl A 9 (wsR ad cI cJ cG I J) 163 [(0, .ref (ad 0)), (1, .int x1), (2, .int x2), (3, .int x3), (4, .int x4), (5, .int x5), (6, .int x6), (7, .int x7)] [])
     (x1 : Int32) (x2 : Int32) (x3 : Int32) (x5 : Int32) (x6 : Int32) (x7 : Int32) (I : SI) (J : SJ) (hm : b_R_corners_190 k163 x1 x2 x3 x5 x6 x7 I J = some res) : WB p l e (headSpec (Cond.code yR_corners bR_corners 9 none :: gtb) rm_R_corners).room s m args below meth c (MQ below (va_Qv (fun (u : SI × SJ) => u = res) (atW D vwCl (tysR cI cJ cG) A (wsR ad cI cJ cG)) A) args s 0 0 A) D vwCl A 9 (wsR ad cI cJ cG I J) 190 [(0, .ref (ad 0)), (1, .int x1), (2, .int x2), (3, .int x3), (5, .int x5), (6, .int x6), (7, .int x7)] [] := by
  obtain ⟨hx, hb, hr, hml, hown, hT, hlk⟩ := X
  intro H locs ls hP hD hS hl
  unfold b_R_corners_190 at hm
  refine lv_aload_n hx hb dR_corners_190 rfl (lv_at hl 0 rfl) ?_
  refine va_get (D := D) (ci := 6) (v := .ref (ad 16)) (C := RR) (T := TR) (N := 31) hx hb hT inR hown hK hP 0 rfl rfl 27 (by decide) (hT _ wd_562) (fun _ h9 => h9) rfl dR_corners_191 ?_
  refine lv_iconst (v := 0) hx hb dR_corners_194 (by decide) ?_
  refine lv_iload hx hb dR_corners_195 (lv_at hl 4 rfl) ?_
  obtain ⟨g1, hm⟩ := gd_to hm
  refine va_iast hx hb hK hP hD hS 16 0 rfl rfl g1 dR_corners_197 (fun H locs hP hD hS => ?_)
  obtain ⟨I2, eI2⟩ : ∃ z : SI, z = va_up I 16 (upd (I 16) (Int32.toNatClampNeg 0) x5) := ⟨_, rfl⟩
  have hm := nm_to eI2 hm
  have hP := P_eq (ws2 := wsR ad cI cJ cG I2 J) hP (by rw [eI2]; rfl)
  have hD := D_eq (ws2 := wsR ad cI cJ cG I2 J) hD (by rw [eI2]; rfl)
  refine lv_aload_n hx hb dR_corners_198 rfl (lv_at hl 0 rfl) ?_
  refine va_get (D := D) (ci := 6) (v := .ref (ad 16)) (C := RR) (T := TR) (N := 31) hx hb hT inR hown hK hP 0 rfl rfl 27 (by decide) (hT _ wd_562) (fun _ h9 => h9) rfl dR_corners_199 ?_
  refine lv_iconst (v := 1) hx hb dR_corners_202 (by decide) ?_
  refine lv_iload hx hb dR_corners_203 (lv_at hl 5 rfl) ?_
  obtain ⟨g3, hm⟩ := gd_to hm
  refine va_iast hx hb hK hP hD hS 16 0 rfl rfl g3 dR_corners_205 (fun H locs hP hD hS => ?_)
  obtain ⟨I4, eI4⟩ : ∃ z : SI, z = va_up I2 16 (upd (I2 16) (Int32.toNatClampNeg 1) x6) := ⟨_, rfl⟩
  have hm := nm_to eI4 hm
  have hP := P_eq (ws2 := wsR ad cI cJ cG I4 J) hP (by rw [eI4]; rfl)
  have hD := D_eq (ws2 := wsR ad cI cJ cG I4 J) hD (by rw [eI4]; rfl)
  refine lv_aload_n hx hb dR_corners_206 rfl (lv_at hl 0 rfl) ?_
  refine va_get (D := D) (ci := 6) (v := .ref (ad 16)) (C := RR) (T := TR) (N := 31) hx hb hT inR hown hK hP 0 rfl rfl 27 (by decide) (hT _ wd_562) (fun _ h9 => h9) rfl dR_corners_207 ?_
  refine lv_iconst (v := 2) hx hb dR_corners_210 (by decide) ?_
  refine lv_iload hx hb dR_corners_211 (lv_at hl 6 rfl) ?_
  obtain ⟨g5, hm⟩ := gd_to hm
  refine va_iast hx hb hK hP hD hS 16 0 rfl rfl g5 dR_corners_213 (fun H locs hP hD hS => ?_)
  obtain ⟨I6, eI6⟩ : ∃ z : SI, z = va_up I4 16 (upd (I4 16) (Int32.toNatClampNeg 2) x7) := ⟨_, rfl⟩
  have hm := nm_to eI6 hm
  have hP := P_eq (ws2 := wsR ad cI cJ cG I6 J) hP (by rw [eI6]; rfl)
  have hD := D_eq (ws2 := wsR ad cI cJ cG I6 J) hD (by rw [eI6]; rfl)
  refine lv_aload_n hx hb dR_corners_214 rfl (lv_at hl 0 rfl) ?_
  refine lv_iload_n hx hb dR_corners_215 rfl (lv_at hl 1 rfl) ?_
  obtain ⟨r7, I8, J9, hc10, hm⟩ := cl3_to hm
  refine pst_i (wf := wsR ad cI cJ cG) hD hS hA (va_runV (As := [.int x1]) (rest := []) ⟨hx, hb, hml, hown, hT⟩ (c_R_look l D ad cI cJ cG _ x1 I6 J _ hc10) (cwV 1 hT (gV wd_689 wd_691 wd_38 wd_57 wd_692) rfl rfl rfl (by decide +kernel) ⟨Nat.le_of_ble_eq_true rfl, Nat.le_of_ble_eq_true rfl⟩) ⟨preW_fb, va_recv hK hP (ci := 6) (q0 := 0) rfl rfl, preW_at hP hK hN hD⟩ rfl rfl hl.1 rfl (lv_room (Nat.le_of_ble_eq_true rfl)) dR_corners_216 ⟨Nat.zero_le _, Nat.zero_le _⟩) (fun H locs hP hD hS => ?_)
  refine lv_istore (lv' := [(8, .int r7), (0, .ref (ad 0)), (1, .int x1), (2, .int x2), (3, .int x3), (5, .int x5), (6, .int x6), (7, .int x7)]) hx hb dR_corners_219 hl (by decide) rfl (fun ls hl => ?_)
  refine lv_iload hx hb dR_corners_221 (lv_at hl 0 rfl) ?_
  refine lv_if_eq (tgt := 230) hx hb dR_corners_223 (by decide) (fun c11 => ?_) (fun c11 => ?_)
  · have hm := brp hm c11
    refine lv_iconst (v := 1) hx hb dR_corners_230 (by decide) ?_
    refine lv_goto (tgt := 235) hx hb dR_corners_231 (by decide) ?_
    refine lv_istore (lv' := [(4, .int 1), (8, .int r7), (0, .ref (ad 0)), (1, .int x1), (2, .int x2), (3, .int x3), (5, .int x5), (6, .int x6), (7, .int x7)]) hx hb dR_corners_235 hl (by decide) rfl (fun ls hl => ?_)
    obtain ⟨v12, ev12⟩ : ∃ z : Int32, z = x7 + 1 := ⟨_, rfl⟩
    have hm := nm_to ev12 hm
    refine lv_iinc (v := v12) (lv' := [(7, .int v12), (4, .int 1), (8, .int r7), (0, .ref (ad 0)), (1, .int x1), (2, .int x2), (3, .int x3), (5, .int x5), (6, .int x6)]) hx hb dR_corners_237 hl (k := 8) rfl (by rw [ev12]; rfl) (by decide) rfl (fun ls hl => ?_)
    refine lv_goto (tgt := 163) hx hb dR_corners_240 (by decide) ?_
    exact hk163 x1 x2 x3 1 x5 x6 v12 I8 J9 hm _ _ _ hP hD hS (lv_sub hl [3, 4, 5, 6, 1, 7, 8, 0] rfl)
  · have hm := brn hm c11
    refine lv_iload_n hx hb dR_corners_226 rfl (lv_at hl 3 rfl) ?_
    refine lv_if_ne (tgt := 234) hx hb dR_corners_227 (by decide) (fun c13 => ?_) (fun c13 => ?_)
    · have hm := brn hm c13
      refine lv_iconst (v := 0) hx hb dR_corners_234 (by decide) ?_
      refine lv_istore (lv' := [(4, .int 0), (8, .int r7), (0, .ref (ad 0)), (1, .int x1), (2, .int x2), (3, .int x3), (5, .int x5), (6, .int x6), (7, .int x7)]) hx hb dR_corners_235 hl (by decide) rfl (fun ls hl => ?_)
      obtain ⟨v14, ev14⟩ : ∃ z : Int32, z = x7 + 1 := ⟨_, rfl⟩
      have hm := nm_to ev14 hm
      refine lv_iinc (v := v14) (lv' := [(7, .int v14), (4, .int 0), (8, .int r7), (0, .ref (ad 0)), (1, .int x1), (2, .int x2), (3, .int x3), (5, .int x5), (6, .int x6)]) hx hb dR_corners_237 hl (k := 8) rfl (by rw [ev14]; rfl) (by decide) rfl (fun ls hl => ?_)
      refine lv_goto (tgt := 163) hx hb dR_corners_240 (by decide) ?_
      exact hk163 x1 x2 x3 0 x5 x6 v14 I8 J9 hm _ _ _ hP hD hS (lv_sub hl [3, 4, 5, 6, 1, 7, 8, 0] rfl)
    · have hm := brp hm c13
      refine lv_iconst (v := 1) hx hb dR_corners_230 (by decide) ?_
      refine lv_goto (tgt := 235) hx hb dR_corners_231 (by decide) ?_
      refine lv_istore (lv' := [(4, .int 1), (8, .int r7), (0, .ref (ad 0)), (1, .int x1), (2, .int x2), (3, .int x3), (5, .int x5), (6, .int x6), (7, .int x7)]) hx hb dR_corners_235 hl (by decide) rfl (fun ls hl => ?_)
      obtain ⟨v15, ev15⟩ : ∃ z : Int32, z = x7 + 1 := ⟨_, rfl⟩
      have hm := nm_to ev15 hm
      refine lv_iinc (v := v15) (lv' := [(7, .int v15), (4, .int 1), (8, .int r7), (0, .ref (ad 0)), (1, .int x1), (2, .int x2), (3, .int x3), (5, .int x5), (6, .int x6)]) hx hb dR_corners_237 hl (k := 8) rfl (by rw [ev15]; rfl) (by decide) rfl (fun ls hl => ?_)
      refine lv_goto (tgt := 163) hx hb dR_corners_240 (by decide) ?_
      exact hk163 x1 x2 x3 1 x5 x6 v15 I8 J9 hm _ _ _ hP hD hS (lv_sub hl [3, 4, 5, 6, 1, 7, 8, 0] rfl)
set_option maxHeartbeats 4000000 in
set_option maxRecDepth 100000 in
theorem w_R_corners_0 {p : Program} {l : Launch} {e : Env} {s : State} {m : MethodId} {args : Array Value} {below : List Frame} {meth : Method} {c : Code} {D : va_G} {A : Nat → Prop} {ad : Nat → Nat} {cI cJ cG : ClassId} {res : SI × SJ} (X : Cx p s m args meth c bR_corners none 9 RR) (hK : va_K D vwCl (tysR cI cJ cG) s) (hN : NWs s) (hA : ∀ q, s.heap.size ≤ q → A q)
    {k7 : Int32 → Int32 → Int32 → SI → SJ → Option (SI × SJ)} (hk7 : ∀ (x1 : Int32) (x2 : Int32) (x3 : Int32) (I : SI) (J : SJ), k7 x1 x2 x3 I J = some res → WB p l e (headSpec (Cond.code yR_corners bR_corners 9 none :: gtb) rm_R_corners).room s m args below meth c (MQ below (va_Qv (fun (u : SI × SJ) => u = res) (atW D vwCl (tysR cI cJ cG) A (wsR ad cI cJ cG)) A) args s 0 0 A) D vwCl A 9 (wsR ad cI cJ cG I J) 7 [(0, .ref (ad 0)), (1, .int x1), (2, .int x2), (3, .int x3)] [])
     (x1 : Int32) (x2 : Int32) (I : SI) (J : SJ) (hm : b_R_corners_0 k7 x1 x2 I J = some res) : WB p l e (headSpec (Cond.code yR_corners bR_corners 9 none :: gtb) rm_R_corners).room s m args below meth c (MQ below (va_Qv (fun (u : SI × SJ) => u = res) (atW D vwCl (tysR cI cJ cG) A (wsR ad cI cJ cG)) A) args s 0 0 A) D vwCl A 9 (wsR ad cI cJ cG I J) 0 [(0, .ref (ad 0)), (1, .int x1), (2, .int x2)] [] := by
  obtain ⟨hx, hb, hr, hml, hown, hT, hlk⟩ := X
  intro H locs ls hP hD hS hl
  unfold b_R_corners_0 at hm
  refine lv_aload_n hx hb dR_corners_0 rfl (lv_at hl 0 rfl) ?_
  refine lv_iconst (v := 0) hx hb dR_corners_1 (by decide) ?_
  refine va_put (D := D) (ci := 6) (v := .int 0) (ty := .int) (C := RR) (T := TR) (N := 31) hx hb hT inR tyR okR nmR hown hK hP hD hS 0 rfl rfl 23 (by decide) (hT _ wd_558) (fun _ h9 => h9) rfl pf_I rfl rfl (Nat.le_of_ble_eq_true rfl) dR_corners_2 (fun H locs hP hD hS => ?_)
  obtain ⟨I1, eI1⟩ : ∃ z : SI, z = va_up I 0 (upd (I 0) 23 0) := ⟨_, rfl⟩
  have hm := nm_to eI1 hm
  have hP := P_eq (ws2 := wsR ad cI cJ cG I1 J) hP (by rw [eI1]; rfl)
  have hD := D_eq (ws2 := wsR ad cI cJ cG I1 J) hD (by rw [eI1]; rfl)
  refine lv_iconst (v := 0) hx hb dR_corners_5 (by decide) ?_
  refine lv_istore_n (lv' := [(3, .int 0), (0, .ref (ad 0)), (1, .int x1), (2, .int x2)]) hx hb dR_corners_6 rfl hl (by decide) rfl (fun ls hl => ?_)
  exact hk7 x1 x2 0 I1 J hm _ _ _ hP hD hS (lv_sub hl [1, 2, 3, 0] rfl)
set_option maxHeartbeats 4000000 in
theorem gw_R_corners {p : Program} {l : Launch} {e : Env} {s : State} {m : MethodId} {args : Array Value} {below : List Frame} {meth : Method} {c : Code} {D : va_G} {A : Nat → Prop} {ad : Nat → Nat} {cI cJ cG : ClassId} {res : SI × SJ} (X : Cx p s m args meth c bR_corners none 9 RR) (hK : va_K D vwCl (tysR cI cJ cG) s) (hN : NWs s) (hA : ∀ q, s.heap.size ≤ q → A q) : ∀ n : Nat, (∀ (x1 : Int32) (x2 : Int32) (x3 : Int32) (I : SI) (J : SJ), (g_R_corners n).1 x1 x2 x3 I J = some res → WB p l e (headSpec (Cond.code yR_corners bR_corners 9 none :: gtb) rm_R_corners).room s m args below meth c (MQ below (va_Qv (fun (u : SI × SJ) => u = res) (atW D vwCl (tysR cI cJ cG) A (wsR ad cI cJ cG)) A) args s 0 0 A) D vwCl A 9 (wsR ad cI cJ cG I J) 7 [(0, .ref (ad 0)), (1, .int x1), (2, .int x2), (3, .int x3)] []) ∧ (∀ (x1 : Int32) (x2 : Int32) (x3 : Int32) (x4 : Int32) (x5 : Int32) (I : SI) (J : SJ), (g_R_corners n).2.1 x1 x2 x3 x4 x5 I J = some res → WB p l e (headSpec (Cond.code yR_corners bR_corners 9 none :: gtb) rm_R_corners).room s m args below meth c (MQ below (va_Qv (fun (u : SI × SJ) => u = res) (atW D vwCl (tysR cI cJ cG) A (wsR ad cI cJ cG)) A) args s 0 0 A) D vwCl A 9 (wsR ad cI cJ cG I J) 72 [(0, .ref (ad 0)), (1, .int x1), (2, .int x2), (3, .int x3), (4, .int x4), (5, .int x5)] []) ∧ (∀ (x1 : Int32) (x2 : Int32) (x3 : Int32) (x4 : Int32) (x5 : Int32) (x6 : Int32) (I : SI) (J : SJ), (g_R_corners n).2.2.1 x1 x2 x3 x4 x5 x6 I J = some res → WB p l e (headSpec (Cond.code yR_corners bR_corners 9 none :: gtb) rm_R_corners).room s m args below meth c (MQ below (va_Qv (fun (u : SI × SJ) => u = res) (atW D vwCl (tysR cI cJ cG) A (wsR ad cI cJ cG)) A) args s 0 0 A) D vwCl A 9 (wsR ad cI cJ cG I J) 117 [(0, .ref (ad 0)), (1, .int x1), (2, .int x2), (3, .int x3), (4, .int x4), (5, .int x5), (6, .int x6)] []) ∧ (∀ (x1 : Int32) (x2 : Int32) (x3 : Int32) (x4 : Int32) (x5 : Int32) (x6 : Int32) (x7 : Int32) (I : SI) (J : SJ), (g_R_corners n).2.2.2.1 x1 x2 x3 x4 x5 x6 x7 I J = some res → WB p l e (headSpec (Cond.code yR_corners bR_corners 9 none :: gtb) rm_R_corners).room s m args below meth c (MQ below (va_Qv (fun (u : SI × SJ) => u = res) (atW D vwCl (tysR cI cJ cG) A (wsR ad cI cJ cG)) A) args s 0 0 A) D vwCl A 9 (wsR ad cI cJ cG I J) 163 [(0, .ref (ad 0)), (1, .int x1), (2, .int x2), (3, .int x3), (4, .int x4), (5, .int x5), (6, .int x6), (7, .int x7)] []) ∧ (∀ (x1 : Int32) (x2 : Int32) (x3 : Int32) (x5 : Int32) (x6 : Int32) (x7 : Int32) (I : SI) (J : SJ), (g_R_corners n).2.2.2.2 x1 x2 x3 x5 x6 x7 I J = some res → WB p l e (headSpec (Cond.code yR_corners bR_corners 9 none :: gtb) rm_R_corners).room s m args below meth c (MQ below (va_Qv (fun (u : SI × SJ) => u = res) (atW D vwCl (tysR cI cJ cG) A (wsR ad cI cJ cG)) A) args s 0 0 A) D vwCl A 9 (wsR ad cI cJ cG I J) 190 [(0, .ref (ad 0)), (1, .int x1), (2, .int x2), (3, .int x3), (5, .int x5), (6, .int x6), (7, .int x7)] []) := by
  intro n
  induction n with
  | zero => exact ⟨fun _ _ _ _ _ h => (by cases h), fun _ _ _ _ _ _ _ h => (by cases h), fun _ _ _ _ _ _ _ _ h => (by cases h), fun _ _ _ _ _ _ _ _ _ h => (by cases h), fun _ _ _ _ _ _ _ _ h => (by cases h)⟩
  | succ n ih =>
    obtain ⟨ih7, ih72, ih117, ih163, ih190⟩ := ih
    exact ⟨fun x1 x2 x3 I J h => w_R_corners_7 X hK hN hA ih7 ih72 x1 x2 x3 I J h, fun x1 x2 x3 x4 x5 I J h => w_R_corners_72 X hK hN hA ih72 ih117 x1 x2 x3 x4 x5 I J h, fun x1 x2 x3 x4 x5 x6 I J h => w_R_corners_117 X hK hN hA ih72 ih117 ih163 x1 x2 x3 x4 x5 x6 I J h, fun x1 x2 x3 x4 x5 x6 x7 I J h => w_R_corners_163 X hK hN hA ih117 ih163 ih190 x1 x2 x3 x4 x5 x6 x7 I J h, fun x1 x2 x3 x5 x6 x7 I J h => w_R_corners_190 X hK hN hA ih163 x1 x2 x3 x5 x6 x7 I J h⟩
set_option maxHeartbeats 4000000 in
set_option maxRecDepth 100000 in
theorem c_R_corners (l : Launch) (D : va_G) (ad : Nat → Nat) (cI cJ cG : ClassId) (sz : Nat) (x1 : Int32) (x2 : Int32) (I : SI) (J : SJ) (res : SI × SJ) (hm : m_R_corners x1 x2 I J = some res) : Met l yR_corners (Cond.code yR_corners bR_corners 9 none :: gtb) rm_R_corners (va_Pc [.ref (ad 0), .int x1, .int x2] (preW D vwCl (tysR cI cJ cG) (wsR ad cI cJ cG I J) sz)) (va_Qv (fun (u : SI × SJ) => u = res) (atW D vwCl (tysR cI cJ cG) (va_A (wsR ad cI cJ cG I J) sz) (wsR ad cI cJ cG)) (va_A (wsR ad cI cJ cG I J) sz)) 0 0 (va_A (wsR ad cI cJ cG I J) sz) := by
  refine Met.ofW (cc := bR_corners) (maxL := 9) (ret := none) (by decide) rfl ?_
  intro p e s m args below meth c s₁ B hml hv
  obtain ⟨rfl, hsz, hP, hK, hD0, hN⟩ := hv
  subst hsz
  have X : Cx p s m [.ref (ad 0), .int x1, .int x2].toArray meth c bR_corners none 9 RR := ⟨B.exec, B.bytes, B.returns, hml, findClass_of_methodNamed B.named, fun w h => atoms_spec (ws := (Cond.code yR_corners bR_corners 9 none :: gtb)) B.pre w (List.mem_cons_of_mem _ h), B.notSynchronized⟩
  have hl := lv_entry ([.ref (ad 0), .int x1, .int x2]) (n := 9) (Nat.le_of_ble_eq_true rfl)
  rw [lg_entry_eq]
  generalize (lg_sl ([.ref (ad 0), .int x1, .int x2]) ++ List.replicate (9 - (lg_sl ([.ref (ad 0), .int x1, .int x2])).length) Slot.unset).toArray = ls at hl ⊢
  have hl : lv_has ls 9 [(0, .ref (ad 0)), (1, .int x1), (2, .int x2)] := hl
  have hA : ∀ q, s.heap.size ≤ q → va_A (wsR ad cI cJ cG I J) s.heap.size q := fun q h => Or.inr h
  exact w_R_corners_0 X hK hN hA (gw_R_corners X hK hN hA fuel).1 x1 x2 I J hm _ _ _ hP hD0.self va_S.rf hl
