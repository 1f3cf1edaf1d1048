def LawStep (Inv : SI → SJ → SI → SJ → Prop) : Prop := ∀ (I : SI) (J : SJ) (I2 : SI) (J2 : SJ), Inv I J I2 J2 → ∀ (a b c : Int32), Agree Inv (m_F_stuff a b I J) (m_R_stuff a b I2 J2) ∧ Agree Inv (m_F_price a b I J) (m_R_price a b I2 J2) ∧ Agree Inv (m_F_stock a b I J) (m_R_stock a b I2 J2) ∧ Agree Inv (m_F_holds a b c I J) (m_R_holds a b c I2 J2) ∧ Agree Inv (m_F_need a b c I J) (m_R_need a b c I2 J2) ∧ Agree Inv (m_F_shares a b c I J) (m_R_shares a b c I2 J2) ∧ Agree Inv (m_F_silo a b I J) (m_R_silo a b I2 J2) ∧ Agree Inv (m_F_run a I J) (m_R_run a I2 J2) ∧ Agree Inv (m_F_amount a b I J) (m_R_amount a b I2 J2) ∧ Agree Inv (m_F_cost a I J) (m_R_cost a I2 J2) ∧ Agree Inv (m_F_tight I J) (m_R_tight I2 J2) ∧ Agree Inv (m_F_clash a I J) (m_R_clash a I2 J2) ∧ Agree Inv (m_F_dearer a b I J) (m_R_dearer a b I2 J2) ∧ Agree Inv (m_F_line a I J) (m_R_line a I2 J2) ∧ Agree Inv (m_F_clean I J) (m_R_clean I2 J2) ∧ Agree Inv (m_F_made I J) (m_R_made I2 J2)
set_option maxHeartbeats 8000000 in
set_option maxRecDepth 100000 in
theorem law_loop {p : Program} {l : Launch} {e : Env} {s : State} {m : MethodId} {below : List Frame} {meth : Method} {c : Code} {D : va_G} {b L : Nat} {xs : Nat → Int32} {ad ad2 : Nat → Nat} {cI cJ cG cZ : ClassId} (Inv : SI → SJ → SI → SJ → Prop) (hStep : LawStep Inv) (hL : L ≤ 2048) (C0 : lw_At p s m meth c b L xs) (hK : va_K D vwCl (tysM cI cJ cG) s) (hK2 : va_K D vwCl (tysR cI cJ cZ) s) :
    ∀ (n i : Nat) (x3 : Int32), L + 4 ≤ i + n → i ≤ L + 3 → x3 = nI i → ∀ (I : SI) (J : SJ) (I2 : SI) (J2 : SJ), Inv I J I2 J2 → ∀ (H : Heap) (locs : List Loc), va_P D vwCl (wsF ad cI cJ cG I J ++ wsR ad2 cI cJ cZ I2 J2) H → va_D (fun q : Nat => s.heap.size ≤ q) (wsF ad cI cJ cG I J ++ wsR ad2 cI cJ cZ I2 J2) → va_S (fun q : Nat => s.heap.size ≤ q) s.heap H locs → ∀ (ls : Array Slot), lv_has ls 4 [(0, .ref b), (1, .ref (ad 41)), (2, .ref (ad2 0)), (3, .int x3)] → W p l e room_1 s m #[Value.ref b] below meth c H locs 60 343 (lw_Z below #[Value.ref b] s) (F0 m 18 ls []) := by
  obtain ⟨hx, hb, hr, hml, hown, hts, hX, hbl, hlocks, hgv⟩ := C0
  have hT : ∀ w ∈ gtb, w.before #[Value.ref b] s = true := fun w h => hts w (gtb_lw h)
  have hown : s.vm.findClass RW = some m.cls := hown
  have hN : NWs s := NWs.of hts
  have hA : ∀ q : Nat, s.heap.size ≤ q → (fun q : Nat => s.heap.size ≤ q) q := fun _ h => h
  have hbA : ¬ (fun q : Nat => s.heap.size ≤ q) b := Nat.not_le.mpr hbl
  intro n
  induction n with
  | zero =>
    intro i x3 h1 h2
    exact absurd h1 (by omega)
  | succ n ih =>
    intro i x3 hin hi ex I J I2 J2 hI H locs hP hD hS ls hl
    refine lv_iload_n hx hb dlaw_18 rfl (lv_at hl 3 rfl) ?_
    refine lv_aload_n hx hb dlaw_19 rfl (lv_at hl 0 rfl) ?_
    refine va_slen hx hb hX hbl hbA hS dlaw_20 ?_
    refine lv_iconst (v := 4) hx hb dlaw_21 (by decide) ?_
    refine lv_isub hx hb dlaw_22 ?_
    have hLi : (Int32.ofNat L - 4).toInt = (L : Int) - 4 := pk_sub_toInt (a := L) (b := 4) (by omega) (by omega)
    have hxi : x3.toInt = (i : Int) := by rw [ex]; exact nI_toInt (by omega)
    refine lv_icmp_gt (tgt := 579) hx hb dlaw_23 (by decide) (fun c1 => ?_) (fun c1 => ?_)
    · refine lv_iconst (v := 1) hx hb dlaw_579 (by decide) ?_
      refine va_forget (fun q hq => hS.2.2 q hq) ?_
      refine W.widen (k := 638008) (n := 7188225) (by omega) (by omega) ?_
      exact lw_ret hx hb hr hlocks dlaw_580
    · have hi4 : i + 4 ≤ L := by
        have h9 : ¬ (Int32.ofNat L - 4).toInt < x3.toInt := fun h => c1 (Int32.lt_iff_toInt_lt.mpr h)
        rw [hLi, hxi] at h9; omega
      have h_0 : vp_in x3 L := by rw [ex]; exact vp_in_nI (by omega) (by omega)
      have h_1 : vp_in (x3 + 1) L := by rw [ex, show nI i + 1 = nI (i + 1) from nI_add i 1]; exact vp_in_nI (by omega) (by omega)
      have h_2 : vp_in (x3 + 2) L := by rw [ex, show nI i + 2 = nI (i + 2) from nI_add i 2]; exact vp_in_nI (by omega) (by omega)
      have h_3 : vp_in (x3 + 3) L := by rw [ex, show nI i + 3 = nI (i + 3) from nI_add i 3]; exact vp_in_nI (by omega) (by omega)
      have tail : ∀ (I : SI) (J : SJ) (I2 : SI) (J2 : SJ), Inv I J I2 J2 → ∀ (H : Heap) (locs : List Loc), va_P D vwCl (wsF ad cI cJ cG I J ++ wsR ad2 cI cJ cZ I2 J2) H → va_D (fun q : Nat => s.heap.size ≤ q) (wsF ad cI cJ cG I J ++ wsR ad2 cI cJ cZ I2 J2) → va_S (fun q : Nat => s.heap.size ≤ q) s.heap H locs → W p l e room_1 s m #[Value.ref b] below meth c H locs 60 343 (lw_Z below #[Value.ref b] s) (F0 m 573 ls []) := by
        intro I J I2 J2 hI H locs hP hD hS
        obtain ⟨y3, ey⟩ : ∃ y : Int32, y = x3 + 4 := ⟨_, rfl⟩
        refine lv_iinc (v := y3) (lv' := [(3, .int y3), (0, .ref b), (1, .ref (ad 41)), (2, .ref (ad2 0))]) hx hb dlaw_573 hl (k := 3) rfl (by rw [ey]; rfl) (by decide) rfl (fun ls hl => ?_)
        refine lv_goto (tgt := 18) hx hb dlaw_576 (by decide) ?_
        exact ih (i + 4) y3 (by omega) (by omega) (by rw [ey, ex]; exact nI_add i 4) I J I2 J2 hI H locs hP hD hS ls (lv_sub hl [1, 2, 3, 0] rfl)
      refine lv_aload_n hx hb dlaw_26 rfl (lv_at hl 0 rfl) ?_
      refine lv_iload_n hx hb dlaw_27 rfl (lv_at hl 3 rfl) ?_
      refine va_sld hx hb hX hbl hbA hS h_0 dlaw_28 ?_
      refine lv_bipush (v := 15) hx hb dlaw_29 (by decide) ?_
      refine lv_iand hx hb dlaw_31 ?_
      obtain ⟨o, ho, eo⟩ := pk_andE (xs x3.toNatClampNeg) (m := 15) 4 (by decide)
      rw [eo]
      have hS16 := hStep I J I2 J2 hI (xs (x3 + 1).toNatClampNeg) (xs (x3 + 2).toNatClampNeg) (xs (x3 + 3).toNatClampNeg)
      obtain ⟨s0, s1, s2, s3, s4, s5, s6, s7, s8, s9, s10, s11, s12, s13, s14, s15⟩ := hS16
      match o, ho with
      | 0, _ =>
        refine lv_tableIn (tgt := 112) hx hb dlaw_32 (by decide) (by decide) (off := 80) rfl (by decide) ?_
        obtain ⟨r, I3, J3, I4, J4, e1, e2, hI3⟩ := s0
        refine lv_aload_n hx hb dlaw_112 rfl (lv_at hl 1 rfl) ?_
        refine lv_aload_n hx hb dlaw_113 rfl (lv_at hl 0 rfl) ?_
        refine lv_iload_n hx hb dlaw_114 rfl (lv_at hl 3 rfl) ?_
        refine lv_iconst (v := 1) hx hb dlaw_115 (by decide) ?_
        refine lv_iadd hx hb dlaw_116 ?_
        refine va_sld hx hb hX hbl hbA hS h_1 dlaw_117 ?_
        refine lv_aload_n hx hb dlaw_118 rfl (lv_at hl 0 rfl) ?_
        refine lv_iload_n hx hb dlaw_119 rfl (lv_at hl 3 rfl) ?_
        refine lv_iconst (v := 2) hx hb dlaw_120 (by decide) ?_
        refine lv_iadd hx hb dlaw_121 ?_
        refine va_sld hx hb hX hbl hbA hS h_2 dlaw_122 ?_
        refine pL_i (wf := wsF ad cI cJ cG) hP hD hS hA (va_runV (As := [.int (xs (x3 + 1).toNatClampNeg), .int (xs (x3 + 2).toNatClampNeg)]) (rest := []) ⟨hx, hb, hml, hown, hT⟩ (c_F_stuff l D ad cI cJ cG _ (xs (x3 + 1).toNatClampNeg) (xs (x3 + 2).toNatClampNeg) I J _ e1) (cwV 2 hT (gV wd_279 wd_280 wd_281 wd_51 wd_282) rfl rfl rfl (by decide +kernel) ⟨Nat.le_of_ble_eq_true rfl, Nat.le_of_ble_eq_true rfl⟩) ⟨preW_fb, va_recv hK (P_left hP) (ci := 5) (q0 := 41) rfl rfl, preW_at (P_left hP) hK hN (D_left hD)⟩ rfl rfl hl.1 rfl (lv_room (Nat.le_of_ble_eq_true rfl)) dlaw_123 ⟨Nat.le_of_ble_eq_true rfl, Nat.le_of_ble_eq_true rfl⟩) (fun H locs hP hD hS => ?_)
        refine lv_aload_n hx hb dlaw_126 rfl (lv_at hl 2 rfl) ?_
        refine lv_aload_n hx hb dlaw_127 rfl (lv_at hl 0 rfl) ?_
        refine lv_iload_n hx hb dlaw_128 rfl (lv_at hl 3 rfl) ?_
        refine lv_iconst (v := 1) hx hb dlaw_129 (by decide) ?_
        refine lv_iadd hx hb dlaw_130 ?_
        refine va_sld hx hb hX hbl hbA hS h_1 dlaw_131 ?_
        refine lv_aload_n hx hb dlaw_132 rfl (lv_at hl 0 rfl) ?_
        refine lv_iload_n hx hb dlaw_133 rfl (lv_at hl 3 rfl) ?_
        refine lv_iconst (v := 2) hx hb dlaw_134 (by decide) ?_
        refine lv_iadd hx hb dlaw_135 ?_
        refine va_sld hx hb hX hbl hbA hS h_2 dlaw_136 ?_
        refine pR_i (wf := wsR ad2 cI cJ cZ) hP hD hS hA (va_runV (As := [.int (xs (x3 + 1).toNatClampNeg), .int (xs (x3 + 2).toNatClampNeg)]) (rest := [.int r]) ⟨hx, hb, hml, hown, hT⟩ (c_R_stuff l D ad2 cI cJ cZ _ (xs (x3 + 1).toNatClampNeg) (xs (x3 + 2).toNatClampNeg) I2 J2 _ e2) (cwV 2 hT (gV wd_630 wd_631 wd_632 wd_57 wd_633) rfl rfl rfl (by decide +kernel) ⟨Nat.le_of_ble_eq_true rfl, Nat.le_of_ble_eq_true rfl⟩) ⟨preW_fb, va_recv hK2 (P_right hP) (ci := 6) (q0 := 0) rfl rfl, preW_at (P_right hP) hK2 hN (D_right hD)⟩ rfl rfl hl.1 rfl (lv_room (Nat.le_of_ble_eq_true rfl)) dlaw_137 ⟨Nat.le_of_ble_eq_true rfl, Nat.le_of_ble_eq_true rfl⟩) (fun H locs hP hD hS => ?_)
        refine lv_icmp_eq (tgt := 573) hx hb dlaw_140 (by decide) (fun _ => ?_) (fun c9 => absurd rfl c9)
        exact tail I3 J3 I4 J4 hI3 H locs hP hD hS
      | 1, _ =>
        refine lv_tableIn (tgt := 145) hx hb dlaw_32 (by decide) (by decide) (off := 113) rfl (by decide) ?_
        obtain ⟨r, I3, J3, I4, J4, e1, e2, hI3⟩ := s1
        refine lv_aload_n hx hb dlaw_145 rfl (lv_at hl 1 rfl) ?_
        refine lv_aload_n hx hb dlaw_146 rfl (lv_at hl 0 rfl) ?_
        refine lv_iload_n hx hb dlaw_147 rfl (lv_at hl 3 rfl) ?_
        refine lv_iconst (v := 1) hx hb dlaw_148 (by decide) ?_
        refine lv_iadd hx hb dlaw_149 ?_
        refine va_sld hx hb hX hbl hbA hS h_1 dlaw_150 ?_
        refine lv_aload_n hx hb dlaw_151 rfl (lv_at hl 0 rfl) ?_
        refine lv_iload_n hx hb dlaw_152 rfl (lv_at hl 3 rfl) ?_
        refine lv_iconst (v := 2) hx hb dlaw_153 (by decide) ?_
        refine lv_iadd hx hb dlaw_154 ?_
        refine va_sld hx hb hX hbl hbA hS h_2 dlaw_155 ?_
        refine pL_i (wf := wsF ad cI cJ cG) hP hD hS hA (va_runV (As := [.int (xs (x3 + 1).toNatClampNeg), .int (xs (x3 + 2).toNatClampNeg)]) (rest := []) ⟨hx, hb, hml, hown, hT⟩ (c_F_price l D ad cI cJ cG _ (xs (x3 + 1).toNatClampNeg) (xs (x3 + 2).toNatClampNeg) I J _ e1) (cwV 2 hT (gV wd_292 wd_293 wd_294 wd_51 wd_295) rfl rfl rfl (by decide +kernel) ⟨Nat.le_of_ble_eq_true rfl, Nat.le_of_ble_eq_true rfl⟩) ⟨preW_fb, va_recv hK (P_left hP) (ci := 5) (q0 := 41) rfl rfl, preW_at (P_left hP) hK hN (D_left hD)⟩ rfl rfl hl.1 rfl (lv_room (Nat.le_of_ble_eq_true rfl)) dlaw_156 ⟨Nat.le_of_ble_eq_true rfl, Nat.le_of_ble_eq_true rfl⟩) (fun H locs hP hD hS => ?_)
        refine lv_aload_n hx hb dlaw_159 rfl (lv_at hl 2 rfl) ?_
        refine lv_aload_n hx hb dlaw_160 rfl (lv_at hl 0 rfl) ?_
        refine lv_iload_n hx hb dlaw_161 rfl (lv_at hl 3 rfl) ?_
        refine lv_iconst (v := 1) hx hb dlaw_162 (by decide) ?_
        refine lv_iadd hx hb dlaw_163 ?_
        refine va_sld hx hb hX hbl hbA hS h_1 dlaw_164 ?_
        refine lv_aload_n hx hb dlaw_165 rfl (lv_at hl 0 rfl) ?_
        refine lv_iload_n hx hb dlaw_166 rfl (lv_at hl 3 rfl) ?_
        refine lv_iconst (v := 2) hx hb dlaw_167 (by decide) ?_
        refine lv_iadd hx hb dlaw_168 ?_
        refine va_sld hx hb hX hbl hbA hS h_2 dlaw_169 ?_
        refine pR_i (wf := wsR ad2 cI cJ cZ) hP hD hS hA (va_runV (As := [.int (xs (x3 + 1).toNatClampNeg), .int (xs (x3 + 2).toNatClampNeg)]) (rest := [.int r]) ⟨hx, hb, hml, hown, hT⟩ (c_R_price l D ad2 cI cJ cZ _ (xs (x3 + 1).toNatClampNeg) (xs (x3 + 2).toNatClampNeg) I2 J2 _ e2) (cwV 2 hT (gV wd_637 wd_638 wd_639 wd_57 wd_640) rfl rfl rfl (by decide +kernel) ⟨Nat.le_of_ble_eq_true rfl, Nat.le_of_ble_eq_true rfl⟩) ⟨preW_fb, va_recv hK2 (P_right hP) (ci := 6) (q0 := 0) rfl rfl, preW_at (P_right hP) hK2 hN (D_right hD)⟩ rfl rfl hl.1 rfl (lv_room (Nat.le_of_ble_eq_true rfl)) dlaw_170 ⟨Nat.le_of_ble_eq_true rfl, Nat.le_of_ble_eq_true rfl⟩) (fun H locs hP hD hS => ?_)
        refine lv_icmp_eq (tgt := 573) hx hb dlaw_173 (by decide) (fun _ => ?_) (fun c9 => absurd rfl c9)
        exact tail I3 J3 I4 J4 hI3 H locs hP hD hS
      | 2, _ =>
        refine lv_tableIn (tgt := 178) hx hb dlaw_32 (by decide) (by decide) (off := 146) rfl (by decide) ?_
        obtain ⟨r, I3, J3, I4, J4, e1, e2, hI3⟩ := s2
        refine lv_aload_n hx hb dlaw_178 rfl (lv_at hl 1 rfl) ?_
        refine lv_aload_n hx hb dlaw_179 rfl (lv_at hl 0 rfl) ?_
        refine lv_iload_n hx hb dlaw_180 rfl (lv_at hl 3 rfl) ?_
        refine lv_iconst (v := 1) hx hb dlaw_181 (by decide) ?_
        refine lv_iadd hx hb dlaw_182 ?_
        refine va_sld hx hb hX hbl hbA hS h_1 dlaw_183 ?_
        refine lv_aload_n hx hb dlaw_184 rfl (lv_at hl 0 rfl) ?_
        refine lv_iload_n hx hb dlaw_185 rfl (lv_at hl 3 rfl) ?_
        refine lv_iconst (v := 2) hx hb dlaw_186 (by decide) ?_
        refine lv_iadd hx hb dlaw_187 ?_
        refine va_sld hx hb hX hbl hbA hS h_2 dlaw_188 ?_
        refine pL_i (wf := wsF ad cI cJ cG) hP hD hS hA (va_runV (As := [.int (xs (x3 + 1).toNatClampNeg), .int (xs (x3 + 2).toNatClampNeg)]) (rest := []) ⟨hx, hb, hml, hown, hT⟩ (c_F_stock l D ad cI cJ cG _ (xs (x3 + 1).toNatClampNeg) (xs (x3 + 2).toNatClampNeg) I J _ e1) (cwV 2 hT (gV wd_300 wd_301 wd_302 wd_51 wd_303) rfl rfl rfl (by decide +kernel) ⟨Nat.le_of_ble_eq_true rfl, Nat.le_of_ble_eq_true rfl⟩) ⟨preW_fb, va_recv hK (P_left hP) (ci := 5) (q0 := 41) rfl rfl, preW_at (P_left hP) hK hN (D_left hD)⟩ rfl rfl hl.1 rfl (lv_room (Nat.le_of_ble_eq_true rfl)) dlaw_189 ⟨Nat.le_of_ble_eq_true rfl, Nat.le_of_ble_eq_true rfl⟩) (fun H locs hP hD hS => ?_)
        refine lv_aload_n hx hb dlaw_192 rfl (lv_at hl 2 rfl) ?_
        refine lv_aload_n hx hb dlaw_193 rfl (lv_at hl 0 rfl) ?_
        refine lv_iload_n hx hb dlaw_194 rfl (lv_at hl 3 rfl) ?_
        refine lv_iconst (v := 1) hx hb dlaw_195 (by decide) ?_
        refine lv_iadd hx hb dlaw_196 ?_
        refine va_sld hx hb hX hbl hbA hS h_1 dlaw_197 ?_
        refine lv_aload_n hx hb dlaw_198 rfl (lv_at hl 0 rfl) ?_
        refine lv_iload_n hx hb dlaw_199 rfl (lv_at hl 3 rfl) ?_
        refine lv_iconst (v := 2) hx hb dlaw_200 (by decide) ?_
        refine lv_iadd hx hb dlaw_201 ?_
        refine va_sld hx hb hX hbl hbA hS h_2 dlaw_202 ?_
        refine pR_i (wf := wsR ad2 cI cJ cZ) hP hD hS hA (va_runV (As := [.int (xs (x3 + 1).toNatClampNeg), .int (xs (x3 + 2).toNatClampNeg)]) (rest := [.int r]) ⟨hx, hb, hml, hown, hT⟩ (c_R_stock l D ad2 cI cJ cZ _ (xs (x3 + 1).toNatClampNeg) (xs (x3 + 2).toNatClampNeg) I2 J2 _ e2) (cwV 2 hT (gV wd_645 wd_646 wd_647 wd_57 wd_648) rfl rfl rfl (by decide +kernel) ⟨Nat.le_of_ble_eq_true rfl, Nat.le_of_ble_eq_true rfl⟩) ⟨preW_fb, va_recv hK2 (P_right hP) (ci := 6) (q0 := 0) rfl rfl, preW_at (P_right hP) hK2 hN (D_right hD)⟩ rfl rfl hl.1 rfl (lv_room (Nat.le_of_ble_eq_true rfl)) dlaw_203 ⟨Nat.le_of_ble_eq_true rfl, Nat.le_of_ble_eq_true rfl⟩) (fun H locs hP hD hS => ?_)
        refine lv_icmp_eq (tgt := 573) hx hb dlaw_206 (by decide) (fun _ => ?_) (fun c9 => absurd rfl c9)
        exact tail I3 J3 I4 J4 hI3 H locs hP hD hS
      | 3, _ =>
        refine lv_tableIn (tgt := 211) hx hb dlaw_32 (by decide) (by decide) (off := 179) rfl (by decide) ?_
        obtain ⟨r, I3, J3, I4, J4, e1, e2, hI3⟩ := s3
        refine lv_aload_n hx hb dlaw_211 rfl (lv_at hl 1 rfl) ?_
        refine lv_aload_n hx hb dlaw_212 rfl (lv_at hl 0 rfl) ?_
        refine lv_iload_n hx hb dlaw_213 rfl (lv_at hl 3 rfl) ?_
        refine lv_iconst (v := 1) hx hb dlaw_214 (by decide) ?_
        refine lv_iadd hx hb dlaw_215 ?_
        refine va_sld hx hb hX hbl hbA hS h_1 dlaw_216 ?_
        refine lv_aload_n hx hb dlaw_217 rfl (lv_at hl 0 rfl) ?_
        refine lv_iload_n hx hb dlaw_218 rfl (lv_at hl 3 rfl) ?_
        refine lv_iconst (v := 2) hx hb dlaw_219 (by decide) ?_
        refine lv_iadd hx hb dlaw_220 ?_
        refine va_sld hx hb hX hbl hbA hS h_2 dlaw_221 ?_
        refine lv_aload_n hx hb dlaw_222 rfl (lv_at hl 0 rfl) ?_
        refine lv_iload_n hx hb dlaw_223 rfl (lv_at hl 3 rfl) ?_
        refine lv_iconst (v := 3) hx hb dlaw_224 (by decide) ?_
        refine lv_iadd hx hb dlaw_225 ?_
        refine va_sld hx hb hX hbl hbA hS h_3 dlaw_226 ?_
        refine pL_i (wf := wsF ad cI cJ cG) hP hD hS hA (va_runV (As := [.int (xs (x3 + 1).toNatClampNeg), .int (xs (x3 + 2).toNatClampNeg), .int (xs (x3 + 3).toNatClampNeg)]) (rest := []) ⟨hx, hb, hml, hown, hT⟩ (c_F_holds l D ad cI cJ cG _ (xs (x3 + 1).toNatClampNeg) (xs (x3 + 2).toNatClampNeg) (xs (x3 + 3).toNatClampNeg) I J _ e1) (cwV 3 hT (gV wd_304 wd_305 wd_306 wd_51 wd_307) rfl rfl rfl (by decide +kernel) ⟨Nat.le_of_ble_eq_true rfl, Nat.le_of_ble_eq_true rfl⟩) ⟨preW_fb, va_recv hK (P_left hP) (ci := 5) (q0 := 41) rfl rfl, preW_at (P_left hP) hK hN (D_left hD)⟩ rfl rfl hl.1 rfl (lv_room (Nat.le_of_ble_eq_true rfl)) dlaw_227 ⟨Nat.le_of_ble_eq_true rfl, Nat.le_of_ble_eq_true rfl⟩) (fun H locs hP hD hS => ?_)
        refine lv_aload_n hx hb dlaw_230 rfl (lv_at hl 2 rfl) ?_
        refine lv_aload_n hx hb dlaw_231 rfl (lv_at hl 0 rfl) ?_
        refine lv_iload_n hx hb dlaw_232 rfl (lv_at hl 3 rfl) ?_
        refine lv_iconst (v := 1) hx hb dlaw_233 (by decide) ?_
        refine lv_iadd hx hb dlaw_234 ?_
        refine va_sld hx hb hX hbl hbA hS h_1 dlaw_235 ?_
        refine lv_aload_n hx hb dlaw_236 rfl (lv_at hl 0 rfl) ?_
        refine lv_iload_n hx hb dlaw_237 rfl (lv_at hl 3 rfl) ?_
        refine lv_iconst (v := 2) hx hb dlaw_238 (by decide) ?_
        refine lv_iadd hx hb dlaw_239 ?_
        refine va_sld hx hb hX hbl hbA hS h_2 dlaw_240 ?_
        refine lv_aload_n hx hb dlaw_241 rfl (lv_at hl 0 rfl) ?_
        refine lv_iload_n hx hb dlaw_242 rfl (lv_at hl 3 rfl) ?_
        refine lv_iconst (v := 3) hx hb dlaw_243 (by decide) ?_
        refine lv_iadd hx hb dlaw_244 ?_
        refine va_sld hx hb hX hbl hbA hS h_3 dlaw_245 ?_
        refine pR_i (wf := wsR ad2 cI cJ cZ) hP hD hS hA (va_runV (As := [.int (xs (x3 + 1).toNatClampNeg), .int (xs (x3 + 2).toNatClampNeg), .int (xs (x3 + 3).toNatClampNeg)]) (rest := [.int r]) ⟨hx, hb, hml, hown, hT⟩ (c_R_holds l D ad2 cI cJ cZ _ (xs (x3 + 1).toNatClampNeg) (xs (x3 + 2).toNatClampNeg) (xs (x3 + 3).toNatClampNeg) I2 J2 _ e2) (cwV 3 hT (gV wd_649 wd_650 wd_651 wd_57 wd_652) rfl rfl rfl (by decide +kernel) ⟨Nat.le_of_ble_eq_true rfl, Nat.le_of_ble_eq_true rfl⟩) ⟨preW_fb, va_recv hK2 (P_right hP) (ci := 6) (q0 := 0) rfl rfl, preW_at (P_right hP) hK2 hN (D_right hD)⟩ rfl rfl hl.1 rfl (lv_room (Nat.le_of_ble_eq_true rfl)) dlaw_246 ⟨Nat.le_of_ble_eq_true rfl, Nat.le_of_ble_eq_true rfl⟩) (fun H locs hP hD hS => ?_)
        refine lv_icmp_eq (tgt := 573) hx hb dlaw_249 (by decide) (fun _ => ?_) (fun c9 => absurd rfl c9)
        exact tail I3 J3 I4 J4 hI3 H locs hP hD hS
      | 4, _ =>
        refine lv_tableIn (tgt := 254) hx hb dlaw_32 (by decide) (by decide) (off := 222) rfl (by decide) ?_
        obtain ⟨r, I3, J3, I4, J4, e1, e2, hI3⟩ := s4
        refine lv_aload_n hx hb dlaw_254 rfl (lv_at hl 1 rfl) ?_
        refine lv_aload_n hx hb dlaw_255 rfl (lv_at hl 0 rfl) ?_
        refine lv_iload_n hx hb dlaw_256 rfl (lv_at hl 3 rfl) ?_
        refine lv_iconst (v := 1) hx hb dlaw_257 (by decide) ?_
        refine lv_iadd hx hb dlaw_258 ?_
        refine va_sld hx hb hX hbl hbA hS h_1 dlaw_259 ?_
        refine lv_aload_n hx hb dlaw_260 rfl (lv_at hl 0 rfl) ?_
        refine lv_iload_n hx hb dlaw_261 rfl (lv_at hl 3 rfl) ?_
        refine lv_iconst (v := 2) hx hb dlaw_262 (by decide) ?_
        refine lv_iadd hx hb dlaw_263 ?_
        refine va_sld hx hb hX hbl hbA hS h_2 dlaw_264 ?_
        refine lv_aload_n hx hb dlaw_265 rfl (lv_at hl 0 rfl) ?_
        refine lv_iload_n hx hb dlaw_266 rfl (lv_at hl 3 rfl) ?_
        refine lv_iconst (v := 3) hx hb dlaw_267 (by decide) ?_
        refine lv_iadd hx hb dlaw_268 ?_
        refine va_sld hx hb hX hbl hbA hS h_3 dlaw_269 ?_
        refine pL_i (wf := wsF ad cI cJ cG) hP hD hS hA (va_runV (As := [.int (xs (x3 + 1).toNatClampNeg), .int (xs (x3 + 2).toNatClampNeg), .int (xs (x3 + 3).toNatClampNeg)]) (rest := []) ⟨hx, hb, hml, hown, hT⟩ (c_F_need l D ad cI cJ cG _ (xs (x3 + 1).toNatClampNeg) (xs (x3 + 2).toNatClampNeg) (xs (x3 + 3).toNatClampNeg) I J _ e1) (cwV 3 hT (gV wd_311 wd_312 wd_313 wd_51 wd_314) rfl rfl rfl (by decide +kernel) ⟨Nat.le_of_ble_eq_true rfl, Nat.le_of_ble_eq_true rfl⟩) ⟨preW_fb, va_recv hK (P_left hP) (ci := 5) (q0 := 41) rfl rfl, preW_at (P_left hP) hK hN (D_left hD)⟩ rfl rfl hl.1 rfl (lv_room (Nat.le_of_ble_eq_true rfl)) dlaw_270 ⟨Nat.le_of_ble_eq_true rfl, Nat.le_of_ble_eq_true rfl⟩) (fun H locs hP hD hS => ?_)
        refine lv_aload_n hx hb dlaw_273 rfl (lv_at hl 2 rfl) ?_
        refine lv_aload_n hx hb dlaw_274 rfl (lv_at hl 0 rfl) ?_
        refine lv_iload_n hx hb dlaw_275 rfl (lv_at hl 3 rfl) ?_
        refine lv_iconst (v := 1) hx hb dlaw_276 (by decide) ?_
        refine lv_iadd hx hb dlaw_277 ?_
        refine va_sld hx hb hX hbl hbA hS h_1 dlaw_278 ?_
        refine lv_aload_n hx hb dlaw_279 rfl (lv_at hl 0 rfl) ?_
        refine lv_iload_n hx hb dlaw_280 rfl (lv_at hl 3 rfl) ?_
        refine lv_iconst (v := 2) hx hb dlaw_281 (by decide) ?_
        refine lv_iadd hx hb dlaw_282 ?_
        refine va_sld hx hb hX hbl hbA hS h_2 dlaw_283 ?_
        refine lv_aload_n hx hb dlaw_284 rfl (lv_at hl 0 rfl) ?_
        refine lv_iload_n hx hb dlaw_285 rfl (lv_at hl 3 rfl) ?_
        refine lv_iconst (v := 3) hx hb dlaw_286 (by decide) ?_
        refine lv_iadd hx hb dlaw_287 ?_
        refine va_sld hx hb hX hbl hbA hS h_3 dlaw_288 ?_
        refine pR_i (wf := wsR ad2 cI cJ cZ) hP hD hS hA (va_runV (As := [.int (xs (x3 + 1).toNatClampNeg), .int (xs (x3 + 2).toNatClampNeg), .int (xs (x3 + 3).toNatClampNeg)]) (rest := [.int r]) ⟨hx, hb, hml, hown, hT⟩ (c_R_need l D ad2 cI cJ cZ _ (xs (x3 + 1).toNatClampNeg) (xs (x3 + 2).toNatClampNeg) (xs (x3 + 3).toNatClampNeg) I2 J2 _ e2) (cwV 3 hT (gV wd_653 wd_654 wd_655 wd_57 wd_656) rfl rfl rfl (by decide +kernel) ⟨Nat.le_of_ble_eq_true rfl, Nat.le_of_ble_eq_true rfl⟩) ⟨preW_fb, va_recv hK2 (P_right hP) (ci := 6) (q0 := 0) rfl rfl, preW_at (P_right hP) hK2 hN (D_right hD)⟩ rfl rfl hl.1 rfl (lv_room (Nat.le_of_ble_eq_true rfl)) dlaw_289 ⟨Nat.le_of_ble_eq_true rfl, Nat.le_of_ble_eq_true rfl⟩) (fun H locs hP hD hS => ?_)
        refine lv_icmp_eq (tgt := 573) hx hb dlaw_292 (by decide) (fun _ => ?_) (fun c9 => absurd rfl c9)
        exact tail I3 J3 I4 J4 hI3 H locs hP hD hS
      | 5, _ =>
        refine lv_tableIn (tgt := 297) hx hb dlaw_32 (by decide) (by decide) (off := 265) rfl (by decide) ?_
        obtain ⟨r, I3, J3, I4, J4, e1, e2, hI3⟩ := s5
        refine lv_aload_n hx hb dlaw_297 rfl (lv_at hl 1 rfl) ?_
        refine lv_aload_n hx hb dlaw_298 rfl (lv_at hl 0 rfl) ?_
        refine lv_iload_n hx hb dlaw_299 rfl (lv_at hl 3 rfl) ?_
        refine lv_iconst (v := 1) hx hb dlaw_300 (by decide) ?_
        refine lv_iadd hx hb dlaw_301 ?_
        refine va_sld hx hb hX hbl hbA hS h_1 dlaw_302 ?_
        refine lv_aload_n hx hb dlaw_303 rfl (lv_at hl 0 rfl) ?_
        refine lv_iload_n hx hb dlaw_304 rfl (lv_at hl 3 rfl) ?_
        refine lv_iconst (v := 2) hx hb dlaw_305 (by decide) ?_
        refine lv_iadd hx hb dlaw_306 ?_
        refine va_sld hx hb hX hbl hbA hS h_2 dlaw_307 ?_
        refine lv_aload_n hx hb dlaw_308 rfl (lv_at hl 0 rfl) ?_
        refine lv_iload_n hx hb dlaw_309 rfl (lv_at hl 3 rfl) ?_
        refine lv_iconst (v := 3) hx hb dlaw_310 (by decide) ?_
        refine lv_iadd hx hb dlaw_311 ?_
        refine va_sld hx hb hX hbl hbA hS h_3 dlaw_312 ?_
        refine pL_i (wf := wsF ad cI cJ cG) hP hD hS hA (va_runV (As := [.int (xs (x3 + 1).toNatClampNeg), .int (xs (x3 + 2).toNatClampNeg), .int (xs (x3 + 3).toNatClampNeg)]) (rest := []) ⟨hx, hb, hml, hown, hT⟩ (c_F_shares l D ad cI cJ cG _ (xs (x3 + 1).toNatClampNeg) (xs (x3 + 2).toNatClampNeg) (xs (x3 + 3).toNatClampNeg) I J _ e1) (cwV 3 hT (gV wd_318 wd_319 wd_320 wd_51 wd_321) rfl rfl rfl (by decide +kernel) ⟨Nat.le_of_ble_eq_true rfl, Nat.le_of_ble_eq_true rfl⟩) ⟨preW_fb, va_recv hK (P_left hP) (ci := 5) (q0 := 41) rfl rfl, preW_at (P_left hP) hK hN (D_left hD)⟩ rfl rfl hl.1 rfl (lv_room (Nat.le_of_ble_eq_true rfl)) dlaw_313 ⟨Nat.le_of_ble_eq_true rfl, Nat.le_of_ble_eq_true rfl⟩) (fun H locs hP hD hS => ?_)
        refine lv_aload_n hx hb dlaw_316 rfl (lv_at hl 2 rfl) ?_
        refine lv_aload_n hx hb dlaw_317 rfl (lv_at hl 0 rfl) ?_
        refine lv_iload_n hx hb dlaw_318 rfl (lv_at hl 3 rfl) ?_
        refine lv_iconst (v := 1) hx hb dlaw_319 (by decide) ?_
        refine lv_iadd hx hb dlaw_320 ?_
        refine va_sld hx hb hX hbl hbA hS h_1 dlaw_321 ?_
        refine lv_aload_n hx hb dlaw_322 rfl (lv_at hl 0 rfl) ?_
        refine lv_iload_n hx hb dlaw_323 rfl (lv_at hl 3 rfl) ?_
        refine lv_iconst (v := 2) hx hb dlaw_324 (by decide) ?_
        refine lv_iadd hx hb dlaw_325 ?_
        refine va_sld hx hb hX hbl hbA hS h_2 dlaw_326 ?_
        refine lv_aload_n hx hb dlaw_327 rfl (lv_at hl 0 rfl) ?_
        refine lv_iload_n hx hb dlaw_328 rfl (lv_at hl 3 rfl) ?_
        refine lv_iconst (v := 3) hx hb dlaw_329 (by decide) ?_
        refine lv_iadd hx hb dlaw_330 ?_
        refine va_sld hx hb hX hbl hbA hS h_3 dlaw_331 ?_
        refine pR_i (wf := wsR ad2 cI cJ cZ) hP hD hS hA (va_runV (As := [.int (xs (x3 + 1).toNatClampNeg), .int (xs (x3 + 2).toNatClampNeg), .int (xs (x3 + 3).toNatClampNeg)]) (rest := [.int r]) ⟨hx, hb, hml, hown, hT⟩ (c_R_shares l D ad2 cI cJ cZ _ (xs (x3 + 1).toNatClampNeg) (xs (x3 + 2).toNatClampNeg) (xs (x3 + 3).toNatClampNeg) I2 J2 _ e2) (cwV 3 hT (gV wd_657 wd_658 wd_659 wd_57 wd_660) rfl rfl rfl (by decide +kernel) ⟨Nat.le_of_ble_eq_true rfl, Nat.le_of_ble_eq_true rfl⟩) ⟨preW_fb, va_recv hK2 (P_right hP) (ci := 6) (q0 := 0) rfl rfl, preW_at (P_right hP) hK2 hN (D_right hD)⟩ rfl rfl hl.1 rfl (lv_room (Nat.le_of_ble_eq_true rfl)) dlaw_332 ⟨Nat.le_of_ble_eq_true rfl, Nat.le_of_ble_eq_true rfl⟩) (fun H locs hP hD hS => ?_)
        refine lv_icmp_eq (tgt := 573) hx hb dlaw_335 (by decide) (fun _ => ?_) (fun c9 => absurd rfl c9)
        exact tail I3 J3 I4 J4 hI3 H locs hP hD hS
      | 6, _ =>
        refine lv_tableIn (tgt := 340) hx hb dlaw_32 (by decide) (by decide) (off := 308) rfl (by decide) ?_
        obtain ⟨r, I3, J3, I4, J4, e1, e2, hI3⟩ := s6
        refine lv_aload_n hx hb dlaw_340 rfl (lv_at hl 1 rfl) ?_
        refine lv_aload_n hx hb dlaw_341 rfl (lv_at hl 0 rfl) ?_
        refine lv_iload_n hx hb dlaw_342 rfl (lv_at hl 3 rfl) ?_
        refine lv_iconst (v := 1) hx hb dlaw_343 (by decide) ?_
        refine lv_iadd hx hb dlaw_344 ?_
        refine va_sld hx hb hX hbl hbA hS h_1 dlaw_345 ?_
        refine lv_aload_n hx hb dlaw_346 rfl (lv_at hl 0 rfl) ?_
        refine lv_iload_n hx hb dlaw_347 rfl (lv_at hl 3 rfl) ?_
        refine lv_iconst (v := 2) hx hb dlaw_348 (by decide) ?_
        refine lv_iadd hx hb dlaw_349 ?_
        refine va_sld hx hb hX hbl hbA hS h_2 dlaw_350 ?_
        refine pL_i (wf := wsF ad cI cJ cG) hP hD hS hA (va_runV (As := [.int (xs (x3 + 1).toNatClampNeg), .int (xs (x3 + 2).toNatClampNeg)]) (rest := []) ⟨hx, hb, hml, hown, hT⟩ (c_F_silo l D ad cI cJ cG _ (xs (x3 + 1).toNatClampNeg) (xs (x3 + 2).toNatClampNeg) I J _ e1) (cwV 2 hT (gV wd_322 wd_323 wd_324 wd_51 wd_325) rfl rfl rfl (by decide +kernel) ⟨Nat.le_of_ble_eq_true rfl, Nat.le_of_ble_eq_true rfl⟩) ⟨preW_fb, va_recv hK (P_left hP) (ci := 5) (q0 := 41) rfl rfl, preW_at (P_left hP) hK hN (D_left hD)⟩ rfl rfl hl.1 rfl (lv_room (Nat.le_of_ble_eq_true rfl)) dlaw_351 ⟨Nat.le_of_ble_eq_true rfl, Nat.le_of_ble_eq_true rfl⟩) (fun H locs hP hD hS => ?_)
        refine lv_aload_n hx hb dlaw_354 rfl (lv_at hl 2 rfl) ?_
        refine lv_aload_n hx hb dlaw_355 rfl (lv_at hl 0 rfl) ?_
        refine lv_iload_n hx hb dlaw_356 rfl (lv_at hl 3 rfl) ?_
        refine lv_iconst (v := 1) hx hb dlaw_357 (by decide) ?_
        refine lv_iadd hx hb dlaw_358 ?_
        refine va_sld hx hb hX hbl hbA hS h_1 dlaw_359 ?_
        refine lv_aload_n hx hb dlaw_360 rfl (lv_at hl 0 rfl) ?_
        refine lv_iload_n hx hb dlaw_361 rfl (lv_at hl 3 rfl) ?_
        refine lv_iconst (v := 2) hx hb dlaw_362 (by decide) ?_
        refine lv_iadd hx hb dlaw_363 ?_
        refine va_sld hx hb hX hbl hbA hS h_2 dlaw_364 ?_
        refine pR_i (wf := wsR ad2 cI cJ cZ) hP hD hS hA (va_runV (As := [.int (xs (x3 + 1).toNatClampNeg), .int (xs (x3 + 2).toNatClampNeg)]) (rest := [.int r]) ⟨hx, hb, hml, hown, hT⟩ (c_R_silo l D ad2 cI cJ cZ _ (xs (x3 + 1).toNatClampNeg) (xs (x3 + 2).toNatClampNeg) I2 J2 _ e2) (cwV 2 hT (gV wd_661 wd_662 wd_663 wd_57 wd_664) rfl rfl rfl (by decide +kernel) ⟨Nat.le_of_ble_eq_true rfl, Nat.le_of_ble_eq_true rfl⟩) ⟨preW_fb, va_recv hK2 (P_right hP) (ci := 6) (q0 := 0) rfl rfl, preW_at (P_right hP) hK2 hN (D_right hD)⟩ rfl rfl hl.1 rfl (lv_room (Nat.le_of_ble_eq_true rfl)) dlaw_365 ⟨Nat.le_of_ble_eq_true rfl, Nat.le_of_ble_eq_true rfl⟩) (fun H locs hP hD hS => ?_)
        refine lv_icmp_eq (tgt := 573) hx hb dlaw_368 (by decide) (fun _ => ?_) (fun c9 => absurd rfl c9)
        exact tail I3 J3 I4 J4 hI3 H locs hP hD hS
      | 7, _ =>
        refine lv_tableIn (tgt := 373) hx hb dlaw_32 (by decide) (by decide) (off := 341) rfl (by decide) ?_
        obtain ⟨r, I3, J3, I4, J4, e1, e2, hI3⟩ := s7
        refine lv_aload_n hx hb dlaw_373 rfl (lv_at hl 1 rfl) ?_
        refine lv_aload_n hx hb dlaw_374 rfl (lv_at hl 0 rfl) ?_
        refine lv_iload_n hx hb dlaw_375 rfl (lv_at hl 3 rfl) ?_
        refine lv_iconst (v := 1) hx hb dlaw_376 (by decide) ?_
        refine lv_iadd hx hb dlaw_377 ?_
        refine va_sld hx hb hX hbl hbA hS h_1 dlaw_378 ?_
        refine pL_i (wf := wsF ad cI cJ cG) hP hD hS hA (va_runV (As := [.int (xs (x3 + 1).toNatClampNeg)]) (rest := []) ⟨hx, hb, hml, hown, hT⟩ (c_F_run l D ad cI cJ cG _ (xs (x3 + 1).toNatClampNeg) I J _ e1) (cwV 1 hT (gV wd_326 wd_327 wd_328 wd_51 wd_329) rfl rfl rfl (by decide +kernel) ⟨Nat.le_of_ble_eq_true rfl, Nat.le_of_ble_eq_true rfl⟩) ⟨preW_fb, va_recv hK (P_left hP) (ci := 5) (q0 := 41) rfl rfl, preW_at (P_left hP) hK hN (D_left hD)⟩ rfl rfl hl.1 rfl (lv_room (Nat.le_of_ble_eq_true rfl)) dlaw_379 ⟨Nat.le_of_ble_eq_true rfl, Nat.le_of_ble_eq_true rfl⟩) (fun H locs hP hD hS => ?_)
        refine lv_aload_n hx hb dlaw_382 rfl (lv_at hl 2 rfl) ?_
        refine lv_aload_n hx hb dlaw_383 rfl (lv_at hl 0 rfl) ?_
        refine lv_iload_n hx hb dlaw_384 rfl (lv_at hl 3 rfl) ?_
        refine lv_iconst (v := 1) hx hb dlaw_385 (by decide) ?_
        refine lv_iadd hx hb dlaw_386 ?_
        refine va_sld hx hb hX hbl hbA hS h_1 dlaw_387 ?_
        refine pR_i (wf := wsR ad2 cI cJ cZ) hP hD hS hA (va_runV (As := [.int (xs (x3 + 1).toNatClampNeg)]) (rest := [.int r]) ⟨hx, hb, hml, hown, hT⟩ (c_R_run l D ad2 cI cJ cZ _ (xs (x3 + 1).toNatClampNeg) I2 J2 _ e2) (cwV 1 hT (gV wd_665 wd_666 wd_667 wd_57 wd_668) rfl rfl rfl (by decide +kernel) ⟨Nat.le_of_ble_eq_true rfl, Nat.le_of_ble_eq_true rfl⟩) ⟨preW_fb, va_recv hK2 (P_right hP) (ci := 6) (q0 := 0) rfl rfl, preW_at (P_right hP) hK2 hN (D_right hD)⟩ rfl rfl hl.1 rfl (lv_room (Nat.le_of_ble_eq_true rfl)) dlaw_388 ⟨Nat.le_of_ble_eq_true rfl, Nat.le_of_ble_eq_true rfl⟩) (fun H locs hP hD hS => ?_)
        refine lv_icmp_eq (tgt := 573) hx hb dlaw_391 (by decide) (fun _ => ?_) (fun c9 => absurd rfl c9)
        exact tail I3 J3 I4 J4 hI3 H locs hP hD hS
      | 8, _ =>
        refine lv_tableIn (tgt := 396) hx hb dlaw_32 (by decide) (by decide) (off := 364) rfl (by decide) ?_
        obtain ⟨r, I3, J3, I4, J4, e1, e2, hI3⟩ := s8
        refine lv_aload_n hx hb dlaw_396 rfl (lv_at hl 1 rfl) ?_
        refine lv_aload_n hx hb dlaw_397 rfl (lv_at hl 0 rfl) ?_
        refine lv_iload_n hx hb dlaw_398 rfl (lv_at hl 3 rfl) ?_
        refine lv_iconst (v := 1) hx hb dlaw_399 (by decide) ?_
        refine lv_iadd hx hb dlaw_400 ?_
        refine va_sld hx hb hX hbl hbA hS h_1 dlaw_401 ?_
        refine lv_aload_n hx hb dlaw_402 rfl (lv_at hl 0 rfl) ?_
        refine lv_iload_n hx hb dlaw_403 rfl (lv_at hl 3 rfl) ?_
        refine lv_iconst (v := 2) hx hb dlaw_404 (by decide) ?_
        refine lv_iadd hx hb dlaw_405 ?_
        refine va_sld hx hb hX hbl hbA hS h_2 dlaw_406 ?_
        refine pL_l (wf := wsF ad cI cJ cG) hP hD hS hA (va_runV (As := [.int (xs (x3 + 1).toNatClampNeg), .int (xs (x3 + 2).toNatClampNeg)]) (rest := []) ⟨hx, hb, hml, hown, hT⟩ (c_F_amount l D ad cI cJ cG _ (xs (x3 + 1).toNatClampNeg) (xs (x3 + 2).toNatClampNeg) I J _ e1) (cwV 2 hT (gV wd_488 wd_489 wd_490 wd_51 wd_491) rfl rfl rfl (by decide +kernel) ⟨Nat.le_of_ble_eq_true rfl, Nat.le_of_ble_eq_true rfl⟩) ⟨preW_fb, va_recv hK (P_left hP) (ci := 5) (q0 := 41) rfl rfl, preW_at (P_left hP) hK hN (D_left hD)⟩ rfl rfl hl.1 rfl (lv_room (Nat.le_of_ble_eq_true rfl)) dlaw_407 ⟨Nat.le_of_ble_eq_true rfl, Nat.le_of_ble_eq_true rfl⟩) (fun H locs hP hD hS => ?_)
        refine lv_aload_n hx hb dlaw_410 rfl (lv_at hl 2 rfl) ?_
        refine lv_aload_n hx hb dlaw_411 rfl (lv_at hl 0 rfl) ?_
        refine lv_iload_n hx hb dlaw_412 rfl (lv_at hl 3 rfl) ?_
        refine lv_iconst (v := 1) hx hb dlaw_413 (by decide) ?_
        refine lv_iadd hx hb dlaw_414 ?_
        refine va_sld hx hb hX hbl hbA hS h_1 dlaw_415 ?_
        refine lv_aload_n hx hb dlaw_416 rfl (lv_at hl 0 rfl) ?_
        refine lv_iload_n hx hb dlaw_417 rfl (lv_at hl 3 rfl) ?_
        refine lv_iconst (v := 2) hx hb dlaw_418 (by decide) ?_
        refine lv_iadd hx hb dlaw_419 ?_
        refine va_sld hx hb hX hbl hbA hS h_2 dlaw_420 ?_
        refine pR_l (wf := wsR ad2 cI cJ cZ) hP hD hS hA (va_runV (As := [.int (xs (x3 + 1).toNatClampNeg), .int (xs (x3 + 2).toNatClampNeg)]) (rest := [.long r]) ⟨hx, hb, hml, hown, hT⟩ (c_R_amount l D ad2 cI cJ cZ _ (xs (x3 + 1).toNatClampNeg) (xs (x3 + 2).toNatClampNeg) I2 J2 _ e2) (cwV 2 hT (gV wd_745 wd_746 wd_747 wd_57 wd_748) rfl rfl rfl (by decide +kernel) ⟨Nat.le_of_ble_eq_true rfl, Nat.le_of_ble_eq_true rfl⟩) ⟨preW_fb, va_recv hK2 (P_right hP) (ci := 6) (q0 := 0) rfl rfl, preW_at (P_right hP) hK2 hN (D_right hD)⟩ rfl rfl hl.1 rfl (lv_room (Nat.le_of_ble_eq_true rfl)) dlaw_421 ⟨Nat.le_of_ble_eq_true rfl, Nat.le_of_ble_eq_true rfl⟩) (fun H locs hP hD hS => ?_)
        refine W.lcmp hx hb dlaw_424 ?_
        refine lv_if_eq (tgt := 573) hx hb dlaw_425 (by decide) (fun _ => ?_) (fun c9 => absurd (lg_self r) c9)
        exact tail I3 J3 I4 J4 hI3 H locs hP hD hS
      | 9, _ =>
        refine lv_tableIn (tgt := 430) hx hb dlaw_32 (by decide) (by decide) (off := 398) rfl (by decide) ?_
        obtain ⟨r, I3, J3, I4, J4, e1, e2, hI3⟩ := s9
        refine lv_aload_n hx hb dlaw_430 rfl (lv_at hl 1 rfl) ?_
        refine lv_aload_n hx hb dlaw_431 rfl (lv_at hl 0 rfl) ?_
        refine lv_iload_n hx hb dlaw_432 rfl (lv_at hl 3 rfl) ?_
        refine lv_iconst (v := 1) hx hb dlaw_433 (by decide) ?_
        refine lv_iadd hx hb dlaw_434 ?_
        refine va_sld hx hb hX hbl hbA hS h_1 dlaw_435 ?_
        refine pL_l (wf := wsF ad cI cJ cG) hP hD hS hA (va_runV (As := [.int (xs (x3 + 1).toNatClampNeg)]) (rest := []) ⟨hx, hb, hml, hown, hT⟩ (c_F_cost l D ad cI cJ cG _ (xs (x3 + 1).toNatClampNeg) I J _ e1) (cwV 1 hT (gV wd_500 wd_501 wd_502 wd_51 wd_503) rfl rfl rfl (by decide +kernel) ⟨Nat.le_of_ble_eq_true rfl, Nat.le_of_ble_eq_true rfl⟩) ⟨preW_fb, va_recv hK (P_left hP) (ci := 5) (q0 := 41) rfl rfl, preW_at (P_left hP) hK hN (D_left hD)⟩ rfl rfl hl.1 rfl (lv_room (Nat.le_of_ble_eq_true rfl)) dlaw_436 ⟨Nat.le_of_ble_eq_true rfl, Nat.le_of_ble_eq_true rfl⟩) (fun H locs hP hD hS => ?_)
        refine lv_aload_n hx hb dlaw_439 rfl (lv_at hl 2 rfl) ?_
        refine lv_aload_n hx hb dlaw_440 rfl (lv_at hl 0 rfl) ?_
        refine lv_iload_n hx hb dlaw_441 rfl (lv_at hl 3 rfl) ?_
        refine lv_iconst (v := 1) hx hb dlaw_442 (by decide) ?_
        refine lv_iadd hx hb dlaw_443 ?_
        refine va_sld hx hb hX hbl hbA hS h_1 dlaw_444 ?_
        refine pR_l (wf := wsR ad2 cI cJ cZ) hP hD hS hA (va_runV (As := [.int (xs (x3 + 1).toNatClampNeg)]) (rest := [.long r]) ⟨hx, hb, hml, hown, hT⟩ (c_R_cost l D ad2 cI cJ cZ _ (xs (x3 + 1).toNatClampNeg) I2 J2 _ e2) (cwV 1 hT (gV wd_749 wd_750 wd_751 wd_57 wd_752) rfl rfl rfl (by decide +kernel) ⟨Nat.le_of_ble_eq_true rfl, Nat.le_of_ble_eq_true rfl⟩) ⟨preW_fb, va_recv hK2 (P_right hP) (ci := 6) (q0 := 0) rfl rfl, preW_at (P_right hP) hK2 hN (D_right hD)⟩ rfl rfl hl.1 rfl (lv_room (Nat.le_of_ble_eq_true rfl)) dlaw_445 ⟨Nat.le_of_ble_eq_true rfl, Nat.le_of_ble_eq_true rfl⟩) (fun H locs hP hD hS => ?_)
        refine W.lcmp hx hb dlaw_448 ?_
        refine lv_if_eq (tgt := 573) hx hb dlaw_449 (by decide) (fun _ => ?_) (fun c9 => absurd (lg_self r) c9)
        exact tail I3 J3 I4 J4 hI3 H locs hP hD hS
      | 10, _ =>
        refine lv_tableIn (tgt := 454) hx hb dlaw_32 (by decide) (by decide) (off := 422) rfl (by decide) ?_
        obtain ⟨r, I3, J3, I4, J4, e1, e2, hI3⟩ := s10
        refine lv_aload_n hx hb dlaw_454 rfl (lv_at hl 1 rfl) ?_
        refine pL_i (wf := wsF ad cI cJ cG) hP hD hS hA (va_runV (As := []) (rest := []) ⟨hx, hb, hml, hown, hT⟩ (c_F_tight l D ad cI cJ cG _  I J _ e1) (cwV 0 hT (gV wd_504 wd_505 wd_506 wd_51 wd_507) rfl rfl rfl (by decide +kernel) ⟨Nat.le_of_ble_eq_true rfl, Nat.le_of_ble_eq_true rfl⟩) ⟨preW_fb, va_recv hK (P_left hP) (ci := 5) (q0 := 41) rfl rfl, preW_at (P_left hP) hK hN (D_left hD)⟩ rfl rfl hl.1 rfl (lv_room (Nat.le_of_ble_eq_true rfl)) dlaw_455 ⟨Nat.le_of_ble_eq_true rfl, Nat.le_of_ble_eq_true rfl⟩) (fun H locs hP hD hS => ?_)
        refine lv_aload_n hx hb dlaw_458 rfl (lv_at hl 2 rfl) ?_
        refine pR_i (wf := wsR ad2 cI cJ cZ) hP hD hS hA (va_runV (As := []) (rest := [.int r]) ⟨hx, hb, hml, hown, hT⟩ (c_R_tight l D ad2 cI cJ cZ _  I2 J2 _ e2) (cwV 0 hT (gV wd_753 wd_754 wd_755 wd_57 wd_756) rfl rfl rfl (by decide +kernel) ⟨Nat.le_of_ble_eq_true rfl, Nat.le_of_ble_eq_true rfl⟩) ⟨preW_fb, va_recv hK2 (P_right hP) (ci := 6) (q0 := 0) rfl rfl, preW_at (P_right hP) hK2 hN (D_right hD)⟩ rfl rfl hl.1 rfl (lv_room (Nat.le_of_ble_eq_true rfl)) dlaw_459 ⟨Nat.le_of_ble_eq_true rfl, Nat.le_of_ble_eq_true rfl⟩) (fun H locs hP hD hS => ?_)
        refine lv_icmp_eq (tgt := 573) hx hb dlaw_462 (by decide) (fun _ => ?_) (fun c9 => absurd rfl c9)
        exact tail I3 J3 I4 J4 hI3 H locs hP hD hS
      | 11, _ =>
        refine lv_tableIn (tgt := 467) hx hb dlaw_32 (by decide) (by decide) (off := 435) rfl (by decide) ?_
        obtain ⟨r, I3, J3, I4, J4, e1, e2, hI3⟩ := s11
        refine lv_aload_n hx hb dlaw_467 rfl (lv_at hl 1 rfl) ?_
        refine lv_aload_n hx hb dlaw_468 rfl (lv_at hl 0 rfl) ?_
        refine lv_iload_n hx hb dlaw_469 rfl (lv_at hl 3 rfl) ?_
        refine lv_iconst (v := 1) hx hb dlaw_470 (by decide) ?_
        refine lv_iadd hx hb dlaw_471 ?_
        refine va_sld hx hb hX hbl hbA hS h_1 dlaw_472 ?_
        refine pL_i (wf := wsF ad cI cJ cG) hP hD hS hA (va_runV (As := [.int (xs (x3 + 1).toNatClampNeg)]) (rest := []) ⟨hx, hb, hml, hown, hT⟩ (c_F_clash l D ad cI cJ cG _ (xs (x3 + 1).toNatClampNeg) I J _ e1) (cwV 1 hT (gV wd_508 wd_509 wd_510 wd_51 wd_511) rfl rfl rfl (by decide +kernel) ⟨Nat.le_of_ble_eq_true rfl, Nat.le_of_ble_eq_true rfl⟩) ⟨preW_fb, va_recv hK (P_left hP) (ci := 5) (q0 := 41) rfl rfl, preW_at (P_left hP) hK hN (D_left hD)⟩ rfl rfl hl.1 rfl (lv_room (Nat.le_of_ble_eq_true rfl)) dlaw_473 ⟨Nat.le_of_ble_eq_true rfl, Nat.le_of_ble_eq_true rfl⟩) (fun H locs hP hD hS => ?_)
        refine lv_aload_n hx hb dlaw_476 rfl (lv_at hl 2 rfl) ?_
        refine lv_aload_n hx hb dlaw_477 rfl (lv_at hl 0 rfl) ?_
        refine lv_iload_n hx hb dlaw_478 rfl (lv_at hl 3 rfl) ?_
        refine lv_iconst (v := 1) hx hb dlaw_479 (by decide) ?_
        refine lv_iadd hx hb dlaw_480 ?_
        refine va_sld hx hb hX hbl hbA hS h_1 dlaw_481 ?_
        refine pR_i (wf := wsR ad2 cI cJ cZ) hP hD hS hA (va_runV (As := [.int (xs (x3 + 1).toNatClampNeg)]) (rest := [.int r]) ⟨hx, hb, hml, hown, hT⟩ (c_R_clash l D ad2 cI cJ cZ _ (xs (x3 + 1).toNatClampNeg) I2 J2 _ e2) (cwV 1 hT (gV wd_757 wd_758 wd_759 wd_57 wd_760) rfl rfl rfl (by decide +kernel) ⟨Nat.le_of_ble_eq_true rfl, Nat.le_of_ble_eq_true rfl⟩) ⟨preW_fb, va_recv hK2 (P_right hP) (ci := 6) (q0 := 0) rfl rfl, preW_at (P_right hP) hK2 hN (D_right hD)⟩ rfl rfl hl.1 rfl (lv_room (Nat.le_of_ble_eq_true rfl)) dlaw_482 ⟨Nat.le_of_ble_eq_true rfl, Nat.le_of_ble_eq_true rfl⟩) (fun H locs hP hD hS => ?_)
        refine lv_icmp_eq (tgt := 573) hx hb dlaw_485 (by decide) (fun _ => ?_) (fun c9 => absurd rfl c9)
        exact tail I3 J3 I4 J4 hI3 H locs hP hD hS
      | 12, _ =>
        refine lv_tableIn (tgt := 490) hx hb dlaw_32 (by decide) (by decide) (off := 458) rfl (by decide) ?_
        obtain ⟨r, I3, J3, I4, J4, e1, e2, hI3⟩ := s12
        refine lv_aload_n hx hb dlaw_490 rfl (lv_at hl 1 rfl) ?_
        refine lv_aload_n hx hb dlaw_491 rfl (lv_at hl 0 rfl) ?_
        refine lv_iload_n hx hb dlaw_492 rfl (lv_at hl 3 rfl) ?_
        refine lv_iconst (v := 1) hx hb dlaw_493 (by decide) ?_
        refine lv_iadd hx hb dlaw_494 ?_
        refine va_sld hx hb hX hbl hbA hS h_1 dlaw_495 ?_
        refine lv_aload_n hx hb dlaw_496 rfl (lv_at hl 0 rfl) ?_
        refine lv_iload_n hx hb dlaw_497 rfl (lv_at hl 3 rfl) ?_
        refine lv_iconst (v := 2) hx hb dlaw_498 (by decide) ?_
        refine lv_iadd hx hb dlaw_499 ?_
        refine va_sld hx hb hX hbl hbA hS h_2 dlaw_500 ?_
        refine pL_l (wf := wsF ad cI cJ cG) hP hD hS hA (va_runV (As := [.int (xs (x3 + 1).toNatClampNeg), .int (xs (x3 + 2).toNatClampNeg)]) (rest := []) ⟨hx, hb, hml, hown, hT⟩ (c_F_dearer l D ad cI cJ cG _ (xs (x3 + 1).toNatClampNeg) (xs (x3 + 2).toNatClampNeg) I J _ e1) (cwV 2 hT (gV wd_513 wd_514 wd_515 wd_51 wd_516) rfl rfl rfl (by decide +kernel) ⟨Nat.le_of_ble_eq_true rfl, Nat.le_of_ble_eq_true rfl⟩) ⟨preW_fb, va_recv hK (P_left hP) (ci := 5) (q0 := 41) rfl rfl, preW_at (P_left hP) hK hN (D_left hD)⟩ rfl rfl hl.1 rfl (lv_room (Nat.le_of_ble_eq_true rfl)) dlaw_501 ⟨Nat.le_of_ble_eq_true rfl, Nat.le_of_ble_eq_true rfl⟩) (fun H locs hP hD hS => ?_)
        refine lv_aload_n hx hb dlaw_504 rfl (lv_at hl 2 rfl) ?_
        refine lv_aload_n hx hb dlaw_505 rfl (lv_at hl 0 rfl) ?_
        refine lv_iload_n hx hb dlaw_506 rfl (lv_at hl 3 rfl) ?_
        refine lv_iconst (v := 1) hx hb dlaw_507 (by decide) ?_
        refine lv_iadd hx hb dlaw_508 ?_
        refine va_sld hx hb hX hbl hbA hS h_1 dlaw_509 ?_
        refine lv_aload_n hx hb dlaw_510 rfl (lv_at hl 0 rfl) ?_
        refine lv_iload_n hx hb dlaw_511 rfl (lv_at hl 3 rfl) ?_
        refine lv_iconst (v := 2) hx hb dlaw_512 (by decide) ?_
        refine lv_iadd hx hb dlaw_513 ?_
        refine va_sld hx hb hX hbl hbA hS h_2 dlaw_514 ?_
        refine pR_l (wf := wsR ad2 cI cJ cZ) hP hD hS hA (va_runV (As := [.int (xs (x3 + 1).toNatClampNeg), .int (xs (x3 + 2).toNatClampNeg)]) (rest := [.long r]) ⟨hx, hb, hml, hown, hT⟩ (c_R_dearer l D ad2 cI cJ cZ _ (xs (x3 + 1).toNatClampNeg) (xs (x3 + 2).toNatClampNeg) I2 J2 _ e2) (cwV 2 hT (gV wd_761 wd_762 wd_763 wd_57 wd_764) rfl rfl rfl (by decide +kernel) ⟨Nat.le_of_ble_eq_true rfl, Nat.le_of_ble_eq_true rfl⟩) ⟨preW_fb, va_recv hK2 (P_right hP) (ci := 6) (q0 := 0) rfl rfl, preW_at (P_right hP) hK2 hN (D_right hD)⟩ rfl rfl hl.1 rfl (lv_room (Nat.le_of_ble_eq_true rfl)) dlaw_515 ⟨Nat.le_of_ble_eq_true rfl, Nat.le_of_ble_eq_true rfl⟩) (fun H locs hP hD hS => ?_)
        refine W.lcmp hx hb dlaw_518 ?_
        refine lv_if_eq (tgt := 573) hx hb dlaw_519 (by decide) (fun _ => ?_) (fun c9 => absurd (lg_self r) c9)
        exact tail I3 J3 I4 J4 hI3 H locs hP hD hS
      | 13, _ =>
        refine lv_tableIn (tgt := 524) hx hb dlaw_32 (by decide) (by decide) (off := 492) rfl (by decide) ?_
        obtain ⟨r, I3, J3, I4, J4, e1, e2, hI3⟩ := s13
        refine lv_aload_n hx hb dlaw_524 rfl (lv_at hl 1 rfl) ?_
        refine lv_aload_n hx hb dlaw_525 rfl (lv_at hl 0 rfl) ?_
        refine lv_iload_n hx hb dlaw_526 rfl (lv_at hl 3 rfl) ?_
        refine lv_iconst (v := 1) hx hb dlaw_527 (by decide) ?_
        refine lv_iadd hx hb dlaw_528 ?_
        refine va_sld hx hb hX hbl hbA hS h_1 dlaw_529 ?_
        refine pL_i (wf := wsF ad cI cJ cG) hP hD hS hA (va_runV (As := [.int (xs (x3 + 1).toNatClampNeg)]) (rest := []) ⟨hx, hb, hml, hown, hT⟩ (c_F_line l D ad cI cJ cG _ (xs (x3 + 1).toNatClampNeg) I J _ e1) (cwV 1 hT (gV wd_517 wd_518 wd_519 wd_51 wd_520) rfl rfl rfl (by decide +kernel) ⟨Nat.le_of_ble_eq_true rfl, Nat.le_of_ble_eq_true rfl⟩) ⟨preW_fb, va_recv hK (P_left hP) (ci := 5) (q0 := 41) rfl rfl, preW_at (P_left hP) hK hN (D_left hD)⟩ rfl rfl hl.1 rfl (lv_room (Nat.le_of_ble_eq_true rfl)) dlaw_530 ⟨Nat.le_of_ble_eq_true rfl, Nat.le_of_ble_eq_true rfl⟩) (fun H locs hP hD hS => ?_)
        refine lv_aload_n hx hb dlaw_533 rfl (lv_at hl 2 rfl) ?_
        refine lv_aload_n hx hb dlaw_534 rfl (lv_at hl 0 rfl) ?_
        refine lv_iload_n hx hb dlaw_535 rfl (lv_at hl 3 rfl) ?_
        refine lv_iconst (v := 1) hx hb dlaw_536 (by decide) ?_
        refine lv_iadd hx hb dlaw_537 ?_
        refine va_sld hx hb hX hbl hbA hS h_1 dlaw_538 ?_
        refine pR_i (wf := wsR ad2 cI cJ cZ) hP hD hS hA (va_runV (As := [.int (xs (x3 + 1).toNatClampNeg)]) (rest := [.int r]) ⟨hx, hb, hml, hown, hT⟩ (c_R_line l D ad2 cI cJ cZ _ (xs (x3 + 1).toNatClampNeg) I2 J2 _ e2) (cwV 1 hT (gV wd_765 wd_766 wd_767 wd_57 wd_768) rfl rfl rfl (by decide +kernel) ⟨Nat.le_of_ble_eq_true rfl, Nat.le_of_ble_eq_true rfl⟩) ⟨preW_fb, va_recv hK2 (P_right hP) (ci := 6) (q0 := 0) rfl rfl, preW_at (P_right hP) hK2 hN (D_right hD)⟩ rfl rfl hl.1 rfl (lv_room (Nat.le_of_ble_eq_true rfl)) dlaw_539 ⟨Nat.le_of_ble_eq_true rfl, Nat.le_of_ble_eq_true rfl⟩) (fun H locs hP hD hS => ?_)
        refine lv_icmp_eq (tgt := 573) hx hb dlaw_542 (by decide) (fun _ => ?_) (fun c9 => absurd rfl c9)
        exact tail I3 J3 I4 J4 hI3 H locs hP hD hS
      | 14, _ =>
        refine lv_tableIn (tgt := 547) hx hb dlaw_32 (by decide) (by decide) (off := 515) rfl (by decide) ?_
        obtain ⟨r, I3, J3, I4, J4, e1, e2, hI3⟩ := s14
        refine lv_aload_n hx hb dlaw_547 rfl (lv_at hl 1 rfl) ?_
        refine pL_i (wf := wsF ad cI cJ cG) hP hD hS hA (va_runV (As := []) (rest := []) ⟨hx, hb, hml, hown, hT⟩ (c_F_clean l D ad cI cJ cG _  I J _ e1) (cwV 0 hT (gV wd_521 wd_522 wd_523 wd_51 wd_524) rfl rfl rfl (by decide +kernel) ⟨Nat.le_of_ble_eq_true rfl, Nat.le_of_ble_eq_true rfl⟩) ⟨preW_fb, va_recv hK (P_left hP) (ci := 5) (q0 := 41) rfl rfl, preW_at (P_left hP) hK hN (D_left hD)⟩ rfl rfl hl.1 rfl (lv_room (Nat.le_of_ble_eq_true rfl)) dlaw_548 ⟨Nat.le_of_ble_eq_true rfl, Nat.le_of_ble_eq_true rfl⟩) (fun H locs hP hD hS => ?_)
        refine lv_aload_n hx hb dlaw_551 rfl (lv_at hl 2 rfl) ?_
        refine pR_i (wf := wsR ad2 cI cJ cZ) hP hD hS hA (va_runV (As := []) (rest := [.int r]) ⟨hx, hb, hml, hown, hT⟩ (c_R_clean l D ad2 cI cJ cZ _  I2 J2 _ e2) (cwV 0 hT (gV wd_769 wd_770 wd_771 wd_57 wd_772) rfl rfl rfl (by decide +kernel) ⟨Nat.le_of_ble_eq_true rfl, Nat.le_of_ble_eq_true rfl⟩) ⟨preW_fb, va_recv hK2 (P_right hP) (ci := 6) (q0 := 0) rfl rfl, preW_at (P_right hP) hK2 hN (D_right hD)⟩ rfl rfl hl.1 rfl (lv_room (Nat.le_of_ble_eq_true rfl)) dlaw_552 ⟨Nat.le_of_ble_eq_true rfl, Nat.le_of_ble_eq_true rfl⟩) (fun H locs hP hD hS => ?_)
        refine lv_icmp_eq (tgt := 573) hx hb dlaw_555 (by decide) (fun _ => ?_) (fun c9 => absurd rfl c9)
        exact tail I3 J3 I4 J4 hI3 H locs hP hD hS
      | 15, _ =>
        refine lv_tableIn (tgt := 560) hx hb dlaw_32 (by decide) (by decide) (off := 528) rfl (by decide) ?_
        obtain ⟨r, I3, J3, I4, J4, e1, e2, hI3⟩ := s15
        refine lv_aload_n hx hb dlaw_560 rfl (lv_at hl 1 rfl) ?_
        refine pL_i (wf := wsF ad cI cJ cG) hP hD hS hA (va_runV (As := []) (rest := []) ⟨hx, hb, hml, hown, hT⟩ (c_F_made l D ad cI cJ cG _  I J _ e1) (cwV 0 hT (gV wd_525 wd_526 wd_527 wd_51 wd_528) rfl rfl rfl (by decide +kernel) ⟨Nat.le_of_ble_eq_true rfl, Nat.le_of_ble_eq_true rfl⟩) ⟨preW_fb, va_recv hK (P_left hP) (ci := 5) (q0 := 41) rfl rfl, preW_at (P_left hP) hK hN (D_left hD)⟩ rfl rfl hl.1 rfl (lv_room (Nat.le_of_ble_eq_true rfl)) dlaw_561 ⟨Nat.le_of_ble_eq_true rfl, Nat.le_of_ble_eq_true rfl⟩) (fun H locs hP hD hS => ?_)
        refine lv_aload_n hx hb dlaw_564 rfl (lv_at hl 2 rfl) ?_
        refine pR_i (wf := wsR ad2 cI cJ cZ) hP hD hS hA (va_runV (As := []) (rest := [.int r]) ⟨hx, hb, hml, hown, hT⟩ (c_R_made l D ad2 cI cJ cZ _  I2 J2 _ e2) (cwV 0 hT (gV wd_773 wd_774 wd_775 wd_57 wd_776) rfl rfl rfl (by decide +kernel) ⟨Nat.le_of_ble_eq_true rfl, Nat.le_of_ble_eq_true rfl⟩) ⟨preW_fb, va_recv hK2 (P_right hP) (ci := 6) (q0 := 0) rfl rfl, preW_at (P_right hP) hK2 hN (D_right hD)⟩ rfl rfl hl.1 rfl (lv_room (Nat.le_of_ble_eq_true rfl)) dlaw_565 ⟨Nat.le_of_ble_eq_true rfl, Nat.le_of_ble_eq_true rfl⟩) (fun H locs hP hD hS => ?_)
        refine lv_icmp_eq (tgt := 573) hx hb dlaw_568 (by decide) (fun _ => ?_) (fun c9 => absurd rfl c9)
        exact tail I3 J3 I4 J4 hI3 H locs hP hD hS
      | o + 16, ho => exact absurd ho (by omega)
