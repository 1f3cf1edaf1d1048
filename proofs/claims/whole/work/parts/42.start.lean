theorem wd_60 : Cond.classLink RW 7 RF ∈ gtb := gtb_in (i := 60) (by decide +kernel) (by decide +kernel)
theorem wd_61 : Cond.instantiable RF 12 ∈ gtb := gtb_in (i := 61) (by decide +kernel) (by decide +kernel)
theorem wd_62 : Cond.methodLink RW 9 yF_init ∈ gtb := gtb_in (i := 62) (by decide +kernel) (by decide +kernel)
theorem wd_63 : Cond.instanceMethod yF_init ∈ gtb := gtb_in (i := 63) (by decide +kernel) (by decide +kernel)
set_option maxRecDepth 100000 in
theorem wd_64 : Cond.code yF_init bF_init 1 none ∈ gtb := gtb_in (i := 64) rfl (by decide +kernel)
theorem wd_529 : Cond.classLink RW 10 RR ∈ gtb := gtb_in (i := 529) (by decide +kernel) (by decide +kernel)
theorem wd_530 : Cond.instantiable RR 31 ∈ gtb := gtb_in (i := 530) (by decide +kernel) (by decide +kernel)
theorem wd_531 : Cond.methodLink RW 12 yR_init ∈ gtb := gtb_in (i := 531) (by decide +kernel) (by decide +kernel)
theorem wd_532 : Cond.instanceMethod yR_init ∈ gtb := gtb_in (i := 532) (by decide +kernel) (by decide +kernel)
set_option maxRecDepth 100000 in
theorem wd_533 : Cond.code yR_init bR_init 2 none ∈ gtb := gtb_in (i := 533) rfl (by decide +kernel)
def I0F : SI := fun k => if k = 11 then upd (upd (upd (fun _ => 0) (Int32.toNatClampNeg 0) 40) (Int32.toNatClampNeg 1) 40) (Int32.toNatClampNeg 2) 40 else if k = 41 then (fun j => if j = 2 then -1 else 0) else fun _ => 0
def I0R : SI := fun k => if k = 8 then upd (upd (upd (fun _ => 0) (Int32.toNatClampNeg 0) 40) (Int32.toNatClampNeg 1) 40) (Int32.toNatClampNeg 2) 40 else if k = 0 then (fun j => if j = 10 then -1 else 0) else fun _ => 0
def J0 : SJ := fun _ _ => 0
set_option maxHeartbeats 8000000 in
set_option maxRecDepth 100000 in
theorem whole_open {p : Program} {e : Env} {s : State} {m : MethodId} {below : List Frame} {meth : Method} {c : Code} (l : Launch) {b L : Nat} {xs : Nat → Int32} (hL : L ≤ 2048) (C0 : lw_At p s m meth c b L xs) (Inv : SI → SJ → SI → SJ → Prop) (hStep : LawStep Inv) (hI0 : Inv I0F J0 I0R J0) : W p l e room_1 s m #[Value.ref b] below meth c s.heap [] 0 0 (lw_Z below #[Value.ref b] s) (entryFrame m ([Value.ref b] : List Value).toArray 4) := by
  obtain ⟨hx, hb, hr, hml, hown, hts, hX, hbl, hlocks, hgv⟩ := id C0
  have hT : ∀ w ∈ gtb, w.before #[Value.ref b] s = true := fun w h => hts w (gtb_lw h)
  have hown : s.vm.findClass RW = some m.cls := hown
  have hN : NWs s := NWs.of hts
  have hA : ∀ q : Nat, s.heap.size ≤ q → (fun q : Nat => s.heap.size ≤ q) q := fun _ h => h
  obtain ⟨c0, i0, hk0⟩ := u_known (C := RK) (T := TK) (N := 10) (n := 10) hT inK (hT _ wd_168)
  obtain ⟨c1, i1, hk1⟩ := u_known (C := RL) (T := TL) (N := 7) (n := 7) hT inL (hT _ wd_132)
  obtain ⟨c2, i2, hk2⟩ := u_known (C := RX) (T := TX) (N := 3) (n := 3) hT inX (hT _ wd_175)
  obtain ⟨c3, i3, hk3⟩ := u_known (C := RE) (T := TE) (N := 3) (n := 3) hT inE (hT _ wd_126)
  obtain ⟨c4, i4, hk4⟩ := u_known (C := RT) (T := TT) (N := 9) (n := 9) hT inT (hT _ wd_69)
  obtain ⟨c5, i5, hk5⟩ := u_known (C := RF) (T := TF) (N := 12) (n := 12) hT inF (hT _ wd_61)
  obtain ⟨c6, i6, hk6⟩ := u_known (C := RR) (T := TR) (N := 31) (n := 31) hT inR (hT _ wd_530)
  obtain ⟨dC, dI, hKc⟩ : ∃ (dC : Nat → ClassId) (dI : Nat → Nat → Nat), ∀ (k : Nat) (q : vw_C), vwCl[k]? = some q → u_Kn s q.1 q.2.1 q.2.2 (dC k) (dI k) := by
    refine ⟨fun k => if k = 0 then c0 else if k = 1 then c1 else if k = 2 then c2 else if k = 3 then c3 else if k = 4 then c4 else if k = 5 then c5 else c6, fun k => if k = 0 then i0 else if k = 1 then i1 else if k = 2 then i2 else if k = 3 then i3 else if k = 4 then i4 else if k = 5 then i5 else i6, ?_⟩
    intro k q hq
    match k, hq with
    | 0, hq => cases hq; exact hk0
    | 1, hq => cases hq; exact hk1
    | 2, hq => cases hq; exact hk2
    | 3, hq => cases hq; exact hk3
    | 4, hq => cases hq; exact hk4
    | 5, hq => cases hq; exact hk5
    | 6, hq => cases hq; exact hk6
    | k + 7, hq => simp [vwCl] at hq
  obtain ⟨cI, fI, aI⟩ := arr_of (hT _ wd_124)
  obtain ⟨cJ, fJ, aJ⟩ := arr_of (hT _ wd_198)
  obtain ⟨cZ, fZ, aZ⟩ := arr_of (hT _ wd_629)
  obtain ⟨comp, cG, kG, -, -, kg1, kg2, fG⟩ := arrayOverA_spec (t := .int) (hN _ nw_over)
  have aG : ArrOfT s cG (.array .int) := fun n z => ⟨fun k h => (by cases h), kG, kg1, comp, kg2⟩
  have hK : va_K (dC, dI) vwCl (tysM cI cJ cG) s := ⟨hKc, fun k q h => by
    match k, h with
    | 0, h => cases h; exact ⟨aI, fI⟩
    | 1, h => cases h; exact ⟨aJ, fJ⟩
    | 2, h => cases h; exact ⟨aG, fG⟩
    | k + 3, h => simp at h⟩
  have hK2 : va_K (dC, dI) vwCl (tysR cI cJ cZ) s := ⟨hKc, fun k q h => by
    match k, h with
    | 0, h => cases h; exact ⟨aI, fI⟩
    | 1, h => cases h; exact ⟨aJ, fJ⟩
    | 2, h => cases h; exact ⟨aZ, fZ⟩
    | k + 3, h => simp at h⟩
  have hS : va_S (fun q : Nat => s.heap.size ≤ q) s.heap s.heap [] := va_S.rf
  have hP : va_P (dC, dI) vwCl [] s.heap := fun k q h => by simp at h
  have hD : va_D (fun q : Nat => s.heap.size ≤ q) [] := ⟨fun i j p q h => by simp at h, fun k q h => by simp at h⟩
  have hl := lv_entry ([.ref b]) (n := 4) (Nat.le_of_ble_eq_true rfl)
  rw [lg_entry_eq]
  generalize (lg_sl ([.ref b]) ++ List.replicate (4 - (lg_sl ([.ref b])).length) Slot.unset).toArray = ls at hl ⊢
  have hl : lv_has ls 4 [(0, .ref b)] := hl
  refine va_new (ci := 5) (fs := [.null, .null, .int 0, .int 0, .int 0, .int 0, .int 0, .null, .null, .null, .int 0, .int 0]) (C := RF) (T := TF) (N := 12) hx hb hT inF tyF okF hown (hT _ wd_60) (hT _ wd_61) (hT _ wd_51) hK hP hD hS hA rfl dfF (Nat.le_of_ble_eq_true rfl) (Nat.le_of_ble_eq_true rfl) dlaw_0 (fun qF H hP hD hS => ?_)
  have hP : va_P (dC, dI) vwCl ([] ++ [(qF, .inr (5, [.null, .null, .int 0, .int 0, .int 0, .int 0, .int 0, .null, .null, .null, .int 0, .int 0]))]) H := hP
  have hD : va_D (fun q : Nat => s.heap.size ≤ q) ([] ++ [(qF, .inr (5, [.null, .null, .int 0, .int 0, .int 0, .int 0, .int 0, .null, .null, .null, .int 0, .int 0]))]) := hD
  refine W.widen (k := 1) (n := 12) (by omega) (by omega) ?_
  refine lv_dup hx hb dlaw_3 rfl ?_
  have hFF := inA (D_right hD) hS hA
  refine va_callv (va_runI (As := []) (rest := [.ref qF]) ⟨hx, hb, hml, hown, hT⟩ (cc_F_init l (dC, dI) cI cJ cG qF _) (cwI 0 hT (gtb_good wd_64) rfl rfl rfl (hT _ wd_51) (hT _ wd_62) (hT _ wd_63) rfl (by decide +kernel) ⟨Nat.le_of_ble_eq_true rfl, Nat.le_of_ble_eq_true rfl⟩) ⟨preW_fb, preW_at (P_right hP) hK hN (D_right hD)⟩ rfl rfl hl.1 rfl (lv_room (Nat.le_of_ble_eq_true rfl)) dlaw_4 ⟨Nat.le_of_ble_eq_true rfl, Nat.le_of_ble_eq_true rfl⟩) hS (fun q _ h => inA (D_right hD) hS hA q h) (inA (D_right hD) hS hA) (fun uF t H1 locs ht hvm hw hB hz1 hk1 hS => ?_)
  obtain ⟨hP1, hK1, hD1⟩ := hB
  rw [ht] at hP1
  obtain ⟨hP, hD⟩ := joinR hP hD hFF hk1 hP1 hD1
  generalize H1 = H at hP hS ⊢
  refine W.widen (k := 42) (n := 205) (by omega) (by omega) ?_
  obtain ⟨ad, ead⟩ : ∃ z : Nat → Nat, z = (fun k => [uF 1, uF 2, uF 3, uF 4, uF 5, uF 6, uF 7, uF 8, uF 9, uF 10, uF 11, uF 12, uF 14, uF 15, uF 16, uF 17, uF 18, uF 19, uF 20, uF 21, uF 22, uF 23, uF 24, uF 25, uF 26, uF 27, uF 28, uF 29, uF 30, uF 31, uF 32, uF 33, uF 34, uF 35, uF 13, uF 36, uF 37, uF 38, uF 39, uF 40, uF 41, qF].getD k 0) := ⟨_, rfl⟩
  have hP := hP.sub (ws' := wsF ad cI cJ cG I0F J0) [1, 2, 3, 4, 5, 6, 7, 8, 9, 10, 11, 12, 14, 15, 16, 17, 18, 19, 20, 21, 22, 23, 24, 25, 26, 27, 28, 29, 30, 31, 32, 33, 34, 35, 13, 36, 37, 38, 39, 40, 41, 0] (by rw [ead]; rfl)
  have hD := hD.sub (ws' := wsF ad cI cJ cG I0F J0) [1, 2, 3, 4, 5, 6, 7, 8, 9, 10, 11, 12, 14, 15, 16, 17, 18, 19, 20, 21, 22, 23, 24, 25, 26, 27, 28, 29, 30, 31, 32, 33, 34, 35, 13, 36, 37, 38, 39, 40, 41, 0] (by decide) (by rw [ead]; rfl)
  have ea : qF = ad 41 := by rw [ead]; rfl
  refine lv_astore_n (lv' := [(1, .ref qF), (0, .ref b)]) hx hb dlaw_7 rfl hl (by decide) rfl (fun ls hl => ?_)
  refine va_new (ci := 6) (fs := [.int 0, .null, .null, .null, .null, .null, .null, .null, .null, .int 0, .int 0, .int 0, .null, .null, .long 0, .long 0, .int 0, .int 0, .int 0, .int 0, .null, .null, .null, .int 0, .null, .null, .long 0, .null, .int 0, .null, .long 0]) (C := RR) (T := TR) (N := 31) hx hb hT inR tyR okR hown (hT _ wd_529) (hT _ wd_530) (hT _ wd_57) hK2 hP hD hS hA rfl dfR (Nat.le_of_ble_eq_true rfl) (Nat.le_of_ble_eq_true rfl) dlaw_8 (fun qR H hP hD hS => ?_)
  have hP : va_P (dC, dI) vwCl ((wsF ad cI cJ cG I0F J0) ++ [(qR, .inr (6, [.int 0, .null, .null, .null, .null, .null, .null, .null, .null, .int 0, .int 0, .int 0, .null, .null, .long 0, .long 0, .int 0, .int 0, .int 0, .int 0, .null, .null, .null, .int 0, .null, .null, .long 0, .null, .int 0, .null, .long 0]))]) H := hP
  have hD : va_D (fun q : Nat => s.heap.size ≤ q) ((wsF ad cI cJ cG I0F J0) ++ [(qR, .inr (6, [.int 0, .null, .null, .null, .null, .null, .null, .null, .null, .int 0, .int 0, .int 0, .null, .null, .long 0, .long 0, .int 0, .int 0, .int 0, .int 0, .null, .null, .null, .int 0, .null, .null, .long 0, .null, .int 0, .null, .long 0]))]) := hD
  refine W.widen (k := 43) (n := 236) (by omega) (by omega) ?_
  refine lv_dup hx hb dlaw_11 rfl ?_
  have hFR := inA (D_right hD) hS hA
  refine va_callv (va_runI (As := []) (rest := [.ref qR]) ⟨hx, hb, hml, hown, hT⟩ (cc_R_init l (dC, dI) cI cJ cZ qR _) (cwI 0 hT (gtb_good wd_533) rfl rfl rfl (hT _ wd_57) (hT _ wd_531) (hT _ wd_532) rfl (by decide +kernel) ⟨Nat.le_of_ble_eq_true rfl, Nat.le_of_ble_eq_true rfl⟩) ⟨preW_fb, preW_at (P_right hP) hK2 hN (D_right hD)⟩ rfl rfl hl.1 rfl (lv_room (Nat.le_of_ble_eq_true rfl)) dlaw_12 ⟨Nat.le_of_ble_eq_true rfl, Nat.le_of_ble_eq_true rfl⟩) hS (fun q _ h => inA (D_right hD) hS hA q h) (inA (D_right hD) hS hA) (fun uR t H1 locs ht hvm hw hB hz1 hk1 hS => ?_)
  obtain ⟨hP1, hK1, hD1⟩ := hB
  rw [ht] at hP1
  obtain ⟨hP, hD⟩ := joinR hP hD hFR hk1 hP1 hD1
  generalize H1 = H at hP hS ⊢
  refine W.widen (k := 60) (n := 343) (by omega) (by omega) ?_
  obtain ⟨ad2, ead2⟩ : ∃ z : Nat → Nat, z = (fun k => [qR, uR 1, uR 2, uR 3, uR 4, uR 5, uR 6, uR 7, uR 8, uR 9, uR 10, uR 11, uR 12, uR 13, uR 14, uR 15, uR 16, uR 17].getD k 0) := ⟨_, rfl⟩
  have hP := hP.sub (ws' := wsF ad cI cJ cG I0F J0 ++ wsR ad2 cI cJ cZ I0R J0) [0, 1, 2, 3, 4, 5, 6, 7, 8, 9, 10, 11, 12, 13, 14, 15, 16, 17, 18, 19, 20, 21, 22, 23, 24, 25, 26, 27, 28, 29, 30, 31, 32, 33, 34, 35, 36, 37, 38, 39, 40, 41, 42, 43, 44, 45, 46, 47, 48, 49, 50, 51, 52, 53, 54, 55, 56, 57, 58, 59] (by rw [ead2]; rfl)
  have hD := hD.sub (ws' := wsF ad cI cJ cG I0F J0 ++ wsR ad2 cI cJ cZ I0R J0) [0, 1, 2, 3, 4, 5, 6, 7, 8, 9, 10, 11, 12, 13, 14, 15, 16, 17, 18, 19, 20, 21, 22, 23, 24, 25, 26, 27, 28, 29, 30, 31, 32, 33, 34, 35, 36, 37, 38, 39, 40, 41, 42, 43, 44, 45, 46, 47, 48, 49, 50, 51, 52, 53, 54, 55, 56, 57, 58, 59] (by decide) (by rw [ead2]; rfl)
  have ea2 : qR = ad2 0 := by rw [ead2]; rfl
  refine lv_astore_n (lv' := [(2, .ref qR), (1, .ref qF), (0, .ref b)]) hx hb dlaw_15 rfl hl (by decide) rfl (fun ls hl => ?_)
  refine lv_iconst (v := 0) hx hb dlaw_16 (by decide) ?_
  refine lv_istore_n (lv' := [(3, .int 0), (2, .ref qR), (1, .ref qF), (0, .ref b)]) hx hb dlaw_17 rfl hl (by decide) rfl (fun ls hl => ?_)
  rw [ea, ea2] at hl
  exact law_loop Inv hStep hL C0 hK hK2 (L + 4) 0 0 (by omega) (by omega) nI_0.symm I0F J0 I0R J0 hI0 _ _ hP hD hS ls (lv_sub hl [3, 2, 1, 0] rfl)
