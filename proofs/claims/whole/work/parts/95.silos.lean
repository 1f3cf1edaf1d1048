/-! The reference: is anything possible; the mixes of whole silos. -/
def KpP (I I2 : SI) : Prop := (∀ k, k ≠ 0 → k ≠ 12 → k ≠ 13 → k ≠ 16 → I2 k = I k) ∧ ∀ j, j ≠ 23 → j ≠ 28 → I2 0 j = I 0 j
theorem KpP_refl (I : SI) : KpP I I := ⟨fun _ _ _ _ _ => rfl, fun _ _ _ => rfl⟩
theorem KpP_trans {I I2 I3 : SI} (h : KpP I I2) (h2 : KpP I2 I3) : KpP I I3 := ⟨fun k a b c e => by rw [h2.1 k a b c e, h.1 k a b c e], fun j a b => by rw [h2.2 j a b, h.2 j a b]⟩
theorem KpR_P {I I2 : SI} (h : KpR I I2) : KpP I I2 := ⟨fun k a _ b c => h.1 k a b c, h.2⟩
theorem ToR_P {d : Dt} {I I2 : SI} (h : ToR d I) (hk : KpP I I2) : ToR d I2 := ToR_of h (hk.2 0 (by decide) (by decide)) (fun k a b => hk.1 k (by omega) (by omega) (by omega) (by omega))
theorem Cts_P {S : Nat → Prop} {I I2 : SI} (h : Cts S I) (hk : KpP I I2) : Cts S I2 := fun b hb => by rw [hk.1 11 (by decide) (by decide) (by decide) (by decide)]; exact h b hb
section SL
variable {d : Dt} {w : Nat} {S : Nat → Prop}
theorem freeAll_ok {I : SI} (J : SJ) : ∃ I2 : SI, m_R_freeAll I J = some (I2, J) ∧ Fxd (fun _ => -1) I2 ∧ ∀ k, k ≠ 12 → I2 k = I k := by
  have loop : ∀ (t s : Nat), s + t = 4 → ∀ (F : Nat), t < F → ∀ I : SI, (∀ c, c < s → I 12 c = i3 (-1)) → ∃ I2 : SI, g_R_freeAll F (nI s) I J = some (I2, J) ∧ Fxd (fun _ => -1) I2 ∧ ∀ k, k ≠ 12 → I2 k = I k := by
    intro t
    induction t with
    | zero =>
      intro s hs F hF I hc
      obtain ⟨f, rfl⟩ : ∃ f, F = f + 1 := ⟨F - 1, by omega⟩
      have e : s = 4 := by omega
      subst e
      refine ⟨I, ?_, fun s hs => ⟨hc s hs, by show -1 ≤ (-1 : Int); omega, by show (-1 : Int) ≤ 40; omega⟩, fun _ _ => rfl⟩
      show b_R_freeAll_2 (g_R_freeAll f) (nI 4) I J = _
      unfold b_R_freeAll_2
      rw [if_pos (show (4 : Int32) ≤ nI 4 by decide)]
    | succ t ih =>
      intro s hs F hF I hc
      obtain ⟨f, rfl⟩ : ∃ f, F = f + 1 := ⟨F - 1, by omega⟩
      have vs : vin (nI s) 4 := vp_in_nI (by omega) (by decide)
      obtain ⟨I1, e1⟩ : ∃ z : SI, z = va_up I 12 (upd (I 12) s (-1)) := ⟨_, rfl⟩
      obtain ⟨I2, g1, g2, g3⟩ := ih (s + 1) (by omega) f (by omega) I1 (fun c hc' => by
        rw [e1, va_up_self]
        unfold upd
        by_cases e : c = s
        · rw [if_pos e]; decide
        · rw [if_neg e]; exact hc c (by omega))
      refine ⟨I2, ?_, g2, fun k hk => by rw [g3 k hk, e1, va_up_ne _ _ hk]⟩
      show b_R_freeAll_2 (g_R_freeAll f) (nI s) I J = _
      unfold b_R_freeAll_2
      rw [if_neg (show ¬ (4 : Int32) ≤ nI s from nI_ge (b := 4) (by omega) (by decide)), gd_of vs]
      simp only [nm, nI_clamp (show s < 2 ^ 31 by omega), nI_1]
      rw [← e1]
      exact g1
  unfold m_R_freeAll b_R_freeAll_0
  exact loop 4 0 rfl fuel (by unfold fuel; omega) I (fun c hc => by omega)
theorem isPossible_ok (hrg : Rg d) (hw : w ≤ 40) {I : SI} (J : SJ) (h : ToR d I) (hS : Cts S I) (h18 : ∀ s, s < dn d → S (18 + s)) :
    ∃ (x : Int32) (I2 : SI) (J2 : SJ), m_R_isPossible (nI w) I J = some (x, I2, J2) ∧ KpP I I2 ∧ KpJ J J2 ∧ ((x = 1 ∧ ∃ a b c, Kp d w S a b c) ∨ (x = 0 ∧ ∀ a b c, ¬ Kp d w S a b c)) := by
  obtain ⟨I1, e1⟩ : ∃ z : SI, z = va_up I 0 (upd (I 0) 28 0) := ⟨_, rfl⟩
  have k1 : KpP I I1 := ⟨fun k a _ _ _ => by rw [e1, va_up_ne _ _ a], fun j _ b => by rw [e1, va_up_self]; unfold upd; rw [if_neg b]⟩
  have z1 : I1 0 28 = 0 := by rw [e1, va_up_self]; unfold upd; rw [if_pos rfl]
  obtain ⟨I2, g1, g2, g3⟩ := freeAll_ok (I := I1) J
  have k2 : KpP I1 I2 := ⟨fun k _ b _ _ => g3 k b, fun j _ _ => by rw [g3 0 (by decide)]⟩
  have k12 := KpP_trans k1 k2
  obtain ⟨I3, J3, q1, q2, q3, q4⟩ := corners_any (J := J) hrg hw (ToR_P h k12) g2 (Cts_P hS k12) h18 (by rw [g3 0 (by decide)]; exact z1)
  have k3 := KpP_trans k12 (KpR_P q2)
  have st : ∀ x : Int32, I3 0 28 = x → (x = 1 ∨ x = 0) → m_R_isPossible (nI w) I J = some (x, I3, J3) := fun x hx hc => by
    unfold m_R_isPossible b_R_isPossible_0
    have nx : narrow .boolean (.int x) = .int x := by rcases hc with rfl | rfl <;> rfl
    simp only [nm]
    rw [← e1, g1]
    simp only [cl2, q1, hx]
    rw [gd_of nx]
  rcases q4 with ⟨e, a, b, c, hq⟩ | ⟨e, hq⟩
  · exact ⟨1, I3, J3, st 1 e (Or.inl rfl), k3, q3, Or.inl ⟨rfl, a, b, c, (Qr_free hrg.1 h18 a b c).mp hq⟩⟩
  · exact ⟨0, I3, J3, st 0 e (Or.inr rfl), k3, q3, Or.inr ⟨rfl, fun a b c hk => hq a b c ((Qr_free hrg.1 h18 a b c).mpr hk)⟩⟩
/-- how many silos there can be -/
def mst (d : Dt) (s : Nat) : Nat := if s < dn d ∧ 0 < dsi d s then dst d s / dsi d s else 0
/-- what k silos of a stuff fix -/
def fvS (d : Dt) (s k : Nat) : Int := if s < dn d ∧ 0 < dsi d s then ((k * dsi d s : Nat) : Int) else -1
theorem mst_le (hrg : Rg d) {s : Nat} (hs : s < 4) : mst d s ≤ 8 ∧ ∀ k, k ≤ mst d s → -1 ≤ fvS d s k ∧ fvS d s k ≤ 40 := by
  have g := (hrg.2.1 s hs).2
  unfold mst fvS
  by_cases c : s < dn d ∧ 0 < dsi d s
  · simp only [if_pos c]
    have g5 : 5 ≤ dsi d s := by omega
    refine ⟨?_, fun k hk => ?_⟩
    · have h1 : dst d s / dsi d s ≤ 40 / dsi d s := Nat.div_le_div_right g.1
      have h2 : 40 / dsi d s ≤ 40 / 5 := Nat.div_le_div_left g5 (by omega)
      omega
    · have h1 : k * dsi d s ≤ dst d s := Nat.le_trans (Nat.mul_le_mul_right _ hk) (Nat.div_mul_le_self _ _)
      omega
  · simp only [if_neg c]
    exact ⟨by omega, fun k _ => by omega⟩
theorem nI_div {a b : Nat} (ha : a < 2 ^ 31) (hb : 0 < b) (hb2 : b < 2 ^ 31) : nI a / nI b = nI (a / b) := by
  have h : a / b ≤ a := Nat.div_le_self a b
  apply Int32.toInt_inj.mp
  have hne : ¬ (nI a = Int32.minValue) := fun z => by
    have := congrArg Int32.toInt z
    rw [nI_toInt ha] at this
    have e : Int32.minValue.toInt = -2147483648 := by decide
    rw [e] at this
    omega
  rw [Int32.toInt_div_of_ne_left _ _ hne, nI_toInt ha, nI_toInt hb2, nI_toInt (by omega), Int.tdiv_eq_ediv_of_nonneg (by omega)]
  rfl
theorem most_ok (hrg : Rg d) {I : SI} {J : SJ} (h : ToR d I) {s : Nat} (hs : s < 4) : m_R_most (nI s) I J = some (nI (mst d s), I, J) := by
  have g := (hrg.2.1 s hs).2
  have hn := hrg.1
  have vs : vin (nI s) 4 := vp_in_nI hs (by decide)
  unfold m_R_most b_R_most_0 mst
  rw [h.1]
  simp only [gd_of vs, nm, nI_clamp (show s < 2 ^ 31 by omega), h.2.2.1 s hs, h.2.2.2.2.2.1 s hs]
  by_cases c : dn d ≤ s
  · rw [if_pos (nI_le c (by omega)), if_neg (by omega)]
    rfl
  · rw [if_neg (nI_ge (by omega) (by omega))]
    by_cases c2 : 0 < dsi d s
    · rw [if_neg (nI_nle c2 (by omega)), if_pos ⟨by omega, c2⟩, gd_of (show ¬ nI (dsi d s) = 0 from fun z => by have := (nI_inj (b := 0) (show dsi d s < 2 ^ 31 by omega) (by decide)).mp z; omega), nI_div (by omega) c2 (by omega)]
    · have e : dsi d s = 0 := by omega
      rw [e, if_pos (by decide), if_neg (by omega)]
      rfl
theorem fix_ok (hrg : Rg d) {I : SI} {J : SJ} (h : ToR d I) {s : Nat} (hs : s < 4) {k : Nat} (hk : k ≤ mst d s) : m_R_fix (nI s) (nI k) I J = some (va_up I 12 (upd (I 12) s (i3 (fvS d s k))), J) := by
  have g := (hrg.2.1 s hs).2
  have hn := hrg.1
  have vs : vin (nI s) 4 := vp_in_nI hs (by decide)
  unfold m_R_fix b_R_fix_0 fvS
  rw [h.1]
  simp only [gd_of vs, nm, nI_clamp (show s < 2 ^ 31 by omega), h.2.2.2.2.2.1 s hs]
  have m1 : (-1 : Int32) = i3 (-1) := by decide
  by_cases c : dn d ≤ s
  · rw [if_pos (nI_le c (by omega)), if_neg (by omega), m1]
  · rw [if_neg (nI_ge (by omega) (by omega))]
    by_cases c2 : 0 < dsi d s
    · rw [if_neg (nI_nle c2 (by omega)), if_pos ⟨by omega, c2⟩, pk_mul, i3_nI]
    · have e : dsi d s = 0 := by omega
      rw [e, if_pos (by decide), if_neg (by omega), m1]
def fvv (d : Dt) (k0 k1 k2 k3 s : Nat) : Int := fvS d s (if s = 0 then k0 else if s = 1 then k1 else if s = 2 then k2 else k3)
abbrev x11 (F : Nat) := (g_R_mixes F).1
abbrev x22 (F : Nat) := (g_R_mixes F).2.1
abbrev x34 (F : Nat) := (g_R_mixes F).2.2.1
abbrev x47 (F : Nat) := (g_R_mixes F).2.2.2
/-- what the loops find, and leave -/
def EnM (d : Dt) (w : Nat) (I : SI) (J : SJ) (P : Rat → Rat → Rat → Prop) : Prop := ToR d I ∧ Cts (thR d) I ∧ RB d w I J P
theorem th18 (d : Dt) : ∀ s, s < dn d → thR d (18 + s) := fun s hs => Or.inr (Or.inr ⟨by omega, by omega⟩)
theorem x47_ok (hrg : Rg d) (hw : w ≤ 40) {k0 k1 k2 : Nat} (h0 : k0 ≤ mst d 0) (h1 : k1 ≤ mst d 1) (h2 : k2 ≤ mst d 2) :
    ∀ (t k : Nat), k + t = mst d 3 + 1 → ∀ (F : Nat), t < F → ∀ (I : SI) (J : SJ) (P : Rat → Rat → Rat → Prop), EnM d w I J P →
      ∃ (F2 : Nat) (I2 : SI) (J2 : SJ), F = F2 + (t + 1) ∧ x47 F (nI w) (nI k0) (nI k1) (nI k2) (nI k) I J = x34 F2 (nI w) (nI k0) (nI k1) (nI (k2 + 1)) I2 J2 ∧ KpP I I2 ∧ KpJ J J2 ∧ EnM d w I2 J2 (fun x y z => P x y z ∨ ∃ k3, k ≤ k3 ∧ k3 ≤ mst d 3 ∧ Qr d w (thR d) (fvv d k0 k1 k2 k3) x y z) := by
  have m3 := mst_le hrg (show 3 < 4 by omega)
  intro t
  induction t with
  | zero =>
    intro k hk F hF I J P hE
    obtain ⟨f, rfl⟩ : ∃ f, F = f + 1 := ⟨F - 1, by omega⟩
    refine ⟨f, I, J, by omega, ?_, KpP_refl I, KpJ_refl J, hE.1, hE.2.1, RB_iff hE.2.2 (fun x y z => ⟨Or.inl, fun q => q.elim id (fun ⟨k3, a, b, _⟩ => by omega)⟩)⟩
    show b_R_mixes_47 (x34 f) (x47 f) (nI w) (nI k0) (nI k1) (nI k2) (nI k) I J = _
    unfold b_R_mixes_47
    rw [show (3 : Int32) = nI 3 from rfl, most_ok hrg hE.1 (by omega)]
    simp only [cl3]
    rw [if_pos (nI_lt (by omega) (by omega))]
    simp only [nm, nI_1]
  | succ t ih =>
    intro k hk F hF I J P hE
    obtain ⟨f, rfl⟩ : ∃ f, F = f + 1 := ⟨F - 1, by omega⟩
    obtain ⟨hT, hC, hP⟩ := hE
    -- the four are fixed
    obtain ⟨Ia, ea⟩ : ∃ z : SI, z = va_up I 12 (upd (I 12) 0 (i3 (fvS d 0 k0))) := ⟨_, rfl⟩
    obtain ⟨Ib, eb⟩ : ∃ z : SI, z = va_up Ia 12 (upd (Ia 12) 1 (i3 (fvS d 1 k1))) := ⟨_, rfl⟩
    obtain ⟨Ic, ec⟩ : ∃ z : SI, z = va_up Ib 12 (upd (Ib 12) 2 (i3 (fvS d 2 k2))) := ⟨_, rfl⟩
    obtain ⟨Id, ed⟩ : ∃ z : SI, z = va_up Ic 12 (upd (Ic 12) 3 (i3 (fvS d 3 k))) := ⟨_, rfl⟩
    have tt : ∀ {I I' : SI} {f : Nat → Int32}, ToR d I → I' = va_up I 12 f → ToR d I' := fun {I I' f} h e => ToR_of h (by rw [e, va_up_ne _ _ (by decide)]) (fun q a b => by rw [e, va_up_ne _ _ (by omega)])
    have ta := tt hT ea
    have tb := tt ta eb
    have tc := tt tb ec
    have td := tt tc ed
    have kd : KpP I Id := ⟨fun q _ b _ _ => by rw [ed, va_up_ne _ _ b, ec, va_up_ne _ _ b, eb, va_up_ne _ _ b, ea, va_up_ne _ _ b], fun j _ _ => by rw [ed, va_up_ne _ _ (by decide), ec, va_up_ne _ _ (by decide), eb, va_up_ne _ _ (by decide), ea, va_up_ne _ _ (by decide)]⟩
    have hx : Fxd (fvv d k0 k1 k2 k) Id := fun s hs => by
      rw [ed, va_up_self, ec, va_up_self, eb, va_up_self, ea, va_up_self]
      unfold fvv upd
      match s, hs with
      | 0, _ => exact ⟨rfl, (mst_le hrg (show 0 < 4 by omega)).2 k0 h0⟩
      | 1, _ => exact ⟨rfl, (mst_le hrg (show 1 < 4 by omega)).2 k1 h1⟩
      | 2, _ => exact ⟨rfl, (mst_le hrg (show 2 < 4 by omega)).2 k2 h2⟩
      | 3, _ => exact ⟨rfl, m3.2 k (by omega)⟩
    have i0 : Id 0 = I 0 := by rw [ed, va_up_ne _ _ (by decide), ec, va_up_ne _ _ (by decide), eb, va_up_ne _ _ (by decide), ea, va_up_ne _ _ (by decide)]
    have hPd : RB d w Id J P := RB_same hP (by rw [i0]) rfl rfl
    obtain ⟨I2, J2, q1, q2, q3, q4⟩ := corners_best hrg hw td hx (Cts_P hC kd) (th18 d) hPd
    have k2' := KpP_trans kd (KpR_P q2)
    obtain ⟨F2, I3, J3, g1, g2, g3, g4, g5, g6, g7⟩ := ih (k + 1) (by omega) f (by omega) I2 J2 _ ⟨ToR_P hT k2', Cts_P hC k2', q4⟩
    refine ⟨F2, I3, J3, by omega, ?_, KpP_trans k2' g3, KpJ_trans q3 g4, g5, g6, RB_iff g7 (fun x y z => ?_)⟩
    · show b_R_mixes_47 (x34 f) (x47 f) (nI w) (nI k0) (nI k1) (nI k2) (nI k) I J = _
      unfold b_R_mixes_47
      rw [show (3 : Int32) = nI 3 from rfl, most_ok hrg hT (by omega)]
      simp only [cl3]
      rw [if_neg (nI_nlt (by omega) (by omega)), show (0 : Int32) = nI 0 from rfl, fix_ok hrg hT (by omega) h0, ← ea]
      simp only [cl2]
      rw [show (1 : Int32) = nI 1 from rfl, fix_ok hrg ta (by omega) h1, ← eb]
      simp only
      rw [show (2 : Int32) = nI 2 from rfl, fix_ok hrg tb (by omega) h2, ← ec]
      simp only
      rw [fix_ok hrg tc (by omega) (show k ≤ mst d 3 by omega), ← ed]
      simp only
      rw [show nI 0 = (0 : Int32) from rfl, q1]
      simp only [nm]
      rw [nI_add]
      exact g2
    · constructor
      · rintro ((q | q) | ⟨k3, a, b, q⟩)
        · exact Or.inl q
        · exact Or.inr ⟨k, Nat.le_refl k, by omega, q⟩
        · exact Or.inr ⟨k3, by omega, b, q⟩
      · rintro (q | ⟨k3, a, b, q⟩)
        · exact Or.inl (Or.inl q)
        · by_cases e : k3 = k
          · subst e; exact Or.inl (Or.inr q)
          · exact Or.inr ⟨k3, by omega, b, q⟩
theorem x34_ok (hrg : Rg d) (hw : w ≤ 40) {k0 k1 : Nat} (h0 : k0 ≤ mst d 0) (h1 : k1 ≤ mst d 1) :
    ∀ (t k : Nat), k + t = mst d 2 + 1 → ∀ (F : Nat), 12 * t < F → ∀ (I : SI) (J : SJ) (P : Rat → Rat → Rat → Prop), EnM d w I J P →
      ∃ (F2 : Nat) (I2 : SI) (J2 : SJ), F ≤ F2 + (12 * t + 1) ∧ x34 F (nI w) (nI k0) (nI k1) (nI k) I J = x22 F2 (nI w) (nI k0) (nI (k1 + 1)) I2 J2 ∧ KpP I I2 ∧ KpJ J J2 ∧ EnM d w I2 J2 (fun x y z => P x y z ∨ ∃ k2 k3, k ≤ k2 ∧ k2 ≤ mst d 2 ∧ k3 ≤ mst d 3 ∧ Qr d w (thR d) (fvv d k0 k1 k2 k3) x y z) := by
  have m2 := mst_le hrg (show 2 < 4 by omega)
  have m3 := mst_le hrg (show 3 < 4 by omega)
  intro t
  induction t with
  | zero =>
    intro k hk F hF I J P hE
    obtain ⟨f, rfl⟩ : ∃ f, F = f + 1 := ⟨F - 1, by omega⟩
    refine ⟨f, I, J, by omega, ?_, KpP_refl I, KpJ_refl J, hE.1, hE.2.1, RB_iff hE.2.2 (fun x y z => ⟨Or.inl, fun q => q.elim id (fun ⟨k2, k3, a, b, _⟩ => by omega)⟩)⟩
    show b_R_mixes_34 (x22 f) (x47 f) (nI w) (nI k0) (nI k1) (nI k) I J = _
    unfold b_R_mixes_34
    rw [show (2 : Int32) = nI 2 from rfl, most_ok hrg hE.1 (by omega)]
    simp only [cl3]
    rw [if_pos (nI_lt (by omega) (by omega))]
    simp only [nm, nI_1]
  | succ t ih =>
    intro k hk F hF I J P hE
    obtain ⟨f, rfl⟩ : ∃ f, F = f + 1 := ⟨F - 1, by omega⟩
    obtain ⟨F2, I2, J2, q1, q2, q3, q4, q5⟩ := x47_ok hrg hw h0 h1 (show k ≤ mst d 2 by omega) (mst d 3 + 1) 0 (by omega) f (by omega) I J P hE
    obtain ⟨F3, I3, J3, g1, g2, g3, g4, g5, g6, g7⟩ := ih (k + 1) (by omega) F2 (by omega) I2 J2 _ q5
    refine ⟨F3, I3, J3, by omega, ?_, KpP_trans q3 g3, KpJ_trans q4 g4, g5, g6, RB_iff g7 (fun x y z => ?_)⟩
    · show b_R_mixes_34 (x22 f) (x47 f) (nI w) (nI k0) (nI k1) (nI k) I J = _
      unfold b_R_mixes_34
      rw [show (2 : Int32) = nI 2 from rfl, most_ok hrg hE.1 (by omega)]
      simp only [cl3]
      rw [if_neg (nI_nlt (by omega) (by omega))]
      exact q2.trans g2
    · constructor
      · rintro ((q | ⟨k3, a, b, q⟩) | ⟨k2, k3, a, b, c, q⟩)
        · exact Or.inl q
        · exact Or.inr ⟨k, k3, Nat.le_refl k, by omega, b, q⟩
        · exact Or.inr ⟨k2, k3, by omega, b, c, q⟩
      · rintro (q | ⟨k2, k3, a, b, c, q⟩)
        · exact Or.inl (Or.inl q)
        · by_cases e : k2 = k
          · subst e; exact Or.inl (Or.inr ⟨k3, by omega, c, q⟩)
          · exact Or.inr ⟨k2, k3, by omega, b, c, q⟩
theorem x22_ok (hrg : Rg d) (hw : w ≤ 40) {k0 : Nat} (h0 : k0 ≤ mst d 0) :
    ∀ (t k : Nat), k + t = mst d 1 + 1 → ∀ (F : Nat), 120 * t < F → ∀ (I : SI) (J : SJ) (P : Rat → Rat → Rat → Prop), EnM d w I J P →
      ∃ (F2 : Nat) (I2 : SI) (J2 : SJ), F ≤ F2 + (120 * t + 1) ∧ x22 F (nI w) (nI k0) (nI k) I J = x11 F2 (nI w) (nI (k0 + 1)) I2 J2 ∧ KpP I I2 ∧ KpJ J J2 ∧ EnM d w I2 J2 (fun x y z => P x y z ∨ ∃ k1 k2 k3, k ≤ k1 ∧ k1 ≤ mst d 1 ∧ k2 ≤ mst d 2 ∧ k3 ≤ mst d 3 ∧ Qr d w (thR d) (fvv d k0 k1 k2 k3) x y z) := by
  have m1 := mst_le hrg (show 1 < 4 by omega)
  have m2 := mst_le hrg (show 2 < 4 by omega)
  intro t
  induction t with
  | zero =>
    intro k hk F hF I J P hE
    obtain ⟨f, rfl⟩ : ∃ f, F = f + 1 := ⟨F - 1, by omega⟩
    refine ⟨f, I, J, by omega, ?_, KpP_refl I, KpJ_refl J, hE.1, hE.2.1, RB_iff hE.2.2 (fun x y z => ⟨Or.inl, fun q => q.elim id (fun ⟨k1, k2, k3, a, b, _⟩ => by omega)⟩)⟩
    show b_R_mixes_22 (x11 f) (x34 f) (nI w) (nI k0) (nI k) I J = _
    unfold b_R_mixes_22
    rw [show (1 : Int32) = nI 1 from rfl, most_ok hrg hE.1 (by omega)]
    simp only [cl3]
    rw [if_pos (nI_lt (by omega) (by omega))]
    simp only [nm]
    rw [nI_add]
  | succ t ih =>
    intro k hk F hF I J P hE
    obtain ⟨f, rfl⟩ : ∃ f, F = f + 1 := ⟨F - 1, by omega⟩
    obtain ⟨F2, I2, J2, q1, q2, q3, q4, q5⟩ := x34_ok hrg hw h0 (show k ≤ mst d 1 by omega) (mst d 2 + 1) 0 (by omega) f (by omega) I J P hE
    obtain ⟨F3, I3, J3, g1, g2, g3, g4, g5, g6, g7⟩ := ih (k + 1) (by omega) F2 (by omega) I2 J2 _ q5
    refine ⟨F3, I3, J3, by omega, ?_, KpP_trans q3 g3, KpJ_trans q4 g4, g5, g6, RB_iff g7 (fun x y z => ?_)⟩
    · show b_R_mixes_22 (x11 f) (x34 f) (nI w) (nI k0) (nI k) I J = _
      unfold b_R_mixes_22
      rw [show (1 : Int32) = nI 1 from rfl, most_ok hrg hE.1 (by omega)]
      simp only [cl3]
      rw [if_neg (nI_nlt (by omega) (by omega))]
      exact q2.trans g2
    · constructor
      · rintro ((q | ⟨k2, k3, a, b, c, q⟩) | ⟨k1, k2, k3, a, b, c, e, q⟩)
        · exact Or.inl q
        · exact Or.inr ⟨k, k2, k3, Nat.le_refl k, by omega, b, c, q⟩
        · exact Or.inr ⟨k1, k2, k3, by omega, b, c, e, q⟩
      · rintro (q | ⟨k1, k2, k3, a, b, c, h, q⟩)
        · exact Or.inl (Or.inl q)
        · by_cases e : k1 = k
          · subst e; exact Or.inl (Or.inr ⟨k2, k3, by omega, c, h, q⟩)
          · exact Or.inr ⟨k1, k2, k3, by omega, b, c, h, q⟩
theorem RB_flag {I : SI} {J : SJ} {P : Rat → Rat → Rat → Prop} (h : RB d w I J P) : I 0 28 = 1 ∨ I 0 28 = 0 := by
  rcases h with ⟨e, -⟩ | ⟨e, -⟩
  · exact Or.inr e
  · exact Or.inl e
theorem x11_ok (hrg : Rg d) (hw : w ≤ 40) :
    ∀ (t k : Nat), k + t = mst d 0 + 1 → ∀ (F : Nat), 1200 * t < F → ∀ (I : SI) (J : SJ) (P : Rat → Rat → Rat → Prop), EnM d w I J P →
      ∃ (I2 : SI) (J2 : SJ), x11 F (nI w) (nI k) I J = some (I2 0 28, I2, J2) ∧ KpP I I2 ∧ KpJ J J2 ∧ EnM d w I2 J2 (fun x y z => P x y z ∨ ∃ k0 k1 k2 k3, k ≤ k0 ∧ k0 ≤ mst d 0 ∧ k1 ≤ mst d 1 ∧ k2 ≤ mst d 2 ∧ k3 ≤ mst d 3 ∧ Qr d w (thR d) (fvv d k0 k1 k2 k3) x y z) := by
  have m0 := mst_le hrg (show 0 < 4 by omega)
  have m1 := mst_le hrg (show 1 < 4 by omega)
  intro t
  induction t with
  | zero =>
    intro k hk F hF I J P hE
    obtain ⟨f, rfl⟩ : ∃ f, F = f + 1 := ⟨F - 1, by omega⟩
    refine ⟨I, J, ?_, KpP_refl I, KpJ_refl J, hE.1, hE.2.1, RB_iff hE.2.2 (fun x y z => ⟨Or.inl, fun q => q.elim id (fun ⟨k0, k1, k2, k3, a, b, _⟩ => by omega)⟩)⟩
    show b_R_mixes_11 (x22 f) (nI w) (nI k) I J = _
    unfold b_R_mixes_11
    rw [show (0 : Int32) = nI 0 from rfl, most_ok hrg hE.1 (by omega)]
    simp only [cl3]
    have nx : narrow .boolean (.int (I 0 28)) = .int (I 0 28) := by rcases RB_flag hE.2.2 with e | e <;> rw [e] <;> rfl
    rw [if_pos (nI_lt (by omega) (by omega)), gd_of nx]
  | succ t ih =>
    intro k hk F hF I J P hE
    obtain ⟨f, rfl⟩ : ∃ f, F = f + 1 := ⟨F - 1, by omega⟩
    obtain ⟨F2, I2, J2, q1, q2, q3, q4, q5⟩ := x22_ok hrg hw (show k ≤ mst d 0 by omega) (mst d 1 + 1) 0 (by omega) f (by omega) I J P hE
    obtain ⟨I3, J3, g2, g3, g4, g5, g6, g7⟩ := ih (k + 1) (by omega) F2 (by omega) I2 J2 _ q5
    refine ⟨I3, J3, ?_, KpP_trans q3 g3, KpJ_trans q4 g4, g5, g6, RB_iff g7 (fun x y z => ?_)⟩
    · show b_R_mixes_11 (x22 f) (nI w) (nI k) I J = _
      unfold b_R_mixes_11
      rw [show (0 : Int32) = nI 0 from rfl, most_ok hrg hE.1 (by omega)]
      simp only [cl3]
      rw [if_neg (nI_nlt (by omega) (by omega))]
      exact q2.trans g2
    · constructor
      · rintro ((q | ⟨k1, k2, k3, a, b, c, h, q⟩) | ⟨k0, k1, k2, k3, a, b, c, h, e, q⟩)
        · exact Or.inl q
        · exact Or.inr ⟨k, k1, k2, k3, Nat.le_refl k, by omega, b, c, h, q⟩
        · exact Or.inr ⟨k0, k1, k2, k3, by omega, b, c, h, e, q⟩
      · rintro (q | ⟨k0, k1, k2, k3, a, b, c, h, h', q⟩)
        · exact Or.inl (Or.inl q)
        · by_cases e : k0 = k
          · subst e; exact Or.inl (Or.inr ⟨k1, k2, k3, by omega, c, h, h', q⟩)
          · exact Or.inr ⟨k0, k1, k2, k3, by omega, b, c, h, h', q⟩
theorem th_iff (d : Dt) {b : Nat} (hb : b < 18) : thR d b ↔ there d b := by
  unfold thR there rowB
  by_cases c : b < 12
  · rw [if_pos c]; omega
  · rw [if_neg c]; omega
/-- the reference's mixes of whole silos are the class's -/
theorem Gd_iff (hrg : Rg d) (x y z : Rat) : (∃ k0 k1 k2 k3, 0 ≤ k0 ∧ k0 ≤ mst d 0 ∧ k1 ≤ mst d 1 ∧ k2 ≤ mst d 2 ∧ k3 ≤ mst d 3 ∧ Qr d w (thR d) (fvv d k0 k1 k2 k3) x y z) ↔ Gd d w x y z := by
  have hn := hrg.1
  have e10 : ((10 : Int) : Rat) = 10 := rfl
  have kp : Kp d w (thR d) x y z ↔ Kp d w (there d) x y z := ⟨fun q => Kp_congr q (fun b hb => (th_iff d hb).mpr), fun q => Kp_congr q (fun b hb => (th_iff d hb).mp)⟩
  have qf := Qr_free (w := w) (S := thR d) hn (th18 d) x y z
  -- a mix and its silos
  have one : ∀ k : Nat → Nat, Qr d w (thR d) (fun s => fvS d s (k s)) x y z ↔ Kp d w (there d) x y z ∧ ∀ s, s < dn d → 0 < dsi d s → am (10 * w) x y z s = ((((10 * dsi d s) * k s : Nat) : Int) : Rat) := fun k => by
    rw [← kp, ← qf]
    constructor
    · rintro ⟨h1, h2, h3⟩
      refine ⟨⟨h1, fun i _ hf => absurd hf (by show ¬ (0 : Int) ≤ -1; decide), h3⟩, fun s hs h0 => ?_⟩
      have e : fvS d s (k s) = ((k s * dsi d s : Nat) : Int) := by unfold fvS; rw [if_pos ⟨hs, h0⟩]
      rw [h2 s hs (by show 0 ≤ fvS d s (k s); rw [e]; omega)]
      show 10 * ((fvS d s (k s) : Int) : Rat) = _
      rw [e, ← e10, ← Rat.intCast_mul]
      congr 1
      rw [show (((10 * dsi d s) * k s : Nat) : Int) = 10 * ((dsi d s * k s : Nat) : Int) by rw [Nat.mul_assoc]; omega, Nat.mul_comm]
    · rintro ⟨⟨h1, -, h3⟩, h2⟩
      refine ⟨h1, fun s hs hf => ?_, h3⟩
      have h0 : 0 < dsi d s := by
        apply Classical.byContradiction
        intro q
        have e : fvS d s (k s) = -1 := by unfold fvS; rw [if_neg (by omega)]
        have hf' : 0 ≤ fvS d s (k s) := hf
        omega
      have e : fvS d s (k s) = ((k s * dsi d s : Nat) : Int) := by unfold fvS; rw [if_pos ⟨hs, h0⟩]
      rw [h2 s hs h0]
      show _ = 10 * ((fvS d s (k s) : Int) : Rat)
      rw [e, ← e10, ← Rat.intCast_mul]
      congr 1
      rw [show (((10 * dsi d s) * k s : Nat) : Int) = 10 * ((dsi d s * k s : Nat) : Int) by rw [Nat.mul_assoc]; omega, Nat.mul_comm]
  constructor
  · rintro ⟨k0, k1, k2, k3, -, -, -, -, -, q⟩
    obtain ⟨g1, g2⟩ := (one (fun s => if s = 0 then k0 else if s = 1 then k1 else if s = 2 then k2 else k3)).mp q
    exact ⟨g1, fun s _ hs h0 => ⟨_, g2 s hs h0⟩⟩
  · rintro ⟨g1, g2⟩
    have ex : ∀ s, ∃ m : Nat, m ≤ mst d s ∧ (s < dn d → 0 < dsi d s → am (10 * w) x y z s = ((((10 * dsi d s) * m : Nat) : Int) : Rat)) := fun s => by
      by_cases c : s < dn d ∧ 0 < dsi d s
      · obtain ⟨m, hm⟩ := g2 s (Nat.zero_le s) c.1 c.2
        refine ⟨m, ?_, fun _ _ => hm⟩
        have hs4 : s < 4 := by omega
        have st := (g1.2 s (by omega) ((th_iff d (by omega)).mp (Or.inr (Or.inl ⟨by omega, by omega⟩)))).2 (by unfold isL; omega)
        have row : rowB s = s := by unfold rowB; rw [if_pos (by omega)]; omega
        have lv : lev d w s = 10 * ((dst d s : Nat) : Int) := by unfold lev; rw [if_pos hs4]
        rw [row, rv_stuff d hs4, hm, lv, Rat.intCast_le_intCast] at st
        unfold mst
        rw [if_pos c]
        have : m * dsi d s ≤ dst d s := by
          have e : (10 * dsi d s) * m = 10 * (m * dsi d s) := by rw [Nat.mul_assoc, Nat.mul_comm m]
          rw [e] at st
          omega
        exact (Nat.le_div_iff_mul_le c.2).mpr this
      · exact ⟨0, Nat.zero_le _, fun a b => absurd ⟨a, b⟩ c⟩
    obtain ⟨k0, a0, b0⟩ := ex 0
    obtain ⟨k1, a1, b1⟩ := ex 1
    obtain ⟨k2, a2, b2⟩ := ex 2
    obtain ⟨k3, a3, b3⟩ := ex 3
    refine ⟨k0, k1, k2, k3, Nat.zero_le _, a0, a1, a2, a3, (one (fun s => if s = 0 then k0 else if s = 1 then k1 else if s = 2 then k2 else k3)).mpr ⟨g1, fun s hs h0 => ?_⟩⟩
    have c : s = 0 ∨ s = 1 ∨ s = 2 ∨ s = 3 := by omega
    rcases c with rfl | rfl | rfl | rfl
    · exact b0 hs h0
    · exact b1 hs h0
    · exact b2 hs h0
    · exact b3 hs h0
def KpX (I I2 : SI) : Prop := (∀ k, k ≠ 0 → k ≠ 11 → k ≠ 12 → k ≠ 13 → k ≠ 16 → I2 k = I k) ∧ ∀ j, j ≠ 23 → j ≠ 28 → I2 0 j = I 0 j
theorem mixes_ok (hrg : Rg d) (hw : w ≤ 40) {I : SI} (J : SJ) (h : ToR d I) :
    ∃ (x : Int32) (I2 : SI) (J2 : SJ), m_R_mixes (nI w) I J = some (x, I2, J2) ∧ KpX I I2 ∧ KpJ J J2 ∧ x = I2 0 28 ∧ RB d w I2 J2 (Gd d w) := by
  obtain ⟨I1, g1, g2, g3⟩ := countAll_ok hrg J h
  obtain ⟨I2, e2⟩ : ∃ z : SI, z = va_up I1 0 (upd (I1 0) 28 0) := ⟨_, rfl⟩
  have k2 : ∀ k, k ≠ 0 → I2 k = I1 k := fun k hk => by rw [e2, va_up_ne _ _ hk]
  have j2 : ∀ j, j ≠ 28 → I2 0 j = I1 0 j := fun j hj => by rw [e2, va_up_self]; unfold upd; rw [if_neg hj]
  have z2 : I2 0 28 = 0 := by rw [e2, va_up_self]; unfold upd; rw [if_pos rfl]
  have hT : ToR d I2 := ToR_of h (by rw [j2 0 (by decide), g3 0 (by decide)]) (fun k a b => by rw [k2 k (by omega), g3 k (by omega)])
  have hC : Cts (thR d) I2 := fun b hb => by rw [k2 11 (by decide)]; exact g2 b hb
  have m0 := mst_le hrg (show 0 < 4 by omega)
  obtain ⟨I3, J3, q1, q2, q3, q4, q5, q6⟩ := x11_ok hrg hw (mst d 0 + 1) 0 (by omega) fuel (by have : fuel = 1000000 := rfl; omega) I2 J (fun _ _ _ => False) ⟨hT, hC, Or.inl ⟨z2, fun _ _ _ => id⟩⟩
  refine ⟨I3 0 28, I3, J3, ?_, ⟨fun k a b c e f => by rw [q2.1 k a c e f, k2 k a, g3 k b], fun j a b => by rw [q2.2 j a b, j2 j b, g3 0 (by decide)]⟩, q3, rfl, RB_iff q6 (fun x y z => ?_)⟩
  · unfold m_R_mixes b_R_mixes_0
    rw [g1]
    simp only [cl2, nm]
    rw [← e2]
    exact q1
  · rw [← Gd_iff hrg]
    exact ⟨fun q => q.resolve_left id, Or.inr⟩
end SL
