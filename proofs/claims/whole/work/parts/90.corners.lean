/-! The reference's corners: three loops over the bounds. -/
abbrev c7 (F : Nat) := (g_R_corners F).1
abbrev c72 (F : Nat) := (g_R_corners F).2.1
abbrev c117 (F : Nat) := (g_R_corners F).2.2.1
abbrev c163 (F : Nat) := (g_R_corners F).2.2.2.1
abbrev c190 (F : Nat) := (g_R_corners F).2.2.2.2
def chv (a b c r : Nat) : Nat := if r = 0 then a else if r = 1 then b else c
def KpC (I I2 : SI) : Prop := (∀ k, k ≠ 0 → k ≠ 16 → I2 k = I k) ∧ ∀ j, j ≠ 28 → I2 0 j = I 0 j
theorem KpC_refl (I : SI) : KpC I I := ⟨fun _ _ _ => rfl, fun _ _ => rfl⟩
theorem KpC_trans {I I2 I3 : SI} (h : KpC I I2) (h2 : KpC I2 I3) : KpC I I3 := ⟨fun k a b => by rw [h2.1 k a b, h.1 k a b], fun j a => by rw [h2.2 j a, h.2 j a]⟩
theorem KpC_R {I I2 : SI} (h : KpC I I2) : KpR I I2 := ⟨fun k a _ b => h.1 k a b, fun j _ b => h.2 j b⟩
section CO
variable {d : Dt} {w n m : Nat} {fx : Nat → Int} {fl : Nat → Nat} {S : Nat → Prop}
/-- what the loops find -/
def EnC (d : Dt) (fx : Nat → Int) (n : Nat) (fl : Nat → Nat) (S : Nat → Prop) (I : SI) : Prop := ToR d I ∧ Fxd fx I ∧ Fre d fx n fl I ∧ Cts S I
theorem EnC_kp {I I2 : SI} (h : EnC d fx n fl S I) (hk : KpC I I2) : EnC d fx n fl S I2 := by
  obtain ⟨a, b, c, e⟩ := h
  refine ⟨ToR_kp a (KpC_R hk), fun s hs => by rw [hk.1 12 (by decide) (by decide)]; exact b s hs, ⟨by rw [hk.2 23 (by decide)]; exact c.1, c.2.1, fun k hk' => by rw [hk.1 13 (by decide) (by decide)]; exact c.2.2.1 k hk', c.2.2.2⟩, fun b' hb => by rw [hk.1 11 (by decide) (by decide)]; exact e b' hb⟩
def Flg (m : Nat) (x4 : Int32) (I : SI) : Prop := x4 = 1 ∨ (x4 = 0 ∧ m = 1 ∧ I 0 28 = 1)
def PtC (d : Dt) (w : Nat) (fx : Nat → Int) (n : Nat) (S : Nat → Prop) (a b c : Nat) (Y : Rat → Rat → Rat → Prop) : Prop := ∀ x y z, Qr d w S fx x y z → Cor d w fx n (chv a b c) x y z → Y x y z
def Cp3 (d : Dt) (w : Nat) (fx : Nat → Int) (n : Nat) (S : Nat → Prop) (a b lo : Nat) (Y : Rat → Rat → Rat → Prop) : Prop := ∀ c, lo ≤ c → c < 22 → (n ≤ 3 ∨ S c) → PtC d w fx n S a b c Y
def Cp2 (d : Dt) (w : Nat) (fx : Nat → Int) (n : Nat) (S : Nat → Prop) (a lo : Nat) (Y : Rat → Rat → Rat → Prop) : Prop := ∀ b, lo ≤ b → b < 22 → (n ≤ 2 ∨ S b) → Cp3 d w fx n S a b (if n ≤ 3 then 21 else b + 1) Y
def Cp1 (d : Dt) (w : Nat) (fx : Nat → Int) (n : Nat) (S : Nat → Prop) (lo : Nat) (Y : Rat → Rat → Rat → Prop) : Prop := ∀ a, lo ≤ a → a < 22 → (n ≤ 1 ∨ S a) → Cp2 d w fx n S a (if n ≤ 2 then 21 else a + 1) Y
theorem wt0 : ∀ n, n < 5 → ((nI n - 1 ≤ 0) ↔ n ≤ 1) := by decide +kernel
theorem wt1 : ∀ n, n < 5 → ((nI n - 1 ≤ 1) ↔ n ≤ 2) := by decide +kernel
theorem wt2 : ∀ n, n < 5 → ((nI n - 1 ≤ 2) ↔ n ≤ 3) := by decide +kernel
theorem cts_or {I : SI} (h : Cts S I) {b : Nat} (hb : b < 22) : (¬ I 11 b = 0 ∧ S b) ∨ (I 11 b = 0 ∧ ¬ S b) := by
  rcases h b hb with ⟨e, hs⟩ | ⟨e, hs⟩
  · exact Or.inl ⟨by rw [e]; decide, hs⟩
  · exact Or.inr ⟨e, hs⟩
theorem PtC_mono {a b c : Nat} {Y Y' : Rat → Rat → Rat → Prop} (h : PtC d w fx n S a b c Y) (hy : ∀ x y z, Y x y z → Y' x y z) : PtC d w fx n S a b c Y' := fun x y z h1 h2 => hy x y z (h x y z h1 h2)
theorem Cp3_mono {a b c : Nat} {Y Y' : Rat → Rat → Rat → Prop} (h : Cp3 d w fx n S a b c Y) (hy : ∀ x y z, Y x y z → Y' x y z) : Cp3 d w fx n S a b c Y' := fun c h1 h2 h3 => PtC_mono (h c h1 h2 h3) hy
theorem Cp2_mono {a b : Nat} {Y Y' : Rat → Rat → Rat → Prop} (h : Cp2 d w fx n S a b Y) (hy : ∀ x y z, Y x y z → Y' x y z) : Cp2 d w fx n S a b Y' := fun c h1 h2 h3 => Cp3_mono (h c h1 h2 h3) hy
theorem Cp1_mono {a : Nat} {Y Y' : Rat → Rat → Rat → Prop} (h : Cp1 d w fx n S a Y) (hy : ∀ x y z, Y x y z → Y' x y z) : Cp1 d w fx n S a Y' := fun c h1 h2 h3 => Cp2_mono (h c h1 h2 h3) hy
/-- one look -/
theorem c190_ok (hrg : Rg d) (hw : w ≤ 40) {I : SI} {J : SJ} (hE : EnC d fx n fl S I) {P : Rat → Rat → Rat → Prop} (hP : RB d w I J P) {a b c : Nat} (ha : a < 22) (hb : b < 22) (hc : c < 22) (hm : m = 0 ∨ m = 1) (F : Nat) :
    ∃ (I2 : SI) (J2 : SJ) (x4 : Int32) (Y : Rat → Rat → Rat → Prop), c190 (F + 1) (nI w) (nI m) (nI n - 1) (nI a) (nI b) (nI c) I J = c163 F (nI w) (nI m) (nI n - 1) x4 (nI a) (nI b) (nI (c + 1)) I2 J2 ∧ KpC I I2 ∧ KpJ J J2 ∧ Flg m x4 I2 ∧ (∀ x y z, Y x y z → Qr d w S fx x y z) ∧ PtC d w fx n S a b c Y ∧ RB d w I2 J2 (fun x y z => P x y z ∨ Y x y z) := by
  have v0 : vin 0 3 := by decide
  have v1 : vin 1 3 := by decide
  have v2 : vin 2 3 := by decide
  obtain ⟨I6, e6⟩ : ∃ z : SI, z = va_up (va_up (va_up I 16 (upd (I 16) 0 (nI a))) 16 (upd ((va_up I 16 (upd (I 16) 0 (nI a))) 16) 1 (nI b))) 16 (upd ((va_up (va_up I 16 (upd (I 16) 0 (nI a))) 16 (upd ((va_up I 16 (upd (I 16) 0 (nI a))) 16) 1 (nI b))) 16) 2 (nI c)) := ⟨_, rfl⟩
  have k6 : ∀ k, k ≠ 16 → I6 k = I k := fun k hk => by rw [e6, va_up_ne _ _ hk, va_up_ne _ _ hk, va_up_ne _ _ hk]
  have kc : KpC I I6 := ⟨fun k _ h => k6 k h, fun j _ => by rw [k6 0 (by decide)]⟩
  have ch : Chn (chv a b c) I6 := fun r hr => by
    rw [e6, va_up_self, va_up_self, va_up_self]
    unfold upd chv
    match r, hr with
    | 0, _ => exact ⟨ha, rfl⟩
    | 1, _ => exact ⟨hb, rfl⟩
    | 2, _ => exact ⟨hc, rfl⟩
  obtain ⟨g1, g2, g3, g4⟩ := EnC_kp hE kc
  obtain ⟨x, I2, J2, Y, l1, l2, l3, l4, l5, l6, l7⟩ := look_ok hrg g1 hw g2 g3 ch g4 (RB_same hP (by rw [k6 0 (by decide)]) rfl rfl : RB d w I6 J P)
  have kc2 : KpC I I2 := KpC_trans kc ⟨fun k k1 _ => l2.1 k k1, l2.2⟩
  have st : c190 (F + 1) (nI w) (nI m) (nI n - 1) (nI a) (nI b) (nI c) I J = if x = 0 then c163 F (nI w) (nI m) (nI n - 1) 1 (nI a) (nI b) (nI (c + 1)) I2 J2 else if nI m = 0 then c163 F (nI w) (nI m) (nI n - 1) 1 (nI a) (nI b) (nI (c + 1)) I2 J2 else c163 F (nI w) (nI m) (nI n - 1) 0 (nI a) (nI b) (nI (c + 1)) I2 J2 := by
    show b_R_corners_190 (c163 F) (nI w) (nI m) (nI n - 1) (nI a) (nI b) (nI c) I J = _
    unfold b_R_corners_190
    rw [gd_of v0]
    simp only [nm]
    rw [gd_of v1, gd_of v2]
    rw [show Int32.toNatClampNeg 0 = 0 from by decide, show Int32.toNatClampNeg 1 = 1 from by decide, show Int32.toNatClampNeg 2 = 2 from by decide, ← e6, l1]
    simp only [cl3, nI_1]
  rcases l4 with ⟨rfl, l4⟩ | ⟨rfl, l4⟩
  · exact ⟨I2, J2, 1, Y, by rw [st, if_pos rfl], kc2, l3, Or.inl rfl, l5, l6, l7⟩
  · rcases hm with rfl | rfl
    · exact ⟨I2, J2, 1, Y, by rw [st, if_neg (by decide), if_pos (by decide)], kc2, l3, Or.inl rfl, l5, l6, l7⟩
    · exact ⟨I2, J2, 0, Y, by rw [st, if_neg (by decide), if_neg (by decide)], kc2, l3, Or.inr ⟨rfl, rfl, l4⟩, l5, l6, l7⟩
theorem RB_or_false {I : SI} {J : SJ} {P : Rat → Rat → Rat → Prop} (h : RB d w I J P) : RB d w I J (fun x y z => P x y z ∨ False) := RB_iff h (fun x y z => ⟨Or.inl, fun q => q.elim id False.elim⟩)
theorem RB_assoc {I : SI} {J : SJ} {P Y Y' : Rat → Rat → Rat → Prop} (h : RB d w I J (fun x y z => (P x y z ∨ Y x y z) ∨ Y' x y z)) : RB d w I J (fun x y z => P x y z ∨ (Y x y z ∨ Y' x y z)) := RB_iff h (fun x y z => or_assoc)
theorem c163_ok (hrg : Rg d) (hw : w ≤ 40) (hn : n ≤ 4) {a b : Nat} (ha : a < 22) (hb : b < 22) (hm : m = 0 ∨ m = 1) :
    ∀ (t c : Nat), c + t = 22 → ∀ (F : Nat), 2 * t + 2 < F → ∀ (I : SI) (J : SJ) (P : Rat → Rat → Rat → Prop) (x4 : Int32), EnC d fx n fl S I → RB d w I J P → Flg m x4 I →
      ∃ (F2 : Nat) (I2 : SI) (J2 : SJ) (y4 : Int32) (Y : Rat → Rat → Rat → Prop), F ≤ F2 + (2 * t + 2) ∧ c163 F (nI w) (nI m) (nI n - 1) x4 (nI a) (nI b) (nI c) I J = c117 F2 (nI w) (nI m) (nI n - 1) y4 (nI a) (nI (b + 1)) I2 J2 ∧ KpC I I2 ∧ KpJ J J2 ∧ RB d w I2 J2 (fun x y z => P x y z ∨ Y x y z) ∧ (∀ x y z, Y x y z → Qr d w S fx x y z) ∧ ((y4 = 1 ∧ x4 = 1 ∧ Cp3 d w fx n S a b c Y) ∨ (y4 = 0 ∧ m = 1 ∧ I2 0 28 = 1)) := by
  intro t
  induction t with
  | zero =>
    intro c hc F hF I J P x4 hE hP hx
    obtain ⟨f, rfl⟩ : ∃ f, F = f + 1 := ⟨F - 1, by omega⟩
    have e : c = 22 := by omega
    subst e
    refine ⟨f, I, J, x4, fun _ _ _ => False, by omega, ?_, KpC_refl I, KpJ_refl J, RB_or_false hP, fun _ _ _ z => z.elim, hx.imp (fun z => ⟨z, z, fun c' h1 h2 => by omega⟩) id⟩
    show b_R_corners_163 (c117 f) (c163 f) (c190 f) (nI w) (nI m) (nI n - 1) x4 (nI a) (nI b) (nI 22) I J = _
    unfold b_R_corners_163
    rw [if_pos (show (22 : Int32) ≤ nI 22 by decide)]
    simp only [nm, nI_1]
  | succ t ih =>
    intro c hc F hF I J P x4 hE hP hx
    obtain ⟨f, rfl⟩ : ∃ f, F = f + 1 := ⟨F - 1, by omega⟩
    have hc22 : c < 22 := by omega
    have n22 : ¬ (22 : Int32) ≤ nI c := nI_ge (b := 22) hc22 (by decide)
    rcases hx with rfl | ⟨rfl, x1, x2⟩
    · have vc : vin (nI c) 22 := vp_in_nI hc22 (by decide)
      have st : c163 (f + 1) (nI w) (nI m) (nI n - 1) 1 (nI a) (nI b) (nI c) I J = if n ≤ 3 then c190 f (nI w) (nI m) (nI n - 1) (nI a) (nI b) (nI c) I J else if I 11 c = 0 then c163 f (nI w) (nI m) (nI n - 1) 1 (nI a) (nI b) (nI (c + 1)) I J else c190 f (nI w) (nI m) (nI n - 1) (nI a) (nI b) (nI c) I J := by
        show b_R_corners_163 (c117 f) (c163 f) (c190 f) (nI w) (nI m) (nI n - 1) 1 (nI a) (nI b) (nI c) I J = _
        unfold b_R_corners_163
        rw [if_neg n22, if_neg (show ¬ (1 : Int32) = 0 by decide)]
        simp only [wt2 n (by omega), gd_of vc, nm, nI_clamp (show c < 2 ^ 31 by omega), nI_1]
      have look : (n ≤ 3 ∨ S c) → c163 (f + 1) (nI w) (nI m) (nI n - 1) 1 (nI a) (nI b) (nI c) I J = c190 f (nI w) (nI m) (nI n - 1) (nI a) (nI b) (nI c) I J → ∃ (F2 : Nat) (I2 : SI) (J2 : SJ) (y4 : Int32) (Y : Rat → Rat → Rat → Prop), f + 1 ≤ F2 + (2 * (t + 1) + 2) ∧ c163 (f + 1) (nI w) (nI m) (nI n - 1) 1 (nI a) (nI b) (nI c) I J = c117 F2 (nI w) (nI m) (nI n - 1) y4 (nI a) (nI (b + 1)) I2 J2 ∧ KpC I I2 ∧ KpJ J J2 ∧ RB d w I2 J2 (fun x y z => P x y z ∨ Y x y z) ∧ (∀ x y z, Y x y z → Qr d w S fx x y z) ∧ ((y4 = 1 ∧ (1 : Int32) = 1 ∧ Cp3 d w fx n S a b c Y) ∨ (y4 = 0 ∧ m = 1 ∧ I2 0 28 = 1)) := fun hs e => by
        obtain ⟨f', rfl⟩ : ∃ f', f = f' + 1 := ⟨f - 1, by omega⟩
        obtain ⟨I2, J2, y4, Y, k1, k2, k3, k4, k5, k6, k7⟩ := c190_ok (m := m) hrg hw hE hP ha hb hc22 hm f'
        obtain ⟨F3, I3, J3, z4, Y', q1, q2, q3, q4, q5, q6, q7⟩ := ih (c + 1) (by omega) f' (by omega) I2 J2 _ y4 (EnC_kp hE k2) k7 k4
        refine ⟨F3, I3, J3, z4, fun x y z => Y x y z ∨ Y' x y z, by omega, by rw [e, k1, q2], KpC_trans k2 q3, KpJ_trans k3 q4, RB_assoc q5, fun x y z q => q.elim (k5 x y z) (q6 x y z), q7.imp (fun z => ⟨z.1, rfl, fun c' h1 h2 h3 => ?_⟩) id⟩
        by_cases ec : c' = c
        · subst ec; exact PtC_mono k6 (fun _ _ _ => Or.inl)
        · exact PtC_mono (z.2.2 c' (by omega) h2 h3) (fun _ _ _ => Or.inr)
      by_cases h3 : n ≤ 3
      · exact look (Or.inl h3) (by rw [st, if_pos h3])
      · rcases cts_or hE.2.2.2 hc22 with ⟨e, hs⟩ | ⟨e, hs⟩
        · exact look (Or.inr hs) (by rw [st, if_neg h3, if_neg e])
        · obtain ⟨F3, I3, J3, z4, Y', q1, q2, q3, q4, q5, q6, q7⟩ := ih (c + 1) (by omega) f (by omega) I J P 1 hE hP (Or.inl rfl)
          refine ⟨F3, I3, J3, z4, Y', by omega, by rw [st, if_neg h3, if_pos e, q2], q3, q4, q5, q6, q7.imp (fun z => ⟨z.1, rfl, fun c' h1 h2 h4 => ?_⟩) id⟩
          by_cases ec : c' = c
          · subst ec; exact absurd (h4.resolve_left h3) hs
          · exact z.2.2 c' (by omega) h2 h4
    · refine ⟨f, I, J, 0, fun _ _ _ => False, by omega, ?_, KpC_refl I, KpJ_refl J, RB_or_false hP, fun _ _ _ z => z.elim, Or.inr ⟨rfl, x1, x2⟩⟩
      show b_R_corners_163 (c117 f) (c163 f) (c190 f) (nI w) (nI m) (nI n - 1) 0 (nI a) (nI b) (nI c) I J = _
      unfold b_R_corners_163
      rw [if_neg n22, if_pos rfl]
      simp only [nm, nI_1]
theorem c117_ok (hrg : Rg d) (hw : w ≤ 40) (hn : n ≤ 4) {a : Nat} (ha : a < 22) (hm : m = 0 ∨ m = 1) :
    ∀ (t b : Nat), b + t = 22 → ∀ (F : Nat), 50 * t + 2 < F → ∀ (I : SI) (J : SJ) (P : Rat → Rat → Rat → Prop) (x4 : Int32), EnC d fx n fl S I → RB d w I J P → Flg m x4 I →
      ∃ (F2 : Nat) (I2 : SI) (J2 : SJ) (y4 : Int32) (Y : Rat → Rat → Rat → Prop), F ≤ F2 + (50 * t + 2) ∧ c117 F (nI w) (nI m) (nI n - 1) x4 (nI a) (nI b) I J = c72 F2 (nI w) (nI m) (nI n - 1) y4 (nI (a + 1)) I2 J2 ∧ KpC I I2 ∧ KpJ J J2 ∧ RB d w I2 J2 (fun x y z => P x y z ∨ Y x y z) ∧ (∀ x y z, Y x y z → Qr d w S fx x y z) ∧ ((y4 = 1 ∧ x4 = 1 ∧ Cp2 d w fx n S a b Y) ∨ (y4 = 0 ∧ m = 1 ∧ I2 0 28 = 1)) := by
  intro t
  induction t with
  | zero =>
    intro b hb F hF I J P x4 hE hP hx
    obtain ⟨f, rfl⟩ : ∃ f, F = f + 1 := ⟨F - 1, by omega⟩
    have e : b = 22 := by omega
    subst e
    refine ⟨f, I, J, x4, fun _ _ _ => False, by omega, ?_, KpC_refl I, KpJ_refl J, RB_or_false hP, fun _ _ _ z => z.elim, hx.imp (fun z => ⟨z, z, fun c' h1 h2 => by omega⟩) id⟩
    show b_R_corners_117 (c72 f) (c117 f) (c163 f) (nI w) (nI m) (nI n - 1) x4 (nI a) (nI 22) I J = _
    unfold b_R_corners_117
    rw [if_pos (show (22 : Int32) ≤ nI 22 by decide)]
    simp only [nm, nI_1]
  | succ t ih =>
    intro b hb F hF I J P x4 hE hP hx
    obtain ⟨f, rfl⟩ : ∃ f, F = f + 1 := ⟨F - 1, by omega⟩
    have hb22 : b < 22 := by omega
    have n22 : ¬ (22 : Int32) ≤ nI b := nI_ge (b := 22) hb22 (by decide)
    rcases hx with rfl | ⟨rfl, x1, x2⟩
    · have vb : vin (nI b) 22 := vp_in_nI hb22 (by decide)
      have st : c117 (f + 1) (nI w) (nI m) (nI n - 1) 1 (nI a) (nI b) I J = if n ≤ 2 ∨ ¬ I 11 b = 0 then c163 f (nI w) (nI m) (nI n - 1) 1 (nI a) (nI b) (nI (if n ≤ 3 then 21 else b + 1)) I J else c117 f (nI w) (nI m) (nI n - 1) 1 (nI a) (nI (b + 1)) I J := by
        show b_R_corners_117 (c72 f) (c117 f) (c163 f) (nI w) (nI m) (nI n - 1) 1 (nI a) (nI b) I J = _
        unfold b_R_corners_117
        rw [if_neg n22, if_neg (show ¬ (1 : Int32) = 0 by decide)]
        simp only [wt2 n (by omega), wt1 n (by omega), gd_of vb, nm, nI_clamp (show b < 2 ^ 31 by omega), nI_1]
        by_cases q : n ≤ 2
        · rw [if_pos q, if_pos (by omega), if_pos (Or.inl q), if_pos (by omega)]
          rfl
        · rw [if_neg q]
          by_cases q2 : I 11 b = 0
          · rw [if_pos q2, if_neg (by rintro (z | z); exact q z; exact z q2)]
          · rw [if_neg q2, if_pos (Or.inr q2)]
            by_cases q3 : n ≤ 3
            · rw [if_pos q3, if_pos q3]; rfl
            · rw [if_neg q3, if_neg q3]
      have look : (n ≤ 2 ∨ ¬ I 11 b = 0) → ∃ (F2 : Nat) (I2 : SI) (J2 : SJ) (y4 : Int32) (Y : Rat → Rat → Rat → Prop), f + 1 ≤ F2 + (50 * (t + 1) + 2) ∧ c117 (f + 1) (nI w) (nI m) (nI n - 1) 1 (nI a) (nI b) I J = c72 F2 (nI w) (nI m) (nI n - 1) y4 (nI (a + 1)) I2 J2 ∧ KpC I I2 ∧ KpJ J J2 ∧ RB d w I2 J2 (fun x y z => P x y z ∨ Y x y z) ∧ (∀ x y z, Y x y z → Qr d w S fx x y z) ∧ ((y4 = 1 ∧ (1 : Int32) = 1 ∧ Cp2 d w fx n S a b Y) ∨ (y4 = 0 ∧ m = 1 ∧ I2 0 28 = 1)) := fun hs => by
        obtain ⟨lo, elo⟩ : ∃ lo, lo = if n ≤ 3 then 21 else b + 1 := ⟨_, rfl⟩
        have hlo : lo ≤ 22 := by rw [elo]; split <;> omega
        obtain ⟨F2, I2, J2, y4, Y, k1, k2, k3, k4, k5, k6, k7⟩ := c163_ok (m := m) hrg hw hn ha hb22 hm (22 - lo) lo (by omega) f (by omega) I J P 1 hE hP (Or.inl rfl)
        have fl2 : Flg m y4 I2 := k7.imp (fun z => z.1) id
        obtain ⟨F3, I3, J3, z4, Y', q1, q2, q3, q4, q5, q6, q7⟩ := ih (b + 1) (by omega) F2 (by omega) I2 J2 _ y4 (EnC_kp hE k3) k5 fl2
        refine ⟨F3, I3, J3, z4, fun x y z => Y x y z ∨ Y' x y z, by omega, by rw [st, if_pos hs, ← elo, k2, q2], KpC_trans k3 q3, KpJ_trans k4 q4, RB_assoc q5, fun x y z q => q.elim (k6 x y z) (q6 x y z), ?_⟩
        rcases q7 with ⟨z1, z2⟩ | z
        · rcases k7 with ⟨y1, -, y2⟩ | ⟨y1, -⟩
          · refine Or.inl ⟨z1, rfl, fun b' h1 h2 h3 => ?_⟩
            by_cases eb : b' = b
            · subst eb; rw [← elo]; exact Cp3_mono y2 (fun _ _ _ => Or.inl)
            · exact Cp3_mono (z2.2 b' (by omega) h2 h3) (fun _ _ _ => Or.inr)
          · rw [y1] at z2
            exact absurd z2.1 (by decide)
        · exact Or.inr z
      by_cases hs : n ≤ 2 ∨ ¬ I 11 b = 0
      · exact look hs
      · have e0 : I 11 b = 0 := Classical.byContradiction fun q => hs (Or.inr q)
        have ns : ¬ S b := by
          rcases cts_or hE.2.2.2 hb22 with ⟨e, -⟩ | ⟨-, e⟩
          · exact absurd e0 e
          · exact e
        obtain ⟨F3, I3, J3, z4, Y', q1, q2, q3, q4, q5, q6, q7⟩ := ih (b + 1) (by omega) f (by omega) I J P 1 hE hP (Or.inl rfl)
        refine ⟨F3, I3, J3, z4, Y', by omega, by rw [st, if_neg hs, q2], q3, q4, q5, q6, q7.imp (fun z => ⟨z.1, rfl, fun b' h1 h2 h4 => ?_⟩) id⟩
        by_cases eb : b' = b
        · subst eb; exact absurd (h4.resolve_left (fun q => hs (Or.inl q))) ns
        · exact z.2.2 b' (by omega) h2 h4
    · refine ⟨f, I, J, 0, fun _ _ _ => False, by omega, ?_, KpC_refl I, KpJ_refl J, RB_or_false hP, fun _ _ _ z => z.elim, Or.inr ⟨rfl, x1, x2⟩⟩
      show b_R_corners_117 (c72 f) (c117 f) (c163 f) (nI w) (nI m) (nI n - 1) 0 (nI a) (nI b) I J = _
      unfold b_R_corners_117
      rw [if_neg n22, if_pos rfl]
      simp only [nm, nI_1]
theorem c72_ok (hrg : Rg d) (hw : w ≤ 40) (hn : n ≤ 4) (hm : m = 0 ∨ m = 1) :
    ∀ (t a : Nat), a + t = 22 → ∀ (F : Nat), 1200 * t + 2 < F → ∀ (I : SI) (J : SJ) (P : Rat → Rat → Rat → Prop) (x4 : Int32), EnC d fx n fl S I → RB d w I J P → Flg m x4 I →
      ∃ (I2 : SI) (J2 : SJ) (Y : Rat → Rat → Rat → Prop), c72 F (nI w) (nI m) (nI n - 1) x4 (nI a) I J = some (I2, J2) ∧ KpC I I2 ∧ KpJ J J2 ∧ RB d w I2 J2 (fun x y z => P x y z ∨ Y x y z) ∧ (∀ x y z, Y x y z → Qr d w S fx x y z) ∧ ((x4 = 1 ∧ Cp1 d w fx n S a Y) ∨ (m = 1 ∧ I2 0 28 = 1)) := by
  intro t
  induction t with
  | zero =>
    intro a ha F hF I J P x4 hE hP hx
    obtain ⟨f, rfl⟩ : ∃ f, F = f + 1 := ⟨F - 1, by omega⟩
    have e : a = 22 := by omega
    subst e
    refine ⟨I, J, fun _ _ _ => False, ?_, KpC_refl I, KpJ_refl J, RB_or_false hP, fun _ _ _ z => z.elim, hx.imp (fun z => ⟨z, fun c' h1 h2 => by omega⟩) (fun z => z.2)⟩
    show b_R_corners_72 (c72 f) (c117 f) (nI w) (nI m) (nI n - 1) x4 (nI 22) I J = _
    unfold b_R_corners_72
    rw [if_pos (show (22 : Int32) ≤ nI 22 by decide)]
  | succ t ih =>
    intro a ha F hF I J P x4 hE hP hx
    obtain ⟨f, rfl⟩ : ∃ f, F = f + 1 := ⟨F - 1, by omega⟩
    have ha22 : a < 22 := by omega
    have n22 : ¬ (22 : Int32) ≤ nI a := nI_ge (b := 22) ha22 (by decide)
    rcases hx with rfl | ⟨rfl, x1, x2⟩
    · have va : vin (nI a) 22 := vp_in_nI ha22 (by decide)
      have st : c72 (f + 1) (nI w) (nI m) (nI n - 1) 1 (nI a) I J = if n ≤ 1 ∨ ¬ I 11 a = 0 then c117 f (nI w) (nI m) (nI n - 1) 1 (nI a) (nI (if n ≤ 2 then 21 else a + 1)) I J else c72 f (nI w) (nI m) (nI n - 1) 1 (nI (a + 1)) I J := by
        show b_R_corners_72 (c72 f) (c117 f) (nI w) (nI m) (nI n - 1) 1 (nI a) I J = _
        unfold b_R_corners_72
        rw [if_neg n22, if_neg (show ¬ (1 : Int32) = 0 by decide)]
        simp only [wt1 n (by omega), wt0 n (by omega), gd_of va, nm, nI_clamp (show a < 2 ^ 31 by omega), nI_1]
        by_cases q : n ≤ 1
        · rw [if_pos q, if_pos (by omega), if_pos (Or.inl q), if_pos (by omega)]
          rfl
        · rw [if_neg q]
          by_cases q2 : I 11 a = 0
          · rw [if_pos q2, if_neg (by rintro (z | z); exact q z; exact z q2)]
          · rw [if_neg q2, if_pos (Or.inr q2)]
            by_cases q3 : n ≤ 2
            · rw [if_pos q3, if_pos q3]; rfl
            · rw [if_neg q3, if_neg q3]
      by_cases hs : n ≤ 1 ∨ ¬ I 11 a = 0
      · obtain ⟨lo, elo⟩ : ∃ lo, lo = if n ≤ 2 then 21 else a + 1 := ⟨_, rfl⟩
        have hlo : lo ≤ 22 := by rw [elo]; split <;> omega
        obtain ⟨F2, I2, J2, y4, Y, k1, k2, k3, k4, k5, k6, k7⟩ := c117_ok (m := m) hrg hw hn ha22 hm (22 - lo) lo (by omega) f (by omega) I J P 1 hE hP (Or.inl rfl)
        have fl2 : Flg m y4 I2 := k7.imp (fun z => z.1) id
        obtain ⟨I3, J3, Y', q2, q3, q4, q5, q6, q7⟩ := ih (a + 1) (by omega) F2 (by omega) I2 J2 _ y4 (EnC_kp hE k3) k5 fl2
        refine ⟨I3, J3, fun x y z => Y x y z ∨ Y' x y z, by rw [st, if_pos hs, ← elo, k2, q2], KpC_trans k3 q3, KpJ_trans k4 q4, RB_assoc q5, fun x y z q => q.elim (k6 x y z) (q6 x y z), ?_⟩
        rcases q7 with ⟨z1, z2⟩ | z
        · rcases k7 with ⟨y1, -, y2⟩ | ⟨y1, -⟩
          · refine Or.inl ⟨rfl, fun a' h1 h2 h3 => ?_⟩
            by_cases eb : a' = a
            · subst eb; rw [← elo]; exact Cp2_mono y2 (fun _ _ _ => Or.inl)
            · exact Cp2_mono (z2 a' (by omega) h2 h3) (fun _ _ _ => Or.inr)
          · rw [y1] at z1
            exact absurd z1 (by decide)
        · exact Or.inr z
      · have e0 : I 11 a = 0 := Classical.byContradiction fun q => hs (Or.inr q)
        have ns : ¬ S a := by
          rcases cts_or hE.2.2.2 ha22 with ⟨e, -⟩ | ⟨-, e⟩
          · exact absurd e0 e
          · exact e
        obtain ⟨I3, J3, Y', q2, q3, q4, q5, q6, q7⟩ := ih (a + 1) (by omega) f (by omega) I J P 1 hE hP (Or.inl rfl)
        refine ⟨I3, J3, Y', by rw [st, if_neg hs, q2], q3, q4, q5, q6, q7.imp (fun z => ⟨rfl, fun a' h1 h2 h4 => ?_⟩) id⟩
        by_cases eb : a' = a
        · subst eb; exact absurd (h4.resolve_left (fun q => hs (Or.inl q))) ns
        · exact z.2 a' (by omega) h2 h4
    · refine ⟨I, J, fun _ _ _ => False, ?_, KpC_refl I, KpJ_refl J, RB_or_false hP, fun _ _ _ z => z.elim, Or.inr ⟨x1, x2⟩⟩
      show b_R_corners_72 (c72 f) (c117 f) (nI w) (nI m) (nI n - 1) 0 (nI a) I J = _
      unfold b_R_corners_72
      rw [if_neg n22, if_pos rfl]
end CO
