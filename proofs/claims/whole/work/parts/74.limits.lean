/-! Limits: what bounds are kept. -/
def rowB (b : Nat) : Nat := if b < 12 then b % 4 else 4 + (b - 12) % 3
abbrev isL (b : Nat) : Prop := (4 ≤ b ∧ b < 8) ∨ (12 ≤ b ∧ b < 15)
def lev (d : Dt) (w : Nat) (b : Nat) : Int := if b < 4 then 10 * ((dst d b : Nat) : Int) else if b < 8 then (w : Int) * ((dls d (b - 4) : Nat) : Int) else if b < 12 then (w : Int) * ((dms d (b - 8) : Nat) : Int) else if b < 15 then 10 * (w : Int) * ((dln d (b - 12) : Nat) : Int) else 10 * (w : Int) * ((dmn d (b - 15) : Nat) : Int)
def there (d : Dt) (b : Nat) : Prop := 4 ≤ rowB b ∨ rowB b < dn d
def base (d : Dt) (w r : Nat) : Int := if r < 4 then (if r < dn d then 10 * (w : Int) else 0) else 40 * (10 * (w : Int))
theorem rowOf_ok : ∀ b, b < 18 → m_F_rowOf (nI b) = some (nI (rowB b)) := by decide +kernel
theorem rowB_lt : ∀ b, b < 18 → rowB b < 7 := by decide
theorem isLeast_ok : ∀ b, b < 18 → m_F_isLeast (nI b) = some (if isL b then 1 else 0) := by decide +kernel
section LIM
variable {d : Dt} {w : Nat}
/-- the weight that limits speak of -/
def Wt (w : Nat) (I : SI) : Prop := I 12 1 = nI w ∧ I 12 2 = i3 (10 * w) ∧ 1 ≤ w ∧ w ≤ 40
theorem lev_le (hrg : Rg d) (hw : 1 ≤ w ∧ w ≤ 40) {b : Nat} (hb : b < 18) : 0 ≤ lev d w b ∧ lev d w b ≤ 16000 := by
  unfold lev
  split
  · have := (hrg.2.1 b (by omega)).2.1
    omega
  · split
    · have := (hrg.2.1 (b - 4) (by omega)).2.2.1
      have m := mulB (p := (w : Int)) (M := 40) (a := ((dls d (b - 4) : Nat) : Int)) (B := 10) (by omega) (by omega) (by omega) (by omega)
      have m0 : 0 ≤ (w : Int) * ((dls d (b - 4) : Nat) : Int) := Int.mul_nonneg (by omega) (by omega)
      omega
    · split
      · have := (hrg.2.1 (b - 8) (by omega)).2.2.2.1
        have m := mulB (p := (w : Int)) (M := 40) (a := ((dms d (b - 8) : Nat) : Int)) (B := 10) (by omega) (by omega) (by omega) (by omega)
        have m0 : 0 ≤ (w : Int) * ((dms d (b - 8) : Nat) : Int) := Int.mul_nonneg (by omega) (by omega)
        omega
      · split
        · have := hrg.2.2.2 (b - 12) (by omega)
          have m := mulB (p := 10 * (w : Int)) (M := 400) (a := ((dln d (b - 12) : Nat) : Int)) (B := 40) (by omega) (by omega) (by omega) (by omega)
          have m0 : 0 ≤ 10 * (w : Int) * ((dln d (b - 12) : Nat) : Int) := Int.mul_nonneg (by omega) (by omega)
          omega
        · have := hrg.2.2.2 (b - 15) (by omega)
          have m := mulB (p := 10 * (w : Int)) (M := 400) (a := ((dmn d (b - 15) : Nat) : Int)) (B := 40) (by omega) (by omega) (by omega) (by omega)
          have m0 : 0 ≤ 10 * (w : Int) * ((dmn d (b - 15) : Nat) : Int) := Int.mul_nonneg (by omega) (by omega)
          omega
theorem base_le (hw : 1 ≤ w ∧ w ≤ 40) (r : Nat) : 0 ≤ base d w r ∧ base d w r ≤ 16000 := by
  unfold base
  split
  · split <;> omega
  · omega
theorem i3_10 : (10 : Int32) = i3 10 := by decide
theorem i3_40 : (40 : Int32) = i3 40 := by decide
theorem levelOf_ok {I : SI} {J : SJ} (h : ToF d I) (hW : Wt w I) {b : Nat} (hb : b < 18) : m_L_levelOf (nI b) I J = some (i3 (lev d w b), I, J) := by
  have e0 := rowOf_ok b hb
  simp only [m_L_levelOf, b_L_levelOf_0, e0, cl1, nm]
  unfold lev
  by_cases c4 : b < 4
  · have er : rowB b = b := by unfold rowB; rw [if_pos (by omega)]; omega
    rw [if_neg (show ¬ (4 : Int32) ≤ nI b from nI_ge (b := 4) c4 (by decide)), if_pos c4, er]
    have v : vin (nI b) 4 := vp_in_nI c4 (by decide)
    rw [gd_of v, nI_clamp (show b < 2 ^ 31 by omega), h.2.2.1 b c4, i3_nI, i3_10, i3_mul]
  · rw [if_pos (show (4 : Int32) ≤ nI b from nI_le (a := 4) (by omega) (by omega)), if_neg c4]
    by_cases c8 : b < 8
    · have er : rowB b = b - 4 := by unfold rowB; rw [if_pos (by omega)]; omega
      rw [if_neg (show ¬ (8 : Int32) ≤ nI b from nI_ge (b := 8) c8 (by decide)), if_pos c8, er]
      have v : vin (nI (b - 4)) 4 := vp_in_nI (by omega) (by decide)
      rw [gd_of v, nI_clamp (show b - 4 < 2 ^ 31 by omega), h.2.2.2.1 (b - 4) (by omega), hW.1, i3_nI, i3_nI, i3_mul]
    · rw [if_pos (show (8 : Int32) ≤ nI b from nI_le (a := 8) (by omega) (by omega)), if_neg c8]
      by_cases c12 : b < 12
      · have er : rowB b = b - 8 := by unfold rowB; rw [if_pos (by omega)]; omega
        rw [if_neg (show ¬ (12 : Int32) ≤ nI b from nI_ge (b := 12) c12 (by decide)), if_pos c12, er]
        have v : vin (nI (b - 8)) 4 := vp_in_nI (by omega) (by decide)
        rw [gd_of v, nI_clamp (show b - 8 < 2 ^ 31 by omega), h.2.2.2.2.1 (b - 8) (by omega), hW.1, i3_nI, i3_nI, i3_mul]
      · rw [if_pos (show (12 : Int32) ≤ nI b from nI_le (a := 12) (by omega) (by omega)), if_neg c12]
        by_cases c15 : b < 15
        · have er : rowB b = 4 + (b - 12) := by unfold rowB; rw [if_neg (by omega)]; omega
          rw [if_neg (show ¬ (15 : Int32) ≤ nI b from nI_ge (b := 15) c15 (by decide)), if_pos c15, er]
          have e : nI (4 + (b - 12)) - 4 = nI (b - 12) := by
            have := pk_sub (a := 4 + (b - 12)) (b := 4) (by omega)
            rw [show 4 + (b - 12) - 4 = b - 12 by omega] at this
            exact this
          have v : vin (nI (b - 12)) 3 := vp_in_nI (by omega) (by decide)
          rw [e, gd_of v, nI_clamp (show b - 12 < 2 ^ 31 by omega), h.2.2.2.2.2.2.2.1 (b - 12) (by omega), hW.2.1, i3_nI, i3_mul]
        · have er : rowB b = 4 + (b - 15) := by unfold rowB; rw [if_neg (by omega)]; omega
          rw [if_pos (show (15 : Int32) ≤ nI b from nI_le (a := 15) (by omega) (by omega)), if_neg c15, er]
          have e : nI (4 + (b - 15)) - 4 = nI (b - 15) := by
            have := pk_sub (a := 4 + (b - 15)) (b := 4) (by omega)
            rw [show 4 + (b - 15) - 4 = b - 15 by omega] at this
            exact this
          have v : vin (nI (b - 15)) 3 := vp_in_nI (by omega) (by decide)
          rw [e, gd_of v, nI_clamp (show b - 15 < 2 ^ 31 by omega), h.2.2.2.2.2.2.2.2 (b - 15) (by omega), hW.2.1, i3_nI, i3_mul]
theorem isThere_ok {I : SI} {J : SJ} (hrg : Rg d) (h : ToF d I) {b : Nat} (hb : b < 18) : (m_L_isThere (nI b) I J = some (1, I, J) ∧ there d b) ∨ (m_L_isThere (nI b) I J = some (0, I, J) ∧ ¬ there d b) := by
  have hr := rowB_lt b hb
  have hn := hrg.1
  simp only [m_L_isThere, b_L_isThere_0, rowOf_ok b hb, cl1, h.1]
  unfold there
  by_cases c : rowB b < 4
  · rw [if_neg (show ¬ (4 : Int32) ≤ nI (rowB b) from nI_ge (b := 4) c (by decide))]
    by_cases c2 : dn d ≤ rowB b
    · rw [if_pos (nI_le c2 (by omega))]
      exact Or.inr ⟨rfl, by omega⟩
    · rw [if_neg (nI_ge (by omega) (by omega))]
      exact Or.inl ⟨rfl, by omega⟩
  · rw [if_pos (show (4 : Int32) ≤ nI (rowB b) from nI_le (a := 4) (by omega) (by omega))]
    exact Or.inl ⟨rfl, by omega⟩
/-- the least and the most of a row, of the bounds in S -/
def Lo (d : Dt) (w : Nat) (S : Nat → Prop) (r : Nat) (l : Int) : Prop := ∀ q : Rat, (l : Rat) ≤ q ↔ 0 ≤ q ∧ ∀ b, b < 18 → S b → rowB b = r → isL b → ((lev d w b : Int) : Rat) ≤ q
def Hi (d : Dt) (w : Nat) (S : Nat → Prop) (r : Nat) (l : Int) : Prop := ∀ q : Rat, q ≤ (l : Rat) ↔ q ≤ ((base d w r : Int) : Rat) ∧ ∀ b, b < 18 → S b → rowB b = r → ¬ isL b → q ≤ ((lev d w b : Int) : Rat)
theorem Lo_congr {S S' : Nat → Prop} {r : Nat} {l : Int} (h : Lo d w S r l) (e : ∀ b, b < 18 → rowB b = r → isL b → (S b ↔ S' b)) : Lo d w S' r l := fun q => by
  rw [h q]
  exact ⟨fun z => ⟨z.1, fun b b1 b2 b3 b4 => z.2 b b1 ((e b b1 b3 b4).mpr b2) b3 b4⟩, fun z => ⟨z.1, fun b b1 b2 b3 b4 => z.2 b b1 ((e b b1 b3 b4).mp b2) b3 b4⟩⟩
theorem Hi_congr {S S' : Nat → Prop} {r : Nat} {l : Int} (h : Hi d w S r l) (e : ∀ b, b < 18 → rowB b = r → ¬ isL b → (S b ↔ S' b)) : Hi d w S' r l := fun q => by
  rw [h q]
  exact ⟨fun z => ⟨z.1, fun b b1 b2 b3 b4 => z.2 b b1 ((e b b1 b3 b4).mpr b2) b3 b4⟩, fun z => ⟨z.1, fun b b1 b2 b3 b4 => z.2 b b1 ((e b b1 b3 b4).mp b2) b3 b4⟩⟩
theorem Lo_add {S : Nat → Prop} {r b : Nat} {l : Int} (h : Lo d w S r l) (hb : b < 18) (hr : rowB b = r) (hl : isL b) : Lo d w (fun c => S c ∨ c = b) r (if l < lev d w b then lev d w b else l) := fun q => by
  have e : (((if l < lev d w b then lev d w b else l : Int)) : Rat) ≤ q ↔ (l : Rat) ≤ q ∧ ((lev d w b : Int) : Rat) ≤ q := by
    by_cases c : l < lev d w b
    · rw [if_pos c]
      have := Rat.intCast_lt_intCast.mpr c
      grind
    · rw [if_neg c]
      have := Rat.intCast_le_intCast.mpr (show lev d w b ≤ l by omega)
      grind
  rw [e, h q]
  constructor
  · rintro ⟨⟨h1, h2⟩, h3⟩
    refine ⟨h1, fun c c1 c2 c3 c4 => ?_⟩
    rcases c2 with c2 | rfl
    · exact h2 c c1 c2 c3 c4
    · exact h3
  · rintro ⟨h1, h2⟩
    exact ⟨⟨h1, fun c c1 c2 c3 c4 => h2 c c1 (Or.inl c2) c3 c4⟩, h2 b hb (Or.inr rfl) hr hl⟩
theorem Hi_add {S : Nat → Prop} {r b : Nat} {l : Int} (h : Hi d w S r l) (hb : b < 18) (hr : rowB b = r) (hl : ¬ isL b) : Hi d w (fun c => S c ∨ c = b) r (if lev d w b < l then lev d w b else l) := fun q => by
  have e : q ≤ (((if lev d w b < l then lev d w b else l : Int)) : Rat) ↔ q ≤ (l : Rat) ∧ q ≤ ((lev d w b : Int) : Rat) := by
    by_cases c : lev d w b < l
    · rw [if_pos c]
      have := Rat.intCast_lt_intCast.mpr c
      grind
    · rw [if_neg c]
      have := Rat.intCast_le_intCast.mpr (show l ≤ lev d w b by omega)
      grind
  rw [e, h q]
  constructor
  · rintro ⟨⟨h1, h2⟩, h3⟩
    refine ⟨h1, fun c c1 c2 c3 c4 => ?_⟩
    rcases c2 with c2 | rfl
    · exact h2 c c1 c2 c3 c4
    · exact h3
  · rintro ⟨h1, h2⟩
    exact ⟨⟨h1, fun c c1 c2 c3 c4 => h2 c c1 (Or.inl c2) c3 c4⟩, h2 b hb (Or.inr rfl) hr hl⟩
theorem Lo_0 (r : Nat) {S : Nat → Prop} (hS : ∀ b, b < 18 → rowB b = r → ¬ S b) : Lo d w S r 0 := fun q => ⟨fun h => ⟨h, fun b b1 b2 b3 _ => absurd b2 (hS b b1 b3)⟩, fun h => h.1⟩
theorem Hi_0 (r : Nat) {S : Nat → Prop} (hS : ∀ b, b < 18 → rowB b = r → ¬ S b) : Hi d w S r (base d w r) := fun q => ⟨fun h => ⟨h, fun b b1 b2 b3 _ => absurd b2 (hS b b1 b3)⟩, fun h => h.1⟩
def uLo (d : Dt) (w : Nat) (b : Nat) (lo : Nat → Int) (r : Nat) : Int := if r = rowB b ∧ isL b then (if lo r < lev d w b then lev d w b else lo r) else lo r
def uHi (d : Dt) (w : Nat) (b : Nat) (hi : Nat → Int) (r : Nat) : Int := if r = rowB b ∧ ¬ isL b then (if lev d w b < hi r then lev d w b else hi r) else hi r
/-- what a change of limits leaves as it was -/
def Kpt (I I2 : SI) : Prop := (∀ k, k ≠ 12 → k ≠ 13 → k ≠ 14 → I2 k = I k) ∧ ∀ j, j ≠ 3 → I2 12 j = I 12 j
theorem Kpt_trans {I I2 I3 : SI} (h : Kpt I I2) (h2 : Kpt I2 I3) : Kpt I I3 := ⟨fun k a b c => by rw [h2.1 k a b c, h.1 k a b c], fun j hj => by rw [h2.2 j hj, h.2 j hj]⟩
theorem Kpt_refl (I : SI) : Kpt I I := ⟨fun _ _ _ _ => rfl, fun _ _ => rfl⟩
theorem ToF_kpt {I I2 : SI} (h : ToF d I) (hk : Kpt I I2) : ToF d I2 := ToF_same h (fun k k1 => hk.1 k (by omega) (by omega) (by omega))
theorem Wt_kpt {I I2 : SI} (h : Wt w I) (hk : Kpt I I2) : Wt w I2 := ⟨by rw [hk.2 1 (by omega)]; exact h.1, by rw [hk.2 2 (by omega)]; exact h.2.1, h.2.2⟩
theorem keep_ok (hrg : Rg d) {I : SI} {J : SJ} {lo hi : Nat → Int} (h : ToF d I) (hW : Wt w I) (hL : LimI I lo hi) {b : Nat} (hb : b < 18) :
    ∃ I2 : SI, m_L_keep (nI b) I J = some (I2, J) ∧ LimI I2 (uLo d w b lo) (uHi d w b hi) ∧ I2 12 3 = (I 12 3 ||| ((1 : Int32) <<< (nI b &&& 31))) ∧ Kpt I I2 := by
  have hr := rowB_lt b hb
  have hl := lev_le (w := w) hrg hW.2.2 hb
  have vr : vin (nI (rowB b)) 7 := vp_in_nI hr (by decide)
  have kr : (nI (rowB b)).toNatClampNeg = rowB b := nI_clamp (Nat.lt_trans hr (by decide))
  obtain ⟨I3, e3⟩ : ∃ z : SI, z = va_up I 12 (upd (I 12) 3 (I 12 3 ||| ((1 : Int32) <<< (nI b &&& 31)))) := ⟨_, rfl⟩
  have k3 : Kpt I I3 := ⟨fun k a _ _ => by rw [e3, va_up_ne _ _ a], fun j hj => by rw [e3, va_up_self]; unfold upd; rw [if_neg hj]⟩
  have n3 : I3 12 3 = (I 12 3 ||| ((1 : Int32) <<< (nI b &&& 31))) := by rw [e3]; rfl
  have L3 : LimI I3 lo hi := fun r hr => by rw [e3]; exact hL r hr
  have lr := L3 _ hr
  have el := levelOf_ok (J := J) (ToF_kpt h k3) (Wt_kpt hW k3) hb
  simp only [m_L_keep, b_L_keep_0, nm, rowOf_ok b hb, isLeast_ok b hb, cl1]
  rw [← e3]
  by_cases c : isL b
  · simp only [if_pos c, one0, if_false, gd_of vr, kr, el, cl3, lr.1, i3_lt (a := lo (rowB b)) (b := lev d w b) (by omega) (by omega) (by omega) (by omega)]
    refine ⟨_, rfl, fun r hr7 => ?_, by rw [va_up_ne _ _ (by decide)]; exact n3, Kpt_trans k3 ⟨fun k _ a _ => va_up_ne _ _ a, fun j _ => rfl⟩⟩
    have l2 := L3 r hr7
    rw [va_up_self, va_up_ne _ _ (show 14 ≠ 13 by decide)]
    have eh : uHi d w b hi r = hi r := by unfold uHi; rw [if_neg (fun z => z.2 c)]
    rw [eh]
    by_cases e : r = rowB b
    · subst e
      have eL : uLo d w b lo (rowB b) = (if lo (rowB b) < lev d w b then lev d w b else lo (rowB b)) := by unfold uLo; rw [if_pos ⟨rfl, c⟩]
      rw [eL]
      unfold upd
      rw [if_pos rfl]
      split
      · exact ⟨rfl, l2.2.1, by omega, by omega, l2.2.2.2.2⟩
      · exact ⟨rfl, l2.2.1, l2.2.2.1, l2.2.2.2.1, l2.2.2.2.2⟩
    · have eL : uLo d w b lo r = lo r := by unfold uLo; rw [if_neg (fun z => e z.1)]
      rw [eL]
      unfold upd
      rw [if_neg e]
      exact l2
  · simp only [if_neg c, if_true, gd_of vr, kr, el, cl3, lr.2.1, i3_lt (a := lev d w b) (b := hi (rowB b)) (by omega) (by omega) (by omega) (by omega)]
    refine ⟨_, rfl, fun r hr7 => ?_, by rw [va_up_ne _ _ (by decide)]; exact n3, Kpt_trans k3 ⟨fun k _ _ a => va_up_ne _ _ a, fun j _ => rfl⟩⟩
    have l2 := L3 r hr7
    rw [va_up_self, va_up_ne _ _ (show 13 ≠ 14 by decide)]
    have eh : uLo d w b lo r = lo r := by unfold uLo; rw [if_neg (fun z => c z.2)]
    rw [eh]
    by_cases e : r = rowB b
    · subst e
      have eL : uHi d w b hi (rowB b) = (if lev d w b < hi (rowB b) then lev d w b else hi (rowB b)) := by unfold uHi; rw [if_pos ⟨rfl, c⟩]
      rw [eL]
      unfold upd
      rw [if_pos rfl]
      split
      · exact ⟨l2.1, rfl, l2.2.2.1, l2.2.2.2.1, by omega, by omega⟩
      · exact ⟨l2.1, rfl, l2.2.2.1, l2.2.2.2.1, l2.2.2.2.2⟩
    · have eL : uHi d w b hi r = hi r := by unfold uHi; rw [if_neg (fun z => e z.1)]
      rw [eL]
      unfold upd
      rw [if_neg e]
      exact l2
theorem uLo_ok {S : Nat → Prop} {lo : Nat → Int} {r b : Nat} (h : Lo d w S r (lo r)) (hb : b < 18) : Lo d w (fun c => S c ∨ c = b) r (uLo d w b lo r) := by
  unfold uLo
  by_cases e : r = rowB b ∧ isL b
  · rw [if_pos e]; exact Lo_add h hb e.1.symm e.2
  · rw [if_neg e]
    refine Lo_congr h (fun c c1 c2 c3 => ⟨Or.inl, ?_⟩)
    rintro (z | rfl)
    · exact z
    · exact absurd ⟨c2.symm, c3⟩ e
theorem uHi_ok {S : Nat → Prop} {hi : Nat → Int} {r b : Nat} (h : Hi d w S r (hi r)) (hb : b < 18) : Hi d w (fun c => S c ∨ c = b) r (uHi d w b hi r) := by
  unfold uHi
  by_cases e : r = rowB b ∧ ¬ isL b
  · rw [if_pos e]; exact Hi_add h hb e.1.symm e.2
  · rw [if_neg e]
    refine Hi_congr h (fun c c1 c2 c3 => ⟨Or.inl, ?_⟩)
    rintro (z | rfl)
    · exact z
    · exact absurd ⟨c2.symm, c3⟩ e
theorem widen_ok (hrg : Rg d) {I : SI} {J : SJ} (h : ToF d I) (hW : Wt w I) {r : Nat} (hr : r < 7) :
    ∃ I2 : SI, m_L_widen (nI r) I J = some (I2, J) ∧ (∀ k, k ≠ 13 → k ≠ 14 → I2 k = I k) ∧ I2 13 r = i3 0 ∧ I2 14 r = i3 (base d w r) ∧ ∀ j, j ≠ r → I2 13 j = I 13 j ∧ I2 14 j = I 14 j := by
  have vr : vin (nI r) 7 := vp_in_nI hr (by decide)
  have kr : (nI r).toNatClampNeg = r := nI_clamp (Nat.lt_trans hr (by decide))
  have hn := hrg.1
  have i30 : (0 : Int32) = i3 0 := rfl
  have e0 : ∀ f, va_up I 13 f 0 0 = nI (dn d) := fun f => h.1
  have e1 : ∀ f, va_up I 13 f 12 2 = i3 (10 * w) := fun f => hW.2.1
  simp only [m_L_widen, b_L_widen_0, gd_of vr, kr, nm, e0, e1]
  have fin : ∀ v : Int32, v = i3 (base d w r) → ∃ I2 : SI, some (va_up (va_up I 13 (upd (I 13) r 0)) 14 (upd ((va_up I 13 (upd (I 13) r 0)) 14) r v), J) = some (I2, J) ∧ (∀ k, k ≠ 13 → k ≠ 14 → I2 k = I k) ∧ I2 13 r = i3 0 ∧ I2 14 r = i3 (base d w r) ∧ ∀ j, j ≠ r → I2 13 j = I 13 j ∧ I2 14 j = I 14 j := fun v hv => by
    refine ⟨_, rfl, fun k a b => by rw [va_up_ne _ _ b, va_up_ne _ _ a], ?_, ?_, fun j hj => ⟨?_, ?_⟩⟩
    · show upd (I 13) r 0 r = _; unfold upd; rw [if_pos rfl]; rfl
    · show upd (I 14) r v r = _; unfold upd; rw [if_pos rfl, hv]
    · show upd (I 13) r 0 j = _; unfold upd; rw [if_neg hj]
    · show upd (I 14) r v j = _; unfold upd; rw [if_neg hj]
  by_cases c : r < 4
  · rw [if_pos (show nI r < (4 : Int32) from nI_lt (b := 4) c (by decide))]
    by_cases c2 : dn d ≤ r
    · rw [if_pos (nI_le c2 (by omega))]
      exact fin 0 (by unfold base; rw [if_pos c, if_neg (by omega)]; rfl)
    · rw [if_neg (nI_ge (by omega) (by omega))]
      exact fin _ (by unfold base; rw [if_pos c, if_pos (by omega)])
  · rw [if_neg (show ¬ nI r < (4 : Int32) from nI_nlt (b := 4) (by omega) (by omega))]
    exact fin _ (by unfold base; rw [if_neg c, i3_40, i3_mul])
end LIM
