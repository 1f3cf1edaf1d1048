/-! What both sides are told, and what holds between them. Data: stuffs, price, stock, least share, most share, silo, points, least need, most need. -/
abbrev Dt : Type := Nat × (Nat → Nat) × (Nat → Nat) × (Nat → Nat) × (Nat → Nat) × (Nat → Nat) × (Nat → Nat → Nat) × (Nat → Nat) × (Nat → Nat)
def dn (d : Dt) : Nat := d.1
def dpr (d : Dt) : Nat → Nat := d.2.1
def dst (d : Dt) : Nat → Nat := d.2.2.1
def dls (d : Dt) : Nat → Nat := d.2.2.2.1
def dms (d : Dt) : Nat → Nat := d.2.2.2.2.1
def dsi (d : Dt) : Nat → Nat := d.2.2.2.2.2.1
def dpt (d : Dt) : Nat → Nat → Nat := d.2.2.2.2.2.2.1
def dln (d : Dt) : Nat → Nat := d.2.2.2.2.2.2.2.1
def dmn (d : Dt) : Nat → Nat := d.2.2.2.2.2.2.2.2
def Rg (d : Dt) : Prop := dn d ≤ 4 ∧ (∀ i, i < 4 → dpr d i ≤ 1000 ∧ dst d i ≤ 40 ∧ dls d i ≤ 10 ∧ dms d i ≤ 10 ∧ (dsi d i = 0 ∨ 5 ≤ dsi d i) ∧ dsi d i ≤ 40) ∧ (∀ r, r < 3 → ∀ i, i < 4 → dpt d r i ≤ 40) ∧ ∀ r, r < 3 → dln d r ≤ dmn d r ∧ dmn d r ≤ 40
/-- the class is told d -/
def ToF (d : Dt) (I : SI) : Prop := I 0 0 = nI (dn d) ∧ (∀ i, i < 4 → I 1 i = nI (dpr d i)) ∧ (∀ i, i < 4 → I 2 i = nI (dst d i)) ∧ (∀ i, i < 4 → I 3 i = nI (dls d i)) ∧ (∀ i, i < 4 → I 4 i = nI (dms d i)) ∧ (∀ i, i < 4 → I 5 i = nI (dsi d i)) ∧ (∀ r, r < 3 → ∀ i, i < 4 → I (7 + r) i = nI (dpt d r i)) ∧ (∀ r, r < 3 → I 10 r = nI (dln d r)) ∧ (∀ r, r < 3 → I 11 r = nI (dmn d r))
/-- the reference is told d -/
def ToR (d : Dt) (I : SI) : Prop := I 0 0 = nI (dn d) ∧ (∀ i, i < 4 → I 1 i = nI (dpr d i)) ∧ (∀ i, i < 4 → I 2 i = nI (dst d i)) ∧ (∀ i, i < 4 → I 4 i = nI (dls d i)) ∧ (∀ i, i < 4 → I 5 i = nI (dms d i)) ∧ (∀ i, i < 4 → I 6 i = nI (dsi d i)) ∧ (∀ r, r < 3 → ∀ i, i < 4 → I 3 (4 * r + i) = nI (dpt d r i)) ∧ (∀ r, r < 3 → I 7 r = nI (dln d r)) ∧ (∀ r, r < 3 → I 8 r = nI (dmn d r))
/-- a fraction of the class is told by the reference as p over q -/
def Frac (a b p q : Int64) : Prop := ∀ x : Int32, m_F_partOf a b x = some (if x = 0 then p else if x = 1 then q else -1)
/-- the last run -/
def RunI (I : SI) (J : SJ) (I2 : SI) (J2 : SJ) : Prop := I 41 2 = I2 0 10 ∧ (I 41 2 = -1 ∨ ((I 41 2 = 0 ∨ I 41 2 = 1 ∨ I 41 2 = 2) ∧ ∃ w : Nat, 1 ≤ w ∧ w ≤ 40 ∧ I 41 3 = nI w ∧ I2 0 9 = nI w)) ∧
  (I 41 2 = 0 → (∃ k : Nat, 1 ≤ k ∧ k ≤ 4 ∧ I 41 4 = nI k ∧ I2 0 11 = nI k ∧ ∀ i, i < k → Frac (J 36 i) (10 * J 35 2) (J2 9 i) (J2 10 i)) ∧ Frac (J 35 1) (10 * J 35 2) (J2 0 14) (J2 0 15) ∧ I 41 5 = I2 0 16) ∧ (I 41 2 = 1 → I 41 6 = I2 0 17)
def InvW (I : SI) (J : SJ) (I2 : SI) (J2 : SJ) : Prop := (∃ d : Dt, Rg d ∧ ToF d I ∧ ToR d I2) ∧ RunI I J I2 J2 ∧ I 41 10 = I2 0 18 ∧ I 41 11 = I2 0 19
theorem inv0 : InvW I0F J0 I0R J0 := by
  refine ⟨⟨(0, fun _ => 0, fun _ => 0, fun _ => 0, fun _ => 0, fun _ => 0, fun _ _ => 0, fun _ => 0, fun _ => 40), ?_, ?_, ?_⟩, ?_, rfl, rfl⟩
  · exact ⟨by decide, fun i _ => ⟨Nat.zero_le _, Nat.zero_le _, Nat.zero_le _, Nat.zero_le _, Or.inl rfl, Nat.zero_le _⟩, fun r _ i _ => Nat.zero_le _, fun r _ => ⟨Nat.zero_le _, Nat.le_refl _⟩⟩
  · refine ⟨rfl, fun _ _ => rfl, fun _ _ => rfl, fun _ _ => rfl, fun _ _ => rfl, fun _ _ => rfl, fun r hr i hi => ?_, fun _ _ => rfl, fun r hr => ?_⟩
    · match r, hr with
      | 0, _ => rfl
      | 1, _ => rfl
      | 2, _ => rfl
    · match r, hr with
      | 0, _ => decide
      | 1, _ => decide
      | 2, _ => decide
  · refine ⟨rfl, fun _ _ => rfl, fun _ _ => rfl, fun _ _ => rfl, fun _ _ => rfl, fun _ _ => rfl, fun r hr i hi => rfl, fun _ _ => rfl, fun r hr => ?_⟩
    match r, hr with
    | 0, _ => decide
    | 1, _ => decide
    | 2, _ => decide
  · exact ⟨rfl, Or.inl rfl, fun h => absurd h (by decide), fun h => absurd h (by decide)⟩
/-! checks -/
theorem wi_or (x : Int32) {m : Nat} (hm : m < 2 ^ 30) : (∃ j, j ≤ m ∧ x = nI j ∧ ¬ x < 0 ∧ ¬ nI m < x) ∨ ((x < 0 ∨ nI m < x) ∧ ∀ j, j ≤ m → x ≠ nI j) := by
  rcases pk_ix x (n := m + 1) (by omega) with h | h | ⟨j, hj, rfl⟩
  · exact Or.inr ⟨Or.inl h, fun j hj e => by rw [e] at h; exact nI_pos (by omega) h⟩
  · refine Or.inr ⟨Or.inr ?_, fun j hj e => ?_⟩
    · have := Int32.le_iff_toInt_le.mp h
      rw [nI_toInt (by omega)] at this
      exact Int32.lt_iff_toInt_lt.mpr (by rw [nI_toInt (by omega)]; omega)
    · rw [e] at h
      exact nI_ge (by omega) (by omega) h
  · exact Or.inl ⟨j, by omega, rfl, nI_pos (by omega), nI_nlt (by omega) (by omega)⟩
theorem F_within (x a b : Int32) : m_F_isWithin x a b = some (if x < a ∨ b < x then 0 else 1) := by
  unfold m_F_isWithin b_F_isWithin_0
  by_cases h1 : x < a
  · simp [h1]
  · by_cases h2 : b < x <;> simp [h1, h2]
theorem R_within (x a b : Int32) : m_R_in x a b = some (if x < a ∨ b < x then 0 else 1) := by
  unfold m_R_in b_R_in_0
  by_cases h1 : x < a
  · simp [h1]
  · by_cases h2 : b < x <;> simp [h1, h2]
theorem nb (c : Prop) [Decidable c] : narrow .boolean (.int (if c then 0 else 1)) = .int (if c then 0 else 1) := by
  by_cases h : c <;> simp [h] <;> rfl
theorem F_isPrice (x : Int32) : m_F_isPrice x = some (if x < 0 ∨ 1000 < x then 0 else 1) := by
  unfold m_F_isPrice b_F_isPrice_0
  rw [F_within]
  exact gd_of (nb _)
theorem F_isStock (x : Int32) : m_F_isStock x = some (if x < 0 ∨ 40 < x then 0 else 1) := by
  unfold m_F_isStock b_F_isStock_0
  rw [F_within]
  exact gd_of (nb _)
theorem F_isNutrient (x : Int32) : m_F_isNutrient x = some (if x < 0 ∨ 2 < x then 0 else 1) := by
  unfold m_F_isNutrient b_F_isNutrient_0
  rw [F_within]
  exact gd_of (nb _)
theorem F_isStuff {n : Nat} (hn : n ≤ 4) {I : SI} (h : I 0 0 = nI n) (x : Int32) (J : SJ) : m_F_isStuff x I J = some (if x < 0 ∨ nI n ≤ x then 0 else 1, I, J) := by
  simp only [m_F_isStuff, b_F_isStuff_0, nm]
  rw [F_within, h]
  have e : (x < 0 ∨ nI n - 1 < x) ↔ (x < 0 ∨ nI n ≤ x) := by
    have h1 : (nI n - 1).toInt = (n : Int) - 1 := pk_sub_toInt (a := n) (b := 1) (by omega) (by omega)
    refine or_congr Iff.rfl ?_
    rw [Int32.lt_iff_toInt_lt, h1, Int32.le_iff_toInt_le, nI_toInt (by omega)]
    omega
  simp only [e]
  exact gd_of (nb _)
theorem R_isStuff {n : Nat} {I : SI} (h : I 0 0 = nI n) (x : Int32) (J : SJ) : m_R_isStuff x I J = some (if x < 0 ∨ nI n ≤ x then 0 else 1, I, J) := by
  unfold m_R_isStuff b_R_isStuff_0
  rw [h]
  by_cases h1 : x < 0
  · simp [h1]
  · by_cases h2 : nI n ≤ x <;> simp [h1, h2]
