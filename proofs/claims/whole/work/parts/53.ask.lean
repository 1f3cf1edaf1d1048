/-! The calls that ask of the last run, and the line. -/
theorem part_or (x : Int32) : x = 0 ∨ x = 1 ∨ ((x < 0 ∨ 1 < x) ∧ ¬ x = 0 ∧ ¬ x = 1) := by
  rcases wi_or x (m := 1) (by decide) with ⟨j, hj, e, -, -⟩ | ⟨h, h2⟩
  · have : j = 0 ∨ j = 1 := by omega
    rcases this with rfl | rfl
    · exact Or.inl e
    · exact Or.inr (Or.inl e)
  · exact Or.inr (Or.inr ⟨h, fun e => h2 0 (by decide) e, fun e => h2 1 (by decide) e⟩)
theorem bit_or (x : Int32) : x &&& 1 = 0 ∨ x &&& 1 = 1 := by
  obtain ⟨j, hj, e⟩ := pk_andE x (m := 1) 1 (by decide)
  have : j = 0 ∨ j = 1 := by omega
  rcases this with rfl | rfl
  · exact Or.inl e
  · exact Or.inr e
theorem F_hasBound (a b : Int32) : m_F_hasBound a b = some (if a >>> (b &&& 31) &&& 1 = 0 then 0 else 1) := by
  simp only [m_F_hasBound, b_F_hasBound_0, nm]
  by_cases h : a >>> (b &&& 31) &&& 1 = 0 <;> simp [h]
section AG3
variable {I : SI} {J : SJ} {I2 : SI} {J2 : SJ}
theorem ag_amount (h : InvW I J I2 J2) (a b : Int32) : Agree InvW (m_F_amount a b I J) (m_R_amount a b I2 J2) := by
  have h0 := h
  obtain ⟨-, ⟨hU1, -, hU3, -⟩, -, -⟩ := h
  simp only [m_F_amount, b_F_amount_0, m_R_amount, b_R_amount_0, F_within, R_within, cl1, nm]
  by_cases h1 : I 41 2 = 0
  · have h2 : I2 0 10 = 0 := hU1 ▸ h1
    obtain ⟨⟨k, hk1, hk2, e1, e2, hf⟩, -, -⟩ := hU3 h1
    have hs : (nI k - 1).toInt = (k : Int) - 1 := pk_sub_toInt (a := k) (b := 1) (by omega) (by omega)
    simp only [h1, h2, if_true]
    rw [e1, e2]
    rcases st_or a (n := k) hk2 with ⟨i, hi, ea, hn, hv, hc⟩ | hn
    · have hn1 : ¬ (a < 0 ∨ nI k - 1 < a) := by
        rintro (z | z)
        · exact hn (Or.inl z)
        · refine hn (Or.inr ?_)
          rw [Int32.lt_iff_toInt_lt, hs] at z
          rw [Int32.le_iff_toInt_le, nI_toInt (by omega)]
          omega
      have hn2 : ¬ a < 0 := fun z => hn (Or.inl z)
      have hn3 : ¬ nI k ≤ a := fun z => hn (Or.inr z)
      rw [if_neg (by rw [if_neg hn1]; decide), if_neg hn2, if_neg hn3]
      simp only [gd_of hv, hc, hf i hi b]
      rcases part_or b with rfl | rfl | ⟨hb, hb0, hb1⟩
      · simp only [if_true, show ¬ ((0 : Int32) < 0 ∨ (1 : Int32) < 0) by decide, if_false, one0]
        exact agi rfl h0
      · simp only [if_true, show ¬ ((1 : Int32) < 0 ∨ (1 : Int32) < 1) by decide, if_false, one0]
        exact agi rfl h0
      · simp only [hb, hb0, hb1, if_true, if_false]
        exact agi rfl h0
    · have hn1 : a < 0 ∨ nI k - 1 < a := by
        rcases hn with z | z
        · exact Or.inl z
        · refine Or.inr ?_
          rw [Int32.le_iff_toInt_le, nI_toInt (by omega)] at z
          rw [Int32.lt_iff_toInt_lt, hs]
          omega
      simp only [hn1, if_true]
      by_cases z : a < 0
      · simp only [z, if_true]
        exact agi rfl h0
      · have z2 : nI k ≤ a := hn.resolve_left z
        simp only [z, z2, if_true, if_false]
        exact agi rfl h0
  · have h2 : ¬ I2 0 10 = 0 := hU1 ▸ h1
    simp only [h1, h2, if_false]
    exact agi rfl h0
theorem ag_cost (h : InvW I J I2 J2) (b : Int32) : Agree InvW (m_F_cost b I J) (m_R_cost b I2 J2) := by
  have h0 := h
  obtain ⟨-, ⟨hU1, -, hU3, -⟩, -, -⟩ := h
  simp only [m_F_cost, b_F_cost_0, m_R_cost, b_R_cost_0, R_within, cl1, nm]
  by_cases h1 : I 41 2 = 0
  · have h2 : I2 0 10 = 0 := hU1 ▸ h1
    obtain ⟨-, hf, -⟩ := hU3 h1
    simp only [h1, h2, if_true, hf b]
    rcases part_or b with rfl | rfl | ⟨hb, hb0, hb1⟩
    · simp only [if_true]
      exact agi rfl h0
    · simp only [one0, if_true, if_false]
      exact agi rfl h0
    · simp only [hb, hb0, hb1, if_true, if_false]
      exact agi rfl h0
  · have h2 : ¬ I2 0 10 = 0 := hU1 ▸ h1
    simp only [h1, h2, if_false]
    exact agi rfl h0
theorem ag_line (h : InvW I J I2 J2) (a : Int32) : Agree InvW (m_F_line a I J) (m_R_line a I2 J2) := by
  have h0 := h
  obtain ⟨⟨d, hR, hF, hG⟩, hU, hl1, hl2⟩ := h
  have key : InvW (va_up (va_up I 41 (upd (I 41) 10 a)) 41 (upd (va_up I 41 (upd (I 41) 10 a) 41) 11 (va_up I 41 (upd (I 41) 10 a) 41 11 + 1))) J (va_up (va_up I2 0 (upd (I2 0) 18 a)) 0 (upd (va_up I2 0 (upd (I2 0) 18 a) 0) 19 (va_up I2 0 (upd (I2 0) 18 a) 0 19 + 1))) J2 := by
    refine ⟨⟨d, hR, ⟨hF.1, hF.2.1, hF.2.2.1, hF.2.2.2.1, hF.2.2.2.2.1, hF.2.2.2.2.2.1, fun r hr j hj => by rw [va_up_ne _ _ (by omega), va_up_ne _ _ (by omega)]; exact hF.2.2.2.2.2.2.1 r hr j hj, hF.2.2.2.2.2.2.2⟩, hG⟩, hU, rfl, ?_⟩
    show I 41 11 + 1 = I2 0 19 + 1
    rw [hl2]
  simp only [m_F_line, b_F_line_0, m_R_line, b_R_line_0, F_within, R_within, cl1, nm]
  by_cases h3 : a < 0 ∨ 3 < a
  · simp only [h3, if_true]
    exact agi rfl h0
  · simp only [h3, if_false, one0]
    by_cases h1 : I 41 2 = 0
    · have h2 : I2 0 10 = 0 := hU.1 ▸ h1
      simp only [h1, h2, if_true]
      by_cases h4 : I 41 10 = 0
      · have h5 : I2 0 18 = 0 := hl1 ▸ h4
        simp only [h4, h5, if_true]
        exact agi rfl key
      · have h5 : ¬ I2 0 18 = 0 := hl1 ▸ h4
        simp only [h4, h5, if_false]
        by_cases h6 : I 41 10 = a
        · have h7 : I2 0 18 = a := hl1 ▸ h6
          rw [if_pos h6, if_pos h7]
          exact agi rfl key
        · have h7 : ¬ I2 0 18 = a := hl1 ▸ h6
          rw [if_neg h6, if_neg h7]
          exact agi rfl h0
    · have h2 : ¬ I2 0 10 = 0 := hU.1 ▸ h1
      simp only [h1, h2, if_false]
      exact agi rfl h0
theorem clash_loop (hC : I 41 6 = I2 0 17) : ∀ (t b : Nat), b + t = 18 → ∀ (F1 F2 : Nat), t < F1 → t < F2 → ∀ (x1 n : Int32), ∃ r : Int32, g_F_clash F1 (x1 - n) (nI b) I J = some (r, I, J) ∧ g_R_clash F2 x1 n (nI b) I2 J2 = some (r, I2, J2) := by
  intro t
  induction t with
  | zero =>
    intro b hb F1 F2 h1 h2 x1 n
    obtain ⟨f1, rfl⟩ : ∃ f, F1 = f + 1 := ⟨F1 - 1, by omega⟩
    obtain ⟨f2, rfl⟩ : ∃ f, F2 = f + 1 := ⟨F2 - 1, by omega⟩
    have e : b = 18 := by omega
    subst e
    exact ⟨-1, rfl, rfl⟩
  | succ t ih =>
    intro b hb F1 F2 h1 h2 x1 n
    obtain ⟨f1, rfl⟩ : ∃ f, F1 = f + 1 := ⟨F1 - 1, by omega⟩
    obtain ⟨f2, rfl⟩ : ∃ f, F2 = f + 1 := ⟨F2 - 1, by omega⟩
    have hb18 : ¬ (18 : Int32) ≤ nI b := nI_ge (b := 18) (by omega) (by decide)
    simp only [g_F_clash, g_R_clash, b_F_clash_18, b_R_clash_18, F_hasBound, cl1, nm, hb18, if_false, hC, nI_1]
    rcases bit_or (I2 0 17 >>> (nI b &&& 31)) with hz | hz
    · simp only [hz, if_true]
      have e01 : ¬ (0 : Int32) = 1 := by decide
      simp only [e01, if_false]
      exact ih (b + 1) (by omega) f1 f2 (by omega) (by omega) x1 n
    · simp only [hz, one0, if_false, if_true]
      by_cases hx : n = x1
      · have e : x1 - n = 0 := by rw [hx]; exact Int32.sub_self _
        simp only [hx, e, if_true]
        rw [hx] at e
        simp only [e, if_true]
        exact ⟨_, rfl, rfl⟩
      · have e : ¬ x1 - n = 0 := fun h => hx (by grind)
        simp only [hx, e, if_false]
        have e2 : x1 - n + (-1) = x1 - (n + 1) := by grind
        rw [e2]
        exact ih (b + 1) (by omega) f1 f2 (by omega) (by omega) x1 (n + 1)
theorem ag_clash (h : InvW I J I2 J2) (a : Int32) : Agree InvW (m_F_clash a I J) (m_R_clash a I2 J2) := by
  have h0 := h
  obtain ⟨-, ⟨hU1, -, -, hU4⟩, -, -⟩ := h
  simp only [m_F_clash, b_F_clash_0, m_R_clash, b_R_clash_0]
  by_cases h1 : I 41 2 = 1
  · have h2 : I2 0 10 = 1 := hU1 ▸ h1
    simp only [h1, h2, if_true]
    by_cases h3 : 0 ≤ a
    · simp only [h3, if_true]
      obtain ⟨r, e1, e2⟩ := clash_loop (J := J) (J2 := J2) (hU4 h1) 18 0 rfl fuel fuel (by decide) (by decide) a 0
      have e0 : a - 0 = a := by grind
      rw [e0] at e1
      exact ⟨r, I, J, I2, J2, e1, e2, h0⟩
    · simp only [h3, if_false]
      exact agi rfl h0
  · have h2 : ¬ I2 0 10 = 1 := hU1 ▸ h1
    simp only [h1, h2, if_false]
    exact agi rfl h0
end AG3
