/-! The calls that tell: both take them alike. -/
def up (f : Nat → Nat) (k v : Nat) : Nat → Nat := fun j => if j = k then v else f j
theorem up_nI {f : Nat → Nat} {g : Nat → Int32} {N : Nat} (h : ∀ i, i < N → g i = nI (f i)) (k v : Nat) : ∀ i, i < N → upd g k (nI v) i = nI (up f k v i) := by
  intro i hi
  unfold upd up
  split
  · rfl
  · exact h i hi
theorem up_le {f : Nat → Nat} {N m : Nat} (h : ∀ i, i < N → f i ≤ m) {k v : Nat} (hv : v ≤ m) : ∀ i, i < N → up f k v i ≤ m := by
  intro i hi
  unfold up
  split
  · exact hv
  · exact h i hi
theorem st_or (a : Int32) {n : Nat} (hn : n ≤ 4) : (∃ i, i < n ∧ a = nI i ∧ ¬ (a < 0 ∨ nI n ≤ a) ∧ vin a 4 ∧ a.toNatClampNeg = i) ∨ (a < 0 ∨ nI n ≤ a) := by
  rcases pk_ix a (n := n) (by omega) with h | h | ⟨j, hj, rfl⟩
  · exact Or.inr (Or.inl h)
  · exact Or.inr (Or.inr h)
  · refine Or.inl ⟨j, hj, rfl, ?_, vp_in_nI (by omega) (by omega), nI_clamp (by omega)⟩
    rintro (h | h)
    · exact nI_pos (by omega) h
    · exact nI_ge hj (by omega) h
theorem rg_or (a : Int32) {m : Nat} (hm : m < 2 ^ 30) : (∃ j, j ≤ m ∧ a = nI j ∧ ¬ (a < 0 ∨ nI m < a)) ∨ (a < 0 ∨ nI m < a) := by
  rcases wi_or a hm with ⟨j, h1, h2, h3, h4⟩ | ⟨h, -⟩
  · exact Or.inl ⟨j, h1, h2, fun h => h.elim h3 h4⟩
  · exact Or.inr h
theorem one0 : ((1 : Int32) = 0) = False := by decide
theorem agi {α : Type} {r r2 : α} {I : SI} {J : SJ} {I2 : SI} {J2 : SJ} (e : r = r2) (h : InvW I J I2 J2) : Agree InvW (some (r, I, J)) (some (r2, I2, J2)) := ⟨r, I, J, I2, J2, rfl, by rw [e], h⟩
section AG
variable {I : SI} {J : SJ} {I2 : SI} {J2 : SJ}
theorem ag_price (h : InvW I J I2 J2) (a b : Int32) : Agree InvW (m_F_price a b I J) (m_R_price a b I2 J2) := by
  have h0 := h
  obtain ⟨⟨d, hR, hF, hG⟩, hU, hl1, hl2⟩ := h
  simp only [m_F_price, b_F_price_0, m_R_price, b_R_price_0, F_isStuff hR.1 hF.1, R_isStuff hG.1, F_isPrice, R_within, cl3, cl1, nm]
  rcases st_or a hR.1 with ⟨i, hi, ea, hn, hv, hc⟩ | hn
  · rcases rg_or b (m := 1000) (by decide) with ⟨v, hv1, eb, hm⟩ | hm
    · subst eb
      have hm : ¬ (nI v < 0 ∨ 1000 < nI v) := hm
      simp only [hn, hm, if_false, one0, gd_of hv, hc]
      have i4 : i < 4 := by have := hR.1; omega
      refine agi (by rw [hF.2.1 i i4, hG.2.1 i i4]) ⟨⟨(dn d, up (dpr d) i v, dst d, dls d, dms d, dsi d, dpt d, dln d, dmn d), ⟨hR.1, fun j hj => ⟨up_le (fun j hj => (hR.2.1 j hj).1) hv1 j hj, (hR.2.1 j hj).2⟩, hR.2.2⟩, ⟨hF.1, up_nI hF.2.1 i v, hF.2.2.1, hF.2.2.2.1, hF.2.2.2.2.1, hF.2.2.2.2.2.1, fun r hr j hj => by rw [va_up_ne _ _ (by omega)]; exact hF.2.2.2.2.2.2.1 r hr j hj, hF.2.2.2.2.2.2.2⟩, ⟨hG.1, up_nI hG.2.1 i v, hG.2.2⟩⟩, hU, hl1, hl2⟩
    · have hm : b < 0 ∨ 1000 < b := hm
      simp only [hn, hm, if_false, if_true, one0]
      exact ⟨-1, I, J, I2, J2, rfl, rfl, h0⟩
  · simp only [hn, if_true]
    exact ⟨-1, I, J, I2, J2, rfl, rfl, h0⟩
theorem ag_stock (h : InvW I J I2 J2) (a b : Int32) : Agree InvW (m_F_stock a b I J) (m_R_stock a b I2 J2) := by
  have h0 := h
  obtain ⟨⟨d, hR, hF, hG⟩, hU, hl1, hl2⟩ := h
  simp only [m_F_stock, b_F_stock_0, m_R_stock, b_R_stock_0, F_isStuff hR.1 hF.1, R_isStuff hG.1, F_isStock, R_within, cl3, cl1, nm]
  rcases st_or a hR.1 with ⟨i, hi, ea, hn, hv, hc⟩ | hn
  · rcases rg_or b (m := 40) (by decide) with ⟨v, hv1, eb, hm⟩ | hm
    · subst eb
      have hm : ¬ (nI v < 0 ∨ 40 < nI v) := hm
      simp only [hn, hm, if_false, one0, gd_of hv, hc]
      have i4 : i < 4 := by have := hR.1; omega
      refine agi (by rw [hF.2.2.1 i i4, hG.2.2.1 i i4]) ⟨⟨(dn d, dpr d, up (dst d) i v, dls d, dms d, dsi d, dpt d, dln d, dmn d), ⟨hR.1, fun j hj => ⟨(hR.2.1 j hj).1, up_le (fun j hj => (hR.2.1 j hj).2.1) hv1 j hj, (hR.2.1 j hj).2.2⟩, hR.2.2⟩, ⟨hF.1, hF.2.1, up_nI hF.2.2.1 i v, hF.2.2.2.1, hF.2.2.2.2.1, hF.2.2.2.2.2.1, fun r hr j hj => by rw [va_up_ne _ _ (by omega)]; exact hF.2.2.2.2.2.2.1 r hr j hj, hF.2.2.2.2.2.2.2⟩, ⟨hG.1, hG.2.1, up_nI hG.2.2.1 i v, hG.2.2.2⟩⟩, hU, hl1, hl2⟩
    · have hm : b < 0 ∨ 40 < b := hm
      simp only [hn, hm, if_false, if_true, one0]
      exact ⟨-1, I, J, I2, J2, rfl, rfl, h0⟩
  · simp only [hn, if_true]
    exact ⟨-1, I, J, I2, J2, rfl, rfl, h0⟩
theorem ag_tight (h : InvW I J I2 J2) : Agree InvW (m_F_tight I J) (m_R_tight I2 J2) := by
  have h0 := h
  obtain ⟨-, ⟨hU1, -, hU3, -⟩, -, -⟩ := h
  simp only [m_F_tight, b_F_tight_0, m_R_tight, b_R_tight_0]
  by_cases h1 : I 41 2 = 0
  · have h2 : I2 0 10 = 0 := hU1 ▸ h1
    simp only [h1, h2, if_true]
    exact agi (hU3 h1).2.2 h0
  · have h2 : ¬ I2 0 10 = 0 := hU1 ▸ h1
    simp only [h1, h2, if_false]
    exact ⟨-1, I, J, I2, J2, rfl, rfl, h0⟩
theorem ag_made (h : InvW I J I2 J2) : Agree InvW (m_F_made I J) (m_R_made I2 J2) := by
  have h0 := h
  obtain ⟨-, -, -, h4⟩ := h
  exact ⟨_, _, _, _, _, rfl, by simp only [m_R_made, b_R_made_0, h4], h0⟩
theorem ag_clean (h : InvW I J I2 J2) : Agree InvW (m_F_clean I J) (m_R_clean I2 J2) := by
  obtain ⟨⟨d, hR, hF, hG⟩, hU, hl1, hl2⟩ := h
  simp only [m_F_clean, b_F_clean_0, m_R_clean, b_R_clean_0, nm]
  refine agi hl1 ⟨⟨d, hR, ⟨hF.1, hF.2.1, hF.2.2.1, hF.2.2.2.1, hF.2.2.2.2.1, hF.2.2.2.2.2.1, fun r hr j hj => by rw [va_up_ne _ _ (by omega)]; exact hF.2.2.2.2.2.2.1 r hr j hj, hF.2.2.2.2.2.2.2⟩, hG⟩, hU, rfl, hl2⟩
end AG
