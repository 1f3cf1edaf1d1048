/-! More of the calls that tell, and those that ask of the last run. -/
theorem F_range (a b : Int32) {m : Nat} (hm : m < 2 ^ 30) : m_F_isRange a b (nI m) = some (if a < 0 ∨ nI m < a then 0 else if b < a ∨ nI m < b then 0 else 1) := by
  unfold m_F_isRange b_F_isRange_0
  by_cases h1 : a < 0
  · simp [h1]
  · by_cases h2 : b < a
    · by_cases h3 : nI m < a <;> simp [h1, h2, h3]
    · by_cases h3 : nI m < b
      · by_cases h4 : nI m < a <;> simp [h1, h2, h3, h4]
      · have h4 : ¬ nI m < a := by
          intro h
          rw [Int32.lt_iff_toInt_lt] at h h2 h3
          omega
        simp [h1, h2, h3, h4]
section AG2
variable {I : SI} {J : SJ} {I2 : SI} {J2 : SJ}
theorem ag_stuff (h : InvW I J I2 J2) (a b : Int32) : Agree InvW (m_F_stuff a b I J) (m_R_stuff a b I2 J2) := by
  have h0 := h
  obtain ⟨⟨d, hR, hF, hG⟩, hU, hl1, hl2⟩ := h
  simp only [m_F_stuff, b_F_stuff_0, m_R_stuff, b_R_stuff_0, F_isPrice, F_isStock, R_within, cl1, nm]
  rw [hF.1, hG.1]
  by_cases hn : dn d = 4
  · have h1 : (4 : Int32) ≤ nI (dn d) := by rw [hn]; decide
    have h2 : nI (dn d) = 4 := by rw [hn]; decide
    simp only [h1, h2, if_true]
    exact agi rfl h0
  · have hn4 : dn d < 4 := by have := hR.1; omega
    have h1 : ¬ (4 : Int32) ≤ nI (dn d) := nI_ge hn4 (by decide)
    have h2 : ¬ nI (dn d) = 4 := fun e => h1 (by rw [e]; decide)
    simp only [h1, h2, if_false]
    rcases rg_or a (m := 1000) (by decide) with ⟨v, hv1, ea, hm⟩ | hm
    · subst ea
      have hm : ¬ (nI v < 0 ∨ 1000 < nI v) := hm
      simp only [hm, if_false, one0]
      rcases rg_or b (m := 40) (by decide) with ⟨u, hu1, eb, hm2⟩ | hm2
      · subst eb
        have hm2 : ¬ (nI u < 0 ∨ 40 < nI u) := hm2
        have hv : vin (nI (dn d)) 4 := vp_in_nI hn4 (by decide)
        have e9 : va_up I2 1 (upd (I2 1) (dn d) (nI v)) 0 0 = nI (dn d) := hG.1
        have e11 : va_up (va_up I2 1 (upd (I2 1) (dn d) (nI v))) 2 (upd (va_up I2 1 (upd (I2 1) (dn d) (nI v)) 2) (dn d) (nI u)) 0 0 = nI (dn d) := hG.1
        simp only [hm2, if_false, one0, gd_of hv, e9, e11, nI_clamp (show dn d < 2 ^ 31 by omega)]
        refine agi ?_ ⟨⟨(dn d + 1, up (dpr d) (dn d) v, up (dst d) (dn d) u, dls d, up (dms d) (dn d) 10, dsi d, dpt d, dln d, dmn d), ⟨by show dn d + 1 ≤ 4; omega, fun j hj => ⟨up_le (fun j hj => (hR.2.1 j hj).1) hv1 j hj, up_le (fun j hj => (hR.2.1 j hj).2.1) hu1 j hj, (hR.2.1 j hj).2.2.1, up_le (fun j hj => (hR.2.1 j hj).2.2.2.1) (Nat.le_refl 10) j hj, (hR.2.1 j hj).2.2.2.2⟩, hR.2.2⟩,
          ⟨?_, up_nI hF.2.1 _ v, up_nI hF.2.2.1 _ u, hF.2.2.2.1, up_nI hF.2.2.2.2.1 _ 10, hF.2.2.2.2.2.1, fun r hr j hj => by rw [va_up_ne _ _ (by omega), va_up_ne _ _ (by omega), va_up_ne _ _ (by omega), va_up_ne _ _ (by omega)]; exact hF.2.2.2.2.2.2.1 r hr j hj, hF.2.2.2.2.2.2.2⟩, ⟨?_, up_nI hG.2.1 _ v, up_nI hG.2.2.1 _ u, hG.2.2.2.1, up_nI hG.2.2.2.2.1 _ 10, hG.2.2.2.2.2⟩⟩, hU, hl1, hl2⟩
        · show nI (dn d) = va_up I2 1 (upd (I2 1) (dn d) (nI v)) 0 0 + 1 - 1
          show nI (dn d) = I2 0 0 + 1 - 1
          rw [hG.1, nI_1, nI_pred]
        · show nI (dn d) + 1 = nI (dn d + 1)
          exact nI_1 _
        · show I2 0 0 + 1 = nI (dn d + 1)
          rw [hG.1]
          exact nI_1 _
      · have hm2 : b < 0 ∨ 40 < b := hm2
        simp only [hm2, if_true]
        exact agi rfl h0
    · have hm : a < 0 ∨ 1000 < a := hm
      simp only [hm, if_true]
      exact agi rfl h0
theorem ag_silo (h : InvW I J I2 J2) (a b : Int32) : Agree InvW (m_F_silo a b I J) (m_R_silo a b I2 J2) := by
  have h0 := h
  obtain ⟨⟨d, hR, hF, hG⟩, hU, hl1, hl2⟩ := h
  simp only [m_F_silo, b_F_silo_0, m_R_silo, b_R_silo_0, F_isStuff hR.1 hF.1, R_isStuff hG.1, F_within, R_within, cl3, cl1, nm]
  rcases st_or a hR.1 with ⟨i, hi, ea, hn, hv, hc⟩ | hn
  · have i4 : i < 4 := by have := hR.1; omega
    have key : ∀ v : Nat, (v = 0 ∨ 5 ≤ v) → v ≤ 40 → InvW (va_up I 5 (upd (I 5) i (nI v))) J (va_up I2 6 (upd (I2 6) i (nI v))) J2 := fun v hv1 hv2 =>
      ⟨⟨(dn d, dpr d, dst d, dls d, dms d, up (dsi d) i v, dpt d, dln d, dmn d), ⟨hR.1, fun j hj => ⟨(hR.2.1 j hj).1, (hR.2.1 j hj).2.1, (hR.2.1 j hj).2.2.1, (hR.2.1 j hj).2.2.2.1, by show up (dsi d) i v j = 0 ∨ 5 ≤ up (dsi d) i v j; unfold up; split; exact hv1; exact (hR.2.1 j hj).2.2.2.2.1, up_le (fun j hj => (hR.2.1 j hj).2.2.2.2.2) hv2 j hj⟩, hR.2.2⟩, ⟨hF.1, hF.2.1, hF.2.2.1, hF.2.2.2.1, hF.2.2.2.2.1, up_nI hF.2.2.2.2.2.1 i v, fun r hr j hj => by rw [va_up_ne _ _ (by omega)]; exact hF.2.2.2.2.2.2.1 r hr j hj, hF.2.2.2.2.2.2.2⟩, ⟨hG.1, hG.2.1, hG.2.2.1, hG.2.2.2.1, hG.2.2.2.2.1, up_nI hG.2.2.2.2.2.1 i v, hG.2.2.2.2.2.2⟩⟩, hU, hl1, hl2⟩
    by_cases hb : b = 0
    · subst hb
      simp only [hn, if_false, one0, if_true, gd_of hv, hc]
      exact agi rfl (key 0 (Or.inl rfl) (by decide))
    · rcases rg_or b (m := 40) (by decide) with ⟨v, hv1, eb, hm⟩ | hm
      · by_cases h5 : 5 ≤ v
        · have hm2 : ¬ (b < 5 ∨ 40 < b) := by
            rintro (z | z)
            · rw [eb] at z; exact nI_nlt (a := v) (b := 5) h5 (by omega) z
            · exact hm (Or.inr z)
          simp only [hn, hb, hm2, if_false, one0, gd_of hv, hc]
          rw [eb]
          exact agi rfl (key v (Or.inr h5) hv1)
        · have hm2 : b < 5 ∨ 40 < b := Or.inl (by rw [eb]; exact nI_lt (b := 5) (by omega) (by decide))
          simp only [hn, hb, hm2, if_false, if_true, one0]
          exact agi rfl h0
      · have hm2 : b < 5 ∨ 40 < b := by
          rcases hm with z | z
          · left
            rw [Int32.lt_iff_toInt_lt] at z ⊢
            have e0 : (0 : Int32).toInt = 0 := rfl
            have e5 : (5 : Int32).toInt = 5 := rfl
            omega
          · exact Or.inr z
        simp only [hn, hb, hm2, if_false, if_true, one0]
        exact agi rfl h0
  · simp only [hn, if_true]
    exact agi rfl h0
theorem ag_shares (h : InvW I J I2 J2) (a b c : Int32) : Agree InvW (m_F_shares a b c I J) (m_R_shares a b c I2 J2) := by
  have h0 := h
  obtain ⟨⟨d, hR, hF, hG⟩, hU, hl1, hl2⟩ := h
  simp only [m_F_shares, b_F_shares_0, m_R_shares, b_R_shares_0, F_isStuff hR.1 hF.1, R_isStuff hG.1, show m_F_isRange b c 10 = _ from F_range b c (m := 10) (by decide), R_within, cl3, cl1, nm]
  rcases st_or a hR.1 with ⟨i, hi, ea, hn, hv, hc⟩ | hn
  · have i4 : i < 4 := by have := hR.1; omega
    rcases rg_or b (m := 10) (by decide) with ⟨v, hv1, eb, hm⟩ | hm
    · have hm' : ¬ (b < 0 ∨ 10 < b) := hm
      by_cases h2 : c < b ∨ nI 10 < c
      · have h2' : c < b ∨ 10 < c := h2
        simp only [hn, hm, hm', h2, h2', if_false, if_true, one0]
        exact agi rfl h0
      · have h2' : ¬ (c < b ∨ 10 < c) := h2
        simp only [hn, hm, hm', h2, h2', if_false, one0, gd_of hv, hc]
        rcases rg_or c (m := 10) (by decide) with ⟨u, hu1, ec, -⟩ | hm3
        · rw [eb, ec]
          exact agi rfl ⟨⟨(dn d, dpr d, dst d, up (dls d) i v, up (dms d) i u, dsi d, dpt d, dln d, dmn d), ⟨hR.1, fun j hj => ⟨(hR.2.1 j hj).1, (hR.2.1 j hj).2.1, up_le (fun j hj => (hR.2.1 j hj).2.2.1) hv1 j hj, up_le (fun j hj => (hR.2.1 j hj).2.2.2.1) hu1 j hj, (hR.2.1 j hj).2.2.2.2⟩, hR.2.2⟩, ⟨hF.1, hF.2.1, hF.2.2.1, up_nI hF.2.2.2.1 i v, up_nI hF.2.2.2.2.1 i u, hF.2.2.2.2.2.1, fun r hr j hj => by rw [va_up_ne _ _ (by omega), va_up_ne _ _ (by omega)]; exact hF.2.2.2.2.2.2.1 r hr j hj, hF.2.2.2.2.2.2.2⟩, ⟨hG.1, hG.2.1, hG.2.2.1, up_nI hG.2.2.2.1 i v, up_nI hG.2.2.2.2.1 i u, hG.2.2.2.2.2⟩⟩, hU, hl1, hl2⟩
        · exfalso
          rcases hm3 with z | z
          · refine h2 (Or.inl ?_)
            rw [eb, Int32.lt_iff_toInt_lt, nI_toInt (by omega)]
            rw [Int32.lt_iff_toInt_lt] at z
            have e0 : (0 : Int32).toInt = 0 := rfl
            omega
          · exact h2 (Or.inr z)
    · have hm' : b < 0 ∨ 10 < b := hm
      simp only [hn, hm, hm', if_false, if_true, one0]
      exact agi rfl h0
  · simp only [hn, if_true]
    exact agi rfl h0
theorem ag_need (h : InvW I J I2 J2) (a b c : Int32) : Agree InvW (m_F_need a b c I J) (m_R_need a b c I2 J2) := by
  have h0 := h
  obtain ⟨⟨d, hR, hF, hG⟩, hU, hl1, hl2⟩ := h
  simp only [m_F_need, b_F_need_0, m_R_need, b_R_need_0, F_isNutrient, show m_F_isRange b c 40 = _ from F_range b c (m := 40) (by decide), R_within, cl1, nm]
  rcases rg_or a (m := 2) (by decide) with ⟨i, hi, ea, hn⟩ | hn
  · have hn' : ¬ (a < 0 ∨ 2 < a) := hn
    have hv : vin a 3 := by rw [ea]; exact vp_in_nI (by omega) (by decide)
    have hc : a.toNatClampNeg = i := by rw [ea]; exact nI_clamp (by omega)
    rcases rg_or b (m := 40) (by decide) with ⟨v, hv1, eb, hm⟩ | hm
    · have hm' : ¬ (b < 0 ∨ 40 < b) := hm
      by_cases h2 : c < b ∨ nI 40 < c
      · have h2' : c < b ∨ 40 < c := h2
        simp only [hn', hm, hm', h2, h2', if_false, if_true, one0]
        exact agi rfl h0
      · have h2' : ¬ (c < b ∨ 40 < c) := h2
        simp only [hn', hm, hm', h2, h2', if_false, one0, gd_of hv, hc]
        rcases rg_or c (m := 40) (by decide) with ⟨u, hu1, ec, -⟩ | hm3
        · have hvu : v ≤ u := by
            rcases Nat.lt_or_ge u v with z | z
            · exact absurd (Or.inl (by rw [ec, eb]; exact nI_lt z (by omega))) h2
            · exact z
          rw [eb, ec]
          refine agi rfl ⟨⟨(dn d, dpr d, dst d, dls d, dms d, dsi d, dpt d, up (dln d) i v, up (dmn d) i u), ⟨hR.1, hR.2.1, hR.2.2.1, fun r hr => ⟨?_, up_le (fun j hj => (hR.2.2.2 j hj).2) hu1 r hr⟩⟩, ⟨hF.1, hF.2.1, hF.2.2.1, hF.2.2.2.1, hF.2.2.2.2.1, hF.2.2.2.2.2.1, fun r hr j hj => by rw [va_up_ne _ _ (by omega), va_up_ne _ _ (by omega)]; exact hF.2.2.2.2.2.2.1 r hr j hj, up_nI hF.2.2.2.2.2.2.2.1 i v, up_nI hF.2.2.2.2.2.2.2.2 i u⟩, ⟨hG.1, hG.2.1, hG.2.2.1, hG.2.2.2.1, hG.2.2.2.2.1, hG.2.2.2.2.2.1, hG.2.2.2.2.2.2.1, up_nI hG.2.2.2.2.2.2.2.1 i v, up_nI hG.2.2.2.2.2.2.2.2 i u⟩⟩, hU, hl1, hl2⟩
          show up (dln d) i v r ≤ up (dmn d) i u r
          unfold up
          split
          · exact hvu
          · exact (hR.2.2.2 r hr).1
        · exfalso
          rcases hm3 with z | z
          · refine h2 (Or.inl ?_)
            rw [eb, Int32.lt_iff_toInt_lt, nI_toInt (by omega)]
            rw [Int32.lt_iff_toInt_lt] at z
            have e0 : (0 : Int32).toInt = 0 := rfl
            omega
          · exact h2 (Or.inr z)
    · have hm' : b < 0 ∨ 40 < b := hm
      simp only [hn', hm, hm', if_false, if_true, one0]
      exact agi rfl h0
  · have hn' : a < 0 ∨ 2 < a := hn
    simp only [hn', if_true]
    exact agi rfl h0
theorem ag_holds (h : InvW I J I2 J2) (a b c : Int32) : Agree InvW (m_F_holds a b c I J) (m_R_holds a b c I2 J2) := by
  have h0 := h
  obtain ⟨⟨d, hR, hF, hG⟩, hU, hl1, hl2⟩ := h
  simp only [m_F_holds, b_F_holds_0, m_R_holds, b_R_holds_0, F_isStuff hR.1 hF.1, R_isStuff hG.1, F_isNutrient, F_within, R_within, cl3, cl1, nm]
  rcases st_or a hR.1 with ⟨i, hi, ea, hn, hv, hc⟩ | hn
  · have i4 : i < 4 := by have := hR.1; omega
    rcases rg_or b (m := 2) (by decide) with ⟨r0, hr1, eb, hm⟩ | hm
    · have hm' : ¬ (b < 0 ∨ 2 < b) := hm
      have hvb : vin b 3 := by rw [eb]; exact vp_in_nI (by omega) (by decide)
      have hcb : b.toNatClampNeg = r0 := by rw [eb]; exact nI_clamp (by omega)
      rcases rg_or c (m := 40) (by decide) with ⟨u, hu1, ec, hm2⟩ | hm2
      · have hm2' : ¬ (c < 0 ∨ 40 < c) := hm2
        have e4 : 4 * b + a = nI (4 * r0 + i) := by
          rw [ea, eb, ← nI_add, ← pk_mul]
          rfl
        have hv4 : vin (4 * b + a) 12 := by rw [e4]; exact vp_in_nI (by omega) (by decide)
        have hc4 : (4 * b + a).toNatClampNeg = 4 * r0 + i := by rw [e4]; exact nI_clamp (by omega)
        simp only [hn, hm', hm2', if_false, one0, gd_of hv, gd_of hvb, gd_of hv4, hc, hcb, hc4]
        rw [ec]
        have h3 : r0 = 0 ∨ r0 = 1 ∨ r0 = 2 := by omega
        rcases h3 with rfl | rfl | rfl
        · refine agi rfl ⟨⟨(dn d, dpr d, dst d, dls d, dms d, dsi d, fun r j => if r = 0 then up (dpt d 0) i u j else dpt d r j, dln d, dmn d), ⟨hR.1, hR.2.1, fun r hr j hj => ?_, hR.2.2.2⟩, ⟨hF.1, hF.2.1, hF.2.2.1, hF.2.2.2.1, hF.2.2.2.2.1, hF.2.2.2.2.2.1, fun r hr j hj => ?_, hF.2.2.2.2.2.2.2⟩, ⟨hG.1, hG.2.1, hG.2.2.1, hG.2.2.2.1, hG.2.2.2.2.1, hG.2.2.2.2.2.1, fun r hr j hj => ?_, hG.2.2.2.2.2.2.2⟩⟩, hU, hl1, hl2⟩
          · show (if r = 0 then up (dpt d 0) i u j else dpt d r j) ≤ 40
            split
            · exact up_le (fun j hj => hR.2.2.1 0 (by decide) j hj) hu1 j hj
            · exact hR.2.2.1 r hr j hj
          · show va_up I (7 + 0) (upd (I (7 + 0)) i (nI u)) (7 + r) j = nI (if r = 0 then up (dpt d 0) i u j else dpt d r j)
            by_cases e : r = 0
            · subst e
              rw [va_up_self, if_pos rfl]
              exact up_nI (fun j hj => hF.2.2.2.2.2.2.1 0 (by decide) j hj) i u j hj
            · rw [va_up_ne _ _ (by omega), if_neg e]
              exact hF.2.2.2.2.2.2.1 r hr j hj
          · show upd (I2 3) (4 * 0 + i) (nI u) (4 * r + j) = nI (if r = 0 then up (dpt d 0) i u j else dpt d r j)
            unfold upd up
            by_cases e : r = 0
            · subst e
              by_cases e2 : j = i
              · subst e2
                rw [if_pos rfl, if_pos rfl, if_pos rfl]
              · rw [if_neg (by omega), if_pos rfl, if_neg e2]
                exact hG.2.2.2.2.2.2.1 0 (by decide) j hj
            · rw [if_neg (by omega), if_neg e]
              exact hG.2.2.2.2.2.2.1 r hr j hj
        · refine agi rfl ⟨⟨(dn d, dpr d, dst d, dls d, dms d, dsi d, fun r j => if r = 1 then up (dpt d 1) i u j else dpt d r j, dln d, dmn d), ⟨hR.1, hR.2.1, fun r hr j hj => ?_, hR.2.2.2⟩, ⟨hF.1, hF.2.1, hF.2.2.1, hF.2.2.2.1, hF.2.2.2.2.1, hF.2.2.2.2.2.1, fun r hr j hj => ?_, hF.2.2.2.2.2.2.2⟩, ⟨hG.1, hG.2.1, hG.2.2.1, hG.2.2.2.1, hG.2.2.2.2.1, hG.2.2.2.2.2.1, fun r hr j hj => ?_, hG.2.2.2.2.2.2.2⟩⟩, hU, hl1, hl2⟩
          · show (if r = 1 then up (dpt d 1) i u j else dpt d r j) ≤ 40
            split
            · exact up_le (fun j hj => hR.2.2.1 1 (by decide) j hj) hu1 j hj
            · exact hR.2.2.1 r hr j hj
          · show va_up I (7 + 1) (upd (I (7 + 1)) i (nI u)) (7 + r) j = nI (if r = 1 then up (dpt d 1) i u j else dpt d r j)
            by_cases e : r = 1
            · subst e
              rw [va_up_self, if_pos rfl]
              exact up_nI (fun j hj => hF.2.2.2.2.2.2.1 1 (by decide) j hj) i u j hj
            · rw [va_up_ne _ _ (by omega), if_neg e]
              exact hF.2.2.2.2.2.2.1 r hr j hj
          · show upd (I2 3) (4 * 1 + i) (nI u) (4 * r + j) = nI (if r = 1 then up (dpt d 1) i u j else dpt d r j)
            unfold upd up
            by_cases e : r = 1
            · subst e
              by_cases e2 : j = i
              · subst e2
                rw [if_pos rfl, if_pos rfl, if_pos rfl]
              · rw [if_neg (by omega), if_pos rfl, if_neg e2]
                exact hG.2.2.2.2.2.2.1 1 (by decide) j hj
            · rw [if_neg (by omega), if_neg e]
              exact hG.2.2.2.2.2.2.1 r hr j hj
        · refine agi rfl ⟨⟨(dn d, dpr d, dst d, dls d, dms d, dsi d, fun r j => if r = 2 then up (dpt d 2) i u j else dpt d r j, dln d, dmn d), ⟨hR.1, hR.2.1, fun r hr j hj => ?_, hR.2.2.2⟩, ⟨hF.1, hF.2.1, hF.2.2.1, hF.2.2.2.1, hF.2.2.2.2.1, hF.2.2.2.2.2.1, fun r hr j hj => ?_, hF.2.2.2.2.2.2.2⟩, ⟨hG.1, hG.2.1, hG.2.2.1, hG.2.2.2.1, hG.2.2.2.2.1, hG.2.2.2.2.2.1, fun r hr j hj => ?_, hG.2.2.2.2.2.2.2⟩⟩, hU, hl1, hl2⟩
          · show (if r = 2 then up (dpt d 2) i u j else dpt d r j) ≤ 40
            split
            · exact up_le (fun j hj => hR.2.2.1 2 (by decide) j hj) hu1 j hj
            · exact hR.2.2.1 r hr j hj
          · show va_up I (7 + 2) (upd (I (7 + 2)) i (nI u)) (7 + r) j = nI (if r = 2 then up (dpt d 2) i u j else dpt d r j)
            by_cases e : r = 2
            · subst e
              rw [va_up_self, if_pos rfl]
              exact up_nI (fun j hj => hF.2.2.2.2.2.2.1 2 (by decide) j hj) i u j hj
            · rw [va_up_ne _ _ (by omega), if_neg e]
              exact hF.2.2.2.2.2.2.1 r hr j hj
          · show upd (I2 3) (4 * 2 + i) (nI u) (4 * r + j) = nI (if r = 2 then up (dpt d 2) i u j else dpt d r j)
            unfold upd up
            by_cases e : r = 2
            · subst e
              by_cases e2 : j = i
              · subst e2
                rw [if_pos rfl, if_pos rfl, if_pos rfl]
              · rw [if_neg (by omega), if_pos rfl, if_neg e2]
                exact hG.2.2.2.2.2.2.1 2 (by decide) j hj
            · rw [if_neg (by omega), if_neg e]
              exact hG.2.2.2.2.2.2.1 r hr j hj
      · have hm2' : c < 0 ∨ 40 < c := hm2
        simp only [hn, hm', hm2', if_false, if_true, one0]
        exact agi rfl h0
    · have hm' : b < 0 ∨ 2 < b := hm
      simp only [hn, hm', if_false, if_true, one0]
      exact agi rfl h0
  · simp only [hn, if_true]
    exact agi rfl h0
end AG2
