/-! dearer: both sides agree. -/
section AD
variable {I : SI} {J : SJ} {I2 : SI} {J2 : SJ}
/-- the same, with one more at least of a nutrient -/
def dUp (d : Dt) (n : Nat) : Dt := (dn d, dpr d, dst d, dls d, dms d, dsi d, dpt d, up (dln d) n (dln d n + 1), dmn d)
theorem dUp_rg {d : Dt} {n : Nat} (h : Rg d) (hn : n < 3) (hl : dln d n < dmn d n) : Rg (dUp d n) := by
  refine ⟨h.1, h.2.1, h.2.2.1, fun r hr => ?_⟩
  have g := h.2.2.2 r hr
  show up (dln d) n (dln d n + 1) r ≤ dmn d r ∧ dmn d r ≤ 40
  unfold up
  by_cases e : r = n
  · rw [if_pos e, e]
    have := h.2.2.2 n hn
    omega
  · rw [if_neg e]; exact g
theorem dUp_Gd {d : Dt} {w n : Nat} {x y z : Rat} (h : Gd (dUp d n) w x y z) : Gd d w x y z := by
  refine ⟨⟨h.1.1, fun b hb hs => ?_⟩, h.2⟩
  have g := h.1.2 b hb hs
  have le : ∀ r, (dln d r : Int) ≤ (dln (dUp d n) r : Int) := fun r => by
    show (dln d r : Int) ≤ ((up (dln d) n (dln d n + 1) r : Nat) : Int)
    unfold up
    split
    · next e => rw [e]; omega
    · exact Int.le_refl _
  have lv : isL b → lev d w b ≤ lev (dUp d n) w b := fun l => by
    unfold lev
    by_cases c4 : b < 4
    · rw [if_pos c4, if_pos c4]; exact Int.le_refl _
    · rw [if_neg c4, if_neg c4]
      by_cases c8 : b < 8
      · rw [if_pos c8, if_pos c8]; exact Int.le_refl _
      · rw [if_neg c8, if_neg c8]
        by_cases c12 : b < 12
        · rw [if_pos c12, if_pos c12]; exact Int.le_refl _
        · rw [if_neg c12, if_neg c12]
          by_cases c15 : b < 15
          · rw [if_pos c15, if_pos c15]
            exact Int.mul_le_mul_of_nonneg_left (le (b - 12)) (by omega)
          · rw [if_neg c15, if_neg c15]; exact Int.le_refl _
  have lq : ¬ isL b → lev (dUp d n) w b = lev d w b := fun l => by
    unfold lev
    by_cases c4 : b < 4
    · rw [if_pos c4, if_pos c4]; rfl
    · rw [if_neg c4, if_neg c4]
      by_cases c8 : b < 8
      · rw [if_pos c8, if_pos c8]; rfl
      · rw [if_neg c8, if_neg c8]
        by_cases c12 : b < 12
        · rw [if_pos c12, if_pos c12]; rfl
        · rw [if_neg c12, if_neg c12]
          by_cases c15 : b < 15
          · exfalso; apply l; unfold isL; omega
          · rw [if_neg c15, if_neg c15]; rfl
  refine ⟨fun l => Rat.le_trans (Rat.intCast_le_intCast.mpr (lv l)) (g.1 l), fun l => ?_⟩
  have := g.2 l
  rw [lq l] at this
  exact this
/-- more is asked for: it is no cheaper -/
theorem dearer_nn {d d' : Dt} {w : Nat} {J J' : SJ} {A A' : Nat → Int} {u u' : Int} (hp : prd d' = prd d) (hs : ∀ x y z, Gd d' w x y z → Gd d w x y z) (h : BsF d w J A u) (h' : BsF d' w J' A' u') : 0 ≤ sum4 (prd d) A' * u - sum4 (prd d) A * u' := by
  apply Classical.byContradiction
  intro q
  have u0 := h.1.2.1
  have u0' := h'.1.2.1
  have b : btr (prd d) A' u' (some (A, u)) := Or.inl (by omega)
  have kn := (btr_kneg u0' u0 h'.2.1 h.2.1).mp b
  have k1 : kle (wv (prd d)) (qd (A' 0) u') (qd (A' 1) u') (qd (A' 2) u') (qd (A 0) u) (qd (A 1) u) (qd (A 2) u) := Or.inl kn
  have k2 := h.2.2.2 _ _ _ (hs _ _ _ h'.2.2.1)
  obtain ⟨e1, e2, e3⟩ := kle_anti k1 k2
  rw [e1, e2, e3] at kn
  unfold kneg at kn
  have z : ∀ r : Rat, r - r = 0 := fun r => by grind
  rw [z, z, z] at kn
  grind
theorem ag_dearer (h : InvW I J I2 J2) (a b : Int32) : Agree InvW (m_F_dearer a b I J) (m_R_dearer a b I2 J2) := by
  have h0 := h
  obtain ⟨⟨d, hR, hF, hG⟩, hU, hl1, hl2⟩ := h
  have hn4 := hR.1
  obtain ⟨hU1, hU2, hU3, hU4⟩ := hU
  -- what lies at rest stays
  have inv : ∀ {K : SI} {L : SJ} {K2 : SI} {L2 : SJ}, ToF d K → ToR d K2 → K 41 = I 41 → L 35 = J 35 → L 36 = J 36 → (∀ j, j ≠ 23 → j ≠ 28 → K2 0 j = I2 0 j) → L2 9 = J2 9 → L2 10 = J2 10 → L2 0 14 = J2 0 14 → L2 0 15 = J2 0 15 → InvW K L K2 L2 := fun {K L K2 L2} t1 t2 e1 e2 e3 e4 e5 e6 e7 e8 => by
    refine ⟨⟨d, hR, t1, t2⟩, ⟨?_, ?_, ?_, ?_⟩, ?_, ?_⟩
    · rw [e1, e4 10 (by decide) (by decide)]; exact hU1
    · rw [e1, e4 9 (by decide) (by decide)]; exact hU2
    · rw [e1, e2, e3, e4 11 (by decide) (by decide), e4 16 (by decide) (by decide), e5, e6, e7, e8]; exact hU3
    · rw [e1, e4 17 (by decide) (by decide)]; exact hU4
    · rw [e1, e4 18 (by decide) (by decide)]; exact hl1
    · rw [e1, e4 19 (by decide) (by decide)]; exact hl2
  by_cases hrun : I 41 2 = -1
  · have f : m_F_dearer a b I J = some (-1, I, J) := by
      simp only [m_F_dearer, b_F_dearer_0, hrun, if_true]
    have g : m_R_dearer a b I2 J2 = some (-1, I2, J2) := by
      have e : I2 0 10 < 0 := by rw [← hU1, hrun]; decide
      simp only [m_R_dearer, b_R_dearer_0, e, if_true]
    rw [f, g]
    exact agi rfl h0
  · obtain ⟨hans, w, w1, w2, ew, ew2⟩ := hU2.resolve_left hrun
    have nneg : ¬ I2 0 10 < 0 := by
      rw [← hU1]
      rcases hans with e | e | e <;> rw [e] <;> decide
    rcases rg_or a (m := 2) (by decide) with ⟨n, hn, ea, hin⟩ | hout
    · subst ea
      have hin : ¬ (nI n < 0 ∨ 2 < nI n) := hin
      have vn : vin (nI n) 3 := vp_in_nI (by omega) (by decide)
      have kn : (nI n).toNatClampNeg = n := nI_clamp (show n < 2 ^ 31 by omega)
      have g3 := hR.2.2.2 n (by omega)
      have v6 := hF.2.2.2.2.2.2.2.1 n (by omega)
      have v8 := hF.2.2.2.2.2.2.2.2 n (by omega)
      have v9 := hG.2.2.2.2.2.2.2.1 n (by omega)
      have v11 := hG.2.2.2.2.2.2.2.2 n (by omega)
      by_cases hl : dln d n < dmn d n
      · have le : ¬ nI (dmn d n) ≤ nI (dln d n) := nI_ge hl (by omega)
        have ne : ¬ nI (dln d n) = nI (dmn d n) := fun z => by have := (nI_inj (by omega) (by omega)).mp z; omega
        -- the class
        have r37 : ∀ k, k < 35 → rho 37 k = k := fun k hk => by unfold rho; rw [if_pos hk]
        have r39 : ∀ k, k < 35 → rho 39 k = k := fun k hk => by unfold rho; rw [if_pos hk]
        have F1 : ToF d (sI 37 I) := ToF_same hF (fun k hk => by show I (rho 37 k) = I k; rw [r37 k (by omega)])
        obtain ⟨x, I11, J12, f1, f2, f3, f4, f5⟩ := findBest_ok hR ⟨w1, w2⟩ (sJ 37 J) F1
        obtain ⟨I14, e14⟩ : ∃ z : SI, z = mrg 37 I I11 := ⟨_, rfl⟩
        obtain ⟨J15, e15⟩ : ∃ z : SJ, z = mrg 37 J J12 := ⟨_, rfl⟩
        have k14 : ∀ k, k < 12 → I14 k = I k := fun k hk => by rw [e14, mrg_lt (by omega), f2 k hk]; show I (rho 37 k) = I k; rw [r37 k (by omega)]
        have o14 : I14 41 = I 41 := by rw [e14, mrg_o (by omega) (by omega) (by omega)]
        have p35 : J15 35 = J 35 := by rw [e15, mrg_o (by omega) (by omega) (by omega)]
        have p36 : J15 36 = J 36 := by rw [e15, mrg_o (by omega) (by omega) (by omega)]
        have p37 : J15 37 = J12 35 := by rw [e15, mrg_b (by omega)]
        -- the reference
        obtain ⟨y, K14, L15, r1, r2, r3, r4, r5⟩ := mixes_ok hR w2 J2 hG
        have T14 : ToR d K14 := ToR_of hG (r2.2 0 (by decide) (by decide)) (fun k a b => r2.1 k (by omega) (by omega) (by omega) (by omega) (by omega))
        have stF : m_F_dearer (nI n) b I J = if x = 0 then some (-1, I14, J15) else cl3 (m_E_findBest ((va_up I14 10 (upd (I14 10) n (nI (dln d n + 1)))) 41 3) (sI 39 (va_up I14 10 (upd (I14 10) n (nI (dln d n + 1))))) (sJ 39 J15)) fun r20 I21 J22 => if r20 = 0 then some (-1, va_up (mrg 39 (va_up I14 10 (upd (I14 10) n (nI (dln d n + 1)))) I21) 10 (upd ((mrg 39 (va_up I14 10 (upd (I14 10) n (nI (dln d n + 1)))) I21) 10) n (nI (dln d n))), mrg 39 J15 J22) else cl1 (m_F_partOf ((mrg 39 J15 J22) 39 1 * (mrg 39 J15 J22) 37 2 - (mrg 39 J15 J22) 37 1 * (mrg 39 J15 J22) 39 2) (10 * (mrg 39 J15 J22) 37 2 * (mrg 39 J15 J22) 39 2) b) fun r34 => some (r34, va_up (mrg 39 (va_up I14 10 (upd (I14 10) n (nI (dln d n + 1)))) I21) 10 (upd ((mrg 39 (va_up I14 10 (upd (I14 10) n (nI (dln d n + 1)))) I21) 10) n (nI (dln d n))), mrg 39 J15 J22) := by
          simp only [m_F_dearer, b_F_dearer_0, if_neg hrun, F_isNutrient, cl1, if_neg hin, one0, if_false, gd_of vn, kn, nm, v6, v8, if_neg le, ew, f1, cl3, nI_1]
          rw [← e14, ← e15]
        by_cases hb : b = 0 ∨ b = 1
        · have hb' : ¬ (b < 0 ∨ 1 < b) := by rcases hb with rfl | rfl <;> decide
          have stR : m_R_dearer (nI n) b I2 J2 = if y = 0 then some (-1, K14, L15) else cl3 (m_R_costOf 17 K14 L15) fun r18 I19 J20 => gd (vin (nI n) 3) <| nm (I19 7 n) fun v23 => nm (v23 + 1) fun v24 => gd (vin (nI n) 3) <| nm (va_up I19 7 (upd (I19 7) n v24)) fun I26 => cl3 (m_R_mixes (I26 0 9) I26 J20) fun r27 I28 J29 => gd (vin (nI n) 3) <| nm (I28 7 n) fun v32 => nm (v32 - 1) fun v33 => gd (vin (nI n) 3) <| nm (va_up I28 7 (upd (I28 7) n v33)) fun I35 => if r27 = 0 then some (-1, I35, J29) else cl3 (m_R_costOf 17 I35 J29) fun r37 I38 J39 => cl1 (m_R_divisor (r37 * (J20 0 30) - r18 * (J39 0 30)) ((J20 0 30) * (J39 0 30))) fun r45 => if b = 0 then gd (¬ r45 = 0) <| some ((r37 * (J20 0 30) - r18 * (J39 0 30)) / r45, I38, J39) else gd (¬ r45 = 0) <| some (((J20 0 30) * (J39 0 30)) / r45, I38, J39) := by
            have hin2 : ¬ (nI n < 0 ∨ 2 < nI n) := hin
            simp only [m_R_dearer, b_R_dearer_0, if_neg nneg, R_within, cl1, if_neg hin2, if_neg hb', one0, if_false, gd_of vn, kn, nm, v9, v11, if_neg ne, ew2, r1, cl3]
          rw [stF, stR]
          have stop : InvW I14 J15 K14 L15 := inv (ToF_same hF k14) T14 o14 p35 p36 r2.2 (r3.1 9 (by decide) (by decide) (by decide) (by decide)) (r3.1 10 (by decide) (by decide) (by decide) (by decide)) (r3.2 14 (by decide) (by decide)) (r3.2 15 (by decide) (by decide))
          rcases f5 with ⟨rfl, px, py, pz, hp⟩ | ⟨rfl, hno⟩
          · obtain ⟨A, u, hA⟩ := BQ_get f4 ⟨px, py, pz, hp⟩
            rcases RB_get r5 with ⟨ey, B, v, hB⟩ | ⟨-, q⟩
            · have y1 : y = 1 := by rw [r4, ey]
              subst y1
              rw [if_neg (by decide), if_neg (by decide)]
              -- one more
              obtain ⟨I19, e19⟩ : ∃ z : SI, z = va_up I14 10 (upd (I14 10) n (nI (dln d n + 1))) := ⟨_, rfl⟩
              rw [← e19]
              have hR' := dUp_rg hR (by omega) hl
              have k19 : ∀ k, k ≠ 10 → I19 k = I14 k := fun k hk => by rw [e19, va_up_ne _ _ hk]
              have F14 : ToF d I14 := ToF_same hF k14
              have F19 : ToF (dUp d n) I19 := by
                obtain ⟨t0, t1, t2, t3, t4, t5, t6, t7, t8⟩ := F14
                refine ⟨by rw [k19 0 (by decide)]; exact t0, by rw [k19 1 (by decide)]; exact t1, by rw [k19 2 (by decide)]; exact t2, by rw [k19 3 (by decide)]; exact t3, by rw [k19 4 (by decide)]; exact t4, by rw [k19 5 (by decide)]; exact t5, fun r hr i hi => by rw [k19 (7 + r) (by omega)]; exact t6 r hr i hi, ?_, by rw [k19 11 (by decide)]; exact t8⟩
                rw [e19, va_up_self]
                exact up_nI t7 n (dln d n + 1)
              have F19' : ToF (dUp d n) (sI 39 I19) := ToF_same F19 (fun k hk => by show I19 (rho 39 k) = I19 k; rw [r39 k (by omega)])
              have w19 : I19 41 3 = nI w := by rw [k19 41 (by decide), o14, ew]
              obtain ⟨x', I21, J22, c1, c2, c3, c4, c5⟩ := findBest_ok hR' ⟨w1, w2⟩ (sJ 39 J15) F19'
              rw [w19, c1]
              -- the reference's one more
              obtain ⟨vv, vw, b1, b2, b3, b4, b5⟩ := hB.1
              have cost : m_R_costOf 17 K14 L15 = some (i6 (sum4 (prd d) B), K14, L15) := by rw [r_cost hR T14 (Or.inr rfl) b1, ← sum4_sR hn4 b3]
              rw [cost]
              have v23 := T14.2.2.2.2.2.2.2.1 n (by omega)
              simp only [cl3, gd_of vn, nm, v23, nI_1]
              obtain ⟨K26, g26⟩ : ∃ z : SI, z = va_up K14 7 (upd (K14 7) n (nI (dln d n + 1))) := ⟨_, rfl⟩
              rw [← g26]
              have l26 : ∀ k, k ≠ 7 → K26 k = K14 k := fun k hk => by rw [g26, va_up_ne _ _ hk]
              have T26 : ToR (dUp d n) K26 := by
                obtain ⟨t0, t1, t2, t3, t4, t5, t6, t7, t8⟩ := T14
                refine ⟨by rw [l26 0 (by decide)]; exact t0, by rw [l26 1 (by decide)]; exact t1, by rw [l26 2 (by decide)]; exact t2, by rw [l26 4 (by decide)]; exact t3, by rw [l26 5 (by decide)]; exact t4, by rw [l26 6 (by decide)]; exact t5, fun r hr i hi => by rw [l26 3 (by decide)]; exact t6 r hr i hi, ?_, by rw [l26 8 (by decide)]; exact t8⟩
                rw [g26, va_up_self]
                exact up_nI t7 n (dln d n + 1)
              have w26 : K26 0 9 = nI w := by rw [l26 0 (by decide), r2.2 9 (by decide) (by decide), ew2]
              obtain ⟨y', K28, L29, s1, s2, s3, s4, s5⟩ := mixes_ok hR' w2 L15 T26
              rw [w26, s1]
              have T28 : ToR (dUp d n) K28 := ToR_of T26 (s2.2 0 (by decide) (by decide)) (fun k a b => s2.1 k (by omega) (by omega) (by omega) (by omega) (by omega))
              have v32 : K28 7 n = nI (dln d n + 1) := by
                have := T28.2.2.2.2.2.2.2.1 n (by omega)
                rw [this]
                show nI (up (dln d) n (dln d n + 1) n) = _
                unfold up
                rw [if_pos rfl]
              simp only [v32, nI_pred]
              -- and back
              obtain ⟨K35, g35⟩ : ∃ z : SI, z = va_up K28 7 (upd (K28 7) n (nI (dln d n))) := ⟨_, rfl⟩
              rw [← g35]
              have l35 : ∀ k, k ≠ 7 → K35 k = K28 k := fun k hk => by rw [g35, va_up_ne _ _ hk]
              have T35 : ToR d K35 := by
                obtain ⟨t0, t1, t2, t3, t4, t5, t6, t7, t8⟩ := T28
                refine ⟨by rw [l35 0 (by decide)]; exact t0, by rw [l35 1 (by decide)]; exact t1, by rw [l35 2 (by decide)]; exact t2, by rw [l35 4 (by decide)]; exact t3, by rw [l35 5 (by decide)]; exact t4, by rw [l35 6 (by decide)]; exact t5, fun r hr i hi => by rw [l35 3 (by decide)]; exact t6 r hr i hi, fun r hr => ?_, by rw [l35 8 (by decide)]; exact t8⟩
                rw [g35, va_up_self]
                unfold upd
                by_cases e : r = n
                · rw [if_pos e, e]
                · rw [if_neg e, t7 r hr]
                  show nI (up (dln d) n (dln d n + 1) r) = _
                  unfold up
                  rw [if_neg e]
              obtain ⟨I24, e24⟩ : ∃ z : SI, z = mrg 39 I19 I21 := ⟨_, rfl⟩
              obtain ⟨J25, e25⟩ : ∃ z : SJ, z = mrg 39 J15 J22 := ⟨_, rfl⟩
              obtain ⟨I27, e27⟩ : ∃ z : SI, z = va_up I24 10 (upd (I24 10) n (nI (dln d n))) := ⟨_, rfl⟩
              rw [← e24, ← e25, ← e27]
              have k24 : ∀ k, k < 12 → I24 k = I19 k := fun k hk => by rw [e24, mrg_lt (by omega), c2 k hk]; show I19 (rho 39 k) = I19 k; rw [r39 k (by omega)]
              have k27 : ∀ k, k < 12 → k ≠ 10 → I27 k = I14 k := fun k a b => by rw [e27, va_up_ne _ _ b, k24 k a, k19 k b]
              have F27 : ToF d I27 := by
                obtain ⟨t0, t1, t2, t3, t4, t5, t6, t7, t8⟩ := F14
                refine ⟨by rw [k27 0 (by decide) (by decide)]; exact t0, by rw [k27 1 (by decide) (by decide)]; exact t1, by rw [k27 2 (by decide) (by decide)]; exact t2, by rw [k27 3 (by decide) (by decide)]; exact t3, by rw [k27 4 (by decide) (by decide)]; exact t4, by rw [k27 5 (by decide) (by decide)]; exact t5, fun r hr i hi => by rw [k27 (7 + r) (by omega) (by omega)]; exact t6 r hr i hi, fun r hr => ?_, by rw [k27 11 (by decide) (by decide)]; exact t8⟩
                rw [e27, va_up_self]
                unfold upd
                by_cases e : r = n
                · rw [if_pos e, e]
                · rw [if_neg e, k24 10 (by decide), e19, va_up_self]
                  unfold upd
                  rw [if_neg e]
                  exact t7 r hr
              have o27 : I27 41 = I 41 := by rw [e27, va_up_ne _ _ (by decide), e24, mrg_o (by omega) (by omega) (by omega), k19 41 (by decide), o14]
              have z35 : J25 35 = J 35 := by rw [e25, mrg_o (by omega) (by omega) (by omega), p35]
              have z36 : J25 36 = J 36 := by rw [e25, mrg_o (by omega) (by omega) (by omega), p36]
              have z37 : J25 37 = J12 35 := by rw [e25, mrg_o (by omega) (by omega) (by omega), p37]
              have z39 : J25 39 = J22 35 := by rw [e25, mrg_b (by omega)]
              have fin : InvW I27 J25 K35 L29 := inv F27 T35 o27 z35 z36 (fun j a b => by rw [l35 0 (by decide), s2.2 j a b, l26 0 (by decide), r2.2 j a b]) (by rw [s3.1 9 (by decide) (by decide) (by decide) (by decide), r3.1 9 (by decide) (by decide) (by decide) (by decide)]) (by rw [s3.1 10 (by decide) (by decide) (by decide) (by decide), r3.1 10 (by decide) (by decide) (by decide) (by decide)]) (by rw [s3.2 14 (by decide) (by decide), r3.2 14 (by decide) (by decide)]) (by rw [s3.2 15 (by decide) (by decide), r3.2 15 (by decide) (by decide)])
              rcases c5 with ⟨rfl, qx, qy, qz, hq⟩ | ⟨rfl, hno⟩
              · obtain ⟨A', u', hA'⟩ := BQ_get c4 ⟨qx, qy, qz, hq⟩
                rcases RB_get s5 with ⟨ey', B', v', hB'⟩ | ⟨-, q⟩
                · have y1 : y' = 1 := by rw [s4, ey']
                  subst y1
                  rw [if_neg (by decide), if_neg (by decide)]
                  obtain ⟨vv', vw', b1', b2', b3', b4', b5'⟩ := hB'.1
                  have pe : prd (dUp d n) = prd d := rfl
                  have cost' : m_R_costOf 17 K35 L29 = some (i6 (sum4 (prd d) B'), K35, L29) := by rw [r_cost hR T35 (Or.inr rfl) b1', ← sum4_sR hn4 b3']
                  rw [cost']
                  simp only [z37, z39, hA.1.1, hA.1.2.2.2.2, hA'.1.1, hA'.1.2.2.2.2, pe, b2, b2', i6_10, i6_mul, i6_sub]
                  have A0 := BsF_nn hA
                  have A0' := BsF_nn hA'
                  have B0 := BsR_nn hB
                  have B0' := BsR_nn hB'
                  have be := (best_eq hA hB).1
                  have be' := (best_eq hA' hB').1
                  have u0 := hA.1.2.1
                  have u1 := hA.1.2.2.1
                  have u0' := hA'.1.2.1
                  have u1' := hA'.1.2.2.1
                  have cA := sum4_eq be (prd d)
                  have cA' := sum4_eq be' (prd d)
                  have nn := dearer_nn (d' := dUp d n) pe (fun x y z q => dUp_Gd q) hA hA'
                  have pp : ∀ i, i < 4 → 0 ≤ prd d i ∧ prd d i ≤ 1000 := fun i hi => by
                    have := (hR.2.1 i hi).1
                    unfold prd
                    omega
                  have sA := sum4_nn hR A0
                  have sA' := sum4_le pp (fun i hi => (hA'.1.2.2.2.1 i hi).2)
                  have sB' := sum4_le pp b4'
                  have sB := sum4_nn hR B0
                  have sB0' := sum4_nn hR B0'
                  -- the two differences are one fraction
                  have key : (sum4 (prd d) A' * u - sum4 (prd d) A * u') * (v * v') = (sum4 (prd d) B' * v - sum4 (prd d) B * v') * (10 * u * u') := by
                    have e1 : (sum4 (prd d) A' * u - sum4 (prd d) A * u') * (v * v') = (sum4 (prd d) A' * v') * (u * v) - (sum4 (prd d) A * v) * (u' * v') := by
                      generalize sum4 (prd d) A' = p
                      generalize sum4 (prd d) A = q
                      grind
                    rw [e1, cA, cA']
                    generalize sum4 (prd d) B' = p
                    generalize sum4 (prd d) B = q
                    grind
                  have uu : 0 < 10 * u * u' := Int.mul_pos (by omega) u0'
                  have vvp : 0 < v * v' := Int.mul_pos vv vv'
                  have mr : 0 ≤ sum4 (prd d) B' * v - sum4 (prd d) B * v' := by
                    apply Classical.byContradiction
                    intro q
                    have q1 : (sum4 (prd d) B' * v - sum4 (prd d) B * v') * (10 * u * u') < 0 := Int.mul_neg_of_neg_of_pos (by omega) uu
                    rw [← key] at q1
                    have q2 : 0 ≤ (sum4 (prd d) A' * u - sum4 (prd d) A * u') * (v * v') := Int.mul_nonneg nn (by omega)
                    omega
                  have m1 := mulAB (a := sum4 (prd d) A') (A := 4000000000000) (b := u) (B := 384000) (by omega) (by omega) (by omega) (by omega)
                  have m2 : 0 ≤ sum4 (prd d) A * u' := Int.mul_nonneg sA (by omega)
                  have m3 := mulAB (a := 10 * u) (A := 3840000) (b := u') (B := 384000) (by omega) (by omega) (by omega) (by omega)
                  have m4 := mulAB (a := sum4 (prd d) B') (A := 4000000000000) (b := v) (B := 384000) (by omega) (by omega) (by omega) (by omega)
                  have m5 : 0 ≤ sum4 (prd d) B * v' := Int.mul_nonneg sB (by omega)
                  have m6 := mulAB (a := v) (A := 384000) (b := v') (B := 384000) (by omega) (by omega) (by omega) (by omega)
                  have fr := frac_gen nn (by omega) uu (by omega) mr vvp key b
                  rw [fr]
                  obtain ⟨p, ep⟩ : ∃ p, p = (sum4 (prd d) B' * v - sum4 (prd d) B * v').toNat := ⟨_, rfl⟩
                  obtain ⟨t, et⟩ : ∃ t, t = (v * v').toNat := ⟨_, rfl⟩
                  have ep' : sum4 (prd d) B' * v - sum4 (prd d) B * v' = ((p : Nat) : Int) := by rw [ep]; exact (Int.toNat_of_nonneg mr).symm
                  have et' : v * v' = ((t : Nat) : Int) := by rw [et]; exact (Int.toNat_of_nonneg (by omega)).symm
                  rw [← ep, ← et, ep', et']
                  have p62 : p < 2 ^ 62 := by omega
                  have t62 : t < 2 ^ 62 := by omega
                  have t0 : 0 < t := by omega
                  have g0 : 0 < Nat.gcd p t := Nat.gcd_pos_of_pos_right _ t0
                  have g1 : Nat.gcd p t ≤ t := Nat.gcd_le_right _ t0
                  rw [dv_ok p62 t62]
                  simp only [cl1, gd_of (n0_of g0 (show Nat.gcd p t < 2 ^ 62 by omega)), i6_q p62 g0 (show Nat.gcd p t < 2 ^ 62 by omega), i6_q t62 g0 (show Nat.gcd p t < 2 ^ 62 by omega)]
                  rcases hb with rfl | rfl
                  · rw [if_pos rfl, if_pos rfl]
                    exact agi rfl fin
                  · rw [if_neg (by decide), if_pos rfl, if_neg (by decide)]
                    exact agi rfl fin
                · exact absurd hq (q _ _ _)
              · rcases RB_get s5 with ⟨-, B', v', hB'⟩ | ⟨ey', -⟩
                · exact absurd hB'.2.1 (hno _ _ _)
                · have y1 : y' = 0 := by rw [s4, ey']
                  subst y1
                  rw [if_pos rfl, if_pos rfl]
                  exact agi rfl fin
            · exact absurd hp (q _ _ _)
          · rcases RB_get r5 with ⟨-, B, v, hB⟩ | ⟨ey, -⟩
            · exact absurd hB.2.1 (hno _ _ _)
            · have y1 : y = 0 := by rw [r4, ey]
              subst y1
              rw [if_pos rfl, if_pos rfl]
              exact agi rfl stop
        · -- no such part
          have hb' : b < 0 ∨ 1 < b := by
            apply Classical.byContradiction
            intro q
            have q1 : ¬ b < 0 := fun z => q (Or.inl z)
            have q2 : ¬ 1 < b := fun z => q (Or.inr z)
            rw [Int32.lt_iff_toInt_lt] at q1 q2
            have t0 : (0 : Int32).toInt = 0 := by decide
            have t1 : (1 : Int32).toInt = 1 := by decide
            have t : b.toInt = 0 ∨ b.toInt = 1 := by omega
            rcases t with t | t
            · exact hb (Or.inl (Int32.toInt_inj.mp (by rw [t, t0])))
            · exact hb (Or.inr (Int32.toInt_inj.mp (by rw [t, t1])))
          have stR : m_R_dearer (nI n) b I2 J2 = some (-1, I2, J2) := by
            have hin2 : ¬ (nI n < 0 ∨ 2 < nI n) := hin
            simp only [m_R_dearer, b_R_dearer_0, if_neg nneg, R_within, cl1, if_neg hin2, if_pos hb', one0, if_false, if_true]
          have stays : ∀ {K : SI} {L : SJ}, ToF d K → K 41 = I 41 → L 35 = J 35 → L 36 = J 36 → InvW K L I2 J2 := fun {K L} t1 e1 e2 e3 => inv t1 hG e1 e2 e3 (fun _ _ _ => rfl) rfl rfl rfl rfl
          rw [stF, stR]
          rcases f5 with ⟨rfl, px, py, pz, hp⟩ | ⟨rfl, hno⟩
          · obtain ⟨A, u, hA⟩ := BQ_get f4 ⟨px, py, pz, hp⟩
            rw [if_neg (by decide)]
            obtain ⟨I19, e19⟩ : ∃ z : SI, z = va_up I14 10 (upd (I14 10) n (nI (dln d n + 1))) := ⟨_, rfl⟩
            rw [← e19]
            have hR' := dUp_rg hR (by omega) hl
            have k19 : ∀ k, k ≠ 10 → I19 k = I14 k := fun k hk => by rw [e19, va_up_ne _ _ hk]
            have F14 : ToF d I14 := ToF_same hF k14
            have F19 : ToF (dUp d n) I19 := by
              obtain ⟨t0, t1, t2, t3, t4, t5, t6, t7, t8⟩ := F14
              refine ⟨by rw [k19 0 (by decide)]; exact t0, by rw [k19 1 (by decide)]; exact t1, by rw [k19 2 (by decide)]; exact t2, by rw [k19 3 (by decide)]; exact t3, by rw [k19 4 (by decide)]; exact t4, by rw [k19 5 (by decide)]; exact t5, fun r hr i hi => by rw [k19 (7 + r) (by omega)]; exact t6 r hr i hi, ?_, by rw [k19 11 (by decide)]; exact t8⟩
              rw [e19, va_up_self]
              exact up_nI t7 n (dln d n + 1)
            have F19' : ToF (dUp d n) (sI 39 I19) := ToF_same F19 (fun k hk => by show I19 (rho 39 k) = I19 k; rw [r39 k (by omega)])
            have w19 : I19 41 3 = nI w := by rw [k19 41 (by decide), o14, ew]
            obtain ⟨x', I21, J22, c1, c2, c3, c4, c5⟩ := findBest_ok hR' ⟨w1, w2⟩ (sJ 39 J15) F19'
            rw [w19, c1]
            simp only [cl3]
            obtain ⟨I24, e24⟩ : ∃ z : SI, z = mrg 39 I19 I21 := ⟨_, rfl⟩
            obtain ⟨J25, e25⟩ : ∃ z : SJ, z = mrg 39 J15 J22 := ⟨_, rfl⟩
            obtain ⟨I27, e27⟩ : ∃ z : SI, z = va_up I24 10 (upd (I24 10) n (nI (dln d n))) := ⟨_, rfl⟩
            rw [← e24, ← e25, ← e27]
            have k24 : ∀ k, k < 12 → I24 k = I19 k := fun k hk => by rw [e24, mrg_lt (by omega), c2 k hk]; show I19 (rho 39 k) = I19 k; rw [r39 k (by omega)]
            have k27 : ∀ k, k < 12 → k ≠ 10 → I27 k = I14 k := fun k a b => by rw [e27, va_up_ne _ _ b, k24 k a, k19 k b]
            have F27 : ToF d I27 := by
              obtain ⟨t0, t1, t2, t3, t4, t5, t6, t7, t8⟩ := F14
              refine ⟨by rw [k27 0 (by decide) (by decide)]; exact t0, by rw [k27 1 (by decide) (by decide)]; exact t1, by rw [k27 2 (by decide) (by decide)]; exact t2, by rw [k27 3 (by decide) (by decide)]; exact t3, by rw [k27 4 (by decide) (by decide)]; exact t4, by rw [k27 5 (by decide) (by decide)]; exact t5, fun r hr i hi => by rw [k27 (7 + r) (by omega) (by omega)]; exact t6 r hr i hi, fun r hr => ?_, by rw [k27 11 (by decide) (by decide)]; exact t8⟩
              rw [e27, va_up_self]
              unfold upd
              by_cases e : r = n
              · rw [if_pos e, e]
              · rw [if_neg e, k24 10 (by decide), e19, va_up_self]
                unfold upd
                rw [if_neg e]
                exact t7 r hr
            have o27 : I27 41 = I 41 := by rw [e27, va_up_ne _ _ (by decide), e24, mrg_o (by omega) (by omega) (by omega), k19 41 (by decide), o14]
            have z35 : J25 35 = J 35 := by rw [e25, mrg_o (by omega) (by omega) (by omega), p35]
            have z36 : J25 36 = J 36 := by rw [e25, mrg_o (by omega) (by omega) (by omega), p36]
            have z37 : J25 37 = J12 35 := by rw [e25, mrg_o (by omega) (by omega) (by omega), p37]
            have z39 : J25 39 = J22 35 := by rw [e25, mrg_b (by omega)]
            have fin := stays F27 o27 z35 z36
            rcases c5 with ⟨rfl, qx, qy, qz, hq⟩ | ⟨rfl, hno⟩
            · obtain ⟨A', u', hA'⟩ := BQ_get c4 ⟨qx, qy, qz, hq⟩
              have pe : prd (dUp d n) = prd d := rfl
              rw [if_neg (by decide)]
              simp only [z37, z39, hA.1.1, hA.1.2.2.2.2, hA'.1.1, hA'.1.2.2.2.2, pe, i6_10, i6_mul, i6_sub]
              have u0 := hA.1.2.1
              have u1 := hA.1.2.2.1
              have u0' := hA'.1.2.1
              have u1' := hA'.1.2.2.1
              have nn := dearer_nn (d' := dUp d n) pe (fun x y z q => dUp_Gd q) hA hA'
              have pp : ∀ i, i < 4 → 0 ≤ prd d i ∧ prd d i ≤ 1000 := fun i hi => by
                have := (hR.2.1 i hi).1
                unfold prd
                omega
              have sA := sum4_nn hR (BsF_nn hA)
              have sA' := sum4_le pp (fun i hi => (hA'.1.2.2.2.1 i hi).2)
              have uu : 0 < 10 * u * u' := Int.mul_pos (by omega) u0'
              have m1 := mulAB (a := sum4 (prd d) A') (A := 4000000000000) (b := u) (B := 384000) (by omega) (by omega) (by omega) (by omega)
              have m2 : 0 ≤ sum4 (prd d) A * u' := Int.mul_nonneg sA (by omega)
              have m3 := mulAB (a := 10 * u) (A := 3840000) (b := u') (B := 384000) (by omega) (by omega) (by omega) (by omega)
              have fr := frac_gen nn (by omega) uu (by omega) nn uu rfl b
              rw [fr, if_neg (fun z => hb (Or.inl z)), if_neg (fun z => hb (Or.inr z))]
              simp only [cl1]
              exact agi rfl fin
            · rw [if_pos rfl]
              exact agi rfl fin
          · rw [if_pos rfl]
            exact agi rfl (stays (ToF_same hF k14) o14 p35 p36)
      · have e : dln d n = dmn d n := by omega
        have f : m_F_dearer (nI n) b I J = some (-1, I, J) := by
          simp only [m_F_dearer, b_F_dearer_0, if_neg hrun, F_isNutrient, cl1, if_neg hin, one0, if_false, gd_of vn, kn, nm, v6, v8]
          rw [if_pos (nI_le (by omega) (by omega))]
        have g : m_R_dearer (nI n) b I2 J2 = some (-1, I2, J2) := by
          have hin2 : ¬ (nI n < 0 ∨ 2 < nI n) := hin
          simp only [m_R_dearer, b_R_dearer_0, if_neg nneg, R_within, cl1, if_neg hin2, one0, if_false, gd_of vn, kn, nm, v9, v11, e, if_true]
          split <;> rfl
        rw [f, g]
        exact agi rfl h0
    · have hout : a < 0 ∨ 2 < a := hout
      have f : m_F_dearer a b I J = some (-1, I, J) := by
        simp only [m_F_dearer, b_F_dearer_0, if_neg hrun, F_isNutrient, cl1, if_pos hout, if_true]
      have g : m_R_dearer a b I2 J2 = some (-1, I2, J2) := by
        simp only [m_R_dearer, b_R_dearer_0, if_neg nneg, R_within, cl1, if_pos hout, if_true]
      rw [f, g]
      exact agi rfl h0
end AD
