/-! run and dearer: both sides agree. -/
section AR
variable {I : SI} {J : SJ} {I2 : SI} {J2 : SJ}
theorem BQ_get {d : Dt} {w : Nat} {J : SJ} (h : BQ (prd d) (10 * w) J (Gd d w)) (he : ∃ x y z, Gd d w x y z) : ∃ A u, BsF d w J A u := by
  rcases h with ⟨-, h⟩ | ⟨A, u, h⟩
  · obtain ⟨x, y, z, q⟩ := he
    exact absurd q (h x y z)
  · exact ⟨A, u, h⟩
theorem RB_get {d : Dt} {w : Nat} {I : SI} {J : SJ} (h : RB d w I J (Gd d w)) : (I 0 28 = 1 ∧ ∃ B v, BsR d w J B v) ∨ (I 0 28 = 0 ∧ ∀ x y z, ¬ Gd d w x y z) := by
  rcases h with h | ⟨e, B, v, h⟩
  · exact Or.inr h
  · exact Or.inl ⟨e, B, v, h⟩
theorem Bs_J {pr : Nat → Int} {J J' : SJ} {A : Nat → Int} {u : Int} (h : Bs pr J (some (A, u))) (e1 : J' 35 = J 35) (e2 : J' 36 = J 36) : Bs pr J' (some (A, u)) := ⟨by rw [e1]; exact h.1, h.2.1, h.2.2.1, fun i hi => by rw [e2]; exact h.2.2.2.1 i hi, by rw [e1]; exact h.2.2.2.2⟩
theorem ag_run (h : InvW I J I2 J2) (a : Int32) : Agree InvW (m_F_run a I J) (m_R_run a I2 J2) := by
  have h0 := h
  obtain ⟨⟨d, hR, hF, hG⟩, hU, hl1, hl2⟩ := h
  have hn := hR.1
  -- not taken
  by_cases hw : ∃ w : Nat, 1 ≤ w ∧ w ≤ 40 ∧ a = nI w
  · obtain ⟨w, w1, w2, rfl⟩ := hw
    have inW : ¬ (nI w < 1 ∨ 40 < nI w) := by
      rintro (z | z)
      · exact nI_nlt (b := 1) w1 (by omega) z
      · exact nI_nlt (a := 40) (b := w) w2 (by decide) z
    by_cases d0 : dn d = 0
    · have f : m_F_run (nI w) I J = some (-1, I, J) := by
        simp only [m_F_run, b_F_run_0, F_within, cl1, if_neg inW, one0, if_false, hF.1, d0]
        rfl
      have g : m_R_run (nI w) I2 J2 = some (-1, I2, J2) := by
        simp only [m_R_run, b_R_run_0, R_within, cl1, if_neg inW, one0, if_false, hG.1, d0]
        rfl
      rw [f, g]
      exact agi rfl h0
    · have dz : ¬ nI (dn d) = 0 := fun z => d0 ((nI_inj (b := 0) (by omega) (by decide)).mp z)
      -- the class
      obtain ⟨I5, e5⟩ : ∃ z : SI, z = va_up I 41 (upd (I 41) 3 (nI w)) := ⟨_, rfl⟩
      obtain ⟨I6, e6⟩ : ∃ z : SI, z = va_up I5 41 (upd (I5 41) 4 (I5 0 0)) := ⟨_, rfl⟩
      obtain ⟨I7, e7⟩ : ∃ z : SI, z = va_up I6 41 (upd (I6 41) 5 0) := ⟨_, rfl⟩
      obtain ⟨I8, e8⟩ : ∃ z : SI, z = va_up I7 41 (upd (I7 41) 6 0) := ⟨_, rfl⟩
      have k8 : ∀ k, k ≠ 41 → I8 k = I k := fun k hk => by rw [e8, va_up_ne _ _ hk, e7, va_up_ne _ _ hk, e6, va_up_ne _ _ hk, e5, va_up_ne _ _ hk]
      have j8 : ∀ j, j ≠ 3 → j ≠ 4 → j ≠ 5 → j ≠ 6 → I8 41 j = I 41 j := fun j a b c e => by
        rw [e8, va_up_self]; unfold upd; rw [if_neg e, e7, va_up_self]; unfold upd; rw [if_neg c, e6, va_up_self]; unfold upd; rw [if_neg b, e5, va_up_self]; unfold upd; rw [if_neg a]
      have j83 : I8 41 3 = nI w := by
        rw [e8, va_up_self]; unfold upd; rw [if_neg (by decide), e7, va_up_self]; unfold upd; rw [if_neg (by decide), e6, va_up_self]; unfold upd; rw [if_neg (by decide), e5, va_up_self]; unfold upd; rw [if_pos rfl]
      have j84 : I8 41 4 = nI (dn d) := by
        rw [e8, va_up_self]; unfold upd; rw [if_neg (by decide), e7, va_up_self]; unfold upd; rw [if_neg (by decide), e6, va_up_self]; unfold upd; rw [if_pos rfl, e5, va_up_ne _ _ (by decide), hF.1]
      have F8 : ToF d I8 := ToF_same hF (fun k hk => k8 k (by omega))
      obtain ⟨x, I10, J11, f1, f2, f3, f4, f5⟩ := findBest_ok hR ⟨w1, w2⟩ J F8
      obtain ⟨I13, e13⟩ : ∃ z : SI, z = mrg 35 I8 I10 := ⟨_, rfl⟩
      obtain ⟨J14, e14⟩ : ∃ z : SJ, z = mrg 35 J J11 := ⟨_, rfl⟩
      have k13 : ∀ k, k < 12 → I13 k = I k := fun k hk => by rw [e13, mrg_lt (by omega), f2 k hk, k8 k (by omega)]
      have k13' : I13 12 = I10 12 := by rw [e13, mrg_lt (by omega)]
      have o13 : I13 41 = I8 41 := by rw [e13, mrg_o (by omega) (by omega) (by omega)]
      have J35' : J14 35 = J11 35 := by rw [e14, mrg_b (by omega)]
      have J36' : J14 36 = J11 36 := by rw [e14]; exact mrg_c (b := 35) (by omega)
      have cls : m_F_run (nI w) I J = if x = 0 then cl3 (m_E_canKeepBounds (nI w) I13 J14) fun r16 I17 J18 => if r16 = 0 then cl3 (m_E_clashingBounds (nI w) (va_up (mrg 35 I13 I17) 41 (upd ((mrg 35 I13 I17) 41) 2 1)) (mrg 35 J14 J18)) fun r24 I25 J26 => some ((va_up (mrg 35 (va_up (mrg 35 I13 I17) 41 (upd ((mrg 35 I13 I17) 41) 2 1)) I25) 41 (upd ((mrg 35 (va_up (mrg 35 I13 I17) 41 (upd ((mrg 35 I13 I17) 41) 2 1)) I25) 41) 6 r24)) 41 2, va_up (mrg 35 (va_up (mrg 35 I13 I17) 41 (upd ((mrg 35 I13 I17) 41) 2 1)) I25) 41 (upd ((mrg 35 (va_up (mrg 35 I13 I17) 41 (upd ((mrg 35 I13 I17) 41) 2 1)) I25) 41) 6 r24), mrg 35 (mrg 35 J14 J18) J26) else some ((va_up (mrg 35 I13 I17) 41 (upd ((mrg 35 I13 I17) 41) 2 2)) 41 2, va_up (mrg 35 I13 I17) 41 (upd ((mrg 35 I13 I17) 41) 2 2), mrg 35 J14 J18) else cl3 (m_E_tightBounds (va_up I13 41 (upd (I13 41) 2 0)) J14) fun r33 I34 J35 => some ((va_up (mrg 35 (va_up I13 41 (upd (I13 41) 2 0)) I34) 41 (upd ((mrg 35 (va_up I13 41 (upd (I13 41) 2 0)) I34) 41) 5 r33)) 41 2, va_up (mrg 35 (va_up I13 41 (upd (I13 41) 2 0)) I34) 41 (upd ((mrg 35 (va_up I13 41 (upd (I13 41) 2 0)) I34) 41) 5 r33), mrg 35 J14 J35) := by
        simp only [m_F_run, b_F_run_0, F_within, cl1, if_neg inW, one0, if_false, hF.1, if_neg dz, nm]
        rw [← e5]
        rw [← e6]
        rw [← e7]
        rw [← e8]
        simp only [sI35, sJ35, f1, cl3]
        rw [← e13, ← e14]
      -- the reference
      obtain ⟨K5, g5⟩ : ∃ z : SI, z = va_up I2 0 (upd (I2 0) 9 (nI w)) := ⟨_, rfl⟩
      obtain ⟨K6, g6⟩ : ∃ z : SI, z = va_up K5 0 (upd (K5 0) 11 (K5 0 0)) := ⟨_, rfl⟩
      have l6 : ∀ k, k ≠ 0 → K6 k = I2 k := fun k hk => by rw [g6, va_up_ne _ _ hk, g5, va_up_ne _ _ hk]
      have m6 : ∀ j, j ≠ 9 → j ≠ 11 → K6 0 j = I2 0 j := fun j a b => by rw [g6, va_up_self]; unfold upd; rw [if_neg b, g5, va_up_self]; unfold upd; rw [if_neg a]
      have m69 : K6 0 9 = nI w := by rw [g6, va_up_self]; unfold upd; rw [if_neg (by decide), g5, va_up_self]; unfold upd; rw [if_pos rfl]
      have m611 : K6 0 11 = nI (dn d) := by rw [g6, va_up_self]; unfold upd; rw [if_pos rfl, g5, va_up_self]; unfold upd; rw [if_neg (by decide), hG.1]
      have T6 : ToR d K6 := ToR_of hG (m6 0 (by decide) (by decide)) (fun k a _ => l6 k (by omega))
      obtain ⟨K8, p1, p2, p3⟩ := countAll_ok hR J2 T6
      have T8 : ToR d K8 := ToR_of T6 (by rw [p3 0 (by decide)]) (fun k _ b => p3 k (by omega))
      obtain ⟨y, K12, L13, q1, q2, q3, q4⟩ := isPossible_ok hR w2 J2 T8 p2 (th18 d)
      have T12 : ToR d K12 := ToR_P T8 q2
      have kp : ∀ x y z, Kp d w (thR d) x y z ↔ Kp d w (there d) x y z := fun x y z => ⟨fun q => Kp_congr q (fun b hb => (th_iff d hb).mpr), fun q => Kp_congr q (fun b hb => (th_iff d hb).mp)⟩
      have j12 : ∀ j, j ≠ 9 → j ≠ 11 → j ≠ 23 → j ≠ 28 → K12 0 j = I2 0 j := fun j a b c e => by rw [q2.2 j c e, p3 0 (by decide), m6 j a b]
      have j129 : K12 0 9 = nI w := by rw [q2.2 9 (by decide) (by decide), p3 0 (by decide), m69]
      have j1211 : K12 0 11 = nI (dn d) := by rw [q2.2 11 (by decide) (by decide), p3 0 (by decide), m611]
      have ref : m_R_run (nI w) I2 J2 = if y = 0 then g_R_run fuel (nI w) 0 (va_up (va_up K12 0 (upd (K12 0) 10 1)) 0 (upd ((va_up K12 0 (upd (K12 0) 10 1)) 0) 17 0)) L13 else cl3 (m_R_mixes (nI w) K12 L13) fun r16 I17 J18 => if r16 = 0 then some ((va_up I17 0 (upd (I17 0) 10 2)) 0 10, va_up I17 0 (upd (I17 0) 10 2), J18) else cl2 (m_R_keepMix (nI w) I17 J18) fun I23 J24 => some (I23 0 10, I23, J24) := by
        unfold m_R_run
        generalize g_R_run fuel = G
        simp only [b_R_run_0, R_within, cl1, if_neg inW, one0, if_false, hG.1, if_neg dz, nm]
        rw [← g5]
        rw [← g6, p1]
        simp only [cl2, q1, cl3]
      rw [cls, ref]
      rcases f5 with ⟨rfl, px, py, pz, hp⟩ | ⟨rfl, hno⟩
      · -- a mix was found
        have y1 : y = 1 := by
          rcases q4 with ⟨e, -⟩ | ⟨-, q⟩
          · exact e
          · exact absurd ((kp px py pz).mpr hp.1) (q px py pz)
        subst y1
        obtain ⟨A, u, hA⟩ := BQ_get f4 ⟨px, py, pz, hp⟩
        obtain ⟨z, K17, L18, r1, r2, r3, r4, r5⟩ := mixes_ok hR w2 L13 T12
        have T17 : ToR d K17 := ToR_of T12 (r2.2 0 (by decide) (by decide)) (fun k a b => r2.1 k (by omega) (by omega) (by omega) (by omega) (by omega))
        rcases RB_get r5 with ⟨e17, B, v, hB⟩ | ⟨-, q⟩
        · have z1 : z = 1 := by rw [r4, e17]
          subst z1
          have B0 := BsR_nn hB
          have A0 := BsF_nn hA
          obtain ⟨be, pe⟩ := best_eq hA hB
          obtain ⟨K23, L24, s1, s2, s3, s4, s5, s6, s7, s8⟩ := keepMix_ok hR w2 T17 hB.1 B0
          -- the class's end
          obtain ⟨I32, e32⟩ : ∃ z : SI, z = va_up I13 41 (upd (I13 41) 2 0) := ⟨_, rfl⟩
          have k32 : ∀ k, k ≠ 41 → I32 k = I13 k := fun k hk => by rw [e32, va_up_ne _ _ hk]
          have F32 : ToF d I32 := ToF_same hF (fun k hk => by rw [k32 k (by omega), k13 k hk])
          have W32 : Wt w I32 := by
            unfold Wt
            rw [k32 12 (by decide), k13']
            exact f3
          obtain ⟨xm, t1, t2⟩ := tight_ok hR F32 W32 (Bs_J hA.1 J35' J36') hA.2.1
          obtain ⟨I37, e37⟩ : ∃ z : SI, z = mrg 35 I32 I32 := ⟨_, rfl⟩
          have i37 : I37 = I32 := by
            rw [e37]
            funext k
            unfold mrg
            split
            · rfl
            · split
              · next e => rw [e]
              · split
                · next e => rw [e]
                · rfl
          have jj : mrg 35 J14 J14 = J14 := by
            funext k
            unfold mrg
            split
            · rfl
            · split
              · next e => rw [e]
              · split
                · next e => rw [e]
                · rfl
          rw [← e32, t1, if_neg (by decide), if_neg (by decide), r1]
          simp only [cl3]
          rw [if_neg (by decide), s1, ← e37, i37, jj]
          simp only [cl2]
          obtain ⟨I39, e39⟩ : ∃ z : SI, z = va_up I32 41 (upd (I32 41) 5 xm) := ⟨_, rfl⟩
          rw [← e39]
          have k39 : ∀ k, k < 12 → I39 k = I k := fun k hk => by rw [e39, va_up_ne _ _ (by omega), k32 k (by omega), k13 k hk]
          have j39 : ∀ j, j ≠ 2 → j ≠ 5 → I39 41 j = I8 41 j := fun j a b => by rw [e39, va_up_self]; unfold upd; rw [if_neg b, e32, va_up_self]; unfold upd; rw [if_neg a, o13]
          have j392 : I39 41 2 = 0 := by rw [e39, va_up_self]; unfold upd; rw [if_neg (by decide), e32, va_up_self]; unfold upd; rw [if_pos rfl]
          have j395 : I39 41 5 = xm := by rw [e39, va_up_self]; unfold upd; rw [if_pos rfl]
          have u0 := hA.1.2.1
          have u1 := hA.1.2.2.1
          have v0 := hB.1.1
          have pp : ∀ i, i < 4 → 0 ≤ prd d i ∧ prd d i ≤ 1000 := fun i hi => by
            have := (hR.2.1 i hi).1
            unfold prd
            omega
          have sl := sum4_le pp (fun i hi => (hA.1.2.2.2.1 i hi).2)
          refine agi (by rw [j392, s4]) ⟨⟨d, hR, ToF_same hF k39, ToR_of T17 (s3 0 (by decide) (by decide)) (fun k a _ => s2 k (by omega))⟩, ⟨by rw [j392, s4], Or.inr ⟨Or.inl j392, w, w1, w2, by rw [j39 3 (by decide) (by decide), j83], by rw [s3 9 (by decide) (by decide), r2.2 9 (by decide) (by decide), j129]⟩, fun _ => ⟨⟨dn d, by omega, hn, by rw [j39 4 (by decide) (by decide), j84], by rw [s3 11 (by decide) (by decide), r2.2 11 (by decide) (by decide), j1211], fun i hi => ?_⟩, ?_, ?_⟩, fun z => by rw [j392] at z; exact absurd z (by decide)⟩, ?_, ?_⟩
          · have b2 := hA.1.2.2.2.1 i (by omega)
            rw [J36', J35', b2.1, hA.1.1, i6_10, i6_mul, (s6 i hi).1, (s6 i hi).2]
            exact frac_gen (A0 i (by omega)) (by omega) (by omega) (by omega) (B0 i (by omega)) v0 (by rw [be i (by omega)]; grind)
          · rw [J35', hA.1.2.2.2.2, hA.1.1, i6_10, i6_mul, s7, s8]
            exact frac_gen (sum4_nn hR A0) (by omega) (by omega) (by omega) (sum4_nn hR B0) v0 (by rw [sum4_eq be])
          · rw [j395]
            rw [pe.1, pe.2.1, pe.2.2] at t2
            exact Msk_eq t2 s5
          · rw [j39 10 (by decide) (by decide), j8 10 (by decide) (by decide) (by decide) (by decide), hl1, s3 18 (by decide) (by decide), r2.2 18 (by decide) (by decide), j12 18 (by decide) (by decide) (by decide) (by decide)]
          · rw [j39 11 (by decide) (by decide), j8 11 (by decide) (by decide) (by decide) (by decide), hl2, s3 19 (by decide) (by decide), r2.2 19 (by decide) (by decide), j12 19 (by decide) (by decide) (by decide) (by decide)]
        · exact absurd hp (q px py pz)
      · -- none
        have F13 : ToF d I13 := ToF_same hF k13
        obtain ⟨x2, I17, J18, c1, c2, c3⟩ := canKeep_ok hR ⟨w1, w2⟩ J14 F13
        obtain ⟨I20, e20⟩ : ∃ z : SI, z = mrg 35 I13 I17 := ⟨_, rfl⟩
        have k20 : ∀ k, k < 12 → I20 k = I k := fun k hk => by rw [e20, mrg_lt (by omega), c2 k hk, k13 k hk]
        have o20 : I20 41 = I8 41 := by rw [e20, mrg_o (by omega) (by omega) (by omega), o13]
        rw [if_pos rfl, c1]
        simp only [cl3]
        rw [← e20]
        rcases c3 with ⟨rfl, qx, qy, qz, hq⟩ | ⟨rfl, hq⟩
        · -- silos cannot
          have y1 : y = 1 := by
            rcases q4 with ⟨e, -⟩ | ⟨-, q⟩
            · exact e
            · exact absurd ((kp qx qy qz).mpr hq) (q qx qy qz)
          subst y1
          obtain ⟨z, K17, L18, r1, r2, r3, r4, r5⟩ := mixes_ok hR w2 L13 T12
          have T17 : ToR d K17 := ToR_of T12 (r2.2 0 (by decide) (by decide)) (fun k a b => r2.1 k (by omega) (by omega) (by omega) (by omega) (by omega))
          rcases RB_get r5 with ⟨-, B, v, hB⟩ | ⟨e17, -⟩
          · exact absurd hB.2.1 (hno _ _ _)
          · have z1 : z = 0 := by rw [r4, e17]
            subst z1
            rw [if_neg (by decide), if_neg (by decide), r1]
            simp only [if_true]
            obtain ⟨I31, e31⟩ : ∃ z : SI, z = va_up I20 41 (upd (I20 41) 2 2) := ⟨_, rfl⟩
            obtain ⟨K21, g21⟩ : ∃ z : SI, z = va_up K17 0 (upd (K17 0) 10 2) := ⟨_, rfl⟩
            rw [← e31, ← g21]
            have k31 : ∀ k, k < 12 → I31 k = I k := fun k hk => by rw [e31, va_up_ne _ _ (by omega), k20 k hk]
            have j31 : ∀ j, j ≠ 2 → I31 41 j = I8 41 j := fun j a => by rw [e31, va_up_self]; unfold upd; rw [if_neg a, o20]
            have j312 : I31 41 2 = 2 := by rw [e31, va_up_self]; unfold upd; rw [if_pos rfl]
            have m21 : ∀ j, j ≠ 10 → K21 0 j = K17 0 j := fun j a => by rw [g21, va_up_self]; unfold upd; rw [if_neg a]
            have m2110 : K21 0 10 = 2 := by rw [g21, va_up_self]; unfold upd; rw [if_pos rfl]
            refine agi (by rw [j312, m2110]) ⟨⟨d, hR, ToF_same hF k31, ToR_of T17 (m21 0 (by decide)) (fun k a _ => by rw [g21, va_up_ne _ _ (by omega)])⟩, ⟨by rw [j312, m2110], Or.inr ⟨Or.inr (Or.inr j312), w, w1, w2, by rw [j31 3 (by decide), j83], by rw [m21 9 (by decide), r2.2 9 (by decide) (by decide), j129]⟩, fun z => by rw [j312] at z; exact absurd z (by decide), fun z => by rw [j312] at z; exact absurd z (by decide)⟩, ?_, ?_⟩
            · rw [j31 10 (by decide), j8 10 (by decide) (by decide) (by decide) (by decide), hl1, m21 18 (by decide), r2.2 18 (by decide) (by decide), j12 18 (by decide) (by decide) (by decide) (by decide)]
            · rw [j31 11 (by decide), j8 11 (by decide) (by decide) (by decide) (by decide), hl2, m21 19 (by decide), r2.2 19 (by decide) (by decide), j12 19 (by decide) (by decide) (by decide) (by decide)]
        · -- bounds clash
          have y0 : y = 0 := by
            rcases q4 with ⟨-, a, b, c, q⟩ | ⟨e, -⟩
            · exact absurd ((kp a b c).mp q) (hq a b c)
            · exact e
          subst y0
          obtain ⟨I23, e23⟩ : ∃ z : SI, z = va_up I20 41 (upd (I20 41) 2 1) := ⟨_, rfl⟩
          have k23 : ∀ k, k < 12 → I23 k = I k := fun k hk => by rw [e23, va_up_ne _ _ (by omega), k20 k hk]
          obtain ⟨xm, I25, J26, t1, t2, t3⟩ := clashing_ok hR ⟨w1, w2⟩ (mrg 35 J14 J18) (ToF_same hF k23) hq
          obtain ⟨K26, g26⟩ : ∃ z : SI, z = va_up K12 0 (upd (K12 0) 10 1) := ⟨_, rfl⟩
          obtain ⟨K27, g27⟩ : ∃ z : SI, z = va_up K26 0 (upd (K26 0) 17 0) := ⟨_, rfl⟩
          have m27 : ∀ j, j ≠ 10 → j ≠ 17 → K27 0 j = K12 0 j := fun j a b => by rw [g27, va_up_self]; unfold upd; rw [if_neg b, g26, va_up_self]; unfold upd; rw [if_neg a]
          have m2710 : K27 0 10 = 1 := by rw [g27, va_up_self]; unfold upd; rw [if_neg (by decide), g26, va_up_self]; unfold upd; rw [if_pos rfl]
          have m2717 : K27 0 17 = 0 := by rw [g27, va_up_self]; unfold upd; rw [if_pos rfl]
          have l27 : ∀ k, k ≠ 0 → K27 k = K12 k := fun k hk => by rw [g27, va_up_ne _ _ hk, g26, va_up_ne _ _ hk]
          have T27 : ToR d K27 := ToR_of T12 (m27 0 (by decide) (by decide)) (fun k a _ => l27 k (by omega))
          have C27 : Cts (SqR d w 0) K27 := fun c hc => by
            rw [l27 11 (by decide), q2.1 11 (by decide) (by decide) (by decide) (by decide)]
            rcases p2 c hc with ⟨z1, z2⟩ | ⟨z1, z2⟩
            · exact Or.inl ⟨z1, fun c18 => (th_iff d c18).mp z2, fun _ => z2⟩
            · refine Or.inr ⟨z1, fun z => z2 ?_⟩
              by_cases c18 : c < 18
              · exact (th_iff d c18).mpr (z.1 c18)
              · exact z.2 (by omega)
          obtain ⟨K30, L30, s1, s2, s3, s4⟩ := clashR hR w2 18 0 rfl fuel (by unfold fuel; omega) K27 L13 T27 C27 (by rw [m2717]; exact Msk_iff Msk_0 (fun i hi => ⟨False.elim, fun z => absurd z.1 (by omega)⟩))
          rw [if_pos rfl, if_pos rfl, ← e23, t1]
          simp only []
          obtain ⟨I28, e28⟩ : ∃ z : SI, z = mrg 35 I23 I25 := ⟨_, rfl⟩
          obtain ⟨I30, e30⟩ : ∃ z : SI, z = va_up I28 41 (upd (I28 41) 6 xm) := ⟨_, rfl⟩
          rw [← e28, ← e30, ← g26, ← g27]
          have s1' : g_R_run fuel (nI w) 0 K27 L13 = some (1, K30, L30) := s1
          rw [s1']
          have k30 : ∀ k, k < 12 → I30 k = I k := fun k hk => by rw [e30, va_up_ne _ _ (by omega), e28, mrg_lt (by omega), t2 k hk, k23 k hk]
          have o28 : I28 41 = I23 41 := by rw [e28, mrg_o (by omega) (by omega) (by omega)]
          have j30 : ∀ j, j ≠ 2 → j ≠ 6 → I30 41 j = I8 41 j := fun j a b => by rw [e30, va_up_self]; unfold upd; rw [if_neg b, o28, e23, va_up_self]; unfold upd; rw [if_neg a, o20]
          have j302 : I30 41 2 = 1 := by rw [e30, va_up_self]; unfold upd; rw [if_neg (by decide), o28, e23, va_up_self]; unfold upd; rw [if_pos rfl]
          have j306 : I30 41 6 = xm := by rw [e30, va_up_self]; unfold upd; rw [if_pos rfl]
          have n10 : K30 0 10 = 1 := by rw [s4 10 (by decide) (by decide) (by decide), m2710]
          refine agi j302 ⟨⟨d, hR, ToF_same hF k30, ToR_of T27 (s4 0 (by decide) (by decide) (by decide)) s3⟩, ⟨by rw [j302, n10], Or.inr ⟨Or.inr (Or.inl j302), w, w1, w2, by rw [j30 3 (by decide) (by decide), j83], by rw [s4 9 (by decide) (by decide) (by decide), m27 9 (by decide) (by decide), j129]⟩, fun z => by rw [j302] at z; exact absurd z (by decide), fun _ => by rw [j306]; exact Msk_eq t3 s2⟩, ?_, ?_⟩
          · rw [j30 10 (by decide) (by decide), j8 10 (by decide) (by decide) (by decide) (by decide), hl1, s4 18 (by decide) (by decide) (by decide), m27 18 (by decide) (by decide), j12 18 (by decide) (by decide) (by decide) (by decide)]
          · rw [j30 11 (by decide) (by decide), j8 11 (by decide) (by decide) (by decide) (by decide), hl2, s4 19 (by decide) (by decide) (by decide), m27 19 (by decide) (by decide), j12 19 (by decide) (by decide) (by decide) (by decide)]
  · have out : a < 1 ∨ 40 < a := by
      apply Classical.byContradiction
      intro q
      have q1 : ¬ a < 1 := fun z => q (Or.inl z)
      have q2 : ¬ 40 < a := fun z => q (Or.inr z)
      apply hw
      rw [Int32.lt_iff_toInt_lt] at q1 q2
      have t1 : (1 : Int32).toInt = 1 := by decide
      have t40 : (40 : Int32).toInt = 40 := by decide
      refine ⟨a.toInt.toNat, by omega, by omega, Int32.toInt_inj.mp ?_⟩
      rw [nI_toInt (by omega)]
      omega
    have f : m_F_run a I J = some (-1, I, J) := by
      simp only [m_F_run, b_F_run_0, F_within, cl1, if_pos out, if_true]
    have g : m_R_run a I2 J2 = some (-1, I2, J2) := by
      simp only [m_R_run, b_R_run_0, R_within, cl1, if_pos out, if_true]
    rw [f, g]
    exact agi rfl h0
end AR
