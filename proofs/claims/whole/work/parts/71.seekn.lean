/-! The search that stops at the first corner. -/
section SEEKN
variable {I : SI} {pt : Nat → Nat → Int} {lo hi pr : Nat → Int} {T : Int} {sl : Nat → Nat → Int} {N tA : Nat} {rw' : Nat → Nat} {lv : Nat → Int}
theorem seekN_c (hG : Geo I pt lo hi pr T sl N tA rw' lv) {a b : Nat} (ha : a < N) (hb : b < N) :
    ∀ (t c : Nat), (if 2 < tA then 3 else N) ≤ c + t → c ≤ 14 → ∀ (F : Nat), 2 * t + 2 < F → ∀ (J : SJ), (∀ k, k < 3 → J 31 k = i6 (crs (sl (rw' a)) (sl (rw' b)) k)) →
      (∃ J2 : SJ, (g_K_seekN F).2.2.1 0 (nI a) (nI b) (nI c) I J = some (1, I, J2) ∧ ∃ c', c ≤ c' ∧ c' < (if 2 < tA then 3 else N) ∧ Ok3 pt lo hi T sl rw' lv a b c') ∨
      (∃ (F2 : Nat) (J2 : SJ), F ≤ F2 + (2 * t + 2) ∧ (g_K_seekN F).2.2.1 0 (nI a) (nI b) (nI c) I J = (g_K_seekN F2).2.1 0 (nI a) (nI (b + 1)) I J2 ∧ ∀ c', c ≤ c' → c' < (if 2 < tA then 3 else N) → ¬ Ok3 pt lo hi T sl rw' lv a b c') := by
  obtain ⟨hL, hP, hT, hT1, hp, hs, hN, hN14, htA, htA4, htN, hpl⟩ := hG
  obtain ⟨Nc, eNc⟩ : ∃ z : Nat, z = (if 2 < tA then 3 else N) := ⟨_, rfl⟩
  have hNc : Nc ≤ N := by rw [eNc]; split <;> omega
  rw [← eNc]
  have step81 : ∀ (F : Nat) (c : Nat) (J : SJ), (g_K_seekN (F + 1)).2.2.1 0 (nI a) (nI b) (nI c) I J = (g_K_seekN F).2.2.2 0 (nI a) (nI b) (nI c) (nI Nc) (nI c) I J := by
    intro F c J
    show b_K_seekN_81 (g_K_seekN F).2.2.2 0 (nI a) (nI b) (nI c) I J = _
    unfold b_K_seekN_81
    rw [htA, hN, eNc]
    by_cases h : 2 < tA
    · rw [if_pos h, if_neg (show ¬ nI tA ≤ (2 : Int32) from nI_ge (a := 2) h (by omega))]
      rfl
    · rw [if_neg h, if_pos (show nI tA ≤ (2 : Int32) from nI_le (a := tA) (b := 2) (by omega) (by decide))]
  have stop : ∀ (f c : Nat) (J : SJ), Nc ≤ c → c ≤ 14 → (g_K_seekN (f + 2)).2.2.1 0 (nI a) (nI b) (nI c) I J = (g_K_seekN f).2.1 0 (nI a) (nI (b + 1)) I J := by
    intro f c J hc hc14
    rw [step81 (f + 1)]
    show b_K_seekN_99 (g_K_seekN f).2.1 (g_K_seekN f).2.2.1 0 (nI a) (nI b) (nI c) (nI Nc) (nI c) I J = _
    unfold b_K_seekN_99
    rw [if_pos (nI_le (by omega) (by omega))]
    simp only [nm, nI_1]
  intro t
  induction t with
  | zero =>
    intro c hc hc14 F hF J h31
    obtain ⟨f, rfl⟩ : ∃ f, F = f + 2 := ⟨F - 2, by omega⟩
    exact Or.inr ⟨f, J, by omega, stop f c J (by omega) hc14, fun c' h1 h2 => by omega⟩
  | succ t ih =>
    intro c hc hc14 F hF J h31
    obtain ⟨f, rfl⟩ : ∃ f, F = f + 2 := ⟨F - 2, by omega⟩
    by_cases hcN : Nc ≤ c
    · exact Or.inr ⟨f, J, by omega, stop f c J (by omega) hc14, fun c' h1 h2 => by omega⟩
    · have hcN' : c < N := by omega
      have pa := hpl a ha
      have pb := hpl b hb
      have pc := hpl c hcN'
      obtain ⟨y, J2, i1, i2, i3', i4⟩ := isCorner_ok (J := J) (pt := pt) (lo := lo) (hi := hi) (T := T) hL hP hT hT1 (show a < 14 by omega) (show b < 14 by omega) (show c < 14 by omega) pa.1 pb.1 pc.1 pa.2.1 pb.2.1 pc.2.1 (hs _ pa.1) (hs _ pb.1) (hs _ pc.1) pa.2.2.1 pb.2.2.1 pc.2.2.1 pa.2.2.2 pb.2.2.2 pc.2.2.2 h31
      have h312 : ∀ k, k < 3 → J2 31 k = i6 (crs (sl (rw' a)) (sl (rw' b)) k) := fun k hk => by rw [i2 31 (by decide) (by decide)]; exact h31 k hk
      have st : (g_K_seekN (f + 2)).2.2.1 0 (nI a) (nI b) (nI c) I J = cl3 (m_K_isCorner (nI a) (nI b) (nI c) I J) fun r3 I4 J5 => if r3 = 0 then (g_K_seekN f).2.2.1 0 (nI a) (nI b) (nI c + 1) I4 J5 else some (1, I4, J5) := by
        rw [step81 (f + 1)]
        show b_K_seekN_99 (g_K_seekN f).2.1 (g_K_seekN f).2.2.1 0 (nI a) (nI b) (nI c) (nI Nc) (nI c) I J = _
        unfold b_K_seekN_99
        rw [if_neg (nI_ge (by omega) (by omega))]
        rfl
      rw [st, i1, nI_1]
      rcases i4 with ⟨hy, hd, hin, hA2, hu2⟩ | ⟨hy, hno⟩
      · subst hy
        exact Or.inl ⟨J2, by simp only [cl3, one0, if_false], c, Nat.le_refl c, by omega, hd, hin⟩
      · subst hy
        have hnot : ¬ Ok3 pt lo hi T sl rw' lv a b c := by
          rintro ⟨h1, h2⟩
          rcases hno with h | ⟨k, k1, k2⟩
          · exact h1 h
          · exact k2 (h2 k k1)
        simp only [cl3, if_true]
        rcases ih (c + 1) (by omega) (by omega) f (by omega) J2 h312 with ⟨J3, g1, c', g2, g3, g4⟩ | ⟨F2, J3, g1, g2, g3⟩
        · exact Or.inl ⟨J3, g1, c', by omega, g3, g4⟩
        · refine Or.inr ⟨F2, J3, by omega, g2, fun c' h1 h2 => ?_⟩
          by_cases e : c' = c
          · subst e; exact hnot
          · exact g3 c' (by omega) h2
theorem seekN_b (hG : Geo I pt lo hi pr T sl N tA rw' lv) {a : Nat} (ha : a < N) :
    ∀ (t b : Nat), (if 1 < tA then 2 else N) ≤ b + t → b ≤ 15 → ∀ (F : Nat), 40 * (t + 1) < F → ∀ (J : SJ),
      (∃ J2 : SJ, (g_K_seekN F).2.1 0 (nI a) (nI b) I J = some (1, I, J2) ∧ ∃ b' c', b ≤ b' ∧ b' < (if 1 < tA then 2 else N) ∧ b' < c' ∧ c' < (if 2 < tA then 3 else N) ∧ Ok3 pt lo hi T sl rw' lv a b' c') ∨
      (∃ (F2 : Nat) (J2 : SJ), F ≤ F2 + 40 * (t + 1) ∧ (g_K_seekN F).2.1 0 (nI a) (nI b) I J = (g_K_seekN F2).1 0 (nI (a + 1)) I J2 ∧ ∀ b' c', b ≤ b' → b' < (if 1 < tA then 2 else N) → b' < c' → c' < (if 2 < tA then 3 else N) → ¬ Ok3 pt lo hi T sl rw' lv a b' c') := by
  have hG0 := hG
  obtain ⟨hL, hP, hT, hT1, hp, hs, hN, hN14, htA, htA4, htN, hpl⟩ := hG
  obtain ⟨Nb, eNb⟩ : ∃ z : Nat, z = (if 1 < tA then 2 else N) := ⟨_, rfl⟩
  have hNb : Nb ≤ N := by rw [eNb]; split <;> omega
  rw [← eNb]
  have step : ∀ (F : Nat) (b : Nat) (J : SJ), b ≤ 15 → (g_K_seekN (F + 1)).2.1 0 (nI a) (nI b) I J = if Nb ≤ b then (g_K_seekN F).1 0 (nI (a + 1)) I J else cl2 (m_K_setCrossOf (nI a) (nI b) I J) fun I5 J6 => (g_K_seekN F).2.2.1 0 (nI a) (nI b) (nI (b + 1)) I5 J6 := by
    intro F b J hb
    show b_K_seekN_47 (g_K_seekN F).1 (g_K_seekN F).2.2.1 0 (nI a) (nI b) I J = _
    unfold b_K_seekN_47
    simp only [nm, nI_1]
    rw [htA, hN, eNb]
    by_cases h : 1 < tA
    · rw [if_neg (show ¬ nI tA ≤ (1 : Int32) from nI_ge (a := 1) h (by omega)), if_pos h]
      by_cases h2 : 2 ≤ b
      · rw [if_pos (show (2 : Int32) ≤ nI b from nI_le (a := 2) h2 (by omega)), if_pos h2]
      · rw [if_neg (show ¬ (2 : Int32) ≤ nI b from nI_ge (b := 2) (by omega) (by decide)), if_neg h2]
    · rw [if_pos (show nI tA ≤ (1 : Int32) from nI_le (a := tA) (b := 1) (by omega) (by decide)), if_neg h]
      by_cases h2 : N ≤ b
      · rw [if_pos (nI_le h2 (by omega)), if_pos h2]
      · rw [if_neg (nI_ge (by omega) (by omega)), if_neg h2]
  intro t
  induction t with
  | zero =>
    intro b hb hb15 F hF J
    obtain ⟨f, rfl⟩ : ∃ f, F = f + 1 := ⟨F - 1, by omega⟩
    exact Or.inr ⟨f, J, by omega, by rw [step f b J hb15, if_pos (by omega)], fun b' c' h1 h2 => by omega⟩
  | succ t ih =>
    intro b hb hb15 F hF J
    obtain ⟨f, rfl⟩ : ∃ f, F = f + 1 := ⟨F - 1, by omega⟩
    by_cases hbN : Nb ≤ b
    · exact Or.inr ⟨f, J, by omega, by rw [step f b J hb15, if_pos (by omega)], fun b' c' h1 h2 => by omega⟩
    · have hb' : b < N := by omega
      have pa := hpl a ha
      have pb := hpl b hb'
      obtain ⟨J1, s1, s2, s3⟩ := setCross_ok (J := J) (show a < 14 by omega) (show b < 14 by omega) pa.1 pb.1 pa.2.1 pb.2.1 (hs _ pa.1) (hs _ pb.1)
      rw [step f b J hb15, if_neg hbN, s1]
      simp only [cl2]
      rcases seekN_c hG0 ha hb' 14 (b + 1) (by split <;> omega) (by omega) f (by omega) J1 s2 with ⟨J2, c1, c', c2, c3, c4⟩ | ⟨F2, J2, c1, c2, c3⟩
      · exact Or.inl ⟨J2, c1, b, c', Nat.le_refl b, by omega, by omega, c3, c4⟩
      · rw [c2]
        rcases ih (b + 1) (by omega) (by omega) F2 (by omega) J2 with ⟨J3, d1, b', c', d2, d3⟩ | ⟨F3, J3, d1, d2, d3⟩
        · exact Or.inl ⟨J3, d1, b', c', by omega, d3⟩
        · refine Or.inr ⟨F3, J3, by omega, d2, fun b' c' h1 h2 h3 h4 => ?_⟩
          by_cases e : b' = b
          · subst e; exact c3 c' (by omega) h4
          · exact d3 b' c' (by omega) h2 h3 h4
theorem seekN_a (hG : Geo I pt lo hi pr T sl N tA rw' lv) :
    ∀ (t a : Nat), (if 0 < tA then 1 else N) ≤ a + t → a ≤ 15 → ∀ (F : Nat), 700 * (t + 1) < F → ∀ (J : SJ),
      ∃ (J2 : SJ) (x2 : Int32), (g_K_seekN F).1 0 (nI a) I J = some (x2, I, J2) ∧ ((x2 = 1 ∧ ∃ a' b' c', Enu N tA a' b' c' ∧ Ok3 pt lo hi T sl rw' lv a' b' c') ∨ (x2 = 0 ∧ ∀ a' b' c', a ≤ a' → Enu N tA a' b' c' → ¬ Ok3 pt lo hi T sl rw' lv a' b' c')) := by
  have hG0 := hG
  obtain ⟨hL, hP, hT, hT1, hp, hs, hN, hN14, htA, htA4, htN, hpl⟩ := hG
  obtain ⟨Na, eNa⟩ : ∃ z : Nat, z = (if 0 < tA then 1 else N) := ⟨_, rfl⟩
  have hNa : Na ≤ N := by rw [eNa]; split <;> omega
  have step : ∀ (F : Nat) (a : Nat) (J : SJ), a ≤ 15 → (g_K_seekN (F + 1)).1 0 (nI a) I J = if Na ≤ a then some (0, I, J) else (g_K_seekN F).2.1 0 (nI a) (nI (a + 1)) I J := by
    intro F a J ha
    have nbx : narrow .boolean (.int 0) = .int 0 := rfl
    show b_K_seekN_23 (g_K_seekN F).2.1 0 (nI a) I J = _
    unfold b_K_seekN_23
    simp only [nm, nI_1, gd_of nbx]
    rw [htA, hN, eNa]
    by_cases h : 0 < tA
    · rw [if_neg (show ¬ nI tA ≤ (0 : Int32) from nI_ge (a := 0) h (by omega)), if_pos h]
      by_cases h2 : 1 ≤ a
      · rw [if_pos (show (1 : Int32) ≤ nI a from nI_le (a := 1) h2 (by omega)), if_pos h2]
      · rw [if_neg (show ¬ (1 : Int32) ≤ nI a from nI_ge (b := 1) (by omega) (by decide)), if_neg h2]
    · rw [if_pos (show nI tA ≤ (0 : Int32) from nI_le (a := tA) (b := 0) (by omega) (by decide)), if_neg h]
      by_cases h2 : N ≤ a
      · rw [if_pos (nI_le h2 (by omega)), if_pos h2]
      · rw [if_neg (nI_ge (by omega) (by omega)), if_neg h2]
  have stop : ∀ (F a : Nat) (J : SJ), Na ≤ a → a ≤ 15 → ∃ (J2 : SJ) (x2 : Int32), (g_K_seekN (F + 1)).1 0 (nI a) I J = some (x2, I, J2) ∧ ((x2 = 1 ∧ ∃ a' b' c', Enu N tA a' b' c' ∧ Ok3 pt lo hi T sl rw' lv a' b' c') ∨ (x2 = 0 ∧ ∀ a' b' c', a ≤ a' → Enu N tA a' b' c' → ¬ Ok3 pt lo hi T sl rw' lv a' b' c')) := by
    intro F a J h1 h2
    refine ⟨J, 0, by rw [step F a J h2, if_pos h1], Or.inr ⟨rfl, fun a' b' c' k1 k2 => ?_⟩⟩
    have := k2.2.2.1
    rw [← eNa] at this
    omega
  intro t
  induction t with
  | zero =>
    intro a ha ha15 F hF J
    obtain ⟨f, rfl⟩ : ∃ f, F = f + 1 := ⟨F - 1, by omega⟩
    exact stop f a J (by rw [eNa]; omega) ha15
  | succ t ih =>
    intro a ha ha15 F hF J
    obtain ⟨f, rfl⟩ : ∃ f, F = f + 1 := ⟨F - 1, by omega⟩
    by_cases haN : Na ≤ a
    · exact stop f a J haN ha15
    · rw [step f a J ha15, if_neg haN]
      rcases seekN_b hG0 (show a < N by omega) 14 (a + 1) (by split <;> omega) (by omega) f (by omega) J with ⟨J2, c1, b', c', c2, c3, c4, c5, c6⟩ | ⟨F2, J2, c1, c2, c3⟩
      · exact ⟨J2, 1, c1, Or.inl ⟨rfl, a, b', c', ⟨by omega, c4, by rw [← eNa]; omega, c3, c5⟩, c6⟩⟩
      · rw [c2]
        obtain ⟨J3, x3, d1, d2⟩ := ih (a + 1) (by omega) (by omega) F2 (by omega) J2
        refine ⟨J3, x3, d1, ?_⟩
        rcases d2 with d2 | ⟨d2, d3⟩
        · exact Or.inl d2
        · refine Or.inr ⟨d2, fun a' b' c' k1 k2 => ?_⟩
          by_cases e : a' = a
          · subst e; exact c3 b' c' k2.1 k2.2.2.2.1 k2.2.1 k2.2.2.2.2
          · exact d3 a' b' c' (by omega) k2
end SEEKN
section FINN
variable {lo hi : Nat → Int} {d : Dt}
theorem seekN_ok {w : Nat} {I : SI} (J : SJ) (hrg : Rg d) (h : Mst d w lo hi I) :
    ∃ (x : Int32) (I2 : SI) (J2 : SJ), m_K_seekN I J = some (x, I2, J2) ∧ (∀ k, k ≠ 19 → k ≠ 29 → k ≠ 30 → I2 k = I k) ∧ ((x = 1 ∧ ∃ x y z, Fes d (10 * w) lo hi x y z) ∨ (x = 0 ∧ ∀ x y z, ¬ Fes d (10 * w) lo hi x y z)) := by
  obtain ⟨h1, h2, h3, h4, o, hC, hS⟩ := id h
  have hT1 : (0 : Int) ≤ 10 * w ∧ (10 * w : Int) ≤ 400 := ⟨by omega, by omega⟩
  obtain ⟨x1, r1, r2⟩ := room_ok (J := J) hC.2.1 hC.2.2.2.1 hT1
  unfold m_K_seekN
  have hf : 700 * (15 + 1) < fuel := by decide
  generalize fuel = F at hf ⊢
  simp only [b_K_seekN_0, r1, cl3]
  rcases r2 with ⟨rfl, hR⟩ | ⟨rfl, hR⟩
  · simp only [one0, if_false]
    obtain ⟨x2, I2, p1, p2, p3⟩ := setPlanes_ok hT1 hR hC J
    rw [p1]
    simp only []
    rcases p3 with ⟨rfl, q1, q2, q3⟩ | ⟨rfl, m, hm, q1⟩
    · simp only [one0, if_false]
      have hlo : ∀ k, k < 7 → 0 ≤ lo k := fun k hk => (hC.2.1 k hk).2.2.1
      have hG := Geo_of hrg (Mst_same h p2) (Cst_same hC p2) q2 q3
      obtain ⟨J2, x3, g1, g2⟩ := seekN_a hG 15 0 (by split <;> have := q2.2.1 <;> omega) (by omega) F hf J
      refine ⟨x3, I2, J2, g1, p2, ?_⟩
      rcases g2 with ⟨g3, a, b, c, g4, g5⟩ | ⟨g3, g4⟩
      · exact Or.inl ⟨g3, _, _, _, pts_enum (N := 0) g5 ⟨rfl, rfl, rfl⟩⟩
      · refine Or.inr ⟨g3, fun x y z hx => ?_⟩
        obtain ⟨a, b, c, k1, k2, -⟩ := enum_pts hS hR hlo (prd d) hx
        exact g4 a b c (by omega) k1 k2
    · simp only [if_true]
      refine ⟨0, I2, J, rfl, p2, Or.inr ⟨rfl, fun x y z hx => ?_⟩⟩
      have hb : ∀ i, i < 4 → (lo i : Rat) ≤ am (10 * w) x y z i ∧ am (10 * w) x y z i ≤ (hi i : Rat) := fun i hi => by
        have := hx i (by omega)
        rwa [rv_stuff d hi] at this
      have e := fes_ext hS hR hb hm
      have f := hx (4 + m) (by omega)
      rcases q1 with q1 | q1
      · have := Rat.intCast_lt_intCast.mpr q1
        grind
      · have := Rat.intCast_lt_intCast.mpr q1
        grind
  · simp only [if_true]
    exact ⟨0, I, J, rfl, fun _ _ _ _ => rfl, Or.inr ⟨rfl, fun x y z hx => hR (fes_room hx)⟩⟩
end FINN
