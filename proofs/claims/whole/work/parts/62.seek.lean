/-! The search's outer loops. -/
section SEEK2
variable {I : SI} {pt : Nat → Nat → Int} {lo hi pr : Nat → Int} {T : Int} {sl : Nat → Nat → Int} {N tA : Nat} {rw' : Nat → Nat} {lv : Nat → Int}
/-- which triples are looked at -/
def Enu (N tA a b c : Nat) : Prop := a < b ∧ b < c ∧ a < (if 0 < tA then 1 else N) ∧ b < (if 1 < tA then 2 else N) ∧ c < (if 2 < tA then 3 else N)
theorem seek_b (hG : Geo I pt lo hi pr T sl N tA rw' lv) {a : Nat} (ha : a < N) :
    ∀ (t b : Nat), (if 1 < tA then 2 else N) ≤ b + t → b ≤ 15 → ∀ (F : Nat), 40 * (t + 1) < F → ∀ (J : SJ) (X : Rat → Rat → Rat → Prop) (x : Int32), (x = 0 ∨ x = 1) → BQ pr T J X →
      ∃ (F2 : Nat) (J2 : SJ) (x2 : Int32), F ≤ F2 + 40 * (t + 1) ∧ (g_K_seek F).2.1 x (nI a) (nI b) I J = (g_K_seek F2).1 x2 (nI (a + 1)) I J2 ∧ (x2 = 0 ∨ x2 = 1) ∧ (x2 = 1 ↔ x = 1 ∨ ∃ b' c', b ≤ b' ∧ b' < (if 1 < tA then 2 else N) ∧ b' < c' ∧ c' < (if 2 < tA then 3 else N) ∧ Ok3 pt lo hi T sl rw' lv a b' c') ∧
        BQ pr T J2 (fun x y z => X x y z ∨ ∃ b' c', b ≤ b' ∧ b' < (if 1 < tA then 2 else N) ∧ b' < c' ∧ c' < (if 2 < tA then 3 else N) ∧ Ok3 pt lo hi T sl rw' lv a b' c' ∧ At3 T sl rw' lv a b' c' x y z) := by
  have hG0 := hG
  obtain ⟨hL, hP, hT, hT1, hp, hs, hN, hN14, htA, htA4, htN, hpl⟩ := hG
  obtain ⟨Nb, eNb⟩ : ∃ z : Nat, z = (if 1 < tA then 2 else N) := ⟨_, rfl⟩
  have hNb : Nb ≤ N := by rw [eNb]; split <;> omega
  rw [← eNb]
  have step : ∀ (F : Nat) (x : Int32) (b : Nat) (J : SJ), b ≤ 15 → (g_K_seek (F + 1)).2.1 x (nI a) (nI b) I J = if Nb ≤ b then (g_K_seek F).1 x (nI (a + 1)) I J else cl2 (m_K_setCrossOf (nI a) (nI b) I J) fun I5 J6 => (g_K_seek F).2.2.1 x (nI a) (nI b) (nI (b + 1)) I5 J6 := by
    intro F x b J hb
    show b_K_seek_47 (g_K_seek F).1 (g_K_seek F).2.2.1 x (nI a) (nI b) I J = _
    unfold b_K_seek_47
    simp only [nm, nI_1]
    rw [htA, hN, eNb]
    by_cases h : 1 < tA
    · rw [if_neg (show ¬ nI tA ≤ (1 : Int32) from nI_ge (a := 1) h (by omega)), if_pos h]
      by_cases h2 : 2 ≤ b
      · rw [if_pos (show (2 : Int32) ≤ nI b from nI_le (a := 2) h2 (by omega)), if_pos h2]
      · rw [if_neg (show ¬ (2 : Int32) ≤ nI b from nI_ge (b := 2) (by omega) (by decide)), if_neg h2]
    · rw [if_pos (show nI tA ≤ (1 : Int32) from nI_le (a := tA) (b := 1) (by omega) (by decide)), if_neg h]
      by_cases h2 : N ≤ b
      · rw [if_pos (nI_le h2 (by omega)), if_pos h2]
      · rw [if_neg (nI_ge (by omega) (by omega)), if_neg h2]
  intro t
  induction t with
  | zero =>
    intro b hb hb15 F hF J X x hx hB
    obtain ⟨f, rfl⟩ : ∃ f, F = f + 1 := ⟨F - 1, by omega⟩
    refine ⟨f, J, x, by omega, by rw [step f x b J hb15, if_pos (by omega)], hx, ?_, ?_⟩
    · constructor
      · exact fun h => Or.inl h
      · rintro (h | ⟨b', c', h1, h2, -⟩)
        · exact h
        · omega
    · refine BQ_mono hB (fun x y z h => Or.inl h) ?_
      rintro x y z (h | ⟨b', c', h1, h2, -⟩)
      · exact ⟨x, y, z, h, kle_refl⟩
      · omega
  | succ t ih =>
    intro b hb hb15 F hF J X x hx hB
    obtain ⟨f, rfl⟩ : ∃ f, F = f + 1 := ⟨F - 1, by omega⟩
    by_cases hbN : Nb ≤ b
    · refine ⟨f, J, x, by omega, by rw [step f x b J hb15, if_pos (by omega)], hx, ?_, ?_⟩
      · constructor
        · exact fun h => Or.inl h
        · rintro (h | ⟨b', c', h1, h2, -⟩)
          · exact h
          · omega
      · refine BQ_mono hB (fun x y z h => Or.inl h) ?_
        rintro x y z (h | ⟨b', c', h1, h2, -⟩)
        · exact ⟨x, y, z, h, kle_refl⟩
        · omega
    · have hb' : b < N := by omega
      have pa := hpl a ha
      have pb := hpl b hb'
      obtain ⟨J1, s1, s2, s3⟩ := setCross_ok (J := J) (show a < 14 by omega) (show b < 14 by omega) pa.1 pb.1 pa.2.1 pb.2.1 (hs _ pa.1) (hs _ pb.1)
      have hB1 : BQ pr T J1 X := BQ_same hB (s3 35 (by decide)) (s3 36 (by decide))
      obtain ⟨F2, J2, x2, c1, c2, c3, c4, c5⟩ := seek_c hG0 ha hb' 14 (b + 1) (by split <;> omega) (by omega) f (by omega) J1 X x hx hB1 s2
      obtain ⟨F3, J3, x3, d1, d2, d3, d4, d5⟩ := ih (b + 1) (by omega) (by omega) F2 (by omega) J2 _ x2 c3 c5
      refine ⟨F3, J3, x3, by omega, ?_, d3, ?_, ?_⟩
      · rw [step f x b J hb15, if_neg hbN, s1]
        show (g_K_seek f).2.2.1 x (nI a) (nI b) (nI (b + 1)) I J1 = _
        rw [c2, d2]
      · rw [d4, c4]
        constructor
        · rintro ((h | ⟨c', h1, h2, h3⟩) | ⟨b', c', h1, h2, h3⟩)
          · exact Or.inl h
          · exact Or.inr ⟨b, c', Nat.le_refl b, by omega, by omega, h2, h3⟩
          · exact Or.inr ⟨b', c', by omega, h2, h3⟩
        · rintro (h | ⟨b', c', h1, h2, h3, h4, h5⟩)
          · exact Or.inl (Or.inl h)
          · by_cases e : b' = b
            · subst e
              exact Or.inl (Or.inr ⟨c', by omega, h4, h5⟩)
            · exact Or.inr ⟨b', c', by omega, h2, h3, h4, h5⟩
      · refine BQ_mono d5 ?_ ?_
        · rintro x y z ((h | ⟨c', h1, h2, h3⟩) | ⟨b', c', h1, h2, h3⟩)
          · exact Or.inl h
          · exact Or.inr ⟨b, c', Nat.le_refl b, by omega, by omega, h2, h3⟩
          · exact Or.inr ⟨b', c', by omega, h2, h3⟩
        · rintro x y z (h | ⟨b', c', h1, h2, h3, h4, h5⟩)
          · exact ⟨x, y, z, Or.inl (Or.inl h), kle_refl⟩
          · by_cases e : b' = b
            · subst e
              exact ⟨x, y, z, Or.inl (Or.inr ⟨c', by omega, h4, h5⟩), kle_refl⟩
            · exact ⟨x, y, z, Or.inr ⟨b', c', by omega, h2, h3, h4, h5⟩, kle_refl⟩
theorem seek_a (hG : Geo I pt lo hi pr T sl N tA rw' lv) :
    ∀ (t a : Nat), (if 0 < tA then 1 else N) ≤ a + t → a ≤ 15 → ∀ (F : Nat), 700 * (t + 1) < F → ∀ (J : SJ) (X : Rat → Rat → Rat → Prop) (x : Int32), (x = 0 ∨ x = 1) → BQ pr T J X →
      ∃ (J2 : SJ) (x2 : Int32), (g_K_seek F).1 x (nI a) I J = some (x2, I, J2) ∧ (x2 = 0 ∨ x2 = 1) ∧ (x2 = 1 ↔ x = 1 ∨ ∃ a' b' c', a ≤ a' ∧ Enu N tA a' b' c' ∧ Ok3 pt lo hi T sl rw' lv a' b' c') ∧
        BQ pr T J2 (fun x y z => X x y z ∨ ∃ a' b' c', a ≤ a' ∧ Enu N tA a' b' c' ∧ Ok3 pt lo hi T sl rw' lv a' b' c' ∧ At3 T sl rw' lv a' b' c' x y z) := by
  have hG0 := hG
  obtain ⟨hL, hP, hT, hT1, hp, hs, hN, hN14, htA, htA4, htN, hpl⟩ := hG
  obtain ⟨Na, eNa⟩ : ∃ z : Nat, z = (if 0 < tA then 1 else N) := ⟨_, rfl⟩
  have hNa : Na ≤ N := by rw [eNa]; split <;> omega
  have step : ∀ (F : Nat) (x : Int32) (a : Nat) (J : SJ), a ≤ 15 → (x = 0 ∨ x = 1) → (g_K_seek (F + 1)).1 x (nI a) I J = if Na ≤ a then some (x, I, J) else (g_K_seek F).2.1 x (nI a) (nI (a + 1)) I J := by
    intro F x a J ha hx
    have nbx : narrow .boolean (.int x) = .int x := by rcases hx with rfl | rfl <;> rfl
    show b_K_seek_23 (g_K_seek F).2.1 x (nI a) I J = _
    unfold b_K_seek_23
    simp only [nm, nI_1, gd_of nbx]
    rw [htA, hN, eNa]
    by_cases h : 0 < tA
    · rw [if_neg (show ¬ nI tA ≤ (0 : Int32) from nI_ge (a := 0) h (by omega)), if_pos h]
      by_cases h2 : 1 ≤ a
      · rw [if_pos (show (1 : Int32) ≤ nI a from nI_le (a := 1) h2 (by omega)), if_pos h2]
      · rw [if_neg (show ¬ (1 : Int32) ≤ nI a from nI_ge (b := 1) (by omega) (by decide)), if_neg h2]
    · rw [if_pos (show nI tA ≤ (0 : Int32) from nI_le (a := tA) (b := 0) (by omega) (by decide)), if_neg h]
      by_cases h2 : N ≤ a
      · rw [if_pos (nI_le h2 (by omega)), if_pos h2]
      · rw [if_neg (nI_ge (by omega) (by omega)), if_neg h2]
  have stop : ∀ (F a : Nat) (J : SJ) (X : Rat → Rat → Rat → Prop) (x : Int32), Na ≤ a → a ≤ 15 → (x = 0 ∨ x = 1) → BQ pr T J X → ∃ (J2 : SJ) (x2 : Int32), (g_K_seek (F + 1)).1 x (nI a) I J = some (x2, I, J2) ∧ (x2 = 0 ∨ x2 = 1) ∧ (x2 = 1 ↔ x = 1 ∨ ∃ a' b' c', a ≤ a' ∧ Enu N tA a' b' c' ∧ Ok3 pt lo hi T sl rw' lv a' b' c') ∧
        BQ pr T J2 (fun x y z => X x y z ∨ ∃ a' b' c', a ≤ a' ∧ Enu N tA a' b' c' ∧ Ok3 pt lo hi T sl rw' lv a' b' c' ∧ At3 T sl rw' lv a' b' c' x y z) := by
    intro F a J X x h1 h2 hx hB
    refine ⟨J, x, by rw [step F x a J h2 hx, if_pos h1], hx, ?_, ?_⟩
    · constructor
      · exact fun h => Or.inl h
      · rintro (h | ⟨a', b', c', k1, ⟨-, -, k2, -⟩, -⟩)
        · exact h
        · rw [← eNa] at k2; omega
    · refine BQ_mono hB (fun x y z h => Or.inl h) ?_
      rintro x y z (h | ⟨a', b', c', k1, ⟨-, -, k2, -⟩, -⟩)
      · exact ⟨x, y, z, h, kle_refl⟩
      · rw [← eNa] at k2; omega
  intro t
  induction t with
  | zero =>
    intro a ha ha15 F hF J X x hx hB
    obtain ⟨f, rfl⟩ : ∃ f, F = f + 1 := ⟨F - 1, by omega⟩
    exact stop f a J X x (by rw [eNa]; omega) ha15 hx hB
  | succ t ih =>
    intro a ha ha15 F hF J X x hx hB
    obtain ⟨f, rfl⟩ : ∃ f, F = f + 1 := ⟨F - 1, by omega⟩
    by_cases haN : Na ≤ a
    · exact stop f a J X x haN ha15 hx hB
    · obtain ⟨F2, J2, x2, c1, c2, c3, c4, c5⟩ := seek_b hG0 (show a < N by omega) 14 (a + 1) (by split <;> omega) (by omega) f (by omega) J X x hx hB
      obtain ⟨J3, x3, d2, d3, d4, d5⟩ := ih (a + 1) (by omega) (by omega) F2 (by omega) J2 _ x2 c3 c5
      have hen : ∀ b' c', (a + 1 ≤ b' ∧ b' < (if 1 < tA then 2 else N) ∧ b' < c' ∧ c' < (if 2 < tA then 3 else N)) → Enu N tA a b' c' := fun b' c' h => ⟨by omega, h.2.2.1, by rw [← eNa]; omega, h.2.1, h.2.2.2⟩
      refine ⟨J3, x3, by rw [step f x a J ha15 hx, if_neg haN, c2, d2], d3, ?_, ?_⟩
      · rw [d4, c4]
        constructor
        · rintro ((h | ⟨b', c', h1, h2, h3, h4, h5⟩) | ⟨a', b', c', h1, h2⟩)
          · exact Or.inl h
          · exact Or.inr ⟨a, b', c', Nat.le_refl a, hen b' c' ⟨h1, h2, h3, h4⟩, h5⟩
          · exact Or.inr ⟨a', b', c', by omega, h2⟩
        · rintro (h | ⟨a', b', c', h1, h2, h3⟩)
          · exact Or.inl (Or.inl h)
          · by_cases e : a' = a
            · subst e
              exact Or.inl (Or.inr ⟨b', c', h2.1, h2.2.2.2.1, h2.2.1, h2.2.2.2.2, h3⟩)
            · exact Or.inr ⟨a', b', c', by omega, h2, h3⟩
      · refine BQ_mono d5 ?_ ?_
        · rintro x y z ((h | ⟨b', c', h1, h2, h3, h4, h5⟩) | ⟨a', b', c', h1, h2⟩)
          · exact Or.inl h
          · exact Or.inr ⟨a, b', c', Nat.le_refl a, hen b' c' ⟨h1, h2, h3, h4⟩, h5⟩
          · exact Or.inr ⟨a', b', c', by omega, h2⟩
        · rintro x y z (h | ⟨a', b', c', h1, h2, h3⟩)
          · exact ⟨x, y, z, Or.inl (Or.inl h), kle_refl⟩
          · by_cases e : a' = a
            · subst e
              exact ⟨x, y, z, Or.inl (Or.inr ⟨b', c', h2.1, h2.2.2.2.1, h2.2.1, h2.2.2.2.2, h3⟩), kle_refl⟩
            · exact ⟨x, y, z, Or.inr ⟨a', b', c', by omega, h2, h3⟩, kle_refl⟩
end SEEK2
