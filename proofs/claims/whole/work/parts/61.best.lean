/-! The best of a set of points is kept. -/
def BQ (pr : Nat → Int) (T : Int) (J : SJ) (X : Rat → Rat → Rat → Prop) : Prop := (J 35 2 = i6 0 ∧ ∀ x y z, ¬ X x y z) ∨ ∃ (A : Nat → Int) (u : Int), Bs pr J (some (A, u)) ∧ A 0 + A 1 + A 2 + A 3 = T * u ∧ X (qd (A 0) u) (qd (A 1) u) (qd (A 2) u) ∧ ∀ x y z, X x y z → kle (wv pr) (qd (A 0) u) (qd (A 1) u) (qd (A 2) u) x y z
theorem BQ_mono {pr : Nat → Int} {T : Int} {J : SJ} {X Y : Rat → Rat → Rat → Prop} (h : BQ pr T J X) (h1 : ∀ x y z, X x y z → Y x y z) (h2 : ∀ x y z, Y x y z → ∃ x' y' z', X x' y' z' ∧ kle (wv pr) x' y' z' x y z) : BQ pr T J Y := by
  rcases h with ⟨e, h⟩ | ⟨A, u, g1, g2, g3, g4⟩
  · refine Or.inl ⟨e, fun x y z hy => ?_⟩
    obtain ⟨x', y', z', hx, -⟩ := h2 x y z hy
    exact h _ _ _ hx
  · refine Or.inr ⟨A, u, g1, g2, h1 _ _ _ g3, fun x y z hy => ?_⟩
    obtain ⟨x', y', z', hx, hk⟩ := h2 x y z hy
    exact kle_trans (g4 _ _ _ hx) hk
theorem BQ_same {pr : Nat → Int} {T : Int} {J J2 : SJ} {X : Rat → Rat → Rat → Prop} (h : BQ pr T J X) (e1 : J2 35 = J 35) (e2 : J2 36 = J 36) : BQ pr T J2 X := by
  rcases h with ⟨e, h⟩ | ⟨A, u, ⟨q1, q2, q3, q4, q5⟩, g⟩
  · exact Or.inl ⟨by rw [e1]; exact e, h⟩
  · exact Or.inr ⟨A, u, ⟨by rw [e1]; exact q1, q2, q3, fun i hi => by rw [e2]; exact q4 i hi, by rw [e1]; exact q5⟩, g⟩
theorem offer_BQ {I : SI} {J : SJ} {pr A : Nat → Int} {u T : Int} {X : Rat → Rat → Rat → Prop} (hp : ∀ i, i < 4 → I 1 i = i3 (pr i) ∧ 0 ≤ pr i ∧ pr i ≤ 1000) (hA : ∀ i, i < 4 → J 33 i = i6 (A i) ∧ -1000000000 ≤ A i ∧ A i ≤ 1000000000) (hu : J 32 2 = i6 u) (u0 : 0 < u) (u1 : u ≤ 384000) (sA : A 0 + A 1 + A 2 + A 3 = T * u) (hB : BQ pr T J X) :
    ∃ J2 : SJ, m_K_offer I J = some (I, J2) ∧ (∀ k, k ≠ 32 → k ≠ 35 → k ≠ 36 → J2 k = J k) ∧ BQ pr T J2 (fun x y z => X x y z ∨ (x = qd (A 0) u ∧ y = qd (A 1) u ∧ z = qd (A 2) u)) := by
  rcases hB with ⟨e, hX⟩ | ⟨B, v, g1, sB, g3, g4⟩
  · obtain ⟨J2, h1, h2, -, h4⟩ := offer_ok (o := none) hp hA hu u0 u1 e
    refine ⟨J2, h1, h2, Or.inr ⟨A, u, ?_, sA, Or.inr ⟨rfl, rfl, rfl⟩, ?_⟩⟩
    · rcases h4 with ⟨-, h4⟩ | ⟨h4, -⟩
      · exact h4
      · exact absurd trivial h4
    · rintro x y z (h | ⟨rfl, rfl, rfl⟩)
      · exact absurd h (hX _ _ _)
      · exact kle_refl
  · obtain ⟨J2, h1, h2, -, h4⟩ := offer_ok (o := some (B, v)) hp hA hu u0 u1 g1
    have v0 : 0 < v := g1.2.1
    refine ⟨J2, h1, h2, ?_⟩
    rcases h4 with ⟨hb, h4⟩ | ⟨hb, h4⟩
    · refine Or.inr ⟨A, u, h4, sA, Or.inr ⟨rfl, rfl, rfl⟩, ?_⟩
      have hk : kle (wv pr) (qd (A 0) u) (qd (A 1) u) (qd (A 2) u) (qd (B 0) v) (qd (B 1) v) (qd (B 2) v) := Or.inl ((btr_kneg u0 v0 sA sB).mp hb)
      rintro x y z (h | ⟨rfl, rfl, rfl⟩)
      · exact kle_trans hk (g4 _ _ _ h)
      · exact kle_refl
    · refine Or.inr ⟨B, v, h4, sB, Or.inl g3, ?_⟩
      have hn := fun h => hb ((btr_kneg u0 v0 sA sB).mpr h)
      rintro x y z (h | ⟨rfl, rfl, rfl⟩)
      · exact g4 _ _ _ h
      · rcases kle_total (wv pr) (qd (A 0) u) (qd (A 1) u) (qd (A 2) u) (qd (B 0) v) (qd (B 1) v) (qd (B 2) v) with h | h
        · rcases h with h | ⟨e1, e2, e3⟩
          · exact absurd h hn
          · rw [e1, e2, e3]; exact kle_refl
        · exact h
/-! the search over triples of planes -/
section SEEK
variable {I : SI} {pt : Nat → Nat → Int} {lo hi pr : Nat → Int} {T : Int} {sl : Nat → Nat → Int} {N tA : Nat} {rw' : Nat → Nat} {lv : Nat → Int}
def Geo (I : SI) (pt : Nat → Nat → Int) (lo hi pr : Nat → Int) (T : Int) (sl : Nat → Nat → Int) (N tA : Nat) (rw' : Nat → Nat) (lv : Nat → Int) : Prop :=
  LimI I lo hi ∧ PtI I pt ∧ I 12 2 = i3 T ∧ (0 ≤ T ∧ T ≤ 400) ∧ (∀ i, i < 4 → I 1 i = i3 (pr i) ∧ 0 ≤ pr i ∧ pr i ≤ 1000) ∧ (∀ r, r < 7 → row3 I (22 + r) (sl r)) ∧ I 19 6 = nI N ∧ N ≤ 14 ∧ I 19 7 = nI tA ∧ tA ≤ 4 ∧ tA ≤ N ∧ ∀ k, k < N → rw' k < 7 ∧ I 29 k = nI (rw' k) ∧ I 30 k = i3 (lv k) ∧ -16000 ≤ lv k ∧ lv k ≤ 16000
def Ca (T : Int) (sl : Nat → Nat → Int) (rw' : Nat → Nat) (lv : Nat → Int) (a b c : Nat) : Nat → Int := cA T (lv a) (lv b) (lv c) (sl (rw' a)) (sl (rw' b)) (sl (rw' c))
def Cu (sl : Nat → Nat → Int) (rw' : Nat → Nat) (a b c : Nat) : Int := cu (sl (rw' a)) (sl (rw' b)) (sl (rw' c))
def Ok3 (pt : Nat → Nat → Int) (lo hi : Nat → Int) (T : Int) (sl : Nat → Nat → Int) (rw' : Nat → Nat) (lv : Nat → Int) (a b c : Nat) : Prop := det (sl (rw' a)) (sl (rw' b)) (sl (rw' c)) ≠ 0 ∧ ∀ k, k < 7 → InL pt lo hi (Ca T sl rw' lv a b c) (Cu sl rw' a b c) k
def At3 (T : Int) (sl : Nat → Nat → Int) (rw' : Nat → Nat) (lv : Nat → Int) (a b c : Nat) (x y z : Rat) : Prop := x = qd (Ca T sl rw' lv a b c 0) (Cu sl rw' a b c) ∧ y = qd (Ca T sl rw' lv a b c 1) (Cu sl rw' a b c) ∧ z = qd (Ca T sl rw' lv a b c 2) (Cu sl rw' a b c)
theorem Ca_sum (a b c : Nat) : Ca T sl rw' lv a b c 0 + Ca T sl rw' lv a b c 1 + Ca T sl rw' lv a b c 2 + Ca T sl rw' lv a b c 3 = T * Cu sl rw' a b c := by
  show cA _ _ _ _ _ _ _ 0 + cA _ _ _ _ _ _ _ 1 + cA _ _ _ _ _ _ _ 2 + cA _ _ _ _ _ _ _ 3 = T * cu _ _ _
  unfold cA
  simp
  omega
theorem Cu_pos {a b c : Nat} (h : det (sl (rw' a)) (sl (rw' b)) (sl (rw' c)) ≠ 0) : 0 < Cu sl rw' a b c := by
  unfold Cu cu sgn
  split <;> omega
theorem seek_c (hG : Geo I pt lo hi pr T sl N tA rw' lv) {a b : Nat} (ha : a < N) (hb : b < N) :
    ∀ (t c : Nat), (if 2 < tA then 3 else N) ≤ c + t → c ≤ 14 → ∀ (F : Nat), 2 * t + 2 < F → ∀ (J : SJ) (X : Rat → Rat → Rat → Prop) (x : Int32), (x = 0 ∨ x = 1) → BQ pr T J X → (∀ k, k < 3 → J 31 k = i6 (crs (sl (rw' a)) (sl (rw' b)) k)) →
      ∃ (F2 : Nat) (J2 : SJ) (x2 : Int32), F ≤ F2 + (2 * t + 2) ∧ (g_K_seek F).2.2.1 x (nI a) (nI b) (nI c) I J = (g_K_seek F2).2.1 x2 (nI a) (nI (b + 1)) I J2 ∧ (x2 = 0 ∨ x2 = 1) ∧ (x2 = 1 ↔ x = 1 ∨ ∃ c', c ≤ c' ∧ c' < (if 2 < tA then 3 else N) ∧ Ok3 pt lo hi T sl rw' lv a b c') ∧
        BQ pr T J2 (fun x y z => X x y z ∨ ∃ c', c ≤ c' ∧ c' < (if 2 < tA then 3 else N) ∧ Ok3 pt lo hi T sl rw' lv a b c' ∧ At3 T sl rw' lv a b c' x y z) := by
  obtain ⟨hL, hP, hT, hT1, hp, hs, hN, hN14, htA, htA4, htN, hpl⟩ := hG
  obtain ⟨Nc, eNc⟩ : ∃ z : Nat, z = (if 2 < tA then 3 else N) := ⟨_, rfl⟩
  have hNc : Nc ≤ N := by rw [eNc]; split <;> omega
  rw [← eNc]
  have step81 : ∀ (F : Nat) (x : Int32) (c : Nat) (J : SJ), (g_K_seek (F + 1)).2.2.1 x (nI a) (nI b) (nI c) I J = (g_K_seek F).2.2.2 x (nI a) (nI b) (nI c) (nI Nc) (nI c) I J := by
    intro F x c J
    show b_K_seek_81 (g_K_seek F).2.2.2 x (nI a) (nI b) (nI c) I J = _
    unfold b_K_seek_81
    rw [htA, hN, eNc]
    by_cases h : 2 < tA
    · rw [if_pos h, if_neg (show ¬ nI tA ≤ (2 : Int32) from nI_ge (a := 2) h (by omega))]
      rfl
    · rw [if_neg h, if_pos (show nI tA ≤ (2 : Int32) from nI_le (a := tA) (b := 2) (by omega) (by decide))]
  intro t
  induction t with
  | zero =>
    intro c hc hc14 F hF J X x hx hB h31
    obtain ⟨f, rfl⟩ : ∃ f, F = f + 2 := ⟨F - 2, by omega⟩
    refine ⟨f, J, x, by omega, ?_, hx, ?_, ?_⟩
    · rw [step81 (f + 1)]
      show b_K_seek_99 (g_K_seek f).2.1 (g_K_seek f).2.2.1 x (nI a) (nI b) (nI c) (nI Nc) (nI c) I J = _
      unfold b_K_seek_99
      rw [if_pos (nI_le (by omega) (by omega))]
      simp only [nm, nI_1]
    · constructor
      · exact fun h => Or.inl h
      · rintro (h | ⟨c', h1, h2, -⟩)
        · exact h
        · omega
    · refine BQ_mono hB (fun x y z h => Or.inl h) ?_
      rintro x y z (h | ⟨c', h1, h2, -⟩)
      · exact ⟨x, y, z, h, kle_refl⟩
      · omega
  | succ t ih =>
    intro c hc hc14 F hF J X x hx hB h31
    obtain ⟨f, rfl⟩ : ∃ f, F = f + 2 := ⟨F - 2, by omega⟩
    by_cases hcN : Nc ≤ c
    · refine ⟨f, J, x, by omega, ?_, hx, ?_, ?_⟩
      · rw [step81 (f + 1)]
        show b_K_seek_99 (g_K_seek f).2.1 (g_K_seek f).2.2.1 x (nI a) (nI b) (nI c) (nI Nc) (nI c) I J = _
        unfold b_K_seek_99
        rw [if_pos (nI_le (by omega) (by omega))]
        simp only [nm, nI_1]
      · constructor
        · exact fun h => Or.inl h
        · rintro (h | ⟨c', h1, h2, -⟩)
          · exact h
          · omega
      · refine BQ_mono hB (fun x y z h => Or.inl h) ?_
        rintro x y z (h | ⟨c', h1, h2, -⟩)
        · exact ⟨x, y, z, h, kle_refl⟩
        · omega
    · have hcN' : c < N := by omega
      have pa := hpl a ha
      have pb := hpl b hb
      have pc := hpl c hcN'
      obtain ⟨y, J2, i1, i2, i3', i4⟩ := isCorner_ok (J := J) (pt := pt) (lo := lo) (hi := hi) (T := T) hL hP hT hT1 (show a < 14 by omega) (show b < 14 by omega) (show c < 14 by omega) pa.1 pb.1 pc.1 pa.2.1 pb.2.1 pc.2.1 (hs _ pa.1) (hs _ pb.1) (hs _ pc.1) pa.2.2.1 pb.2.2.1 pc.2.2.1 pa.2.2.2 pb.2.2.2 pc.2.2.2 h31
      have hB2 : BQ pr T J2 X := BQ_same hB (i2 35 (by decide) (by decide)) (i2 36 (by decide) (by decide))
      have h312 : ∀ k, k < 3 → J2 31 k = i6 (crs (sl (rw' a)) (sl (rw' b)) k) := fun k hk => by rw [i2 31 (by decide) (by decide)]; exact h31 k hk
      have st : (g_K_seek (f + 2)).2.2.1 x (nI a) (nI b) (nI c) I J = cl3 (m_K_isCorner (nI a) (nI b) (nI c) I J) fun r3 I4 J5 => if r3 = 0 then (g_K_seek f).2.2.1 x (nI a) (nI b) (nI c + 1) I4 J5 else cl2 (m_K_offer I4 J5) fun I10 J11 => (g_K_seek f).2.2.1 1 (nI a) (nI b) (nI c + 1) I10 J11 := by
        rw [step81 (f + 1)]
        show b_K_seek_99 (g_K_seek f).2.1 (g_K_seek f).2.2.1 x (nI a) (nI b) (nI c) (nI Nc) (nI c) I J = _
        unfold b_K_seek_99
        rw [if_neg (nI_ge (by omega) (by omega))]
        rfl
      rw [st, i1, nI_1]
      rcases i4 with ⟨hy, hd, hin, hA2, hu2⟩ | ⟨hy, hno⟩
      · subst hy
        have u0 : 0 < Cu sl rw' a b c := Cu_pos hd
        have u1 := cu_le (fun j hj => (hs _ pa.1 j hj).2) (fun j hj => (hs _ pb.1 j hj).2) (fun j hj => (hs _ pc.1 j hj).2)
        obtain ⟨J3, o1, o2, o3⟩ := offer_BQ (I := I) (J := J2) (A := Ca T sl rw' lv a b c) (u := Cu sl rw' a b c) hp (fun i hi => ⟨hA2 i hi, cA_le hT1 (fun j hj => (hs _ pa.1 j hj).2) (fun j hj => (hs _ pb.1 j hj).2) (fun j hj => (hs _ pc.1 j hj).2) pa.2.2.2 pb.2.2.2 pc.2.2.2 i⟩) hu2 u0 u1.2 (Ca_sum a b c) hB2
        obtain ⟨F2, J4, x2, g1, g2, g3, g4, g5⟩ := ih (c + 1) (by omega) (by omega) f (by omega) J3 _ 1 (Or.inr rfl) o3 (fun k hk => by rw [o2 31 (by decide) (by decide) (by decide)]; exact h312 k hk)
        refine ⟨F2, J4, x2, by omega, ?_, g3, ?_, ?_⟩
        · simp only [cl3, one0, if_false, o1, cl2]
          exact g2
        · constructor
          · exact fun _ => Or.inr ⟨c, Nat.le_refl c, by omega, hd, hin⟩
          · exact fun _ => g4.mpr (Or.inl rfl)
        · refine BQ_mono g5 ?_ ?_
          · rintro x y z ((h | ⟨h1, h2, h3⟩) | ⟨c', h1, h2, h3⟩)
            · exact Or.inl h
            · exact Or.inr ⟨c, Nat.le_refl c, by omega, ⟨hd, hin⟩, h1, h2, h3⟩
            · exact Or.inr ⟨c', by omega, h2, h3⟩
          · rintro x y z (h | ⟨c', h1, h2, h3, h4⟩)
            · exact ⟨x, y, z, Or.inl (Or.inl h), kle_refl⟩
            · by_cases e : c' = c
              · subst e
                exact ⟨x, y, z, Or.inl (Or.inr h4), kle_refl⟩
              · exact ⟨x, y, z, Or.inr ⟨c', by omega, h2, h3, h4⟩, kle_refl⟩
      · subst hy
        have hnot : ¬ Ok3 pt lo hi T sl rw' lv a b c := by
          rintro ⟨h1, h2⟩
          rcases hno with h | ⟨k, k1, k2⟩
          · exact h1 h
          · exact k2 (h2 k k1)
        obtain ⟨F2, J4, x2, g1, g2, g3, g4, g5⟩ := ih (c + 1) (by omega) (by omega) f (by omega) J2 X x hx hB2 h312
        refine ⟨F2, J4, x2, by omega, ?_, g3, ?_, ?_⟩
        · simp only [cl3, if_true]
          exact g2
        · rw [g4]
          constructor
          · rintro (h | ⟨c', h1, h2, h3⟩)
            · exact Or.inl h
            · exact Or.inr ⟨c', by omega, h2, h3⟩
          · rintro (h | ⟨c', h1, h2, h3⟩)
            · exact Or.inl h
            · refine Or.inr ⟨c', ?_, h2, h3⟩
              by_cases e : c' = c
              · subst e; exact absurd h3 hnot
              · omega
        · refine BQ_mono g5 ?_ ?_
          · rintro x y z (h | ⟨c', h1, h2, h3⟩)
            · exact Or.inl h
            · exact Or.inr ⟨c', by omega, h2, h3⟩
          · rintro x y z (h | ⟨c', h1, h2, h3, h4⟩)
            · exact ⟨x, y, z, Or.inl h, kle_refl⟩
            · by_cases e : c' = c
              · subst e; exact absurd h3 hnot
              · exact ⟨x, y, z, Or.inr ⟨c', by omega, h2, h3, h4⟩, kle_refl⟩
end SEEK
