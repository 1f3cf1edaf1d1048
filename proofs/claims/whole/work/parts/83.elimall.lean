/-! The elimination from its first step to its last. -/
section EA
variable {I : SI} {x1 : Int32} {n : Nat} {b : Nat → Nat → Int} {R : Int}
/-- what the elimination leaves: the last pivot, and the last column -/
def Cra (n : Nat) (b : Nat → Nat → Int) (R L : Int) (Z : Nat → Int) : Prop := L ≠ 0 ∧ -384000 ≤ L ∧ L ≤ 384000 ∧ (∀ r, r < n → -1000000000 ≤ Z r ∧ Z r ≤ 1000000000) ∧ sR Z n = L * R ∧ ∀ y, Sol n b y → ∀ r, 1 ≤ r → r < n → (Z r : Rat) = (L : Rat) * y r
theorem Cra_same {b' : Nat → Nat → Int} {L : Int} {Z : Nat → Int} (h : Same n b b') (hc : Cra n b' R L Z) : Cra n b R L Z := ⟨hc.1, hc.2.1, hc.2.2.1, hc.2.2.2.1, hc.2.2.2.2.1, fun y hy => hc.2.2.2.2.2 y (h.2.1 y hy)⟩
theorem Cra1 (hR : -200 ≤ R ∧ R ≤ 200) : Cra 1 b R 1 (fun r => E1 b R r 4) := by
  refine ⟨by omega, by omega, by omega, fun r hr => ?_, ?_, fun y _ r h1 h2 => by omega⟩
  · have : r = 0 := by omega
    subst this
    show _ ≤ R ∧ R ≤ _
    omega
  · show 0 + R = 1 * R
    omega
theorem Cra2 (h : Bok 2 b) (hR : -200 ≤ R ∧ R ≤ 200) (h0 : b 1 1 ≠ 0) : Cra 2 b R (b 1 1) (fun r => E2 b R r 4) := by
  have b11 := (h 1 (by omega) (by omega)).1 1 (by omega) (by omega)
  refine ⟨h0, by omega, by omega, fun r hr => E2_le h hR (by omega) hr (Or.inl rfl), ?_, fun y hy r h1 h2 => ?_⟩
  · show 0 + (R * b 1 1 - b 1 4) + b 1 4 = b 1 1 * R
    rw [Int.mul_comm R]
    omega
  · have : r = 1 := by omega
    subst this
    have := hy 1 (by omega) (by omega)
    show ((b 1 4 : Int) : Rat) = _
    rw [← this]
    show 0 + (b 1 1 : Rat) * y 1 = _
    grind
theorem Cra3 (h : Bok 3 b) (hR : -200 ≤ R ∧ R ≤ 200) (h0 : d2 b 1 2 ≠ 0) : Cra 3 b R (d2 b 1 2) (fun r => E3 b R r 4) := by
  have c12 := d2_s h (by omega) (show 1 ≤ 1 ∧ 1 < 3 by omega) (show 1 ≤ 2 ∧ 2 < 3 by omega)
  refine ⟨h0, by omega, by omega, fun r hr => E3_le h hR (by omega) (by omega) hr (Or.inl rfl), ?_, fun y hy r h1 h2 => ?_⟩
  · show 0 + (R * d2 b 1 2 - d2 b 4 2 - d2 b 1 4) + d2 b 4 2 + d2 b 1 4 = d2 b 1 2 * R
    rw [Int.mul_comm R]
    omega
  · have y1 : 0 + (b 1 1 : Rat) * y 1 + (b 1 2 : Rat) * y 2 = (b 1 4 : Rat) := hy 1 (by omega) (by omega)
    have y2 : 0 + (b 2 1 : Rat) * y 1 + (b 2 2 : Rat) * y 2 = (b 2 4 : Rat) := hy 2 (by omega) (by omega)
    have hr : r = 1 ∨ r = 2 := by omega
    rcases hr with rfl | rfl
    · show ((d2 b 4 2 : Int) : Rat) = _
      unfold d2
      simp only [Rat.intCast_sub, Rat.intCast_mul]
      rw [← y1, ← y2]
      grind
    · show ((d2 b 1 4 : Int) : Rat) = _
      unfold d2
      simp only [Rat.intCast_sub, Rat.intCast_mul]
      rw [← y1, ← y2]
      grind
theorem Cra4 (h : Bok 4 b) (hR : -200 ≤ R ∧ R ≤ 200) (h0 : d3 b 1 2 3 ≠ 0) : Cra 4 b R (d3 b 1 2 3) (E4 b R) := by
  have c := d3_s h (show 1 ≤ 1 ∧ 1 < 4 by omega) (show 1 ≤ 2 ∧ 2 < 4 by omega) (show 1 ≤ 3 ∧ 3 < 4 by omega)
  refine ⟨h0, by omega, by omega, fun r hr => E4_le h hR r, ?_, fun y hy r h1 h2 => ?_⟩
  · show 0 + (R * d3 b 1 2 3 - d3 b 4 2 3 - d3 b 1 4 3 - d3 b 1 2 4) + d3 b 4 2 3 + d3 b 1 4 3 + d3 b 1 2 4 = d3 b 1 2 3 * R
    rw [Int.mul_comm R]
    omega
  · have y1 : 0 + (b 1 1 : Rat) * y 1 + (b 1 2 : Rat) * y 2 + (b 1 3 : Rat) * y 3 = (b 1 4 : Rat) := hy 1 (by omega) (by omega)
    have y2 : 0 + (b 2 1 : Rat) * y 1 + (b 2 2 : Rat) * y 2 + (b 2 3 : Rat) * y 3 = (b 2 4 : Rat) := hy 2 (by omega) (by omega)
    have y3 : 0 + (b 3 1 : Rat) * y 1 + (b 3 2 : Rat) * y 2 + (b 3 3 : Rat) * y 3 = (b 3 4 : Rat) := hy 3 (by omega) (by omega)
    have hr : r = 1 ∨ r = 2 ∨ r = 3 := by omega
    rcases hr with rfl | rfl | rfl
    · show ((d3 b 4 2 3 : Int) : Rat) = _
      unfold d3 d2
      simp only [Rat.intCast_sub, Rat.intCast_mul, Rat.intCast_add]
      rw [← y1, ← y2, ← y3]
      grind
    · show ((d3 b 1 4 3 : Int) : Rat) = _
      unfold d3 d2
      simp only [Rat.intCast_sub, Rat.intCast_mul, Rat.intCast_add]
      rw [← y1, ← y2, ← y3]
      grind
    · show ((d3 b 1 2 4 : Int) : Rat) = _
      unfold d3 d2
      simp only [Rat.intCast_sub, Rat.intCast_mul, Rat.intCast_add]
      rw [← y1, ← y2, ← y3]
      grind
/-- the steps behind the first -/
theorem el_rest (hn1 : 1 ≤ n) (hn : n ≤ 4) (h : Bok n b) (hR : -200 ≤ R ∧ R ≤ 200) {J : SJ} (hJ : Rws n 1 (E1 b R) J) (F : Nat) (hF : 300 < F) :
    (∃ (L : Int) (Z : Nat → Int) (F2 : Nat) (J2 : SJ), Cra n b R L Z ∧ F ≤ F2 + 200 ∧ s180 F x1 (nI n) (i6 1) (nI 1) I J = s180 F2 x1 (nI n) (i6 L) (nI n) I J2 ∧ (∀ r, r < n → J2 14 (5 * r + 4) = i6 (Z r)) ∧ ∀ m, m ≠ 14 → J2 m = J m) ∨
    ((∃ v, Nul n b v ∧ ∃ k, 1 ≤ k ∧ k < n ∧ v k ≠ 0) ∧ ∃ J2, s180 F x1 (nI n) (i6 1) (nI 1) I J = some (0, I, J2) ∧ ∀ m, m ≠ 14 → J2 m = J m) := by
  by_cases e1 : n = 1
  · subst e1
    exact Or.inl ⟨1, _, F, J, Cra1 hR, by omega, rfl, fun r hr => hJ r hr 4 (by omega) (Or.inl rfl), fun _ _ => rfl⟩
  · rcases stg2 (x1 := x1) (I := I) (by omega) hn h hR hJ F (by omega) with ⟨b2, F2, J2, a1, a2, a3, a4, a5, a6⟩ | ⟨a1, a2⟩
    · by_cases e2 : n = 2
      · subst e2
        exact Or.inl ⟨b2 1 1, _, F2, J2, Cra_same a1 (Cra2 a1.1 hR a2), by omega, a4, fun r hr => a5 r hr 4 (by omega) (Or.inl rfl), a6⟩
      · rcases stg3 (x1 := x1) (I := I) (by omega) hn a1.1 hR a2 a5 F2 (by omega) with ⟨b3, F3, J3, c1, c2, c3, c4, c5, c6⟩ | ⟨⟨v, c1, c3⟩, c2⟩
        · by_cases e3 : n = 3
          · subst e3
            exact Or.inl ⟨d2 b3 1 2, _, F3, J3, Cra_same (Same_trans a1 c1) (Cra3 c1.1 hR c2), by omega, a4.trans c4, fun r hr => c5 r hr 4 (by omega) (Or.inl rfl), fun m hm => by rw [c6 m hm, a6 m hm]⟩
          · have e4 : n = 4 := by omega
            subst e4
            rcases stg4 (x1 := x1) (I := I) c1.1 hR c2 c5 F3 (by omega) with ⟨F4, J4, f1, f2, f3, f4, f5⟩ | ⟨⟨v, f1, f3⟩, f2⟩
            · exact Or.inl ⟨d3 b3 1 2 3, _, F4, J4, Cra_same (Same_trans a1 c1) (Cra4 c1.1 hR f1), by omega, (a4.trans c4).trans f3, f4, fun m hm => by rw [f5 m hm, c6 m hm, a6 m hm]⟩
            · exact Or.inr ⟨⟨v, (Same_trans a1 c1).2.2 v f1, f3⟩, J3, (a4.trans c4).trans f2, fun m hm => by rw [c6 m hm, a6 m hm]⟩
        · exact Or.inr ⟨⟨v, a1.2.2 v c1, c3⟩, J2, a4.trans c2, a6⟩
    · exact Or.inr ⟨a1, J, a2, fun _ _ => rfl⟩
/-- the first row is ones: the first step takes it from the others -/
theorem el_first (hn1 : 1 ≤ n) (hn : n ≤ 4) {A : Nat → Nat → Int} (hb : ∀ r k, b r k = A r k - A r 0 * A 0 k) (h : Bok n b) (hR : -200 ≤ R ∧ R ≤ 200) (h0 : ∀ k, k < n → A 0 k = 1) (h4 : A 0 4 = R) (hA : ∀ r, r < n → ∀ k, k < 5 → (k = 4 ∨ k < n) → -16000 ≤ A r k ∧ A r k ≤ 16000) {J : SJ} (hJ : ∀ r, r < n → ∀ k, k < 5 → (k = 4 ∨ k < n) → J 14 (5 * r + k) = i6 (A r k)) (F : Nat) (hF : 400 < F) :
    (∃ (L : Int) (Z : Nat → Int) (F2 : Nat) (J2 : SJ), Cra n b R L Z ∧ F ≤ F2 + 300 ∧ s180 F x1 (nI n) (i6 1) (nI 0) I J = s180 F2 x1 (nI n) (i6 L) (nI n) I J2 ∧ (∀ r, r < n → J2 14 (5 * r + 4) = i6 (Z r)) ∧ ∀ m, m ≠ 14 → J2 m = J m) ∨
    ((∃ v, Nul n b v ∧ ∃ k, 1 ≤ k ∧ k < n ∧ v k ≠ 0) ∧ ∃ J2, s180 F x1 (nI n) (i6 1) (nI 0) I J = some (0, I, J2) ∧ ∀ m, m ≠ 14 → J2 m = J m) := by
  have a00 : A 0 0 = 1 := h0 0 (by omega)
  have sw0 : sw A 0 0 = A := by funext r k; unfold sw; rw [if_pos rfl]
  rcases el_step (x1 := x1) (I := I) (c := 0) (n := n) (by omega) hn (l := 1) (e := A) (by omega) (by omega) (by omega) (J := J) (fun r hr k hk hV => ⟨hJ r hr k hk (hV.imp id (fun z => z.2)), by have := hA r hr k hk (hV.imp id (fun z => z.2)); omega⟩) (fun p r k => E1 b R r k) (fun p hp hpn hne hz r hr hrc k hk hV => by
      have p0 : p = 0 := by
        rcases Nat.eq_zero_or_pos p with z | z
        · exact z
        · have := hz 0 (by omega) z; omega
      subst p0
      rw [sw0, a00]
      unfold E1
      rw [if_neg hrc, hb r k]
      refine ⟨by omega, ?_⟩
      rw [← hb r k]
      have := b_le h (show 1 ≤ r by omega) hr (hV.imp id (fun z => ⟨by omega, z.2⟩) : k = 4 ∨ (1 ≤ k ∧ k < n))
      omega) F (by omega) with ⟨p, F2, J2, a1, a2, a3, a4, a5, a6, a7, a8, a9⟩ | ⟨a1, a2⟩
  · have p0 : p = 0 := by
      rcases Nat.eq_zero_or_pos p with z | z
      · exact z
      · have := a9 0 (by omega) z; omega
    subst p0
    rw [sw0, a00] at a5
    rw [sw0] at a7
    have hJ2 : Rws n 1 (E1 b R) J2 := fun r hr k hk hV => by
      by_cases e0 : r = 0
      · subst e0
        rw [a7 k hk (hV.imp id (fun z => ⟨by omega, z.2⟩))]
        unfold E1 oR
        rw [if_pos rfl]
        rcases hV with rfl | hV
        · rw [if_pos rfl, h4]
        · rw [if_neg (by omega), h0 k hV.2]
      · exact a6 r hr e0 k hk (hV.imp id (fun z => ⟨by omega, z.2⟩))
    rcases el_rest (x1 := x1) (I := I) hn1 hn h hR hJ2 F2 (by omega) with ⟨L, Z, F3, J3, c1, c2, c3, c4, c5⟩ | ⟨c1, J3, c2, c3⟩
    · exact Or.inl ⟨L, Z, F3, J3, c1, by omega, a5.trans c3, c4, fun m hm => by rw [c5 m hm, a8 m hm]⟩
    · exact Or.inr ⟨c1, J3, a5.trans c2, fun m hm => by rw [c3 m hm, a8 m hm]⟩
  · have := a1 0 (by omega) (by omega); omega
end EA
