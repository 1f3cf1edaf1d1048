/-! The reference: what a bound says. -/
def fac (d : Dt) (b s : Nat) : Int := if 18 ≤ b then (if b - 18 = s then 1 else 0) else if 12 ≤ b then ptd d ((b - 12) % 3) s else if b % 4 = s then (if 4 ≤ b then 10 else 1) else 0
def rgt (d : Dt) (w b : Nat) : Int := if 18 ≤ b then 0 else if 15 ≤ b then (w : Int) * ((dmn d (b - 15) : Nat) : Int) else if 12 ≤ b then (w : Int) * ((dln d (b - 12) : Nat) : Int) else if 8 ≤ b then (w : Int) * ((dms d (b - 8) : Nat) : Int) else if 4 ≤ b then (w : Int) * ((dls d (b - 4) : Nat) : Int) else ((dst d b : Nat) : Int)
abbrev lst (b : Nat) : Prop := 18 ≤ b ∨ isL b
def thR (d : Dt) (b : Nat) : Prop := (12 ≤ b ∧ b < 18) ∨ (b < 12 ∧ b % 4 < dn d) ∨ (18 ≤ b ∧ b - 18 < dn d)
theorem r_m4 : ∀ b, b < 22 → nI b - nI b / 4 * 4 = nI (b % 4) := by decide +kernel
theorem r_m3 : ∀ b, b < 22 → 12 ≤ b → (nI b - 12) - (nI b - 12) / 3 * 3 = nI ((b - 12) % 3) := by decide +kernel
theorem nI_inj {a b : Nat} (ha : a < 2 ^ 31) (hb : b < 2 ^ 31) : nI a = nI b ↔ a = b := by
  constructor
  · intro z
    have := congrArg Int32.toInt z
    rw [nI_toInt ha, nI_toInt hb] at this
    omega
  · intro z; rw [z]
theorem r_least : ∀ b, b < 22 → m_R_isLeast (nI b) = some (if lst b then 1 else 0) := by
  have h : ∀ b, b < 22 → b_R_isLeast_0 (fun x0 => b_R_isLeast_18 x0) (nI b) = some (if lst b then 1 else 0) := by decide +kernel
  intro b hb
  obtain ⟨f, hf⟩ := fuel_eq 1 (by decide)
  unfold m_R_isLeast
  rw [hf]
  exact h b hb
section RB
variable {d : Dt} {w : Nat} {I : SI} {J : SJ}
theorem r_factor (hrg : Rg d) (h : ToR d I) {b s : Nat} (hb : b < 22) (hs : s < 4) : m_R_factor (nI b) (nI s) I J = some (i6 (fac d b s), I, J) := by
  simp only [m_R_factor, b_R_factor_0, nm]
  unfold fac
  have i61 : i6 1 = 1 := by decide
  have i60 : i6 0 = 0 := by decide
  have i610 : i6 10 = 10 := by decide
  by_cases c : b < 18
  · rw [if_pos (show nI b < (18 : Int32) from nI_lt (b := 18) c (by decide)), if_neg (show ¬ 18 ≤ b by omega)]
    by_cases c2 : b < 12
    · rw [if_pos (show nI b < (12 : Int32) from nI_lt (b := 12) c2 (by decide)), if_neg (show ¬ 12 ≤ b by omega), r_m4 b hb]
      simp only [nI_inj (show b % 4 < 2 ^ 31 by omega) (show s < 2 ^ 31 by omega)]
      by_cases e : b % 4 = s
      · rw [if_pos e, if_pos e]
        by_cases c4 : 4 ≤ b
        · rw [if_pos (show (4 : Int32) ≤ nI b from nI_le (a := 4) c4 (by omega)), if_pos c4, i610]
        · rw [if_neg (show ¬ (4 : Int32) ≤ nI b from nI_ge (b := 4) (by omega) (by decide)), if_neg c4, i61]
      · rw [if_neg e, if_neg e, i60]
    · rw [if_neg (show ¬ nI b < (12 : Int32) from nI_nlt (b := 12) (by omega) (by omega)), if_pos (show 12 ≤ b by omega)]
      have e : (4 : Int32) * nI ((b - 12) % 3) + nI s = nI (4 * ((b - 12) % 3) + s) := by
        rw [show (4 : Int32) = nI 4 from rfl, i3_nI, i3_nI, i3_nI, i3_nI, i3_mul, i3_add]
        congr 1
      have v : vin (nI (4 * ((b - 12) % 3) + s)) 12 := vp_in_nI (by omega) (by decide)
      have p := h.2.2.2.2.2.2.1 ((b - 12) % 3) (by omega) s hs
      have g := hrg.2.2.1 ((b - 12) % 3) (by omega) s hs
      simp only [r_m3 b hb (by omega), e, gd_of v, nI_clamp (show 4 * ((b - 12) % 3) + s < 2 ^ 31 by omega), p]
      rw [i3_nI, i3_i6 (by omega) (by omega)]
      rfl
  · rw [if_neg (show ¬ nI b < (18 : Int32) from nI_nlt (b := 18) (by omega) (by omega)), if_pos (show 18 ≤ b by omega)]
    have e : nI b - 18 = nI (b - 18) := pk_sub (a := b) (b := 18) (by omega)
    simp only [e, nI_inj (show b - 18 < 2 ^ 31 by omega) (show s < 2 ^ 31 by omega)]
    by_cases q : b - 18 = s
    · rw [if_pos q, if_pos q, i61]
    · rw [if_neg q, if_neg q, i60]
theorem r_right (hrg : Rg d) (h : ToR d I) (hw : w ≤ 40) {b : Nat} (hb : b < 22) : m_R_right (nI b) (nI w) I J = some (i6 (rgt d w b), I, J) := by
  have w6 : (nI w).toInt64 = i6 (w : Int) := by rw [i3_nI, i3_i6 (by omega) (by omega)]
  simp only [m_R_right, b_R_right_0, nm, w6]
  unfold rgt
  by_cases c : b < 18
  · rw [if_pos (show nI b < (18 : Int32) from nI_lt (b := 18) c (by decide)), if_neg (show ¬ 18 ≤ b by omega)]
    by_cases c2 : b < 12
    · rw [if_pos (show nI b < (12 : Int32) from nI_lt (b := 12) c2 (by decide)), if_neg (show ¬ 15 ≤ b by omega), if_neg (show ¬ 12 ≤ b by omega)]
      by_cases c4 : 4 ≤ b
      · rw [if_pos (show (4 : Int32) ≤ nI b from nI_le (a := 4) c4 (by omega))]
        by_cases c8 : 8 ≤ b
        · rw [if_pos (show (8 : Int32) ≤ nI b from nI_le (a := 8) c8 (by omega)), if_pos c8]
          have e : nI b - 8 = nI (b - 8) := pk_sub (a := b) (b := 8) (by omega)
          have v : vin (nI (b - 8)) 4 := vp_in_nI (by omega) (by decide)
          have g := (hrg.2.1 (b - 8) (by omega)).2.2.2.1
          rw [e, gd_of v, nI_clamp (show b - 8 < 2 ^ 31 by omega), h.2.2.2.2.1 (b - 8) (by omega), i3_nI, i3_i6 (by omega) (by omega), i6_mul]
        · rw [if_neg (show ¬ (8 : Int32) ≤ nI b from nI_ge (b := 8) (by omega) (by decide)), if_neg c8, if_pos c4]
          have e : nI b - 4 = nI (b - 4) := pk_sub (a := b) (b := 4) (by omega)
          have v : vin (nI (b - 4)) 4 := vp_in_nI (by omega) (by decide)
          have g := (hrg.2.1 (b - 4) (by omega)).2.2.1
          rw [e, gd_of v, nI_clamp (show b - 4 < 2 ^ 31 by omega), h.2.2.2.1 (b - 4) (by omega), i3_nI, i3_i6 (by omega) (by omega), i6_mul]
      · rw [if_neg (show ¬ (4 : Int32) ≤ nI b from nI_ge (b := 4) (by omega) (by decide)), if_neg (show ¬ 8 ≤ b by omega), if_neg c4]
        have v : vin (nI b) 4 := vp_in_nI (by omega) (by decide)
        have g := (hrg.2.1 b (by omega)).2.1
        rw [gd_of v, nI_clamp (show b < 2 ^ 31 by omega), h.2.2.1 b (by omega), i3_nI, i3_i6 (by omega) (by omega)]
    · rw [if_neg (show ¬ nI b < (12 : Int32) from nI_nlt (b := 12) (by omega) (by omega))]
      by_cases c15 : 15 ≤ b
      · rw [if_pos (show (15 : Int32) ≤ nI b from nI_le (a := 15) c15 (by omega)), if_pos c15]
        have e : nI b - 15 = nI (b - 15) := pk_sub (a := b) (b := 15) (by omega)
        have v : vin (nI (b - 15)) 3 := vp_in_nI (by omega) (by decide)
        have g := hrg.2.2.2 (b - 15) (by omega)
        rw [e, gd_of v, nI_clamp (show b - 15 < 2 ^ 31 by omega), h.2.2.2.2.2.2.2.2 (b - 15) (by omega), i3_nI, i3_i6 (by omega) (by omega), i6_mul]
      · rw [if_neg (show ¬ (15 : Int32) ≤ nI b from nI_ge (b := 15) (by omega) (by decide)), if_neg c15, if_pos (show 12 ≤ b by omega)]
        have e : nI b - 12 = nI (b - 12) := pk_sub (a := b) (b := 12) (by omega)
        have v : vin (nI (b - 12)) 3 := vp_in_nI (by omega) (by decide)
        have g := hrg.2.2.2 (b - 12) (by omega)
        rw [e, gd_of v, nI_clamp (show b - 12 < 2 ^ 31 by omega), h.2.2.2.2.2.2.2.1 (b - 12) (by omega), i3_nI, i3_i6 (by omega) (by omega), i6_mul]
  · rw [if_neg (show ¬ nI b < (18 : Int32) from nI_nlt (b := 18) (by omega) (by omega)), if_pos (show 18 ≤ b by omega)]
    rfl
theorem fac_le (hrg : Rg d) {b s : Nat} (hs : s < 4) : 0 ≤ fac d b s ∧ fac d b s ≤ 40 := by
  unfold fac
  split
  · split <;> omega
  · split
    · have := hrg.2.2.1 ((b - 12) % 3) (by omega) s hs
      unfold ptd
      omega
    · split
      · split <;> omega
      · omega
theorem rgt_le (hrg : Rg d) (hw : w ≤ 40) {b : Nat} (hb : b < 22) : 0 ≤ rgt d w b ∧ rgt d w b ≤ 1600 := by
  have m : ∀ a : Nat, a ≤ 40 → 0 ≤ (w : Int) * (a : Int) ∧ (w : Int) * (a : Int) ≤ 1600 := fun a ha => by
    have m1 := mulB (p := (w : Int)) (M := 40) (a := (a : Int)) (B := 40) (by omega) (by omega) (by omega) (by omega)
    have m0 : 0 ≤ (w : Int) * (a : Int) := Int.mul_nonneg (by omega) (by omega)
    omega
  unfold rgt
  split
  · omega
  · split
    · exact m _ (hrg.2.2.2 (b - 15) (by omega)).2
    · split
      · have := hrg.2.2.2 (b - 12) (by omega)
        exact m _ (by omega)
      · split
        · have := (hrg.2.1 (b - 8) (by omega)).2.2.2.1
          exact m _ (by omega)
        · split
          · have := (hrg.2.1 (b - 4) (by omega)).2.2.1
            exact m _ (by omega)
          · have := (hrg.2.1 b (by omega)).2.1
            omega
theorem r_there (hrg : Rg d) (h : ToR d I) {b : Nat} (hb : b < 22) : (m_R_isThere (nI b) I J = some (1, I, J) ∧ thR d b) ∨ (m_R_isThere (nI b) I J = some (0, I, J) ∧ ¬ thR d b) := by
  obtain ⟨f, hf⟩ := fuel_eq 1 (by decide)
  have hn := hrg.1
  have k28 : 18 ≤ b → b_R_isThere_28 (nI b) I J = if dn d ≤ b - 18 then some (0, I, J) else some (1, I, J) := fun hb18 => by
    have e : nI b - 18 = nI (b - 18) := pk_sub (a := b) (b := 18) (by omega)
    unfold b_R_isThere_28
    rw [if_neg (show ¬ nI b < (18 : Int32) from nI_nlt (b := 18) (by omega) (by omega))]
    simp only [nm, e, h.1]
    by_cases c : dn d ≤ b - 18
    · rw [if_pos c, if_pos (nI_le c (by omega))]
    · rw [if_neg c, if_neg (nI_ge (by omega) (by omega))]
  have k28' : b < 18 → b_R_isThere_28 (nI b) I J = some (0, I, J) := fun hb18 => by
    unfold b_R_isThere_28
    rw [if_pos (show nI b < (18 : Int32) from nI_lt (b := 18) (by omega) (by decide))]
  unfold m_R_isThere thR
  rw [hf]
  show (b_R_isThere_0 (fun x1 I J => b_R_isThere_28 x1 I J) (nI b) I J = _ ∧ _) ∨ (b_R_isThere_0 (fun x1 I J => b_R_isThere_28 x1 I J) (nI b) I J = _ ∧ _)
  unfold b_R_isThere_0
  simp only [nm, r_m4 b hb, h.1]
  by_cases c12 : b < 12
  · rw [if_pos (show nI b < (12 : Int32) from nI_lt (b := 12) c12 (by decide))]
    by_cases c : dn d ≤ b % 4
    · rw [if_pos (nI_le c (by omega)), k28' (by omega)]
      exact Or.inr ⟨rfl, by omega⟩
    · rw [if_neg (nI_ge (by omega) (by omega)), if_pos (show nI b < (12 : Int32) from nI_lt (b := 12) c12 (by decide))]
      exact Or.inl ⟨rfl, by omega⟩
  · rw [if_neg (show ¬ nI b < (12 : Int32) from nI_nlt (b := 12) (by omega) (by omega))]
    by_cases c18 : b < 18
    · rw [if_pos (show nI b < (18 : Int32) from nI_lt (b := 18) c18 (by decide))]
      exact Or.inl ⟨rfl, by omega⟩
    · rw [if_neg (show ¬ nI b < (18 : Int32) from nI_nlt (b := 18) (by omega) (by omega))]
      have hk := k28 (by omega)
      have all : (if nI (dn d) ≤ nI (b % 4) then b_R_isThere_28 (nI b) I J else if nI b < (12 : Int32) then some (1, I, J) else b_R_isThere_28 (nI b) I J) = if dn d ≤ b - 18 then some (0, I, J) else some (1, I, J) := by
        rw [if_neg (show ¬ nI b < (12 : Int32) from nI_nlt (b := 12) (by omega) (by omega)), hk]
        exact ite_self _
      rw [all]
      by_cases c : dn d ≤ b - 18
      · rw [if_pos c]; exact Or.inr ⟨rfl, by omega⟩
      · rw [if_neg c]; exact Or.inl ⟨rfl, by omega⟩
/-- sums over the stuffs -/
def sR (f : Nat → Int) : Nat → Int
  | 0 => 0
  | m + 1 => sR f m + f m
theorem aa2 {aa : Nat} (h : aa = 15 ∨ aa = 17) : aa ∈ [15, 17] := by rcases h with rfl | rfl <;> decide
theorem r_over (hrg : Rg d) (h : ToR d I) (hw : w ≤ 40) {b : Nat} (hb : b < 22) {aa : Nat} (ha : aa = 15 ∨ aa = 17) {A : Nat → Int} {u : Int} (hA : ∀ s, s < dn d → J aa s = i6 (A s)) :
    m_R_over (nI b) (nI w) aa (i6 u) I J = some (i6 (sR (fun s => fac d b s * A s) (dn d) - rgt d w b * u), I, J) := by
  have hn := hrg.1
  have loop : ∀ (t s : Nat), s + t = dn d → ∀ (F : Nat), t < F → ∀ a : Int, g_R_over F (nI b) aa (i6 a) (nI s) I J = some (i6 (a + (sR (fun s => fac d b s * A s) (dn d) - sR (fun s => fac d b s * A s) s)), I, J) := by
    intro t
    induction t with
    | zero =>
      intro s hs F hF a
      obtain ⟨f, rfl⟩ : ∃ f, F = f + 1 := ⟨F - 1, by omega⟩
      have e : s = dn d := by omega
      subst e
      show b_R_over_15 (g_R_over f) (nI b) aa (i6 a) (nI (dn d)) I J = _
      unfold b_R_over_15
      rw [gd_of (aa2 ha), h.1, if_pos (nI_le (Nat.le_refl _) (by omega)), Int.sub_self, Int.add_zero]
    | succ t ih =>
      intro s hs F hF a
      obtain ⟨f, rfl⟩ : ∃ f, F = f + 1 := ⟨F - 1, by omega⟩
      have vs : vin (nI s) 4 := vp_in_nI (by omega) (by decide)
      show b_R_over_15 (g_R_over f) (nI b) aa (i6 a) (nI s) I J = _
      unfold b_R_over_15
      rw [gd_of (aa2 ha), h.1, if_neg (nI_ge (by omega) (by omega))]
      simp only [r_factor hrg h hb (show s < 4 by omega), cl3, gd_of vs, nI_clamp (show s < 2 ^ 31 by omega), nm, hA s (by omega), i6_mul, i6_add, nI_1]
      rw [ih (s + 1) (by omega) f (by omega)]
      have e : sR (fun s => fac d b s * A s) (s + 1) = sR (fun s => fac d b s * A s) s + fac d b s * A s := rfl
      rw [e]
      congr 3
      omega
  unfold m_R_over b_R_over_0
  rw [gd_of (aa2 ha)]
  simp only [r_right hrg h hw hb, cl3, nm, i6_neg, i6_mul]
  rw [show (0 : Int32) = nI 0 from rfl, loop (dn d) 0 (by omega) fuel (Nat.lt_of_le_of_lt hn (by decide))]
  congr 3
  show -rgt d w b * u + (_ - 0) = _
  rw [Int.neg_mul]
  omega
theorem r_cost (hrg : Rg d) (h : ToR d I) {aa : Nat} (ha : aa = 15 ∨ aa = 17) {A : Nat → Int} (hA : ∀ s, s < dn d → J aa s = i6 (A s)) :
    m_R_costOf aa I J = some (i6 (sR (fun s => prd d s * A s) (dn d)), I, J) := by
  have hn := hrg.1
  have loop : ∀ (t s : Nat), s + t = dn d → ∀ (F : Nat), t < F → ∀ a : Int, g_R_costOf F aa (i6 a) (nI s) I J = some (i6 (a + (sR (fun s => prd d s * A s) (dn d) - sR (fun s => prd d s * A s) s)), I, J) := by
    intro t
    induction t with
    | zero =>
      intro s hs F hF a
      obtain ⟨f, rfl⟩ : ∃ f, F = f + 1 := ⟨F - 1, by omega⟩
      have e : s = dn d := by omega
      subst e
      show b_R_costOf_5 (g_R_costOf f) aa (i6 a) (nI (dn d)) I J = _
      unfold b_R_costOf_5
      rw [gd_of (aa2 ha), h.1, if_pos (nI_le (Nat.le_refl _) (by omega)), Int.sub_self, Int.add_zero]
    | succ t ih =>
      intro s hs F hF a
      obtain ⟨f, rfl⟩ : ∃ f, F = f + 1 := ⟨F - 1, by omega⟩
      have vs : vin (nI s) 4 := vp_in_nI (by omega) (by decide)
      have g := (hrg.2.1 s (by omega)).1
      show b_R_costOf_5 (g_R_costOf f) aa (i6 a) (nI s) I J = _
      unfold b_R_costOf_5
      rw [gd_of (aa2 ha), h.1, if_neg (nI_ge (by omega) (by omega))]
      have p6 : (nI (dpr d s)).toInt64 = i6 (prd d s) := by rw [i3_nI, i3_i6 (by omega) (by omega)]; rfl
      simp only [gd_of vs, nI_clamp (show s < 2 ^ 31 by omega), nm, h.2.1 s (by omega), p6, hA s (by omega), i6_mul, i6_add, nI_1]
      rw [ih (s + 1) (by omega) f (by omega)]
      have e : sR (fun s => prd d s * A s) (s + 1) = sR (fun s => prd d s * A s) s + prd d s * A s := rfl
      rw [e]
      congr 3
      omega
  unfold m_R_costOf b_R_costOf_0
  rw [gd_of (aa2 ha)]
  rw [show (0 : Int32) = nI 0 from rfl, show (0 : Int64) = i6 0 from i6_0, loop (dn d) 0 (by omega) fuel (Nat.lt_of_le_of_lt hn (by decide))]
  congr 3
  show 0 + (_ - 0) = _
  omega
end RB
