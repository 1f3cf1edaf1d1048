/-! Corners: cross products, limits, sums. -/
theorem fuel_eq (k : Nat) (h : k ≤ 1000) : ∃ f, fuel = f + k := ⟨1000000 - k, by unfold fuel; omega⟩
def crs (p q : Nat → Int) (s : Nat) : Int := if s = 0 then p 1 * q 2 - p 2 * q 1 else if s = 1 then p 2 * q 0 - p 0 * q 2 else p 0 * q 1 - p 1 * q 0
def row3 (I : SI) (k : Nat) (p : Nat → Int) : Prop := ∀ j, j < 3 → I k j = i3 (p j) ∧ -40 ≤ p j ∧ p j ≤ 40
theorem mul40 {a b : Int} (h1 : -40 ≤ a) (h2 : a ≤ 40) (h3 : -40 ≤ b) (h4 : b ≤ 40) : -1600 ≤ a * b ∧ a * b ≤ 1600 := by
  have e1 : 0 ≤ (a + 40) * (b + 40) := Int.mul_nonneg (by omega) (by omega)
  have e2 : 0 ≤ (40 - a) * (40 - b) := Int.mul_nonneg (by omega) (by omega)
  have e3 : 0 ≤ (a + 40) * (40 - b) := Int.mul_nonneg (by omega) (by omega)
  have e4 : 0 ≤ (40 - a) * (b + 40) := Int.mul_nonneg (by omega) (by omega)
  constructor <;> grind
theorem sl_in {r : Nat} (h : r < 7) : 22 + r ∈ [22, 23, 24, 25, 26, 27, 28] := by
  match r, h with
  | 0, _ => decide
  | 1, _ => decide
  | 2, _ => decide
  | 3, _ => decide
  | 4, _ => decide
  | 5, _ => decide
  | 6, _ => decide
theorem cross_k {I : SI} {J : SJ} {r1 r2 : Nat} {p q : Nat → Int} (h1 : r1 < 7) (h2 : r2 < 7) (hp : row3 I (22 + r1) p) (hq : row3 I (22 + r2) q) {a b : Nat} (ha : a < 3) (hb : b < 3) (n : Nat) :
    g_K_cross (n + 1) (22 + r1) (22 + r2) (nI a) (nI b) I J = some (i6 (p a * q b - p b * q a), I, J) := by
  have va : vin (nI a) 3 := vp_in_nI ha (by decide)
  have vb : vin (nI b) 3 := vp_in_nI hb (by decide)
  simp only [g_K_cross, b_K_cross_25, nm, gd_of (sl_in h1), gd_of (sl_in h2), gd_of va, gd_of vb, nI_clamp (show a < 2 ^ 31 by omega), nI_clamp (show b < 2 ^ 31 by omega)]
  have b1 := mul40 (hp a ha).2.1 (hp a ha).2.2 (hq b hb).2.1 (hq b hb).2.2
  have b2 := mul40 (hp b hb).2.1 (hp b hb).2.2 (hq a ha).2.1 (hq a ha).2.2
  rw [(hp a ha).1, (hp b hb).1, (hq a ha).1, (hq b hb).1, i3_mul, i3_mul, i3_sub, i3_i6 (by omega) (by omega)]
theorem cross_ok {I : SI} {J : SJ} {r1 r2 : Nat} {p q : Nat → Int} (h1 : r1 < 7) (h2 : r2 < 7) (hp : row3 I (22 + r1) p) (hq : row3 I (22 + r2) q) {s : Nat} (hs : s < 3) :
    m_K_cross (22 + r1) (22 + r2) (nI s) I J = some (i6 (crs p q s), I, J) := by
  obtain ⟨f, hf⟩ := fuel_eq 1 (by decide)
  simp only [m_K_cross, b_K_cross_0, gd_of (sl_in h1), gd_of (sl_in h2), nm, hf]
  match s, hs with
  | 0, _ => exact cross_k (a := 1) (b := 2) h1 h2 hp hq (by decide) (by decide) f
  | 1, _ => exact cross_k (a := 2) (b := 0) h1 h2 hp hq (by decide) (by decide) f
  | 2, _ => exact cross_k (a := 0) (b := 1) h1 h2 hp hq (by decide) (by decide) f
theorem crs_le {p q : Nat → Int} (hp : ∀ j, j < 3 → -40 ≤ p j ∧ p j ≤ 40) (hq : ∀ j, j < 3 → -40 ≤ q j ∧ q j ≤ 40) (s : Nat) : -3200 ≤ crs p q s ∧ crs p q s ≤ 3200 := by
  have m : ∀ a b, a < 3 → b < 3 → -1600 ≤ p a * q b ∧ p a * q b ≤ 1600 := fun a b ha hb => mul40 (hp a ha).1 (hp a ha).2 (hq b hb).1 (hq b hb).2
  have := m 0 1 (by decide) (by decide)
  have := m 0 2 (by decide) (by decide)
  have := m 1 0 (by decide) (by decide)
  have := m 1 2 (by decide) (by decide)
  have := m 2 0 (by decide) (by decide)
  have := m 2 1 (by decide) (by decide)
  unfold crs
  split
  · omega
  · split <;> omega
/-- limits: a row's number over what is under it lies within -/
theorem allow_ok {I : SI} {J : SJ} {r : Nat} (hr : r < 7) {lo hi x u : Int} (hl : I 13 r = i3 lo) (hh : I 14 r = i3 hi) (l0 : 0 ≤ lo) (l1 : lo ≤ 16000) (h0 : 0 ≤ hi) (h1 : hi ≤ 16000) (u0 : 0 ≤ u) (u1 : u ≤ 1000000) (x0 : -1000000000000 ≤ x) (x1 : x ≤ 1000000000000) :
    m_L_allow (nI r) (i6 x) (i6 u) I J = some (if lo * u ≤ x ∧ x ≤ hi * u then 1 else 0, I, J) := by
  have vr : vin (nI r) 7 := vp_in_nI hr (by decide)
  have m : ∀ a : Int, 0 ≤ a → a ≤ 16000 → 0 ≤ a * u ∧ a * u ≤ 16000000000 := fun a a0 a1 => by
    have e1 : 0 ≤ a * u := Int.mul_nonneg a0 u0
    have e2 : 0 ≤ (16000 - a) * u := Int.mul_nonneg (by omega) u0
    constructor
    · exact e1
    · grind
  have ml := m lo l0 l1
  have mh := m hi h0 h1
  simp only [m_L_allow, b_L_allow_0, nm, gd_of vr, nI_clamp (show r < 2 ^ 31 by omega), hl, hh]
  rw [i3_i6 (by omega) (by omega), i3_i6 (by omega) (by omega), i6_mul, i6_mul]
  simp only [cmp_lt (a := x) (b := lo * u) (by omega) (by omega) (by omega) (by omega), cmp_gt (a := x) (b := hi * u) (by omega) (by omega) (by omega) (by omega)]
  by_cases c1 : x < lo * u
  · have n : ¬ (lo * u ≤ x ∧ x ≤ hi * u) := by omega
    simp only [c1, n, if_true, if_false]
  · by_cases c2 : hi * u < x
    · have n : ¬ (lo * u ≤ x ∧ x ≤ hi * u) := by omega
      simp only [c1, c2, n, if_true, if_false]
    · have n : lo * u ≤ x ∧ x ≤ hi * u := by omega
      simp only [c1, c2, n, if_true, if_false, and_self]
/-- a sum of four products -/
def sum4 (p a : Nat → Int) : Int := p 0 * a 0 + p 1 * a 1 + p 2 * a 2 + p 3 * a 3
theorem sum_ok {I : SI} {J : SJ} {aa bb : Nat} (ha : aa ∈ [32, 35]) (hb : bb ∈ [1, 7, 8, 9]) {p a : Nat → Int} (hp : ∀ i, i < 4 → I bb i = i3 (p i) ∧ 0 ≤ p i ∧ p i ≤ 1000) (hx : ∀ i, i < 4 → J (aa + 1) i = i6 (a i)) : m_X_sum aa bb I J = some (i6 (sum4 p a), I, J) := by
  have v0 : vin 0 4 := by decide
  have v1 : vin 1 4 := by decide
  have v2 : vin 2 4 := by decide
  have v3 : vin 3 4 := by decide
  have e0 : Int32.toNatClampNeg 0 = 0 := rfl
  have e1 : Int32.toNatClampNeg 1 = 1 := rfl
  have e2 : Int32.toNatClampNeg 2 = 2 := rfl
  have e3 : Int32.toNatClampNeg 3 = 3 := rfl
  have c : ∀ i, i < 4 → (I bb i).toInt64 = i6 (p i) := fun i hi => by
    have := hp i hi
    rw [this.1, i3_i6 (by omega) (by omega)]
  simp only [m_X_sum, b_X_sum_0, nm, gd_of ha, gd_of hb, gd_of v0, gd_of v1, gd_of v2, gd_of v3, e0, e1, e2, e3, c 0 (by decide), c 1 (by decide), c 2 (by decide), c 3 (by decide), hx 0 (by decide), hx 1 (by decide), hx 2 (by decide), hx 3 (by decide), i6_mul, i6_add]
  rfl
theorem row_in {r : Nat} (h : r < 3) : 7 + r ∈ [1, 7, 8, 9] := by
  match r, h with
  | 0, _ => decide
  | 1, _ => decide
  | 2, _ => decide
/-- what a row says of amounts -/
def rowV (pt : Nat → Nat → Int) (r : Nat) (a : Nat → Int) : Int := if r < 4 then a r else sum4 (pt (r - 4)) a
theorem allOf_ok {I : SI} {J : SJ} {aa : Nat} (ha : aa ∈ [32, 35]) {pt : Nat → Nat → Int} {a : Nat → Int} (hp : ∀ r, r < 3 → ∀ i, i < 4 → I (7 + r) i = i3 (pt r i) ∧ 0 ≤ pt r i ∧ pt r i ≤ 40) (hx : ∀ i, i < 4 → J (aa + 1) i = i6 (a i)) {r : Nat} (hr : r < 7) : m_L_allOf (nI r) aa I J = some (i6 (rowV pt r a), I, J) := by
  simp only [m_L_allOf, b_L_allOf_0, nm, gd_of ha]
  by_cases h4 : r < 4
  · have n : ¬ (4 : Int32) ≤ nI r := nI_ge (b := 4) h4 (by decide)
    have v : vin (nI r) 4 := vp_in_nI h4 (by decide)
    simp only [n, if_false, gd_of v, nI_clamp (show r < 2 ^ 31 by omega), hx r h4, rowV, h4, if_true]
  · have n : (4 : Int32) ≤ nI r := nI_le (a := 4) (by omega) (by omega)
    have e : nI r - 4 = nI (r - 4) := pk_sub (a := r) (b := 4) (by omega)
    have v : vin (nI (r - 4)) 3 := vp_in_nI (by omega) (by decide)
    simp only [n, if_true, e, gd_of v, nI_clamp (show r - 4 < 2 ^ 31 by omega), rowV, h4, if_false]
    rw [sum_ok ha (row_in (show r - 4 < 3 by omega)) (p := pt (r - 4)) (fun i hi => by have := hp (r - 4) (by omega) i hi; exact ⟨this.1, this.2.1, by omega⟩) hx]
    rfl
