/-! Mixes as points: the order of the program is the order of points. -/
def qd (a u : Int) : Rat := (a : Rat) / (u : Rat)
def wv (pr : Nat → Int) : Rat × Rat × Rat := (((pr 0 - pr 3 : Int) : Rat), ((pr 1 - pr 3 : Int) : Rat), ((pr 2 - pr 3 : Int) : Rat))
theorem cpos {u : Int} (h : 0 < u) : (0 : Rat) < (u : Rat) := Rat.intCast_pos.mpr h
theorem qd_mul {a u : Int} (h : 0 < u) : qd a u * (u : Rat) = (a : Rat) := Rat.div_mul_cancel (Rat.ne_of_gt (cpos h))
theorem neg_mul_iff {t c : Rat} (hc : 0 < c) : t * c < 0 ↔ t < 0 := Rat.mul_neg_iff_of_pos_right hc
theorem zero_mul_iff {t c : Rat} (hc : 0 < c) : t * c = 0 ↔ t = 0 := by
  constructor
  · intro h
    have h2 : c ≠ 0 := Rat.ne_of_gt hc
    rcases Rat.mul_eq_zero.mp h with z | z
    · exact z
    · exact absurd z h2
  · intro h
    rw [h, Rat.zero_mul]
/-- two numbers over two others, crosswise -/
theorem cr_lt {a u b v : Int} (hu : 0 < u) (hv : 0 < v) : a * v < b * u ↔ qd a u - qd b v < 0 := by
  have e1 := qd_mul (a := a) hu
  have e2 := qd_mul (a := b) hv
  have pu := cpos hu
  have pv := cpos hv
  rw [← Rat.intCast_lt_intCast, Rat.intCast_mul, Rat.intCast_mul, ← e1, ← e2, ← neg_mul_iff (Rat.mul_pos pu pv)]
  generalize qd a u = x
  generalize qd b v = y
  constructor
  · intro h; grind
  · intro h; grind
theorem cr_eq {a u b v : Int} (hu : 0 < u) (hv : 0 < v) : a * v = b * u ↔ qd a u - qd b v = 0 := by
  have e1 := qd_mul (a := a) hu
  have e2 := qd_mul (a := b) hv
  have pu := cpos hu
  have pv := cpos hv
  rw [← Rat.intCast_inj, Rat.intCast_mul, Rat.intCast_mul, ← e1, ← e2, ← zero_mul_iff (Rat.mul_pos pu pv)]
  generalize qd a u = x
  generalize qd b v = y
  constructor
  · intro h; grind
  · intro h; grind
theorem btr_kneg {pr A B : Nat → Int} {u v T : Int} (hu : 0 < u) (hv : 0 < v) (sA : A 0 + A 1 + A 2 + A 3 = T * u) (sB : B 0 + B 1 + B 2 + B 3 = T * v) :
    btr pr A u (some (B, v)) ↔ kneg (wv pr) (qd (A 0) u - qd (B 0) v) (qd (A 1) u - qd (B 1) v) (qd (A 2) u - qd (B 2) v) := by
  have pu := cpos hu
  have pv := cpos hv
  have a3 : A 3 = T * u - A 0 - A 1 - A 2 := by omega
  have b3 : B 3 = T * v - B 0 - B 1 - B 2 := by omega
  have k : (sum4 pr A * v - sum4 pr B * u : Int) = (pr 0 - pr 3) * (A 0 * v - B 0 * u) + (pr 1 - pr 3) * (A 1 * v - B 1 * u) + (pr 2 - pr 3) * (A 2 * v - B 2 * u) := by
    unfold sum4
    rw [a3, b3]
    grind
  have kq : ((sum4 pr A * v - sum4 pr B * u : Int) : Rat) = ((wv pr).1 * (qd (A 0) u - qd (B 0) v) + (wv pr).2.1 * (qd (A 1) u - qd (B 1) v) + (wv pr).2.2 * (qd (A 2) u - qd (B 2) v)) * ((u : Rat) * (v : Rat)) := by
    have f : ∀ i, ((A i * v - B i * u : Int) : Rat) = (qd (A i) u - qd (B i) v) * ((u : Rat) * (v : Rat)) := fun i => by
      rw [Rat.intCast_sub, Rat.intCast_mul, Rat.intCast_mul, ← qd_mul (a := A i) hu, ← qd_mul (a := B i) hv]
      generalize qd (A i) u = x
      generalize qd (B i) v = y
      grind
    rw [k, Rat.intCast_add, Rat.intCast_add, Rat.intCast_mul, Rat.intCast_mul, Rat.intCast_mul, f 0, f 1, f 2]
    show ((pr 0 - pr 3 : Int) : Rat) * _ + ((pr 1 - pr 3 : Int) : Rat) * _ + ((pr 2 - pr 3 : Int) : Rat) * _ = (((pr 0 - pr 3 : Int) : Rat) * _ + ((pr 1 - pr 3 : Int) : Rat) * _ + ((pr 2 - pr 3 : Int) : Rat) * _) * _
    grind
  have c1 : sum4 pr A * v < sum4 pr B * u ↔ (wv pr).1 * (qd (A 0) u - qd (B 0) v) + (wv pr).2.1 * (qd (A 1) u - qd (B 1) v) + (wv pr).2.2 * (qd (A 2) u - qd (B 2) v) < 0 := by
    rw [← neg_mul_iff (Rat.mul_pos pu pv), ← kq, show (0 : Rat) = ((0 : Int) : Rat) from rfl, Rat.intCast_lt_intCast]
    omega
  have c2 : sum4 pr A * v = sum4 pr B * u ↔ (wv pr).1 * (qd (A 0) u - qd (B 0) v) + (wv pr).2.1 * (qd (A 1) u - qd (B 1) v) + (wv pr).2.2 * (qd (A 2) u - qd (B 2) v) = 0 := by
    rw [← zero_mul_iff (Rat.mul_pos pu pv), ← kq, show (0 : Rat) = ((0 : Int) : Rat) from rfl, Rat.intCast_inj]
    omega
  have l3 : A 0 * v = B 0 * u → A 1 * v = B 1 * u → A 2 * v = B 2 * u → ¬ A 3 * v < B 3 * u := by
    intro h0 h1 h2
    rw [a3, b3]
    have : (T * u - A 0 - A 1 - A 2) * v = (T * v - B 0 - B 1 - B 2) * u := by grind
    omega
  unfold btr kneg
  simp only [lx, and_false, or_false]
  rw [c1, c2, ← cr_lt hu hv, ← cr_lt hu hv, ← cr_lt hu hv, ← cr_eq hu hv, ← cr_eq hu hv]
  constructor
  · rintro (h | ⟨h, h2⟩)
    · exact Or.inl h
    · refine Or.inr ⟨h, ?_⟩
      rcases h2 with h2 | ⟨e0, h2 | ⟨e1, h2 | ⟨e2, h2⟩⟩⟩
      · exact Or.inl h2
      · exact Or.inr ⟨e0, Or.inl h2⟩
      · exact Or.inr ⟨e0, Or.inr ⟨e1, h2⟩⟩
      · exact absurd h2 (l3 e0 e1 e2)
  · rintro (h | ⟨h, h2⟩)
    · exact Or.inl h
    · refine Or.inr ⟨h, ?_⟩
      rcases h2 with h2 | ⟨e0, h2 | ⟨e1, h2⟩⟩
      · exact Or.inl h2
      · exact Or.inr ⟨e0, Or.inl h2⟩
      · exact Or.inr ⟨e0, Or.inr ⟨e1, Or.inl h2⟩⟩
