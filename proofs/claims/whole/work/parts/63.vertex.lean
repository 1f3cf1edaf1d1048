/-! The triples that are looked at are enough: every point has a corner among them that is no worse. -/
def cn (p : Nat → Int) (l : Int) : Con3 := (((p 0 : Rat), (p 1 : Rat), (p 2 : Rat)), (l : Rat))
def ng (c : Con3) : Con3 := ((-c.1.1, -c.1.2.1, -c.1.2.2), -c.2)
theorem det_cast (p q r : Nat → Int) (la lb lc : Int) : det3 (cn p la) (cn q lb) (cn r lc) = ((det p q r : Int) : Rat) := by
  unfold det3 cn det crs
  simp only [Rat.intCast_add, Rat.intCast_sub, Rat.intCast_mul]
  simp
theorem det_sw1 (p q r : Nat → Int) : det q p r = -det p q r := by
  unfold det crs
  simp
  grind
theorem det_sw2 (p q r : Nat → Int) : det p r q = -det p q r := by
  unfold det crs
  simp
  grind
theorem det_rep1 (p r : Nat → Int) : det p p r = 0 := by
  unfold det crs
  simp
  grind
theorem det_rep2 (p q : Nat → Int) : det p q q = 0 := by
  unfold det crs
  simp
  grind
theorem det_rep3 (p q : Nat → Int) : det p q p = 0 := by
  unfold det crs
  simp
  grind
/-- Cramer's rule -/
theorem cramer {p q r : Nat → Int} {la lb lc T : Int} {x y z : Rat} (hd : det p q r ≠ 0) (h1 : co_d (cn p la) x y z = la) (h2 : co_d (cn q lb) x y z = lb) (h3 : co_d (cn r lc) x y z = lc) :
    x = qd (cA T la lb lc p q r 0) (cu p q r) ∧ y = qd (cA T la lb lc p q r 1) (cu p q r) ∧ z = qd (cA T la lb lc p q r 2) (cu p q r) := by
  have hu : 0 < cu p q r := by unfold cu sgn; split <;> omega
  have hq := cpos hu
  have hne : ((cu p q r : Int) : Rat) ≠ 0 := Rat.ne_of_gt hq
  have fin : ∀ (a : Int) (t : Rat), (a : Rat) = t * ((cu p q r : Int) : Rat) → t = qd a (cu p q r) := fun a t h => by
    unfold qd
    rw [h, Rat.mul_div_cancel hne]
  have e0 : cA T la lb lc p q r 0 = sgn (det p q r) * abv la lb lc p q r 0 := rfl
  have e1 : cA T la lb lc p q r 1 = sgn (det p q r) * abv la lb lc p q r 1 := rfl
  have e2 : cA T la lb lc p q r 2 = sgn (det p q r) * abv la lb lc p q r 2 := rfl
  have ab : ∀ s, ((abv la lb lc p q r s : Int) : Rat) = (la : Rat) * ((crs q r s : Int) : Rat) + (lb : Rat) * ((crs r p s : Int) : Rat) + (lc : Rat) * ((crs p q s : Int) : Rat) := fun s => by
    unfold abv
    rw [Rat.intCast_add, Rat.intCast_add, Rat.intCast_mul, Rat.intCast_mul, Rat.intCast_mul]
  have dd : ((det p q r : Int) : Rat) = ((crs p q 0 : Int) : Rat) * (r 0 : Rat) + ((crs p q 1 : Int) : Rat) * (r 1 : Rat) + ((crs p q 2 : Int) : Rat) * (r 2 : Rat) := by
    unfold det
    rw [Rat.intCast_add, Rat.intCast_add, Rat.intCast_mul, Rat.intCast_mul, Rat.intCast_mul]
  have cc : ∀ (f g : Nat → Int), ((crs f g 0 : Int) : Rat) = (f 1 : Rat) * (g 2 : Rat) - (f 2 : Rat) * (g 1 : Rat) ∧ ((crs f g 1 : Int) : Rat) = (f 2 : Rat) * (g 0 : Rat) - (f 0 : Rat) * (g 2 : Rat) ∧ ((crs f g 2 : Int) : Rat) = (f 0 : Rat) * (g 1 : Rat) - (f 1 : Rat) * (g 0 : Rat) := fun f g => by
    refine ⟨?_, ?_, ?_⟩
    · show ((f 1 * g 2 - f 2 * g 1 : Int) : Rat) = _
      rw [Rat.intCast_sub, Rat.intCast_mul, Rat.intCast_mul]
    · show ((f 2 * g 0 - f 0 * g 2 : Int) : Rat) = _
      rw [Rat.intCast_sub, Rat.intCast_mul, Rat.intCast_mul]
    · show ((f 0 * g 1 - f 1 * g 0 : Int) : Rat) = _
      rw [Rat.intCast_sub, Rat.intCast_mul, Rat.intCast_mul]
  have h1' : (la : Rat) = (p 0 : Rat) * x + (p 1 : Rat) * y + (p 2 : Rat) * z := h1.symm
  have h2' : (lb : Rat) = (q 0 : Rat) * x + (q 1 : Rat) * y + (q 2 : Rat) * z := h2.symm
  have h3' : (lc : Rat) = (r 0 : Rat) * x + (r 1 : Rat) * y + (r 2 : Rat) * z := h3.symm
  have k0 : ((abv la lb lc p q r 0 : Int) : Rat) = x * ((det p q r : Int) : Rat) := by
    rw [ab, dd, (cc q r).1, (cc r p).1, (cc p q).1, (cc p q).2.1, (cc p q).2.2, h1', h2', h3']
    grind
  have k1 : ((abv la lb lc p q r 1 : Int) : Rat) = y * ((det p q r : Int) : Rat) := by
    rw [ab, dd, (cc q r).2.1, (cc r p).2.1, (cc p q).1, (cc p q).2.1, (cc p q).2.2, h1', h2', h3']
    grind
  have k2 : ((abv la lb lc p q r 2 : Int) : Rat) = z * ((det p q r : Int) : Rat) := by
    rw [ab, dd, (cc q r).2.2, (cc r p).2.2, (cc p q).1, (cc p q).2.1, (cc p q).2.2, h1', h2', h3']
    grind
  have ecu : ((cu p q r : Int) : Rat) = ((sgn (det p q r) : Int) : Rat) * ((det p q r : Int) : Rat) := Rat.intCast_mul _ _
  refine ⟨fin _ _ ?_, fin _ _ ?_, fin _ _ ?_⟩
  · rw [e0, Rat.intCast_mul, k0, ecu]; grind
  · rw [e1, Rat.intCast_mul, k1, ecu]; grind
  · rw [e2, Rat.intCast_mul, k2, ecu]; grind
section VE
variable {pt : Nat → Nat → Int} {lo hi pr : Nat → Int} {T : Int} {sl : Nat → Nat → Int} {N tA : Nat} {rw' : Nat → Nat} {lv of : Nat → Int}
/-- a point within all limits -/
def FeQ (lo hi : Nat → Int) (sl : Nat → Nat → Int) (of : Nat → Int) (x y z : Rat) : Prop := ∀ k, k < 7 → ((lo k - of k : Int) : Rat) ≤ co_d (cn (sl k) 0) x y z ∧ co_d (cn (sl k) 0) x y z ≤ ((hi k - of k : Int) : Rat)
/-- what a row of amounts is, by its slopes -/
def Lin (pt : Nat → Nat → Int) (T : Int) (sl : Nat → Nat → Int) (of : Nat → Int) : Prop := ∀ (A : Nat → Int) (u : Int), A 0 + A 1 + A 2 + A 3 = T * u → ∀ k, k < 7 → rowV pt k A = sl k 0 * A 0 + sl k 1 * A 1 + sl k 2 * A 2 + of k * u
theorem InL_iff (hl : Lin pt T sl of) {A : Nat → Int} {u : Int} (hs : A 0 + A 1 + A 2 + A 3 = T * u) (hu : 0 < u) {k : Nat} (hk : k < 7) : InL pt lo hi A u k ↔ ((lo k - of k : Int) : Rat) ≤ co_d (cn (sl k) 0) (qd (A 0) u) (qd (A 1) u) (qd (A 2) u) ∧ co_d (cn (sl k) 0) (qd (A 0) u) (qd (A 1) u) (qd (A 2) u) ≤ ((hi k - of k : Int) : Rat) := by
  have pu := cpos hu
  have ev : co_d (cn (sl k) 0) (qd (A 0) u) (qd (A 1) u) (qd (A 2) u) * (u : Rat) = ((sl k 0 * A 0 + sl k 1 * A 1 + sl k 2 * A 2 : Int) : Rat) := by
    rw [Rat.intCast_add, Rat.intCast_add, Rat.intCast_mul, Rat.intCast_mul, Rat.intCast_mul, ← qd_mul (a := A 0) hu, ← qd_mul (a := A 1) hu, ← qd_mul (a := A 2) hu]
    show ((sl k 0 : Rat) * _ + (sl k 1 : Rat) * _ + (sl k 2 : Rat) * _) * _ = _
    grind
  have sc1 : ∀ c : Int, ((c : Int) : Rat) ≤ co_d (cn (sl k) 0) (qd (A 0) u) (qd (A 1) u) (qd (A 2) u) ↔ c * u ≤ sl k 0 * A 0 + sl k 1 * A 1 + sl k 2 * A 2 := fun c => by
    rw [← Rat.intCast_le_intCast, ← ev, Rat.intCast_mul]
    constructor
    · intro h; exact Rat.mul_le_mul_of_nonneg_right h (Rat.le_of_lt pu)
    · intro h; exact Rat.le_of_mul_le_mul_right h pu
  have sc2 : ∀ c : Int, co_d (cn (sl k) 0) (qd (A 0) u) (qd (A 1) u) (qd (A 2) u) ≤ ((c : Int) : Rat) ↔ sl k 0 * A 0 + sl k 1 * A 1 + sl k 2 * A 2 ≤ c * u := fun c => by
    rw [← Rat.intCast_le_intCast, ← ev, Rat.intCast_mul]
    constructor
    · intro h; exact Rat.mul_le_mul_of_nonneg_right h (Rat.le_of_lt pu)
    · intro h; exact Rat.le_of_mul_le_mul_right h pu
  unfold InL
  rw [sc1, sc2, hl A u hs k hk]
  have m1 : (lo k - of k) * u = lo k * u - of k * u := Int.sub_mul _ _ _
  have m2 : (hi k - of k) * u = hi k * u - of k * u := Int.sub_mul _ _ _
  rw [m1, m2]
  omega
theorem ok_of (hl : Lin pt T sl of) {a b c : Nat} {x y z : Rat} (hd : det (sl (rw' a)) (sl (rw' b)) (sl (rw' c)) ≠ 0) (hF : FeQ lo hi sl of x y z) (h1 : co_d (cn (sl (rw' a)) (lv a)) x y z = lv a) (h2 : co_d (cn (sl (rw' b)) (lv b)) x y z = lv b) (h3 : co_d (cn (sl (rw' c)) (lv c)) x y z = lv c) :
    Ok3 pt lo hi T sl rw' lv a b c ∧ At3 T sl rw' lv a b c x y z := by
  have hc := cramer (T := T) hd h1 h2 h3
  have hat : At3 T sl rw' lv a b c x y z := hc
  refine ⟨⟨hd, fun k hk => ?_⟩, hat⟩
  rw [InL_iff hl (Ca_sum a b c) (Cu_pos hd) hk]
  obtain ⟨e1, e2, e3⟩ := hat
  rw [← e1, ← e2, ← e3]
  exact hF k hk
end VE
