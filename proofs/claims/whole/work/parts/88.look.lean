/-! The reference's look: a corner, if it is kept, against the best. -/
/-- the mixes among which the reference searches, in tenths -/
def Qr (d : Dt) (w : Nat) (S : Nat → Prop) (fx : Nat → Int) (x y z : Rat) : Prop := (∀ i, i < 4 → dn d ≤ i → am (10 * w) x y z i = 0) ∧ (∀ i, i < dn d → 0 ≤ fx i → am (10 * w) x y z i = 10 * (fx i : Rat)) ∧ ∀ b, b < 22 → S b → (lst b → 10 * (rgt d w b : Rat) ≤ sQ (fun s => (fac d b s : Rat) * am (10 * w) x y z s) (dn d)) ∧ (¬ lst b → sQ (fun s => (fac d b s : Rat) * am (10 * w) x y z s) (dn d) ≤ 10 * (rgt d w b : Rat))
def Bst (d : Dt) (w : Nat) (J : SJ) (B : Nat → Int) (v : Int) : Prop := 0 < v ∧ v ≤ 384000 ∧ (∀ s, s < dn d → J 17 s = i6 (B s)) ∧ J 0 30 = i6 v ∧ (∀ s, dn d ≤ s → s < 4 → B s = 0) ∧ (∀ s, s < 4 → -1000000000 ≤ B s ∧ B s ≤ 1000000000) ∧ B 0 + B 1 + B 2 + B 3 = (w : Int) * v
/-- the reference keeps the best of a set of mixes -/
def RB (d : Dt) (w : Nat) (I : SI) (J : SJ) (P : Rat → Rat → Rat → Prop) : Prop := (I 0 28 = 0 ∧ ∀ x y z, ¬ P x y z) ∨ (I 0 28 = 1 ∧ ∃ (B : Nat → Int) (v : Int), Bst d w J B v ∧ P (qd (10 * B 0) v) (qd (10 * B 1) v) (qd (10 * B 2) v) ∧ ∀ x y z, P x y z → kle (wv (prd d)) (qd (10 * B 0) v) (qd (10 * B 1) v) (qd (10 * B 2) v) x y z)
theorem le_mul_r {a b c : Rat} (hc : 0 < c) : a ≤ b ↔ a * c ≤ b * c := by
  have h := neg_mul_iff (t := b - a) hc
  constructor
  · intro q
    have : ¬ (b - a) * c < 0 := fun z => by have := h.mp z; grind
    grind
  · intro q
    have : ¬ b - a < 0 := fun z => by have := h.mpr z; grind
    grind
section LK
variable {d : Dt} {w : Nat}
theorem RB_same {I I2 : SI} {J J2 : SJ} {P : Rat → Rat → Rat → Prop} (h : RB d w I J P) (e1 : I2 0 28 = I 0 28) (e2 : J2 17 = J 17) (e3 : J2 0 30 = J 0 30) : RB d w I2 J2 P := by
  rcases h with ⟨a, b⟩ | ⟨a, B, v, ⟨b1, b2, b3, b4, b5⟩, c⟩
  · exact Or.inl ⟨by rw [e1]; exact a, b⟩
  · exact Or.inr ⟨by rw [e1]; exact a, B, v, ⟨b1, b2, fun s hs => by rw [e2]; exact b3 s hs, by rw [e3]; exact b4, b5⟩, c⟩
theorem RB_mono {I : SI} {J : SJ} {P Y : Rat → Rat → Rat → Prop} (h : RB d w I J P) (h1 : ∀ x y z, P x y z → Y x y z) (h2 : ∀ x y z, Y x y z → ∃ x' y' z', P x' y' z' ∧ kle (wv (prd d)) x' y' z' x y z) : RB d w I J Y := by
  rcases h with ⟨e, h⟩ | ⟨e, B, v, g1, g3, g4⟩
  · refine Or.inl ⟨e, fun x y z hy => ?_⟩
    obtain ⟨x', y', z', hx, -⟩ := h2 x y z hy
    exact h _ _ _ hx
  · refine Or.inr ⟨e, B, v, g1, h1 _ _ _ g3, fun x y z hy => ?_⟩
    obtain ⟨x', y', z', hx, hk⟩ := h2 x y z hy
    exact kle_trans (g4 _ _ _ hx) hk
theorem RB_iff {I : SI} {J : SJ} {P Y : Rat → Rat → Rat → Prop} (h : RB d w I J P) (e : ∀ x y z, P x y z ↔ Y x y z) : RB d w I J Y := RB_mono h (fun x y z => (e x y z).mp) (fun x y z hy => ⟨x, y, z, (e x y z).mpr hy, kle_refl⟩)
theorem pt_sum {u : Int} (u0 : 0 < u) (c X : Nat → Int) : ∀ m, sQ (fun s => (c s : Rat) * qd (10 * X s) u) m * (u : Rat) = 10 * ((sR (fun s => c s * X s) m : Int) : Rat)
  | 0 => by show (0 : Rat) * _ = 10 * 0; grind
  | m + 1 => by
    show (sQ (fun s => (c s : Rat) * qd (10 * X s) u) m + (c m : Rat) * qd (10 * X m) u) * (u : Rat) = 10 * ((sR (fun s => c s * X s) m + c m * X m : Int) : Rat)
    have h := pt_sum u0 c X m
    have q := qd_mul (a := 10 * X m) u0
    rw [Rat.intCast_add, Rat.intCast_mul]
    rw [Rat.intCast_mul] at q
    have e10 : ((10 : Int) : Rat) = 10 := rfl
    grind
theorem pt_am {X : Nat → Int} {u : Int} (u0 : 0 < u) (hs : X 0 + X 1 + X 2 + X 3 = (w : Int) * u) : ∀ s, s < 4 → am (10 * w) (qd (10 * X 0) u) (qd (10 * X 1) u) (qd (10 * X 2) u) s = qd (10 * X s) u := by
  intro s h4
  have hu := Rat.ne_of_gt (cpos u0)
  match s, h4 with
  | 0, _ => rfl
  | 1, _ => rfl
  | 2, _ => rfl
  | 3, _ =>
    show ((10 * (w : Int) : Int) : Rat) - qd (10 * X 0) u - qd (10 * X 1) u - qd (10 * X 2) u = qd (10 * X 3) u
    have q0 := qd_mul (a := 10 * X 0) u0
    have q1 := qd_mul (a := 10 * X 1) u0
    have q2 := qd_mul (a := 10 * X 2) u0
    have q3 := qd_mul (a := 10 * X 3) u0
    have e : ((10 * X 0 : Int) : Rat) + ((10 * X 1 : Int) : Rat) + ((10 * X 2 : Int) : Rat) + ((10 * X 3 : Int) : Rat) = ((10 * (w : Int) : Int) : Rat) * (u : Rat) := by
      rw [← Rat.intCast_add, ← Rat.intCast_add, ← Rat.intCast_add, ← Rat.intCast_mul, Int.mul_assoc, ← hs]
      congr 1
      omega
    have z : (((10 * (w : Int) : Int) : Rat) - qd (10 * X 0) u - qd (10 * X 1) u - qd (10 * X 2) u - qd (10 * X 3) u) * (u : Rat) = 0 := by grind
    have := (zero_mul_iff (cpos u0)).mp z
    grind
theorem Kpd_iff (hn : dn d ≤ 4) {S : Nat → Prop} {fx X : Nat → Int} {u : Int} (hP : PtR d w fx X u) (h0 : ∀ s, dn d ≤ s → s < 4 → X s = 0) : Qr d w S fx (qd (10 * X 0) u) (qd (10 * X 1) u) (qd (10 * X 2) u) ↔ Kpd d w S X u := by
  obtain ⟨u0, u1, p1, p2, p3⟩ := hP
  have hs : X 0 + X 1 + X 2 + X 3 = (w : Int) * u := by rw [← p2]; exact sR_4 hn h0
  have ha := pt_am u0 hs
  have up := cpos u0
  have e10 : ((10 : Int) : Rat) = 10 := rfl
  have sums : ∀ b, sQ (fun s => (fac d b s : Rat) * am (10 * w) (qd (10 * X 0) u) (qd (10 * X 1) u) (qd (10 * X 2) u) s) (dn d) * (u : Rat) = 10 * ((sR (fun s => fac d b s * X s) (dn d) : Int) : Rat) := fun b => by
    rw [← pt_sum u0 (fac d b) X (dn d)]
    congr 1
    exact sQ_congr (fun s hs => by rw [ha s (by omega)])
  have l1 : ∀ b, 10 * (rgt d w b : Rat) ≤ sQ (fun s => (fac d b s : Rat) * am (10 * w) (qd (10 * X 0) u) (qd (10 * X 1) u) (qd (10 * X 2) u) s) (dn d) ↔ rgt d w b * u ≤ sR (fun s => fac d b s * X s) (dn d) := fun b => by
    rw [le_mul_r up, sums b, ← Rat.intCast_le_intCast, Rat.intCast_mul]
    constructor
    · intro h; grind
    · intro h; grind
  have l2 : ∀ b, sQ (fun s => (fac d b s : Rat) * am (10 * w) (qd (10 * X 0) u) (qd (10 * X 1) u) (qd (10 * X 2) u) s) (dn d) ≤ 10 * (rgt d w b : Rat) ↔ sR (fun s => fac d b s * X s) (dn d) ≤ rgt d w b * u := fun b => by
    rw [le_mul_r up, sums b, ← Rat.intCast_le_intCast, Rat.intCast_mul]
    constructor
    · intro h; grind
    · intro h; grind
  constructor
  · rintro ⟨-, -, h⟩ b hb hs
    exact ⟨fun l => (l1 b).mp ((h b hb hs).1 l), fun l => (l2 b).mp ((h b hb hs).2 l)⟩
  · intro h
    refine ⟨fun i hi hd => ?_, fun i hi hf => ?_, fun b hb hs => ⟨fun l => (l1 b).mpr ((h b hb hs).1 l), fun l => (l2 b).mpr ((h b hb hs).2 l)⟩⟩
    · rw [ha i hi, h0 i hd hi]
      have q := qd_mul (a := 10 * 0) u0
      have : qd (10 * 0) u * (u : Rat) = 0 := q
      exact (zero_mul_iff up).mp this
    · rw [ha i (by omega), p3 i hi hf]
      have q := qd_mul (a := 10 * (fx i * u)) u0
      rw [Rat.intCast_mul, Rat.intCast_mul] at q
      have z : (qd (10 * (fx i * u)) u - 10 * (fx i : Rat)) * (u : Rat) = 0 := by grind
      have := (zero_mul_iff up).mp z
      grind
end LK
