/-! The best of the reference's mixes is at a corner that it looks at. -/
theorem det_null {a b c : Con3} {x y z : Rat} (hd : det3 a b c ≠ 0) (h1 : co_d a x y z = 0) (h2 : co_d b x y z = 0) (h3 : co_d c x y z = 0) : x = 0 ∧ y = 0 ∧ z = 0 := by
  unfold co_d at h1 h2 h3
  have ex : det3 a b c * x = 0 := by
    have : det3 a b c * x = (b.1.2.1 * c.1.2.2 - b.1.2.2 * c.1.2.1) * (a.1.1 * x + a.1.2.1 * y + a.1.2.2 * z) + (c.1.2.1 * a.1.2.2 - c.1.2.2 * a.1.2.1) * (b.1.1 * x + b.1.2.1 * y + b.1.2.2 * z) + (a.1.2.1 * b.1.2.2 - a.1.2.2 * b.1.2.1) * (c.1.1 * x + c.1.2.1 * y + c.1.2.2 * z) := by unfold det3; grind
    rw [this, h1, h2, h3]; grind
  have ey : det3 a b c * y = 0 := by
    have : det3 a b c * y = (b.1.2.2 * c.1.1 - b.1.1 * c.1.2.2) * (a.1.1 * x + a.1.2.1 * y + a.1.2.2 * z) + (c.1.2.2 * a.1.1 - c.1.1 * a.1.2.2) * (b.1.1 * x + b.1.2.1 * y + b.1.2.2 * z) + (a.1.2.2 * b.1.1 - a.1.1 * b.1.2.2) * (c.1.1 * x + c.1.2.1 * y + c.1.2.2 * z) := by unfold det3; grind
    rw [this, h1, h2, h3]; grind
  have ez : det3 a b c * z = 0 := by
    have : det3 a b c * z = (b.1.1 * c.1.2.1 - b.1.2.1 * c.1.1) * (a.1.1 * x + a.1.2.1 * y + a.1.2.2 * z) + (c.1.1 * a.1.2.1 - c.1.2.1 * a.1.1) * (b.1.1 * x + b.1.2.1 * y + b.1.2.2 * z) + (a.1.1 * b.1.2.1 - a.1.2.1 * b.1.1) * (c.1.1 * x + c.1.2.1 * y + c.1.2.2 * z) := by unfold det3; grind
    rw [this, h1, h2, h3]; grind
  refine ⟨?_, ?_, ?_⟩
  · exact (Rat.mul_eq_zero.mp ex).resolve_left hd
  · exact (Rat.mul_eq_zero.mp ey).resolve_left hd
  · exact (Rat.mul_eq_zero.mp ez).resolve_left hd
section GE
variable {d : Dt} {w n : Nat} {fx : Nat → Int} {fl : Nat → Nat} {S : Nat → Prop}
def pbR (d : Dt) (b j : Nat) : Int := fac d b j - fac d b 3
def s4R (d : Dt) (b : Nat) (a : Nat → Rat) : Rat := (fac d b 0 : Rat) * a 0 + (fac d b 1 : Rat) * a 1 + (fac d b 2 : Rat) * a 2 + (fac d b 3 : Rat) * a 3
theorem co_pb (d : Dt) (b : Nat) (l T : Int) (x y z : Rat) : co_d (cn (pbR d b) l) x y z + (fac d b 3 : Rat) * (T : Rat) = s4R d b (am T x y z) := by
  show ((fac d b 0 - fac d b 3 : Int) : Rat) * x + ((fac d b 1 - fac d b 3 : Int) : Rat) * y + ((fac d b 2 - fac d b 3 : Int) : Rat) * z + (fac d b 3 : Rat) * (T : Rat) = (fac d b 0 : Rat) * x + (fac d b 1 : Rat) * y + (fac d b 2 : Rat) * z + (fac d b 3 : Rat) * ((T : Rat) - x - y - z)
  rw [Rat.intCast_sub, Rat.intCast_sub, Rat.intCast_sub]
  grind
theorem s4_sQ (hn : dn d ≤ 4) (b : Nat) {a : Nat → Rat} (h : ∀ s, dn d ≤ s → s < 4 → a s = 0) : s4R d b a = sQ (fun s => (fac d b s : Rat) * a s) (dn d) := by
  unfold s4R
  exact sQ_4 (A := fun s => (fac d b s : Rat) * a s) hn (fun s h1 h2 => by rw [h s h1 h2]; grind)
def NF (d : Dt) (fx : Nat → Int) (s : Nat) : Prop := dn d ≤ s ∨ 0 ≤ fx s
def vfR (d : Dt) (fx : Nat → Int) (s : Nat) : Int := if s < dn d then fx s else 0
def lbR (d : Dt) (w b : Nat) : Int := 10 * rgt d w b - fac d b 3 * (10 * w)
def leR (d : Dt) (w : Nat) (fx : Nat → Int) (s : Nat) : Int := 10 * vfR d fx s - ofl d (10 * w) s
def conR (d : Dt) (w b : Nat) : Con3 := if lst b then ng (cn (pbR d b) (lbR d w b)) else cn (pbR d b) (lbR d w b)
def eqR (d : Dt) (w : Nat) (fx : Nat → Int) (s : Nat) : Con3 := cn (slp d s) (leR d w fx s)
theorem conR_or (d : Dt) (w b : Nat) : conR d w b = cn (pbR d b) (lbR d w b) ∨ conR d w b = ng (cn (pbR d b) (lbR d w b)) := by
  unfold conR
  by_cases l : lst b
  · rw [if_pos l]; exact Or.inr rfl
  · rw [if_neg l]; exact Or.inl rfl
theorem cs_ex (S N : Nat → Prop) (f g g' : Nat → Con3) : ∃ cs : List Con3, ∀ c, c ∈ cs ↔ (∃ b, b < 22 ∧ S b ∧ c = f b) ∨ ∃ s, s < 4 ∧ N s ∧ (c = g s ∨ c = g' s) := by
  classical
  refine ⟨((List.range 22).filter (fun b => decide (S b))).map f ++ (((List.range 4).filter (fun s => decide (N s))).map g ++ ((List.range 4).filter (fun s => decide (N s))).map g'), fun c => ?_⟩
  simp only [List.mem_append, List.mem_map, List.mem_filter, List.mem_range, decide_eq_true_eq]
  constructor
  · rintro (⟨b, ⟨h1, h2⟩, rfl⟩ | ⟨b, ⟨h1, h2⟩, rfl⟩ | ⟨b, ⟨h1, h2⟩, rfl⟩)
    · exact Or.inl ⟨b, h1, h2, rfl⟩
    · exact Or.inr ⟨b, h1, h2, Or.inl rfl⟩
    · exact Or.inr ⟨b, h1, h2, Or.inr rfl⟩
  · rintro (⟨b, h1, h2, rfl⟩ | ⟨b, h1, h2, rfl | rfl⟩)
    · exact Or.inl ⟨b, ⟨h1, h2⟩, rfl⟩
    · exact Or.inr (Or.inl ⟨b, ⟨h1, h2⟩, rfl⟩)
    · exact Or.inr (Or.inr ⟨b, ⟨h1, h2⟩, rfl⟩)
theorem eq_d (s : Nat) (hs : s < 4) (x y z : Rat) : co_d (eqR d w fx s) x y z + ((ofl d (10 * w) s : Int) : Rat) = am (10 * w) x y z s := by
  have := co_rv d (10 * w) s x y z
  rw [rv_stuff d hs] at this
  exact this
theorem eq_dir (s : Nat) (hs : s < 4) (x y z : Rat) : co_d (eqR d w fx s) x y z = am 0 x y z s := by
  have := co_rv d 0 s x y z
  rw [rv_stuff d hs] at this
  have e : ((ofl d 0 s : Int) : Rat) = 0 := by unfold ofl; rw [Int.mul_zero]; rfl
  rw [e] at this
  rw [← this]
  show co_d (cn (slp d s) _) x y z = co_d (cn (slp d s) 0) x y z + 0
  unfold co_d cn
  grind
theorem pb_dir (b : Nat) (x y z : Rat) : co_d (cn (pbR d b) (lbR d w b)) x y z = s4R d b (am 0 x y z) := by
  have := co_pb d b (lbR d w b) 0 x y z
  rw [← this]
  show _ = _ + _ * 0
  grind
/-- a bound is met -/
def TgR (d : Dt) (w b : Nat) (x y z : Rat) : Prop := sQ (fun s => (fac d b s : Rat) * am (10 * w) x y z s) (dn d) = 10 * (rgt d w b : Rat)
theorem Fe_iff (hn : dn d ≤ 4) {cs : List Con3} (hcs : ∀ c, c ∈ cs ↔ (∃ b, b < 22 ∧ S b ∧ c = conR d w b) ∨ ∃ s, s < 4 ∧ NF d fx s ∧ (c = eqR d w fx s ∨ c = ng (eqR d w fx s))) (x y z : Rat) : Fe3 cs x y z ↔ Qr d w S fx x y z := by
  have e10 : ((10 : Int) : Rat) = 10 := rfl
  -- the fixed ones
  have A : (∀ s, s < 4 → NF d fx s → co_d (eqR d w fx s) x y z ≤ (eqR d w fx s).2 ∧ co_d (ng (eqR d w fx s)) x y z ≤ (ng (eqR d w fx s)).2) ↔ ((∀ i, i < 4 → dn d ≤ i → am (10 * w) x y z i = 0) ∧ (∀ i, i < dn d → 0 ≤ fx i → am (10 * w) x y z i = 10 * (fx i : Rat))) := by
    have one : ∀ s, s < 4 → ((co_d (eqR d w fx s) x y z ≤ (eqR d w fx s).2 ∧ co_d (ng (eqR d w fx s)) x y z ≤ (ng (eqR d w fx s)).2) ↔ am (10 * w) x y z s = 10 * (vfR d fx s : Rat)) := fun s hs => by
      have := eq_d (d := d) (w := w) (fx := fx) s hs x y z
      rw [ng_d]
      have l : (eqR d w fx s).2 = 10 * (vfR d fx s : Rat) - ((ofl d (10 * w) s : Int) : Rat) := by
        show ((leR d w fx s : Int) : Rat) = _
        unfold leR
        rw [Rat.intCast_sub, Rat.intCast_mul, e10]
      have l2 : (ng (eqR d w fx s)).2 = -(eqR d w fx s).2 := rfl
      rw [l2, l, ← this]
      constructor
      · rintro ⟨h1, h2⟩; grind
      · intro h; constructor <;> grind
    constructor
    · intro h
      refine ⟨fun i hi hd => ?_, fun i hi hf => ?_⟩
      · rw [(one i hi).mp (h i hi (Or.inl hd))]
        unfold vfR
        rw [if_neg (by omega)]
        show (10 : Rat) * 0 = 0
        grind
      · rw [(one i (by omega)).mp (h i (by omega) (Or.inr hf))]
        unfold vfR
        rw [if_pos hi]
    · rintro ⟨h1, h2⟩ s hs hnf
      refine (one s hs).mpr ?_
      unfold vfR
      by_cases c : s < dn d
      · rw [if_pos c]
        exact h2 s c (hnf.resolve_left (by omega))
      · rw [if_neg c, h1 s hs (by omega)]
        show (0 : Rat) = 10 * 0
        grind
  have B : (∀ i, i < 4 → dn d ≤ i → am (10 * w) x y z i = 0) → ∀ b, (co_d (conR d w b) x y z ≤ (conR d w b).2 ↔ (lst b → 10 * (rgt d w b : Rat) ≤ sQ (fun s => (fac d b s : Rat) * am (10 * w) x y z s) (dn d)) ∧ (¬ lst b → sQ (fun s => (fac d b s : Rat) * am (10 * w) x y z s) (dn d) ≤ 10 * (rgt d w b : Rat))) := fun h0 b => by
    have e := co_pb d b (lbR d w b) (10 * w) x y z
    rw [s4_sQ hn b (fun s h1 h2 => h0 s h2 h1)] at e
    have l : ((lbR d w b : Int) : Rat) = 10 * (rgt d w b : Rat) - (fac d b 3 : Rat) * ((10 * w : Int) : Rat) := by
      unfold lbR
      rw [Rat.intCast_sub, Rat.intCast_mul, Rat.intCast_mul (fac d b 3), e10]
    unfold conR
    rw [← e]
    by_cases q : lst b
    · rw [if_pos q, ng_d]
      show -(co_d (cn (pbR d b) (lbR d w b)) x y z) ≤ -((lbR d w b : Int) : Rat) ↔ _
      rw [l]
      constructor
      · intro h
        exact ⟨fun _ => by grind, fun q2 => absurd q q2⟩
      · rintro ⟨h, -⟩
        have := h q
        grind
    · rw [if_neg q]
      show co_d (cn (pbR d b) (lbR d w b)) x y z ≤ ((lbR d w b : Int) : Rat) ↔ _
      rw [l]
      constructor
      · intro h
        exact ⟨fun q2 => absurd q2 q, fun _ => by grind⟩
      · rintro ⟨-, h⟩
        have := h q
        grind
  constructor
  · intro h
    have a := A.mp (fun s hs hnf => ⟨h _ ((hcs _).mpr (Or.inr ⟨s, hs, hnf, Or.inl rfl⟩)), h _ ((hcs _).mpr (Or.inr ⟨s, hs, hnf, Or.inr rfl⟩))⟩)
    exact ⟨a.1, a.2, fun b hb hs => (B a.1 b).mp (h _ ((hcs _).mpr (Or.inl ⟨b, hb, hs, rfl⟩)))⟩
  · rintro ⟨h1, h2, h3⟩ c hc
    have a := A.mpr ⟨h1, h2⟩
    rcases (hcs c).mp hc with ⟨b, hb, hs, rfl⟩ | ⟨s, hs, hnf, rfl | rfl⟩
    · exact (B h1 b).mpr (h3 b hb hs)
    · exact (a s hs hnf).1
    · exact (a s hs hnf).2
theorem am0_sum (x y z : Rat) : am 0 x y z 0 + am 0 x y z 1 + am 0 x y z 2 + am 0 x y z 3 = 0 := by
  have := am_sum 0 x y z
  rw [this]
  rfl
theorem fac18 {s : Nat} (hs : s < 4) (a : Nat → Rat) : s4R d (18 + s) a = a s := by
  unfold s4R fac
  have e1 : ((1 : Int) : Rat) = 1 := rfl
  have e0 : ((0 : Int) : Rat) = 0 := rfl
  match s, hs with
  | 0, _ => simp [e1, e0]; grind
  | 1, _ => simp [e1, e0]; grind
  | 2, _ => simp [e1, e0]; grind
  | 3, _ => simp [e1, e0]; grind
theorem Bd_ok (h18 : ∀ s, s < dn d → S (18 + s)) {cs : List Con3} (hcs : ∀ c, c ∈ cs ↔ (∃ b, b < 22 ∧ S b ∧ c = conR d w b) ∨ ∃ s, s < 4 ∧ NF d fx s ∧ (c = eqR d w fx s ∨ c = ng (eqR d w fx s))) : ∀ a b c : Rat, ¬ (a = 0 ∧ b = 0 ∧ c = 0) → ∃ k ∈ cs, 0 < co_d k a b c := by
  intro a b c hne
  have sm := am0_sum a b c
  have ex : ∃ s, s < 4 ∧ am 0 a b c s < 0 := by
    apply Classical.byContradiction
    intro hno
    have p : ∀ s, s < 4 → 0 ≤ am 0 a b c s := fun s hs => by
      have : ¬ am 0 a b c s < 0 := fun q => hno ⟨s, hs, q⟩
      grind
    have p0 := p 0 (by omega)
    have p1 := p 1 (by omega)
    have p2 := p 2 (by omega)
    have p3 := p 3 (by omega)
    apply hne
    have t0 : am 0 a b c 0 = a := rfl
    have t1 : am 0 a b c 1 = b := rfl
    have t2 : am 0 a b c 2 = c := rfl
    rw [← t0, ← t1, ← t2]
    refine ⟨?_, ?_, ?_⟩ <;> grind
  obtain ⟨s, hs, hlt⟩ := ex
  by_cases q : s < dn d
  · refine ⟨conR d w (18 + s), (hcs _).mpr (Or.inl ⟨18 + s, by omega, h18 s q, rfl⟩), ?_⟩
    unfold conR
    rw [if_pos (Or.inl (by omega)), ng_d, pb_dir, fac18 hs]
    grind
  · refine ⟨ng (eqR d w fx s), (hcs _).mpr (Or.inr ⟨s, hs, Or.inl (by omega), Or.inr rfl⟩), ?_⟩
    rw [ng_d, eq_dir s hs]
    grind
end GE
