/-! Corners of a bounded space in three dimensions: from every point of it one comes, without a worse key, to a point at which three planes meet. -/
def dt (a b c x y z : Rat) : Rat := a * x + b * y + c * z
abbrev Con3 : Type := (Rat × Rat × Rat) × Rat
def co_d (c : Con3) (x y z : Rat) : Rat := c.1.1 * x + c.1.2.1 * y + c.1.2.2 * z
def Fe3 (cs : List Con3) (x y z : Rat) : Prop := ∀ c ∈ cs, co_d c x y z ≤ c.2
/-- a direction in which the key falls: the price w, then each amount -/
def kneg (w : Rat × Rat × Rat) (x y z : Rat) : Prop := w.1 * x + w.2.1 * y + w.2.2 * z < 0 ∨ (w.1 * x + w.2.1 * y + w.2.2 * z = 0 ∧ (x < 0 ∨ (x = 0 ∧ (y < 0 ∨ (y = 0 ∧ z < 0)))))
def kle (w : Rat × Rat × Rat) (x y z x' y' z' : Rat) : Prop := kneg w (x - x') (y - y') (z - z') ∨ (x = x' ∧ y = y' ∧ z = z')
theorem kneg_or (w : Rat × Rat × Rat) (x y z : Rat) (h : ¬ (x = 0 ∧ y = 0 ∧ z = 0)) : kneg w x y z ∨ kneg w (-x) (-y) (-z) := by
  unfold kneg
  grind
theorem mul_neg_of {t x : Rat} (ht : 0 < t) (hx : x < 0) : t * x < 0 := by
  have h := Rat.mul_pos ht (show 0 < -x by grind)
  grind
theorem kneg_mul {w : Rat × Rat × Rat} {x y z t : Rat} (h : kneg w x y z) (ht : 0 < t) : kneg w (t * x) (t * y) (t * z) := by
  unfold kneg at h ⊢
  have e : w.1 * (t * x) + w.2.1 * (t * y) + w.2.2 * (t * z) = t * (w.1 * x + w.2.1 * y + w.2.2 * z) := by grind
  rw [e]
  rcases h with h | ⟨h0, h | ⟨h1, h | ⟨h2, h⟩⟩⟩
  · exact Or.inl (mul_neg_of ht h)
  · exact Or.inr ⟨by rw [h0, Rat.mul_zero], Or.inl (mul_neg_of ht h)⟩
  · exact Or.inr ⟨by rw [h0, Rat.mul_zero], Or.inr ⟨by rw [h1, Rat.mul_zero], Or.inl (mul_neg_of ht h)⟩⟩
  · exact Or.inr ⟨by rw [h0, Rat.mul_zero], Or.inr ⟨by rw [h1, Rat.mul_zero], Or.inr ⟨by rw [h2, Rat.mul_zero], mul_neg_of ht h⟩⟩⟩
theorem kneg_add {w : Rat × Rat × Rat} {x y z x' y' z' : Rat} (h : kneg w x y z) (h' : kneg w x' y' z') : kneg w (x + x') (y + y') (z + z') := by
  unfold kneg at h h' ⊢
  grind
theorem kle_refl {w : Rat × Rat × Rat} {x y z : Rat} : kle w x y z x y z := Or.inr ⟨rfl, rfl, rfl⟩
theorem kle_trans {w : Rat × Rat × Rat} {x y z x' y' z' x2 y2 z2 : Rat} (h : kle w x y z x' y' z') (h' : kle w x' y' z' x2 y2 z2) : kle w x y z x2 y2 z2 := by
  rcases h with h | ⟨rfl, rfl, rfl⟩
  · rcases h' with h' | ⟨rfl, rfl, rfl⟩
    · have h3 := kneg_add h h'
      have e1 : x - x' + (x' - x2) = x - x2 := by grind
      have e2 : y - y' + (y' - y2) = y - y2 := by grind
      have e3 : z - z' + (z' - z2) = z - z2 := by grind
      rw [e1, e2, e3] at h3
      exact Or.inl h3
    · exact Or.inl h
  · exact h'
/-- the key is a total order, and no two points have one key -/
theorem kle_total (w : Rat × Rat × Rat) (x y z x' y' z' : Rat) : kle w x y z x' y' z' ∨ kle w x' y' z' x y z := by
  by_cases h : x - x' = 0 ∧ y - y' = 0 ∧ z - z' = 0
  · exact Or.inl (Or.inr (by grind))
  · rcases kneg_or w _ _ _ h with h | h
    · exact Or.inl (Or.inl h)
    · refine Or.inr (Or.inl ?_)
      have e1 : -(x - x') = x' - x := by grind
      have e2 : -(y - y') = y' - y := by grind
      have e3 : -(z - z') = z' - z := by grind
      rw [e1, e2, e3] at h
      exact h
theorem kle_anti {w : Rat × Rat × Rat} {x y z x' y' z' : Rat} (h : kle w x y z x' y' z') (h' : kle w x' y' z' x y z) : x = x' ∧ y = y' ∧ z = z' := by
  rcases h with h | h
  · rcases h' with h' | h'
    · have h3 := kneg_add h h'
      unfold kneg at h3
      grind
    · grind
  · exact h
/-- along a direction that some bound stops: one comes to a bound -/
theorem blk3 (x y z u v q : Rat) : ∀ (cs : List Con3), Fe3 cs x y z → (∃ c ∈ cs, 0 < co_d c u v q) →
    ∃ t : Rat, 0 ≤ t ∧ (∀ c ∈ cs, 0 < co_d c u v q → co_d c x y z + t * co_d c u v q ≤ c.2) ∧ ∃ c ∈ cs, 0 < co_d c u v q ∧ co_d c x y z + t * co_d c u v q = c.2
  | [], _, h => by obtain ⟨c, hc, -⟩ := h; cases hc
  | c0 :: cs, hF, h => by
    have hF' : Fe3 cs x y z := fun c hc => hF c (List.mem_cons_of_mem _ hc)
    have h0 := hF c0 List.mem_cons_self
    by_cases hc : ∃ c ∈ cs, 0 < co_d c u v q
    · obtain ⟨t, ht, h1, c1, hc1, hp1, he1⟩ := blk3 x y z u v q cs hF' hc
      by_cases hp : 0 < co_d c0 u v q
      · by_cases hle : co_d c0 x y z + t * co_d c0 u v q ≤ c0.2
        · refine ⟨t, ht, fun c hm hq => ?_, c1, List.mem_cons_of_mem _ hc1, hp1, he1⟩
          rcases List.mem_cons.mp hm with rfl | hm
          · exact hle
          · exact h1 c hm hq
        · have hne : co_d c0 u v q ≠ 0 := by grind
          have e : (c0.2 - co_d c0 x y z) / co_d c0 u v q * co_d c0 u v q = c0.2 - co_d c0 x y z := Rat.div_mul_cancel hne
          have hlt : (c0.2 - co_d c0 x y z) / co_d c0 u v q < t := by
            rw [Rat.div_lt_iff hp]
            grind
          have hnn : 0 ≤ (c0.2 - co_d c0 x y z) / co_d c0 u v q := Rat.le_of_mul_le_mul_right (c := co_d c0 u v q) (by rw [e]; grind) hp
          refine ⟨(c0.2 - co_d c0 x y z) / co_d c0 u v q, hnn, fun c hm hq => ?_, c0, List.mem_cons_self, hp, by rw [e]; grind⟩
          rcases List.mem_cons.mp hm with rfl | hm
          · rw [e]; grind
          · have h2 := h1 c hm hq
            have h3 : (c0.2 - co_d c0 x y z) / co_d c0 u v q * co_d c u v q ≤ t * co_d c u v q := Rat.mul_le_mul_of_nonneg_right (by grind) (by grind)
            grind
      · refine ⟨t, ht, fun c hm hq => ?_, c1, List.mem_cons_of_mem _ hc1, hp1, he1⟩
        rcases List.mem_cons.mp hm with rfl | hm
        · exact absurd hq hp
        · exact h1 c hm hq
    · obtain ⟨c, hm, hp⟩ := h
      rcases List.mem_cons.mp hm with rfl | hm
      · have hne : co_d c u v q ≠ 0 := by grind
        have e : (c.2 - co_d c x y z) / co_d c u v q * co_d c u v q = c.2 - co_d c x y z := Rat.div_mul_cancel hne
        have hnn : 0 ≤ (c.2 - co_d c x y z) / co_d c u v q := Rat.le_of_mul_le_mul_right (c := co_d c u v q) (by rw [e]; grind) hp
        refine ⟨(c.2 - co_d c x y z) / co_d c u v q, hnn, fun c' hm' hq => ?_, c, List.mem_cons_self, hp, by rw [e]; grind⟩
        rcases List.mem_cons.mp hm' with rfl | hm'
        · rw [e]; grind
        · exact absurd ⟨c', hm', hq⟩ hc
      · exact absurd ⟨c, hm, hp⟩ hc
/-- a move: along u v q, in which the key falls, up to a bound c; bounds that are met and whose plane the direction keeps to are still met -/
theorem mov3 {cs : List Con3} {w : Rat × Rat × Rat} {x y z u v q : Rat} (hF : Fe3 cs x y z) (hb : ∃ c ∈ cs, 0 < co_d c u v q) (hk : kneg w u v q) :
    ∃ x' y' z' : Rat, Fe3 cs x' y' z' ∧ kle w x' y' z' x y z ∧ (∃ c ∈ cs, 0 < co_d c u v q ∧ co_d c x' y' z' = c.2) ∧ ∀ c : Con3, co_d c u v q = 0 → co_d c x' y' z' = co_d c x y z := by
  obtain ⟨t, ht, h1, c1, hc1, hp1, he1⟩ := blk3 x y z u v q cs hF hb
  have lin : ∀ c : Con3, co_d c (x + t * u) (y + t * v) (z + t * q) = co_d c x y z + t * co_d c u v q := by
    intro c
    unfold co_d
    grind
  refine ⟨x + t * u, y + t * v, z + t * q, fun c hc => ?_, ?_, ⟨c1, hc1, hp1, by rw [lin]; exact he1⟩, fun c hc => by rw [lin, hc]; grind⟩
  · rw [lin]
    by_cases hp : 0 < co_d c u v q
    · exact h1 c hc hp
    · have h2 := hF c hc
      have h3 : 0 ≤ t * -(co_d c u v q) := Rat.mul_nonneg ht (by grind)
      grind
  · by_cases h0 : t = 0
    · subst h0
      exact Or.inr ⟨by grind, by grind, by grind⟩
    · have h2 := kneg_mul hk (show 0 < t by grind)
      have e1 : x + t * u - x = t * u := by grind
      have e2 : y + t * v - y = t * v := by grind
      have e3 : z + t * q - z = t * q := by grind
      exact Or.inl (by rw [e1, e2, e3]; exact h2)
/-- the same, in a direction or its reverse -/
theorem mov3' {cs : List Con3} {w : Rat × Rat × Rat} {x y z u v q : Rat} (hF : Fe3 cs x y z) (hb : ∀ a b c : Rat, ¬ (a = 0 ∧ b = 0 ∧ c = 0) → ∃ k ∈ cs, 0 < co_d k a b c) (hn : ¬ (u = 0 ∧ v = 0 ∧ q = 0)) :
    ∃ x' y' z' : Rat, Fe3 cs x' y' z' ∧ kle w x' y' z' x y z ∧ (∃ c ∈ cs, co_d c u v q ≠ 0 ∧ co_d c x' y' z' = c.2) ∧ ∀ c : Con3, co_d c u v q = 0 → co_d c x' y' z' = co_d c x y z := by
  have neg : ∀ c : Con3, co_d c (-u) (-v) (-q) = -(co_d c u v q) := by
    intro c
    unfold co_d
    grind
  rcases kneg_or w u v q hn with h | h
  · obtain ⟨x', y', z', h1, h2, ⟨c, hc, hp, he⟩, h3⟩ := mov3 hF (hb u v q hn) h
    exact ⟨x', y', z', h1, h2, ⟨c, hc, by grind, he⟩, h3⟩
  · obtain ⟨x', y', z', h1, h2, ⟨c, hc, hp, he⟩, h3⟩ := mov3 hF (hb (-u) (-v) (-q) (by grind)) h
    rw [neg] at hp
    exact ⟨x', y', z', h1, h2, ⟨c, hc, by grind, he⟩, fun c h0 => h3 c (by rw [neg, h0]; grind)⟩
def det3 (a b c : Con3) : Rat :=
  (a.1.2.1 * b.1.2.2 - a.1.2.2 * b.1.2.1) * c.1.1 + (a.1.2.2 * b.1.1 - a.1.1 * b.1.2.2) * c.1.2.1 + (a.1.1 * b.1.2.1 - a.1.2.1 * b.1.1) * c.1.2.2
def crs0 (a b : Con3) : Prop := a.1.2.1 * b.1.2.2 - a.1.2.2 * b.1.2.1 = 0 ∧ a.1.2.2 * b.1.1 - a.1.1 * b.1.2.2 = 0 ∧ a.1.1 * b.1.2.1 - a.1.2.1 * b.1.1 = 0
section VTX
variable {cs : List Con3} {w : Rat × Rat × Rat} {x y z : Rat}
theorem vtx2 (hF : Fe3 cs x y z) (hb : ∀ a b c : Rat, ¬ (a = 0 ∧ b = 0 ∧ c = 0) → ∃ k ∈ cs, 0 < co_d k a b c) {a b : Con3} (ha : co_d a x y z = a.2) (hb2 : co_d b x y z = b.2) (hn : ¬ crs0 a b) :
    ∃ c ∈ cs, det3 a b c ≠ 0 ∧ ∃ x' y' z' : Rat, Fe3 cs x' y' z' ∧ kle w x' y' z' x y z ∧ co_d a x' y' z' = a.2 ∧ co_d b x' y' z' = b.2 ∧ co_d c x' y' z' = c.2 := by
  obtain ⟨x', y', z', h1, h2, ⟨c, hc, hp, he⟩, h3⟩ := mov3' (w := w) hF hb hn
  refine ⟨c, hc, ?_, x', y', z', h1, h2, ?_, ?_, he⟩
  · unfold co_d at hp
    unfold det3
    grind
  · rw [h3 a (by unfold co_d; grind)]; exact ha
  · rw [h3 b (by unfold co_d; grind)]; exact hb2
theorem vtx1 (hF : Fe3 cs x y z) (hb : ∀ a b c : Rat, ¬ (a = 0 ∧ b = 0 ∧ c = 0) → ∃ k ∈ cs, 0 < co_d k a b c) {a : Con3} (ha : co_d a x y z = a.2) (hn : ¬ (a.1.1 = 0 ∧ a.1.2.1 = 0 ∧ a.1.2.2 = 0)) :
    ∃ b ∈ cs, ∃ c ∈ cs, det3 a b c ≠ 0 ∧ ∃ x' y' z' : Rat, Fe3 cs x' y' z' ∧ kle w x' y' z' x y z ∧ co_d a x' y' z' = a.2 ∧ co_d b x' y' z' = b.2 ∧ co_d c x' y' z' = c.2 := by
  by_cases h0 : a.1.1 = 0
  · obtain ⟨x', y', z', h1, h2, ⟨b, hm, hp, he⟩, h3⟩ := mov3' (w := w) (u := 1) (v := 0) (q := 0) hF hb (by grind)
    have ha' : co_d a x' y' z' = a.2 := by rw [h3 a (by unfold co_d; grind)]; exact ha
    have hn2 : ¬ crs0 a b := by
      unfold co_d at hp
      unfold crs0
      grind
    obtain ⟨c, hc, hd, x2, y2, z2, g1, g2, g3⟩ := vtx2 (w := w) h1 hb ha' he hn2
    exact ⟨b, hm, c, hc, hd, x2, y2, z2, g1, kle_trans g2 h2, g3⟩
  · obtain ⟨x', y', z', h1, h2, ⟨b, hm, hp, he⟩, h3⟩ := mov3' (w := w) (u := a.1.2.1) (v := -a.1.1) (q := 0) hF hb (by grind)
    have ha' : co_d a x' y' z' = a.2 := by rw [h3 a (by unfold co_d; grind)]; exact ha
    have hn2 : ¬ crs0 a b := by
      unfold co_d at hp
      unfold crs0
      grind
    obtain ⟨c, hc, hd, x2, y2, z2, g1, g2, g3⟩ := vtx2 (w := w) h1 hb ha' he hn2
    exact ⟨b, hm, c, hc, hd, x2, y2, z2, g1, kle_trans g2 h2, g3⟩
theorem vtx0 (hF : Fe3 cs x y z) (hb : ∀ a b c : Rat, ¬ (a = 0 ∧ b = 0 ∧ c = 0) → ∃ k ∈ cs, 0 < co_d k a b c) :
    ∃ a ∈ cs, ∃ b ∈ cs, ∃ c ∈ cs, det3 a b c ≠ 0 ∧ ∃ x' y' z' : Rat, Fe3 cs x' y' z' ∧ kle w x' y' z' x y z ∧ co_d a x' y' z' = a.2 ∧ co_d b x' y' z' = b.2 ∧ co_d c x' y' z' = c.2 := by
  obtain ⟨x', y', z', h1, h2, ⟨a, hm, hp, he⟩, h3⟩ := mov3' (w := w) (u := 1) (v := 0) (q := 0) hF hb (by grind)
  obtain ⟨b, hb1, c, hc, hd, x2, y2, z2, g1, g2, g3⟩ := vtx1 (w := w) h1 hb he (by unfold co_d at hp; grind)
  exact ⟨a, hm, b, hb1, c, hc, hd, x2, y2, z2, g1, kle_trans g2 h2, g3⟩
end VTX
