/-! Slopes, and orders by points. -/
section SLO
variable {d : Dt}
theorem PtI_of {I : SI} (hrg : Rg d) (h : ToF d I) : PtI I (ptd d) := fun r hr i hi => by
  have := hrg.2.2.1 r hr i hi
  exact ⟨by rw [h.2.2.2.2.2.2.1 r hr i hi, i3_nI]; rfl, by unfold ptd; omega, by unfold ptd; omega⟩
theorem Pd_le (hrg : Rg d) {r j : Nat} (hr : r < 7) (hj : j < 4) : 0 ≤ Pd d r j ∧ Pd d r j ≤ 40 := by
  unfold Pd
  split
  · split <;> omega
  · have := hrg.2.2.1 (r - 4) (by omega) j hj
    omega
theorem pointsOf_ok {I : SI} {J : SJ} (h : PtI I (ptd d)) {r j : Nat} (hr : r < 7) (hj : j < 4) : m_K_pointsOf (nI r) (nI j) I J = some (i3 (Pd d r j), I, J) := by
  simp only [m_K_pointsOf, b_K_pointsOf_0, nm]
  by_cases h4 : r < 4
  · have n : ¬ (4 : Int32) ≤ nI r := nI_ge (b := 4) h4 (by decide)
    rw [if_neg n]
    unfold Pd
    rw [if_pos h4]
    by_cases e : r = j
    · subst e
      rw [if_pos rfl, if_pos rfl, i3_p1]
    · rw [if_neg e, if_neg (fun z => e (by
        have := congrArg Int32.toInt z
        rw [nI_toInt (by omega), nI_toInt (by omega)] at this
        omega))]
      rfl
  · have n : (4 : Int32) ≤ nI r := nI_le (a := 4) (by omega) (by omega)
    have e : nI r - 4 = nI (r - 4) := pk_sub (a := r) (b := 4) (by omega)
    have v : vin (nI (r - 4)) 3 := vp_in_nI (by omega) (by decide)
    have vj : vin (nI j) 4 := vp_in_nI hj (by decide)
    simp only [n, if_true, e, gd_of v, gd_of vj, nI_clamp (show r - 4 < 2 ^ 31 by omega), nI_clamp (show j < 2 ^ 31 by omega), (h (r - 4) (by omega) j hj).1]
    unfold Pd ptd
    rw [if_neg h4]
theorem slope_in {r : Nat} (hr : r < 7) : ∀ (t s : Nat), s + t = 3 → ∀ (F : Nat), t + 1 < F → ∀ (I : SI) (J : SJ), PtI I (ptd d) → (∀ j, j < s → I (22 + r) j = i3 (slp d r j)) →
    ∃ (F2 : Nat) (I2 : SI), F = F2 + (t + 1) ∧ (g_K_setSlopes F).2 (nI r) (i3 (Pd d r 3)) (nI s) I J = (g_K_setSlopes F2).1 (nI (r + 1)) I2 J ∧ (∀ j, j < 3 → I2 (22 + r) j = i3 (slp d r j)) ∧ ∀ k, k ≠ 22 + r → I2 k = I k := by
  have vr : vin (nI r) 7 := vp_in_nI hr (by decide)
  have kr : (nI r).toNatClampNeg = r := nI_clamp (Nat.lt_trans hr (by decide))
  intro t
  induction t with
  | zero =>
    intro s hs F hF I J hP hI
    obtain ⟨f, rfl⟩ : ∃ f, F = f + 1 := ⟨F - 1, by omega⟩
    have e : s = 3 := by omega
    subst e
    have h3 : (3 : Int32) ≤ nI 3 := by decide
    refine ⟨f, I, rfl, ?_, hI, fun _ _ => rfl⟩
    show b_K_setSlopes_32 (g_K_setSlopes f).1 (g_K_setSlopes f).2 (nI r) (i3 (Pd d r 3)) (nI 3) I J = _
    unfold b_K_setSlopes_32
    rw [if_pos h3]
    simp only [nm, nI_1]
  | succ t ih =>
    intro s hs F hF I J hP hI
    obtain ⟨f, rfl⟩ : ∃ f, F = f + 1 := ⟨F - 1, by omega⟩
    have h3 : ¬ (3 : Int32) ≤ nI s := nI_ge (b := 3) (by omega) (by decide)
    have vs : vin (nI s) 3 := vp_in_nI (by omega) (by decide)
    have ks : (nI s).toNatClampNeg = s := nI_clamp (Nat.lt_trans (show s < 4 by omega) (by decide))
    obtain ⟨I5, e5⟩ : ∃ z : SI, z = va_up I (22 + r) (upd (I (22 + r)) s (i3 (slp d r s))) := ⟨_, rfl⟩
    have f5 : ∀ k, k ≠ 22 + r → I5 k = I k := fun k hk => by rw [e5, va_up_ne _ _ hk]
    obtain ⟨F2, I2, g1, g2, g3, g4⟩ := ih (s + 1) (by omega) f (by omega) I5 J (fun n hn i hi => by rw [f5 (7 + n) (by omega)]; exact hP n hn i hi) (fun j hj => by
      rw [e5, va_up_self]
      unfold upd
      split
      · next e => rw [e]
      · exact hI j (by omega))
    refine ⟨F2, I2, by omega, ?_, g3, fun k hk => by rw [g4 k hk, f5 k hk]⟩
    show b_K_setSlopes_32 (g_K_setSlopes f).1 (g_K_setSlopes f).2 (nI r) (i3 (Pd d r 3)) (nI s) I J = _
    unfold b_K_setSlopes_32
    rw [if_neg h3]
    simp only [nm, gd_of vr, gd_of vs, ks, kr, pointsOf_ok hP hr (show s < 4 by omega), cl3, i3_sub, nI_1]
    rw [show i3 (Pd d r s - Pd d r 3) = i3 (slp d r s) from rfl, ← e5]
    exact g2
theorem slope_out (hrg : Rg d) {T : Int} : ∀ (t r : Nat), r + t = 7 → ∀ (F : Nat), 5 * t < F → ∀ (I : SI) (J : SJ), PtI I (ptd d) → I 12 2 = i3 T → (∀ q, q < r → I 20 q = i3 (ofl d T q) ∧ ∀ j, j < 3 → I (22 + q) j = i3 (slp d q j)) →
    ∃ I2 : SI, (g_K_setSlopes F).1 (nI r) I J = some (I2, J) ∧ (∀ q, q < 7 → I2 20 q = i3 (ofl d T q) ∧ ∀ j, j < 3 → I2 (22 + q) j = i3 (slp d q j)) ∧ ∀ k, k ≠ 20 → k < 22 ∨ 28 < k → I2 k = I k := by
  intro t
  induction t with
  | zero =>
    intro r hr F hF I J hP hT hI
    obtain ⟨f, rfl⟩ : ∃ f, F = f + 1 := ⟨F - 1, by omega⟩
    have e : r = 7 := by omega
    subst e
    exact ⟨I, rfl, hI, fun _ _ _ => rfl⟩
  | succ t ih =>
    intro r hr F hF I J hP hT hI
    obtain ⟨f, rfl⟩ : ∃ f, F = f + 1 := ⟨F - 1, by omega⟩
    have h7 : ¬ (7 : Int32) ≤ nI r := nI_ge (b := 7) (by omega) (by decide)
    have vr : vin (nI r) 7 := vp_in_nI (by omega) (by decide)
    have kr : (nI r).toNatClampNeg = r := nI_clamp (Nat.lt_trans (show r < 7 by omega) (by decide))
    obtain ⟨I5, e5⟩ : ∃ z : SI, z = va_up I 20 (upd (I 20) r (i3 (ofl d T r))) := ⟨_, rfl⟩
    have f5 : ∀ k, k ≠ 20 → I5 k = I k := fun k hk => by rw [e5, va_up_ne _ _ hk]
    have P5 : PtI I5 (ptd d) := fun n hn i hi => by rw [f5 (7 + n) (by omega)]; exact hP n hn i hi
    obtain ⟨F2, I6, g1, g2, g3, g4⟩ := slope_in (d := d) (show r < 7 by omega) 3 0 rfl f (by omega) I5 J P5 (fun j hj => absurd hj (by omega))
    obtain ⟨I2, k1, k2, k3⟩ := ih (r + 1) (by omega) F2 (by omega) I6 J (fun n hn i hi => by rw [g4 (7 + n) (by omega)]; exact P5 n hn i hi) (by rw [g4 12 (by omega), f5 12 (by omega)]; exact hT) (fun q hq => by
      rw [g4 20 (by omega), e5, va_up_self]
      by_cases e : q = r
      · subst e
        refine ⟨by unfold upd; rw [if_pos rfl], g3⟩
      · have := hI q (by omega)
        refine ⟨by unfold upd; rw [if_neg e]; exact this.1, fun j hj => ?_⟩
        rw [g4 (22 + q) (by omega), f5 (22 + q) (by omega)]
        exact this.2 j hj)
    refine ⟨I2, ?_, k2, fun k h1 h2 => by rw [k3 k h1 h2, g4 k (by omega), f5 k h1]⟩
    show b_K_setSlopes_2 (g_K_setSlopes f).2 (nI r) I J = _
    unfold b_K_setSlopes_2
    rw [if_neg h7]
    simp only [nm, show m_K_pointsOf (nI r) 3 I J = some (i3 (Pd d r 3), I, J) from pointsOf_ok hP (show r < 7 by omega) (show 3 < 4 by omega), cl3, hT, i3_mul, gd_of vr, kr]
    rw [show i3 (Pd d r 3 * T) = i3 (ofl d T r) from rfl, ← e5]
    exact g2.trans k1
theorem slopes_ok (hrg : Rg d) {I : SI} (J : SJ) {T : Int} (hT1 : 0 ≤ T ∧ T ≤ 400) (hP : PtI I (ptd d)) (hT : I 12 2 = i3 T) :
    ∃ I2 : SI, m_K_setSlopes I J = some (I2, J) ∧ OfI (ofl d T) I2 ∧ (∀ r, r < 7 → row3 I2 (22 + r) (slp d r)) ∧ ∀ k, k ≠ 20 → k < 22 ∨ 28 < k → I2 k = I k := by
  obtain ⟨I2, h1, h2, h3⟩ := slope_out hrg 7 0 rfl fuel (by decide) I J hP hT (fun q hq => absurd hq (by omega))
  refine ⟨I2, h1, fun r hr => ⟨(h2 r hr).1, ?_⟩, fun r hr j hj => ⟨(h2 r hr).2 j hj, ?_⟩, h3⟩
  · have := Pd_le hrg hr (show 3 < 4 by omega)
    have m := mulB (p := Pd d r 3) (M := 40) (a := T) (B := 400) this.1 this.2 (by omega) (by omega)
    have m0 : 0 ≤ Pd d r 3 * T := Int.mul_nonneg this.1 hT1.1
    unfold ofl
    omega
  · have a := Pd_le hrg hr (show 3 < 4 by omega)
    have b := Pd_le hrg hr (show j < 4 by omega)
    unfold slp
    omega
end SLO
section SORT
variable {p : Nat → Int} {n : Nat}
theorem aa_in (hn : n < 3) : 16 + n ∈ [16, 17, 18] := by
  match n, hn with
  | 0, _ => decide
  | 1, _ => decide
  | 2, _ => decide
theorem sort_in (hn : n < 3) {s : Nat} (hs : s < 4) {a : Nat → Nat} (ha : ∀ k, k < s → a k < s) : ∀ (j : Nat), j ≤ s → ∀ (F : Nat), j + 1 < F → ∀ (I : SI) (J : SJ), (∀ i, i < 4 → I (7 + n) i = i3 (p i) ∧ 0 ≤ p i ∧ p i ≤ 40) → (∀ k, k < j → I (16 + n) k = nI (a k)) → (∀ k, j < k → k ≤ s → I (16 + n) k = nI (a (k - 1))) → (∀ k, j ≤ k → k < s → p s < p (a k)) →
    ∃ (F2 : Nat) (I2 : SI) (q : Nat), F ≤ F2 + (j + 1) ∧ q ≤ s ∧ (g_L_sortByPoints F).2 (16 + n) (7 + n) (nI s) (nI j) I J = (g_L_sortByPoints F2).1 (16 + n) (7 + n) (nI (s + 1)) I2 J ∧ (∀ k, k ≤ s → I2 (16 + n) k = nI (if k < q then a k else if k = q then s else a (k - 1))) ∧ (∀ k, q ≤ k → k < s → p s < p (a k)) ∧ (0 < q → p (a (q - 1)) ≤ p s) ∧ ∀ k, k ≠ 16 + n → I2 k = I k := by
  have vs : vin (nI s) 4 := vp_in_nI hs (by decide)
  have ks : (nI s).toNatClampNeg = s := nI_clamp (Nat.lt_trans hs (by decide))
  have put : ∀ (j : Nat) (I : SI), j ≤ s → (∀ k, k < j → I (16 + n) k = nI (a k)) → (∀ k, j < k → k ≤ s → I (16 + n) k = nI (a (k - 1))) → ∀ k, k ≤ s → va_up I (16 + n) (upd (I (16 + n)) j (nI s)) (16 + n) k = nI (if k < j then a k else if k = j then s else a (k - 1)) := by
    intro j I hj h1 h2 k hk
    rw [va_up_self]
    unfold upd
    by_cases e : k = j
    · subst e
      rw [if_pos rfl, if_neg (by omega), if_pos rfl]
    · rw [if_neg e]
      by_cases c : k < j
      · rw [if_pos c]; exact h1 k c
      · rw [if_neg c, if_neg e]; exact h2 k (by omega) hk
  intro j
  induction j with
  | zero =>
    intro hj F hF I J hp h1 h2 h3
    obtain ⟨f, rfl⟩ : ∃ f, F = f + 1 := ⟨F - 1, by omega⟩
    have v0 : vin (nI 0) 4 := by decide
    have k0 : (nI 0).toNatClampNeg = 0 := rfl
    have n0 : nI 0 ≤ 0 := by decide
    refine ⟨f, _, 0, by omega, by omega, ?_, put 0 I hj h1 h2, h3, fun z => absurd z (by omega), fun k hk => va_up_ne _ _ hk⟩
    show b_L_sortByPoints_9 (g_L_sortByPoints f).1 (g_L_sortByPoints f).2 (16 + n) (7 + n) (nI s) (nI 0) I J = _
    unfold b_L_sortByPoints_9
    simp only [gd_of (aa_in hn), gd_of (row_in hn), n0, if_true, gd_of v0, k0, nm, nI_1]
  | succ j ih =>
    intro hj F hF I J hp h1 h2 h3
    obtain ⟨f, rfl⟩ : ∃ f, F = f + 1 := ⟨F - 1, by omega⟩
    have nj : ¬ nI (j + 1) ≤ 0 := nI_nle (by omega) (by omega)
    have e1 : nI (j + 1) - 1 = nI j := nI_pred j
    have e2 : nI (j + 1) + (-1) = nI j := by
      have h := nI_pred j
      have z : (nI (j + 1) + (-1) : Int32) = nI (j + 1) - 1 := by
        generalize nI (j + 1) = v
        grind
      rw [z, h]
    have vj : vin (nI j) 4 := vp_in_nI (by omega) (by decide)
    have kj : (nI j).toNatClampNeg = j := nI_clamp (Nat.lt_trans (show j < 4 by omega) (by decide))
    have vj1 : vin (nI (j + 1)) 4 := vp_in_nI (by omega) (by decide)
    have kj1 : (nI (j + 1)).toNatClampNeg = j + 1 := nI_clamp (Nat.lt_trans (show j + 1 < 5 by omega) (by decide))
    have haj := ha j (by omega)
    have va : vin (nI (a j)) 4 := vp_in_nI (by omega) (by decide)
    have ka : (nI (a j)).toNatClampNeg = a j := nI_clamp (Nat.lt_trans (show a j < 4 by omega) (by decide))
    have pa := hp (a j) (by omega)
    have ps := hp s hs
    have st : (g_L_sortByPoints (f + 1)).2 (16 + n) (7 + n) (nI s) (nI (j + 1)) I J = if p (a j) ≤ p s then (g_L_sortByPoints f).1 (16 + n) (7 + n) (nI (s + 1)) (va_up I (16 + n) (upd (I (16 + n)) (j + 1) (nI s))) J else (g_L_sortByPoints f).2 (16 + n) (7 + n) (nI s) (nI j) (va_up I (16 + n) (upd (I (16 + n)) (j + 1) (nI (a j)))) J := by
      show b_L_sortByPoints_9 (g_L_sortByPoints f).1 (g_L_sortByPoints f).2 (16 + n) (7 + n) (nI s) (nI (j + 1)) I J = _
      unfold b_L_sortByPoints_9
      simp only [gd_of (aa_in hn), gd_of (row_in hn), nj, if_false, nm, e1, e2, gd_of vj, kj, h1 j (by omega), gd_of va, ka, gd_of vs, ks, pa.1, ps.1, gd_of vj1, kj1, nI_1, i3_le (a := p (a j)) (b := p s) (by omega) (by omega) (by omega) (by omega)]
    rw [st]
    by_cases c : p (a j) ≤ p s
    · rw [if_pos c]
      exact ⟨f, _, j + 1, by omega, hj, rfl, put (j + 1) I hj h1 h2, h3, fun _ => c, fun k hk => va_up_ne _ _ hk⟩
    · rw [if_neg c]
      obtain ⟨I5, e5⟩ : ∃ z : SI, z = va_up I (16 + n) (upd (I (16 + n)) (j + 1) (nI (a j))) := ⟨_, rfl⟩
      have f5 : ∀ k, k ≠ 16 + n → I5 k = I k := fun k hk => by rw [e5, va_up_ne _ _ hk]
      rw [← e5]
      obtain ⟨F2, I2, q, g1, g2, g3, g4, g5, g6, g7⟩ := ih (by omega) f (by omega) I5 J (fun i hi => by rw [f5 (7 + n) (by omega)]; exact hp i hi) (fun k hk => by
          rw [e5, va_up_self]
          unfold upd
          rw [if_neg (by omega)]
          exact h1 k (by omega)) (fun k k1 k2 => by
          rw [e5, va_up_self]
          unfold upd
          by_cases e : k = j + 1
          · subst e; rw [if_pos rfl]; rfl
          · rw [if_neg e]; exact h2 k (by omega) k2) (fun k k1 k2 => by
          by_cases e : k = j
          · subst e; omega
          · exact h3 k (by omega) k2)
      exact ⟨F2, I2, q, by omega, g2, g3, g4, g5, g6, fun k hk => by rw [g7 k hk, f5 k hk]⟩
/-- an order of the first s stuffs -/
def Osr (p : Nat → Int) (s : Nat) (a : Nat → Nat) : Prop := (∀ k, k < s → a k < s) ∧ (∀ j k, j < k → k < s → a j ≠ a k) ∧ ∀ k, k + 1 < s → p (a k) ≤ p (a (k + 1))
theorem Osr_ins {s q : Nat} {a : Nat → Nat} (h : Osr p s a) (hq : q ≤ s) (h1 : ∀ k, q ≤ k → k < s → p s < p (a k)) (h2 : 0 < q → p (a (q - 1)) ≤ p s) : Osr p (s + 1) (fun k => if k < q then a k else if k = q then s else a (k - 1)) := by
  obtain ⟨a1, a2, a3⟩ := h
  refine ⟨fun k hk => ?_, fun j k hjk hk => ?_, fun k hk => ?_⟩
  · show (if k < q then a k else if k = q then s else a (k - 1)) < s + 1
    split
    · have := a1 k (by omega); omega
    · split
      · omega
      · have := a1 (k - 1) (by omega); omega
  · show (if j < q then a j else if j = q then s else a (j - 1)) ≠ (if k < q then a k else if k = q then s else a (k - 1))
    by_cases c1 : j < q
    · rw [if_pos c1]
      have b1 := a1 j (by omega)
      by_cases c2 : k < q
      · rw [if_pos c2]; exact a2 j k hjk (by omega)
      · rw [if_neg c2]
        by_cases c3 : k = q
        · rw [if_pos c3]; omega
        · rw [if_neg c3]; exact a2 j (k - 1) (by omega) (by omega)
    · rw [if_neg c1, if_neg (show ¬ k < q by omega), if_neg (show ¬ k = q by omega)]
      by_cases c3 : j = q
      · rw [if_pos c3]
        have := a1 (k - 1) (by omega)
        omega
      · rw [if_neg c3]; exact a2 (j - 1) (k - 1) (by omega) (by omega)
  · show p (if k < q then a k else if k = q then s else a (k - 1)) ≤ p (if k + 1 < q then a (k + 1) else if k + 1 = q then s else a (k + 1 - 1))
    by_cases c1 : k + 1 < q
    · rw [if_pos (show k < q by omega), if_pos c1]; exact a3 k (by omega)
    · rw [if_neg c1]
      by_cases c2 : k + 1 = q
      · rw [if_pos c2, if_pos (show k < q by omega)]
        have := h2 (by omega)
        rw [← c2] at this
        exact this
      · rw [if_neg c2, if_neg (show ¬ k < q by omega)]
        by_cases c3 : k = q
        · rw [if_pos c3]
          have := h1 k (by omega) (by omega)
          rw [show k + 1 - 1 = k by omega]
          omega
        · rw [if_neg c3]
          have := a3 (k - 1) (by omega)
          rw [show k - 1 + 1 = k by omega] at this
          rw [show k + 1 - 1 = k by omega]
          exact this
theorem sort_out (hn : n < 3) : ∀ (t s : Nat), s + t = 4 → ∀ (F : Nat), 7 * t < F → ∀ (I : SI) (J : SJ) (a : Nat → Nat), (∀ i, i < 4 → I (7 + n) i = i3 (p i) ∧ 0 ≤ p i ∧ p i ≤ 40) → (∀ k, k < s → I (16 + n) k = nI (a k)) → Osr p s a →
    ∃ (I2 : SI) (b : Nat → Nat), (g_L_sortByPoints F).1 (16 + n) (7 + n) (nI s) I J = some (I2, J) ∧ (∀ k, k < 4 → I2 (16 + n) k = nI (b k)) ∧ Osr p 4 b ∧ ∀ k, k ≠ 16 + n → I2 k = I k := by
  intro t
  induction t with
  | zero =>
    intro s hs F hF I J a hp h1 h2
    obtain ⟨f, rfl⟩ : ∃ f, F = f + 1 := ⟨F - 1, by omega⟩
    have e : s = 4 := by omega
    subst e
    have h4 : (4 : Int32) ≤ nI 4 := by decide
    refine ⟨I, a, ?_, h1, h2, fun _ _ => rfl⟩
    show b_L_sortByPoints_2 (g_L_sortByPoints f).2 (16 + n) (7 + n) (nI 4) I J = _
    unfold b_L_sortByPoints_2
    rw [gd_of (aa_in hn), gd_of (row_in hn), if_pos h4]
  | succ t ih =>
    intro s hs F hF I J a hp h1 h2
    obtain ⟨f, rfl⟩ : ∃ f, F = f + 1 := ⟨F - 1, by omega⟩
    have h4 : ¬ (4 : Int32) ≤ nI s := nI_ge (b := 4) (by omega) (by decide)
    obtain ⟨F2, I2, q, g1, g2, g3, g4, g5, g6, g7⟩ := sort_in hn (show s < 4 by omega) h2.1 s (Nat.le_refl s) f (by omega) I J hp h1 (fun k k1 k2 => by omega) (fun k k1 k2 => by omega)
    obtain ⟨I3, b, k1, k2, k3, k4⟩ := ih (s + 1) (by omega) F2 (by omega) I2 J _ (fun i hi => by rw [g7 (7 + n) (by omega)]; exact hp i hi) (fun k hk => g4 k (by omega)) (Osr_ins h2 g2 g5 g6)
    refine ⟨I3, b, ?_, k2, k3, fun k hk => by rw [k4 k hk, g7 k hk]⟩
    show b_L_sortByPoints_2 (g_L_sortByPoints f).2 (16 + n) (7 + n) (nI s) I J = _
    unfold b_L_sortByPoints_2
    rw [gd_of (aa_in hn), gd_of (row_in hn), if_neg h4, g3]
    exact k1
theorem Osr_Ord {a : Nat → Nat} (h : Osr p 4 a) : Ord a := by
  refine ⟨h.1, fun f => ?_⟩
  have b0 := h.1 0 (by omega)
  have b1 := h.1 1 (by omega)
  have b2 := h.1 2 (by omega)
  have b3 := h.1 3 (by omega)
  have n01 := h.2.1 0 1 (by omega) (by omega)
  have n02 := h.2.1 0 2 (by omega) (by omega)
  have n03 := h.2.1 0 3 (by omega) (by omega)
  have n12 := h.2.1 1 2 (by omega) (by omega)
  have n13 := h.2.1 1 3 (by omega) (by omega)
  have n23 := h.2.1 2 3 (by omega) (by omega)
  generalize a 0 = u0 at *
  generalize a 1 = u1 at *
  generalize a 2 = u2 at *
  generalize a 3 = u3 at *
  clear h
  have c0 : u0 = 0 ∨ u0 = 1 ∨ u0 = 2 ∨ u0 = 3 := by omega
  have c1 : u1 = 0 ∨ u1 = 1 ∨ u1 = 2 ∨ u1 = 3 := by omega
  have c2 : u2 = 0 ∨ u2 = 1 ∨ u2 = 2 ∨ u2 = 3 := by omega
  have c3 : u3 = 0 ∨ u3 = 1 ∨ u3 = 2 ∨ u3 = 3 := by omega
  rcases c0 with rfl | rfl | rfl | rfl <;> rcases c1 with rfl | rfl | rfl | rfl <;> try omega
  all_goals rcases c2 with rfl | rfl | rfl | rfl <;> try omega
  all_goals rcases c3 with rfl | rfl | rfl | rfl <;> try omega
  all_goals grind
theorem sort_ok (hn : n < 3) {I : SI} (J : SJ) (hp : ∀ i, i < 4 → I (7 + n) i = i3 (p i) ∧ 0 ≤ p i ∧ p i ≤ 40) :
    ∃ (I2 : SI) (b : Nat → Nat), m_L_sortByPoints (16 + n) (7 + n) I J = some (I2, J) ∧ (∀ k, k < 4 → b k < 4 ∧ I2 (16 + n) k = nI (b k)) ∧ Ord b ∧ (∀ k, k + 1 < 4 → p (b k) ≤ p (b (k + 1))) ∧ ∀ k, k ≠ 16 + n → I2 k = I k := by
  obtain ⟨I2, b, g1, g2, g3, g4⟩ := sort_out (p := p) hn 4 0 rfl fuel (by decide) I J (fun _ => 0) hp (fun k hk => absurd hk (by omega)) ⟨fun k hk => absurd hk (by omega), fun j k _ hk => absurd hk (by omega), fun k hk => absurd hk (by omega)⟩
  refine ⟨I2, b, ?_, fun k hk => ⟨g3.1 k hk, g2 k hk⟩, Osr_Ord g3, g3.2.2, g4⟩
  unfold m_L_sortByPoints b_L_sortByPoints_0
  rw [gd_of (aa_in hn), gd_of (row_in hn)]
  exact g1
end SORT
