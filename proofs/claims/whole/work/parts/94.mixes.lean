/-! The reference: which bounds count; is anything possible; whole silos. -/
section MX
variable {d : Dt} {w : Nat} {S : Nat → Prop}
theorem ToR_of {I I2 : SI} (h : ToR d I) (e0 : I2 0 0 = I 0 0) (e : ∀ k, 1 ≤ k → k ≤ 8 → I2 k = I k) : ToR d I2 := by
  obtain ⟨a0, a1, a2, a3, a4, a5, a6, a7, a8⟩ := h
  refine ⟨by rw [e0]; exact a0, ?_⟩
  rw [e 1 (by decide) (by decide), e 2 (by decide) (by decide), e 3 (by decide) (by decide), e 4 (by decide) (by decide), e 5 (by decide) (by decide), e 6 (by decide) (by decide), e 7 (by decide) (by decide), e 8 (by decide) (by decide)]
  exact ⟨a1, a2, a3, a4, a5, a6, a7, a8⟩
theorem s4_rv (d : Dt) (w : Nat) {b : Nat} (hb : b < 18) (a : Nat → Rat) : ∃ c : Rat, (c = 1 ∨ c = 10) ∧ s4R d b a = c * rv d (rowB b) a ∧ 10 * (rgt d w b : Rat) = c * (lev d w b : Rat) := by
  have e1 : ((1 : Int) : Rat) = 1 := rfl
  have e0 : ((0 : Int) : Rat) = 0 := rfl
  have e10 : ((10 : Int) : Rat) = 10 := rfl
  by_cases c12 : b < 12
  · have row : rowB b = b % 4 := by unfold rowB; rw [if_pos c12]
    have f : ∀ s, fac d b s = if b % 4 = s then (if 4 ≤ b then 10 else 1) else 0 := fun s => by unfold fac; rw [if_neg (by omega), if_neg (by omega)]
    have m : b % 4 = 0 ∨ b % 4 = 1 ∨ b % 4 = 2 ∨ b % 4 = 3 := by omega
    have m4 : b % 4 < 4 := by omega
    by_cases c4 : 4 ≤ b
    · refine ⟨10, Or.inr rfl, ?_, ?_⟩
      · rw [row, rv_stuff d m4]
        unfold s4R
        simp only [f, if_pos c4]
        rcases m with m | m | m | m <;> rw [m] <;> simp [e10, e0] <;> grind
      · have e : rgt d w b = lev d w b := by
          unfold rgt lev
          rw [if_neg (show ¬ 18 ≤ b by omega), if_neg (show ¬ 15 ≤ b by omega), if_neg (show ¬ 12 ≤ b by omega), if_neg (show ¬ b < 4 by omega)]
          by_cases c8 : 8 ≤ b
          · rw [if_pos c8, if_neg (show ¬ b < 8 by omega), if_pos c12]
          · rw [if_neg c8, if_pos c4, if_pos (show b < 8 by omega)]
        rw [e]
    · refine ⟨1, Or.inl rfl, ?_, ?_⟩
      · rw [row, rv_stuff d m4]
        unfold s4R
        simp only [f, if_neg c4]
        rcases m with m | m | m | m <;> rw [m] <;> simp [e1, e0] <;> grind
      · unfold rgt lev
        rw [if_neg (by omega), if_neg (by omega), if_neg (by omega), if_neg (by omega), if_neg c4, if_pos (by omega), Rat.intCast_mul, e10]
        grind
  · have row : rowB b = 4 + (b - 12) % 3 := by unfold rowB; rw [if_neg c12]
    have f : ∀ s, fac d b s = ptd d ((b - 12) % 3) s := fun s => by unfold fac; rw [if_neg (by omega), if_pos (by omega)]
    refine ⟨1, Or.inl rfl, ?_, ?_⟩
    · rw [row, rv_nut]
      unfold s4R
      simp only [f]
      grind
    · unfold rgt lev
      by_cases c15 : 15 ≤ b
      · rw [if_neg (by omega), if_pos c15, if_neg (by omega), if_neg (by omega), if_neg (by omega), if_neg (by omega), Int.mul_assoc, Rat.intCast_mul 10, e10]
        grind
      · rw [if_neg (by omega), if_neg c15, if_pos (by omega), if_neg (by omega), if_neg (by omega), if_neg (by omega), if_pos (by omega), Int.mul_assoc, Rat.intCast_mul 10, e10]
        grind
theorem bnd_iff (d : Dt) (w : Nat) {b : Nat} (hb : b < 18) (a : Nat → Rat) : (10 * (rgt d w b : Rat) ≤ s4R d b a ↔ ((lev d w b : Int) : Rat) ≤ rv d (rowB b) a) ∧ (s4R d b a ≤ 10 * (rgt d w b : Rat) ↔ rv d (rowB b) a ≤ ((lev d w b : Int) : Rat)) := by
  obtain ⟨c, hc, e1, e2⟩ := s4_rv d w hb a
  rw [e1, e2]
  rcases hc with rfl | rfl
  · constructor <;> constructor <;> intro h <;> grind
  · constructor <;> constructor <;> intro h <;> grind
theorem Qr_free (hn : dn d ≤ 4) (h18 : ∀ s, s < dn d → S (18 + s)) (x y z : Rat) : Qr d w S (fun _ => -1) x y z ↔ Kp d w S x y z := by
  constructor
  · rintro ⟨h1, -, h3⟩
    refine ⟨fun i hi => ⟨?_, h1 i hi⟩, fun b hb hs => ?_⟩
    · by_cases c : i < dn d
      · have := (h3 (18 + i) (by omega) (h18 i c)).1 (Or.inl (by omega))
        rw [← s4_sQ hn _ (fun s a b => h1 s b a), fac18 hi] at this
        have e : ((rgt d w (18 + i) : Int) : Rat) = 0 := by unfold rgt; rw [if_pos (by omega)]; rfl
        rw [e] at this
        grind
      · rw [h1 i hi (by omega)]
        exact Rat.le_refl
    · have g := h3 b (by omega) hs
      rw [← s4_sQ hn _ (fun s a b => h1 s b a)] at g
      obtain ⟨q1, q2⟩ := bnd_iff d w hb (am (10 * w) x y z)
      exact ⟨fun l => q1.mp (g.1 (Or.inr l)), fun l => q2.mp (g.2 (by rintro (z | z); omega; exact l z))⟩
  · rintro ⟨h1, h2⟩
    refine ⟨fun i hi hd => (h1 i hi).2 hd, fun i _ hf => absurd hf (by show ¬ (0 : Int) ≤ -1; decide), fun b hb hs => ?_⟩
    rw [← s4_sQ hn _ (fun s a b => (h1 s b).2 a)]
    by_cases c : b < 18
    · have g := h2 b c hs
      obtain ⟨q1, q2⟩ := bnd_iff d w c (am (10 * w) x y z)
      exact ⟨fun l => q1.mpr (g.1 (l.resolve_left (by omega))), fun l => q2.mpr (g.2 (fun z => l (Or.inr z)))⟩
    · obtain ⟨s, rfl⟩ : ∃ s, b = 18 + s := ⟨b - 18, by omega⟩
      refine ⟨fun _ => ?_, fun l => absurd (Or.inl (by omega)) l⟩
      rw [fac18 (show s < 4 by omega)]
      have e : ((rgt d w (18 + s) : Int) : Rat) = 0 := by unfold rgt; rw [if_pos (by omega)]; rfl
      rw [e]
      have := (h1 s (by omega)).1
      grind
theorem countAll_ok (hrg : Rg d) {I : SI} (J : SJ) (h : ToR d I) : ∃ I2 : SI, m_R_countAll I J = some (I2, J) ∧ Cts (thR d) I2 ∧ ∀ k, k ≠ 11 → I2 k = I k := by
  have loop : ∀ (t b : Nat), b + t = 22 → ∀ (F : Nat), t < F → ∀ I : SI, ToR d I → (∀ c, c < b → (I 11 c = 1 ∧ thR d c) ∨ (I 11 c = 0 ∧ ¬ thR d c)) → ∃ I2 : SI, g_R_countAll F (nI b) I J = some (I2, J) ∧ Cts (thR d) I2 ∧ ∀ k, k ≠ 11 → I2 k = I k := by
    intro t
    induction t with
    | zero =>
      intro b hb F hF I h hc
      obtain ⟨f, rfl⟩ : ∃ f, F = f + 1 := ⟨F - 1, by omega⟩
      have e : b = 22 := by omega
      subst e
      refine ⟨I, ?_, hc, fun _ _ => rfl⟩
      show b_R_countAll_2 (g_R_countAll f) (nI 22) I J = _
      unfold b_R_countAll_2
      rw [if_pos (show (22 : Int32) ≤ nI 22 by decide)]
    | succ t ih =>
      intro b hb F hF I h hc
      obtain ⟨f, rfl⟩ : ∃ f, F = f + 1 := ⟨F - 1, by omega⟩
      have hb22 : b < 22 := by omega
      have vb : vin (nI b) 22 := vp_in_nI hb22 (by decide)
      have n1 : vp_nar .boolean 1 = 1 := rfl
      have n0 : vp_nar .boolean 0 = 0 := rfl
      have go : ∀ x : Int32, m_R_isThere (nI b) I J = some (x, I, J) → ((x = 1 ∧ thR d b) ∨ (x = 0 ∧ ¬ thR d b)) → ∃ I2 : SI, g_R_countAll (f + 1) (nI b) I J = some (I2, J) ∧ Cts (thR d) I2 ∧ ∀ k, k ≠ 11 → I2 k = I k := fun x hx hc2 => by
        obtain ⟨I1, e1⟩ : ∃ z : SI, z = va_up I 11 (upd (I 11) b x) := ⟨_, rfl⟩
        have k1 : ∀ k, k ≠ 11 → I1 k = I k := fun k hk => by rw [e1, va_up_ne _ _ hk]
        obtain ⟨I2, g1, g2, g3⟩ := ih (b + 1) (by omega) f (by omega) I1 (ToR_of h (by rw [k1 0 (by decide)]) (fun k _ _ => k1 k (by omega))) (fun c hc' => by
          rw [e1, va_up_self]
          unfold upd
          by_cases e : c = b
          · rw [if_pos e, e]; exact hc2
          · rw [if_neg e]; exact hc c (by omega))
        refine ⟨I2, ?_, g2, fun k hk => by rw [g3 k hk, k1 k hk]⟩
        show b_R_countAll_2 (g_R_countAll f) (nI b) I J = _
        unfold b_R_countAll_2
        rw [if_neg (show ¬ (22 : Int32) ≤ nI b from nI_ge (b := 22) hb22 (by decide)), hx]
        have nx : vp_nar .boolean x = x := by rcases hc2 with ⟨rfl, -⟩ | ⟨rfl, -⟩ <;> rfl
        simp only [cl3, gd_of vb, nm, nI_clamp (show b < 2 ^ 31 by omega), nx, nI_1]
        rw [← e1]
        exact g1
      rcases r_there (J := J) hrg h hb22 with ⟨e, ht⟩ | ⟨e, ht⟩
      · exact go 1 e (Or.inl ⟨rfl, ht⟩)
      · exact go 0 e (Or.inr ⟨rfl, ht⟩)
  unfold m_R_countAll b_R_countAll_0
  exact loop 22 0 rfl fuel (by unfold fuel; omega) I h (fun c hc => by omega)
end MX
