/-! One corner: where three planes meet, by Cramer's rule. -/
theorem setCross_ok {I : SI} {J : SJ} {a b ra rb : Nat} (ha : a < 14) (hb : b < 14) (hra : ra < 7) (hrb : rb < 7) (ea : I 29 a = nI ra) (eb : I 29 b = nI rb) {p q : Nat → Int} (hp : row3 I (22 + ra) p) (hq : row3 I (22 + rb) q) :
    ∃ J2 : SJ, m_K_setCrossOf (nI a) (nI b) I J = some (I, J2) ∧ (∀ s, s < 3 → J2 31 s = i6 (crs p q s)) ∧ ∀ k, k ≠ 31 → J2 k = J k := by
  have va : vin (nI a) 14 := vp_in_nI ha (by decide)
  have vb : vin (nI b) 14 := vp_in_nI hb (by decide)
  have vra : vin (nI ra) 7 := vp_in_nI hra (by decide)
  have vrb : vin (nI rb) 7 := vp_in_nI hrb (by decide)
  have loop : ∀ (t s : Nat), s + t = 3 → ∀ (F : Nat), t < F → ∀ J : SJ, (∀ k, k < s → J 31 k = i6 (crs p q k)) → ∃ J2 : SJ, g_K_setCrossOf F (nI a) (nI b) (nI s) I J = some (I, J2) ∧ (∀ k, k < 3 → J2 31 k = i6 (crs p q k)) ∧ ∀ k, k ≠ 31 → J2 k = J k := by
    intro t
    induction t with
    | zero =>
      intro s hs F hF J hJ
      obtain ⟨f, rfl⟩ : ∃ f, F = f + 1 := ⟨F - 1, by omega⟩
      have e : s = 3 := by omega
      subst e
      exact ⟨J, rfl, hJ, fun _ _ => rfl⟩
    | succ t ih =>
      intro s hs F hF J hJ
      obtain ⟨f, rfl⟩ : ∃ f, F = f + 1 := ⟨F - 1, by omega⟩
      have h3 : ¬ (3 : Int32) ≤ nI s := nI_ge (b := 3) (by omega) (by decide)
      have vs : vin (nI s) 3 := vp_in_nI (by omega) (by decide)
      simp only [g_K_setCrossOf, b_K_setCrossOf_2, nm, h3, if_false, gd_of va, gd_of vb, nI_clamp (show a < 2 ^ 31 by omega), nI_clamp (show b < 2 ^ 31 by omega), ea, eb, gd_of vra, gd_of vrb, nI_clamp (show ra < 2 ^ 31 by omega), nI_clamp (show rb < 2 ^ 31 by omega), cross_ok hra hrb hp hq (show s < 3 by omega), cl3, gd_of vs, nI_clamp (show s < 2 ^ 31 by omega), nI_1]
      obtain ⟨J2, g1, g2, g3⟩ := ih (s + 1) (by omega) f (by omega) (va_up J 31 (vp_updL (J 31) s (i6 (crs p q s)))) (fun k hk => by
        rw [va_up_self]
        unfold vp_updL
        split
        · next e => rw [e]
        · exact hJ k (by omega))
      exact ⟨J2, g1, g2, fun k hk => by rw [g3 k hk, va_up_ne _ _ hk]⟩
  simp only [m_K_setCrossOf, b_K_setCrossOf_0]
  exact loop 3 0 rfl fuel (by decide) J (fun k hk => absurd hk (by omega))
section CRN
variable {I : SI} {pt : Nat → Nat → Int} {lo hi : Nat → Int} {A : Nat → Int} {u : Int}
/-- the corner A over u keeps row k's limits -/
def InL (pt : Nat → Nat → Int) (lo hi A : Nat → Int) (u : Int) (k : Nat) : Prop := lo k * u ≤ rowV pt k A ∧ rowV pt k A ≤ hi k * u
def LimI (I : SI) (lo hi : Nat → Int) : Prop := ∀ r, r < 7 → I 13 r = i3 (lo r) ∧ I 14 r = i3 (hi r) ∧ 0 ≤ lo r ∧ lo r ≤ 16000 ∧ 0 ≤ hi r ∧ hi r ≤ 16000
def PtI (I : SI) (pt : Nat → Nat → Int) : Prop := ∀ r, r < 3 → ∀ i, i < 4 → I (7 + r) i = i3 (pt r i) ∧ 0 ≤ pt r i ∧ pt r i ≤ 40
theorem mulB {p a B M : Int} (h1 : 0 ≤ p) (h2 : p ≤ M) (h3 : -B ≤ a) (h4 : a ≤ B) : -(M * B) ≤ p * a ∧ p * a ≤ M * B := by
  have e1 : 0 ≤ p * (B - a) := Int.mul_nonneg h1 (by omega)
  have e2 : 0 ≤ p * (B + a) := Int.mul_nonneg h1 (by omega)
  have e3 : 0 ≤ (M - p) * B := Int.mul_nonneg (by omega) (by omega)
  constructor <;> grind
theorem rowV_le {pt : Nat → Nat → Int} (hp : ∀ r, r < 3 → ∀ i, i < 4 → 0 ≤ pt r i ∧ pt r i ≤ 40) {A : Nat → Int} (hA : ∀ i, i < 4 → -1000000000 ≤ A i ∧ A i ≤ 1000000000) {k : Nat} (hk : k < 7) : -1000000000000 ≤ rowV pt k A ∧ rowV pt k A ≤ 1000000000000 := by
  unfold rowV
  split
  · next h => have := hA k h; omega
  · have m : ∀ i, i < 4 → -(40 * 1000000000) ≤ pt (k - 4) i * A i ∧ pt (k - 4) i * A i ≤ 40 * 1000000000 := fun i hi => mulB (hp (k - 4) (by omega) i hi).1 (hp (k - 4) (by omega) i hi).2 (hA i hi).1 (hA i hi).2
    have := m 0 (by decide)
    have := m 1 (by decide)
    have := m 2 (by decide)
    have := m 3 (by decide)
    unfold sum4
    omega
theorem corner269 (hL : LimI I lo hi) (hP : PtI I pt) (u0 : 0 ≤ u) (u1 : u ≤ 1000000) (hA : ∀ i, i < 4 → -1000000000 ≤ A i ∧ A i ≤ 1000000000) {J : SJ} (hJ : ∀ i, i < 4 → J 33 i = i6 (A i)) (hu : J 32 2 = i6 u) :
    ∀ (t r : Nat), r + t = 7 → ∀ (F : Nat), t < F → ∃ x : Int32, (g_K_isCorner F).2.2 (nI r) I J = some (x, I, J) ∧ ((x = 1 ∧ ∀ k, r ≤ k → k < 7 → InL pt lo hi A u k) ∨ (x = 0 ∧ ∃ k, r ≤ k ∧ k < 7 ∧ ¬ InL pt lo hi A u k)) := by
  intro t
  induction t with
  | zero =>
    intro r hr F hF
    obtain ⟨f, rfl⟩ : ∃ f, F = f + 1 := ⟨F - 1, by omega⟩
    have e : r = 7 := by omega
    subst e
    exact ⟨1, rfl, Or.inl ⟨rfl, fun k h1 h2 => by omega⟩⟩
  | succ t ih =>
    intro r hr F hF
    obtain ⟨f, rfl⟩ : ∃ f, F = f + 1 := ⟨F - 1, by omega⟩
    have h7 : ¬ (7 : Int32) ≤ nI r := nI_ge (b := 7) (by omega) (by decide)
    have l := hL r (by omega)
    have b := rowV_le (fun r hr i hi => (hP r hr i hi).2) hA (show r < 7 by omega)
    have e1 := allOf_ok (J := J) (aa := 32) (by decide) hP hJ (show r < 7 by omega)
    have e2 := allow_ok (J := J) (show r < 7 by omega) l.1 l.2.1 l.2.2.1 l.2.2.2.1 l.2.2.2.2.1 l.2.2.2.2.2 u0 u1 b.1 b.2
    simp only [g_K_isCorner, b_K_isCorner_269, h7, if_false, e1, cl3, hu, e2, nm, nI_1]
    by_cases c : lo r * u ≤ rowV pt r A ∧ rowV pt r A ≤ hi r * u
    · simp only [c, and_self, if_true, one0, if_false]
      obtain ⟨x, g1, g2⟩ := ih (r + 1) (by omega) f (by omega)
      refine ⟨x, g1, ?_⟩
      rcases g2 with ⟨g3, g4⟩ | ⟨g3, k, k1, k2, k3⟩
      · refine Or.inl ⟨g3, fun k h1 h2 => ?_⟩
        by_cases e : k = r
        · subst e; exact c
        · exact g4 k (by omega) h2
      · exact Or.inr ⟨g3, k, by omega, k2, k3⟩
    · simp only [c, if_false, if_true]
      exact ⟨0, rfl, Or.inr ⟨rfl, r, Nat.le_refl r, by omega, c⟩⟩
end CRN
