/-! The better of two mixes. -/
def sc (a b : Int) : Int32 := if a < b then -1 else if a = b then 0 else 1
theorem compare_ok {a b : Int} (h1 : -9223372036854775808 ≤ a) (h2 : a < 9223372036854775808) (h3 : -9223372036854775808 ≤ b) (h4 : b < 9223372036854775808) : m_JL_compare (i6 a) (i6 b) = some (sc a b) := by
  simp only [m_JL_compare, b_JL_compare_0, nm, cmp_ge h1 h2 h3 h4, cmp_eq h1 h2 h3 h4, sc]
  by_cases c : a < b
  · rw [if_neg (by omega), if_pos c]
  · rw [if_pos (by omega), if_neg c]
    by_cases e : a = b
    · rw [if_pos e, if_pos e]
    · rw [if_neg e, if_neg e]
theorem sc_0 (a b : Int) : sc a b = 0 ↔ a = b := by
  unfold sc
  by_cases c : a < b
  · rw [if_pos c]; exact ⟨fun h => absurd h (by decide), fun h => by omega⟩
  · rw [if_neg c]
    by_cases e : a = b
    · rw [if_pos e]; exact ⟨fun _ => e, fun _ => rfl⟩
    · rw [if_neg e]; exact ⟨fun h => absurd h (by decide), fun h => absurd h e⟩
theorem sc_ge (a b : Int) : 0 ≤ sc a b ↔ b ≤ a := by
  unfold sc
  by_cases c : a < b
  · rw [if_pos c]; exact ⟨fun h => absurd h (by decide), fun h => by omega⟩
  · rw [if_neg c]
    by_cases e : a = b
    · rw [if_pos e]; exact ⟨fun _ => by omega, fun _ => by decide⟩
    · rw [if_neg e]; exact ⟨fun _ => by omega, fun _ => by decide⟩
/-- the first of the rows from s on, t of them, that differ, differ so -/
def lx (a b : Nat → Int) : Nat → Nat → Prop
  | _, 0 => False
  | s, t + 1 => a s < b s ∨ (a s = b s ∧ lx a b (s + 1) t)
section OFF
variable {I : SI} {J : SJ} {A B : Nat → Int} {u v : Int}
theorem better_loop (hA : ∀ i, i < 4 → J 33 i = i6 (A i) ∧ -1000000000 ≤ A i ∧ A i ≤ 1000000000) (hB : ∀ i, i < 4 → J 36 i = i6 (B i) ∧ -1000000000 ≤ B i ∧ B i ≤ 1000000000) (hu : J 32 2 = i6 u) (hv : J 35 2 = i6 v) (u0 : 0 < u) (u1 : u ≤ 384000) (v0 : 0 < v) (v1 : v ≤ 384000) :
    ∀ (t s : Nat), s + t = 4 → ∀ (F : Nat), t < F → ∀ (a b : Int), ∃ x : Int32, g_X_isBetterThan F (sc a b) (nI s) I J = some (x, I, J) ∧ ((x = 1 ∧ (a < b ∨ (a = b ∧ lx (fun i => A i * v) (fun i => B i * u) s t))) ∨ (x = 0 ∧ ¬ (a < b ∨ (a = b ∧ lx (fun i => A i * v) (fun i => B i * u) s t)))) := by
  intro t
  induction t with
  | zero =>
    intro s hs F hF a b
    obtain ⟨f, rfl⟩ : ∃ f, F = f + 1 := ⟨F - 1, by omega⟩
    have e : s = 4 := by omega
    subst e
    have h4 : (4 : Int32) ≤ nI 4 := by decide
    simp only [g_X_isBetterThan, b_X_isBetterThan_35, h4, if_true, sc_ge, lx, and_false, or_false]
    by_cases c : b ≤ a
    · rw [if_pos c]
      exact ⟨0, rfl, Or.inr ⟨rfl, by omega⟩⟩
    · rw [if_neg c]
      exact ⟨1, rfl, Or.inl ⟨rfl, by omega⟩⟩
  | succ t ih =>
    intro s hs F hF a b
    obtain ⟨f, rfl⟩ : ∃ f, F = f + 1 := ⟨F - 1, by omega⟩
    have h4 : ¬ (4 : Int32) ≤ nI s := nI_ge (b := 4) (by omega) (by decide)
    have vs : vin (nI s) 4 := vp_in_nI (by omega) (by decide)
    have a1 := hA s (by omega)
    have b1 := hB s (by omega)
    have m1 := mulAB a1.2.1 a1.2.2 (b := v) (B := 384000) (by omega) v1
    have m2 := mulAB b1.2.1 b1.2.2 (b := u) (B := 384000) (by omega) u1
    simp only [g_X_isBetterThan, b_X_isBetterThan_35, h4, if_false, nm, gd_of vs, nI_clamp (show s < 2 ^ 31 by omega), a1.1, b1.1, hu, hv, i6_mul, compare_ok (a := A s * v) (b := B s * u) (by omega) (by omega) (by omega) (by omega), cl1, nI_1, sc_0, sc_ge]
    by_cases e : a = b
    · rw [if_pos e]
      obtain ⟨x, g1, g2⟩ := ih (s + 1) (by omega) f (by omega) (A s * v) (B s * u)
      refine ⟨x, g1, ?_⟩
      rcases g2 with ⟨g3, g4⟩ | ⟨g3, g4⟩
      · exact Or.inl ⟨g3, Or.inr ⟨e, g4⟩⟩
      · refine Or.inr ⟨g3, ?_⟩
        rintro (z | ⟨-, z⟩)
        · omega
        · exact g4 z
    · rw [if_neg e]
      by_cases c : b ≤ a
      · rw [if_pos c]
        refine ⟨0, rfl, Or.inr ⟨rfl, ?_⟩⟩
        rintro (z | ⟨z, -⟩) <;> omega
      · rw [if_neg c]
        exact ⟨1, rfl, Or.inl ⟨rfl, Or.inl (by omega)⟩⟩
theorem become_ok (I : SI) (J : SJ) : ∃ J2 : SJ, m_X_become I J = some (I, J2) ∧ (∀ k, k ≠ 35 → k ≠ 36 → J2 k = J k) ∧ (∀ i, i < 4 → J2 36 i = J 33 i) ∧ J2 35 1 = J 32 1 ∧ J2 35 2 = J 32 2 := by
  have loop : ∀ (t s : Nat), s + t = 4 → ∀ (F : Nat), t < F → ∀ J : SJ, (∀ i, i < s → J 36 i = J 33 i) → ∃ J2 : SJ, g_X_become F (nI s) I J = some (I, J2) ∧ (∀ k, k ≠ 35 → k ≠ 36 → J2 k = J k) ∧ (∀ i, i < 4 → J2 36 i = J 33 i) ∧ J2 35 1 = J 32 1 ∧ J2 35 2 = J 32 2 := by
    intro t
    induction t with
    | zero =>
      intro s hs F hF J hJ
      obtain ⟨f, rfl⟩ : ∃ f, F = f + 1 := ⟨F - 1, by omega⟩
      have e : s = 4 := by omega
      subst e
      have h4 : (4 : Int32) ≤ nI 4 := by decide
      simp only [g_X_become, b_X_become_2, h4, if_true, nm]
      exact ⟨_, rfl, fun k h1 h2 => by rw [va_up_ne _ _ h1, va_up_ne _ _ h1], hJ, rfl, rfl⟩
    | succ t ih =>
      intro s hs F hF J hJ
      obtain ⟨f, rfl⟩ : ∃ f, F = f + 1 := ⟨F - 1, by omega⟩
      have h4 : ¬ (4 : Int32) ≤ nI s := nI_ge (b := 4) (by omega) (by decide)
      have vs : vin (nI s) 4 := vp_in_nI (by omega) (by decide)
      simp only [g_X_become, b_X_become_2, h4, if_false, nm, gd_of vs, nI_clamp (show s < 2 ^ 31 by omega), nI_1]
      obtain ⟨J2, g1, g2, g3, g4, g5⟩ := ih (s + 1) (by omega) f (by omega) (va_up J 36 (vp_updL (J 36) s (J 33 s))) (fun i hi => by
        show vp_updL (J 36) s (J 33 s) i = J 33 i
        unfold vp_updL
        split
        · next e => rw [e]
        · exact hJ i (by omega))
      exact ⟨J2, g1, fun k h1 h2 => by rw [g2 k h1 h2, va_up_ne _ _ h2], g3, g4, g5⟩
  exact loop 4 0 rfl fuel (by decide) J (fun i hi => absurd hi (by omega))
end OFF
/-- the best mix so far, in the state -/
def Bs (pr : Nat → Int) (J : SJ) (o : Option ((Nat → Int) × Int)) : Prop := match o with
  | none => J 35 2 = i6 0
  | some (B, v) => J 35 2 = i6 v ∧ 0 < v ∧ v ≤ 384000 ∧ (∀ i, i < 4 → J 36 i = i6 (B i) ∧ -1000000000 ≤ B i ∧ B i ≤ 1000000000) ∧ J 35 1 = i6 (sum4 pr B)
def btr (pr : Nat → Int) (A : Nat → Int) (u : Int) (o : Option ((Nat → Int) × Int)) : Prop := match o with
  | none => True
  | some (B, v) => sum4 pr A * v < sum4 pr B * u ∨ (sum4 pr A * v = sum4 pr B * u ∧ lx (fun i => A i * v) (fun i => B i * u) 0 4)
theorem sum4_le {pr A : Nat → Int} (hp : ∀ i, i < 4 → 0 ≤ pr i ∧ pr i ≤ 1000) (hA : ∀ i, i < 4 → -1000000000 ≤ A i ∧ A i ≤ 1000000000) : -4000000000000 ≤ sum4 pr A ∧ sum4 pr A ≤ 4000000000000 := by
  have m : ∀ i, i < 4 → -(1000 * 1000000000) ≤ pr i * A i ∧ pr i * A i ≤ 1000 * 1000000000 := fun i hi => mulB (hp i hi).1 (hp i hi).2 (hA i hi).1 (hA i hi).2
  have := m 0 (by decide)
  have := m 1 (by decide)
  have := m 2 (by decide)
  have := m 3 (by decide)
  unfold sum4
  omega
theorem offer_ok {I : SI} {J : SJ} {pr A : Nat → Int} {u : Int} {o : Option ((Nat → Int) × Int)} (hp : ∀ i, i < 4 → I 1 i = i3 (pr i) ∧ 0 ≤ pr i ∧ pr i ≤ 1000) (hA : ∀ i, i < 4 → J 33 i = i6 (A i) ∧ -1000000000 ≤ A i ∧ A i ≤ 1000000000) (hu : J 32 2 = i6 u) (u0 : 0 < u) (u1 : u ≤ 384000) (hB : Bs pr J o) :
    ∃ J2 : SJ, m_K_offer I J = some (I, J2) ∧ (∀ k, k ≠ 32 → k ≠ 35 → k ≠ 36 → J2 k = J k) ∧ (J2 32 2 = J 32 2) ∧ ((btr pr A u o ∧ Bs pr J2 (some (A, u))) ∨ (¬ btr pr A u o ∧ Bs pr J2 o)) := by
  have es := sum_ok (J := J) (aa := 32) (bb := 1) (by decide) (by decide) hp (fun i hi => (hA i hi).1)
  have bA := sum4_le (fun i hi => (hp i hi).2) (fun i hi => (hA i hi).2)
  obtain ⟨J5, e5⟩ : ∃ z : SJ, z = va_up J 32 (vp_updL (J 32) 1 (i6 (sum4 pr A))) := ⟨_, rfl⟩
  have f5 : ∀ k, k ≠ 32 → J5 k = J k := fun k hk => by rw [e5, va_up_ne _ _ hk]
  have u5 : J5 32 2 = i6 u := by rw [e5]; exact hu
  have p5 : J5 32 1 = i6 (sum4 pr A) := by rw [e5]; rfl
  obtain ⟨Jb, b1, b2, b3, b4, b5⟩ := become_ok I J5
  have hyes : Bs pr Jb (some (A, u)) := ⟨by rw [b5, u5], u0, u1, fun i hi => ⟨by rw [b3 i hi, f5 33 (by decide)]; exact (hA i hi).1, (hA i hi).2⟩, by rw [b4, p5]⟩
  have c0 : lg_cmp (i6 0) 0 = 0 := by rw [i6_0]; exact (cmp_eq (by omega) (by omega) (by omega) (by omega)).mpr rfl
  simp only [m_K_offer, b_K_offer_0, es, cl3, nm]
  rw [← e5]
  match o, hB with
  | none, hB =>
    have e35 : J5 35 2 = i6 0 := by rw [f5 35 (by decide)]; exact hB
    have eb : m_X_isBetterThan I J5 = some (1, I, J5) := by
      simp only [m_X_isBetterThan, b_X_isBetterThan_0, nm, e35, c0, if_true]
    simp only [eb, one0, if_false, b1, cl2]
    exact ⟨Jb, rfl, fun k h1 h2 h3 => by rw [b2 k h2 h3, f5 k h1], by rw [b2 32 (by decide) (by decide), u5, hu], Or.inl ⟨trivial, hyes⟩⟩
  | some (B, v), hB =>
    obtain ⟨q1, q2, q3, q4, q5⟩ := hB
    have bB := sum4_le (fun i hi => (hp i hi).2) (fun i hi => (q4 i hi).2)
    have m1 := mulAB bA.1 bA.2 (b := v) (B := 384000) (by omega) q3
    have m2 := mulAB bB.1 bB.2 (b := u) (B := 384000) (by omega) u1
    have e35 : J5 35 2 = i6 v := by rw [f5 35 (by decide)]; exact q1
    have e351 : J5 35 1 = i6 (sum4 pr B) := by rw [f5 35 (by decide)]; exact q5
    have c1 : ¬ lg_cmp (i6 v) 0 = 0 := by
      rw [i6_0]
      intro h
      have := (cmp_eq (a := v) (b := 0) (by omega) (by omega) (by omega) (by omega)).mp h
      omega
    obtain ⟨x, g1, g2⟩ := better_loop (I := I) (J := J5) (A := A) (B := B) (fun i hi => by rw [f5 33 (by decide)]; exact hA i hi) (fun i hi => by rw [f5 36 (by decide)]; exact q4 i hi) u5 e35 u0 u1 q2 q3 4 0 rfl fuel (by decide) (sum4 pr A * v) (sum4 pr B * u)
    have eb : m_X_isBetterThan I J5 = some (x, I, J5) := by
      unfold m_X_isBetterThan
      generalize g_X_isBetterThan fuel = G at g1 ⊢
      simp only [b_X_isBetterThan_0, nm, e35, e351, c1, if_false, p5, u5, i6_mul, compare_ok (a := sum4 pr A * v) (b := sum4 pr B * u) (by omega) (by omega) (by omega) (by omega), cl1]
      exact g1
    simp only [eb]
    rcases g2 with ⟨g3, g4⟩ | ⟨g3, g4⟩
    · subst g3
      simp only [one0, if_false, b1, cl2]
      exact ⟨Jb, rfl, fun k h1 h2 h3 => by rw [b2 k h2 h3, f5 k h1], by rw [b2 32 (by decide) (by decide), u5, hu], Or.inl ⟨g4, hyes⟩⟩
    · subst g3
      simp only [if_true]
      exact ⟨J5, rfl, fun k h1 _ _ => f5 k h1, by rw [u5, hu], Or.inr ⟨g4, ⟨e35, q2, q3, fun i hi => by rw [f5 36 (by decide)]; exact q4 i hi, e351⟩⟩⟩
