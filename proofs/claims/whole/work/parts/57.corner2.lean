/-! One corner, the rest of it. -/
def psum (A : Nat → Int) (s : Nat) : Int := if s = 0 then 0 else if s = 1 then A 0 else if s = 2 then A 0 + A 1 else A 0 + A 1 + A 2
theorem psum_s (A : Nat → Int) {s : Nat} (h : s < 3) : psum A (s + 1) = psum A s + A s := by
  match s, h with
  | 0, _ => show A 0 = 0 + A 0; omega
  | 1, _ => rfl
  | 2, _ => rfl
def abv (la lb lc : Int) (p q r : Nat → Int) (s : Nat) : Int := la * crs q r s + lb * crs r p s + lc * crs p q s
def det (p q r : Nat → Int) : Int := crs p q 0 * r 0 + crs p q 1 * r 1 + crs p q 2 * r 2
section CRN2
variable {I : SI} {pt : Nat → Nat → Int} {lo hi : Nat → Int} {A : Nat → Int} {u T sg la lb lc : Int} {a b c ra rb rc : Nat} {p q r : Nat → Int}
theorem corner136 (hL : LimI I lo hi) (hP : PtI I pt) (u0 : 0 ≤ u) (u1 : u ≤ 1000000) (hA : ∀ i, i < 4 → -1000000000 ≤ A i ∧ A i ≤ 1000000000)
    (ha : a < 14) (hb : b < 14) (hc : c < 14) (hra : ra < 7) (hrb : rb < 7) (hrc : rc < 7) (hp : row3 I (22 + ra) p) (hq : row3 I (22 + rb) q) (hr : row3 I (22 + rc) r)
    (ea : I 30 a = i3 la) (eb : I 30 b = i3 lb) (ec : I 30 c = i3 lc) (la1 : -16000 ≤ la ∧ la ≤ 16000) (lb1 : -16000 ≤ lb ∧ lb ≤ 16000) (lc1 : -16000 ≤ lc ∧ lc ≤ 16000) (hs1 : sg = 1 ∨ sg = -1)
    (eA : ∀ s, s < 3 → A s = sg * abv la lb lc p q r s) (eA3 : A 3 = T * u - psum A 3) :
    ∀ (t s : Nat), s + t = 3 → ∀ (F : Nat), t + 5 < F → ∀ J : SJ, (∀ k, k < 3 → J 31 k = i6 (crs p q k)) → J 32 2 = i6 u → (∀ i, i < s → J 33 i = i6 (A i)) →
      ∃ (x : Int32) (J2 : SJ), (g_K_isCorner F).2.1 (nI a) (nI b) (nI c) ra rb rc (i3 sg) (i6 (T * u - psum A s)) (nI s) I J = some (x, I, J2) ∧ (∀ k, k ≠ 33 → J2 k = J k) ∧ ((x = 1 ∧ (∀ k, s ≤ k → k < 7 → InL pt lo hi A u k) ∧ ∀ i, i < 4 → J2 33 i = i6 (A i)) ∨ (x = 0 ∧ ∃ k, s ≤ k ∧ k < 7 ∧ ¬ InL pt lo hi A u k)) := by
  have va : vin (nI a) 14 := vp_in_nI ha (by decide)
  have vb : vin (nI b) 14 := vp_in_nI hb (by decide)
  have vc : vin (nI c) 14 := vp_in_nI hc (by decide)
  have sg6 : (i3 sg).toInt64 = i6 sg := i3_i6 (by omega) (by omega)
  intro t
  induction t with
  | zero =>
    intro s hs F hF J h31 hu hJ
    obtain ⟨f, rfl⟩ : ∃ f, F = f + 1 := ⟨F - 1, by omega⟩
    have e : s = 3 := by omega
    subst e
    have h3 : (3 : Int32) ≤ nI 3 := by decide
    have v3 : vin 3 4 := by decide
    have e3 : Int32.toNatClampNeg 3 = 3 := rfl
    simp only [g_K_isCorner, b_K_isCorner_136, gd_of hra, gd_of hrb, gd_of hrc, h3, if_true, gd_of v3, nm, e3]
    have hJ2 : ∀ i, i < 4 → va_up J 33 (vp_updL (J 33) 3 (i6 (T * u - psum A 3))) 33 i = i6 (A i) := fun i hi => by
      rw [va_up_self]
      unfold vp_updL
      split
      · next e => rw [e, eA3]
      · exact hJ i (by omega)
    have hu2 : va_up J 33 (vp_updL (J 33) 3 (i6 (T * u - psum A 3))) 32 2 = i6 u := hu
    obtain ⟨x, g1, g2⟩ := corner269 hL hP u0 u1 hA hJ2 hu2 4 3 rfl f (by omega)
    refine ⟨x, _, g1, fun k hk => va_up_ne _ _ hk, ?_⟩
    rcases g2 with ⟨g3, g4⟩ | g3
    · exact Or.inl ⟨g3, g4, hJ2⟩
    · exact Or.inr g3
  | succ t ih =>
    intro s hs F hF J h31 hu hJ
    obtain ⟨f, rfl⟩ : ∃ f, F = f + 1 := ⟨F - 1, by omega⟩
    have s3 : s < 3 := by omega
    have h3 : ¬ (3 : Int32) ≤ nI s := nI_ge (b := 3) (by omega) (by decide)
    have vs : vin (nI s) 3 := vp_in_nI s3 (by decide)
    have vs4 : vin (nI s) 4 := vp_in_nI (by omega) (by decide)
    have l := hL s (by omega)
    have bA := hA s (by omega)
    have eAl := allow_ok (J := J) (show s < 7 by omega) l.1 l.2.1 l.2.2.1 l.2.2.2.1 l.2.2.2.2.1 l.2.2.2.2.2 u0 u1 (x := A s) (by omega) (by omega)
    have ev : i6 sg * (i6 la * i6 (crs q r s) + i6 lb * i6 (crs r p s) + i6 lc * i6 (crs p q s)) = i6 (A s) := by
      rw [i6_mul, i6_mul, i6_mul, i6_add, i6_add, i6_mul, eA s s3]
      rfl
    simp only [g_K_isCorner, b_K_isCorner_136, gd_of hra, gd_of hrb, gd_of hrc, h3, if_false, nm, gd_of va, gd_of vb, gd_of vc, nI_clamp (show a < 2 ^ 31 by omega), nI_clamp (show b < 2 ^ 31 by omega), nI_clamp (show c < 2 ^ 31 by omega), ea, eb, ec, i3_i6 (show -2147483648 ≤ la by omega) (by omega), i3_i6 (show -2147483648 ≤ lb by omega) (by omega), i3_i6 (show -2147483648 ≤ lc by omega) (by omega),
      cross_ok hrb hrc hq hr s3, cross_ok hrc hra hr hp s3, cl3, gd_of vs, gd_of vs4, nI_clamp (show s < 2 ^ 31 by omega), h31 s s3, sg6, ev, hu, eAl, nI_1]
    have rv : rowV pt s A = A s := by unfold rowV; rw [if_pos (by omega)]
    by_cases cc : lo s * u ≤ A s ∧ A s ≤ hi s * u
    · simp only [cc, and_self, if_true, one0, if_false]
      have e10 : i6 (T * u - psum A s) - i6 (A s) = i6 (T * u - psum A (s + 1)) := by
        rw [i6_sub, psum_s A s3]
        congr 1
        omega
      rw [e10]
      obtain ⟨x, J2, g1, g2, g3⟩ := ih (s + 1) (by omega) f (by omega) (va_up J 33 (vp_updL (J 33) s (i6 (A s)))) (fun k hk => h31 k hk) hu (fun i hi => by
        rw [va_up_self]
        unfold vp_updL
        split
        · next e => rw [e]
        · exact hJ i (by omega))
      refine ⟨x, J2, g1, fun k hk => by rw [g2 k hk, va_up_ne _ _ hk], ?_⟩
      rcases g3 with ⟨g4, g5, g6⟩ | ⟨g4, k, k1, k2, k3⟩
      · refine Or.inl ⟨g4, fun k h1 h2 => ?_, g6⟩
        by_cases e : k = s
        · subst e; unfold InL; rw [rv]; exact cc
        · exact g5 k (by omega) h2
      · exact Or.inr ⟨g4, k, by omega, k2, k3⟩
    · simp only [cc, if_false, if_true]
      exact ⟨0, J, rfl, fun _ _ => rfl, Or.inr ⟨rfl, s, Nat.le_refl s, by omega, by unfold InL; rw [rv]; exact cc⟩⟩
end CRN2
