/-! Which bounds are just met. -/
section TG
variable {d : Dt} {w : Nat}
/-- a row's value at a mix -/
theorem rowV_rv {A : Nat → Int} {u T : Int} (hs : A 0 + A 1 + A 2 + A 3 = T * u) (hu : 0 < u) {k : Nat} (hk : k < 7) : ((rowV (ptd d) k A : Int) : Rat) = rv d k (am T (qd (A 0) u) (qd (A 1) u) (qd (A 2) u)) * (u : Rat) := by
  rw [lin_ok d T A u hs k hk, ← co_rv]
  have q0 := qd_mul (a := A 0) hu
  have q1 := qd_mul (a := A 1) hu
  have q2 := qd_mul (a := A 2) hu
  show ((slp d k 0 * A 0 + slp d k 1 * A 1 + slp d k 2 * A 2 + ofl d T k * u : Int) : Rat) = (((slp d k 0 : Int) : Rat) * qd (A 0) u + ((slp d k 1 : Int) : Rat) * qd (A 1) u + ((slp d k 2 : Int) : Rat) * qd (A 2) u + ((ofl d T k : Int) : Rat)) * (u : Rat)
  rw [Rat.intCast_add, Rat.intCast_add, Rat.intCast_add, Rat.intCast_mul, Rat.intCast_mul, Rat.intCast_mul, Rat.intCast_mul, ← q0, ← q1, ← q2]
  grind
def TgF (d : Dt) (w : Nat) (x y z : Rat) (b : Nat) : Prop := there d b ∧ rv d (rowB b) (am (10 * w) x y z) = ((lev d w b : Int) : Rat)
theorem tight_ok (hrg : Rg d) {I : SI} {J : SJ} (h : ToF d I) (hW : Wt w I) {A : Nat → Int} {u : Int} (hB : Bs (prd d) J (some (A, u))) (hs : A 0 + A 1 + A 2 + A 3 = 10 * w * u) :
    ∃ x : Int32, m_E_tightBounds I J = some (x, I, J) ∧ Msk x (TgF d w (qd (A 0) u) (qd (A 1) u) (qd (A 2) u)) := by
  obtain ⟨b1, u0, u1, b2, b3⟩ := hB
  have hP : PtI I (ptd d) := PtI_of hrg h
  have loop : ∀ (t b : Nat), b + t = 18 → ∀ (F : Nat), t < F → ∀ x : Int32, Msk x (fun c => c < b ∧ TgF d w (qd (A 0) u) (qd (A 1) u) (qd (A 2) u) c) → ∃ x2 : Int32, g_E_tightBounds F x (nI b) I J = some (x2, I, J) ∧ Msk x2 (TgF d w (qd (A 0) u) (qd (A 1) u) (qd (A 2) u)) := by
    intro t
    induction t with
    | zero =>
      intro b hb F hF x hx
      obtain ⟨f, rfl⟩ : ∃ f, F = f + 1 := ⟨F - 1, by omega⟩
      have e : b = 18 := by omega
      subst e
      refine ⟨x, ?_, Msk_iff hx (fun i hi => ⟨fun z => z.2, fun z => ⟨hi, z⟩⟩)⟩
      show b_E_tightBounds_4 (g_E_tightBounds f) x (nI 18) I J = _
      unfold b_E_tightBounds_4
      rw [if_pos (show (18 : Int32) ≤ nI 18 by decide)]
    | succ t ih =>
      intro b hb F hF x hx
      obtain ⟨f, rfl⟩ : ∃ f, F = f + 1 := ⟨F - 1, by omega⟩
      have hb18 : b < 18 := by omega
      have h18 : ¬ (18 : Int32) ≤ nI b := nI_ge (b := 18) hb18 (by decide)
      have no : ¬ TgF d w (qd (A 0) u) (qd (A 1) u) (qd (A 2) u) b → Msk x (fun c => c < b + 1 ∧ TgF d w (qd (A 0) u) (qd (A 1) u) (qd (A 2) u) c) := fun hn => Msk_iff hx (fun i hi => ⟨fun z => ⟨by omega, z.2⟩, fun z => ⟨by
        by_cases e : i = b
        · subst e; exact absurd z.2 hn
        · omega, z.2⟩⟩)
      show ∃ x2 : Int32, b_E_tightBounds_4 (g_E_tightBounds f) x (nI b) I J = some (x2, I, J) ∧ _
      unfold b_E_tightBounds_4
      rw [if_neg h18]
      rcases isThere_ok (J := J) hrg h hb18 with ⟨e, ht⟩ | ⟨e, ht⟩
      · have lv := lev_le hrg hW.2.2 hb18
        have rl := rowV_le (fun r hr i hi => (hP r hr i hi).2) (fun i hi => (b2 i hi).2) (rowB_lt b hb18)
        have m1 := mulB (p := lev d w b) (M := 16000) (a := u) (B := 384000) (by omega) (by omega) (by omega) (by omega)
        have key : rowV (ptd d) (rowB b) A = lev d w b * u ↔ TgF d w (qd (A 0) u) (qd (A 1) u) (qd (A 2) u) b := by
          unfold TgF
          rw [← Rat.intCast_inj, rowV_rv hs u0 (rowB_lt b hb18), Rat.intCast_mul]
          have up := cpos u0
          constructor
          · intro q
            refine ⟨ht, ?_⟩
            have z : (rv d (rowB b) (am (10 * ↑w) (qd (A 0) u) (qd (A 1) u) (qd (A 2) u)) - ((lev d w b : Int) : Rat)) * (u : Rat) = 0 := by grind
            have := (zero_mul_iff up).mp z
            grind
          · rintro ⟨-, q⟩
            rw [q]
        simp only [e, cl3, one0, if_false, rowOf_ok b hb18, cl1, allOf_ok (J := J) (aa := 35) (by decide) hP (fun i hi => (b2 i hi).1) (rowB_lt b hb18), levelOf_ok (J := J) h hW hb18, nm, b1, i3_i6 (show -2147483648 ≤ lev d w b by omega) (show lev d w b < 2147483648 by omega), i6_mul, nI_1]
        have ce : lg_cmp (i6 (rowV (ptd d) (rowB b) A)) (i6 (lev d w b * u)) = 0 ↔ rowV (ptd d) (rowB b) A = lev d w b * u := cmp_eq (by omega) (by omega) (by omega) (by omega)
        by_cases c : rowV (ptd d) (rowB b) A = lev d w b * u
        · rw [if_pos (ce.mpr c)]
          refine ih (b + 1) (by omega) f (by omega) _ (Msk_iff (Msk_or hx hb18) (fun i hi => ?_))
          constructor
          · rintro (z | z)
            · exact ⟨by omega, z.2⟩
            · subst z; exact ⟨by omega, key.mp c⟩
          · rintro ⟨z1, z2⟩
            by_cases e : i = b
            · exact Or.inr e
            · exact Or.inl ⟨by omega, z2⟩
        · rw [if_neg (fun z => c (ce.mp z))]
          exact ih (b + 1) (by omega) f (by omega) x (no (fun z => c (key.mpr z)))
      · simp only [e, cl3, if_true, nm, nI_1]
        exact ih (b + 1) (by omega) f (by omega) x (no (fun z => ht z.1))
  obtain ⟨x, g1, g2⟩ := loop 18 0 rfl fuel (by decide) 0 (Msk_iff Msk_0 (fun i hi => ⟨False.elim, fun z => absurd z.1 (by omega)⟩))
  exact ⟨x, g1, g2⟩
end TG
