/-! A run: both sides alike. -/
theorem rho35 (k : Nat) : rho 35 k = k := by unfold rho; split <;> omega
theorem sI35 (I : SI) : sI 35 I = I := by funext k; show I (rho 35 k) = I k; rw [rho35]
theorem sJ35 (J : SJ) : sJ 35 J = J := by funext k; show J (rho 35 k) = J k; rw [rho35]
theorem mrg_lt {α : Type} {b : Nat} {f g : Nat → α} {k : Nat} (h : k < 35) : mrg b f g k = g k := by unfold mrg; rw [if_pos h]
theorem mrg_b {α : Type} {b : Nat} {f g : Nat → α} (h : 35 ≤ b) : mrg b f g b = g 35 := by unfold mrg; rw [if_neg (by omega), if_pos rfl]
theorem mrg_c {α : Type} {b : Nat} {f g : Nat → α} (h : 35 ≤ b) : mrg b f g (b + 1) = g 36 := by unfold mrg; rw [if_neg (by omega), if_neg (by omega), if_pos rfl]
theorem mrg_o {α : Type} {b : Nat} {f g : Nat → α} {k : Nat} (h : 35 ≤ k) (h1 : k ≠ b) (h2 : k ≠ b + 1) : mrg b f g k = f k := by unfold mrg; rw [if_neg (by omega), if_neg h1, if_neg h2]
section RU
variable {d : Dt} {w : Nat}
theorem at_am {A : Nat → Int} {u T : Int} (u0 : 0 < u) (hs : A 0 + A 1 + A 2 + A 3 = T * u) : ∀ s, s < 4 → am T (qd (A 0) u) (qd (A 1) u) (qd (A 2) u) s = qd (A s) u := by
  intro s h4
  match s, h4 with
  | 0, _ => rfl
  | 1, _ => rfl
  | 2, _ => rfl
  | 3, _ =>
    show (T : Rat) - qd (A 0) u - qd (A 1) u - qd (A 2) u = qd (A 3) u
    have q0 := qd_mul (a := A 0) u0
    have q1 := qd_mul (a := A 1) u0
    have q2 := qd_mul (a := A 2) u0
    have q3 := qd_mul (a := A 3) u0
    have e : (A 0 : Rat) + (A 1 : Rat) + (A 2 : Rat) + (A 3 : Rat) = (T : Rat) * (u : Rat) := by
      rw [← Rat.intCast_add, ← Rat.intCast_add, ← Rat.intCast_add, ← Rat.intCast_mul, hs]
    have z : ((T : Rat) - qd (A 0) u - qd (A 1) u - qd (A 2) u - qd (A 3) u) * (u : Rat) = 0 := by grind
    have := (zero_mul_iff (cpos u0)).mp z
    grind
theorem qd_nn {a u : Int} (u0 : 0 < u) (h : 0 ≤ qd a u) : 0 ≤ a := by
  have q := qd_mul (a := a) u0
  have := Rat.mul_nonneg h (Rat.le_of_lt (cpos u0))
  rw [q] at this
  exact Rat.intCast_nonneg.mp this
/-- the class's best mix -/
def BsF (d : Dt) (w : Nat) (J : SJ) (A : Nat → Int) (u : Int) : Prop := Bs (prd d) J (some (A, u)) ∧ A 0 + A 1 + A 2 + A 3 = 10 * w * u ∧ Gd d w (qd (A 0) u) (qd (A 1) u) (qd (A 2) u) ∧ ∀ x y z, Gd d w x y z → kle (wv (prd d)) (qd (A 0) u) (qd (A 1) u) (qd (A 2) u) x y z
/-- the reference's best mix -/
def BsR (d : Dt) (w : Nat) (J : SJ) (B : Nat → Int) (v : Int) : Prop := Bst d w J B v ∧ Gd d w (qd (10 * B 0) v) (qd (10 * B 1) v) (qd (10 * B 2) v) ∧ ∀ x y z, Gd d w x y z → kle (wv (prd d)) (qd (10 * B 0) v) (qd (10 * B 1) v) (qd (10 * B 2) v) x y z
theorem BsF_nn {J : SJ} {A : Nat → Int} {u : Int} (h : BsF d w J A u) : ∀ i, i < 4 → 0 ≤ A i := fun i hi => by
  have g := (h.2.2.1.1.1 i hi).1
  rw [at_am h.1.2.1 h.2.1 i hi] at g
  exact qd_nn h.1.2.1 g
theorem BsR_nn {J : SJ} {B : Nat → Int} {v : Int} (h : BsR d w J B v) : ∀ i, i < 4 → 0 ≤ B i := fun i hi => by
  have g := (h.2.1.1.1 i hi).1
  rw [pt_am h.1.1 h.1.2.2.2.2.2.2 i hi] at g
  have := qd_nn h.1.1 g
  omega
theorem best_eq {J J2 : SJ} {A B : Nat → Int} {u v : Int} (h : BsF d w J A u) (h2 : BsR d w J2 B v) : (∀ i, i < 4 → A i * v = 10 * B i * u) ∧ (qd (A 0) u = qd (10 * B 0) v ∧ qd (A 1) u = qd (10 * B 1) v ∧ qd (A 2) u = qd (10 * B 2) v) := by
  have u0 := h.1.2.1
  have v0 := h2.1.1
  have e := kle_anti (h.2.2.2 _ _ _ h2.2.1) (h2.2.2 _ _ _ h.2.2.1)
  refine ⟨fun i hi => ?_, e⟩
  have a1 := at_am u0 h.2.1 i hi
  have a2 := pt_am v0 h2.1.2.2.2.2.2.2 i hi
  rw [e.1, e.2.1, e.2.2, a2] at a1
  have := (cr_eq (a := A i) (b := 10 * B i) u0 v0).mpr (by rw [a1]; grind)
  exact this
theorem frac_gen {a b p v : Int} (a0 : 0 ≤ a) (a1 : a < 4611686018427387904) (b0 : 0 < b) (b1 : b < 35184372088832) (p0 : 0 ≤ p) (v0 : 0 < v) (h : a * v = p * b) : Frac (i6 a) (i6 b) (i6 ((p.toNat / Nat.gcd p.toNat v.toNat : Nat) : Int)) (i6 ((v.toNat / Nat.gcd p.toNat v.toNat : Nat) : Int)) := by
  have ea : ((a.toNat : Nat) : Int) = a := Int.toNat_of_nonneg a0
  have eb : ((b.toNat : Nat) : Int) = b := Int.toNat_of_nonneg (by omega)
  have ep : ((p.toNat : Nat) : Int) = p := Int.toNat_of_nonneg p0
  have ev : ((v.toNat : Nat) : Int) = v := Int.toNat_of_nonneg (by omega)
  have hN : a.toNat * v.toNat = p.toNat * b.toNat := by
    apply Int.ofNat.inj
    show ((a.toNat * v.toNat : Nat) : Int) = ((p.toNat * b.toNat : Nat) : Int)
    rw [Int.natCast_mul, Int.natCast_mul, ea, eb, ep, ev, h]
  obtain ⟨l1, l2⟩ := low_terms (show 0 < b.toNat by omega) (show 0 < v.toNat by omega) hN
  have g := part_ok (a := a.toNat) (b := b.toNat) (by omega) (by omega) (by omega)
  rw [ea, eb, l1, l2] at g
  exact g
theorem sum4_eq {A B : Nat → Int} {u v : Int} (h : ∀ i, i < 4 → A i * v = 10 * B i * u) (pr : Nat → Int) : sum4 pr A * v = sum4 pr B * (10 * u) := by
  have e0 := h 0 (by omega); have e1 := h 1 (by omega); have e2 := h 2 (by omega); have e3 := h 3 (by omega)
  unfold sum4
  have t : ∀ i, A i * v = 10 * B i * u → pr i * A i * v = pr i * B i * (10 * u) := fun i e => by
    rw [Int.mul_assoc, e]
    grind
  have t0 := t 0 e0; have t1 := t 1 e1; have t2 := t 2 e2; have t3 := t 3 e3
  rw [Int.add_mul, Int.add_mul, Int.add_mul, Int.add_mul, Int.add_mul, Int.add_mul, t0, t1, t2, t3]
theorem sum4_nn (hrg : Rg d) {A : Nat → Int} (hA : ∀ i, i < 4 → 0 ≤ A i) : 0 ≤ sum4 (prd d) A := by
  have q : ∀ i, i < 4 → 0 ≤ prd d i * A i := fun i hi => Int.mul_nonneg (by unfold prd; omega) (hA i hi)
  have q0 := q 0 (by omega); have q1 := q 1 (by omega); have q2 := q 2 (by omega); have q3 := q 3 (by omega)
  unfold sum4
  omega
theorem i6_10 : (10 : Int64) = i6 10 := by decide
/-- the bounds still there when b were tried, with those that always are -/
def SqR (d : Dt) (w b c : Nat) : Prop := (c < 18 → Sq d w b c) ∧ (18 ≤ c → thR d c)
theorem clashR (hrg : Rg d) (hw : w ≤ 40) : ∀ (t b : Nat), b + t = 18 → ∀ (F : Nat), t < F → ∀ (I : SI) (J : SJ), ToR d I → Cts (SqR d w b) I → Msk (I 0 17) (fun c => c < b ∧ Sq d w b c) →
    ∃ (I2 : SI) (J2 : SJ), g_R_run F (nI w) (nI b) I J = some (1, I2, J2) ∧ Msk (I2 0 17) (Sq d w 18) ∧ (∀ k, 1 ≤ k → k ≤ 8 → I2 k = I k) ∧ ∀ j, j ≠ 17 → j ≠ 23 → j ≠ 28 → I2 0 j = I 0 j := by
  intro t
  induction t with
  | zero =>
    intro b hb F hF I J h hC hM
    obtain ⟨f, rfl⟩ : ∃ f, F = f + 1 := ⟨F - 1, by omega⟩
    have e : b = 18 := by omega
    subst e
    refine ⟨I, J, ?_, Msk_iff hM (fun i hi => ⟨fun z => z.2, fun z => ⟨hi, z⟩⟩), fun _ _ _ => rfl, fun _ _ _ _ => rfl⟩
    show b_R_run_56 (g_R_run f) (nI w) (nI 18) I J = _
    unfold b_R_run_56
    rw [if_pos (show (18 : Int32) ≤ nI 18 by decide)]
  | succ t ih =>
    intro b hb F hF I J h hC hM
    obtain ⟨f, rfl⟩ : ∃ f, F = f + 1 := ⟨F - 1, by omega⟩
    have hb18 : b < 18 := by omega
    have h18 : ¬ (18 : Int32) ≤ nI b := nI_ge (b := 18) hb18 (by decide)
    have vb : vin (nI b) 22 := vp_in_nI (by omega) (by decide)
    have kb : (nI b).toNatClampNeg = b := nI_clamp (Nat.lt_trans hb18 (by decide))
    have st : g_R_run (f + 1) (nI w) (nI b) I J = b_R_run_56 (g_R_run f) (nI w) (nI b) I J := rfl
    unfold b_R_run_56 at st
    rw [if_neg h18, gd_of vb] at st
    simp only [nm, kb, nI_1] at st
    rcases cts_or hC (show b < 22 by omega) with ⟨e, hs⟩ | ⟨e, hs⟩
    · have hsb : Sq d w b b := hs.1 hb18
      obtain ⟨I7, e7⟩ : ∃ z : SI, z = va_up I 11 (upd (I 11) b 0) := ⟨_, rfl⟩
      have k7 : ∀ k, k ≠ 11 → I7 k = I k := fun k hk => by rw [e7, va_up_ne _ _ hk]
      have T7 : ToR d I7 := ToR_of h (by rw [k7 0 (by decide)]) (fun k a _ => k7 k (by omega))
      have C7 : Cts (fun c => SqR d w b c ∧ c ≠ b) I7 := fun c hc => by
        rw [e7, va_up_self]
        unfold upd
        by_cases q : c = b
        · rw [if_pos q]; exact Or.inr ⟨rfl, fun z => z.2 q⟩
        · rw [if_neg q]
          rcases hC c hc with ⟨z1, z2⟩ | ⟨z1, z2⟩
          · exact Or.inl ⟨z1, z2, q⟩
          · exact Or.inr ⟨z1, fun z => z2 z.1⟩
      obtain ⟨x, I9, J9, g1, g2, g3, g4⟩ := isPossible_ok hrg hw J T7 C7 (fun s hs => ⟨⟨fun z => by omega, fun _ => th18 d s hs⟩, by omega⟩)
      have kp : ∀ x y z, Kp d w (fun c => SqR d w b c ∧ c ≠ b) x y z ↔ Kp d w (fun c => Sq d w b c ∧ c ≠ b) x y z := fun x y z => ⟨fun q => Kp_congr q (fun c c1 c2 => ⟨⟨fun _ => c2.1, fun z => by omega⟩, c2.2⟩), fun q => Kp_congr q (fun c c1 c2 => ⟨c2.1.1 c1, c2.2⟩)⟩
      rw [if_neg e, gd_of vb] at st
      have n0 : vp_nar .boolean 0 = 0 := rfl
      have n1 : vp_nar .boolean 1 = 1 := rfl
      simp only [n0] at st
      rw [← e7, g1] at st
      simp only [cl3] at st
      rcases g4 with ⟨rfl, px, py, pz, hp⟩ | ⟨rfl, hp⟩
      · rw [if_neg (show ¬ (1 : Int32) = 0 by decide), gd_of vb] at st
        simp only [n1] at st
        obtain ⟨I15, e15⟩ : ∃ z : SI, z = va_up I9 11 (upd (I9 11) b 1) := ⟨_, rfl⟩
        obtain ⟨I18, e18⟩ : ∃ z : SI, z = va_up I15 0 (upd (I15 0) 17 (I15 0 17 ||| (1 : Int32) <<< (nI b &&& 31))) := ⟨_, rfl⟩
        rw [← e15, ← e18] at st
        have k9 : ∀ k, 1 ≤ k → k ≤ 8 → I9 k = I k := fun k a c => by rw [g2.1 k (by omega) (by omega) (by omega) (by omega), k7 k (by omega)]
        have j9 : ∀ j, j ≠ 23 → j ≠ 28 → I9 0 j = I 0 j := fun j a c => by rw [g2.2 j a c, k7 0 (by decide)]
        have j18 : ∀ j, j ≠ 17 → I18 0 j = I9 0 j := fun j hj => by rw [e18, va_up_self]; unfold upd; rw [if_neg hj, e15, va_up_ne _ _ (by decide)]
        have m18 : I18 0 17 = I 0 17 ||| (1 : Int32) <<< (nI b &&& 31) := by
          rw [e18, va_up_self]; unfold upd; rw [if_pos rfl, e15, va_up_ne _ _ (by decide), j9 17 (by decide) (by decide)]
        have k18 : ∀ k, k ≠ 0 → I18 k = I15 k := fun k hk => by rw [e18, va_up_ne _ _ hk]
        have k18' : ∀ k, 1 ≤ k → k ≤ 8 → I18 k = I k := fun k a c => by rw [k18 k (by omega), e15, va_up_ne _ _ (by omega), k9 k a c]
        have hp' := (kp px py pz).mp hp
        obtain ⟨I2, J2, q1, q2, q3, q4⟩ := ih (b + 1) (by omega) f (by omega) I18 J9 (ToR_of h (by rw [j18 0 (by decide), j9 0 (by decide) (by decide)]) k18') (fun c hc => by
            rw [k18 11 (by decide), e15, va_up_self]
            unfold upd
            by_cases q : c = b
            · rw [if_pos q, q]
              exact Or.inl ⟨rfl, fun _ => ⟨hsb, fun _ => ⟨px, py, pz, hp'⟩⟩, fun z => by omega⟩
            · rw [if_neg q, g2.1 11 (by decide) (by decide) (by decide) (by decide)]
              rcases C7 c hc with ⟨z1, z2⟩ | ⟨z1, z2⟩
              · exact Or.inl ⟨z1, fun c18 => ⟨z2.1.1 c18, fun z => absurd z q⟩, z2.1.2⟩
              · exact Or.inr ⟨z1, fun z => z2 ⟨⟨fun c18 => (z.1 c18).1, z.2⟩, q⟩⟩) (by
            rw [m18]
            refine Msk_iff (Msk_or hM hb18) (fun i hi => ?_)
            constructor
            · rintro (z | z)
              · exact ⟨by omega, z.2, fun q => by omega⟩
              · subst z; exact ⟨by omega, hsb, fun _ => ⟨px, py, pz, hp'⟩⟩
            · rintro ⟨z1, z2, -⟩
              by_cases q : i = b
              · exact Or.inr q
              · exact Or.inl ⟨by omega, z2⟩)
        exact ⟨I2, J2, by rw [st]; exact q1, q2, fun k a c => by rw [q3 k a c, k18' k a c], fun j a c e => by rw [q4 j a c e, j18 j a, j9 j c e]⟩
      · rw [if_pos rfl] at st
        have hz : ∀ x y z, ¬ Kp d w (fun c => Sq d w b c ∧ c ≠ b) x y z := fun x y z q => hp x y z ((kp x y z).mpr q)
        obtain ⟨I2, J2, q1, q2, q3, q4⟩ := ih (b + 1) (by omega) f (by omega) I9 J9 (ToR_P T7 g2) (fun c hc => by
            rw [g2.1 11 (by decide) (by decide) (by decide) (by decide)]
            rcases C7 c hc with ⟨z1, z2⟩ | ⟨z1, z2⟩
            · exact Or.inl ⟨z1, fun c18 => ⟨z2.1.1 c18, fun z => absurd z z2.2⟩, z2.1.2⟩
            · refine Or.inr ⟨z1, fun z => z2 ⟨⟨fun c18 => (z.1 c18).1, z.2⟩, fun q => ?_⟩⟩
              obtain ⟨x, y, z', hk⟩ := (z.1 (by omega)).2 q
              exact hz x y z' hk) (Msk_iff (by rw [g2.2 17 (by decide) (by decide), k7 0 (by decide)]; exact hM) (fun i hi => by
            constructor
            · intro z; exact ⟨by omega, z.2, fun q => by omega⟩
            · rintro ⟨z1, z2, z3⟩
              refine ⟨?_, z2⟩
              by_cases q : i = b
              · obtain ⟨x, y, z', hk⟩ := z3 q
                exact absurd hk (hz x y z')
              · omega))
        exact ⟨I2, J2, by rw [st]; exact q1, q2, fun k a c => by rw [q3 k a c, g2.1 k (by omega) (by omega) (by omega) (by omega), k7 k (by omega)], fun j a c e => by rw [q4 j a c e, g2.2 j c e, k7 0 (by decide)]⟩
    · rw [if_pos e] at st
      have hsb : ¬ Sq d w b b := fun z => hs ⟨fun _ => z, fun z => by omega⟩
      obtain ⟨I2, J2, q1, q2⟩ := ih (b + 1) (by omega) f (by omega) I J h (fun c hc => by
          rcases hC c hc with ⟨z1, z2⟩ | ⟨z1, z2⟩
          · exact Or.inl ⟨z1, fun c18 => ⟨z2.1 c18, fun z => by subst z; exact absurd (z2.1 c18) hsb⟩, z2.2⟩
          · exact Or.inr ⟨z1, fun z => z2 ⟨fun c18 => (z.1 c18).1, z.2⟩⟩) (Msk_iff hM (fun i hi => by
          constructor
          · intro z; exact ⟨by omega, z.2, fun q => by omega⟩
          · rintro ⟨z1, z2, z3⟩
            refine ⟨?_, z2⟩
            by_cases q : i = b
            · subst q; exact absurd z2 hsb
            · omega))
      exact ⟨I2, J2, by rw [st]; exact q1, q2⟩
end RU
