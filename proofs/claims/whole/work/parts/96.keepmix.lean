/-! The reference keeps a mix. -/
section KM
variable {d : Dt} {w : Nat}
theorem sum_pt {B : Nat → Int} {v : Int} (hn : dn d ≤ 4) (v0 : 0 < v) (hs : B 0 + B 1 + B 2 + B 3 = (w : Int) * v) (b : Nat) : sQ (fun s => (fac d b s : Rat) * am (10 * w) (qd (10 * B 0) v) (qd (10 * B 1) v) (qd (10 * B 2) v) s) (dn d) * (v : Rat) = 10 * ((sR (fun s => fac d b s * B s) (dn d) : Int) : Rat) := by
  rw [← pt_sum v0 (fac d b) B (dn d)]
  congr 1
  exact sQ_congr (fun s hs' => by rw [pt_am v0 hs s (by omega)])
theorem met_iff {B : Nat → Int} {v : Int} (hn : dn d ≤ 4) (v0 : 0 < v) (hs : B 0 + B 1 + B 2 + B 3 = (w : Int) * v) (h0 : ∀ s, dn d ≤ s → s < 4 → B s = 0) {b : Nat} (hb : b < 18) : sR (fun s => fac d b s * B s) (dn d) = rgt d w b * v ↔ rv d (rowB b) (am (10 * w) (qd (10 * B 0) v) (qd (10 * B 1) v) (qd (10 * B 2) v)) = ((lev d w b : Int) : Rat) := by
  have e := sum_pt (d := d) hn v0 hs b
  have vp := cpos v0
  have z : ∀ s, dn d ≤ s → s < 4 → am (10 * w) (qd (10 * B 0) v) (qd (10 * B 1) v) (qd (10 * B 2) v) s = 0 := fun s h1 h2 => by
    rw [pt_am v0 hs s h2, h0 s h1 h2]
    have q := qd_mul (a := 10 * 0) v0
    exact (zero_mul_iff vp).mp q
  rw [← s4_sQ hn b z] at e
  obtain ⟨c, hc, e1, e2⟩ := s4_rv d w hb (am (10 * w) (qd (10 * B 0) v) (qd (10 * B 1) v) (qd (10 * B 2) v))
  rw [e1] at e
  rw [← Rat.intCast_inj, Rat.intCast_mul]
  have c0 : 0 < c := by rcases hc with rfl | rfl <;> decide
  constructor
  · intro h
    have t : (rv d (rowB b) (am (10 * w) (qd (10 * B 0) v) (qd (10 * B 1) v) (qd (10 * B 2) v)) - ((lev d w b : Int) : Rat)) * (c * (v : Rat)) = 0 := by
      rw [h] at e
      generalize rv d (rowB b) (am (10 * w) (qd (10 * B 0) v) (qd (10 * B 1) v) (qd (10 * B 2) v)) = r at *
      generalize ((lev d w b : Int) : Rat) = l at *
      generalize ((rgt d w b : Int) : Rat) = g at *
      grind
    have := (zero_mul_iff (Rat.mul_pos c0 vp)).mp t
    grind
  · intro h
    rw [h] at e
    generalize ((lev d w b : Int) : Rat) = l at *
    generalize ((rgt d w b : Int) : Rat) = g at *
    generalize ((sR (fun s => fac d b s * B s) (dn d) : Int) : Rat) = r at *
    grind
theorem or_0 (x : Int32) : x ||| 0 = x := by simp
/-- the bounds that are just met -/
theorem just_ok (hrg : Rg d) (hw : w ≤ 40) {J : SJ} {B : Nat → Int} {v : Int} (hB : Bst d w J B v) : ∀ (t b : Nat), b + t = 18 → ∀ (F : Nat), t < F → ∀ I : SI, ToR d I → Msk (I 0 16) (fun c => c < b ∧ TgF d w (qd (10 * B 0) v) (qd (10 * B 1) v) (qd (10 * B 2) v) c) →
    ∃ I2 : SI, (g_R_keepMix F).2 (nI w) (nI b) I J = some (I2, J) ∧ Msk (I2 0 16) (TgF d w (qd (10 * B 0) v) (qd (10 * B 1) v) (qd (10 * B 2) v)) ∧ (∀ k, k ≠ 0 → I2 k = I k) ∧ ∀ j, j ≠ 16 → I2 0 j = I 0 j := by
  obtain ⟨v0, v1, b1, b2, b3, b4, b5⟩ := hB
  have hn := hrg.1
  intro t
  induction t with
  | zero =>
    intro b hb F hF I h hx
    obtain ⟨f, rfl⟩ : ∃ f, F = f + 1 := ⟨F - 1, by omega⟩
    have e : b = 18 := by omega
    subst e
    refine ⟨I, ?_, Msk_iff hx (fun i hi => ⟨fun z => z.2, fun z => ⟨hi, z⟩⟩), fun _ _ => rfl, fun _ _ => rfl⟩
    show b_R_keepMix_107 (g_R_keepMix f).2 (nI w) (nI 18) I J = _
    unfold b_R_keepMix_107
    rw [if_pos (show (18 : Int32) ≤ nI 18 by decide)]
  | succ t ih =>
    intro b hb F hF I h hx
    obtain ⟨f, rfl⟩ : ∃ f, F = f + 1 := ⟨F - 1, by omega⟩
    have hb18 : b < 18 := by omega
    have h18 : ¬ (18 : Int32) ≤ nI b := nI_ge (b := 18) hb18 (by decide)
    -- the mask is set to y
    have go : ∀ y : Int32, Msk y (fun c => c < b + 1 ∧ TgF d w (qd (10 * B 0) v) (qd (10 * B 1) v) (qd (10 * B 2) v) c) → (g_R_keepMix (f + 1)).2 (nI w) (nI b) I J = (g_R_keepMix f).2 (nI w) (nI (b + 1)) (va_up I 0 (upd (I 0) 16 y)) J → ∃ I2 : SI, (g_R_keepMix (f + 1)).2 (nI w) (nI b) I J = some (I2, J) ∧ Msk (I2 0 16) (TgF d w (qd (10 * B 0) v) (qd (10 * B 1) v) (qd (10 * B 2) v)) ∧ (∀ k, k ≠ 0 → I2 k = I k) ∧ ∀ j, j ≠ 16 → I2 0 j = I 0 j := fun y hy e => by
      obtain ⟨I1, e1⟩ : ∃ z : SI, z = va_up I 0 (upd (I 0) 16 y) := ⟨_, rfl⟩
      have j1 : ∀ j, j ≠ 16 → I1 0 j = I 0 j := fun j hj => by rw [e1, va_up_self]; unfold upd; rw [if_neg hj]
      have y1 : I1 0 16 = y := by rw [e1, va_up_self]; unfold upd; rw [if_pos rfl]
      have k1 : ∀ k, k ≠ 0 → I1 k = I k := fun k hk => by rw [e1, va_up_ne _ _ hk]
      obtain ⟨I2, g1, g2, g3, g4⟩ := ih (b + 1) (by omega) f (by omega) I1 (ToR_of h (j1 0 (by decide)) (fun k a _ => k1 k (by omega))) (by rw [y1]; exact hy)
      exact ⟨I2, by rw [e, ← e1]; exact g1, g2, fun k hk => by rw [g3 k hk, k1 k hk], fun j hj => by rw [g4 j hj, j1 j hj]⟩
    have no : ¬ TgF d w (qd (10 * B 0) v) (qd (10 * B 1) v) (qd (10 * B 2) v) b → Msk (I 0 16) (fun c => c < b + 1 ∧ TgF d w (qd (10 * B 0) v) (qd (10 * B 1) v) (qd (10 * B 2) v) c) := fun hn => Msk_iff hx (fun i hi => ⟨fun z => ⟨by omega, z.2⟩, fun z => ⟨by
      by_cases e : i = b
      · subst e; exact absurd z.2 hn
      · omega, z.2⟩⟩)
    have ol := over_le (X := B) (b := b) hrg hw v0 v1 (fun s hs => b4 s (by omega)) (by omega)
    have ce : lg_cmp (i6 (sR (fun s => fac d b s * B s) (dn d) - rgt d w b * v)) 0 = 0 ↔ sR (fun s => fac d b s * B s) (dn d) = rgt d w b * v := by
      have := cmp_eq (a := sR (fun s => fac d b s * B s) (dn d) - rgt d w b * v) (b := 0) (by omega) (by omega) (by omega) (by omega)
      rw [← i6_0] at this
      rw [this]
      omega
    have st : (g_R_keepMix (f + 1)).2 (nI w) (nI b) I J = b_R_keepMix_107 (g_R_keepMix f).2 (nI w) (nI b) I J := rfl
    unfold b_R_keepMix_107 at st
    rw [if_neg h18] at st
    rcases r_there (J := J) hrg h (show b < 22 by omega) with ⟨e, ht⟩ | ⟨e, ht⟩
    · simp only [e, cl3, one0, if_false, b2, r_over hrg h hw (show b < 22 by omega) (Or.inr rfl) b1, nm, nI_1, or_0] at st
      by_cases c : sR (fun s => fac d b s * B s) (dn d) = rgt d w b * v
      · rw [if_pos (ce.mpr c)] at st
        refine go _ (Msk_iff (Msk_or hx hb18) (fun i hi => ?_)) st
        constructor
        · rintro (z | z)
          · exact ⟨by omega, z.2⟩
          · subst z; exact ⟨by omega, (th_iff d hb18).mp ht, (met_iff hn v0 b5 b3 hb18).mp c⟩
        · rintro ⟨z1, z2⟩
          by_cases e : i = b
          · exact Or.inr e
          · exact Or.inl ⟨by omega, z2⟩
      · rw [if_neg (fun z => c (ce.mp z))] at st
        exact go _ (no (fun z => c ((met_iff hn v0 b5 b3 hb18).mpr z.2))) st
    · simp only [e, cl3, if_true, nm, nI_1, or_0] at st
      exact go _ (no (fun z => ht ((th_iff d hb18).mpr z.1))) st
def nB (B : Nat → Int) (s : Nat) : Nat := (B s).toNat
theorem keepMix_ok (hrg : Rg d) (hw : w ≤ 40) {I : SI} {J : SJ} (h : ToR d I) {B : Nat → Int} {v : Int} (hB : Bst d w J B v) (h0 : ∀ s, s < 4 → 0 ≤ B s) :
    ∃ (I2 : SI) (J2 : SJ), m_R_keepMix (nI w) I J = some (I2, J2) ∧ (∀ k, k ≠ 0 → I2 k = I k) ∧ (∀ j, j ≠ 10 → j ≠ 16 → I2 0 j = I 0 j) ∧ I2 0 10 = 0 ∧ Msk (I2 0 16) (TgF d w (qd (10 * B 0) v) (qd (10 * B 1) v) (qd (10 * B 2) v)) ∧
      (∀ s, s < dn d → J2 9 s = i6 ((nB B s / Nat.gcd (nB B s) v.toNat : Nat) : Int) ∧ J2 10 s = i6 ((v.toNat / Nat.gcd (nB B s) v.toNat : Nat) : Int)) ∧
      J2 0 14 = i6 (((sum4 (prd d) B).toNat / Nat.gcd (sum4 (prd d) B).toNat v.toNat : Nat) : Int) ∧ J2 0 15 = i6 ((v.toNat / Nat.gcd (sum4 (prd d) B).toNat v.toNat : Nat) : Int) := by
  have hn := hrg.1
  have hB' := hB
  obtain ⟨v0, v1, b1, b2, b3, b4, b5⟩ := hB
  have ev : ((v.toNat : Nat) : Int) = v := Int.toNat_of_nonneg (by omega)
  have vn : v.toNat < 2 ^ 62 := by omega
  have vn0 : 0 < v.toNat := by omega
  have eB : ∀ s, s < 4 → ((nB B s : Nat) : Int) = B s := fun s hs => Int.toNat_of_nonneg (h0 s hs)
  have pp : ∀ i, i < 4 → 0 ≤ prd d i ∧ prd d i ≤ 1000 := fun i hi => by
    have := (hrg.2.1 i hi).1
    unfold prd
    omega
  have sl := sum4_le pp b4
  have s0 : 0 ≤ sum4 (prd d) B := by
    unfold sum4
    have q := fun i (hi : i < 4) => Int.mul_nonneg (pp i hi).1 (h0 i hi)
    have q0 := q 0 (by omega); have q1 := q 1 (by omega); have q2 := q 2 (by omega); have q3 := q 3 (by omega)
    omega
  have es : (((sum4 (prd d) B).toNat : Nat) : Int) = sum4 (prd d) B := Int.toNat_of_nonneg s0
  -- the amounts
  have loop : ∀ (t s : Nat), s + t = dn d → ∀ (F : Nat), t + 20 < F → ∀ (I : SI) (J : SJ), ToR d I → Bst d w J B v → I 0 16 = 0 → (∀ s', s' < s → J 9 s' = i6 ((nB B s' / Nat.gcd (nB B s') v.toNat : Nat) : Int) ∧ J 10 s' = i6 ((v.toNat / Nat.gcd (nB B s') v.toNat : Nat) : Int)) →
      ∃ (I2 : SI) (J2 : SJ), (g_R_keepMix F).1 (nI w) (nI s) I J = some (I2, J2) ∧ (∀ k, k ≠ 0 → I2 k = I k) ∧ (∀ j, j ≠ 16 → I2 0 j = I 0 j) ∧ Msk (I2 0 16) (TgF d w (qd (10 * B 0) v) (qd (10 * B 1) v) (qd (10 * B 2) v)) ∧
      (∀ s, s < dn d → J2 9 s = i6 ((nB B s / Nat.gcd (nB B s) v.toNat : Nat) : Int) ∧ J2 10 s = i6 ((v.toNat / Nat.gcd (nB B s) v.toNat : Nat) : Int)) ∧
      J2 0 14 = i6 (((sum4 (prd d) B).toNat / Nat.gcd (sum4 (prd d) B).toNat v.toNat : Nat) : Int) ∧ J2 0 15 = i6 ((v.toNat / Nat.gcd (sum4 (prd d) B).toNat v.toNat : Nat) : Int) := by
    intro t
    induction t with
    | zero =>
      intro s hs F hF I J h hB z16 hd
      obtain ⟨f, rfl⟩ : ∃ f, F = f + 1 := ⟨F - 1, by omega⟩
      have e : s = dn d := by omega
      subst e
      obtain ⟨-, -, c1, c2, -⟩ := hB
      obtain ⟨g, eg⟩ : ∃ g, g = Nat.gcd (sum4 (prd d) B).toNat v.toNat := ⟨_, rfl⟩
      have g0 : 0 < g := by rw [eg]; exact Nat.gcd_pos_of_pos_right _ vn0
      have g1 : g ≤ v.toNat := by rw [eg]; exact Nat.gcd_le_right _ vn0
      have cost : m_R_costOf 17 I J = some (i6 (((sum4 (prd d) B).toNat : Nat) : Int), I, J) := by
        rw [r_cost hrg h (Or.inr rfl) c1, ← sum4_sR hn b3, es]
      obtain ⟨J1, e1⟩ : ∃ z : SJ, z = va_up J 0 (vp_updL (J 0) 14 (i6 (((sum4 (prd d) B).toNat / g : Nat) : Int))) := ⟨_, rfl⟩
      obtain ⟨J2, e2⟩ : ∃ z : SJ, z = va_up J1 0 (vp_updL (J1 0) 15 (i6 ((v.toNat / g : Nat) : Int))) := ⟨_, rfl⟩
      have j1 : ∀ j, j ≠ 14 → J1 0 j = J 0 j := fun j hj => by rw [e1, va_up_self]; unfold vp_updL; rw [if_neg hj]
      have j14 : J1 0 14 = i6 (((sum4 (prd d) B).toNat / g : Nat) : Int) := by rw [e1, va_up_self]; unfold vp_updL; rw [if_pos rfl]
      have j2 : ∀ j, j ≠ 15 → J2 0 j = J1 0 j := fun j hj => by rw [e2, va_up_self]; unfold vp_updL; rw [if_neg hj]
      have j15 : J2 0 15 = i6 ((v.toNat / g : Nat) : Int) := by rw [e2, va_up_self]; unfold vp_updL; rw [if_pos rfl]
      have k2 : ∀ k, k ≠ 0 → J2 k = J k := fun k hk => by rw [e2, va_up_ne _ _ hk, e1, va_up_ne _ _ hk]
      have hB2 : Bst d w J2 B v := ⟨v0, v1, fun s hs => by rw [k2 17 (by decide)]; exact c1 s hs, by rw [j2 30 (by decide), j1 30 (by decide)]; exact c2, b3, b4, b5⟩
      obtain ⟨I3, q1, q2, q3, q4⟩ := just_ok hrg hw hB2 18 0 rfl f (by omega) I h (by rw [z16]; exact Msk_iff Msk_0 (fun i hi => ⟨False.elim, fun z => absurd z.1 (by omega)⟩))
      refine ⟨I3, J2, ?_, q3, q4, q2, fun s hs => by rw [k2 9 (by decide), k2 10 (by decide)]; exact hd s hs, by rw [j2 14 (by decide), j14, eg], by rw [j15, eg]⟩
      show b_R_keepMix_12 (g_R_keepMix f).1 (g_R_keepMix f).2 (nI w) (nI (dn d)) I J = _
      unfold b_R_keepMix_12
      rw [h.1, if_pos (nI_le (Nat.le_refl _) (by omega)), cost]
      simp only [cl3, c2]
      rw [← ev, dv_ok (by omega) vn, ← eg]
      simp only [cl1, nm, gd_of (n0_of g0 (by omega)), i6_q (show (sum4 (prd d) B).toNat < 2 ^ 62 by omega) g0 (show g < 2 ^ 62 by omega)]
      rw [← e1, j1 30 (by decide), c2, ← ev, i6_q vn g0 (by omega), ← e2]
      exact q1
    | succ t ih =>
      intro s hs F hF I J h hB z16 hd
      obtain ⟨f, rfl⟩ : ∃ f, F = f + 1 := ⟨F - 1, by omega⟩
      obtain ⟨-, -, c1, c2, -⟩ := hB
      have hs4 : s < 4 := by omega
      have vs : vin (nI s) 4 := vp_in_nI hs4 (by decide)
      obtain ⟨g, eg⟩ : ∃ g, g = Nat.gcd (nB B s) v.toNat := ⟨_, rfl⟩
      have g0 : 0 < g := by rw [eg]; exact Nat.gcd_pos_of_pos_right _ vn0
      have g1 : g ≤ v.toNat := by rw [eg]; exact Nat.gcd_le_right _ vn0
      have nb : nB B s < 2 ^ 62 := by have := eB s hs4; have := b4 s hs4; omega
      obtain ⟨J1, e1⟩ : ∃ z : SJ, z = va_up J 9 (vp_updL (J 9) s (i6 ((nB B s / g : Nat) : Int))) := ⟨_, rfl⟩
      obtain ⟨J2, e2⟩ : ∃ z : SJ, z = va_up J1 10 (vp_updL (J1 10) s (i6 ((v.toNat / g : Nat) : Int))) := ⟨_, rfl⟩
      have k2 : ∀ k, k ≠ 9 → k ≠ 10 → J2 k = J k := fun k h1 h2 => by rw [e2, va_up_ne _ _ h2, e1, va_up_ne _ _ h1]
      have n9 : ∀ j, J2 9 j = if j = s then i6 ((nB B s / g : Nat) : Int) else J 9 j := fun j => by rw [e2, va_up_ne _ _ (by decide), e1, va_up_self]; rfl
      have n10 : ∀ j, J2 10 j = if j = s then i6 ((v.toNat / g : Nat) : Int) else J 10 j := fun j => by
        rw [e2, va_up_self]
        unfold vp_updL
        rw [e1, va_up_ne _ _ (by decide)]
      obtain ⟨I3, J3, q⟩ := ih (s + 1) (by omega) f (by omega) I J2 h ⟨v0, v1, fun s hs => by rw [k2 17 (by decide) (by decide)]; exact c1 s hs, by rw [k2 0 (by decide) (by decide)]; exact c2, b3, b4, b5⟩ z16 (fun s' hs' => by
        rw [n9, n10]
        by_cases e : s' = s
        · rw [if_pos e, if_pos e, e, ← eg]; exact ⟨rfl, rfl⟩
        · rw [if_neg e, if_neg e]; exact hd s' (by omega))
      refine ⟨I3, J3, ?_, q.2⟩
      show b_R_keepMix_12 (g_R_keepMix f).1 (g_R_keepMix f).2 (nI w) (nI s) I J = _
      unfold b_R_keepMix_12
      rw [h.1, if_neg (nI_ge (by omega) (by omega))]
      simp only [nm, gd_of vs, nI_clamp (show s < 2 ^ 31 by omega), c1 s (by omega), c2]
      rw [← eB s hs4, ← ev, dv_ok nb vn, ← eg]
      simp only [cl1, gd_of (n0_of g0 (show g < 2 ^ 62 by omega)), i6_q nb g0 (show g < 2 ^ 62 by omega)]
      rw [← e1]
      have j30 : J1 0 30 = i6 ((v.toNat : Nat) : Int) := by rw [e1, va_up_ne _ _ (by decide), c2, ev]
      rw [j30, i6_q vn g0 (by omega), nI_1, ← e2]
      exact q.1
  obtain ⟨I1, e1⟩ : ∃ z : SI, z = va_up I 0 (upd (I 0) 10 0) := ⟨_, rfl⟩
  obtain ⟨I2, e2⟩ : ∃ z : SI, z = va_up I1 0 (upd (I1 0) 16 0) := ⟨_, rfl⟩
  have i1 : ∀ j, j ≠ 10 → I1 0 j = I 0 j := fun j hj => by rw [e1, va_up_self]; unfold upd; rw [if_neg hj]
  have i10 : I1 0 10 = 0 := by rw [e1, va_up_self]; unfold upd; rw [if_pos rfl]
  have i2 : ∀ j, j ≠ 16 → I2 0 j = I1 0 j := fun j hj => by rw [e2, va_up_self]; unfold upd; rw [if_neg hj]
  have i16 : I2 0 16 = 0 := by rw [e2, va_up_self]; unfold upd; rw [if_pos rfl]
  have k2 : ∀ k, k ≠ 0 → I2 k = I k := fun k hk => by rw [e2, va_up_ne _ _ hk, e1, va_up_ne _ _ hk]
  obtain ⟨I3, J3, q1, q2, q3, q4, q5⟩ := loop (dn d) 0 (by omega) fuel (by unfold fuel; omega) I2 J (ToR_of h (by rw [i2 0 (by decide), i1 0 (by decide)]) (fun k a _ => k2 k (by omega))) hB' i16 (fun s' hs' => by omega)
  refine ⟨I3, J3, ?_, fun k hk => by rw [q2 k hk, k2 k hk], fun j h1 h2 => by rw [q3 j h2, i2 j h2, i1 j h1], by rw [q3 10 (by decide), i2 10 (by decide), i10], q4, q5⟩
  unfold m_R_keepMix b_R_keepMix_0
  simp only [nm]
  rw [← e1, ← e2]
  exact q1
end KM
