/-! The reference's elimination: its loops. -/
abbrev s180 (F : Nat) := (g_R_solve F).2.2.2.1
abbrev s190 (F : Nat) := (g_R_solve F).2.2.2.2.1
abbrev s230 (F : Nat) := (g_R_solve F).2.2.2.2.2.1
abbrev s319 (F : Nat) := (g_R_solve F).2.2.2.2.2.2.1
abbrev s349 (F : Nat) := (g_R_solve F).2.2.2.2.2.2.2.1
abbrev s431 (F : Nat) := (g_R_solve F).2.2.2.2.2.2.2.2.1
abbrev s466 (F : Nat) := (g_R_solve F).2.2.2.2.2.2.2.2.2.1
abbrev s510 (F : Nat) := (g_R_solve F).2.2.2.2.2.2.2.2.2.2
theorem ix5 (r k : Nat) : (5 : Int32) * nI r + nI k = nI (5 * r + k) := by
  rw [show (5 : Int32) = nI 5 from rfl, i3_nI, i3_nI, i3_nI, i3_nI, i3_mul, i3_add]
  congr 1
theorem vin20 {r k : Nat} (hr : r < 4) (hk : k < 5) : vin (nI (5 * r + k)) 20 := vp_in_nI (by omega) (by decide)
theorem clp {k : Nat} (hk : k < 100) : (nI k).toNatClampNeg = k := nI_clamp (Nat.lt_trans hk (by decide))
theorem i6_dv {l q : Int} (l0 : l ≠ 0) (l1 : -1000000 ≤ l) (l2 : l ≤ 1000000) (q1 : -1000000000 ≤ q) (q2 : q ≤ 1000000000) : i6 (l * q) / i6 l = i6 q := by
  have m := mulAB (a := l) (A := 1000000) (b := q) (B := 1000000000) l1 l2 q1 q2
  apply Int64.toInt_inj.1
  rw [Int64.toInt_div_of_ne_left _ _ (by intro e; have := congrArg Int64.toInt e; rw [i6_toInt (by omega) (by omega)] at this; simp at this; omega), i6_toInt (by omega) (by omega), i6_toInt (by omega) (by omega), i6_toInt (by omega) (by omega)]
  exact Int.mul_tdiv_cancel_left q l0
theorem i6_n0 {l : Int} (l0 : l ≠ 0) (l1 : -1000000 ≤ l) (l2 : l ≤ 1000000) : ¬ i6 l = 0 := fun z => l0 (by
  have := congrArg Int64.toInt z
  rw [i6_toInt (by omega) (by omega)] at this
  simpa using this)
section EL
variable {I : SI} {x1 x2 : Int32} {c n : Nat}
theorem el_k {r : Nat} (hc : c < 4) (hr : r < 4) (hrc : r ≠ c) {p l f : Int} {ec er q : Nat → Int} {V : Nat → Prop} (l0 : l ≠ 0) (l1 : -1000000 ≤ l) (l2 : l ≤ 1000000) (hq : ∀ k, k < 5 → V k → er k * p - f * ec k = l * q k ∧ -1000000000 ≤ q k ∧ q k ≤ 1000000000) :
    ∀ (t k : Nat), k + t = 5 → ∀ (F : Nat), t < F → ∀ J : SJ, (∀ k', k ≤ k' → k' < 5 → V k' → J 14 (5 * r + k') = i6 (er k')) → (∀ k', k' < 5 → V k' → J 14 (5 * c + k') = i6 (ec k')) → (∀ k', k' < k → V k' → J 14 (5 * r + k') = i6 (q k')) →
      ∃ (F2 : Nat) (J2 : SJ), F = F2 + (t + 1) ∧ s349 F x1 x2 (i6 l) (nI c) (i6 p) (nI r) (i6 f) (nI k) I J = s319 F2 x1 x2 (i6 l) (nI c) (i6 p) (nI (r + 1)) I J2 ∧ (∀ k', k' < 5 → V k' → J2 14 (5 * r + k') = i6 (q k')) ∧ (∀ j, j < 5 * r ∨ 5 * r + 5 ≤ j → J2 14 j = J 14 j) ∧ ∀ m, m ≠ 14 → J2 m = J m := by
  intro t
  induction t with
  | zero =>
    intro k hk F hF J h1 h2 h3
    obtain ⟨f', rfl⟩ : ∃ f', F = f' + 1 := ⟨F - 1, by omega⟩
    have e : k = 5 := by omega
    subst e
    refine ⟨f', J, rfl, ?_, h3, fun _ _ => rfl, fun _ _ => rfl⟩
    show b_R_solve_349 (s319 f') (s349 f') x1 x2 (i6 l) (nI c) (i6 p) (nI r) (i6 f) (nI 5) I J = _
    unfold b_R_solve_349
    rw [if_pos (show (5 : Int32) ≤ nI 5 by decide)]
    simp only [nm, nI_1]
  | succ t ih =>
    intro k hk F hF J h1 h2 h3
    obtain ⟨f', rfl⟩ : ∃ f', F = f' + 1 := ⟨F - 1, by omega⟩
    have n5 : ¬ (5 : Int32) ≤ nI k := nI_ge (b := 5) (by omega) (by decide)
    obtain ⟨v, ev⟩ : ∃ v : Int64, v = (J 14 (5 * r + k) * i6 p - i6 f * J 14 (5 * c + k)) / i6 l := ⟨_, rfl⟩
    have hv : V k → v = i6 (q k) := fun hV => by
      obtain ⟨q1, q2, q3⟩ := hq k (by omega) hV
      rw [ev, h1 k (Nat.le_refl k) (by omega) hV, h2 k (by omega) hV, i6_mul, i6_mul, i6_sub, q1]
      exact i6_dv l0 l1 l2 q2 q3
    obtain ⟨J5, e5⟩ : ∃ z : SJ, z = va_up J 14 (vp_updL (J 14) (5 * r + k) v) := ⟨_, rfl⟩
    have j5 : ∀ j, j ≠ 5 * r + k → J5 14 j = J 14 j := fun j hj => by rw [e5, va_up_self]; unfold vp_updL; rw [if_neg hj]
    have j5' : J5 14 (5 * r + k) = v := by rw [e5, va_up_self]; unfold vp_updL; rw [if_pos rfl]
    obtain ⟨F2, J2, g1, g2, g3, g4, g5⟩ := ih (k + 1) (by omega) f' (by omega) J5 (fun k' a b hV => by rw [j5 _ (by omega)]; exact h1 k' (by omega) b hV) (fun k' b hV => by rw [j5 _ (by omega)]; exact h2 k' b hV) (fun k' a hV => by
      by_cases e : k' = k
      · subst e; rw [j5', hv hV]
      · rw [j5 _ (by omega)]; exact h3 k' (by omega) hV)
    refine ⟨F2, J2, by omega, ?_, g3, fun j hj => by rw [g4 j hj, j5 j (by omega)], fun m hm => by rw [g5 m hm, e5, va_up_ne _ _ hm]⟩
    show b_R_solve_349 (s319 f') (s349 f') x1 x2 (i6 l) (nI c) (i6 p) (nI r) (i6 f) (nI k) I J = _
    unfold b_R_solve_349
    rw [if_neg n5]
    simp only [nm, ix5, gd_of (vin20 hr (show k < 5 by omega)), gd_of (vin20 hc (show k < 5 by omega)), clp (show 5 * r + k < 100 by omega), clp (show 5 * c + k < 100 by omega), gd_of (i6_n0 l0 l1 l2), nI_1]
    rw [← ev, ← e5]
    exact g2
theorem el_r (hc : c < 4) (hn : n ≤ 4) {p l : Int} {e q : Nat → Nat → Int} {V : Nat → Prop} (l0 : l ≠ 0) (l1 : -1000000 ≤ l) (l2 : l ≤ 1000000) (hq : ∀ r, r < n → r ≠ c → ∀ k, k < 5 → V k → e r k * p - e r c * e c k = l * q r k ∧ -1000000000 ≤ q r k ∧ q r k ≤ 1000000000) :
    ∀ (t r : Nat), r + t = n → ∀ (F : Nat), 8 * t + 1 < F → ∀ J : SJ, (∀ r', r' < r → r' ≠ c → ∀ k, k < 5 → V k → J 14 (5 * r' + k) = i6 (q r' k)) → (∀ r', r ≤ r' → r' < n → r' ≠ c → (∀ k, k < 5 → V k → J 14 (5 * r' + k) = i6 (e r' k)) ∧ J 14 (5 * r' + c) = i6 (e r' c)) → (∀ k, k < 5 → V k → J 14 (5 * c + k) = i6 (e c k)) →
      ∃ (F2 : Nat) (J2 : SJ), F ≤ F2 + (8 * t + 1) ∧ s319 F x1 (nI n) (i6 l) (nI c) (i6 p) (nI r) I J = s180 F2 x1 (nI n) (i6 p) (nI (c + 1)) I J2 ∧ (∀ r', r' < n → r' ≠ c → ∀ k, k < 5 → V k → J2 14 (5 * r' + k) = i6 (q r' k)) ∧ (∀ k, k < 5 → V k → J2 14 (5 * c + k) = i6 (e c k)) ∧ ∀ m, m ≠ 14 → J2 m = J m := by
  intro t
  induction t with
  | zero =>
    intro r hr F hF J h1 h2 h3
    obtain ⟨f', rfl⟩ : ∃ f', F = f' + 1 := ⟨F - 1, by omega⟩
    have er : r = n := by omega
    subst er
    refine ⟨f', J, by omega, ?_, h1, h3, fun _ _ => rfl⟩
    show b_R_solve_319 (s180 f') (s319 f') (s349 f') x1 (nI r) (i6 l) (nI c) (i6 p) (nI r) I J = _
    unfold b_R_solve_319
    rw [if_pos (nI_le (Nat.le_refl r) (by omega))]
    simp only [nm, nI_1]
  | succ t ih =>
    intro r hr F hF J h1 h2 h3
    obtain ⟨f', rfl⟩ : ∃ f', F = f' + 1 := ⟨F - 1, by omega⟩
    have nn : ¬ nI n ≤ nI r := nI_ge (by omega) (by omega)
    show ∃ (F2 : Nat) (J2 : SJ), _ ∧ b_R_solve_319 (s180 f') (s319 f') (s349 f') x1 (nI n) (i6 l) (nI c) (i6 p) (nI r) I J = _ ∧ _
    unfold b_R_solve_319
    rw [if_neg nn]
    simp only [nI_inj (show r < 2 ^ 31 by omega) (show c < 2 ^ 31 by omega), nm, nI_1, ix5]
    by_cases ec : r = c
    · rw [if_pos ec]
      obtain ⟨F2, J2, g1, g2, g3, g4, g5⟩ := ih (r + 1) (by omega) f' (by omega) J (fun r' a b => h1 r' (by omega) b) (fun r' a b => h2 r' (by omega) b) h3
      exact ⟨F2, J2, by omega, g2, g3, g4, g5⟩
    · rw [if_neg ec]
      have hr4 : r < 4 := by omega
      have hh := h2 r (Nat.le_refl r) (by omega) ec
      rw [gd_of (vin20 hr4 (show c < 5 by omega)), clp (show 5 * r + c < 100 by omega), hh.2]
      obtain ⟨F2, J2, g1, g2, g3, g4, g5⟩ := el_k (x1 := x1) (x2 := nI n) (I := I) hc hr4 ec l0 l1 l2 (ec := e c) (er := e r) (q := q r) (V := V) (f := e r c) (p := p) (fun k hk hV => hq r (by omega) ec k hk hV) 5 0 rfl f' (by omega) J (fun k' _ hk hV => hh.1 k' hk hV) h3 (fun k' a _ => by omega)
      obtain ⟨F3, J3, k1, k2, k3, k4, k5⟩ := ih (r + 1) (by omega) F2 (by omega) J2 (fun r' a b k hk hV => by
        by_cases e' : r' = r
        · subst e'; exact g3 k hk hV
        · rw [g4 _ (by omega)]; exact h1 r' (by omega) b k hk hV) (fun r' a b b2 => by
        have := h2 r' (by omega) b b2
        refine ⟨fun k hk hV => by rw [g4 _ (by omega)]; exact this.1 k hk hV, by rw [g4 _ (by omega)]; exact this.2⟩) (fun k hk hV => by rw [g4 _ (by omega)]; exact h3 k hk hV)
      exact ⟨F3, J3, by omega, g2.trans k2, k3, k4, fun m hm => by rw [k5 m hm, g5 m hm]⟩
theorem el_p (hc : c < 4) (hn : n ≤ 4) {x3 : Int64} {e : Nat → Int} {J : SJ} (he : ∀ r, r < n → J 14 (5 * r + c) = i6 (e r) ∧ -1000000000 ≤ e r ∧ e r ≤ 1000000000) :
    ∀ (t p : Nat), p + t = n → ∀ (F : Nat), t < F → (∃ (p' F2 : Nat), p ≤ p' ∧ p' < n ∧ e p' ≠ 0 ∧ (∀ r, p ≤ r → r < p' → e r = 0) ∧ F ≤ F2 + (t + 1) ∧ s190 F x1 (nI n) x3 (nI c) (nI p) I J = s230 F2 x1 (nI n) x3 (nI c) (nI p') 0 I J) ∨ ((∀ r, p ≤ r → r < n → e r = 0) ∧ s190 F x1 (nI n) x3 (nI c) (nI p) I J = some (0, I, J)) := by
  intro t
  induction t with
  | zero =>
    intro p hp F hF
    obtain ⟨f', rfl⟩ : ∃ f', F = f' + 1 := ⟨F - 1, by omega⟩
    have er : p = n := by omega
    subst er
    refine Or.inr ⟨fun r a b => by omega, ?_⟩
    show b_R_solve_190 (s190 f') (s230 f') x1 (nI p) x3 (nI c) (nI p) I J = _
    unfold b_R_solve_190
    rw [if_pos (nI_le (Nat.le_refl p) (by omega)), if_pos rfl]
  | succ t ih =>
    intro p hp F hF
    obtain ⟨f', rfl⟩ : ∃ f', F = f' + 1 := ⟨F - 1, by omega⟩
    have nn : ¬ nI n ≤ nI p := nI_ge (by omega) (by omega)
    have h := he p (by omega)
    have st : s190 (f' + 1) x1 (nI n) x3 (nI c) (nI p) I J = if e p = 0 then s190 f' x1 (nI n) x3 (nI c) (nI (p + 1)) I J else s230 f' x1 (nI n) x3 (nI c) (nI p) 0 I J := by
      show b_R_solve_190 (s190 f') (s230 f') x1 (nI n) x3 (nI c) (nI p) I J = _
      unfold b_R_solve_190
      rw [if_neg nn]
      simp only [nm, ix5, gd_of (vin20 (show p < 4 by omega) (show c < 5 by omega)), clp (show 5 * p + c < 100 by omega), h.1, i6_0, cmp_eq (a := e p) (b := 0) (by omega) (by omega) (by omega) (by omega), nI_1, nI_inj (show p < 2 ^ 31 by omega) (show n < 2 ^ 31 by omega)]
      by_cases z : e p = 0
      · rw [if_pos z, if_pos z]
      · rw [if_neg z, if_neg z, if_neg (by omega)]
    rw [st]
    by_cases z : e p = 0
    · rw [if_pos z]
      rcases ih (p + 1) (by omega) f' (by omega) with ⟨p', F2, a1, a2, a3, a6, a4, a5⟩ | ⟨a1, a2⟩
      · refine Or.inl ⟨p', F2, by omega, a2, a3, fun r b1 b2 => ?_, by omega, a5⟩
        by_cases q : r = p
        · subst q; exact z
        · exact a6 r (by omega) b2
      · refine Or.inr ⟨fun r b1 b2 => ?_, a2⟩
        by_cases q : r = p
        · subst q; exact z
        · exact a1 r (by omega) b2
    · rw [if_neg z]
      exact Or.inl ⟨p, f', Nat.le_refl p, by omega, z, fun r b1 b2 => by omega, by omega, rfl⟩
theorem el_s0 (hc : c < 4) {x3 : Int64} (F : Nat) (J : SJ) : s230 (F + 1) x1 x2 x3 (nI c) (nI c) 0 I J = s319 F x1 x2 x3 (nI c) (J 14 (5 * c + c)) 0 I J := by
  show b_R_solve_230 (s230 F) (s319 F) x1 x2 x3 (nI c) (nI c) 0 I J = _
  unfold b_R_solve_230
  rw [if_neg (show ¬ (5 : Int32) ≤ 0 by decide), if_pos rfl]
  simp only [nm, ix5, gd_of (vin20 hc (show c < 5 by omega)), clp (show 5 * c + c < 100 by omega)]
theorem el_s (hc : c < 4) {p : Nat} (hp : p < 4) (hpc : p ≠ c) {x3 : Int64} {J0 : SJ} : ∀ (t k : Nat), k + t = 5 → ∀ (F : Nat), t < F → ∀ J : SJ, (∀ k', k' < k → J 14 (5 * p + k') = J0 14 (5 * c + k') ∧ J 14 (5 * c + k') = -J0 14 (5 * p + k')) → (∀ k', k ≤ k' → k' < 5 → J 14 (5 * p + k') = J0 14 (5 * p + k') ∧ J 14 (5 * c + k') = J0 14 (5 * c + k')) →
    ∃ (F2 : Nat) (J2 : SJ), F = F2 + (t + 1) ∧ s230 F x1 x2 x3 (nI c) (nI p) (nI k) I J = s319 F2 x1 x2 x3 (nI c) (J2 14 (5 * c + c)) 0 I J2 ∧ (∀ k', k' < 5 → J2 14 (5 * p + k') = J0 14 (5 * c + k') ∧ J2 14 (5 * c + k') = -J0 14 (5 * p + k')) ∧ (∀ r, r ≠ p → r ≠ c → ∀ k', k' < 5 → J2 14 (5 * r + k') = J 14 (5 * r + k')) ∧ ∀ m, m ≠ 14 → J2 m = J m := by
  intro t
  induction t with
  | zero =>
    intro k hk F hF J h1 h2
    obtain ⟨f', rfl⟩ : ∃ f', F = f' + 1 := ⟨F - 1, by omega⟩
    have e : k = 5 := by omega
    subst e
    refine ⟨f', J, rfl, ?_, h1, fun _ _ _ _ _ => rfl, fun _ _ => rfl⟩
    show b_R_solve_230 (s230 f') (s319 f') x1 x2 x3 (nI c) (nI p) (nI 5) I J = _
    unfold b_R_solve_230
    rw [if_pos (show (5 : Int32) ≤ nI 5 by decide)]
    simp only [nm, ix5, gd_of (vin20 hc (show c < 5 by omega)), clp (show 5 * c + c < 100 by omega)]
  | succ t ih =>
    intro k hk F hF J h1 h2
    obtain ⟨f', rfl⟩ : ∃ f', F = f' + 1 := ⟨F - 1, by omega⟩
    have n5 : ¬ (5 : Int32) ≤ nI k := nI_ge (b := 5) (by omega) (by decide)
    have hh := h2 k (Nat.le_refl k) (by omega)
    obtain ⟨J5, e5⟩ : ∃ z : SJ, z = va_up J 14 (vp_updL (J 14) (5 * p + k) (J 14 (5 * c + k))) := ⟨_, rfl⟩
    obtain ⟨J6, e6⟩ : ∃ z : SJ, z = va_up J5 14 (vp_updL (J5 14) (5 * c + k) (-J 14 (5 * p + k))) := ⟨_, rfl⟩
    have a5 : ∀ j, j ≠ 5 * p + k → J5 14 j = J 14 j := fun j hj => by rw [e5, va_up_self]; unfold vp_updL; rw [if_neg hj]
    have b5 : J5 14 (5 * p + k) = J 14 (5 * c + k) := by rw [e5, va_up_self]; unfold vp_updL; rw [if_pos rfl]
    have a6 : ∀ j, j ≠ 5 * c + k → J6 14 j = J5 14 j := fun j hj => by rw [e6, va_up_self]; unfold vp_updL; rw [if_neg hj]
    have b6 : J6 14 (5 * c + k) = -J 14 (5 * p + k) := by rw [e6, va_up_self]; unfold vp_updL; rw [if_pos rfl]
    obtain ⟨F2, J2, g1, g2, g3, g4, g5⟩ := ih (k + 1) (by omega) f' (by omega) J6 (fun k' hk' => by
      by_cases e : k' = k
      · subst e
        rw [a6 _ (by omega), b5, b6, hh.1, hh.2]
        exact ⟨rfl, rfl⟩
      · rw [a6 _ (by omega), a5 _ (by omega), a6 _ (by omega), a5 _ (by omega)]
        exact h1 k' (by omega)) (fun k' a b => by
      rw [a6 _ (by omega), a5 _ (by omega), a6 _ (by omega), a5 _ (by omega)]
      exact h2 k' (by omega) b)
    refine ⟨F2, J2, by omega, ?_, g3, fun r r1 r2 k' hk' => by rw [g4 r r1 r2 k' hk', a6 _ (by omega), a5 _ (by omega)], fun m hm => by rw [g5 m hm, e6, va_up_ne _ _ hm, e5, va_up_ne _ _ hm]⟩
    show b_R_solve_230 (s230 f') (s319 f') x1 x2 x3 (nI c) (nI p) (nI k) I J = _
    unfold b_R_solve_230
    rw [if_neg n5, if_neg (fun z => hpc ((nI_inj (by omega) (by omega)).mp z))]
    simp only [nm, ix5, gd_of (vin20 hp (show k < 5 by omega)), gd_of (vin20 hc (show k < 5 by omega)), clp (show 5 * p + k < 100 by omega), clp (show 5 * c + k < 100 by omega), nI_1]
    rw [← e5, ← e6]
    exact g2
/-- a row is put into another's place -/
def sw (e : Nat → Nat → Int) (c p r k : Nat) : Int := if p = c then e r k else if r = p then e c k else if r = c then -e p k else e r k
/-- one step of the elimination -/
theorem el_step (hc : c < n) (hn : n ≤ 4) {l : Int} {e : Nat → Nat → Int} (l0 : l ≠ 0) (l1 : -1000000 ≤ l) (l2 : l ≤ 1000000) {J : SJ} (he : ∀ r, r < n → ∀ k, k < 5 → (k = 4 ∨ (c ≤ k ∧ k < n)) → J 14 (5 * r + k) = i6 (e r k) ∧ -1000000000 ≤ e r k ∧ e r k ≤ 1000000000)
    (q : Nat → Nat → Nat → Int) (hq : ∀ p, c ≤ p → p < n → e p c ≠ 0 → (∀ r, c ≤ r → r < p → e r c = 0) → ∀ r, r < n → r ≠ c → ∀ k, k < 5 → (k = 4 ∨ (c + 1 ≤ k ∧ k < n)) → sw e c p r k * sw e c p c c - sw e c p r c * sw e c p c k = l * q p r k ∧ -1000000000 ≤ q p r k ∧ q p r k ≤ 1000000000) (F : Nat) (hF : 100 < F) :
    (∃ (p F2 : Nat) (J2 : SJ), c ≤ p ∧ p < n ∧ e p c ≠ 0 ∧ F ≤ F2 + 50 ∧ s180 F x1 (nI n) (i6 l) (nI c) I J = s180 F2 x1 (nI n) (i6 (sw e c p c c)) (nI (c + 1)) I J2 ∧ (∀ r, r < n → r ≠ c → ∀ k, k < 5 → (k = 4 ∨ (c + 1 ≤ k ∧ k < n)) → J2 14 (5 * r + k) = i6 (q p r k)) ∧ (∀ k, k < 5 → (k = 4 ∨ (c + 1 ≤ k ∧ k < n)) → J2 14 (5 * c + k) = i6 (sw e c p c k)) ∧ (∀ m, m ≠ 14 → J2 m = J m) ∧ ∀ r, c ≤ r → r < p → e r c = 0) ∨
    ((∀ r, c ≤ r → r < n → e r c = 0) ∧ s180 F x1 (nI n) (i6 l) (nI c) I J = some (0, I, J)) := by
  obtain ⟨f', rfl⟩ : ∃ f', F = f' + 1 := ⟨F - 1, by omega⟩
  have hc4 : c < 4 := by omega
  have st : s180 (f' + 1) x1 (nI n) (i6 l) (nI c) I J = s190 f' x1 (nI n) (i6 l) (nI c) (nI c) I J := by
    show b_R_solve_180 (s190 f') (s431 f') x1 (nI n) (i6 l) (nI c) I J = _
    unfold b_R_solve_180
    rw [if_neg (nI_ge hc (by omega))]
  rw [st]
  rcases el_p (x1 := x1) (I := I) (x3 := i6 l) hc4 hn (e := fun r => e r c) (J := J) (fun r hr => he r hr c (by omega) (Or.inr ⟨Nat.le_refl c, hc⟩)) (n - c) c (by omega) f' (by omega) with ⟨p, F2, a1, a2, a3, a6, a4, a5⟩ | ⟨a1, a2⟩
  · refine Or.inl ?_
    rw [a5]
    -- the swap
    have swap : ∃ (F3 : Nat) (J3 : SJ), F2 ≤ F3 + 10 ∧ s230 F2 x1 (nI n) (i6 l) (nI c) (nI p) 0 I J = s319 F3 x1 (nI n) (i6 l) (nI c) (i6 (sw e c p c c)) (nI 0) I J3 ∧ (∀ r, r < n → ∀ k, k < 5 → (k = 4 ∨ (c ≤ k ∧ k < n)) → J3 14 (5 * r + k) = i6 (sw e c p r k)) ∧ ∀ m, m ≠ 14 → J3 m = J m := by
      by_cases epc : p = c
      · subst epc
        obtain ⟨f2, rfl⟩ : ∃ f2, F2 = f2 + 1 := ⟨F2 - 1, by omega⟩
        have ee : ∀ r k, sw e p p r k = e r k := fun r k => by unfold sw; rw [if_pos rfl]
        refine ⟨f2, J, by omega, ?_, fun r hr k hk hV => by rw [ee]; exact (he r hr k hk hV).1, fun _ _ => rfl⟩
        rw [el_s0 hc4, ee, (he p (by omega) p (by omega) (Or.inr ⟨Nat.le_refl p, hc⟩)).1]
        rfl
      · obtain ⟨F3, J3, b1, b2, b3, b4, b5⟩ := el_s (x1 := x1) (x2 := nI n) (I := I) (x3 := i6 l) (J0 := J) hc4 (show p < 4 by omega) epc 5 0 rfl F2 (by omega) J (fun k' h => by omega) (fun k' _ _ => ⟨rfl, rfl⟩)
        have row : ∀ r, r < n → ∀ k, k < 5 → (k = 4 ∨ (c ≤ k ∧ k < n)) → J3 14 (5 * r + k) = i6 (sw e c p r k) := fun r hr k hk hV => by
          unfold sw
          rw [if_neg epc]
          by_cases e1 : r = p
          · subst e1
            rw [if_pos rfl, (b3 k hk).1]
            exact (he c hc k hk hV).1
          · rw [if_neg e1]
            by_cases e2 : r = c
            · subst e2
              rw [if_pos rfl, (b3 k hk).2, (he p a2 k hk hV).1, i6_neg]
            · rw [if_neg e2, b4 r e1 e2 k hk]
              exact (he r hr k hk hV).1
        refine ⟨F3, J3, by omega, ?_, row, b5⟩
        rw [show (0 : Int32) = nI 0 from rfl, b2, row c hc c (by omega) (Or.inr ⟨Nat.le_refl c, hc⟩)]
        rfl
    obtain ⟨F3, J3, b1, b2, b3, b4⟩ := swap
    obtain ⟨F4, J4, d1, d2, d3, d4, d5⟩ := el_r (x1 := x1) (I := I) (c := c) (n := n) hc4 hn (p := sw e c p c c) (l := l) (e := sw e c p) (q := q p) (V := fun k => k = 4 ∨ (c + 1 ≤ k ∧ k < n)) l0 l1 l2 (hq p a1 a2 a3 a6) n 0 (by omega) F3 (by omega) J3 (fun r' h => by omega) (fun r' _ h2 h3 => ⟨fun k hk hV => b3 r' h2 k hk (hV.imp id (fun z => ⟨by omega, z.2⟩)), b3 r' h2 c (by omega) (Or.inr ⟨Nat.le_refl c, hc⟩)⟩) (fun k hk hV => b3 c hc k hk (hV.imp id (fun z => ⟨by omega, z.2⟩)))
    exact ⟨p, F4, J4, a1, a2, a3, by omega, b2.trans d2, d3, d4, fun m hm => by rw [d5 m hm, b4 m hm], a6⟩
  · exact Or.inr ⟨a1, a2⟩
end EL
