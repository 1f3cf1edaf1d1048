/-! The reference's solve: all of it. -/
theorem sQ_congr {f g : Nat → Rat} : ∀ {m : Nat}, (∀ s, s < m → f s = g s) → sQ f m = sQ g m
  | 0, _ => rfl
  | m + 1, h => by
    show sQ f m + f m = sQ g m + g m
    rw [sQ_congr (fun s hs => h s (by omega)), h m (by omega)]
theorem sQ_mul (c : Rat) (f : Nat → Rat) : ∀ m, sQ (fun s => c * f s) m = c * sQ f m
  | 0 => by show (0 : Rat) = c * 0; grind
  | m + 1 => by
    show sQ (fun s => c * f s) m + c * f m = c * (sQ f m + f m)
    rw [sQ_mul c f m]
    grind
theorem sQ_zero : ∀ m, sQ (fun _ => 0) m = 0
  | 0 => rfl
  | m + 1 => by
    show sQ (fun _ => 0) m + 0 = 0
    rw [sQ_zero m]
    grind
theorem sR_congr {f g : Nat → Int} : ∀ {m : Nat}, (∀ s, s < m → f s = g s) → sR f m = sR g m
  | 0, _ => rfl
  | m + 1, h => by
    show sR f m + f m = sR g m + g m
    rw [sR_congr (fun s hs => h s (by omega)), h m (by omega)]
theorem sQ_sB (g : Nat → Rat) : ∀ n, sQ g (n + 1) = g 0 + sB g (n + 1)
  | 0 => by show 0 + g 0 = g 0 + 0; grind
  | n + 1 => by
    show sQ g (n + 1) + g (n + 1) = g 0 + (sB g (n + 1) + g (n + 1))
    rw [sQ_sB g n]
    grind
theorem sB_congr {f g : Nat → Rat} : ∀ {n : Nat}, (∀ k, 1 ≤ k → k < n → f k = g k) → sB f n = sB g n
  | 0, _ => rfl
  | 1, _ => rfl
  | n + 2, h => by
    show sB f (n + 1) + f (n + 1) = sB g (n + 1) + g (n + 1)
    rw [sB_congr (n := n + 1) (fun k h1 h2 => h k h1 (by omega)), h (n + 1) (by omega) (by omega)]
theorem sB_lin (c v : Nat → Rat) (e : Rat) : ∀ n, sB (fun k => (c k - e) * v k) n = sB (fun k => c k * v k) n - e * sB v n
  | 0 => by show (0 : Rat) = 0 - e * 0; grind
  | 1 => by show (0 : Rat) = 0 - e * 0; grind
  | n + 2 => by
    show sB (fun k => (c k - e) * v k) (n + 1) + (c (n + 1) - e) * v (n + 1) = sB (fun k => c k * v k) (n + 1) + c (n + 1) * v (n + 1) - e * (sB v (n + 1) + v (n + 1))
    rw [sB_lin c v e (n + 1)]
    grind
/-- which of the free stuffs a stuff is -/
def ivf (fl : Nat → Nat) (s : Nat) : Nat := if fl 0 = s then 0 else if fl 1 = s then 1 else if fl 2 = s then 2 else 3
section SO
variable {d : Dt} {w n : Nat} {I : SI} {fx : Nat → Int} {fl ch : Nat → Nat}
theorem ivf_ok (hn : n ≤ 4) (hi : ∀ j k, j < n → k < n → fl j = fl k → j = k) {k : Nat} (hk : k < n) : ivf fl (fl k) = k := by
  unfold ivf
  have c : k = 0 ∨ k = 1 ∨ k = 2 ∨ k = 3 := by omega
  rcases c with rfl | rfl | rfl | rfl
  · rw [if_pos rfl]
  · rw [if_neg (fun z => by have := hi 0 1 (by omega) hk z; omega), if_pos rfl]
  · rw [if_neg (fun z => by have := hi 0 2 (by omega) hk z; omega), if_neg (fun z => by have := hi 1 2 (by omega) hk z; omega), if_pos rfl]
  · rw [if_neg (fun z => by have := hi 0 3 (by omega) hk z; omega), if_neg (fun z => by have := hi 1 3 (by omega) hk z; omega), if_neg (fun z => by have := hi 2 3 (by omega) hk z; omega)]
theorem s466_ok (hf : Fre d fx n fl I) (hrg : Rg d) {Z : Nat → Int} {sg : Int} {x1 : Int32} :
    ∀ (t k : Nat), k + t = n → ∀ (F : Nat), t < F → ∀ J : SJ, (∀ r, r < n → J 14 (5 * r + 4) = i6 (Z r)) → (∀ k', k' < k → J 15 (fl k') = i6 (Z k' * sg)) →
      ∃ (F2 : Nat) (J2 : SJ), F = F2 + (t + 1) ∧ s466 F x1 (nI n) (i6 sg) (nI k) I J = s510 F2 x1 (i6 0) (nI 0) I J2 ∧ (∀ k', k' < n → J2 15 (fl k') = i6 (Z k' * sg)) ∧ ∀ m, m ≠ 15 → J2 m = J m := by
  obtain ⟨f1, f2, f3, f4, f5, f6⟩ := hf
  have hn := hrg.1
  intro t
  induction t with
  | zero =>
    intro k hk F hF J h1 h2
    obtain ⟨f, rfl⟩ : ∃ f, F = f + 1 := ⟨F - 1, by omega⟩
    have e : k = n := by omega
    subst e
    refine ⟨f, J, by omega, ?_, h2, fun _ _ => rfl⟩
    show b_R_solve_466 (s466 f) (s510 f) x1 (nI k) (i6 sg) (nI k) I J = _
    unfold b_R_solve_466
    rw [if_pos (nI_le (Nat.le_refl _) (by omega))]
    rfl
  | succ t ih =>
    intro k hk F hF J h1 h2
    obtain ⟨f, rfl⟩ : ∃ f, F = f + 1 := ⟨F - 1, by omega⟩
    have fk := f3 k (by omega)
    have vk : vin (nI k) 4 := vp_in_nI (by omega) (by decide)
    have vf : vin (nI (fl k)) 4 := vp_in_nI (by omega) (by decide)
    obtain ⟨J2, e2⟩ : ∃ z : SJ, z = va_up J 15 (vp_updL (J 15) (fl k) (i6 (Z k * sg))) := ⟨_, rfl⟩
    have a2 : ∀ j, j ≠ fl k → J2 15 j = J 15 j := fun j hj => by rw [e2, va_up_self]; unfold vp_updL; rw [if_neg hj]
    have b2 : J2 15 (fl k) = i6 (Z k * sg) := by rw [e2, va_up_self]; unfold vp_updL; rw [if_pos rfl]
    obtain ⟨F2, J3, g1, g2, g3, g4⟩ := ih (k + 1) (by omega) f (by omega) J2 (fun r hr => by rw [e2, va_up_ne _ _ (by decide)]; exact h1 r hr) (fun k' hk' => by
      by_cases e : k' = k
      · subst e; exact b2
      · rw [a2 _ (fun z => e (f5 k' k (by omega) (by omega) z))]; exact h2 k' (by omega))
    refine ⟨F2, J3, by omega, ?_, g3, fun m hm => by rw [g4 m hm, e2, va_up_ne _ _ hm]⟩
    show b_R_solve_466 (s466 f) (s510 f) x1 (nI n) (i6 sg) (nI k) I J = _
    unfold b_R_solve_466
    rw [if_neg (nI_ge (by omega) (by omega))]
    simp only [nm, gd_of vk, nI_clamp (show k < 2 ^ 31 by omega), fk.1]
    rw [show (4 : Int32) = nI 4 from rfl]
    simp only [ix5, gd_of (vin20 (show k < 4 by omega) (show 4 < 5 by omega)), clp (show 5 * k + 4 < 100 by omega), h1 k (by omega), i6_mul]
    have vf' : vin (nI (fl k)) 4 := vf
    rw [gd_of vf', nI_clamp (show fl k < 2 ^ 31 by omega), nI_1, ← e2]
    exact g2
theorem s510_ok (hrg : Rg d) (h : ToR d I) (hw : w ≤ 40) (hx : Fxd fx I) {X : Nat → Int} {u : Int} (u0 : 0 ≤ u) (u1 : u ≤ 384000) (hX : ∀ s, s < dn d → -1000000000 ≤ X s ∧ X s ≤ 1000000000) (hX2 : ∀ s, s < dn d → 0 ≤ fx s → X s = fx s * u) :
    ∀ (t s : Nat), s + t = dn d → ∀ (F : Nat), t < F → ∀ J : SJ, J 0 26 = i6 u → (∀ s', s' < dn d → s' < s ∨ fx s' < 0 → J 15 s' = i6 (X s')) →
      ∃ J2 : SJ, s510 F (nI w) (i6 (sR X s)) (nI s) I J = some (if sR X (dn d) = (w : Int) * u then 1 else 0, I, J2) ∧ (∀ s', s' < dn d → J2 15 s' = i6 (X s')) ∧ ∀ m, m ≠ 15 → J2 m = J m := by
  have hn := hrg.1
  have bd : ∀ m, m ≤ dn d → -1000000000 * (m : Int) ≤ sR X m ∧ sR X m ≤ 1000000000 * (m : Int) := by
    intro m
    induction m with
    | zero => intro _; show _ ≤ (0 : Int) ∧ (0 : Int) ≤ _; omega
    | succ m ih =>
      intro hm
      have i1 := ih (by omega)
      have i2 := hX m (by omega)
      show _ ≤ sR X m + X m ∧ sR X m + X m ≤ _
      omega
  intro t
  induction t with
  | zero =>
    intro s hs F hF J h1 h2
    obtain ⟨f, rfl⟩ : ∃ f, F = f + 1 := ⟨F - 1, by omega⟩
    have e : s = dn d := by omega
    subst e
    refine ⟨J, ?_, fun s' hs' => h2 s' hs' (Or.inl hs'), fun _ _ => rfl⟩
    show b_R_solve_510 (s510 f) (nI w) (i6 (sR X (dn d))) (nI (dn d)) I J = _
    unfold b_R_solve_510
    rw [h.1, if_pos (nI_le (Nat.le_refl _) (by omega))]
    have w6 : (nI w).toInt64 = i6 (w : Int) := by rw [i3_nI, i3_i6 (by omega) (by omega)]
    have b1 := bd (dn d) (Nat.le_refl _)
    have m0 : 0 ≤ (w : Int) * u := Int.mul_nonneg (by omega) u0
    have m1 := mulB (p := (w : Int)) (M := 40) (a := u) (B := 384000) (by omega) (by omega) (by omega) (by omega)
    simp only [nm, w6, h1, i6_mul, cmp_eq (a := sR X (dn d)) (b := (w : Int) * u) (by omega) (by omega) (by omega) (by omega)]
    by_cases c : sR X (dn d) = (w : Int) * u
    · rw [if_pos c, if_pos c]
    · rw [if_neg c, if_neg c]
  | succ t ih =>
    intro s hs F hF J h1 h2
    obtain ⟨f, rfl⟩ : ∃ f, F = f + 1 := ⟨F - 1, by omega⟩
    have hs4 : s < 4 := by omega
    have vs : vin (nI s) 4 := vp_in_nI hs4 (by decide)
    have ks : (nI s).toNatClampNeg = s := nI_clamp (Nat.lt_trans hs4 (by decide))
    have hf := hx s hs4
    obtain ⟨J2, e2⟩ : ∃ z : SJ, z = va_up J 15 (vp_updL (J 15) s (i6 (X s))) := ⟨_, rfl⟩
    have a2 : ∀ j, j ≠ s → J2 15 j = J 15 j := fun j hj => by rw [e2, va_up_self]; unfold vp_updL; rw [if_neg hj]
    have b2 : J2 15 s = i6 (X s) := by rw [e2, va_up_self]; unfold vp_updL; rw [if_pos rfl]
    have c2 : ∀ m, m ≠ 15 → J2 m = J m := fun m hm => by rw [e2, va_up_ne _ _ hm]
    have st : s510 (f + 1) (nI w) (i6 (sR X s)) (nI s) I J = s510 f (nI w) (i6 (sR X (s + 1))) (nI (s + 1)) I J2 := by
      show b_R_solve_510 (s510 f) (nI w) (i6 (sR X s)) (nI s) I J = _
      unfold b_R_solve_510
      have z0 : (0 : Int32) ≤ i3 (fx s) ↔ 0 ≤ fx s := i3_le (a := 0) (b := fx s) (by omega) (by omega) (by omega) (by omega)
      rw [h.1, if_neg (nI_ge (by omega) (by omega))]
      simp only [nm, gd_of vs, ks, hf.1, i3_i6 (show -2147483648 ≤ fx s by omega) (show fx s < 2147483648 by omega), z0, h1, i6_mul, nI_1]
      by_cases cx : 0 ≤ fx s
      · rw [if_pos cx, ← hX2 s (by omega) cx, ← e2, b2, i6_add]
        rfl
      · have hj := h2 s (by omega) (Or.inr (by omega))
        rw [if_neg cx, hj, ← e2, b2, i6_add]
        rfl
    obtain ⟨J3, g1, g2, g3⟩ := ih (s + 1) (by omega) f (by omega) J2 (by rw [c2 0 (by decide)]; exact h1) (fun s' hs' hc => by
      by_cases e : s' = s
      · subst e; exact b2
      · rw [a2 s' e]; exact h2 s' hs' (hc.imp (fun z => by omega) id))
    exact ⟨J3, by rw [st]; exact g1, g2, fun m hm => by rw [g3 m hm, c2 m hm]⟩
end SO
