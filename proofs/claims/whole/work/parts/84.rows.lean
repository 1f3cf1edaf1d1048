/-! The reference's rows: how they are filled. -/
abbrev s7 (F : Nat) := (g_R_solve F).1
abbrev s39 (F : Nat) := (g_R_solve F).2.1
abbrev s107 (F : Nat) := (g_R_solve F).2.2.1
def sQ (f : Nat → Rat) : Nat → Rat
  | 0 => 0
  | m + 1 => sQ f m + f m
theorem sR_cast (f : Nat → Int) : ∀ m, ((sR f m : Int) : Rat) = sQ (fun s => (f s : Rat)) m
  | 0 => rfl
  | m + 1 => by
    show ((sR f m + f m : Int) : Rat) = _
    rw [Rat.intCast_add, sR_cast f m]
    rfl
def fxz (fx : Nat → Int) (s : Nat) : Int := if fx s < 0 then 0 else fx s
def cfR (d : Dt) (ch : Nat → Nat) (r s : Nat) : Int := if r = 0 then 1 else fac d (ch (r - 1)) s
def rtR (d : Dt) (w : Nat) (ch : Nat → Nat) (r : Nat) : Int := if r = 0 then (w : Int) else rgt d w (ch (r - 1))
def Arw (d : Dt) (w : Nat) (fx : Nat → Int) (fl ch : Nat → Nat) (r k : Nat) : Int := if k = 4 then rtR d w ch r - sR (fun s => cfR d ch r s * fxz fx s) (dn d) else cfR d ch r (fl k)
/-- which stuffs are fixed -/
def Fxd (fx : Nat → Int) (I : SI) : Prop := ∀ s, s < 4 → I 12 s = i3 (fx s) ∧ -1 ≤ fx s ∧ fx s ≤ 40
/-- which stuffs are free: all others -/
def Fre (d : Dt) (fx : Nat → Int) (n : Nat) (fl : Nat → Nat) (I : SI) : Prop := I 0 23 = nI n ∧ n ≤ 4 ∧ (∀ k, k < n → I 13 k = nI (fl k) ∧ fl k < dn d ∧ fx (fl k) < 0) ∧ (∀ s, s < dn d → fx s < 0 → ∃ k, k < n ∧ fl k = s) ∧ (∀ j k, j < n → k < n → fl j = fl k → j = k) ∧ ∀ f : Nat → Rat, sQ f (dn d) = sQ (fun k => f (fl k)) n + sQ (fun s => if fx s < 0 then 0 else f s) (dn d)
/-- which bounds are chosen -/
def Chn (ch : Nat → Nat) (I : SI) : Prop := ∀ r, r < 3 → ch r < 22 ∧ I 16 r = nI (ch r)
section RW
variable {d : Dt} {w n : Nat} {I : SI} {fx : Nat → Int} {fl ch : Nat → Nat}
theorem s39_ok (hrg : Rg d) (h : ToR d I) (hx : Fxd fx I) (hc : Chn ch I) {r : Nat} (hr : r < 4) {x2 : Int32} {J : SJ} :
    ∀ (t s : Nat), s + t = dn d → ∀ (F : Nat), t < F → ∀ a : Int, ∃ F2, F = F2 + (t + 1) ∧ s39 F (nI w) x2 (nI r) (i6 a) (nI s) I J = s107 F2 (nI w) x2 (nI r) (i6 (a - (sR (fun s => cfR d ch r s * fxz fx s) (dn d) - sR (fun s => cfR d ch r s * fxz fx s) s))) 0 I J := by
  have hn := hrg.1
  intro t
  induction t with
  | zero =>
    intro s hs F hF a
    obtain ⟨f, rfl⟩ : ∃ f, F = f + 1 := ⟨F - 1, by omega⟩
    have e : s = dn d := by omega
    subst e
    refine ⟨f, by omega, ?_⟩
    show b_R_solve_39 (s39 f) (s107 f) (nI w) x2 (nI r) (i6 a) (nI (dn d)) I J = _
    unfold b_R_solve_39
    rw [h.1, if_pos (nI_le (Nat.le_refl _) (by omega)), Int.sub_self, Int.sub_zero]
  | succ t ih =>
    intro s hs F hF a
    obtain ⟨f, rfl⟩ : ∃ f, F = f + 1 := ⟨F - 1, by omega⟩
    have hs4 : s < 4 := by omega
    have vs : vin (nI s) 4 := vp_in_nI hs4 (by decide)
    have ks : (nI s).toNatClampNeg = s := nI_clamp (Nat.lt_trans hs4 (by decide))
    have hf := hx s hs4
    have e2 : sR (fun s => cfR d ch r s * fxz fx s) (s + 1) = sR (fun s => cfR d ch r s * fxz fx s) s + cfR d ch r s * fxz fx s := rfl
    have st : s39 (f + 1) (nI w) x2 (nI r) (i6 a) (nI s) I J = s39 f (nI w) x2 (nI r) (i6 (a - cfR d ch r s * fxz fx s)) (nI (s + 1)) I J := by
      show b_R_solve_39 (s39 f) (s107 f) (nI w) x2 (nI r) (i6 a) (nI s) I J = _
      unfold b_R_solve_39
      rw [h.1, if_neg (nI_ge (by omega) (by omega))]
      simp only [nm, gd_of vs, ks, hf.1, i3_i6 (show -2147483648 ≤ fx s by omega) (show fx s < 2147483648 by omega)]
      have z0 : (0 : Int32) ≤ i3 (fx s) ↔ 0 ≤ fx s := by
        have := i3_le (a := 0) (b := fx s) (by omega) (by omega) (by omega) (by omega)
        exact this
      simp only [z0]
      unfold fxz cfR
      by_cases cx : fx s < 0
      · rw [if_neg (by omega), if_pos cx, Int.mul_zero, show (0 : Int64) = i6 0 from i6_0, i6_sub, nI_1]
      · rw [if_pos (by omega), if_neg cx]
        by_cases c0 : r = 0
        · rw [if_pos (show nI r = 0 by rw [c0]; rfl), if_pos c0, show (1 : Int64) = i6 1 from by decide, i6_mul, i6_sub, nI_1]
        · have er : nI r - 1 = nI (r - 1) := pk_sub (a := r) (b := 1) (by omega)
          have vr : vin (nI (r - 1)) 3 := vp_in_nI (by omega) (by decide)
          rw [if_neg (show ¬ nI r = 0 from fun z => c0 ((nI_inj (b := 0) (by omega) (by decide)).mp z)), if_neg c0]
          simp only [er, gd_of vr, nI_clamp (show r - 1 < 2 ^ 31 by omega), (hc (r - 1) (by omega)).2, r_factor hrg h (hc (r - 1) (by omega)).1 hs4, cl3, hf.1, i3_i6 (show -2147483648 ≤ fx s by omega) (show fx s < 2147483648 by omega), i6_mul, i6_sub, nI_1]
    obtain ⟨F2, g1, g2⟩ := ih (s + 1) (by omega) f (by omega) (a - cfR d ch r s * fxz fx s)
    refine ⟨F2, by omega, ?_⟩
    rw [st, g2, e2]
    congr 2
    omega
theorem s107_ok (hrg : Rg d) (h : ToR d I) (hf : Fre d fx n fl I) (hc : Chn ch I) {r : Nat} (hr : r < 4) {a : Int} {x1 : Int32} :
    ∀ (t k : Nat), k + t = n → ∀ (F : Nat), t < F → ∀ J : SJ, (∀ k', k' < k → J 14 (5 * r + k') = i6 (cfR d ch r (fl k'))) →
      ∃ (F2 : Nat) (J2 : SJ), F = F2 + (t + 1) ∧ s107 F x1 (nI n) (nI r) (i6 a) (nI k) I J = s7 F2 x1 (nI n) (nI (r + 1)) I J2 ∧ (∀ k', k' < n → k' ≠ 4 → J2 14 (5 * r + k') = i6 (cfR d ch r (fl k'))) ∧ J2 14 (5 * r + 4) = i6 a ∧ (∀ j, j < 5 * r → J2 14 j = J 14 j) ∧ ∀ m, m ≠ 14 → J2 m = J m := by
  obtain ⟨f1, f2, f3, f4, f5, f6⟩ := hf
  have hn := hrg.1
  intro t
  induction t with
  | zero =>
    intro k hk F hF J h1
    obtain ⟨f, rfl⟩ : ∃ f, F = f + 1 := ⟨F - 1, by omega⟩
    have e : k = n := by omega
    subst e
    obtain ⟨J2, e2⟩ : ∃ z : SJ, z = va_up J 14 (vp_updL (J 14) (5 * r + 4) (i6 a)) := ⟨_, rfl⟩
    have a2 : ∀ j, j ≠ 5 * r + 4 → J2 14 j = J 14 j := fun j hj => by rw [e2, va_up_self]; unfold vp_updL; rw [if_neg hj]
    refine ⟨f, J2, by omega, ?_, fun k' k1 k2 => by rw [a2 _ (by omega)]; exact h1 k' k1, by rw [e2, va_up_self]; unfold vp_updL; rw [if_pos rfl], fun j hj => a2 j (by omega), fun m hm => by rw [e2, va_up_ne _ _ hm]⟩
    show b_R_solve_107 (s7 f) (s107 f) x1 (nI k) (nI r) (i6 a) (nI k) I J = _
    unfold b_R_solve_107
    rw [if_pos (nI_le (Nat.le_refl _) (by omega))]
    simp only [nm]
    rw [show (4 : Int32) = nI 4 from rfl]
    simp only [ix5, gd_of (vin20 hr (show 4 < 5 by omega)), clp (show 5 * r + 4 < 100 by omega), nI_1]
    rw [← e2]
  | succ t ih =>
    intro k hk F hF J h1
    obtain ⟨f, rfl⟩ : ∃ f, F = f + 1 := ⟨F - 1, by omega⟩
    have hk4 : k < 4 := by omega
    have fk := f3 k (by omega)
    obtain ⟨J2, e2⟩ : ∃ z : SJ, z = va_up J 14 (vp_updL (J 14) (5 * r + k) (i6 (cfR d ch r (fl k)))) := ⟨_, rfl⟩
    have a2 : ∀ j, j ≠ 5 * r + k → J2 14 j = J 14 j := fun j hj => by rw [e2, va_up_self]; unfold vp_updL; rw [if_neg hj]
    have b2 : J2 14 (5 * r + k) = i6 (cfR d ch r (fl k)) := by rw [e2, va_up_self]; unfold vp_updL; rw [if_pos rfl]
    obtain ⟨F2, J3, g1, g2, g3, g4, g5, g6⟩ := ih (k + 1) (by omega) f (by omega) J2 (fun k' hk' => by
      by_cases e : k' = k
      · subst e; exact b2
      · rw [a2 _ (by omega)]; exact h1 k' (by omega))
    refine ⟨F2, J3, by omega, ?_, g3, g4, fun j hj => by rw [g5 j hj, a2 j (by omega)], fun m hm => by rw [g6 m hm, e2, va_up_ne _ _ hm]⟩
    show b_R_solve_107 (s7 f) (s107 f) x1 (nI n) (nI r) (i6 a) (nI k) I J = _
    unfold b_R_solve_107
    rw [if_neg (nI_ge (by omega) (by omega))]
    simp only [nm, ix5]
    by_cases c0 : r = 0
    · rw [if_pos (show nI r = 0 by rw [c0]; rfl)]
      have e1 : cfR d ch r (fl k) = 1 := by unfold cfR; rw [if_pos c0]
      rw [e1] at e2
      simp only [gd_of (vin20 hr (show k < 5 by omega)), clp (show 5 * r + k < 100 by omega), nI_1]
      rw [show (1 : Int64) = i6 1 from by decide, ← e2]
      exact g2
    · have er : nI r - 1 = nI (r - 1) := pk_sub (a := r) (b := 1) (by omega)
      have vr : vin (nI (r - 1)) 3 := vp_in_nI (by omega) (by decide)
      have vk : vin (nI k) 4 := vp_in_nI hk4 (by decide)
      rw [if_neg (show ¬ nI r = 0 from fun z => c0 ((nI_inj (b := 0) (by omega) (by decide)).mp z))]
      have e1 : cfR d ch r (fl k) = fac d (ch (r - 1)) (fl k) := by unfold cfR; rw [if_neg c0]
      simp only [er, gd_of vr, gd_of vk, nI_clamp (show r - 1 < 2 ^ 31 by omega), nI_clamp (show k < 2 ^ 31 by omega), (hc (r - 1) (by omega)).2, fk.1, r_factor hrg h (hc (r - 1) (by omega)).1 (show fl k < 4 by omega), cl3, gd_of (vin20 hr (show k < 5 by omega)), clp (show 5 * r + k < 100 by omega), nI_1]
      rw [← e1, ← e2]
      exact g2
theorem s7_ok (hrg : Rg d) (h : ToR d I) (hw : w ≤ 40) (hx : Fxd fx I) (hf : Fre d fx n fl I) (hc : Chn ch I) :
    ∀ (t r : Nat), r + t = n → ∀ (F : Nat), 20 * t < F → ∀ J : SJ, (∀ r', r' < r → ∀ k, k < 5 → (k = 4 ∨ k < n) → J 14 (5 * r' + k) = i6 (Arw d w fx fl ch r' k)) →
      ∃ (F2 : Nat) (J2 : SJ), F ≤ F2 + (20 * t + 1) ∧ s7 F (nI w) (nI n) (nI r) I J = s180 F2 (nI w) (nI n) (i6 1) (nI 0) I J2 ∧ (∀ r', r' < n → ∀ k, k < 5 → (k = 4 ∨ k < n) → J2 14 (5 * r' + k) = i6 (Arw d w fx fl ch r' k)) ∧ ∀ m, m ≠ 14 → J2 m = J m := by
  have hn := hrg.1
  have hn4 := hf.2.1
  intro t
  induction t with
  | zero =>
    intro r hr F hF J h1
    obtain ⟨f, rfl⟩ : ∃ f, F = f + 1 := ⟨F - 1, by omega⟩
    have e : r = n := by omega
    subst e
    refine ⟨f, J, by omega, ?_, h1, fun _ _ => rfl⟩
    show b_R_solve_7 (s39 f) (s180 f) (nI w) (nI r) (nI r) I J = _
    unfold b_R_solve_7
    rw [if_pos (nI_le (Nat.le_refl _) (by omega))]
    rfl
  | succ t ih =>
    intro r hr F hF J h1
    obtain ⟨f, rfl⟩ : ∃ f, F = f + 1 := ⟨F - 1, by omega⟩
    have hr4 : r < 4 := by omega
    have st : s7 (f + 1) (nI w) (nI n) (nI r) I J = s39 f (nI w) (nI n) (nI r) (i6 (rtR d w ch r)) (nI 0) I J := by
      show b_R_solve_7 (s39 f) (s180 f) (nI w) (nI n) (nI r) I J = _
      unfold b_R_solve_7 rtR
      rw [if_neg (nI_ge (by omega) (by omega))]
      by_cases c0 : r = 0
      · rw [if_pos (show nI r = 0 by rw [c0]; rfl), if_pos c0]
        have w6 : (nI w).toInt64 = i6 (w : Int) := by rw [i3_nI, i3_i6 (by omega) (by omega)]
        simp only [nm, w6]
        rfl
      · have er : nI r - 1 = nI (r - 1) := pk_sub (a := r) (b := 1) (by omega)
        have vr : vin (nI (r - 1)) 3 := vp_in_nI (by omega) (by decide)
        rw [if_neg (show ¬ nI r = 0 from fun z => c0 ((nI_inj (b := 0) (by omega) (by decide)).mp z)), if_neg c0]
        simp only [nm, er, gd_of vr, nI_clamp (show r - 1 < 2 ^ 31 by omega), (hc (r - 1) (by omega)).2, r_right hrg h hw (hc (r - 1) (by omega)).1, cl3]
        rfl
    obtain ⟨F2, g1, g2⟩ := s39_ok (w := w) (x2 := nI n) (J := J) hrg h hx hc hr4 (dn d) 0 (by omega) f (by omega) (rtR d w ch r)
    rw [show (0 : Int32) = nI 0 from rfl, show sR (fun s => cfR d ch r s * fxz fx s) 0 = 0 from rfl, Int.sub_zero] at g2
    obtain ⟨F3, J3, k1, k2, k3, k4, k5, k6⟩ := s107_ok (x1 := nI w) hrg h hf hc hr4 (a := rtR d w ch r - sR (fun s => cfR d ch r s * fxz fx s) (dn d)) n 0 (by omega) F2 (by omega) J (fun k' hk' => by omega)
    obtain ⟨F4, J4, m1, m2, m3, m4⟩ := ih (r + 1) (by omega) F3 (by omega) J3 (fun r' hr' k hk hV => by
      by_cases e : r' = r
      · subst e
        unfold Arw
        by_cases e4 : k = 4
        · subst e4; rw [if_pos rfl]; exact k4
        · rw [if_neg e4]
          exact k3 k (by omega) e4
      · rw [k5 _ (by omega)]
        exact h1 r' (by omega) k hk hV)
    refine ⟨F4, J4, by omega, ?_, m3, fun m hm => by rw [m4 m hm, k6 m hm]⟩
    rw [st, g2, k2, m2]
end RW
