/-! The free stuffs; corners, all of it. -/
section CP
variable {d : Dt} {w n m : Nat} {fx : Nat → Int} {fl : Nat → Nat} {S : Nat → Prop}
/-- the free stuffs below s -/
def FrS (fx : Nat → Int) (s n : Nat) (fl : Nat → Nat) (I : SI) : Prop := I 0 23 = nI n ∧ n ≤ s ∧ (∀ k, k < n → I 13 k = nI (fl k) ∧ fl k < s ∧ fx (fl k) < 0) ∧ (∀ s', s' < s → fx s' < 0 → ∃ k, k < n ∧ fl k = s') ∧ (∀ j k, j < n → k < n → fl j = fl k → j = k) ∧ ∀ f : Nat → Rat, sQ f s = sQ (fun k => f (fl k)) n + sQ (fun s => if fx s < 0 then 0 else f s) s
theorem c7_ok (hrg : Rg d) {x1 x2 : Int32} {J : SJ} : ∀ (t s : Nat), s + t = dn d → ∀ (F : Nat), t < F → ∀ (I : SI) (n : Nat) (fl : Nat → Nat), ToR d I → Fxd fx I → FrS fx s n fl I →
    ∃ (F2 n2 : Nat) (fl2 : Nat → Nat) (I2 : SI), F = F2 + (t + 1) ∧ c7 F x1 x2 (nI s) I J = c72 F2 x1 x2 (nI n2 - 1) 1 (if n2 ≤ 1 then nI 21 else nI 0) I2 J ∧ FrS fx (dn d) n2 fl2 I2 ∧ (∀ k, k ≠ 0 → k ≠ 13 → I2 k = I k) ∧ ∀ j, j ≠ 23 → I2 0 j = I 0 j := by
  have hn := hrg.1
  intro t
  induction t with
  | zero =>
    intro s hs F hF I n fl h hx hf
    obtain ⟨f, rfl⟩ : ∃ f, F = f + 1 := ⟨F - 1, by omega⟩
    have e : s = dn d := by omega
    subst e
    refine ⟨f, n, fl, I, by omega, ?_, hf, fun _ _ _ => rfl, fun _ _ => rfl⟩
    show b_R_corners_7 (c7 f) (c72 f) x1 x2 (nI (dn d)) I J = _
    unfold b_R_corners_7
    have := hf.2.1
    rw [h.1, if_pos (nI_le (Nat.le_refl _) (by omega))]
    simp only [nm, hf.1, wt0 n (by omega)]
    by_cases q : n ≤ 1
    · rw [if_pos q, if_pos q]; rfl
    · rw [if_neg q, if_neg q]; rfl
  | succ t ih =>
    intro s hs F hF I n fl h hx hf
    obtain ⟨f, rfl⟩ : ∃ f, F = f + 1 := ⟨F - 1, by omega⟩
    obtain ⟨f1, f2, f3, f4, f5, f6⟩ := hf
    have hs4 : s < 4 := by omega
    have vs : vin (nI s) 4 := vp_in_nI hs4 (by decide)
    have ks : (nI s).toNatClampNeg = s := nI_clamp (Nat.lt_trans hs4 (by decide))
    have hxs := hx s hs4
    have z0 : (0 : Int32) ≤ i3 (fx s) ↔ 0 ≤ fx s := i3_le (a := 0) (b := fx s) (by omega) (by omega) (by omega) (by omega)
    by_cases c : 0 ≤ fx s
    · have st : c7 (f + 1) x1 x2 (nI s) I J = c7 f x1 x2 (nI (s + 1)) I J := by
        show b_R_corners_7 (c7 f) (c72 f) x1 x2 (nI s) I J = _
        unfold b_R_corners_7
        rw [h.1, if_neg (nI_ge (by omega) (by omega))]
        simp only [nm, gd_of vs, ks, hxs.1, z0, nI_1]
        rw [if_pos c]
      obtain ⟨F2, n2, fl2, I2, g1, g2, g3, g4, g5⟩ := ih (s + 1) (by omega) f (by omega) I n fl h hx ⟨f1, by omega, fun k hk => ⟨(f3 k hk).1, by have := (f3 k hk).2.1; omega, (f3 k hk).2.2⟩, fun s' h1 h2 => by
          by_cases e : s' = s
          · subst e; omega
          · exact f4 s' (by omega) h2, f5, fun g => by
          show sQ g s + g s = _ + (sQ (fun s => if fx s < 0 then 0 else g s) s + (if fx s < 0 then 0 else g s))
          rw [f6 g, if_neg (by omega)]
          generalize sQ (fun k => g (fl k)) n = q1
          generalize sQ (fun s => if fx s < 0 then 0 else g s) s = q2
          generalize g s = q3
          grind⟩
      exact ⟨F2, n2, fl2, I2, by omega, by rw [st]; exact g2, g3, g4, g5⟩
    · obtain ⟨I1, e1⟩ : ∃ z : SI, z = va_up I 13 (upd (I 13) n (nI s)) := ⟨_, rfl⟩
      obtain ⟨I2, e2⟩ : ∃ z : SI, z = va_up I1 0 (upd (I1 0) 23 (nI (n + 1))) := ⟨_, rfl⟩
      have vn : vin (nI n) 4 := vp_in_nI (by omega) (by decide)
      have i1 : I1 0 = I 0 := by rw [e1, va_up_ne _ _ (by decide)]
      have k2 : ∀ k, k ≠ 0 → k ≠ 13 → I2 k = I k := fun k a b => by rw [e2, va_up_ne _ _ a, e1, va_up_ne _ _ b]
      have j2 : ∀ j, j ≠ 23 → I2 0 j = I 0 j := fun j hj => by rw [e2, va_up_self]; unfold upd; rw [if_neg hj, i1]
      have n2' : I2 0 23 = nI (n + 1) := by rw [e2, va_up_self]; unfold upd; rw [if_pos rfl]
      have m2 : ∀ k, I2 13 k = if k = n then nI s else I 13 k := fun k => by rw [e2, va_up_ne _ _ (by decide), e1, va_up_self]; rfl
      have st : c7 (f + 1) x1 x2 (nI s) I J = c7 f x1 x2 (nI (s + 1)) I2 J := by
        show b_R_corners_7 (c7 f) (c72 f) x1 x2 (nI s) I J = _
        unfold b_R_corners_7
        rw [h.1, if_neg (nI_ge (by omega) (by omega))]
        simp only [nm, gd_of vs, ks, hxs.1, z0, nI_1]
        rw [if_neg c, f1, gd_of vn, nI_clamp (show n < 2 ^ 31 by omega), ← e1, i1, f1, nI_1, ← i1, ← e2]
      have kr : KpR I I2 := ⟨fun k a b _ => k2 k a b, fun j a _ => j2 j a⟩
      obtain ⟨fm, efm⟩ : ∃ fm : Nat → Nat, fm = fun k => if k = n then s else fl k := ⟨_, rfl⟩
      have fl' : ∀ k, k < n → fm k = fl k := fun k hk => by rw [efm]; show (if k = n then s else fl k) = _; rw [if_neg (by omega)]
      have fln : fm n = s := by rw [efm]; show (if n = n then s else fl n) = _; rw [if_pos rfl]
      have h3 : ∀ k, k < n + 1 → I2 13 k = nI (fm k) ∧ fm k < s + 1 ∧ fx (fm k) < 0 := fun k hk => by
        rw [m2]
        by_cases e : k = n
        · subst e
          rw [fln, if_pos rfl]
          exact ⟨rfl, by omega, by omega⟩
        · rw [fl' k (by omega), if_neg e]
          have := f3 k (by omega)
          exact ⟨this.1, by omega, this.2.2⟩
      have h4 : ∀ s', s' < s + 1 → fx s' < 0 → ∃ k, k < n + 1 ∧ fm k = s' := fun s' h1 h2 => by
        by_cases e : s' = s
        · subst e; exact ⟨n, by omega, fln⟩
        · obtain ⟨k, hk, ek⟩ := f4 s' (by omega) h2
          exact ⟨k, by omega, by rw [fl' k hk]; exact ek⟩
      have h5 : ∀ j k, j < n + 1 → k < n + 1 → fm j = fm k → j = k := fun j k hj hk he => by
        by_cases ej : j = n
        · by_cases ek : k = n
          · omega
          · rw [ej, fln, fl' k (by omega)] at he
            have := (f3 k (by omega)).2.1
            omega
        · by_cases ek : k = n
          · rw [ek, fln, fl' j (by omega)] at he
            have := (f3 j (by omega)).2.1
            omega
          · rw [fl' j (by omega), fl' k (by omega)] at he
            exact f5 j k (by omega) (by omega) he
      have h6 : ∀ g : Nat → Rat, sQ g (s + 1) = sQ (fun k => g (fm k)) (n + 1) + sQ (fun s => if fx s < 0 then 0 else g s) (s + 1) := fun g => by
        have e3 : sQ (fun k => g (fm k)) n = sQ (fun k => g (fl k)) n := sQ_congr (fun k hk => by rw [fl' k hk])
        show sQ g s + g s = (sQ (fun k => g (fm k)) n + g (fm n)) + (sQ (fun s => if fx s < 0 then 0 else g s) s + (if fx s < 0 then 0 else g s))
        rw [e3, fln, if_pos (by omega), f6 g]
        generalize sQ (fun k => g (fl k)) n = q1
        generalize sQ (fun s => if fx s < 0 then 0 else g s) s = q2
        generalize g s = q3
        grind
      obtain ⟨F2, n2, fl2, I3, g1, g2, g3, g4, g5⟩ := ih (s + 1) (by omega) f (by omega) I2 (n + 1) fm (ToR_kp h kr) (fun s' hs' => by rw [k2 12 (by decide) (by decide)]; exact hx s' hs') ⟨n2', by omega, h3, h4, h5, h6⟩
      exact ⟨F2, n2, fl2, I3, by omega, by rw [st]; exact g2, g3, fun k a b => by rw [g4 k a b, k2 k a b], fun j hj => by rw [g5 j hj, j2 j hj]⟩
theorem corners_ok (hrg : Rg d) (hw : w ≤ 40) (hm : m = 0 ∨ m = 1) {I : SI} {J : SJ} (h : ToR d I) (hx : Fxd fx I) (hS : Cts S I) {P : Rat → Rat → Rat → Prop} (hP : RB d w I J P) :
    ∃ (I2 : SI) (J2 : SJ) (n : Nat) (fl : Nat → Nat) (Y : Rat → Rat → Rat → Prop), m_R_corners (nI w) (nI m) I J = some (I2, J2) ∧ KpR I I2 ∧ KpJ J J2 ∧ Fre d fx n fl I2 ∧ RB d w I2 J2 (fun x y z => P x y z ∨ Y x y z) ∧ (∀ x y z, Y x y z → Qr d w S fx x y z) ∧ (Cp1 d w fx n S (if n ≤ 1 then 21 else 0) Y ∨ (m = 1 ∧ I2 0 28 = 1)) := by
  have hn := hrg.1
  obtain ⟨I1, e1⟩ : ∃ z : SI, z = va_up I 0 (upd (I 0) 23 0) := ⟨_, rfl⟩
  have k1 : ∀ k, k ≠ 0 → I1 k = I k := fun k hk => by rw [e1, va_up_ne _ _ hk]
  have j1 : ∀ j, j ≠ 23 → I1 0 j = I 0 j := fun j hj => by rw [e1, va_up_self]; unfold upd; rw [if_neg hj]
  have n1 : I1 0 23 = 0 := by rw [e1, va_up_self]; unfold upd; rw [if_pos rfl]
  have kr1 : KpR I I1 := ⟨fun k a _ _ => k1 k a, fun j a _ => j1 j a⟩
  obtain ⟨F2, n, fl, I2, g1, g2, g3, g4, g5⟩ := c7_ok (x1 := nI w) (x2 := nI m) (J := J) hrg (dn d) 0 (by omega) fuel (by unfold fuel; omega) I1 0 (fun _ => 0) (ToR_kp h kr1) (fun s hs => by rw [k1 12 (by decide)]; exact hx s hs) ⟨n1, by omega, fun k hk => by omega, fun s' hs' => by omega, fun j k hj => by omega, fun f => by show (0 : Rat) = 0 + 0; grind⟩
  obtain ⟨f1, f2, f3⟩ := g3
  have hF : Fre d fx n fl I2 := ⟨f1, by omega, f3⟩
  have kr2 : KpR I1 I2 := ⟨fun k a b _ => g4 k a b, fun j a _ => g5 j a⟩
  have hE : EnC d fx n fl S I2 := ⟨ToR_kp h (KpR_trans kr1 kr2), fun s hs => by rw [g4 12 (by decide) (by decide), k1 12 (by decide)]; exact hx s hs, hF, fun b hb => by rw [g4 11 (by decide) (by decide), k1 11 (by decide)]; exact hS b hb⟩
  have hP2 : RB d w I2 J P := RB_same hP (by rw [g5 28 (by decide), j1 28 (by decide)]) rfl rfl
  obtain ⟨lo, elo⟩ : ∃ lo, lo = if n ≤ 1 then 21 else 0 := ⟨_, rfl⟩
  have hlo : lo ≤ 22 := by rw [elo]; split <;> omega
  have fuelb : fuel = 1000000 := rfl
  obtain ⟨I3, J3, Y, q1, q2, q3, q4, q5, q6⟩ := c72_ok (m := m) (P := P) hrg hw (show n ≤ 4 by omega) hm (22 - lo) lo (by omega) F2 (by omega) I2 J 1 hE hP2 (Or.inl rfl)
  refine ⟨I3, J3, n, fl, Y, ?_, KpR_trans (KpR_trans kr1 kr2) (KpC_R q2), q3, (EnC_kp hE q2).2.2.1, q4, q5, ?_⟩
  · unfold m_R_corners b_R_corners_0
    simp only [nm]
    rw [← e1, show (0 : Int32) = nI 0 from rfl]
    have e : (if n ≤ 1 then nI 21 else nI 0) = nI lo := by
      rw [elo]
      split <;> rfl
    rw [e] at g2
    exact g2.trans q1
  · rw [← elo]
    exact q6.imp (fun z => z.2) id
end CP
