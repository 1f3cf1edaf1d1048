/-! What look does. -/
def KpR (I I2 : SI) : Prop := (∀ k, k ≠ 0 → k ≠ 13 → k ≠ 16 → I2 k = I k) ∧ ∀ j, j ≠ 23 → j ≠ 28 → I2 0 j = I 0 j
def KpJ (J J2 : SJ) : Prop := (∀ k, k ≠ 0 → k ≠ 14 → k ≠ 15 → k ≠ 17 → J2 k = J k) ∧ ∀ j, j ≠ 26 → j ≠ 30 → J2 0 j = J 0 j
theorem KpR_refl (I : SI) : KpR I I := ⟨fun _ _ _ _ => rfl, fun _ _ _ => rfl⟩
theorem KpJ_refl (J : SJ) : KpJ J J := ⟨fun _ _ _ _ _ => rfl, fun _ _ _ => rfl⟩
theorem KpR_trans {I I2 I3 : SI} (h : KpR I I2) (h2 : KpR I2 I3) : KpR I I3 := ⟨fun k a b c => by rw [h2.1 k a b c, h.1 k a b c], fun j a b => by rw [h2.2 j a b, h.2 j a b]⟩
theorem KpJ_trans {J J2 J3 : SJ} (h : KpJ J J2) (h2 : KpJ J2 J3) : KpJ J J3 := ⟨fun k a b c e => by rw [h2.1 k a b c e, h.1 k a b c e], fun j a b => by rw [h2.2 j a b, h.2 j a b]⟩
theorem ToR_kp {d : Dt} {I I2 : SI} (h : ToR d I) (hk : KpR I I2) : ToR d I2 := by
  obtain ⟨a0, a1, a2, a3, a4, a5, a6, a7, a8⟩ := h
  refine ⟨by rw [hk.2 0 (by decide) (by decide)]; exact a0, ?_⟩
  rw [hk.1 1 (by decide) (by decide) (by decide), hk.1 2 (by decide) (by decide) (by decide), hk.1 3 (by decide) (by decide) (by decide), hk.1 4 (by decide) (by decide) (by decide), hk.1 5 (by decide) (by decide) (by decide), hk.1 6 (by decide) (by decide) (by decide), hk.1 7 (by decide) (by decide) (by decide), hk.1 8 (by decide) (by decide) (by decide)]
  exact ⟨a1, a2, a3, a4, a5, a6, a7, a8⟩
/-- nothing but the flag changes -/
def KpF (I I2 : SI) : Prop := (∀ k, k ≠ 0 → I2 k = I k) ∧ ∀ j, j ≠ 28 → I2 0 j = I 0 j
theorem KpF_refl (I : SI) : KpF I I := ⟨fun _ _ => rfl, fun _ _ => rfl⟩
theorem KpF_R {I I2 : SI} (h : KpF I I2) : KpR I I2 := ⟨fun k a _ _ => h.1 k a, fun j _ b => h.2 j b⟩
section LO
variable {d : Dt} {w n : Nat} {fx : Nat → Int} {fl ch : Nat → Nat} {S : Nat → Prop}
theorem copy_ok (hrg : Rg d) {I : SI} (h : ToR d I) {X : Nat → Int} {u : Int} : ∀ (t s : Nat), s + t = dn d → ∀ (F : Nat), t < F → ∀ J : SJ, (∀ s', s' < dn d → J 15 s' = i6 (X s')) → J 0 26 = i6 u → (∀ s', s' < s → J 17 s' = i6 (X s')) →
    ∃ J2 : SJ, g_R_look F (nI s) I J = some (1, va_up I 0 (upd (I 0) 28 1), J2) ∧ (∀ s', s' < dn d → J2 17 s' = i6 (X s')) ∧ J2 0 30 = i6 u ∧ (∀ j, j ≠ 30 → J2 0 j = J 0 j) ∧ ∀ m, m ≠ 0 → m ≠ 17 → J2 m = J m := by
  have hn := hrg.1
  intro t
  induction t with
  | zero =>
    intro s hs F hF J h1 h2 h3
    obtain ⟨f, rfl⟩ : ∃ f, F = f + 1 := ⟨F - 1, by omega⟩
    have e : s = dn d := by omega
    subst e
    refine ⟨va_up J 0 (vp_updL (J 0) 30 (J 0 26)), ?_, fun s' hs' => by rw [va_up_ne _ _ (by decide)]; exact h3 s' hs', ?_, fun j hj => ?_, fun m m1 m2 => by rw [va_up_ne _ _ m1]⟩
    · show b_R_look_34 (g_R_look f) (nI (dn d)) I J = _
      unfold b_R_look_34
      rw [h.1, if_pos (nI_le (Nat.le_refl _) (by omega))]
      rfl
    · rw [va_up_self]; unfold vp_updL; rw [if_pos rfl]; exact h2
    · rw [va_up_self]; unfold vp_updL; rw [if_neg hj]
  | succ t ih =>
    intro s hs F hF J h1 h2 h3
    obtain ⟨f, rfl⟩ : ∃ f, F = f + 1 := ⟨F - 1, by omega⟩
    have hs4 : s < 4 := by omega
    have vs : vin (nI s) 4 := vp_in_nI hs4 (by decide)
    have ks : (nI s).toNatClampNeg = s := nI_clamp (Nat.lt_trans hs4 (by decide))
    obtain ⟨J1, e1⟩ : ∃ z : SJ, z = va_up J 17 (vp_updL (J 17) s (i6 (X s))) := ⟨_, rfl⟩
    have c1 : ∀ m, m ≠ 17 → J1 m = J m := fun m hm => by rw [e1, va_up_ne _ _ hm]
    obtain ⟨J2, g1, g2, g3, g4, g5⟩ := ih (s + 1) (by omega) f (by omega) J1 (fun s' hs' => by rw [c1 15 (by decide)]; exact h1 s' hs') (by rw [c1 0 (by decide)]; exact h2) (fun s' hs' => by
      rw [e1, va_up_self]
      unfold vp_updL
      by_cases e : s' = s
      · rw [if_pos e, e]
      · rw [if_neg e]; exact h3 s' (by omega))
    refine ⟨J2, ?_, g2, g3, fun j hj => by rw [g4 j hj, c1 0 (by decide)], fun m m1 m2 => by rw [g5 m m1 m2, c1 m m2]⟩
    show b_R_look_34 (g_R_look f) (nI s) I J = _
    unfold b_R_look_34
    rw [h.1, if_neg (nI_ge (by omega) (by omega))]
    simp only [nm, gd_of vs, ks, h1 s (by omega), nI_1]
    rw [← e1]
    exact g1
/-- a corner: the choice is met there, and nowhere else near it -/
def Cor (d : Dt) (w : Nat) (fx : Nat → Int) (n : Nat) (ch : Nat → Nat) (x y z : Rat) : Prop := SolD d w fx n ch (fun s => am (10 * w) x y z s / 10) ∧ ∀ v, NulD d fx n ch v → ∀ s, s < dn d → v s = 0
theorem look_ok (hrg : Rg d) {I : SI} (h : ToR d I) (hw : w ≤ 40) (hx : Fxd fx I) (hf : Fre d fx n fl I) (hc : Chn ch I) (hS : Cts S I) {J : SJ} {P : Rat → Rat → Rat → Prop} (hP : RB d w I J P) :
    ∃ (x : Int32) (I2 : SI) (J2 : SJ) (Y : Rat → Rat → Rat → Prop), m_R_look (nI w) I J = some (x, I2, J2) ∧ KpF I I2 ∧ KpJ J J2 ∧ ((x = 0 ∧ I2 0 28 = I 0 28) ∨ (x = 1 ∧ I2 0 28 = 1)) ∧ (∀ x y z, Y x y z → Qr d w S fx x y z) ∧ (∀ x y z, Qr d w S fx x y z → Cor d w fx n ch x y z → Y x y z) ∧ RB d w I2 J2 (fun x y z => P x y z ∨ Y x y z) := by
  have hn := hrg.1
  have non : ∀ {I : SI} {J : SJ}, RB d w I J P → RB d w I J (fun x y z => P x y z ∨ False) := fun h => RB_iff h (fun x y z => ⟨Or.inl, fun q => q.elim id False.elim⟩)
  obtain ⟨x, J1, a1, a2, a3, a4⟩ := solve_ok hrg h hw hx hf hc J
  have P1 : RB d w I J1 P := RB_same hP rfl (a2 17 (by decide) (by decide) (by decide)) (a3 30 (by decide))
  have kj : KpJ J J1 := ⟨fun k k1 k2 k3 _ => a2 k k1 k2 k3, fun j j1 _ => a3 j j1⟩
  rcases a4 with ⟨rfl, a4⟩ | ⟨rfl, X, u, p1, p2, p3, p4⟩
  · refine ⟨0, I, J1, fun _ _ _ => False, ?_, KpF_refl I, kj, Or.inl ⟨rfl, rfl⟩, fun _ _ _ z => z.elim, fun x y z hq hcor => ?_, non P1⟩
    · unfold m_R_look b_R_look_0
      rw [a1]
      rfl
    · obtain ⟨⟨s1, s2, s3⟩, s4⟩ := hcor
      rcases a4 with ⟨n0, a4⟩ | ⟨n1, v, v1, s, hs, v2⟩
      · apply a4
        have fixd : ∀ s, s < dn d → 0 ≤ fx s := fun s hs => by
          by_cases c : fx s < 0
          · obtain ⟨k, hk, _⟩ := hf.2.2.2.1 s hs c
            omega
          · omega
        apply Rat.intCast_inj.mp
        rw [sR_cast, ← s2]
        exact sQ_congr (fun s hs => (s1 s hs (fixd s hs)).symm)
      · exact v2 (s4 v v1 s hs)
  · obtain ⟨X', eX⟩ : ∃ X' : Nat → Int, X' = fun s => if s < dn d then X s else 0 := ⟨_, rfl⟩
    have x1 : ∀ s, s < dn d → X' s = X s := fun s hs => by rw [eX]; show (if s < dn d then X s else 0) = _; rw [if_pos hs]
    have x2 : ∀ s, dn d ≤ s → s < 4 → X' s = 0 := fun s hs _ => by rw [eX]; show (if s < dn d then X s else 0) = _; rw [if_neg (by omega)]
    obtain ⟨u0, u1, q1, q2, q3⟩ := p1
    have pt : PtR d w fx X' u := ⟨u0, u1, fun s hs => by rw [x1 s hs]; exact q1 s hs, by rw [sR_congr x1]; exact q2, fun s hs hf => by rw [x1 s hs]; exact q3 s hs hf⟩
    have b4 : ∀ s, s < 4 → -1000000000 ≤ X' s ∧ X' s ≤ 1000000000 := fun s hs => by
      by_cases c : s < dn d
      · exact pt.2.2.1 s c
      · rw [x2 s (by omega) hs]; omega
    have s4 : X' 0 + X' 1 + X' 2 + X' 3 = (w : Int) * u := by rw [← pt.2.2.2.1]; exact sR_4 hn x2
    have jx : ∀ s, s < dn d → J1 15 s = i6 (X' s) := fun s hs => by rw [x1 s hs]; exact p3 s hs
    have ki := Kpd_iff (S := S) hn pt x2
    have up := cpos u0
    -- a corner is this point
    have cor : ∀ x y z, Qr d w S fx x y z → Cor d w fx n ch x y z → x = qd (10 * X' 0) u ∧ y = qd (10 * X' 1) u ∧ z = qd (10 * X' 2) u := fun x y z hq hcor => by
      have am4 : ∀ s, s < 4 → am (10 * w) x y z s = qd (10 * X' s) u := fun s hs => by
        have q := qd_mul (a := 10 * X' s) u0
        rw [Rat.intCast_mul] at q
        have e10 : ((10 : Int) : Rat) = 10 := rfl
        rw [e10] at q
        by_cases c : s < dn d
        · have := p4 _ hcor.1 s c
          have this2 : (X' s : Rat) = (u : Rat) * (am (10 * w) x y z s / 10) := by rw [x1 s c]; exact this
          rw [this2] at q
          have z : (am (10 * w) x y z s - qd (10 * X' s) u) * (u : Rat) = 0 := by grind
          have := (zero_mul_iff up).mp z
          grind
        · rw [hq.1 s hs (by omega)]
          rw [x2 s (by omega) hs] at q ⊢
          have z : qd (10 * 0) u * (u : Rat) = 0 := by rw [q]; show (10 : Rat) * 0 = 0; grind
          exact ((zero_mul_iff up).mp z).symm
      exact ⟨am4 0 (by omega), am4 1 (by omega), am4 2 (by omega)⟩
    rcases keepsAll_ok (J := J1) hrg h hw hS u0 u1 (fun s hs => b4 s (by omega)) jx p2 with ⟨k1, k2⟩ | ⟨k1, k2⟩
    · -- kept
      have m1 : m_R_look (nI w) I J = if (I 0 28) = 0 then g_R_look fuel 0 I J1 else cl3 (m_R_isBetter I J1) fun r12 I13 J14 => if r12 = 0 then some (1, va_up I13 0 (upd (I13 0) 28 1), J14) else g_R_look fuel 0 I13 J14 := by
        unfold m_R_look b_R_look_0
        simp only [a1, k1, cl3, one0, if_false, nm]
      obtain ⟨J2, c1, c2, c3, c4, c5⟩ := copy_ok hrg h (dn d) 0 (by omega) fuel (by unfold fuel; omega) J1 jx p2 (fun s' hs' => by omega)
      have kj2 : KpJ J J2 := KpJ_trans kj ⟨fun k k1 _ _ k4 => c5 k k1 k4, fun j _ j2 => c4 j j2⟩
      have kf : KpF I (va_up I 0 (upd (I 0) 28 1)) := ⟨fun k hk => va_up_ne _ _ hk, fun j hj => by rw [va_up_self]; unfold upd; rw [if_neg hj]⟩
      have fl1 : (va_up I 0 (upd (I 0) 28 1)) 0 28 = 1 := by rw [va_up_self]; unfold upd; rw [if_pos rfl]
      have bs : Bst d w J2 X' u := ⟨u0, u1, c2, c3, x2, b4, s4⟩
      have YQ : ∀ x y z, (x = qd (10 * X' 0) u ∧ y = qd (10 * X' 1) u ∧ z = qd (10 * X' 2) u) → Qr d w S fx x y z := by
        rintro x y z ⟨rfl, rfl, rfl⟩
        exact ki.mpr k2
      rcases P1 with ⟨e, hno⟩ | ⟨e, B, v, hb, hp, hbest⟩
      · refine ⟨1, _, J2, fun x y z => x = qd (10 * X' 0) u ∧ y = qd (10 * X' 1) u ∧ z = qd (10 * X' 2) u, by rw [m1, if_pos e]; exact c1, kf, kj2, Or.inr ⟨rfl, fl1⟩, YQ, cor, Or.inr ⟨fl1, X', u, bs, Or.inr ⟨rfl, rfl, rfl⟩, ?_⟩⟩
        rintro x y z (q | ⟨rfl, rfl, rfl⟩)
        · exact absurd q (hno _ _ _)
        · exact kle_refl
      · obtain ⟨v0, v1, b1, b2, b3, b5, b6⟩ := hb
        have key : btr (prd d) X' u (some (B, v)) ↔ kneg (wv (prd d)) (qd (10 * X' 0) u - qd (10 * B 0) v) (qd (10 * X' 1) u - qd (10 * B 1) v) (qd (10 * X' 2) u - qd (10 * B 2) v) := by
          rw [← btr_10]
          exact btr_kneg (A := fun s => 10 * X' s) (B := fun s => 10 * B s) (T := 10 * w) u0 v0 (by show 10 * X' 0 + 10 * X' 1 + 10 * X' 2 + 10 * X' 3 = 10 * (w : Int) * u; rw [Int.mul_assoc, ← s4]; omega) (by show 10 * B 0 + 10 * B 1 + 10 * B 2 + 10 * B 3 = 10 * (w : Int) * v; rw [Int.mul_assoc, ← b6]; omega)
        rw [e] at m1
        rcases isBetter_ok (J := J1) hrg h u0 u1 v0 v1 b4 b5 x2 b3 jx p2 b1 b2 with ⟨i1, i2⟩ | ⟨i1, i2⟩
        · have hk : kle (wv (prd d)) (qd (10 * X' 0) u) (qd (10 * X' 1) u) (qd (10 * X' 2) u) (qd (10 * B 0) v) (qd (10 * B 1) v) (qd (10 * B 2) v) := Or.inl (key.mp i2)
          refine ⟨1, _, J2, fun x y z => x = qd (10 * X' 0) u ∧ y = qd (10 * X' 1) u ∧ z = qd (10 * X' 2) u, ?_, kf, kj2, Or.inr ⟨rfl, fl1⟩, YQ, cor, Or.inr ⟨fl1, X', u, bs, Or.inr ⟨rfl, rfl, rfl⟩, ?_⟩⟩
          · rw [m1, i1]
            simp only [cl3, one0, if_false]
            exact c1
          · rintro x y z (q | ⟨rfl, rfl, rfl⟩)
            · exact kle_trans hk (hbest _ _ _ q)
            · exact kle_refl
        · refine ⟨1, _, J1, fun x y z => x = qd (10 * X' 0) u ∧ y = qd (10 * X' 1) u ∧ z = qd (10 * X' 2) u, ?_, kf, kj, Or.inr ⟨rfl, fl1⟩, YQ, cor, Or.inr ⟨fl1, B, v, ⟨v0, v1, b1, b2, b3, b5, b6⟩, Or.inl hp, ?_⟩⟩
          · rw [m1, i1]
            simp only [cl3, one0, if_false, if_true]
          · rintro x y z (q | ⟨rfl, rfl, rfl⟩)
            · exact hbest _ _ _ q
            · rcases kle_total (wv (prd d)) (qd (10 * X' 0) u) (qd (10 * X' 1) u) (qd (10 * X' 2) u) (qd (10 * B 0) v) (qd (10 * B 1) v) (qd (10 * B 2) v) with t | t
              · rcases t with t | ⟨e1, e2, e3⟩
                · exact absurd (key.mpr t) i2
                · rw [e1, e2, e3]; exact kle_refl
              · exact t
    · -- not kept
      refine ⟨0, I, J1, fun _ _ _ => False, ?_, KpF_refl I, kj, Or.inl ⟨rfl, rfl⟩, fun _ _ _ z => z.elim, fun x y z hq hcor => ?_, non P1⟩
      · unfold m_R_look b_R_look_0
        simp only [a1, k1, cl3, one0, if_false, if_true]
      · obtain ⟨e1, e2, e3⟩ := cor x y z hq hcor
        rw [e1, e2, e3] at hq
        exact k2 (ki.mp hq)
end LO
