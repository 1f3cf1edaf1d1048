/-! The mixer. -/
section MIX
variable {d : Dt} {w : Nat}
/-- a mix that keeps the bounds in S -/
def Kp (d : Dt) (w : Nat) (S : Nat → Prop) (x y z : Rat) : Prop := (∀ i, i < 4 → 0 ≤ am (10 * w) x y z i ∧ (dn d ≤ i → am (10 * w) x y z i = 0)) ∧ ∀ b, b < 18 → S b → (isL b → ((lev d w b : Int) : Rat) ≤ rv d (rowB b) (am (10 * w) x y z)) ∧ (¬ isL b → rv d (rowB b) (am (10 * w) x y z) ≤ ((lev d w b : Int) : Rat))
theorem ptd_q (hrg : Rg d) {n i : Nat} (hn : n < 3) (hi : i < 4) : (0 : Rat) ≤ (ptd d n i : Rat) ∧ (ptd d n i : Rat) ≤ 40 := by
  have h := hrg.2.2.1 n hn i hi
  have h1 : (0 : Int) ≤ ptd d n i := by unfold ptd; omega
  have h2 : ptd d n i ≤ 40 := by unfold ptd; omega
  exact ⟨Rat.intCast_nonneg.mpr h1, Rat.intCast_le_intCast.mpr h2⟩
theorem fes_Kp (hrg : Rg d) {S : Nat → Prop} {lo hi : Nat → Int} (h : Lims d w S lo hi) {x y z : Rat} : Fes d (10 * w) lo hi x y z ↔ Kp d w S x y z := by
  constructor
  · intro hF
    refine ⟨fun i hi4 => ?_, fun b hb hs => ?_⟩
    · have f := hF i (by omega)
      rw [rv_stuff d hi4] at f
      refine ⟨(((h i (by omega)).1 _).mp f.1).1, fun hd => ?_⟩
      have u := (((h i (by omega)).2 _).mp f.2).1
      have e : base d w i = 0 := by unfold base; rw [if_pos hi4, if_neg (by omega)]
      rw [e] at u
      exact Rat.le_antisymm u (((h i (by omega)).1 _).mp f.1).1
    · have f := hF (rowB b) (rowB_lt b hb)
      exact ⟨fun l => (((h _ (rowB_lt b hb)).1 _).mp f.1).2 b hb hs rfl l, fun l => (((h _ (rowB_lt b hb)).2 _).mp f.2).2 b hb hs rfl l⟩
  · rintro ⟨h1, h2⟩ r hr
    have p0 := (h1 0 (by omega)).1
    have p1 := (h1 1 (by omega)).1
    have p2 := (h1 2 (by omega)).1
    have p3 := (h1 3 (by omega)).1
    have sm := am_sum (10 * w) x y z
    refine ⟨((h r hr).1 _).mpr ⟨?_, fun b hb hs e l => e ▸ (h2 b hb hs).1 l⟩, ((h r hr).2 _).mpr ⟨?_, fun b hb hs e l => e ▸ (h2 b hb hs).2 l⟩⟩
    · by_cases c : r < 4
      · rw [rv_stuff d c]; exact (h1 r c).1
      · obtain ⟨n, rfl⟩ : ∃ n, r = 4 + n := ⟨r - 4, by omega⟩
        rw [rv_nut]
        have q0 := Rat.mul_nonneg (ptd_q hrg (show n < 3 by omega) (show 0 < 4 by omega)).1 p0
        have q1 := Rat.mul_nonneg (ptd_q hrg (show n < 3 by omega) (show 1 < 4 by omega)).1 p1
        have q2 := Rat.mul_nonneg (ptd_q hrg (show n < 3 by omega) (show 2 < 4 by omega)).1 p2
        have q3 := Rat.mul_nonneg (ptd_q hrg (show n < 3 by omega) (show 3 < 4 by omega)).1 p3
        grind
    · unfold base
      by_cases c : r < 4
      · rw [rv_stuff d c, if_pos c]
        by_cases c2 : r < dn d
        · rw [if_pos c2]
          match r, c with
          | 0, _ => grind
          | 1, _ => grind
          | 2, _ => grind
          | 3, _ => grind
        · rw [if_neg c2, (h1 r c).2 (by omega)]
          exact Rat.le_refl
      · obtain ⟨n, rfl⟩ : ∃ n, r = 4 + n := ⟨r - 4, by omega⟩
        rw [rv_nut, if_neg c, Rat.intCast_mul]
        have e40 : ((40 : Int) : Rat) = 40 := rfl
        have q0 := Rat.mul_le_mul_of_nonneg_right (ptd_q hrg (show n < 3 by omega) (show 0 < 4 by omega)).2 p0
        have q1 := Rat.mul_le_mul_of_nonneg_right (ptd_q hrg (show n < 3 by omega) (show 1 < 4 by omega)).2 p1
        have q2 := Rat.mul_le_mul_of_nonneg_right (ptd_q hrg (show n < 3 by omega) (show 2 < 4 by omega)).2 p2
        have q3 := Rat.mul_le_mul_of_nonneg_right (ptd_q hrg (show n < 3 by omega) (show 3 < 4 by omega)).2 p3
        rw [e40, ← sm]
        grind
theorem BQ_iff {pr : Nat → Int} {T : Int} {J : SJ} {X Y : Rat → Rat → Rat → Prop} (h : BQ pr T J X) (e : ∀ x y z, X x y z ↔ Y x y z) : BQ pr T J Y := BQ_mono h (fun x y z => (e x y z).mp) (fun x y z hy => ⟨x, y, z, (e x y z).mpr hy, kle_refl⟩)
/-- whole silos, of stuff s and the next ones -/
def Mul (d : Dt) (w s : Nat) (x y z : Rat) : Prop := ∀ k, s ≤ k → k < dn d → 0 < dsi d k → ∃ m : Nat, am (10 * w) x y z k = ((((10 * dsi d k) * m : Nat) : Int) : Rat)
def setf (f : Nat → Int) (s : Nat) (a : Int) : Nat → Int := fun q => if q = s then a else f q
theorem setf_self (f : Nat → Int) (s : Nat) : setf f s (f s) = f := by
  funext q
  unfold setf
  split
  · next e => rw [e]
  · rfl
theorem setf_setf (f : Nat → Int) (s : Nat) (a b : Int) : setf (setf f s a) s b = setf f s b := by
  funext q
  unfold setf
  split <;> rfl
/-- a row's limits are set -/
theorem Mst_set {lo hi : Nat → Int} {I : SI} (h : Mst d w lo hi I) {s : Nat} (hs : s < 4) {a b : Int} (a0 : 0 ≤ a) (a1 : a ≤ 16000) (b0 : 0 ≤ b) (b1 : b ≤ 16000) : Mst d w (setf lo s a) (setf hi s b) (va_up (va_up I 13 (upd (I 13) s (i3 a))) 14 (upd ((va_up I 13 (upd (I 13) s (i3 a))) 14) s (i3 b))) := by
  refine Mst_lim h ⟨fun k _ x y => by rw [va_up_ne _ _ y, va_up_ne _ _ x], fun j _ => rfl⟩ (fun r hr => ?_)
  have l := Mst_Lim h r hr
  show upd (I 13) s (i3 a) r = i3 (if r = s then a else lo r) ∧ upd (I 14) s (i3 b) r = i3 (if r = s then b else hi r) ∧ 0 ≤ (if r = s then a else lo r) ∧ (if r = s then a else lo r) ≤ 16000 ∧ 0 ≤ (if r = s then b else hi r) ∧ (if r = s then b else hi r) ≤ 16000
  unfold upd
  by_cases e : r = s
  · simp only [if_pos e]
    exact ⟨trivial, trivial, a0, a1, b0, b1⟩
  · simp only [if_neg e]
    exact l
theorem fes_set {lo hi : Nat → Int} {s : Nat} (hs : s < 4) {m : Int} (h1 : lo s ≤ m) (h2 : m ≤ hi s) {x y z : Rat} : Fes d (10 * w) (setf lo s m) (setf hi s m) x y z ↔ Fes d (10 * w) lo hi x y z ∧ am (10 * w) x y z s = (m : Rat) := by
  have g1 := Rat.intCast_le_intCast.mpr h1
  have g2 := Rat.intCast_le_intCast.mpr h2
  constructor
  · intro h
    have hm : am (10 * w) x y z s = (m : Rat) := by
      have := h s (by omega)
      unfold setf at this
      rw [if_pos rfl, if_pos rfl, rv_stuff d hs] at this
      exact Rat.le_antisymm this.2 this.1
    refine ⟨fun k hk => ?_, hm⟩
    by_cases e : k = s
    · subst e
      rw [rv_stuff d hs, hm]
      exact ⟨g1, g2⟩
    · have := h k hk
      unfold setf at this
      rw [if_neg e, if_neg e] at this
      exact this
  · rintro ⟨h, hm⟩ k hk
    unfold setf
    by_cases e : k = s
    · subst e
      rw [if_pos rfl, if_pos rfl, rv_stuff d hs, hm]
      exact ⟨Rat.le_refl, Rat.le_refl⟩
    · rw [if_neg e, if_neg e]
      exact h k hk
/-- what is left is no less than the next stuffs together -/
def Lft (d : Dt) (w s t : Nat) (lo hi : Nat → Int) (left : Int) : Prop := ∀ x y z, Fes d (10 * w) lo hi x y z → (∀ i, i < 4 → 0 ≤ am (10 * w) x y z i) → sm (am (10 * w) x y z) s t ≤ (left : Rat)
theorem fes_nn {lo hi : Nat → Int} (hlo : ∀ k, k < 7 → 0 ≤ lo k) {x y z : Rat} (h : Fes d (10 * w) lo hi x y z) : ∀ i, i < 4 → 0 ≤ am (10 * w) x y z i := fun i hi4 => by
  have f := (h i (by omega)).1
  rw [rv_stuff d hi4] at f
  have g : (0 : Rat) ≤ (lo i : Rat) := Rat.intCast_nonneg.mpr (hlo i (by omega))
  grind
theorem Mst_lo {lo hi : Nat → Int} {I : SI} (h : Mst d w lo hi I) : ∀ k, k < 7 → 0 ≤ lo k := fun k hk => (Mst_Lim h k hk).2.2.1
/-- what the search leaves as it was -/
def Kep (I I2 : SI) : Prop := ∀ k, k < 12 → I2 k = I k
def FillP (d : Dt) (w s t D : Nat) : Prop := ∀ (I : SI) (J : SJ) (X : Rat → Rat → Rat → Prop) (lo hi : Nat → Int) (left : Int), Mst d w lo hi I → BQ (prd d) (10 * w) J X → 0 ≤ left → left ≤ 400 → Lft d w s t lo hi left →
    ∃ (I2 : SI) (J2 : SJ), m_E_fillFromSilos D (nI s) (i3 left) I J = some (I2, J2) ∧ Mst d w lo hi I2 ∧ Kep I I2 ∧ BQ (prd d) (10 * w) J2 (fun x y z => X x y z ∨ (Fes d (10 * w) lo hi x y z ∧ Mul d w s x y z))
theorem fill_loop (hrg : Rg d) {s t D : Nat} (hst : s + (t + 1) = 4) (hd : s < dn d) (ih : FillP d w (s + 1) t D) {lo hi : Nat → Int} {left : Int} (l0 : 0 ≤ left) (l1 : left ≤ 400) (hlo : ∀ k, k < 7 → 0 ≤ lo k) (hb : 0 ≤ lo s ∧ lo s ≤ 16000 ∧ 0 ≤ hi s ∧ hi s ≤ 16000) (hl : Lft d w s (t + 1) lo hi left) (hsz : 0 < dsi d s) :
    ∀ (n m : Nat), 400 < 10 * dsi d s * (m + n) → 10 * dsi d s * m ≤ 800 → ∀ (F : Nat), n < F → ∀ (I : SI) (J : SJ) (X : Rat → Rat → Rat → Prop) (a b : Int), Mst d w (setf lo s a) (setf hi s b) I → BQ (prd d) (10 * w) J X →
    ∃ (I2 : SI) (J2 : SJ), g_E_fillFromSilos (m_E_fillFromSilos D) F (nI s) (i3 left) (i3 ((10 * dsi d s : Nat) : Int)) (i3 (lo s)) (i3 (hi s)) (i3 ((10 * dsi d s * m : Nat) : Int)) I J = some (I2, J2) ∧ Mst d w lo hi I2 ∧ Kep I I2 ∧ BQ (prd d) (10 * w) J2 (fun x y z => X x y z ∨ (Fes d (10 * w) lo hi x y z ∧ Mul d w s x y z ∧ ∃ m' : Nat, m ≤ m' ∧ am (10 * w) x y z s = (((10 * dsi d s * m' : Nat) : Int) : Rat))) := by
  have hs : s < 4 := by omega
  have vs : vin (nI s) 7 := vp_in_nI (by omega) (by decide)
  have ks : (nI s).toNatClampNeg = s := nI_clamp (Nat.lt_trans hs (by decide))
  have hsz40 := (hrg.2.1 s hs).2.2.2.2.2
  -- the end of the loop
  have fin : ∀ (m : Nat) (I : SI) (J : SJ) (X : Rat → Rat → Rat → Prop) (a b : Int), (left < ((10 * dsi d s * m : Nat) : Int) ∨ hi s < ((10 * dsi d s * m : Nat) : Int)) → Mst d w (setf lo s a) (setf hi s b) I → BQ (prd d) (10 * w) J X →
      ∃ (I2 : SI) (J2 : SJ), some (va_up (va_up I 13 (upd (I 13) s (i3 (lo s)))) 14 (upd ((va_up I 13 (upd (I 13) s (i3 (lo s)))) 14) s (i3 (hi s))), J) = some (I2, J2) ∧ Mst d w lo hi I2 ∧ Kep I I2 ∧ BQ (prd d) (10 * w) J2 (fun x y z => X x y z ∨ (Fes d (10 * w) lo hi x y z ∧ Mul d w s x y z ∧ ∃ m' : Nat, m ≤ m' ∧ am (10 * w) x y z s = (((10 * dsi d s * m' : Nat) : Int) : Rat))) := by
    intro m I J X a b hstop hM hB
    have M2 := Mst_set hM hs hb.1 hb.2.1 hb.2.2.1 hb.2.2.2
    rw [setf_setf, setf_setf, setf_self, setf_self] at M2
    refine ⟨_, J, rfl, M2, fun k hk => by rw [va_up_ne _ _ (by omega), va_up_ne _ _ (by omega)], BQ_iff hB (fun x y z => ⟨Or.inl, ?_⟩)⟩
    rintro (hx | ⟨hF, -, m', hm, he⟩)
    · exact hx
    · exfalso
      have nn := fes_nn hlo hF
      have h1 := hl x y z hF nn
      have h2 : (0 : Rat) ≤ sm (am (10 * w) x y z) (s + 1) t := sm_nn t (s + 1) (fun k k1 k2 => nn k (by omega))
      have h3 : sm (am (10 * w) x y z) s (t + 1) = am (10 * w) x y z s + sm (am (10 * w) x y z) (s + 1) t := rfl
      have h4 := (hF s (by omega)).2
      rw [rv_stuff d hs] at h4
      have le : (10 * dsi d s * m : Nat) ≤ 10 * dsi d s * m' := Nat.mul_le_mul_left _ hm
      rcases hstop with hstop | hstop
      · have h5 : left < ((10 * dsi d s * m' : Nat) : Int) := by omega
        have h6 := Rat.intCast_lt_intCast.mpr h5
        rw [← he] at h6
        grind
      · have h5 : hi s < ((10 * dsi d s * m' : Nat) : Int) := by omega
        have h6 := Rat.intCast_lt_intCast.mpr h5
        rw [← he] at h6
        grind
  intro n
  induction n with
  | zero =>
    intro m hm hm8 F hF I J X a b hM hB
    obtain ⟨f, rfl⟩ : ∃ f, F = f + 1 := ⟨F - 1, by omega⟩
    rw [Nat.add_zero] at hm
    show ∃ (I2 : SI) (J2 : SJ), b_E_fillFromSilos_82 (m_E_fillFromSilos D) (g_E_fillFromSilos (m_E_fillFromSilos D) f) (nI s) (i3 left) (i3 ((10 * dsi d s : Nat) : Int)) (i3 (lo s)) (i3 (hi s)) (i3 ((10 * dsi d s * m : Nat) : Int)) I J = some (I2, J2) ∧ _
    simp only [b_E_fillFromSilos_82, i3_lt (a := left) (b := ((10 * dsi d s * m : Nat) : Int)) (by omega) (by omega) (by omega) (by omega), nm, gd_of vs, ks]
    rw [if_pos (by omega)]
    exact fin m I J X a b (Or.inl (by omega)) hM hB
  | succ n ihn =>
    intro m hm hm8 F hF I J X a b hM hB
    obtain ⟨f, rfl⟩ : ∃ f, F = f + 1 := ⟨F - 1, by omega⟩
    have eadd : ((10 * dsi d s * m : Nat) : Int) + ((10 * dsi d s : Nat) : Int) = ((10 * dsi d s * (m + 1) : Nat) : Int) := by rw [Nat.mul_succ]; omega
    have hm2 : 400 < 10 * dsi d s * (m + 1 + n) := by rw [show m + 1 + n = m + (n + 1) by omega]; exact hm
    show ∃ (I2 : SI) (J2 : SJ), b_E_fillFromSilos_82 (m_E_fillFromSilos D) (g_E_fillFromSilos (m_E_fillFromSilos D) f) (nI s) (i3 left) (i3 ((10 * dsi d s : Nat) : Int)) (i3 (lo s)) (i3 (hi s)) (i3 ((10 * dsi d s * m : Nat) : Int)) I J = some (I2, J2) ∧ _
    simp only [b_E_fillFromSilos_82, i3_lt (a := left) (b := ((10 * dsi d s * m : Nat) : Int)) (by omega) (by omega) (by omega) (by omega), i3_lt (a := hi s) (b := ((10 * dsi d s * m : Nat) : Int)) (by omega) (by omega) (by omega) (by omega), i3_lt (a := ((10 * dsi d s * m : Nat) : Int)) (b := lo s) (by omega) (by omega) (by omega) (by omega), nm, gd_of vs, ks, i3_add, i3_sub, nI_1, eadd]
    by_cases c1 : left < ((10 * dsi d s * m : Nat) : Int)
    · rw [if_pos c1]
      exact fin m I J X a b (Or.inl c1) hM hB
    · rw [if_neg c1]
      by_cases c2 : hi s < ((10 * dsi d s * m : Nat) : Int)
      · rw [if_pos c2]
        exact fin m I J X a b (Or.inr c2) hM hB
      · rw [if_neg c2]
        have hm82 : 10 * dsi d s * (m + 1) ≤ 800 := by rw [Nat.mul_succ]; omega
        by_cases c3 : ((10 * dsi d s * m : Nat) : Int) < lo s
        · rw [if_pos c3]
          obtain ⟨I2, J2, g1, g2, g3, g4⟩ := ihn (m + 1) hm2 hm82 f (by omega) I J X a b hM hB
          refine ⟨I2, J2, g1, g2, g3, BQ_iff g4 (fun x y z => ?_)⟩
          constructor
          · rintro (hx | ⟨hF, hU, m', h1, h2⟩)
            · exact Or.inl hx
            · exact Or.inr ⟨hF, hU, m', by omega, h2⟩
          · rintro (hx | ⟨hF, hU, m', h1, h2⟩)
            · exact Or.inl hx
            · refine Or.inr ⟨hF, hU, m', ?_, h2⟩
              by_cases e : m' = m
              · exfalso
                subst e
                have h4 := (hF s (by omega)).1
                rw [rv_stuff d hs, h2] at h4
                have := Rat.intCast_le_intCast.mp h4
                omega
              · omega
        · rw [if_neg c3]
          have M3 := Mst_set hM hs (a := ((10 * dsi d s * m : Nat) : Int)) (b := ((10 * dsi d s * m : Nat) : Int)) (by omega) (by omega) (by omega) (by omega)
          rw [setf_setf, setf_setf] at M3
          obtain ⟨I5, e5⟩ : ∃ z : SI, z = va_up (va_up I 13 (upd (I 13) s (i3 ((10 * dsi d s * m : Nat) : Int)))) 14 (upd ((va_up I 13 (upd (I 13) s (i3 ((10 * dsi d s * m : Nat) : Int)))) 14) s (i3 ((10 * dsi d s * m : Nat) : Int))) := ⟨_, rfl⟩
          rw [← e5] at M3 ⊢
          have K5 : Kep I I5 := fun k hk => by rw [e5, va_up_ne _ _ (by omega), va_up_ne _ _ (by omega)]
          have hl2 : Lft d w (s + 1) t (setf lo s ((10 * dsi d s * m : Nat) : Int)) (setf hi s ((10 * dsi d s * m : Nat) : Int)) (left - ((10 * dsi d s * m : Nat) : Int)) := fun x y z hF nn => by
            obtain ⟨hF1, hm1⟩ := (fes_set hs (by omega) (by omega)).mp hF
            have h1 := hl x y z hF1 nn
            have h3 : sm (am (10 * w) x y z) s (t + 1) = am (10 * w) x y z s + sm (am (10 * w) x y z) (s + 1) t := rfl
            rw [h3, hm1] at h1
            rw [Rat.intCast_sub]
            grind
          obtain ⟨I6, J6, r1, r2, r3, r4⟩ := ih I5 J X _ _ (left - ((10 * dsi d s * m : Nat) : Int)) M3 hB (by omega) (by omega) hl2
          rw [r1]
          obtain ⟨I2, J2, g1, g2, g3, g4⟩ := ihn (m + 1) hm2 hm82 f (by omega) I6 J6 _ _ _ r2 r4
          refine ⟨I2, J2, g1, g2, fun k hk => by rw [g3 k hk, r3 k hk, K5 k hk], BQ_iff g4 (fun x y z => ?_)⟩
          constructor
          · rintro ((hx | ⟨hF, hU⟩) | ⟨hF, hU, m', h1, h2⟩)
            · exact Or.inl hx
            · obtain ⟨hF1, hm1⟩ := (fes_set hs (by omega) (by omega)).mp hF
              refine Or.inr ⟨hF1, fun k k1 k2 k3 => ?_, m, Nat.le_refl m, hm1⟩
              by_cases e : k = s
              · subst e; exact ⟨m, hm1⟩
              · exact hU k (by omega) k2 k3
            · exact Or.inr ⟨hF, hU, m', by omega, h2⟩
          · rintro (hx | ⟨hF, hU, m', h1, h2⟩)
            · exact Or.inl (Or.inl hx)
            · by_cases e : m' = m
              · subst e
                exact Or.inl (Or.inr ⟨(fes_set hs (by omega) (by omega)).mpr ⟨hF, h2⟩, fun k k1 k2 k3 => hU k (by omega) k2 k3⟩)
              · exact Or.inr ⟨hF, hU, m', by omega, h2⟩
theorem fill_ok (hrg : Rg d) : ∀ (t s : Nat), s + t = 4 → ∀ (D : Nat), t < D → FillP d w s t D := by
  intro t
  induction t with
  | zero =>
    intro s hs D hD I J X lo hi left hM hB l0 l1 hl
    obtain ⟨D', rfl⟩ : ∃ f, D = f + 1 := ⟨D - 1, by omega⟩
    have hn := hrg.1
    obtain ⟨x, I2, J2, g1, g2, g3⟩ := seek_ok hrg hM hB
    refine ⟨I2, J2, ?_, Mst_same hM g2, fun k hk => g2 k (by omega) (by omega) (by omega), BQ_iff g3 (fun x y z => ?_)⟩
    · show b_E_fillFromSilos_0 (m_E_fillFromSilos D') (g_E_fillFromSilos (m_E_fillFromSilos D') fuel) (nI s) (i3 left) I J = _
      unfold b_E_fillFromSilos_0
      rw [hM.1.1, if_pos (nI_le (by omega) (by omega)), g1]
      rfl
    · exact ⟨fun h => h.elim Or.inl (fun hF => Or.inr ⟨hF, fun k k1 k2 => by omega⟩), fun h => h.elim Or.inl (fun hF => Or.inr hF.1)⟩
  | succ t ih =>
    intro s hs D hD I J X lo hi left hM hB l0 l1 hl
    obtain ⟨D', rfl⟩ : ∃ f, D = f + 1 := ⟨D - 1, by omega⟩
    have hn := hrg.1
    have hs4 : s < 4 := by omega
    show ∃ (I2 : SI) (J2 : SJ), b_E_fillFromSilos_0 (m_E_fillFromSilos D') (g_E_fillFromSilos (m_E_fillFromSilos D') fuel) (nI s) (i3 left) I J = some (I2, J2) ∧ _
    unfold b_E_fillFromSilos_0
    rw [hM.1.1]
    by_cases c : dn d ≤ s
    · rw [if_pos (nI_le c (by omega))]
      obtain ⟨x, I2, J2, g1, g2, g3⟩ := seek_ok hrg hM hB
      refine ⟨I2, J2, by rw [g1]; rfl, Mst_same hM g2, fun k hk => g2 k (by omega) (by omega) (by omega), BQ_iff g3 (fun x y z => ?_)⟩
      exact ⟨fun h => h.elim Or.inl (fun hF => Or.inr ⟨hF, fun k k1 k2 => by omega⟩), fun h => h.elim Or.inl (fun hF => Or.inr hF.1)⟩
    · rw [if_neg (nI_ge (by omega) (by omega)), if_pos (show nI s < (4 : Int32) from nI_lt (b := 4) hs4 (by decide))]
      have vs4 : vin (nI s) 4 := vp_in_nI hs4 (by decide)
      have vs : vin (nI s) 7 := vp_in_nI (by omega) (by decide)
      have ks : (nI s).toNatClampNeg = s := nI_clamp (Nat.lt_trans hs4 (by decide))
      have sil := hM.1.2.2.2.2.2.1 s hs4
      have hr := (hrg.2.1 s hs4).2.2.2.2
      have esz : (10 : Int32) * nI (dsi d s) = i3 ((10 * dsi d s : Nat) : Int) := by
        rw [i3_nI, i3_10, i3_mul]
        congr 1
      have hF : FillP d w (s + 1) t D' := ih (s + 1) (by omega) D' (by omega)
      have i30 : (0 : Int32) = i3 0 := rfl
      have l := Mst_Lim hM s (by omega)
      simp only [nm, gd_of vs4, ks, sil, esz, gd_of vs, l.1, l.2.1, nI_1]
      by_cases c2 : 0 < dsi d s
      · rw [if_pos (show (0 : Int32) < i3 ((10 * dsi d s : Nat) : Int) from (by rw [i30, i3_lt (by omega) (by omega) (by omega) (by omega)]; omega))]
        have hM' : Mst d w (setf lo s (lo s)) (setf hi s (hi s)) I := by rw [setf_self, setf_self]; exact hM
        obtain ⟨I2, J2, g1, g2, g3, g4⟩ := fill_loop hrg hs (by omega) hF l0 l1 (Mst_lo hM) ⟨l.2.2.1, l.2.2.2.1, l.2.2.2.2.1, l.2.2.2.2.2⟩ hl c2 41 0 (by omega) (by omega) fuel (by decide) I J X _ _ hM' hB
        refine ⟨I2, J2, g1, g2, g3, BQ_iff g4 (fun x y z => ?_)⟩
        constructor
        · rintro (hx | ⟨h1, h2, -⟩)
          · exact Or.inl hx
          · exact Or.inr ⟨h1, h2⟩
        · rintro (hx | ⟨h1, h2⟩)
          · exact Or.inl hx
          · obtain ⟨m, hm⟩ := h2 s (Nat.le_refl s) (by omega) c2
            exact Or.inr ⟨h1, h2, m, Nat.zero_le m, hm⟩
      · rw [if_neg (show ¬ (0 : Int32) < i3 ((10 * dsi d s : Nat) : Int) from (by rw [i30, i3_lt (by omega) (by omega) (by omega) (by omega)]; omega))]
        obtain ⟨I2, J2, g1, g2, g3, g4⟩ := hF I J X lo hi left hM hB l0 l1 (fun x y z h nn => by
          have h1 := hl x y z h nn
          have h3 : sm (am (10 * w) x y z) s (t + 1) = am (10 * w) x y z s + sm (am (10 * w) x y z) (s + 1) t := rfl
          have h4 := nn s hs4
          grind)
        refine ⟨I2, J2, by rw [g1]; rfl, g2, g3, BQ_iff g4 (fun x y z => ?_)⟩
        constructor
        · rintro (hx | ⟨h1, h2⟩)
          · exact Or.inl hx
          · refine Or.inr ⟨h1, fun k k1 k2 k3 => ?_⟩
            by_cases e : k = s
            · subst e; omega
            · exact h2 k (by omega) k2 k3
        · rintro (hx | ⟨h1, h2⟩)
          · exact Or.inl hx
          · exact Or.inr ⟨h1, fun k k1 k2 k3 => h2 k (by omega) k2 k3⟩
/-- a good mix -/
def Gd (d : Dt) (w : Nat) (x y z : Rat) : Prop := Kp d w (there d) x y z ∧ Mul d w 0 x y z
theorem findBest_ok (hrg : Rg d) (hw : 1 ≤ w ∧ w ≤ 40) {I : SI} (J : SJ) (h : ToF d I) :
    ∃ (x : Int32) (I2 : SI) (J2 : SJ), m_E_findBest (nI w) I J = some (x, I2, J2) ∧ Kep I I2 ∧ Wt w I2 ∧ BQ (prd d) (10 * w) J2 (Gd d w) ∧ ((x = 1 ∧ ∃ x y z, Gd d w x y z) ∨ (x = 0 ∧ ∀ x y z, ¬ Gd d w x y z)) := by
  obtain ⟨I1, lo, hi, a1, a2, a3, a4, a5⟩ := begin_ok hrg hw J h
  obtain ⟨J1, e1⟩ : ∃ z : SJ, z = va_up J 35 (vp_updL (J 35) 2 0) := ⟨_, rfl⟩
  have f1 : m_X_forget I1 J = some (I1, J1) := by rw [e1]; rfl
  have B1 : BQ (prd d) (10 * w) J1 (fun _ _ _ => False) := Or.inl ⟨by rw [e1]; rfl, fun _ _ _ z => z⟩
  have t1 : I1 12 2 = i3 (10 * w) := (Mst_Wt a2).2.1
  obtain ⟨I2, J2, b1, b2, b3, b4⟩ := fill_ok (w := w) hrg 4 0 rfl 6 (by decide) I1 J1 _ lo hi (10 * w) a2 B1 (by omega) (by omega) (fun x y z _ _ => by
    have := am_sum (10 * w) x y z
    show am (10 * w) x y z 0 + (am (10 * w) x y z 1 + (am (10 * w) x y z 2 + (am (10 * w) x y z 3 + 0))) ≤ _
    grind)
  have B2 : BQ (prd d) (10 * w) J2 (Gd d w) := BQ_iff b4 (fun x y z => by
    unfold Gd
    rw [← fes_Kp hrg a3]
    exact ⟨fun h => h.elim False.elim id, Or.inr⟩)
  have kp : Kep I I2 := fun k hk => by rw [b3 k hk, a5 k hk]
  have run : ∀ x : Int32, m_X_isNone I2 J2 = some (x, I2, J2) → m_E_findBest (nI w) I J = some (if x = 0 then 1 else 0, I2, J2) := fun x hx => by
    unfold m_E_findBest b_E_findBest_0
    rw [a1]
    simp only [cl2, f1, t1]
    rw [show m_E_fillFromSilos 6 0 (i3 (10 * w)) I1 J1 = some (I2, J2) from b1]
    simp only [hx, cl3]
    by_cases c : x = 0
    · rw [if_pos c, if_pos c]
    · rw [if_neg c, if_neg c]
  rcases id B2 with ⟨e, hn⟩ | ⟨A, u, ⟨q1, q2, q3, q4, q5⟩, g2, g3, g4⟩
  · have : m_X_isNone I2 J2 = some (1, I2, J2) := by
      simp only [m_X_isNone, b_X_isNone_0, nm, e]
      rw [if_pos (by rw [i6_0]; exact (cmp_eq (by omega) (by omega) (by omega) (by omega)).mpr rfl)]
    exact ⟨0, I2, J2, run 1 this, kp, Mst_Wt b2, B2, Or.inr ⟨rfl, hn⟩⟩
  · have : m_X_isNone I2 J2 = some (0, I2, J2) := by
      simp only [m_X_isNone, b_X_isNone_0, nm, q1]
      rw [if_neg (fun z => by rw [i6_0] at z; have := (cmp_eq (a := u) (b := 0) (by omega) (by omega) (by omega) (by omega)).mp z; omega)]
    exact ⟨1, I2, J2, run 0 this, kp, Mst_Wt b2, B2, Or.inl ⟨rfl, _, _, _, g3⟩⟩
theorem canKeep_ok (hrg : Rg d) (hw : 1 ≤ w ∧ w ≤ 40) {I : SI} (J : SJ) (h : ToF d I) :
    ∃ (x : Int32) (I2 : SI) (J2 : SJ), m_E_canKeepBounds (nI w) I J = some (x, I2, J2) ∧ Kep I I2 ∧ ((x = 1 ∧ ∃ x y z, Kp d w (there d) x y z) ∨ (x = 0 ∧ ∀ x y z, ¬ Kp d w (there d) x y z)) := by
  obtain ⟨I1, lo, hi, a1, a2, a3, a4, a5⟩ := begin_ok hrg hw J h
  obtain ⟨x, I2, J2, b1, b2, b3⟩ := seekN_ok J hrg a2
  have hx : narrow .boolean (.int x) = .int x := by rcases b3 with ⟨rfl, -⟩ | ⟨rfl, -⟩ <;> rfl
  refine ⟨x, I2, J2, ?_, fun k hk => by rw [b2 k (by omega) (by omega) (by omega), a5 k hk], ?_⟩
  · unfold m_E_canKeepBounds b_E_canKeepBounds_0
    rw [a1]
    simp only [cl2, b1, cl3, gd_of hx]
  · rcases b3 with ⟨e, x, y, z, hF⟩ | ⟨e, hn⟩
    · exact Or.inl ⟨e, x, y, z, (fes_Kp hrg a3).mp hF⟩
    · exact Or.inr ⟨e, fun x y z hK => hn x y z ((fes_Kp hrg a3).mpr hK)⟩
/-- what is kept, as bounds are left out one by one -/
def Sq (d : Dt) (w : Nat) : Nat → Nat → Prop
  | 0 => there d
  | b + 1 => fun c => Sq d w b c ∧ (c = b → ∃ x y z, Kp d w (fun c => Sq d w b c ∧ c ≠ b) x y z)
theorem Kp_congr {S S' : Nat → Prop} {x y z : Rat} (h : Kp d w S x y z) (e : ∀ b, b < 18 → S' b → S b) : Kp d w S' x y z := ⟨h.1, fun b hb hs => h.2 b hb (e b hb hs)⟩
theorem clashM (hrg : Rg d) : ∀ (t b : Nat), b + t = 18 → ∀ (F : Nat), t < F → ∀ (I : SI) (J : SJ) (lo hi : Nat → Int), Mst d w lo hi I → Lims d w (Sq d w b) lo hi → Msk (I 12 3) (Sq d w b) → (∀ x y z, ¬ Kp d w (Sq d w b) x y z) →
    ∃ (x : Int32) (I2 : SI) (J2 : SJ), g_E_clashingBounds F (nI b) I J = some (x, I2, J2) ∧ Kep I I2 ∧ Msk x (Sq d w 18) := by
  intro t
  induction t with
  | zero =>
    intro b hb F hF I J lo hi hM hS hK hn
    obtain ⟨f, rfl⟩ : ∃ f, F = f + 1 := ⟨F - 1, by omega⟩
    have e : b = 18 := by omega
    subst e
    exact ⟨I 12 3, I, J, rfl, fun _ _ => rfl, hK⟩
  | succ t ih =>
    intro b hb F hF I J lo hi hM hS hK hn
    obtain ⟨f, rfl⟩ : ∃ f, F = f + 1 := ⟨F - 1, by omega⟩
    have h18 : ¬ (18 : Int32) ≤ nI b := nI_ge (b := 18) (by omega) (by decide)
    have hb18 : b < 18 := by omega
    show ∃ (x : Int32) (I2 : SI) (J2 : SJ), b_E_clashingBounds_7 (g_E_clashingBounds f) (nI b) I J = some (x, I2, J2) ∧ _
    unfold b_E_clashingBounds_7
    rw [if_neg h18]
    rcases hasBound_ok hK hb18 with ⟨e, hs⟩ | ⟨e, hs⟩
    · simp only [e, cl1, one0, if_false]
      obtain ⟨x, I3, lo2, hi2, a1, a2, a3, a4, a5, a6⟩ := leaveOut_ok hrg J hM hS hK hb18
      rw [a1]
      simp only [cl3, nm, nI_1]
      -- without the bound nothing is possible: it stays out
      have out : (∀ x y z, ¬ Kp d w (fun c => Sq d w b c ∧ c ≠ b) x y z) → ∀ c, c < 18 → ((Sq d w b c ∧ c ≠ b) ↔ Sq d w (b + 1) c) := fun hz c _ => by
        constructor
        · intro z; exact ⟨z.1, fun q => absurd q z.2⟩
        · intro z
          refine ⟨z.1, fun q => ?_⟩
          obtain ⟨x, y, z2, hk⟩ := z.2 q
          exact hz x y z2 hk
      rcases a6 with rfl | ⟨rfl, a6⟩
      · simp only [one0, if_false]
        obtain ⟨x2, I4, J4, c1, c2, c3⟩ := seekN_ok J hrg a2
        rw [c1]
        simp only []
        have M4 := Mst_same a2 c2
        rcases c3 with ⟨rfl, px, py, pz, hp⟩ | ⟨rfl, hp⟩
        · simp only [one0, if_false]
          have hp' := (fes_Kp hrg a3).mp hp
          obtain ⟨I5, k1, k2, k3, k4⟩ := keep_ok (J := J4) hrg M4.1 (Mst_Wt M4) (Mst_Lim M4) hb18
          rw [k1]
          simp only [cl2]
          have eq : ∀ c, c < 18 → (((Sq d w b c ∧ c ≠ b) ∨ c = b) ↔ Sq d w (b + 1) c) := fun c _ => by
            constructor
            · rintro (z | rfl)
              · exact ⟨z.1, fun q => absurd q z.2⟩
              · exact ⟨hs, fun _ => ⟨px, py, pz, hp'⟩⟩
            · intro z
              by_cases q : c = b
              · exact Or.inr q
              · exact Or.inl ⟨z.1, q⟩
          obtain ⟨x3, I6, J6, g1, g2, g3⟩ := ih (b + 1) (by omega) f (by omega) I5 J4 _ _ (Mst_lim M4 k4 k2) (Lims_congr (fun r hr => ⟨uLo_ok (a3 r hr).1 hb18, uHi_ok (a3 r hr).2 hb18⟩) eq) (Msk_iff (by rw [k3, c2 12 (by omega) (by omega) (by omega)]; exact Msk_or a4 hb18) eq) (fun x y z hk => hn x y z (Kp_congr hk (fun c c1 c2 => by
              by_cases q : c = b
              · subst q; exact ⟨c2, fun _ => ⟨px, py, pz, hp'⟩⟩
              · exact ⟨c2, fun z => absurd z q⟩)))
          exact ⟨x3, I6, J6, g1, fun k hk => by rw [g2 k hk, k4.1 k (by omega) (by omega) (by omega), c2 k (by omega) (by omega) (by omega), a5 k hk], g3⟩
        · simp only [if_true]
          have hz : ∀ x y z, ¬ Kp d w (fun c => Sq d w b c ∧ c ≠ b) x y z := fun x y z hk => hp x y z ((fes_Kp hrg a3).mpr hk)
          obtain ⟨x3, I6, J6, g1, g2, g3⟩ := ih (b + 1) (by omega) f (by omega) I4 J4 _ _ M4 (Lims_congr a3 (out hz)) (Msk_iff (by rw [c2 12 (by omega) (by omega) (by omega)]; exact a4) (out hz)) (fun x y z hk => hz x y z (Kp_congr hk (fun c c1 c2 => (out hz c c1).mp c2)))
          exact ⟨x3, I6, J6, g1, fun k hk => by rw [g2 k hk, c2 k (by omega) (by omega) (by omega), a5 k hk], g3⟩
      · simp only [if_true]
        have hz : ∀ x y z, ¬ Kp d w (fun c => Sq d w b c ∧ c ≠ b) x y z := fun x y z hk => by
          have h1 := (fes_Kp hrg a3).mpr hk
          have h2 : Fes d (10 * w) lo hi x y z := fun k k7 => by rw [← (a6 k k7).1, ← (a6 k k7).2]; exact h1 k k7
          exact hn x y z ((fes_Kp hrg hS).mp h2)
        obtain ⟨x3, I6, J6, g1, g2, g3⟩ := ih (b + 1) (by omega) f (by omega) I3 J _ _ a2 (Lims_congr a3 (out hz)) (Msk_iff a4 (out hz)) (fun x y z hk => hz x y z (Kp_congr hk (fun c c1 c2 => (out hz c c1).mp c2)))
        exact ⟨x3, I6, J6, g1, fun k hk => by rw [g2 k hk, a5 k hk], g3⟩
    · simp only [e, cl1, if_true, nm, nI_1]
      have eq : ∀ c, c < 18 → (Sq d w b c ↔ Sq d w (b + 1) c) := fun c _ => ⟨fun z => ⟨z, fun q => by subst q; exact absurd z hs⟩, fun z => z.1⟩
      exact ih (b + 1) (by omega) f (by omega) I J lo hi hM (Lims_congr hS eq) (Msk_iff hK eq) (fun x y z hk => hn x y z (Kp_congr hk (fun c c1 c2 => (eq c c1).mp c2)))
theorem clashing_ok (hrg : Rg d) (hw : 1 ≤ w ∧ w ≤ 40) {I : SI} (J : SJ) (h : ToF d I) (hn : ∀ x y z, ¬ Kp d w (there d) x y z) :
    ∃ (x : Int32) (I2 : SI) (J2 : SJ), m_E_clashingBounds (nI w) I J = some (x, I2, J2) ∧ Kep I I2 ∧ Msk x (Sq d w 18) := by
  obtain ⟨I1, lo, hi, a1, a2, a3, a4, a5⟩ := begin_ok hrg hw J h
  obtain ⟨x, I2, J2, b1, b2, b3⟩ := clashM hrg 18 0 rfl fuel (by decide) I1 J lo hi a2 a3 a4 hn
  refine ⟨x, I2, J2, ?_, fun k hk => by rw [b2 k hk, a5 k hk], b3⟩
  unfold m_E_clashingBounds
  generalize g_E_clashingBounds fuel = G at b1 ⊢
  unfold b_E_clashingBounds_0
  rw [a1]
  exact b1
end MIX
