/-! All bounds kept; one left out. -/
section KA
variable {d : Dt} {w : Nat}
/-- the limits are those of the bounds in S -/
def Lims (d : Dt) (w : Nat) (S : Nat → Prop) (lo hi : Nat → Int) : Prop := ∀ r, r < 7 → Lo d w S r (lo r) ∧ Hi d w S r (hi r)
theorem Lims_congr {S S' : Nat → Prop} {lo hi : Nat → Int} (h : Lims d w S lo hi) (e : ∀ b, b < 18 → (S b ↔ S' b)) : Lims d w S' lo hi := fun r hr => ⟨Lo_congr (h r hr).1 (fun b b1 _ _ => e b b1), Hi_congr (h r hr).2 (fun b b1 _ _ => e b b1)⟩
theorem ka20 (hrg : Rg d) : ∀ (t r : Nat), r + t = 7 → ∀ (F : Nat), t < F → ∀ (I : SI) (J : SJ), ToF d I → Wt w I → (∀ q, q < r → I 13 q = i3 0 ∧ I 14 q = i3 (base d w q)) →
    ∃ (F2 : Nat) (I2 : SI), F = F2 + (t + 1) ∧ (g_L_keepAll F).1 (nI r) I J = (g_L_keepAll F2).2.1 0 I2 J ∧ (∀ q, q < 7 → I2 13 q = i3 0 ∧ I2 14 q = i3 (base d w q)) ∧ ∀ k, k ≠ 13 → k ≠ 14 → I2 k = I k := by
  intro t
  induction t with
  | zero =>
    intro r hr F hF I J h hW hI
    obtain ⟨f, rfl⟩ : ∃ f, F = f + 1 := ⟨F - 1, by omega⟩
    have e : r = 7 := by omega
    subst e
    exact ⟨f, I, rfl, rfl, hI, fun _ _ _ => rfl⟩
  | succ t ih =>
    intro r hr F hF I J h hW hI
    obtain ⟨f, rfl⟩ : ∃ f, F = f + 1 := ⟨F - 1, by omega⟩
    have h7 : ¬ (7 : Int32) ≤ nI r := nI_ge (b := 7) (by omega) (by decide)
    obtain ⟨I3, a1, a2, a3, a4, a5⟩ := widen_ok (J := J) hrg h hW (show r < 7 by omega)
    have kp : Kpt I I3 := ⟨fun k _ x y => a2 k x y, fun j _ => by rw [a2 12 (by omega) (by omega)]⟩
    obtain ⟨F2, I2, b1, b2, b3, b4⟩ := ih (r + 1) (by omega) f (by omega) I3 J (ToF_kpt h kp) (Wt_kpt hW kp) (fun q hq => by
      by_cases e : q = r
      · subst e; exact ⟨a3, a4⟩
      · rw [(a5 q e).1, (a5 q e).2]; exact hI q (by omega))
    refine ⟨F2, I2, by omega, ?_, b3, fun k x y => by rw [b4 k x y, a2 k x y]⟩
    show b_L_keepAll_20 (g_L_keepAll f).1 (g_L_keepAll f).2.1 (nI r) I J = _
    unfold b_L_keepAll_20
    rw [if_neg h7, a1]
    simp only [cl2, nm, nI_1]
    exact b2
theorem ka39 (hrg : Rg d) : ∀ (t b : Nat), b + t = 18 → ∀ (F : Nat), t < F → ∀ (I : SI) (J : SJ) (lo hi : Nat → Int), ToF d I → Wt w I → LimI I lo hi → Lims d w (fun c => c < b ∧ there d c) lo hi → Msk (I 12 3) (fun c => c < b ∧ there d c) →
    ∃ (F2 : Nat) (I2 : SI) (lo2 hi2 : Nat → Int), F = F2 + (t + 1) ∧ (g_L_keepAll F).2.1 (nI b) I J = (g_L_keepAll F2).2.2 0 I2 J ∧ LimI I2 lo2 hi2 ∧ Lims d w (there d) lo2 hi2 ∧ Msk (I2 12 3) (there d) ∧ Kpt I I2 := by
  intro t
  induction t with
  | zero =>
    intro b hb F hF I J lo hi h hW hL hS hM
    obtain ⟨f, rfl⟩ : ∃ f, F = f + 1 := ⟨F - 1, by omega⟩
    have e : b = 18 := by omega
    subst e
    exact ⟨f, I, lo, hi, rfl, rfl, hL, Lims_congr hS (fun b hb => ⟨fun z => z.2, fun z => ⟨hb, z⟩⟩), Msk_iff hM (fun b hb => ⟨fun z => z.2, fun z => ⟨hb, z⟩⟩), Kpt_refl I⟩
  | succ t ih =>
    intro b hb F hF I J lo hi h hW hL hS hM
    obtain ⟨f, rfl⟩ : ∃ f, F = f + 1 := ⟨F - 1, by omega⟩
    have h18 : ¬ (18 : Int32) ≤ nI b := nI_ge (b := 18) (by omega) (by decide)
    have hb18 : b < 18 := by omega
    have st : (g_L_keepAll (f + 1)).2.1 (nI b) I J = b_L_keepAll_39 (g_L_keepAll f).2.1 (g_L_keepAll f).2.2 (nI b) I J := rfl
    rw [st]
    unfold b_L_keepAll_39
    rw [if_neg h18]
    rcases isThere_ok (J := J) hrg h hb18 with ⟨e, ht⟩ | ⟨e, ht⟩
    · obtain ⟨I3, a1, a2, a3, a4⟩ := keep_ok (J := J) hrg h hW hL hb18
      have eq : ∀ c, c < 18 → (((c < b ∧ there d c) ∨ c = b) ↔ (c < b + 1 ∧ there d c)) := fun c _ => by
        constructor
        · rintro (z | rfl)
          · exact ⟨by omega, z.2⟩
          · exact ⟨by omega, ht⟩
        · intro z
          by_cases q : c = b
          · exact Or.inr q
          · exact Or.inl ⟨by omega, z.2⟩
      obtain ⟨F2, I2, lo2, hi2, b1, b2, b3, b4, b5, b6⟩ := ih (b + 1) (by omega) f (by omega) I3 J _ _ (ToF_kpt h a4) (Wt_kpt hW a4) a2 (Lims_congr (fun r hr => ⟨uLo_ok (hS r hr).1 hb18, uHi_ok (hS r hr).2 hb18⟩) eq) (Msk_iff (by rw [a3]; exact Msk_or hM hb18) eq)
      refine ⟨F2, I2, lo2, hi2, by omega, ?_, b3, b4, b5, Kpt_trans a4 b6⟩
      simp only [e, cl3, one0, if_false, a1, cl2, nm, nI_1]
      exact b2
    · have eq : ∀ c, c < 18 → ((c < b ∧ there d c) ↔ (c < b + 1 ∧ there d c)) := fun c _ => by
        constructor
        · intro z; exact ⟨by omega, z.2⟩
        · intro z
          by_cases q : c = b
          · subst q; exact absurd z.2 ht
          · exact ⟨by omega, z.2⟩
      obtain ⟨F2, I2, lo2, hi2, b1, b2, b3, b4, b5, b6⟩ := ih (b + 1) (by omega) f (by omega) I J lo hi h hW hL (Lims_congr hS eq) (Msk_iff hM eq)
      refine ⟨F2, I2, lo2, hi2, by omega, ?_, b3, b4, b5, b6⟩
      simp only [e, cl3, if_true, nm, nI_1]
      exact b2
theorem ka66 : ∀ (t n : Nat), n + t = 3 → ∀ (F : Nat), t < F → ∀ (I : SI) (J : SJ) (o : Nat → Nat → Nat), PtI I (ptd d) → (∀ m, m < n → (∀ k, k < 4 → o m k < 4 ∧ I (16 + m) k = nI (o m k)) ∧ Ord (o m) ∧ ∀ k, k + 1 < 4 → ptd d m (o m k) ≤ ptd d m (o m (k + 1))) →
    ∃ (I2 : SI) (o2 : Nat → Nat → Nat), (g_L_keepAll F).2.2 (nI n) I J = some (I2, J) ∧ (∀ m, m < 3 → (∀ k, k < 4 → o2 m k < 4 ∧ I2 (16 + m) k = nI (o2 m k)) ∧ Ord (o2 m) ∧ ∀ k, k + 1 < 4 → ptd d m (o2 m k) ≤ ptd d m (o2 m (k + 1))) ∧ ∀ k, k < 16 ∨ 18 < k → I2 k = I k := by
  intro t
  induction t with
  | zero =>
    intro n hn F hF I J o hP h
    obtain ⟨f, rfl⟩ : ∃ f, F = f + 1 := ⟨F - 1, by omega⟩
    have e : n = 3 := by omega
    subst e
    exact ⟨I, o, rfl, h, fun _ _ => rfl⟩
  | succ t ih =>
    intro n hn F hF I J o hP h
    obtain ⟨f, rfl⟩ : ∃ f, F = f + 1 := ⟨F - 1, by omega⟩
    have h3 : ¬ (3 : Int32) ≤ nI n := nI_ge (b := 3) (by omega) (by decide)
    have vn : vin (nI n) 3 := vp_in_nI (by omega) (by decide)
    have kn : (nI n).toNatClampNeg = n := nI_clamp (Nat.lt_trans (show n < 3 by omega) (by decide))
    obtain ⟨I3, b, a1, a2, a3, a4, a5⟩ := sort_ok (p := ptd d n) (show n < 3 by omega) J (hP n (by omega))
    obtain ⟨I2, o2, b1, b2, b3⟩ := ih (n + 1) (by omega) f (by omega) I3 J (fun m => if m = n then b else o m) (fun r hr i hi => by rw [a5 (7 + r) (by omega)]; exact hP r hr i hi) (fun m hm => by
      by_cases e : m = n
      · subst e
        show (∀ k, k < 4 → (if m = m then b else o m) k < 4 ∧ _) ∧ _
        rw [if_pos rfl]
        exact ⟨a2, a3, a4⟩
      · show (∀ k, k < 4 → (if m = n then b else o m) k < 4 ∧ _) ∧ _
        rw [if_neg e, a5 (16 + m) (by omega)]
        exact h m (by omega))
    refine ⟨I2, o2, ?_, b2, fun k hk => by rw [b3 k hk, a5 k (by omega)]⟩
    show b_L_keepAll_66 (g_L_keepAll f).2.2 (nI n) I J = _
    unfold b_L_keepAll_66
    simp only [if_neg h3, gd_of vn, kn, a1, cl2, nm, nI_1]
    exact b1
theorem begin_ok (hrg : Rg d) (hw : 1 ≤ w ∧ w ≤ 40) {I : SI} (J : SJ) (h : ToF d I) :
    ∃ (I2 : SI) (lo hi : Nat → Int), m_E_begin (nI w) I J = some (I2, J) ∧ Mst d w lo hi I2 ∧ Lims d w (there d) lo hi ∧ Msk (I2 12 3) (there d) ∧ ∀ k, k < 12 → I2 k = I k := by
  obtain ⟨I4, e4⟩ : ∃ z : SI, z = va_up (va_up (va_up I 12 (upd (I 12) 1 (nI w))) 12 (upd ((va_up I 12 (upd (I 12) 1 (nI w))) 12) 2 (10 * nI w))) 12 (upd ((va_up (va_up I 12 (upd (I 12) 1 (nI w))) 12 (upd ((va_up I 12 (upd (I 12) 1 (nI w))) 12) 2 (10 * nI w))) 12) 3 0) := ⟨_, rfl⟩
  have f4 : ∀ k, k ≠ 12 → I4 k = I k := fun k hk => by rw [e4, va_up_ne _ _ hk, va_up_ne _ _ hk, va_up_ne _ _ hk]
  have w1 : I4 12 1 = nI w := by rw [e4]; rfl
  have w2 : I4 12 2 = i3 (10 * w) := by
    have : I4 12 2 = 10 * nI w := by rw [e4]; rfl
    rw [this, i3_nI, i3_10, i3_mul]
  have w3 : I4 12 3 = 0 := by rw [e4]; rfl
  have T4 : ToF d I4 := ToF_same h (fun k hk => f4 k (by omega))
  have W4 : Wt w I4 := ⟨w1, w2, hw⟩
  obtain ⟨F1, I5, a1, a2, a3, a4⟩ := ka20 hrg 7 0 rfl fuel (by decide) I4 J T4 W4 (fun q hq => absurd hq (by omega))
  have hf : 100 < F1 + 8 := by rw [← a1]; decide
  have k5 : Kpt I4 I5 := ⟨fun k _ x y => a4 k x y, fun j _ => by rw [a4 12 (by omega) (by omega)]⟩
  have L5 : LimI I5 (fun _ => 0) (fun r => base d w r) := fun r hr => ⟨(a3 r hr).1, (a3 r hr).2, by show (0 : Int) ≤ 0; omega, by show (0 : Int) ≤ 16000; omega, (base_le hw r).1, (base_le hw r).2⟩
  have S5 : Lims d w (fun c => c < 0 ∧ there d c) (fun _ => 0) (fun r => base d w r) := fun r hr => ⟨Lo_0 r (fun b _ _ z => by omega), Hi_0 r (fun b _ _ z => by omega)⟩
  have M5 : Msk (I5 12 3) (fun c => c < 0 ∧ there d c) := by
    rw [a4 12 (by omega) (by omega), w3]
    exact Msk_iff Msk_0 (fun i _ => ⟨fun z => z.elim, fun z => by omega⟩)
  obtain ⟨F2, I6, lo, hi, b1, b2, b3, b4, b5, b6⟩ := ka39 hrg 18 0 rfl F1 (by omega) I5 J _ _ (ToF_kpt T4 k5) (Wt_kpt W4 k5) L5 S5 M5
  have k6 := Kpt_trans k5 b6
  have T6 := ToF_kpt T4 k6
  have W6 := Wt_kpt W4 k6
  obtain ⟨I7, o, c1, c2, c3⟩ := ka66 (d := d) 3 0 rfl F2 (by omega) I6 J (fun _ _ => 0) (PtI_of hrg T6) (fun m hm => absurd hm (by omega))
  have T7 : ToF d I7 := ToF_same T6 (fun k hk => c3 k (by omega))
  have ek : m_L_keepAll (nI w) I J = some (I7, J) := by
    unfold m_L_keepAll b_L_keepAll_0
    simp only [nm]
    rw [← e4]
    exact a2.trans (b2.trans c1)
  have t7 : I7 12 2 = i3 (10 * w) := by rw [c3 12 (by omega)]; exact W6.2.1
  obtain ⟨I8, d1, d2, d3, d4⟩ := slopes_ok (T := 10 * w) hrg J ⟨by omega, by omega⟩ (PtI_of hrg T7) t7
  have T8 : ToF d I8 := ToF_same T7 (fun k hk => d4 k (by omega) (by omega))
  refine ⟨I8, lo, hi, ?_, ⟨T8, ?_, hw, d3, o, ⟨d2, fun r hr => ?_, PtI_of hrg T8, ?_, fun n hn k hk => ?_⟩, fun n hn => (c2 n hn).2⟩, b4, ?_, fun k hk => ?_⟩
  · unfold m_E_begin b_E_begin_0
    rw [ek]
    simp only [cl2, d1]
  · rw [d4 12 (by omega) (by omega), c3 12 (by omega)]; exact W6.1
  · rw [d4 13 (by omega) (by omega), c3 13 (by omega), d4 14 (by omega) (by omega), c3 14 (by omega)]; exact b3 r hr
  · rw [d4 12 (by omega) (by omega)]; exact t7
  · rw [d4 (16 + n) (by omega) (by omega)]; exact (c2 n hn).1 k hk
  · rw [d4 12 (by omega) (by omega), c3 12 (by omega)]; exact b5
  · rw [d4 k (by omega) (by omega), c3 k (by omega), k6.1 k (by omega) (by omega) (by omega), f4 k (by omega)]
theorem Mst_lim {lo hi lo' hi' : Nat → Int} {I I2 : SI} (h : Mst d w lo hi I) (hk : Kpt I I2) (hL : LimI I2 lo' hi') : Mst d w lo' hi' I2 := by
  obtain ⟨h1, h2, h3, h4, o, ⟨c1, c2, c3, c4, c5⟩, h6⟩ := h
  refine ⟨ToF_kpt h1 hk, by rw [hk.2 1 (by omega)]; exact h2, h3, fun r hr j hj => ?_, o, ⟨fun r hr => ?_, hL, fun r hr i hi => ?_, ?_, fun n hn k hk2 => ?_⟩, h6⟩
  · rw [hk.1 (22 + r) (by omega) (by omega) (by omega)]; exact h4 r hr j hj
  · rw [hk.1 20 (by omega) (by omega) (by omega)]; exact c1 r hr
  · rw [hk.1 (7 + r) (by omega) (by omega) (by omega)]; exact c3 r hr i hi
  · rw [hk.2 2 (by omega)]; exact c4
  · rw [hk.1 (16 + n) (by omega) (by omega) (by omega)]; exact c5 n hn k hk2
theorem Mst_Wt {lo hi : Nat → Int} {I : SI} (h : Mst d w lo hi I) : Wt w I := by
  obtain ⟨h1, h2, h3, h4, o, ⟨c1, c2, c3, c4, c5⟩, h6⟩ := h
  exact ⟨h2, c4, h3⟩
theorem Mst_Lim {lo hi : Nat → Int} {I : SI} (h : Mst d w lo hi I) : LimI I lo hi := by
  obtain ⟨h1, h2, h3, h4, o, ⟨c1, c2, c3, c4, c5⟩, h6⟩ := h
  exact c2
/-- the bounds of a row are gone over again -/
theorem lo42 (hrg : Rg d) {r : Nat} (hr : r < 7) {S : Nat → Prop} {l0 h0 : Int} (b0 : 0 ≤ l0 ∧ l0 ≤ 16000 ∧ 0 ≤ h0 ∧ h0 ≤ 16000) : ∀ (t b : Nat), b + t = 18 → ∀ (F : Nat), t < F → ∀ (I : SI) (J : SJ) (lo hi : Nat → Int), ToF d I → Wt w I → LimI I lo hi → Msk (I 12 3) S → (∀ q, q < 7 → q ≠ r → Lo d w S q (lo q) ∧ Hi d w S q (hi q)) → Lo d w (fun c => c < b ∧ S c) r (lo r) → Hi d w (fun c => c < b ∧ S c) r (hi r) →
    ∃ (x : Int32) (I2 : SI) (lo2 hi2 : Nat → Int), g_L_leaveOut F (nI r) (i3 l0) (i3 h0) (nI b) I J = some (x, I2, J) ∧ LimI I2 lo2 hi2 ∧ Lims d w S lo2 hi2 ∧ Msk (I2 12 3) S ∧ Kpt I I2 ∧ (∀ q, q < 7 → q ≠ r → lo2 q = lo q ∧ hi2 q = hi q) ∧ (x = 1 ∨ (x = 0 ∧ lo2 r = l0 ∧ hi2 r = h0)) := by
  intro t
  induction t with
  | zero =>
    intro b hb F hF I J lo hi h hW hL hM ho h1 h2
    obtain ⟨f, rfl⟩ : ∃ f, F = f + 1 := ⟨F - 1, by omega⟩
    have e : b = 18 := by omega
    subst e
    have h18 : (18 : Int32) ≤ nI 18 := by decide
    have vr : vin (nI r) 7 := vp_in_nI hr (by decide)
    have kr : (nI r).toNatClampNeg = r := nI_clamp (Nat.lt_trans hr (by decide))
    have l := hL r hr
    have hS : Lims d w S lo hi := fun q hq => by
      by_cases e : q = r
      · subst e
        exact ⟨Lo_congr h1 (fun b hb _ _ => ⟨fun z => z.2, fun z => ⟨hb, z⟩⟩), Hi_congr h2 (fun b hb _ _ => ⟨fun z => z.2, fun z => ⟨hb, z⟩⟩)⟩
      · exact ho q hq e
    simp only [g_L_leaveOut, b_L_leaveOut_42, h18, if_true, gd_of vr, kr, nm, l.1, l.2.1, i3_eq (a := lo r) (b := l0) (by omega) (by omega) (by omega) (by omega), i3_eq (a := hi r) (b := h0) (by omega) (by omega) (by omega) (by omega)]
    by_cases c1 : lo r = l0
    · rw [if_pos c1]
      by_cases c2 : hi r = h0
      · rw [if_pos c2]
        exact ⟨0, I, lo, hi, rfl, hL, hS, hM, Kpt_refl I, fun _ _ _ => ⟨rfl, rfl⟩, Or.inr ⟨rfl, c1, c2⟩⟩
      · rw [if_neg c2]
        exact ⟨1, I, lo, hi, rfl, hL, hS, hM, Kpt_refl I, fun _ _ _ => ⟨rfl, rfl⟩, Or.inl rfl⟩
    · rw [if_neg c1]
      exact ⟨1, I, lo, hi, rfl, hL, hS, hM, Kpt_refl I, fun _ _ _ => ⟨rfl, rfl⟩, Or.inl rfl⟩
  | succ t ih =>
    intro b hb F hF I J lo hi h hW hL hM ho h1 h2
    obtain ⟨f, rfl⟩ : ∃ f, F = f + 1 := ⟨F - 1, by omega⟩
    have h18 : ¬ (18 : Int32) ≤ nI b := nI_ge (b := 18) (by omega) (by decide)
    have hb18 : b < 18 := by omega
    have hrb := rowB_lt b hb18
    have skip : (S b → rowB b ≠ r) → ∃ (x : Int32) (I2 : SI) (lo2 hi2 : Nat → Int), g_L_leaveOut f (nI r) (i3 l0) (i3 h0) (nI (b + 1)) I J = some (x, I2, J) ∧ LimI I2 lo2 hi2 ∧ Lims d w S lo2 hi2 ∧ Msk (I2 12 3) S ∧ Kpt I I2 ∧ (∀ q, q < 7 → q ≠ r → lo2 q = lo q ∧ hi2 q = hi q) ∧ (x = 1 ∨ (x = 0 ∧ lo2 r = l0 ∧ hi2 r = h0)) := fun hs => by
      have eq : ∀ c, c < 18 → rowB c = r → ((c < b ∧ S c) ↔ (c < b + 1 ∧ S c)) := fun c _ hc => by
        constructor
        · intro z; exact ⟨by omega, z.2⟩
        · intro z
          by_cases q : c = b
          · subst q; exact absurd hc (hs z.2)
          · exact ⟨by omega, z.2⟩
      exact ih (b + 1) (by omega) f (by omega) I J lo hi h hW hL hM ho (Lo_congr h1 (fun c c1 c2 _ => eq c c1 c2)) (Hi_congr h2 (fun c c1 c2 _ => eq c c1 c2))
    show ∃ (x : Int32) (I2 : SI) (lo2 hi2 : Nat → Int), b_L_leaveOut_42 (g_L_leaveOut f) (nI r) (i3 l0) (i3 h0) (nI b) I J = some (x, I2, J) ∧ _
    unfold b_L_leaveOut_42
    rw [if_neg h18]
    rcases hasBound_ok hM hb18 with ⟨e, hs⟩ | ⟨e, hs⟩
    · simp only [e, cl1, one0, if_false, rowOf_ok b hb18, nm, nI_1]
      by_cases c : rowB b = r
      · rw [if_pos (by rw [c])]
        obtain ⟨I3, a1, a2, a3, a4⟩ := keep_ok (J := J) hrg h hW hL hb18
        rw [a1]
        simp only [cl2]
        have eq : ∀ c, c < 18 → (((c < b ∧ S c) ∨ c = b) ↔ (c < b + 1 ∧ S c)) := fun c _ => by
          constructor
          · rintro (z | rfl)
            · exact ⟨by omega, z.2⟩
            · exact ⟨by omega, hs⟩
          · intro z
            by_cases q : c = b
            · exact Or.inr q
            · exact Or.inl ⟨by omega, z.2⟩
        have same : ∀ q, q ≠ r → uLo d w b lo q = lo q ∧ uHi d w b hi q = hi q := fun q hq => ⟨by unfold uLo; rw [if_neg (fun z => hq (by rw [z.1, c]))], by unfold uHi; rw [if_neg (fun z => hq (by rw [z.1, c]))]⟩
        obtain ⟨x, I2, lo2, hi2, b1, b2, b3, b4, b5, b6, b7⟩ := ih (b + 1) (by omega) f (by omega) I3 J _ _ (ToF_kpt h a4) (Wt_kpt hW a4) a2 (Msk_iff (by rw [a3]; exact Msk_or hM hb18) (fun i _ => ⟨fun z => by rcases z with z | rfl; exact z; exact hs, Or.inl⟩)) (fun q hq hqr => by rw [(same q hqr).1, (same q hqr).2]; exact ho q hq hqr) (Lo_congr (uLo_ok h1 hb18) (fun c c1 _ _ => eq c c1)) (Hi_congr (uHi_ok h2 hb18) (fun c c1 _ _ => eq c c1))
        exact ⟨x, I2, lo2, hi2, b1, b2, b3, b4, Kpt_trans a4 b5, fun q hq hqr => by rw [(b6 q hq hqr).1, (b6 q hq hqr).2, (same q hqr).1, (same q hqr).2]; exact ⟨rfl, rfl⟩, b7⟩
      · rw [if_neg (fun z => c (by
          have := congrArg Int32.toInt z
          rw [nI_toInt (by omega), nI_toInt (by omega)] at this
          omega))]
        exact skip (fun _ => c)
    · simp only [e, cl1, if_true, nm, nI_1]
      exact skip (fun z => absurd z hs)
theorem leaveOut_ok (hrg : Rg d) {I : SI} (J : SJ) {lo hi : Nat → Int} {S : Nat → Prop} (h : Mst d w lo hi I) (hS : Lims d w S lo hi) (hM : Msk (I 12 3) S) {b : Nat} (hb : b < 18) :
    ∃ (x : Int32) (I2 : SI) (lo2 hi2 : Nat → Int), m_L_leaveOut (nI b) I J = some (x, I2, J) ∧ Mst d w lo2 hi2 I2 ∧ Lims d w (fun c => S c ∧ c ≠ b) lo2 hi2 ∧ Msk (I2 12 3) (fun c => S c ∧ c ≠ b) ∧ (∀ k, k < 12 → I2 k = I k) ∧ (x = 1 ∨ (x = 0 ∧ ∀ q, q < 7 → lo2 q = lo q ∧ hi2 q = hi q)) := by
  have hr := rowB_lt b hb
  have hL := Mst_Lim h
  have hW := Mst_Wt h
  have l := hL _ hr
  have vr : vin (nI (rowB b)) 7 := vp_in_nI hr (by decide)
  have kr : (nI (rowB b)).toNatClampNeg = rowB b := nI_clamp (Nat.lt_trans hr (by decide))
  obtain ⟨I3, e3⟩ : ∃ z : SI, z = va_up I 12 (upd (I 12) 3 (I 12 3 &&& (((1 : Int32) <<< (nI b &&& 31)) ^^^ (-1)))) := ⟨_, rfl⟩
  have k3 : Kpt I I3 := ⟨fun k a _ _ => by rw [e3, va_up_ne _ _ a], fun j hj => by rw [e3, va_up_self]; unfold upd; rw [if_neg hj]⟩
  have n3 : I3 12 3 = (I 12 3 &&& (((1 : Int32) <<< (nI b &&& 31)) ^^^ (-1))) := by rw [e3]; rfl
  have L3 : LimI I3 lo hi := fun r hr => by rw [e3]; exact hL r hr
  have M3 : Msk (I3 12 3) (fun c => S c ∧ c ≠ b) := by rw [n3]; exact Msk_and hM hb
  have T3 := ToF_kpt h.1 k3
  have W3 := Wt_kpt hW k3
  obtain ⟨I4, a1, a2, a3, a4, a5⟩ := widen_ok (J := J) hrg T3 W3 hr
  have k4 : Kpt I3 I4 := ⟨fun k _ x y => a2 k x y, fun j _ => by rw [a2 12 (by omega) (by omega)]⟩
  have L4 : LimI I4 (fun q => if q = rowB b then 0 else lo q) (fun q => if q = rowB b then base d w q else hi q) := fun r hr7 => by
    show I4 13 r = i3 (if r = rowB b then 0 else lo r) ∧ I4 14 r = i3 (if r = rowB b then base d w r else hi r) ∧ 0 ≤ (if r = rowB b then 0 else lo r) ∧ (if r = rowB b then 0 else lo r) ≤ 16000 ∧ 0 ≤ (if r = rowB b then base d w r else hi r) ∧ (if r = rowB b then base d w r else hi r) ≤ 16000
    by_cases e : r = rowB b
    · subst e
      rw [if_pos rfl, if_pos rfl]
      exact ⟨a3, a4, by omega, by omega, base_le hW.2.2 _⟩
    · rw [if_neg e, if_neg e, (a5 r e).1, (a5 r e).2]
      exact L3 r hr7
  obtain ⟨x, I2, lo2, hi2, b1, b2, b3, b4, b5, b6, b7⟩ := lo42 (w := w) (S := fun c => S c ∧ c ≠ b) hrg hr (l0 := lo (rowB b)) (h0 := hi (rowB b)) ⟨l.2.2.1, l.2.2.2.1, l.2.2.2.2⟩ 18 0 rfl fuel (by decide) I4 J _ _ (ToF_kpt T3 k4) (Wt_kpt W3 k4) L4 (by rw [a2 12 (by omega) (by omega)]; exact M3) (fun q hq hqr => by
      show Lo d w _ q (if q = rowB b then 0 else lo q) ∧ Hi d w _ q (if q = rowB b then base d w q else hi q)
      rw [if_neg hqr, if_neg hqr]
      have ne : ∀ c, rowB c = q → c ≠ b := fun c hc e => hqr (by rw [← hc, e])
      exact ⟨Lo_congr (hS q hq).1 (fun c _ c2 _ => ⟨fun z => ⟨z, ne c c2⟩, fun z => z.1⟩), Hi_congr (hS q hq).2 (fun c _ c2 _ => ⟨fun z => ⟨z, ne c c2⟩, fun z => z.1⟩)⟩) (by
      show Lo d w _ (rowB b) (if rowB b = rowB b then 0 else lo (rowB b))
      rw [if_pos rfl]
      exact Lo_0 _ (fun c _ _ z => by omega)) (by
      show Hi d w _ (rowB b) (if rowB b = rowB b then base d w (rowB b) else hi (rowB b))
      rw [if_pos rfl]
      exact Hi_0 _ (fun c _ _ z => by omega))
  have kk := Kpt_trans k3 (Kpt_trans k4 b5)
  refine ⟨x, I2, lo2, hi2, ?_, Mst_lim h kk b2, b3, b4, fun k hk => kk.1 k (by omega) (by omega) (by omega), ?_⟩
  · simp only [m_L_leaveOut, b_L_leaveOut_0, rowOf_ok b hb, cl1, gd_of vr, kr, nm, l.1, l.2.1]
    rw [← e3, a1]
    exact b1
  · rcases b7 with b7 | ⟨b7, b8, b9⟩
    · exact Or.inl b7
    · refine Or.inr ⟨b7, fun q hq => ?_⟩
      by_cases e : q = rowB b
      · subst e; exact ⟨b8, b9⟩
      · have := b6 q hq e
        simp only [if_neg e] at this
        exact this
end KA
