/-! Room for the stuffs; what a nutrient can be at most and at least. -/
def su (f : Nat → Int) : Nat → Nat → Int
  | _, 0 => 0
  | s, t + 1 => f s + su f (s + 1) t
section ROOM
variable {I : SI} {J : SJ} {lo hi : Nat → Int} {T : Int}
def Rm (lo hi : Nat → Int) (T : Int) : Prop := (∀ k, k < 4 → lo k ≤ hi k) ∧ lo 0 + lo 1 + lo 2 + lo 3 ≤ T ∧ T ≤ hi 0 + hi 1 + hi 2 + hi 3
theorem room_loop (hL : LimI I lo hi) (hT : I 12 2 = i3 T) (hT1 : 0 ≤ T ∧ T ≤ 400) :
    ∀ (t s : Nat), s + t = 4 → ∀ (F : Nat), t < F → ∀ a b : Int, 0 ≤ a → a ≤ 16000 * s → 0 ≤ b → b ≤ 16000 * s → ∃ x : Int32, g_L_leaveRoomToStuffs F (i3 a) (i3 b) (nI s) I J = some (x, I, J) ∧ ((x = 1 ∧ (∀ k, s ≤ k → k < 4 → lo k ≤ hi k) ∧ a + su lo s t ≤ T ∧ T ≤ b + su hi s t) ∨ (x = 0 ∧ ¬ ((∀ k, s ≤ k → k < 4 → lo k ≤ hi k) ∧ a + su lo s t ≤ T ∧ T ≤ b + su hi s t))) := by
  intro t
  induction t with
  | zero =>
    intro s hs F hF a b a0 a1 b0 b1
    obtain ⟨f, rfl⟩ : ∃ f, F = f + 1 := ⟨F - 1, by omega⟩
    have e : s = 4 := by omega
    subst e
    have h4 : (4 : Int32) ≤ nI 4 := by decide
    simp only [g_L_leaveRoomToStuffs, b_L_leaveRoomToStuffs_6, h4, if_true, hT, su, Int.add_zero, i3_lt (a := T) (b := a) (by omega) (by omega) (by omega) (by omega), i3_lt (a := b) (b := T) (by omega) (by omega) (by omega) (by omega)]
    by_cases c1 : T < a
    · rw [if_pos c1]
      exact ⟨0, rfl, Or.inr ⟨rfl, fun h => by omega⟩⟩
    · rw [if_neg c1]
      by_cases c2 : b < T
      · rw [if_pos c2]
        exact ⟨0, rfl, Or.inr ⟨rfl, fun h => by omega⟩⟩
      · rw [if_neg c2]
        exact ⟨1, rfl, Or.inl ⟨rfl, fun k h1 h2 => by omega, by omega, by omega⟩⟩
  | succ t ih =>
    intro s hs F hF a b a0 a1 b0 b1
    obtain ⟨f, rfl⟩ : ∃ f, F = f + 1 := ⟨F - 1, by omega⟩
    have h4 : ¬ (4 : Int32) ≤ nI s := nI_ge (b := 4) (by omega) (by decide)
    have vs : vin (nI s) 7 := vp_in_nI (by omega) (by decide)
    have ks : (nI s).toNatClampNeg = s := nI_clamp (Nat.lt_trans (show s < 4 by omega) (by decide))
    have l := hL s (by omega)
    simp only [g_L_leaveRoomToStuffs, b_L_leaveRoomToStuffs_6, h4, if_false, gd_of vs, ks, nm, l.1, l.2.1, i3_add, nI_1, i3_le (a := lo s) (b := hi s) (by omega) (by omega) (by omega) (by omega), su]
    by_cases c : lo s ≤ hi s
    · rw [if_pos c]
      obtain ⟨x, g1, g2⟩ := ih (s + 1) (by omega) f (by omega) (a + lo s) (b + hi s) (by omega) (by omega) (by omega) (by omega)
      refine ⟨x, g1, ?_⟩
      rcases g2 with ⟨g3, g4, g5, g6⟩ | ⟨g3, g4⟩
      · refine Or.inl ⟨g3, fun k h1 h2 => ?_, by omega, by omega⟩
        by_cases e : k = s
        · subst e; exact c
        · exact g4 k (by omega) h2
      · refine Or.inr ⟨g3, fun h => g4 ⟨fun k h1 h2 => h.1 k (by omega) h2, by omega, by omega⟩⟩
    · rw [if_neg c]
      exact ⟨0, rfl, Or.inr ⟨rfl, fun h => c (h.1 s (Nat.le_refl s) (by omega))⟩⟩
theorem room_ok (hL : LimI I lo hi) (hT : I 12 2 = i3 T) (hT1 : 0 ≤ T ∧ T ≤ 400) : ∃ x : Int32, m_L_leaveRoomToStuffs I J = some (x, I, J) ∧ ((x = 1 ∧ Rm lo hi T) ∨ (x = 0 ∧ ¬ Rm lo hi T)) := by
  obtain ⟨x, g1, g2⟩ := room_loop (J := J) hL hT hT1 4 0 rfl fuel (by decide) 0 0 (by omega) (by omega) (by omega) (by omega)
  refine ⟨x, g1, ?_⟩
  have e : ∀ f : Nat → Int, su f 0 4 = f 0 + (f 1 + (f 2 + (f 3 + 0))) := fun f => rfl
  rw [e, e] at g2
  rcases g2 with ⟨g3, g4, g5, g6⟩ | ⟨g3, g4⟩
  · exact Or.inl ⟨g3, fun k hk => g4 k (by omega) hk, by omega, by omega⟩
  · exact Or.inr ⟨g3, fun h => g4 ⟨fun k _ hk => h.1 k hk, by have := h.2.1; omega, by have := h.2.2; omega⟩⟩
end ROOM
section EXTR
variable {I : SI} {J : SJ} {lo hi : Nat → Int} {T : Int} {pt : Nat → Nat → Int} {o : Nat → Nat} {n : Nat} {x2 : Int32}
/-- the order that is gone through -/
def oo (o : Nat → Nat) (x2 : Int32) (k : Nat) : Nat := if x2 = 0 then o k else o (3 - k)
theorem mn_le {a b : Int} (ha : 0 ≤ a) (hb : 0 ≤ b) : 0 ≤ mnI a b ∧ mnI a b ≤ a ∧ mnI a b ≤ b := by
  unfold mnI
  split <;> omega
theorem grd_le {p c : Nat → Int} : ∀ (t s : Nat) (L : Int), 0 ≤ L → L ≤ 400 → (∀ k, s ≤ k → k < s + t → 0 ≤ p k ∧ p k ≤ 40 ∧ 0 ≤ c k) → 0 ≤ grd p c s t L ∧ grd p c s t L ≤ 16000 * t
  | 0, _, _, _, _, _ => by constructor <;> (show _ ≤ _; simp [grd])
  | t + 1, s, L, h0, h1, h => by
    have hs := h s (Nat.le_refl s) (by omega)
    have hm := mn_le h0 hs.2.2
    have ih := grd_le t (s + 1) (L - mnI L (c s)) (by omega) (by omega) (fun k k1 k2 => h k (by omega) (by omega))
    have m := mulB (p := p s) (M := 40) (B := 400) (a := mnI L (c s)) hs.1 hs.2.1 (by omega) (by omega)
    have m0 : 0 ≤ p s * mnI L (c s) := Int.mul_nonneg hs.1 hm.1
    show 0 ≤ p s * mnI L (c s) + grd p c (s + 1) t (L - mnI L (c s)) ∧ p s * mnI L (c s) + grd p c (s + 1) t (L - mnI L (c s)) ≤ _
    omega
theorem ext74 (hL : LimI I lo hi) (hP : PtI I pt) (hn : n < 3) (ho : ∀ k, k < 4 → o k < 4 ∧ I (16 + n) k = nI (o k)) (hr : ∀ k, k < 4 → lo k ≤ hi k) :
    ∀ (t s : Nat), s + t = 4 → ∀ (F : Nat), 2 * t < F → ∀ a L : Int, 0 ≤ L → L ≤ 400 → (g_L_extremeOf F).2.1 x2 n n (i3 a) (i3 L) (nI s) I J = some (i3 (a + grd (fun k => pt n (oo o x2 k)) (fun k => hi (oo o x2 k) - lo (oo o x2 k)) s t L), I, J) := by
  intro t
  induction t with
  | zero =>
    intro s hs F hF a L L0 L1
    obtain ⟨f, rfl⟩ : ∃ f, F = f + 1 := ⟨F - 1, by omega⟩
    have e : s = 4 := by omega
    subst e
    have h4 : (4 : Int32) ≤ nI 4 := by decide
    simp only [g_L_extremeOf, b_L_extremeOf_74, h4, if_true, gd_of hn, grd, Int.add_zero]
  | succ t ih =>
    intro s hs F hF a L L0 L1
    obtain ⟨f, rfl⟩ : ∃ f, F = f + 2 := ⟨F - 2, by omega⟩
    have h4 : ¬ (4 : Int32) ≤ nI s := nI_ge (b := 4) (by omega) (by decide)
    obtain ⟨q, eq⟩ : ∃ q, q = oo o x2 s := ⟨_, rfl⟩
    obtain ⟨j, ej⟩ : ∃ j, j = (if x2 = 0 then s else 3 - s) := ⟨_, rfl⟩
    have hj : j < 4 := by rw [ej]; split <;> omega
    have ej2 : q = o j := by rw [eq, ej]; unfold oo; split <;> rfl
    have hq : q < 4 := by rw [ej2]; exact (ho j hj).1
    have l := hL q (by omega)
    have pp := hP n hn q hq
    have vj : vin (nI j) 4 := vp_in_nI hj (by decide)
    have vq : vin (nI q) 7 := vp_in_nI (by omega) (by decide)
    have vq4 : vin (nI q) 4 := vp_in_nI (by omega) (by decide)
    have kj : (nI j).toNatClampNeg = j := nI_clamp (Nat.lt_trans hj (by decide))
    have kq : (nI q).toNatClampNeg = q := nI_clamp (Nat.lt_trans hq (by decide))
    have s3 : (3 : Int32) - nI s = nI (3 - s) := pk_sub (a := 3) (b := s) (by omega)
    have st : (g_L_extremeOf (f + 2)).2.1 x2 n n (i3 a) (i3 L) (nI s) I J = (g_L_extremeOf (f + 1)).2.2 x2 n n (i3 a) (i3 L) (nI s) (nI j) n I J := by
      show b_L_extremeOf_74 (g_L_extremeOf (f + 1)).2.2 x2 n n (i3 a) (i3 L) (nI s) I J = _
      unfold b_L_extremeOf_74
      rw [gd_of hn, gd_of hn, if_neg h4, ej]
      by_cases c : x2 = 0
      · rw [if_pos c, if_pos c]
      · rw [if_neg c, if_neg c]
        simp only [nm, s3]
    have hrq := hr q hq
    have hm := mn_le L0 (show 0 ≤ hi q - lo q by omega)
    have em : (if i3 (hi q - lo q) < i3 L then i3 (hi q - lo q) else i3 L) = i3 (mnI L (hi q - lo q)) := by
      simp only [i3_lt (a := hi q - lo q) (b := L) (by omega) (by omega) (by omega) (by omega)]
      unfold mnI
      split <;> rfl
    rw [st]
    have st2 : (g_L_extremeOf (f + 1)).2.2 x2 n n (i3 a) (i3 L) (nI s) (nI j) n I J = (g_L_extremeOf f).2.1 x2 n n (i3 (a + pt n q * mnI L (hi q - lo q))) (i3 (L - mnI L (hi q - lo q))) (nI (s + 1)) I J := by
      show b_L_extremeOf_95 (g_L_extremeOf f).2.1 x2 n n (i3 a) (i3 L) (nI s) (nI j) n I J = _
      unfold b_L_extremeOf_95
      simp only [gd_of hn, gd_of vj, kj, nm, (ho j hj).2, ← ej2, gd_of vq, gd_of vq4, kq, l.1, l.2.1, i3_sub, em, pp.1, i3_mul, i3_add, nI_1]
    rw [st2, ih (s + 1) (by omega) f (by omega) _ _ (by omega) (by omega)]
    show _ = some (i3 (a + (pt n (oo o x2 s) * mnI L (hi (oo o x2 s) - lo (oo o x2 s)) + grd _ _ (s + 1) t (L - mnI L (hi (oo o x2 s) - lo (oo o x2 s))))), I, J)
    rw [← eq, Int.add_assoc]
theorem ext30 (hL : LimI I lo hi) (hP : PtI I pt) (hn : n < 3) :
    ∀ (t s : Nat), s + t = 4 → ∀ (F : Nat), t < F → ∀ a L : Int, ∃ F2, F = F2 + t + 1 ∧ (g_L_extremeOf F).1 x2 n n (i3 a) (i3 L) (nI s) I J = (g_L_extremeOf F2).2.1 x2 n n (i3 (a + su (fun k => pt n k * lo k) s t)) (i3 (L - su lo s t)) 0 I J := by
  intro t
  induction t with
  | zero =>
    intro s hs F hF a L
    obtain ⟨f, rfl⟩ : ∃ f, F = f + 1 := ⟨F - 1, by omega⟩
    have e : s = 4 := by omega
    subst e
    have h4 : (4 : Int32) ≤ nI 4 := by decide
    refine ⟨f, rfl, ?_⟩
    show b_L_extremeOf_30 (g_L_extremeOf f).1 (g_L_extremeOf f).2.1 x2 n n (i3 a) (i3 L) (nI 4) I J = _
    unfold b_L_extremeOf_30
    rw [gd_of hn, gd_of hn, if_pos h4]
    simp only [su, Int.add_zero, Int.sub_zero]
  | succ t ih =>
    intro s hs F hF a L
    obtain ⟨f, rfl⟩ : ∃ f, F = f + 1 := ⟨F - 1, by omega⟩
    have h4 : ¬ (4 : Int32) ≤ nI s := nI_ge (b := 4) (by omega) (by decide)
    have vs : vin (nI s) 7 := vp_in_nI (by omega) (by decide)
    have vs4 : vin (nI s) 4 := vp_in_nI (by omega) (by decide)
    have ks : (nI s).toNatClampNeg = s := nI_clamp (Nat.lt_trans (show s < 4 by omega) (by decide))
    have l := hL s (by omega)
    have pp := hP n hn s (by omega)
    obtain ⟨F2, e, g⟩ := ih (s + 1) (by omega) f (by omega) (a + pt n s * lo s) (L - lo s)
    refine ⟨F2, by omega, ?_⟩
    show b_L_extremeOf_30 (g_L_extremeOf f).1 (g_L_extremeOf f).2.1 x2 n n (i3 a) (i3 L) (nI s) I J = _
    unfold b_L_extremeOf_30
    simp only [gd_of hn, h4, if_false, gd_of vs, gd_of vs4, ks, nm, l.1, pp.1, i3_mul, i3_add, i3_sub, nI_1]
    rw [g]
    have e1 : a + pt n s * lo s + su (fun k => pt n k * lo k) (s + 1) t = a + su (fun k => pt n k * lo k) s (t + 1) := by
      show _ = a + (pt n s * lo s + su (fun k => pt n k * lo k) (s + 1) t)
      omega
    have e2 : L - lo s - su lo (s + 1) t = L - su lo s (t + 1) := by
      show _ = L - (lo s + su lo (s + 1) t)
      omega
    rw [e1, e2]
theorem ext_ok (hL : LimI I lo hi) (hP : PtI I pt) (hn : n < 3) (ho : ∀ k, k < 4 → o k < 4 ∧ I (16 + n) k = nI (o k)) (hT : I 12 2 = i3 T) (hT1 : 0 ≤ T ∧ T ≤ 400) (hR : Rm lo hi T) :
    m_L_extremeOf (nI n) x2 I J = some (i3 (ext (pt n) lo hi (oo o x2) T), I, J) := by
  have vn : vin (nI n) 3 := vp_in_nI hn (by decide)
  have kn : (nI n).toNatClampNeg = n := nI_clamp (Nat.lt_trans hn (by decide))
  obtain ⟨F2, e, g⟩ := ext30 (I := I) (J := J) (x2 := x2) hL hP hn 4 0 rfl fuel (by decide) 0 T
  have g2 : 20 < F2 + 4 + 1 := by rw [← e]; decide
  have l0 := hL 0 (by omega)
  have l1 := hL 1 (by omega)
  have l2 := hL 2 (by omega)
  have l3 := hL 3 (by omega)
  have es : su lo 0 4 = lo 0 + (lo 1 + (lo 2 + (lo 3 + 0))) := rfl
  have r2 := hR.2.1
  have h := ext74 (J := J) (x2 := x2) hL hP hn ho hR.1 4 0 rfl F2 (by omega) (0 + su (fun k => pt n k * lo k) 0 4) (T - su lo 0 4) (by omega) (by omega)
  unfold m_L_extremeOf b_L_extremeOf_0
  rw [gd_of vn, gd_of vn, kn, hT]
  refine g.trans (h.trans ?_)
  have e3 : T - su lo 0 4 = T - lo 0 - lo 1 - lo 2 - lo 3 := by omega
  have e4 : su (fun k => pt n k * lo k) 0 4 = pt n 0 * lo 0 + (pt n 1 * lo 1 + (pt n 2 * lo 2 + (pt n 3 * lo 3 + 0))) := rfl
  rw [e3, e4]
  unfold ext
  congr 3
  omega
theorem ext_le (hL : LimI I lo hi) (hP : PtI I pt) (hn : n < 3) (ho : ∀ k, k < 4 → o k < 4) (hT1 : 0 ≤ T ∧ T ≤ 400) (hR : Rm lo hi T) :
    0 ≤ ext (pt n) lo hi (oo o x2) T ∧ ext (pt n) lo hi (oo o x2) T ≤ 10000000 := by
  have l := fun k (hk : k < 4) => hL k (by omega)
  have m := fun k (hk : k < 4) => mulB (p := pt n k) (M := 40) (B := 16000) (a := lo k) (hP n hn k hk).2.1 (hP n hn k hk).2.2 (by have := l k hk; omega) (by have := l k hk; omega)
  have m' := fun k (hk : k < 4) => Int.mul_nonneg (hP n hn k hk).2.1 (l k hk).2.2.1
  have hoo : ∀ k, k < 4 → oo o x2 k < 4 := fun k hk => by
    unfold oo
    split
    · exact ho k hk
    · exact ho _ (by omega)
  have l0 := l 0 (by omega)
  have l1 := l 1 (by omega)
  have l2 := l 2 (by omega)
  have l3 := l 3 (by omega)
  have r2 := hR.2.1
  have g := grd_le (p := fun k => pt n (oo o x2 k)) (c := fun k => hi (oo o x2 k) - lo (oo o x2 k)) 4 0 (T - lo 0 - lo 1 - lo 2 - lo 3) (by omega) (by omega) (fun k _ hk => by
    have q := hoo k (by omega)
    have := hP n hn _ q
    have := hR.1 _ q
    exact ⟨by omega, by omega, by omega⟩)
  have := m 0 (by omega)
  have := m 1 (by omega)
  have := m 2 (by omega)
  have := m 3 (by omega)
  have := m' 0 (by omega)
  have := m' 1 (by omega)
  have := m' 2 (by omega)
  have := m' 3 (by omega)
  unfold ext
  omega
end EXTR
