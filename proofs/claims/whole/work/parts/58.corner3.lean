/-! isCorner: what it answers. -/
theorem mulAB {a b A B : Int} (h1 : -A ≤ a) (h2 : a ≤ A) (h3 : -B ≤ b) (h4 : b ≤ B) : -(A * B) ≤ a * b ∧ a * b ≤ A * B := by
  have e1 : 0 ≤ (A - a) * (B + b) := Int.mul_nonneg (by omega) (by omega)
  have e2 : 0 ≤ (A + a) * (B - b) := Int.mul_nonneg (by omega) (by omega)
  have e3 : 0 ≤ (A - a) * (B - b) := Int.mul_nonneg (by omega) (by omega)
  have e4 : 0 ≤ (A + a) * (B + b) := Int.mul_nonneg (by omega) (by omega)
  constructor <;> grind
def sgn (d : Int) : Int := if d < 0 then -1 else 1
def cu (p q r : Nat → Int) : Int := sgn (det p q r) * det p q r
def cA (T la lb lc : Int) (p q r : Nat → Int) : Nat → Int := fun s => if s < 3 then sgn (det p q r) * abv la lb lc p q r s else T * cu p q r - (sgn (det p q r) * abv la lb lc p q r 0 + sgn (det p q r) * abv la lb lc p q r 1 + sgn (det p q r) * abv la lb lc p q r 2)
theorem sgn_or (d : Int) : sgn d = 1 ∨ sgn d = -1 := by unfold sgn; split <;> omega
theorem det_le {p q r : Nat → Int} (hp : ∀ j, j < 3 → -40 ≤ p j ∧ p j ≤ 40) (hq : ∀ j, j < 3 → -40 ≤ q j ∧ q j ≤ 40) (hr : ∀ j, j < 3 → -40 ≤ r j ∧ r j ≤ 40) : -384000 ≤ det p q r ∧ det p q r ≤ 384000 := by
  have m : ∀ s, s < 3 → -(3200 * 40) ≤ crs p q s * r s ∧ crs p q s * r s ≤ 3200 * 40 := fun s hs => mulAB (crs_le hp hq s).1 (crs_le hp hq s).2 (hr s hs).1 (hr s hs).2
  have := m 0 (by decide)
  have := m 1 (by decide)
  have := m 2 (by decide)
  unfold det
  omega
theorem cu_le {p q r : Nat → Int} (hp : ∀ j, j < 3 → -40 ≤ p j ∧ p j ≤ 40) (hq : ∀ j, j < 3 → -40 ≤ q j ∧ q j ≤ 40) (hr : ∀ j, j < 3 → -40 ≤ r j ∧ r j ≤ 40) : 0 ≤ cu p q r ∧ cu p q r ≤ 384000 := by
  have := det_le hp hq hr
  unfold cu sgn
  split <;> omega
theorem abv_le {la lb lc : Int} {p q r : Nat → Int} (hp : ∀ j, j < 3 → -40 ≤ p j ∧ p j ≤ 40) (hq : ∀ j, j < 3 → -40 ≤ q j ∧ q j ≤ 40) (hr : ∀ j, j < 3 → -40 ≤ r j ∧ r j ≤ 40) (la1 : -16000 ≤ la ∧ la ≤ 16000) (lb1 : -16000 ≤ lb ∧ lb ≤ 16000) (lc1 : -16000 ≤ lc ∧ lc ≤ 16000) (s : Nat) : -153600000 ≤ abv la lb lc p q r s ∧ abv la lb lc p q r s ≤ 153600000 := by
  have := mulAB la1.1 la1.2 (crs_le hq hr s).1 (crs_le hq hr s).2
  have := mulAB lb1.1 lb1.2 (crs_le hr hp s).1 (crs_le hr hp s).2
  have := mulAB lc1.1 lc1.2 (crs_le hp hq s).1 (crs_le hp hq s).2
  unfold abv
  omega
theorem cA_le {T la lb lc : Int} {p q r : Nat → Int} (hT : 0 ≤ T ∧ T ≤ 400) (hp : ∀ j, j < 3 → -40 ≤ p j ∧ p j ≤ 40) (hq : ∀ j, j < 3 → -40 ≤ q j ∧ q j ≤ 40) (hr : ∀ j, j < 3 → -40 ≤ r j ∧ r j ≤ 40) (la1 : -16000 ≤ la ∧ la ≤ 16000) (lb1 : -16000 ≤ lb ∧ lb ≤ 16000) (lc1 : -16000 ≤ lc ∧ lc ≤ 16000) (s : Nat) : -1000000000 ≤ cA T la lb lc p q r s ∧ cA T la lb lc p q r s ≤ 1000000000 := by
  have h0 := abv_le hp hq hr la1 lb1 lc1 0
  have h1 := abv_le hp hq hr la1 lb1 lc1 1
  have h2 := abv_le hp hq hr la1 lb1 lc1 2
  have h3 := abv_le hp hq hr la1 lb1 lc1 s
  have hu := cu_le hp hq hr
  have ht := mulAB (a := T) (A := 400) (by omega) hT.2 (b := cu p q r) (B := 384000) (by omega) hu.2
  unfold cA
  rcases sgn_or (det p q r) with e | e <;> rw [e] <;> split <;> omega
theorem fuel20 : 20 < fuel := by decide
theorem i6_0 : (0 : Int64) = i6 0 := Int64.toInt_inj.1 (by rw [i6_toInt (by omega) (by omega)]; decide)
theorem i3_p1 : i3 1 = 1 := Int32.toInt_inj.1 (by rw [i3_toInt (by omega) (by omega)]; decide)
theorem i3_m1 : i3 (-1) = -1 := Int32.toInt_inj.1 (by rw [i3_toInt (by omega) (by omega)]; decide)
section CRN3
variable {I : SI} {J : SJ} {pt : Nat → Nat → Int} {lo hi : Nat → Int} {T la lb lc : Int} {a b c ra rb rc : Nat} {p q r : Nat → Int}
theorem corner100 (hL : LimI I lo hi) (hP : PtI I pt) (hT : I 12 2 = i3 T) (hT1 : 0 ≤ T ∧ T ≤ 400)
    (ha : a < 14) (hb : b < 14) (hc : c < 14) (hra : ra < 7) (hrb : rb < 7) (hrc : rc < 7) (hp : row3 I (22 + ra) p) (hq : row3 I (22 + rb) q) (hr : row3 I (22 + rc) r)
    (ea : I 30 a = i3 la) (eb : I 30 b = i3 lb) (ec : I 30 c = i3 lc) (la1 : -16000 ≤ la ∧ la ≤ 16000) (lb1 : -16000 ≤ lb ∧ lb ≤ 16000) (lc1 : -16000 ≤ lc ∧ lc ≤ 16000) (h31 : ∀ k, k < 3 → J 31 k = i6 (crs p q k)) (F : Nat) (hF : 20 < F) :
    ∃ (x : Int32) (J2 : SJ), (g_K_isCorner F).1 (nI a) (nI b) (nI c) ra rb rc (i6 (det p q r)) (i3 (sgn (det p q r))) I J = some (x, I, J2) ∧ (∀ k, k ≠ 32 → k ≠ 33 → J2 k = J k) ∧ (∀ j, j ≠ 2 → J2 32 j = J 32 j) ∧
      ((x = 1 ∧ (∀ k, k < 7 → InL pt lo hi (cA T la lb lc p q r) (cu p q r) k) ∧ (∀ i, i < 4 → J2 33 i = i6 (cA T la lb lc p q r i)) ∧ J2 32 2 = i6 (cu p q r)) ∨ (x = 0 ∧ ∃ k, k < 7 ∧ ¬ InL pt lo hi (cA T la lb lc p q r) (cu p q r) k)) := by
  obtain ⟨f, rfl⟩ : ∃ f, F = f + 1 := ⟨F - 1, by omega⟩
  have sg6 : (i3 (sgn (det p q r))).toInt64 = i6 (sgn (det p q r)) := i3_i6 (by rcases sgn_or (det p q r) with e | e <;> omega) (by rcases sgn_or (det p q r) with e | e <;> omega)
  have hp' := fun j hj => (hp j hj).2
  have hq' := fun j hj => (hq j hj).2
  have hr' := fun j hj => (hr j hj).2
  have hu := cu_le hp' hq' hr'
  have e32 : va_up J 32 (vp_updL (J 32) 2 (i6 (cu p q r))) 32 2 = i6 (cu p q r) := rfl
  have ecu : i6 (sgn (det p q r)) * i6 (det p q r) = i6 (cu p q r) := i6_mul _ _
  simp only [g_K_isCorner, b_K_isCorner_100, gd_of hra, gd_of hrb, gd_of hrc, nm, sg6, ecu, hT, i3_i6 (show -2147483648 ≤ T by omega) (by omega), e32, i6_mul]
  obtain ⟨x, J2, g1, g2, g3⟩ := corner136 (A := cA T la lb lc p q r) (T := T) hL hP hu.1 (by omega) (fun i _ => cA_le hT1 hp' hq' hr' la1 lb1 lc1 i) ha hb hc hra hrb hrc hp hq hr ea eb ec la1 lb1 lc1 (sgn_or (det p q r)) (fun s hs => by unfold cA; rw [if_pos hs]) (by unfold psum; simp only [cA]; simp) 3 0 rfl f (by omega) (va_up J 32 (vp_updL (J 32) 2 (i6 (cu p q r)))) (fun k hk => h31 k hk) e32 (fun i hi => absurd hi (by omega))
  have e10 : T * cu p q r - psum (cA T la lb lc p q r) 0 = T * cu p q r := by unfold psum; simp
  rw [e10] at g1
  refine ⟨x, J2, g1, fun k h1 h2 => by rw [g2 k h2, va_up_ne _ _ h1], fun j hj => by rw [g2 32 (by decide), va_up_self]; unfold vp_updL; rw [if_neg hj], ?_⟩
  rcases g3 with ⟨g4, g5, g6⟩ | ⟨g4, k, -, k2, k3⟩
  · exact Or.inl ⟨g4, fun k hk => g5 k (Nat.zero_le k) hk, g6, by rw [g2 32 (by decide)]; exact e32⟩
  · exact Or.inr ⟨g4, k, k2, k3⟩
theorem isCorner_b (G : Int32 → Int32 → Int32 → Nat → Nat → Nat → Int64 → Int32 → SI → SJ → Option (Int32 × SI × SJ)) (ha : a < 14) (hb : b < 14) (hc : c < 14) (hra : ra < 7) (hrb : rb < 7) (hrc : rc < 7) (fa : I 29 a = nI ra) (fb : I 29 b = nI rb) (fc : I 29 c = nI rc) (hp : row3 I (22 + ra) p) (hq : row3 I (22 + rb) q) (hr : row3 I (22 + rc) r) (h31 : ∀ k, k < 3 → J 31 k = i6 (crs p q k)) :
    b_K_isCorner_0 G (nI a) (nI b) (nI c) I J = if lg_cmp (i6 (det p q r)) 0 = 0 then some (0, I, J) else if 0 ≤ lg_cmp (i6 (det p q r)) 0 then G (nI a) (nI b) (nI c) ra rb rc (i6 (det p q r)) 1 I J else G (nI a) (nI b) (nI c) ra rb rc (i6 (det p q r)) (-1) I J := by
  have va : vin (nI a) 14 := vp_in_nI ha (by decide)
  have vb : vin (nI b) 14 := vp_in_nI hb (by decide)
  have vc : vin (nI c) 14 := vp_in_nI hc (by decide)
  have vra : vin (nI ra) 7 := vp_in_nI hra (by decide)
  have vrb : vin (nI rb) 7 := vp_in_nI hrb (by decide)
  have vrc : vin (nI rc) 7 := vp_in_nI hrc (by decide)
  have v0 : vin 0 3 := by decide
  have v1 : vin 1 3 := by decide
  have v2 : vin 2 3 := by decide
  have e0 : Int32.toNatClampNeg 0 = 0 := rfl
  have e1 : Int32.toNatClampNeg 1 = 1 := rfl
  have e2 : Int32.toNatClampNeg 2 = 2 := rfl
  have c6 : ∀ j, j < 3 → (I (22 + rc) j).toInt64 = i6 (r j) := fun j hj => by
    have := hr j hj
    rw [this.1, i3_i6 (by omega) (by omega)]
  have ed : i6 (crs p q 0) * i6 (r 0) + i6 (crs p q 1) * i6 (r 1) + i6 (crs p q 2) * i6 (r 2) = i6 (det p q r) := by
    rw [i6_mul, i6_mul, i6_mul, i6_add, i6_add]
    rfl
  have ka : (nI a).toNatClampNeg = a := nI_clamp (Nat.lt_trans ha (by decide))
  have kb : (nI b).toNatClampNeg = b := nI_clamp (Nat.lt_trans hb (by decide))
  have kc : (nI c).toNatClampNeg = c := nI_clamp (Nat.lt_trans hc (by decide))
  have kra : (nI ra).toNatClampNeg = ra := nI_clamp (Nat.lt_trans hra (by decide))
  have krb : (nI rb).toNatClampNeg = rb := nI_clamp (Nat.lt_trans hrb (by decide))
  have krc : (nI rc).toNatClampNeg = rc := nI_clamp (Nat.lt_trans hrc (by decide))
  unfold b_K_isCorner_0
  rw [gd_of va]
  show nm (I 29 (nI a).toNatClampNeg) _ = _
  rw [ka, fa]
  simp only [nm]
  rw [gd_of vra, gd_of vb, kb, fb, gd_of vrb, gd_of vc, kc, fc, gd_of vrc]
  simp only [gd_of v0, gd_of v1, gd_of v2, e0, e1, e2, h31 0 (by decide), h31 1 (by decide), h31 2 (by decide), kra, krb, krc, c6 0 (by decide), c6 1 (by decide), c6 2 (by decide), ed]
theorem isCorner_ok (hL : LimI I lo hi) (hP : PtI I pt) (hT : I 12 2 = i3 T) (hT1 : 0 ≤ T ∧ T ≤ 400)
    (ha : a < 14) (hb : b < 14) (hc : c < 14) (hra : ra < 7) (hrb : rb < 7) (hrc : rc < 7) (fa : I 29 a = nI ra) (fb : I 29 b = nI rb) (fc : I 29 c = nI rc) (hp : row3 I (22 + ra) p) (hq : row3 I (22 + rb) q) (hr : row3 I (22 + rc) r)
    (ea : I 30 a = i3 la) (eb : I 30 b = i3 lb) (ec : I 30 c = i3 lc) (la1 : -16000 ≤ la ∧ la ≤ 16000) (lb1 : -16000 ≤ lb ∧ lb ≤ 16000) (lc1 : -16000 ≤ lc ∧ lc ≤ 16000) (h31 : ∀ k, k < 3 → J 31 k = i6 (crs p q k)) :
    ∃ (x : Int32) (J2 : SJ), m_K_isCorner (nI a) (nI b) (nI c) I J = some (x, I, J2) ∧ (∀ k, k ≠ 32 → k ≠ 33 → J2 k = J k) ∧ (∀ j, j ≠ 2 → J2 32 j = J 32 j) ∧
      ((x = 1 ∧ det p q r ≠ 0 ∧ (∀ k, k < 7 → InL pt lo hi (cA T la lb lc p q r) (cu p q r) k) ∧ (∀ i, i < 4 → J2 33 i = i6 (cA T la lb lc p q r i)) ∧ J2 32 2 = i6 (cu p q r)) ∨ (x = 0 ∧ (det p q r = 0 ∨ ∃ k, k < 7 ∧ ¬ InL pt lo hi (cA T la lb lc p q r) (cu p q r) k))) := by
  have key := corner100 (J := J) hL hP hT hT1 ha hb hc hra hrb hrc hp hq hr ea eb ec la1 lb1 lc1 h31 fuel fuel20
  have hd := det_le (fun j hj => (hp j hj).2) (fun j hj => (hq j hj).2) (fun j hj => (hr j hj).2)
  have c0 := cmp_eq (a := det p q r) (b := 0) (by omega) (by omega) (by omega) (by omega)
  have c1 := cmp_ge (a := det p q r) (b := 0) (by omega) (by omega) (by omega) (by omega)
  rw [← i6_0] at c0 c1
  unfold m_K_isCorner
  generalize (g_K_isCorner fuel).1 = G at key ⊢
  rw [isCorner_b G ha hb hc hra hrb hrc fa fb fc hp hq hr h31]
  by_cases d0 : det p q r = 0
  · rw [if_pos (c0.mpr d0)]
    exact ⟨0, J, rfl, fun _ _ _ => rfl, fun _ _ => rfl, Or.inr ⟨rfl, Or.inl d0⟩⟩
  · rw [if_neg (fun h => d0 (c0.mp h))]
    obtain ⟨x, J2, g1, g2, g3, g4⟩ := key
    refine ⟨x, J2, ?_, g2, g3, ?_⟩
    · by_cases h : 0 ≤ det p q r
      · have es : i3 (sgn (det p q r)) = 1 := by unfold sgn; rw [if_neg (by omega)]; exact i3_p1
        rw [es] at g1
        rw [if_pos (c1.mpr h)]
        exact g1
      · have es : i3 (sgn (det p q r)) = -1 := by unfold sgn; rw [if_pos (by omega)]; exact i3_m1
        rw [es] at g1
        rw [if_neg (fun z => h (c1.mp z))]
        exact g1
    · rcases g4 with ⟨g5, g6, g7, g8⟩ | ⟨g5, g6⟩
      · exact Or.inl ⟨g5, d0, g6, g7, g8⟩
      · exact Or.inr ⟨g5, Or.inr g6⟩
end CRN3
