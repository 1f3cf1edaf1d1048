/-! The list of planes. -/
def PlI (of : Nat → Int) (I : SI) (pl : List (Nat × Int)) : Prop := I 19 6 = nI pl.length ∧ pl.length ≤ 14 ∧ ∀ (k : Nat) (q : Nat × Int), pl[k]? = some q → q.1 < 7 ∧ I 29 k = nI q.1 ∧ I 30 k = i3 (q.2 - of q.1) ∧ 0 ≤ q.2 ∧ q.2 ≤ 16000
def OfI (of : Nat → Int) (I : SI) : Prop := ∀ r, r < 7 → I 20 r = i3 (of r) ∧ 0 ≤ of r ∧ of r ≤ 16000
theorem addPlane_ok {of : Nat → Int} {I : SI} {pl : List (Nat × Int)} (h : PlI of I pl) (ho : OfI of I) (hlen : pl.length < 14) {r : Nat} {l : Int} (hr : r < 7) (l0 : 0 ≤ l) (l1 : l ≤ 16000) (J : SJ) :
    ∃ I2 : SI, m_K_addPlane (nI r) (i3 l) I J = some (I2, J) ∧ PlI of I2 (pl ++ [(r, l)]) ∧ (∀ k, k ≠ 19 → k ≠ 29 → k ≠ 30 → I2 k = I k) ∧ (∀ j, j ≠ 6 → I2 19 j = I 19 j) := by
  obtain ⟨h1, h2, h3⟩ := h
  have n14 : ¬ (14 : Int32) ≤ nI pl.length := nI_ge (b := 14) hlen (by decide)
  have vl : vin (nI pl.length) 14 := vp_in_nI hlen (by decide)
  have vr : vin (nI r) 7 := vp_in_nI hr (by decide)
  have kl : (nI pl.length).toNatClampNeg = pl.length := nI_clamp (Nat.lt_trans hlen (by decide))
  have kr : (nI r).toNatClampNeg = r := nI_clamp (Nat.lt_trans hr (by decide))
  have o1 := ho r hr
  have e1 : ∀ f, va_up I 29 f 20 r = i3 (of r) := fun f => o1.1
  have e2 : ∀ f, va_up I 29 f 19 6 = nI pl.length := fun f => h1
  have e3 : ∀ f g, va_up (va_up I 29 f) 30 g 19 6 = nI pl.length := fun f g => h1
  simp only [m_K_addPlane, b_K_addPlane_0, h1, n14, if_false, gd_of vl, kl, nm, gd_of vr, kr, e1, e2, e3, i3_sub, nI_1]
  refine ⟨_, rfl, ⟨by show nI (pl.length + 1) = nI (pl ++ [(r, l)]).length; rw [List.length_append]; rfl, by rw [List.length_append]; show pl.length + 1 ≤ 14; omega, fun k q hk => ?_⟩, fun k k1 k2 k3 => by rw [va_up_ne _ _ k1, va_up_ne _ _ k3, va_up_ne _ _ k2], fun j hj => by show upd _ 6 _ j = _; unfold upd; rw [if_neg hj]; rfl⟩
  show q.1 < 7 ∧ upd (I 29) pl.length (nI r) k = nI q.1 ∧ upd (I 30) pl.length (i3 (l - of r)) k = i3 (q.2 - of q.1) ∧ 0 ≤ q.2 ∧ q.2 ≤ 16000
  unfold upd
  by_cases hkl : k < pl.length
  · rw [List.getElem?_append_left hkl] at hk
    rw [if_neg (by omega), if_neg (by omega)]
    exact h3 k q hk
  · rw [List.getElem?_append_right (by omega)] at hk
    have hz : k - pl.length < 1 := (List.getElem?_eq_some_iff.mp hk).1
    have ek : k = pl.length := by omega
    subst ek
    rw [Nat.sub_self] at hk
    cases hk
    rw [if_pos rfl, if_pos rfl]
    exact ⟨hr, rfl, rfl, l0, l1⟩
def oneL (lo hi : Nat → Int) : Nat → Nat → List (Nat × Int)
  | _, 0 => []
  | s, t + 1 => (if lo s = hi s then [(s, lo s)] else []) ++ oneL lo hi (s + 1) t
def stfL (lo hi : Nat → Int) (T : Int) : Nat → Nat → List (Nat × Int)
  | _, 0 => []
  | s, t + 1 => (if lo s < hi s then (if hi s < T then [(s, lo s), (s, hi s)] else [(s, lo s)]) else []) ++ stfL lo hi T (s + 1) t
theorem oneL_len (lo hi : Nat → Int) : ∀ t s, (oneL lo hi s t).length ≤ t
  | 0, _ => Nat.le_refl 0
  | t + 1, s => by
    have := oneL_len lo hi t (s + 1)
    unfold oneL
    rw [List.length_append]
    split <;> simp <;> omega
theorem both_len (lo hi : Nat → Int) (T : Int) : ∀ t s, (oneL lo hi s t).length + (stfL lo hi T s t).length ≤ 2 * t
  | 0, _ => Nat.le_refl 0
  | t + 1, s => by
    have := both_len lo hi T t (s + 1)
    unfold oneL stfL
    rw [List.length_append, List.length_append]
    by_cases h : lo s = hi s
    · rw [if_pos h, if_neg (by omega)]
      simp
      omega
    · rw [if_neg h]
      split
      · split <;> simp <;> omega
      · simp; omega
section PLN
variable {of lo hi : Nat → Int} {T : Int}
theorem one_loop : ∀ (t s : Nat), s + t = 4 → ∀ (F : Nat), t < F → ∀ (I : SI) (J : SJ) (pl : List (Nat × Int)), PlI of I pl → OfI of I → LimI I lo hi → pl.length + t ≤ 4 →
    ∃ I2 : SI, g_K_addPlanesOfOneAmount F (nI s) I J = some (I2, J) ∧ PlI of I2 (pl ++ oneL lo hi s t) ∧ (∀ k, k ≠ 19 → k ≠ 29 → k ≠ 30 → I2 k = I k) ∧ (∀ j, j ≠ 6 → I2 19 j = I 19 j) := by
  intro t
  induction t with
  | zero =>
    intro s hs F hF I J pl h ho hL hl
    obtain ⟨f, rfl⟩ : ∃ f, F = f + 1 := ⟨F - 1, by omega⟩
    have e : s = 4 := by omega
    subst e
    refine ⟨I, rfl, ?_, fun _ _ _ _ => rfl, fun _ _ => rfl⟩
    rw [oneL, List.append_nil]
    exact h
  | succ t ih =>
    intro s hs F hF I J pl h ho hL hl
    obtain ⟨f, rfl⟩ : ∃ f, F = f + 1 := ⟨F - 1, by omega⟩
    have n4 : ¬ (4 : Int32) ≤ nI s := nI_ge (b := 4) (by omega) (by decide)
    have vs : vin (nI s) 7 := vp_in_nI (by omega) (by decide)
    have ks : (nI s).toNatClampNeg = s := nI_clamp (Nat.lt_trans (show s < 4 by omega) (by decide))
    have l := hL s (by omega)
    simp only [g_K_addPlanesOfOneAmount, b_K_addPlanesOfOneAmount_2, n4, if_false, gd_of vs, ks, nm, l.1, l.2.1, i3_eq (show -2147483648 ≤ lo s by omega) (by omega) (show -2147483648 ≤ hi s by omega) (by omega), nI_1]
    by_cases c : lo s = hi s
    · rw [if_pos c]
      obtain ⟨I2, a1, a2, a3, a4⟩ := addPlane_ok h ho (by omega) (show s < 7 by omega) l.2.2.1 l.2.2.2.1 J
      obtain ⟨I3, b1, b2, b3, b4⟩ := ih (s + 1) (by omega) f (by omega) I2 J (pl ++ [(s, lo s)]) a2 (fun r hr => by rw [a3 20 (by decide) (by decide) (by decide)]; exact ho r hr) (fun r hr => by rw [a3 13 (by decide) (by decide) (by decide), a3 14 (by decide) (by decide) (by decide)]; exact hL r hr) (by rw [List.length_append]; show pl.length + 1 + t ≤ 4; omega)
      refine ⟨I3, ?_, ?_, fun k k1 k2 k3 => by rw [b3 k k1 k2 k3, a3 k k1 k2 k3], fun j hj => by rw [b4 j hj, a4 j hj]⟩
      · rw [a1]
        exact b1
      · rw [oneL, if_pos c, ← List.append_assoc]
        exact b2
    · rw [if_neg c]
      obtain ⟨I3, b1, b2, b3, b4⟩ := ih (s + 1) (by omega) f (by omega) I J pl h ho hL (by omega)
      refine ⟨I3, b1, ?_, b3, b4⟩
      rw [oneL, if_neg c, List.nil_append]
      exact b2
theorem stf_loop : ∀ (t s : Nat), s + t = 4 → ∀ (F : Nat), t < F → ∀ (I : SI) (J : SJ) (pl : List (Nat × Int)), PlI of I pl → OfI of I → LimI I lo hi → I 12 2 = i3 T → (0 ≤ T ∧ T ≤ 400) → pl.length + (stfL lo hi T s t).length ≤ 8 →
    ∃ I2 : SI, g_K_addPlanesOfStuffs F (nI s) I J = some (I2, J) ∧ PlI of I2 (pl ++ stfL lo hi T s t) ∧ (∀ k, k ≠ 19 → k ≠ 29 → k ≠ 30 → I2 k = I k) ∧ (∀ j, j ≠ 6 → I2 19 j = I 19 j) := by
  intro t
  induction t with
  | zero =>
    intro s hs F hF I J pl h ho hL hT hT1 hl
    obtain ⟨f, rfl⟩ : ∃ f, F = f + 1 := ⟨F - 1, by omega⟩
    have e : s = 4 := by omega
    subst e
    refine ⟨I, rfl, ?_, fun _ _ _ _ => rfl, fun _ _ => rfl⟩
    rw [stfL, List.append_nil]
    exact h
  | succ t ih =>
    intro s hs F hF I J pl h ho hL hT hT1 hl
    obtain ⟨f, rfl⟩ : ∃ f, F = f + 1 := ⟨F - 1, by omega⟩
    have n4 : ¬ (4 : Int32) ≤ nI s := nI_ge (b := 4) (by omega) (by decide)
    have vs : vin (nI s) 7 := vp_in_nI (by omega) (by decide)
    have ks : (nI s).toNatClampNeg = s := nI_clamp (Nat.lt_trans (show s < 4 by omega) (by decide))
    have l := hL s (by omega)
    simp only [g_K_addPlanesOfStuffs, b_K_addPlanesOfStuffs_2, n4, if_false, gd_of vs, ks, nm, l.1, l.2.1, i3_le (show -2147483648 ≤ hi s by omega) (by omega) (show -2147483648 ≤ lo s by omega) (by omega), nI_1]
    by_cases c : hi s ≤ lo s
    · rw [if_pos c]
      have c' : ¬ lo s < hi s := by omega
      rw [stfL, if_neg c', List.nil_append] at hl
      obtain ⟨I3, b1, b2, b3, b4⟩ := ih (s + 1) (by omega) f (by omega) I J pl h ho hL hT hT1 hl
      refine ⟨I3, b1, ?_, b3, b4⟩
      rw [stfL, if_neg c', List.nil_append]
      exact b2
    · rw [if_neg c]
      have c' : lo s < hi s := by omega
      rw [stfL, if_pos c', List.length_append] at hl
      obtain ⟨I2, a1, a2, a3, a4⟩ := addPlane_ok h ho (by omega) (show s < 7 by omega) l.2.2.1 l.2.2.2.1 J
      have ho2 : OfI of I2 := fun r hr => by rw [a3 20 (by decide) (by decide) (by decide)]; exact ho r hr
      have hL2 : LimI I2 lo hi := fun r hr => by rw [a3 13 (by decide) (by decide) (by decide), a3 14 (by decide) (by decide) (by decide)]; exact hL r hr
      have hT2 : I2 12 2 = i3 T := by rw [a3 12 (by decide) (by decide) (by decide)]; exact hT
      have l2 := hL2 s (by omega)
      rw [a1]
      simp only [cl2, l2.2.1, hT2, i3_le (show -2147483648 ≤ T by omega) (by omega) (show -2147483648 ≤ hi s by omega) (by omega)]
      by_cases d : T ≤ hi s
      · rw [if_pos d]
        have d' : ¬ hi s < T := by omega
        rw [if_neg d'] at hl
        obtain ⟨I3, b1, b2, b3, b4⟩ := ih (s + 1) (by omega) f (by omega) I2 J (pl ++ [(s, lo s)]) a2 ho2 hL2 hT2 hT1 (by rw [List.length_append]; have : [(s, lo s)].length = 1 := rfl; omega)
        refine ⟨I3, b1, ?_, fun k k1 k2 k3 => by rw [b3 k k1 k2 k3, a3 k k1 k2 k3], fun j hj => by rw [b4 j hj, a4 j hj]⟩
        rw [stfL, if_pos c', if_neg d', ← List.append_assoc]
        exact b2
      · rw [if_neg d]
        have d' : hi s < T := by omega
        rw [if_pos d'] at hl
        have len2 : [(s, lo s), (s, hi s)].length = 2 := rfl
        have len1 : [(s, lo s)].length = 1 := rfl
        obtain ⟨I4, e1, e2, e3, e4⟩ := addPlane_ok a2 ho2 (by rw [List.length_append]; omega) (show s < 7 by omega) l.2.2.2.2.1 l.2.2.2.2.2 J
        rw [e1]
        obtain ⟨I3, b1, b2, b3, b4⟩ := ih (s + 1) (by omega) f (by omega) I4 J (pl ++ [(s, lo s)] ++ [(s, hi s)]) e2 (fun r hr => by rw [e3 20 (by decide) (by decide) (by decide)]; exact ho2 r hr) (fun r hr => by rw [e3 13 (by decide) (by decide) (by decide), e3 14 (by decide) (by decide) (by decide)]; exact hL2 r hr) (by rw [e3 12 (by decide) (by decide) (by decide)]; exact hT2) hT1 (by rw [List.length_append, List.length_append]; have : [(s, hi s)].length = 1 := rfl; omega)
        refine ⟨I3, b1, ?_, fun k k1 k2 k3 => by rw [b3 k k1 k2 k3, e3 k k1 k2 k3, a3 k k1 k2 k3], fun j hj => by rw [b4 j hj, e4 j hj, a4 j hj]⟩
        rw [stfL, if_pos c', if_pos d']
        have ea : pl ++ ([(s, lo s), (s, hi s)] ++ stfL lo hi T (s + 1) t) = pl ++ [(s, lo s)] ++ [(s, hi s)] ++ stfL lo hi T (s + 1) t := by simp
        rw [ea]
        exact b2
end PLN
