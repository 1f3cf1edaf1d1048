/-! The planes of nutrients; all planes. -/
theorem nI_plus (a b : Nat) : nI a + nI b = nI (a + b) := by
  rw [i3_nI, i3_nI, i3_nI, i3_add]
  rfl
def nutL (lo hi ls ms : Nat → Int) : Nat → Nat → List (Nat × Int)
  | _, 0 => []
  | n, t + 1 => (if ls n < lo (4 + n) then [(4 + n, lo (4 + n))] else []) ++ ((if hi (4 + n) < ms n then [(4 + n, hi (4 + n))] else []) ++ nutL lo hi ls ms (n + 1) t)
section NUT
variable {of lo hi : Nat → Int} {T : Int} {pt : Nat → Nat → Int} {o : Nat → Nat → Nat}
def Cst (of lo hi : Nat → Int) (T : Int) (pt : Nat → Nat → Int) (o : Nat → Nat → Nat) (I : SI) : Prop := OfI of I ∧ LimI I lo hi ∧ PtI I pt ∧ I 12 2 = i3 T ∧ ∀ n, n < 3 → ∀ k, k < 4 → o n k < 4 ∧ I (16 + n) k = nI (o n k)
theorem Cst_same {I I2 : SI} (h : Cst of lo hi T pt o I) (e : ∀ k, k ≠ 19 → k ≠ 29 → k ≠ 30 → I2 k = I k) : Cst of lo hi T pt o I2 := by
  obtain ⟨h1, h2, h3, h4, h5⟩ := h
  refine ⟨fun r hr => ?_, fun r hr => ?_, fun r hr i hi => ?_, ?_, fun n hn k hk => ?_⟩
  · rw [e 20 (by omega) (by omega) (by omega)]; exact h1 r hr
  · rw [e 13 (by omega) (by omega) (by omega), e 14 (by omega) (by omega) (by omega)]; exact h2 r hr
  · rw [e (7 + r) (by omega) (by omega) (by omega)]; exact h3 r hr i hi
  · rw [e 12 (by omega) (by omega) (by omega)]; exact h4
  · rw [e (16 + n) (by omega) (by omega) (by omega)]; exact h5 n hn k hk
def lsN (lo hi : Nat → Int) (T : Int) (pt : Nat → Nat → Int) (o : Nat → Nat → Nat) (n : Nat) : Int := ext (pt n) lo hi (oo (o n) 0) T
def msN (lo hi : Nat → Int) (T : Int) (pt : Nat → Nat → Int) (o : Nat → Nat → Nat) (n : Nat) : Int := ext (pt n) lo hi (oo (o n) 1) T
theorem nut_loop (hT1 : 0 ≤ T ∧ T ≤ 400) (hR : Rm lo hi T) : ∀ (t n : Nat), n + t = 3 → ∀ (F : Nat), 2 * t < F → ∀ (I : SI) (J : SJ) (pl : List (Nat × Int)), PlI of I pl → Cst of lo hi T pt o I → pl.length + 2 * t ≤ 14 →
    ∃ (x : Int32) (I2 : SI), (g_K_addPlanesOfNutrients F).1 (nI n) I J = some (x, I2, J) ∧ (∀ k, k ≠ 19 → k ≠ 29 → k ≠ 30 → I2 k = I k) ∧ (∀ j, j ≠ 6 → I2 19 j = I 19 j) ∧
      ((x = 1 ∧ (∀ m, n ≤ m → m < 3 → lo (4 + m) ≤ msN lo hi T pt o m ∧ lsN lo hi T pt o m ≤ hi (4 + m)) ∧ PlI of I2 (pl ++ nutL lo hi (lsN lo hi T pt o) (msN lo hi T pt o) n t)) ∨ (x = 0 ∧ ∃ m, m < 3 ∧ (msN lo hi T pt o m < lo (4 + m) ∨ hi (4 + m) < lsN lo hi T pt o m))) := by
  intro t
  induction t with
  | zero =>
    intro n hn F hF I J pl h hC hl
    obtain ⟨f, rfl⟩ : ∃ f, F = f + 1 := ⟨F - 1, by omega⟩
    have e : n = 3 := by omega
    subst e
    refine ⟨1, I, rfl, fun _ _ _ _ => rfl, fun _ _ => rfl, Or.inl ⟨rfl, fun m h1 h2 => by omega, ?_⟩⟩
    rw [nutL, List.append_nil]
    exact h
  | succ t ih =>
    intro n hn F hF I J pl h hC hl
    obtain ⟨f, rfl⟩ : ∃ f, F = f + 2 := ⟨F - 2, by omega⟩
    have n3 : ¬ (3 : Int32) ≤ nI n := nI_ge (b := 3) (by omega) (by decide)
    have en : (4 : Int32) + nI n = nI (4 + n) := nI_plus 4 n
    have vr : vin (nI (4 + n)) 7 := vp_in_nI (by omega) (by decide)
    have kr : (nI (4 + n)).toNatClampNeg = 4 + n := nI_clamp (Nat.lt_trans (show 4 + n < 7 by omega) (by decide))
    have l := hC.2.1 (4 + n) (by omega)
    have hn3 : n < 3 := by omega
    have x0 := ext_ok (J := J) (x2 := 0) hC.2.1 hC.2.2.1 hn3 (hC.2.2.2.2 n hn3) hC.2.2.2.1 hT1 hR
    have x1 := ext_ok (J := J) (x2 := 1) hC.2.1 hC.2.2.1 hn3 (hC.2.2.2.2 n hn3) hC.2.2.2.1 hT1 hR
    have y0 := ext_le (x2 := 0) hC.2.1 hC.2.2.1 hn3 (fun k hk => (hC.2.2.2.2 n hn3 k hk).1) hT1 hR
    have y1 := ext_le (x2 := 1) hC.2.1 hC.2.2.1 hn3 (fun k hk => (hC.2.2.2.2 n hn3 k hk).1) hT1 hR
    obtain ⟨Ls, eLs⟩ : ∃ z, z = lsN lo hi T pt o n := ⟨_, rfl⟩
    obtain ⟨Ms, eMs⟩ : ∃ z, z = msN lo hi T pt o n := ⟨_, rfl⟩
    rw [show ext (pt n) lo hi (oo (o n) 0) T = Ls from eLs.symm] at x0 y0
    rw [show ext (pt n) lo hi (oo (o n) 1) T = Ms from eMs.symm] at x1 y1
    -- the second half
    have half : ∀ (I1 : SI) (pl1 : List (Nat × Int)), PlI of I1 pl1 → Cst of lo hi T pt o I1 → pl1.length + 2 * t + 1 ≤ 14 → lo (4 + n) ≤ Ms → Ls ≤ hi (4 + n) → ∃ (x : Int32) (I2 : SI), (g_K_addPlanesOfNutrients (f + 1)).2 (nI n) (nI (4 + n)) (i3 Ms) I1 J = some (x, I2, J) ∧ (∀ k, k ≠ 19 → k ≠ 29 → k ≠ 30 → I2 k = I1 k) ∧ (∀ j, j ≠ 6 → I2 19 j = I1 19 j) ∧
      ((x = 1 ∧ (∀ m, n ≤ m → m < 3 → lo (4 + m) ≤ msN lo hi T pt o m ∧ lsN lo hi T pt o m ≤ hi (4 + m)) ∧ PlI of I2 (pl1 ++ ((if hi (4 + n) < Ms then [(4 + n, hi (4 + n))] else []) ++ nutL lo hi (lsN lo hi T pt o) (msN lo hi T pt o) (n + 1) t))) ∨ (x = 0 ∧ ∃ m, m < 3 ∧ (msN lo hi T pt o m < lo (4 + m) ∨ hi (4 + m) < lsN lo hi T pt o m))) := by
      intro I1 pl1 h1 hC1 hl1 k1 k2
      have l1 := hC1.2.1 (4 + n) (by omega)
      have all : (∀ m, n + 1 ≤ m → m < 3 → lo (4 + m) ≤ msN lo hi T pt o m ∧ lsN lo hi T pt o m ≤ hi (4 + m)) → ∀ m, n ≤ m → m < 3 → lo (4 + m) ≤ msN lo hi T pt o m ∧ lsN lo hi T pt o m ≤ hi (4 + m) := fun z m m1 m2 => by
        by_cases e : m = n
        · subst e; rw [← eMs, ← eLs]; exact ⟨k1, k2⟩
        · exact z m (by omega) m2
      show ∃ (x : Int32) (I2 : SI), b_K_addPlanesOfNutrients_88 (g_K_addPlanesOfNutrients f).1 (nI n) (nI (4 + n)) (i3 Ms) I1 J = some (x, I2, J) ∧ _
      simp only [b_K_addPlanesOfNutrients_88, gd_of vr, kr, nm, l1.2.1, i3_le (a := Ms) (b := hi (4 + n)) (by omega) (by omega) (by omega) (by omega), nI_1]
      by_cases c : Ms ≤ hi (4 + n)
      · rw [if_pos c, if_neg (show ¬ hi (4 + n) < Ms by omega), List.nil_append]
        obtain ⟨x, I2, g1, g2, g3, g4⟩ := ih (n + 1) (by omega) f (by omega) I1 J pl1 h1 hC1 (by omega)
        refine ⟨x, I2, g1, g2, g3, ?_⟩
        rcases g4 with ⟨g5, g6, g7⟩ | g5
        · exact Or.inl ⟨g5, all g6, g7⟩
        · exact Or.inr g5
      · rw [if_neg c, if_pos (show hi (4 + n) < Ms by omega)]
        obtain ⟨I4, a1, a2, a3, a4⟩ := addPlane_ok h1 hC1.1 (by omega) (show 4 + n < 7 by omega) l.2.2.2.2.1 l.2.2.2.2.2 J
        rw [a1]
        obtain ⟨x, I2, g1, g2, g3, g4⟩ := ih (n + 1) (by omega) f (by omega) I4 J (pl1 ++ [(4 + n, hi (4 + n))]) a2 (Cst_same hC1 a3) (by rw [List.length_append]; show pl1.length + 1 + 2 * t ≤ 14; omega)
        refine ⟨x, I2, g1, fun k k1 k2 k3 => by rw [g2 k k1 k2 k3, a3 k k1 k2 k3], fun j hj => by rw [g3 j hj, a4 j hj], ?_⟩
        rcases g4 with ⟨g5, g6, g7⟩ | g5
        · refine Or.inl ⟨g5, all g6, ?_⟩
          rw [← List.append_assoc]
          exact g7
        · exact Or.inr g5
    show ∃ (x : Int32) (I2 : SI), b_K_addPlanesOfNutrients_2 (g_K_addPlanesOfNutrients (f + 1)).2 (nI n) I J = some (x, I2, J) ∧ _
    simp only [b_K_addPlanesOfNutrients_2, n3, if_false, nm, en, x0, x1, cl3, gd_of vr, kr, l.1, l.2.1, i3_lt (a := Ms) (b := lo (4 + n)) (by omega) (by omega) (by omega) (by omega), i3_le (a := Ls) (b := hi (4 + n)) (by omega) (by omega) (by omega) (by omega), i3_le (a := lo (4 + n)) (b := Ls) (by omega) (by omega) (by omega) (by omega)]
    by_cases c1 : Ms < lo (4 + n)
    · rw [if_pos c1]
      exact ⟨0, I, rfl, fun _ _ _ _ => rfl, fun _ _ => rfl, Or.inr ⟨rfl, n, hn3, Or.inl (by rw [← eMs]; exact c1)⟩⟩
    · rw [if_neg c1]
      by_cases c2 : Ls ≤ hi (4 + n)
      · rw [if_pos c2]
        rw [nutL, ← eLs, ← eMs]
        by_cases c3 : lo (4 + n) ≤ Ls
        · rw [if_pos c3, if_neg (show ¬ Ls < lo (4 + n) by omega), List.nil_append]
          exact half I pl h hC (by omega) (by omega) c2
        · rw [if_neg c3, if_pos (show Ls < lo (4 + n) by omega)]
          obtain ⟨I4, a1, a2, a3, a4⟩ := addPlane_ok h hC.1 (by omega) (show 4 + n < 7 by omega) l.2.2.1 l.2.2.2.1 J
          rw [a1]
          obtain ⟨x, I2, g1, g2, g3, g4⟩ := half I4 (pl ++ [(4 + n, lo (4 + n))]) a2 (Cst_same hC a3) (by rw [List.length_append]; show pl.length + 1 + 2 * t + 1 ≤ 14; omega) (by omega) c2
          refine ⟨x, I2, g1, fun k k1 k2 k3 => by rw [g2 k k1 k2 k3, a3 k k1 k2 k3], fun j hj => by rw [g3 j hj, a4 j hj], ?_⟩
          rw [← List.append_assoc]
          exact g4
      · rw [if_neg c2]
        exact ⟨0, I, rfl, fun _ _ _ _ => rfl, fun _ _ => rfl, Or.inr ⟨rfl, n, hn3, Or.inr (by rw [← eLs]; omega)⟩⟩
/-- all planes -/
def allL (lo hi : Nat → Int) (T : Int) (pt : Nat → Nat → Int) (o : Nat → Nat → Nat) : List (Nat × Int) := oneL lo hi 0 4 ++ (if (oneL lo hi 0 4).length < 3 then stfL lo hi T 0 4 ++ nutL lo hi (lsN lo hi T pt o) (msN lo hi T pt o) 0 3 else [])
theorem setPlanes_ok (hT1 : 0 ≤ T ∧ T ≤ 400) (hR : Rm lo hi T) {I : SI} (hC : Cst of lo hi T pt o I) (J : SJ) :
    ∃ (x : Int32) (I2 : SI), m_K_setPlanes I J = some (x, I2, J) ∧ (∀ k, k ≠ 19 → k ≠ 29 → k ≠ 30 → I2 k = I k) ∧
      ((x = 1 ∧ ((oneL lo hi 0 4).length < 3 → ∀ m, m < 3 → lo (4 + m) ≤ msN lo hi T pt o m ∧ lsN lo hi T pt o m ≤ hi (4 + m)) ∧ PlI of I2 (allL lo hi T pt o) ∧ I2 19 7 = nI (oneL lo hi 0 4).length) ∨ (x = 0 ∧ ∃ m, m < 3 ∧ (msN lo hi T pt o m < lo (4 + m) ∨ hi (4 + m) < lsN lo hi T pt o m))) := by
  obtain ⟨I1, e1⟩ : ∃ z : SI, z = va_up I 19 (upd (I 19) 6 0) := ⟨_, rfl⟩
  have f1 : ∀ k, k ≠ 19 → I1 k = I k := fun k hk => by rw [e1, va_up_ne _ _ hk]
  have p1 : PlI of I1 [] := ⟨by rw [e1]; rfl, by decide, fun k q hk => by simp at hk⟩
  have C1 : Cst of lo hi T pt o I1 := Cst_same hC (fun k k1 _ _ => f1 k k1)
  obtain ⟨I3, a1, a2, a3, a4⟩ := one_loop 4 0 rfl fuel (by decide) I1 J [] p1 C1.1 C1.2.1 (by decide)
  rw [List.nil_append] at a2
  have a1' : m_K_addPlanesOfOneAmount I1 J = some (I3, J) := a1
  obtain ⟨I6, e6⟩ : ∃ z : SI, z = va_up I3 19 (upd (I3 19) 7 (I3 19 6)) := ⟨_, rfl⟩
  have f6 : ∀ k, k ≠ 19 → I6 k = I3 k := fun k hk => by rw [e6, va_up_ne _ _ hk]
  have n6 : I6 19 6 = I3 19 6 := by rw [e6]; rfl
  have n7 : I6 19 7 = nI (oneL lo hi 0 4).length := by rw [e6]; exact a2.1
  have p6 : PlI of I6 (oneL lo hi 0 4) := ⟨by rw [n6]; exact a2.1, a2.2.1, fun k q hk => by rw [f6 29 (by decide), f6 30 (by decide)]; exact a2.2.2 k q hk⟩
  have C3 : Cst of lo hi T pt o I3 := Cst_same C1 a3
  have C6 : Cst of lo hi T pt o I6 := Cst_same C3 (fun k k1 _ _ => f6 k k1)
  have F6 : ∀ k, k ≠ 19 → k ≠ 29 → k ≠ 30 → I6 k = I k := fun k k1 k2 k3 => by rw [f6 k k1, a3 k k1 k2 k3, f1 k k1]
  have hlen := oneL_len lo hi 4 0
  simp only [m_K_setPlanes, b_K_setPlanes_0, nm]
  rw [← e1, a1']
  simp only [cl2]
  rw [← e6, n7]
  by_cases c : (oneL lo hi 0 4).length < 3
  · rw [if_pos (show nI (oneL lo hi 0 4).length < (3 : Int32) from nI_lt (b := 3) c (by decide))]
    have bl := both_len lo hi T 4 0
    obtain ⟨I9, b1, b2, b3, b4⟩ := stf_loop (T := T) 4 0 rfl fuel (by decide) I6 J _ p6 C6.1 C6.2.1 C6.2.2.2.1 hT1 (by omega)
    have b1' : m_K_addPlanesOfStuffs I6 J = some (I9, J) := b1
    have C9 : Cst of lo hi T pt o I9 := Cst_same C6 b3
    obtain ⟨x, I13, d1, d2, d3, d4⟩ := nut_loop hT1 hR 3 0 rfl fuel (by decide) I9 J _ b2 C9 (by rw [List.length_append]; omega)
    have d1' : m_K_addPlanesOfNutrients I9 J = some (x, I13, J) := d1
    have hx : narrow .boolean (.int x) = .int x := by
      rcases d4 with ⟨rfl, -⟩ | ⟨rfl, -⟩ <;> rfl
    rw [b1']
    simp only [d1', cl3, gd_of hx]
    refine ⟨x, I13, rfl, fun k k1 k2 k3 => by rw [d2 k k1 k2 k3, b3 k k1 k2 k3, F6 k k1 k2 k3], ?_⟩
    rcases d4 with ⟨g1, g2, g3⟩ | g1
    · refine Or.inl ⟨g1, fun _ m hm => g2 m (by omega) hm, ?_, ?_⟩
      · rw [allL, if_pos c, ← List.append_assoc]
        exact g3
      · rw [d3 7 (by decide), b4 7 (by decide), n7]
    · exact Or.inr g1
  · rw [if_neg (show ¬ nI (oneL lo hi 0 4).length < (3 : Int32) from nI_nlt (b := 3) (by omega) (by omega))]
    refine ⟨1, I6, rfl, F6, Or.inl ⟨rfl, fun z => absurd z c, ?_, n7⟩⟩
    rw [allL, if_neg c, List.append_nil]
    exact p6
end NUT
