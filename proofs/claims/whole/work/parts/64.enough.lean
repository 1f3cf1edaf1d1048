/-! The triples are enough. -/
section VE2
variable {pt : Nat → Nat → Int} {lo hi pr : Nat → Int} {T : Int} {sl : Nat → Nat → Int} {N tA : Nat} {rw' : Nat → Nat} {lv of : Nat → Int}
/-- what is to hold of the planes that are listed -/
def Plan (lo hi : Nat → Int) (sl : Nat → Nat → Int) (of : Nat → Int) (N tA : Nat) (rw' : Nat → Nat) (lv : Nat → Int) : Prop :=
  (∃ cs : List Con3, (∀ c ∈ cs, ∃ k, k < N ∧ (c = cn (sl (rw' k)) (lv k) ∨ c = ng (cn (sl (rw' k)) (lv k)))) ∧ (∀ x y z, FeQ lo hi sl of x y z ↔ Fe3 cs x y z) ∧ (∀ a b c : Rat, ¬ (a = 0 ∧ b = 0 ∧ c = 0) → ∃ k ∈ cs, 0 < co_d k a b c)) ∧
  (∀ k, k < tA → ∀ x y z, FeQ lo hi sl of x y z → co_d (cn (sl (rw' k)) (lv k)) x y z = lv k) ∧ tA ≤ N ∧
  (0 < tA → ¬ (sl (rw' 0) 0 = 0 ∧ sl (rw' 0) 1 = 0 ∧ sl (rw' 0) 2 = 0)) ∧ (1 < tA → ¬ (crs (sl (rw' 0)) (sl (rw' 1)) 0 = 0 ∧ crs (sl (rw' 0)) (sl (rw' 1)) 1 = 0 ∧ crs (sl (rw' 0)) (sl (rw' 1)) 2 = 0)) ∧ (2 < tA → det (sl (rw' 0)) (sl (rw' 1)) (sl (rw' 2)) ≠ 0)
theorem ng_d (c : Con3) (x y z : Rat) : co_d (ng c) x y z = -(co_d c x y z) := by
  unfold co_d ng
  simp only []
  grind
/-- a bound that is met is a plane that is met -/
theorem con_pl {c : Con3} {p : Nat → Int} {l : Int} (h : c = cn p l ∨ c = ng (cn p l)) {x y z : Rat} (ht : co_d c x y z = c.2) : co_d (cn p l) x y z = l := by
  rcases h with rfl | rfl
  · exact ht
  · rw [ng_d] at ht
    have e : (ng (cn p l)).2 = -(l : Rat) := rfl
    rw [e] at ht
    grind
theorem det_1 {c : Con3} {p : Nat → Int} {l : Int} (h : c = cn p l ∨ c = ng (cn p l)) {a b : Con3} (hd : det3 c a b ≠ 0) : det3 (cn p l) a b ≠ 0 := by
  rcases h with rfl | rfl
  · exact hd
  · intro e
    apply hd
    unfold det3 ng at *
    simp only [] at *
    grind
theorem det_2 {c : Con3} {p : Nat → Int} {l : Int} (h : c = cn p l ∨ c = ng (cn p l)) {a b : Con3} (hd : det3 a c b ≠ 0) : det3 a (cn p l) b ≠ 0 := by
  rcases h with rfl | rfl
  · exact hd
  · intro e
    apply hd
    unfold det3 ng at *
    simp only [] at *
    grind
theorem det_3 {c : Con3} {p : Nat → Int} {l : Int} (h : c = cn p l ∨ c = ng (cn p l)) {a b : Con3} (hd : det3 a b c ≠ 0) : det3 a b (cn p l) ≠ 0 := by
  rcases h with rfl | rfl
  · exact hd
  · intro e
    apply hd
    unfold det3 ng at *
    simp only [] at *
    grind
theorem enough (hl : Lin pt T sl of) (hP : Plan lo hi sl of N tA rw' lv) {x y z : Rat} (hF : FeQ lo hi sl of x y z) :
    ∃ a b c, Enu N tA a b c ∧ Ok3 pt lo hi T sl rw' lv a b c ∧ ∃ x' y' z', At3 T sl rw' lv a b c x' y' z' ∧ kle (wv pr) x' y' z' x y z := by
  obtain ⟨⟨cs, h1, h2, h3⟩, h4, h5, h6, h7, h8⟩ := hP
  have hFe := (h2 x y z).mp hF
  have dc : ∀ {i j k : Nat}, det3 (cn (sl (rw' i)) (lv i)) (cn (sl (rw' j)) (lv j)) (cn (sl (rw' k)) (lv k)) ≠ 0 → det (sl (rw' i)) (sl (rw' j)) (sl (rw' k)) ≠ 0 := fun {i j k} hd e => hd (by rw [det_cast, e]; rfl)
  have ne1 : ∀ {i j k : Nat}, det (sl (rw' i)) (sl (rw' j)) (sl (rw' k)) ≠ 0 → i ≠ j ∧ j ≠ k ∧ i ≠ k := fun {i j k} hd => ⟨fun e => hd (by rw [e]; exact det_rep1 _ _), fun e => hd (by rw [e]; exact det_rep2 _ _), fun e => hd (by rw [e]; exact det_rep3 _ _)⟩
  have fin : ∀ {a b c : Nat} {x' y' z' : Rat}, Enu N tA a b c → det (sl (rw' a)) (sl (rw' b)) (sl (rw' c)) ≠ 0 → Fe3 cs x' y' z' → kle (wv pr) x' y' z' x y z → co_d (cn (sl (rw' a)) (lv a)) x' y' z' = lv a → co_d (cn (sl (rw' b)) (lv b)) x' y' z' = lv b → co_d (cn (sl (rw' c)) (lv c)) x' y' z' = lv c →
      ∃ a b c, Enu N tA a b c ∧ Ok3 pt lo hi T sl rw' lv a b c ∧ ∃ x' y' z', At3 T sl rw' lv a b c x' y' z' ∧ kle (wv pr) x' y' z' x y z := fun {a b c x' y' z'} he hd hf hk t1 t2 t3 =>
    ⟨a, b, c, he, (ok_of hl hd ((h2 _ _ _).mpr hf) t1 t2 t3).1, x', y', z', (ok_of hl hd ((h2 _ _ _).mpr hf) t1 t2 t3).2, hk⟩
  rcases Nat.lt_or_ge 2 tA with t3 | t3
  · exact fin (a := 0) (b := 1) (c := 2) ⟨by decide, by decide, by rw [if_pos (by omega)]; decide, by rw [if_pos (by omega)]; decide, by rw [if_pos t3]; decide⟩ (h8 t3) hFe kle_refl (h4 0 (by omega) _ _ _ hF) (h4 1 (by omega) _ _ _ hF) (h4 2 (by omega) _ _ _ hF)
  · rcases Nat.lt_or_ge 1 tA with t2 | t2
    · have tw : tA = 2 := by omega
      have hn : ¬ crs0 (cn (sl (rw' 0)) (lv 0)) (cn (sl (rw' 1)) (lv 1)) := by
        intro hc
        obtain ⟨c0, c1, c2⟩ := hc
        apply h7 t2
        refine ⟨?_, ?_, ?_⟩
        · have : ((crs (sl (rw' 0)) (sl (rw' 1)) 0 : Int) : Rat) = 0 := by
            show ((sl (rw' 0) 1 * sl (rw' 1) 2 - sl (rw' 0) 2 * sl (rw' 1) 1 : Int) : Rat) = 0
            rw [Rat.intCast_sub, Rat.intCast_mul, Rat.intCast_mul]
            exact c0
          exact Rat.intCast_eq_zero_iff.mp this
        · have : ((crs (sl (rw' 0)) (sl (rw' 1)) 1 : Int) : Rat) = 0 := by
            show ((sl (rw' 0) 2 * sl (rw' 1) 0 - sl (rw' 0) 0 * sl (rw' 1) 2 : Int) : Rat) = 0
            rw [Rat.intCast_sub, Rat.intCast_mul, Rat.intCast_mul]
            exact c1
          exact Rat.intCast_eq_zero_iff.mp this
        · have : ((crs (sl (rw' 0)) (sl (rw' 1)) 2 : Int) : Rat) = 0 := by
            show ((sl (rw' 0) 0 * sl (rw' 1) 1 - sl (rw' 0) 1 * sl (rw' 1) 0 : Int) : Rat) = 0
            rw [Rat.intCast_sub, Rat.intCast_mul, Rat.intCast_mul]
            exact c2
          exact Rat.intCast_eq_zero_iff.mp this
      obtain ⟨c, hc, hd, x', y', z', g1, g2, g3, g4, g5⟩ := vtx2 (w := wv pr) hFe h3 (h4 0 (by omega) _ _ _ hF) (h4 1 (by omega) _ _ _ hF) hn
      obtain ⟨k, hk, hck⟩ := h1 c hc
      have hd' := dc (det_3 hck hd)
      have hne := ne1 hd'
      exact fin (a := 0) (b := 1) (c := k) ⟨by decide, by omega, by rw [if_pos (by omega)]; decide, by rw [if_pos t2]; decide, by rw [if_neg (by omega)]; exact hk⟩ hd' g1 g2 g3 g4 (con_pl hck g5)
    · rcases Nat.lt_or_ge 0 tA with t1 | t1
      · have hn : ¬ ((cn (sl (rw' 0)) (lv 0)).1.1 = 0 ∧ (cn (sl (rw' 0)) (lv 0)).1.2.1 = 0 ∧ (cn (sl (rw' 0)) (lv 0)).1.2.2 = 0) := fun hc => h6 t1 ⟨Rat.intCast_eq_zero_iff.mp hc.1, Rat.intCast_eq_zero_iff.mp hc.2.1, Rat.intCast_eq_zero_iff.mp hc.2.2⟩
        obtain ⟨b, hb, c, hc, hd, x', y', z', g1, g2, g3, g4, g5⟩ := vtx1 (w := wv pr) hFe h3 (h4 0 (by omega) _ _ _ hF) hn
        obtain ⟨j, hj, hbj⟩ := h1 b hb
        obtain ⟨k, hk, hck⟩ := h1 c hc
        have hd' := dc (det_3 hck (det_2 hbj hd))
        have hne := ne1 hd'
        rcases Nat.lt_or_ge j k with hjk | hjk
        · exact fin (a := 0) (b := j) (c := k) ⟨by omega, hjk, by rw [if_pos t1]; decide, by rw [if_neg (by omega)]; exact hj, by rw [if_neg (by omega)]; exact hk⟩ hd' g1 g2 g3 (con_pl hbj g4) (con_pl hck g5)
        · exact fin (a := 0) (b := k) (c := j) ⟨by omega, by omega, by rw [if_pos t1]; decide, by rw [if_neg (by omega)]; exact hk, by rw [if_neg (by omega)]; exact hj⟩ (by rw [det_sw2]; omega) g1 g2 g3 (con_pl hck g5) (con_pl hbj g4)
      · obtain ⟨a, ha, b, hb, c, hc, hd, x', y', z', g1, g2, g3, g4, g5⟩ := vtx0 (w := wv pr) hFe h3
        obtain ⟨i, hi', hai⟩ := h1 a ha
        obtain ⟨j, hj, hbj⟩ := h1 b hb
        obtain ⟨k, hk, hck⟩ := h1 c hc
        have hd' := dc (det_3 hck (det_2 hbj (det_1 hai hd)))
        have hne := ne1 hd'
        have p1 := con_pl hai g3
        have p2 := con_pl hbj g4
        have p3 := con_pl hck g5
        have en : ∀ {a b c : Nat}, a < N → b < N → c < N → a < b → b < c → Enu N tA a b c := fun ha hb hc h1 h2 => ⟨h1, h2, by rw [if_neg (by omega)]; exact ha, by rw [if_neg (by omega)]; exact hb, by rw [if_neg (by omega)]; exact hc⟩
        rcases Nat.lt_or_ge i j with ij | ij <;> rcases Nat.lt_or_ge j k with jk | jk <;> rcases Nat.lt_or_ge i k with ik | ik
        · exact fin (en hi' hj hk ij jk) hd' g1 g2 p1 p2 p3
        · omega
        · exact fin (en hi' hk hj ik (by omega)) (by rw [det_sw2]; omega) g1 g2 p1 p3 p2
        · exact fin (en hk hi' hj (by omega) ij) (by rw [det_sw1, det_sw2]; omega) g1 g2 p3 p1 p2
        · exact fin (en hj hi' hk (by omega) ik) (by rw [det_sw1]; omega) g1 g2 p2 p1 p3
        · exact fin (en hj hk hi' jk (by omega)) (by rw [det_sw2, det_sw1]; omega) g1 g2 p2 p3 p1
        · omega
        · exact fin (en hk hj hi' (by omega) (by omega)) (by rw [det_sw1, det_sw2, det_sw1]; omega) g1 g2 p3 p2 p1
end VE2
