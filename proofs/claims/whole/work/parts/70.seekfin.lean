/-! What seek does: all of it. -/
section FIN
variable {lo hi : Nat → Int} {T : Int} {o : Nat → Nat → Nat} {d : Dt}
theorem plan_ok (hS : Srt (ptd d) o) (hR : Rm lo hi T) (hlo : ∀ k, k < 7 → 0 ≤ lo k) (h3 : (oneL lo hi 0 4).length < 3) :
    Plan lo hi (slp d) (ofl d T) (allL lo hi T (ptd d) o).length (oneL lo hi 0 4).length (rwL (allL lo hi T (ptd d) o)) (lvL (ofl d T) (allL lo hi T (ptd d) o)) := by
  obtain ⟨pl, epl⟩ : ∃ z, z = allL lo hi T (ptd d) o := ⟨_, rfl⟩
  have mlo : ∀ k, k < 4 → (k, lo k) ∈ pl := fun k hk => by
    rw [epl, allL, if_pos h3]
    by_cases c : lo k = hi k
    · exact List.mem_append.mpr (Or.inl (mem_oneL 4 0 k (by omega) (by omega) c))
    · have := hR.1 k hk
      exact List.mem_append.mpr (Or.inr (List.mem_append.mpr (Or.inl (mem_stfL 4 0 k (by omega) (by omega) (by omega)).1)))
  have mhi : ∀ k, k < 4 → (k, hi k) ∈ pl ∨ T ≤ hi k := fun k hk => by
    rw [epl, allL, if_pos h3]
    by_cases c : lo k = hi k
    · exact Or.inl (List.mem_append.mpr (Or.inl (by rw [← c]; exact mem_oneL 4 0 k (by omega) (by omega) c)))
    · by_cases c2 : hi k < T
      · have := hR.1 k hk
        exact Or.inl (List.mem_append.mpr (Or.inr (List.mem_append.mpr (Or.inl ((mem_stfL 4 0 k (by omega) (by omega) (by omega)).2 c2)))))
      · exact Or.inr (by omega)
  have mnl : ∀ n, n < 3 → (4 + n, lo (4 + n)) ∈ pl ∨ lo (4 + n) ≤ lsN lo hi T (ptd d) o n := fun n hn => by
    rw [epl, allL, if_pos h3]
    by_cases c : lsN lo hi T (ptd d) o n < lo (4 + n)
    · exact Or.inl (List.mem_append.mpr (Or.inr (List.mem_append.mpr (Or.inr ((mem_nutL 3 0 n (by omega) (by omega)).1 c)))))
    · exact Or.inr (by omega)
  have mnh : ∀ n, n < 3 → (4 + n, hi (4 + n)) ∈ pl ∨ msN lo hi T (ptd d) o n ≤ hi (4 + n) := fun n hn => by
    rw [epl, allL, if_pos h3]
    by_cases c : hi (4 + n) < msN lo hi T (ptd d) o n
    · exact Or.inl (List.mem_append.mpr (Or.inr (List.mem_append.mpr (Or.inr ((mem_nutL 3 0 n (by omega) (by omega)).2 c)))))
    · exact Or.inr (by omega)
  have oneN : (oneL lo hi 0 4).length ≤ pl.length := by
    rw [epl, allL, List.length_append]
    omega
  have hrow : ∀ k, k < (oneL lo hi 0 4).length → rwL pl k < 4 ∧ lvL (ofl d T) pl k = lo (rwL pl k) - ofl d T (rwL pl k) ∧ lo (rwL pl k) = hi (rwL pl k) := fun k hk => by
    obtain ⟨s, h1, h2, h4⟩ := one_at (T := T) (pt := ptd d) (o := o) k hk
    rw [← epl] at h2
    unfold lvL rwL
    rw [getD_of h2]
    exact ⟨h1, rfl, h4⟩
  rw [← epl]
  have at_of : ∀ {r : Nat} {l : Int}, (r, l) ∈ pl → ∃ k, k < pl.length ∧ cn (slp d r) (l - ofl d T r) = cn (slp d (rwL pl k)) (lvL (ofl d T) pl k) := fun {r l} h => by
    obtain ⟨k, hk⟩ := List.mem_iff_getElem?.mp h
    refine ⟨k, (List.getElem?_eq_some_iff.mp hk).1, ?_⟩
    unfold lvL rwL
    rw [getD_of hk]
  have co_cn : ∀ (p : Nat → Int) (l : Int) (x y z : Rat), co_d (cn p l) x y z = co_d (cn p 0) x y z := fun _ _ _ _ _ => rfl
  refine ⟨⟨(List.range 7).flatMap (fun r => (if (r, lo r) ∈ pl then [ng (cn (slp d r) (lo r - ofl d T r))] else []) ++ (if (r, hi r) ∈ pl then [cn (slp d r) (hi r - ofl d T r)] else [])), ?_, ?_, ?_⟩, ?_, oneN, ?_, ?_, ?_⟩
  · intro c hc
    obtain ⟨r, -, h⟩ := List.mem_flatMap.mp hc
    rcases List.mem_append.mp h with h | h
    · by_cases c1 : (r, lo r) ∈ pl
      · rw [if_pos c1] at h
        have e := List.mem_singleton.mp h
        obtain ⟨k, k1, k2⟩ := at_of c1
        exact ⟨k, k1, Or.inr (by rw [e, k2])⟩
      · rw [if_neg c1] at h; cases h
    · by_cases c1 : (r, hi r) ∈ pl
      · rw [if_pos c1] at h
        have e := List.mem_singleton.mp h
        obtain ⟨k, k1, k2⟩ := at_of c1
        exact ⟨k, k1, Or.inl (by rw [e, k2])⟩
      · rw [if_neg c1] at h; cases h
  · intro x y z
    constructor
    · intro hF c hc
      obtain ⟨r, hr, h⟩ := List.mem_flatMap.mp hc
      have hr7 := List.mem_range.mp hr
      have f := hF r hr7
      rcases List.mem_append.mp h with h | h
      · by_cases c1 : (r, lo r) ∈ pl
        · rw [if_pos c1] at h
          have e := List.mem_singleton.mp h
          rw [e, ng_d, co_cn]
          show -(co_d (cn (slp d r) 0) x y z) ≤ -((lo r - ofl d T r : Int) : Rat)
          grind
        · rw [if_neg c1] at h; cases h
      · by_cases c1 : (r, hi r) ∈ pl
        · rw [if_pos c1] at h
          have e := List.mem_singleton.mp h
          rw [e, co_cn]
          exact f.2
        · rw [if_neg c1] at h; cases h
    · intro hF
      have gl : ∀ r, r < 7 → (r, lo r) ∈ pl → (lo r : Rat) ≤ rv d r (am T x y z) := fun r hr hm => by
        have := hF (ng (cn (slp d r) (lo r - ofl d T r))) (List.mem_flatMap.mpr ⟨r, List.mem_range.mpr hr, List.mem_append.mpr (Or.inl (by rw [if_pos hm]; exact List.mem_cons_self))⟩)
        rw [ng_d, co_cn] at this
        have e : (ng (cn (slp d r) (lo r - ofl d T r))).2 = -((lo r - ofl d T r : Int) : Rat) := rfl
        rw [e, Rat.intCast_sub] at this
        have := co_rv d T r x y z
        grind
      have gh : ∀ r, r < 7 → (r, hi r) ∈ pl → rv d r (am T x y z) ≤ (hi r : Rat) := fun r hr hm => by
        have := hF (cn (slp d r) (hi r - ofl d T r)) (List.mem_flatMap.mpr ⟨r, List.mem_range.mpr hr, List.mem_append.mpr (Or.inr (by rw [if_pos hm]; exact List.mem_cons_self))⟩)
        rw [co_cn] at this
        have e : (cn (slp d r) (hi r - ofl d T r)).2 = ((hi r - ofl d T r : Int) : Rat) := rfl
        rw [e, Rat.intCast_sub] at this
        have := co_rv d T r x y z
        grind
      have bl : ∀ i, i < 4 → (lo i : Rat) ≤ am T x y z i := fun i h => by
        have := gl i (by omega) (mlo i h)
        rwa [rv_stuff d h] at this
      have pos : ∀ i, i < 4 → 0 ≤ am T x y z i := fun i h => by
        have h1 := bl i h
        have h2 : (0 : Rat) ≤ (lo i : Rat) := Rat.intCast_nonneg.mpr (hlo i (by omega))
        grind
      have sm4 := am_sum T x y z
      have leT : ∀ i, i < 4 → am T x y z i ≤ (T : Rat) := fun i h => by
        have p0 := pos 0 (by omega)
        have p1 := pos 1 (by omega)
        have p2 := pos 2 (by omega)
        have p3 := pos 3 (by omega)
        match i, h with
        | 0, _ => grind
        | 1, _ => grind
        | 2, _ => grind
        | 3, _ => grind
      have bb : ∀ i, i < 4 → (lo i : Rat) ≤ am T x y z i ∧ am T x y z i ≤ (hi i : Rat) := fun i h => by
        refine ⟨bl i h, ?_⟩
        rcases mhi i h with hm | hm
        · have := gh i (by omega) hm
          rwa [rv_stuff d h] at this
        · have h1 := leT i h
          have h2 : (T : Rat) ≤ (hi i : Rat) := Rat.intCast_le_intCast.mpr hm
          grind
      rw [FeQ_iff]
      intro k hk
      by_cases h4 : k < 4
      · rw [rv_stuff d h4]
        exact bb k h4
      · obtain ⟨n, rfl⟩ : ∃ n, k = 4 + n := ⟨k - 4, by omega⟩
        have e := fes_ext hS hR bb (show n < 3 by omega)
        constructor
        · rcases mnl n (by omega) with hm | hm
          · exact gl _ hk hm
          · have h2 := Rat.intCast_le_intCast.mpr hm
            grind
        · rcases mnh n (by omega) with hm | hm
          · exact gh _ hk hm
          · have h2 := Rat.intCast_le_intCast.mpr hm
            grind
  · intro a b c hn
    have mem : ∀ r, r < 4 → ng (cn (slp d r) (lo r - ofl d T r)) ∈ (List.range 7).flatMap (fun r => (if (r, lo r) ∈ pl then [ng (cn (slp d r) (lo r - ofl d T r))] else []) ++ (if (r, hi r) ∈ pl then [cn (slp d r) (hi r - ofl d T r)] else [])) := fun r hr => List.mem_flatMap.mpr ⟨r, List.mem_range.mpr (by omega), List.mem_append.mpr (Or.inl (by rw [if_pos (mlo r hr)]; exact List.mem_cons_self))⟩
    have cd : ∀ r l, co_d (cn (slp d r) l) a b c = (slp d r 0 : Rat) * a + (slp d r 1 : Rat) * b + (slp d r 2 : Rat) * c := fun _ _ => rfl
    have e1 : ((1 : Int) : Rat) = 1 := rfl
    have e0 : ((0 : Int) : Rat) = 0 := rfl
    have em : ((-1 : Int) : Rat) = -1 := rfl
    have s0 : slp d 0 0 = 1 ∧ slp d 0 1 = 0 ∧ slp d 0 2 = 0 := ⟨rfl, rfl, rfl⟩
    have s1 : slp d 1 0 = 0 ∧ slp d 1 1 = 1 ∧ slp d 1 2 = 0 := ⟨rfl, rfl, rfl⟩
    have s2 : slp d 2 0 = 0 ∧ slp d 2 1 = 0 ∧ slp d 2 2 = 1 := ⟨rfl, rfl, rfl⟩
    have s3 : slp d 3 0 = -1 ∧ slp d 3 1 = -1 ∧ slp d 3 2 = -1 := ⟨rfl, rfl, rfl⟩
    by_cases ha : a < 0
    · refine ⟨_, mem 0 (by omega), ?_⟩
      rw [ng_d, cd, s0.1, s0.2.1, s0.2.2, e1, e0]
      grind
    · by_cases hb : b < 0
      · refine ⟨_, mem 1 (by omega), ?_⟩
        rw [ng_d, cd, s1.1, s1.2.1, s1.2.2, e1, e0]
        grind
      · by_cases hc : c < 0
        · refine ⟨_, mem 2 (by omega), ?_⟩
          rw [ng_d, cd, s2.1, s2.2.1, s2.2.2, e1, e0]
          grind
        · refine ⟨_, mem 3 (by omega), ?_⟩
          rw [ng_d, cd, s3.1, s3.2.1, s3.2.2, em]
          grind
  · intro k hk x y z hF
    obtain ⟨h1, h2, h4⟩ := hrow k hk
    have f := hF (rwL pl k) (by omega)
    rw [co_cn, h2]
    have f2 := f.2
    rw [← h4] at f2
    exact Rat.le_antisymm f2 f.1
  · exact fun h => ind1 d (hrow 0 h).1
  · intro h
    have l := one_lt (T := T) (pt := ptd d) (o := o) (show 0 < 1 by omega) h
    rw [← epl] at l
    exact ind2 d l (hrow 1 h).1
  · intro h
    omega
/-- the enumerated corners are the points, up to better ones -/
theorem enum_pts (hS : Srt (ptd d) o) (hR : Rm lo hi T) (hlo : ∀ k, k < 7 → 0 ≤ lo k) (pr : Nat → Int) {x y z : Rat} (hF : Fes d T lo hi x y z) :
    ∃ a b c, Enu (allL lo hi T (ptd d) o).length (oneL lo hi 0 4).length a b c ∧ Ok3 (ptd d) lo hi T (slp d) (rwL (allL lo hi T (ptd d) o)) (lvL (ofl d T) (allL lo hi T (ptd d) o)) a b c ∧ ∃ x' y' z', At3 T (slp d) (rwL (allL lo hi T (ptd d) o)) (lvL (ofl d T) (allL lo hi T (ptd d) o)) a b c x' y' z' ∧ kle (wv pr) x' y' z' x y z := by
  rw [← FeQ_iff] at hF
  by_cases h3 : (oneL lo hi 0 4).length < 3
  · exact enough (lin_ok d T) (plan_ok hS hR hlo h3) hF
  · have hrow : ∀ k, k < (oneL lo hi 0 4).length → rwL (allL lo hi T (ptd d) o) k < 4 ∧ lvL (ofl d T) (allL lo hi T (ptd d) o) k = lo (rwL (allL lo hi T (ptd d) o) k) - ofl d T (rwL (allL lo hi T (ptd d) o) k) ∧ lo (rwL (allL lo hi T (ptd d) o) k) = hi (rwL (allL lo hi T (ptd d) o) k) := fun k hk => by
      obtain ⟨s, h1, h2, h4⟩ := one_at (T := T) (pt := ptd d) (o := o) k hk
      unfold lvL rwL
      rw [getD_of h2]
      exact ⟨h1, rfl, h4⟩
    have hat : ∀ k, k < (oneL lo hi 0 4).length → co_d (cn (slp d (rwL (allL lo hi T (ptd d) o) k)) (lvL (ofl d T) (allL lo hi T (ptd d) o) k)) x y z = lvL (ofl d T) (allL lo hi T (ptd d) o) k := fun k hk => by
      obtain ⟨h1, h2, h4⟩ := hrow k hk
      have f := hF (rwL (allL lo hi T (ptd d) o) k) (by omega)
      rw [h2]
      have f2 := f.2
      rw [← h4] at f2
      exact Rat.le_antisymm f2 f.1
    have l1 := one_lt (T := T) (pt := ptd d) (o := o) (lo := lo) (hi := hi) (show 0 < 1 by omega) (by omega)
    have l2 := one_lt (T := T) (pt := ptd d) (o := o) (lo := lo) (hi := hi) (show 1 < 2 by omega) (by omega)
    have hd := ind3 d l1 l2 (hrow 2 (by omega)).1
    have hok := ok_of (lo := lo) (hi := hi) (lin_ok d T) hd hF (hat 0 (by omega)) (hat 1 (by omega)) (hat 2 (by omega))
    exact ⟨0, 1, 2, ⟨by decide, by decide, by rw [if_pos (by omega)]; decide, by rw [if_pos (by omega)]; decide, by rw [if_pos (by omega)]; decide⟩, hok.1, x, y, z, hok.2, kle_refl⟩
theorem pts_enum {N : Nat} {rw' : Nat → Nat} {lv : Nat → Int} {a b c : Nat} {x y z : Rat} (h : Ok3 (ptd d) lo hi T (slp d) rw' lv a b c) (h2 : At3 T (slp d) rw' lv a b c x y z) : Fes d T lo hi x y z := by
  rw [← FeQ_iff]
  intro k hk
  have := (InL_iff (lin_ok d T) (Ca_sum a b c) (Cu_pos h.1) hk).mp (h.2 k hk)
  obtain ⟨e1, e2, e3⟩ := h2
  rw [e1, e2, e3]
  exact this
/-- the state of the mixer as it is searched -/
def Mst (d : Dt) (w : Nat) (lo hi : Nat → Int) (I : SI) : Prop := ToF d I ∧ I 12 1 = nI w ∧ (1 ≤ w ∧ w ≤ 40) ∧ (∀ r, r < 7 → row3 I (22 + r) (slp d r)) ∧ ∃ o, Cst (ofl d (10 * w)) lo hi (10 * w) (ptd d) o I ∧ Srt (ptd d) o
theorem ToF_same {I I2 : SI} (h : ToF d I) (e : ∀ k, k < 12 → I2 k = I k) : ToF d I2 := by
  obtain ⟨h0, h1, h2, h3, h4, h5, h6, h7, h8⟩ := h
  refine ⟨by rw [e 0 (by omega)]; exact h0, fun i hi => by rw [e 1 (by omega)]; exact h1 i hi, fun i hi => by rw [e 2 (by omega)]; exact h2 i hi, fun i hi => by rw [e 3 (by omega)]; exact h3 i hi, fun i hi => by rw [e 4 (by omega)]; exact h4 i hi, fun i hi => by rw [e 5 (by omega)]; exact h5 i hi, fun r hr i hi => by rw [e (7 + r) (by omega)]; exact h6 r hr i hi, fun r hr => by rw [e 10 (by omega)]; exact h7 r hr, fun r hr => by rw [e 11 (by omega)]; exact h8 r hr⟩
theorem Mst_same {w : Nat} {I I2 : SI} (h : Mst d w lo hi I) (e : ∀ k, k ≠ 19 → k ≠ 29 → k ≠ 30 → I2 k = I k) : Mst d w lo hi I2 := by
  obtain ⟨h1, h2, h3, h4, o, h5, h6⟩ := h
  refine ⟨ToF_same h1 (fun k hk => e k (by omega) (by omega) (by omega)), by rw [e 12 (by omega) (by omega) (by omega)]; exact h2, h3, fun r hr => ?_, o, Cst_same h5 e, h6⟩
  intro j hj
  rw [e (22 + r) (by omega) (by omega) (by omega)]
  exact h4 r hr j hj
theorem Geo_of {w : Nat} {I : SI} (hrg : Rg d) (h : Mst d w lo hi I) (hC : Cst (ofl d (10 * w)) lo hi (10 * w) (ptd d) o I) (hP : PlI (ofl d (10 * w)) I (allL lo hi (10 * w) (ptd d) o)) (h7 : I 19 7 = nI (oneL lo hi 0 4).length) :
    Geo I (ptd d) lo hi (prd d) (10 * w) (slp d) (allL lo hi (10 * w) (ptd d) o).length (oneL lo hi 0 4).length (rwL (allL lo hi (10 * w) (ptd d) o)) (lvL (ofl d (10 * w)) (allL lo hi (10 * w) (ptd d) o)) := by
  have hw := h.2.2.1
  refine ⟨hC.2.1, hC.2.2.1, hC.2.2.2.1, ⟨by omega, by omega⟩, fun i hi => ?_, h.2.2.2.1, hP.1, hP.2.1, h7, oneL_len lo hi 4 0, ?_, fun k hk => ?_⟩
  · have := (hrg.2.1 i hi).1
    exact ⟨by rw [h.1.2.1 i hi, i3_nI]; rfl, by unfold prd; omega, by unfold prd; omega⟩
  · rw [allL, List.length_append]
    omega
  · have g := hP.2.2 k _ (List.getElem?_eq_getElem hk)
    have e := getD_of (List.getElem?_eq_getElem hk)
    have o1 := hC.1 _ g.1
    unfold rwL lvL
    rw [e]
    exact ⟨g.1, g.2.1, g.2.2.1, by omega, by omega⟩
theorem seek_ok {w : Nat} {I : SI} {J : SJ} {X : Rat → Rat → Rat → Prop} (hrg : Rg d) (h : Mst d w lo hi I) (hB : BQ (prd d) (10 * w) J X) :
    ∃ (x : Int32) (I2 : SI) (J2 : SJ), m_K_seek I J = some (x, I2, J2) ∧ (∀ k, k ≠ 19 → k ≠ 29 → k ≠ 30 → I2 k = I k) ∧ BQ (prd d) (10 * w) J2 (fun x y z => X x y z ∨ Fes d (10 * w) lo hi x y z) := by
  obtain ⟨h1, h2, h3, h4, o, hC, hS⟩ := id h
  have hT1 : (0 : Int) ≤ 10 * w ∧ (10 * w : Int) ≤ 400 := ⟨by omega, by omega⟩
  have none : (∀ x y z, ¬ Fes d (10 * w) lo hi x y z) → BQ (prd d) (10 * w) J (fun x y z => X x y z ∨ Fes d (10 * w) lo hi x y z) := fun hn =>
    BQ_mono hB (fun _ _ _ => Or.inl) (fun x y z hx => by
      rcases hx with hx | hx
      · exact ⟨x, y, z, hx, kle_refl⟩
      · exact absurd hx (hn x y z))
  obtain ⟨x1, r1, r2⟩ := room_ok (J := J) hC.2.1 hC.2.2.2.1 hT1
  unfold m_K_seek
  have hf : 700 * (15 + 1) < fuel := by decide
  generalize fuel = F at hf ⊢
  simp only [b_K_seek_0, r1, cl3]
  rcases r2 with ⟨rfl, hR⟩ | ⟨rfl, hR⟩
  · simp only [one0, if_false]
    obtain ⟨x2, I2, p1, p2, p3⟩ := setPlanes_ok hT1 hR hC J
    rw [p1]
    simp only []
    rcases p3 with ⟨rfl, q1, q2, q3⟩ | ⟨rfl, m, hm, q1⟩
    · simp only [one0, if_false]
      have hlo : ∀ k, k < 7 → 0 ≤ lo k := fun k hk => (hC.2.1 k hk).2.2.1
      have hG := Geo_of hrg (Mst_same h p2) (Cst_same hC p2) q2 q3
      obtain ⟨J2, x3, g1, g2, g3, g4⟩ := seek_a hG 15 0 (by split <;> have := q2.2.1 <;> omega) (by omega) F hf J X 0 (Or.inl rfl) hB
      refine ⟨x3, I2, J2, g1, p2, BQ_mono g4 ?_ ?_⟩
      · rintro x y z (hx | ⟨a, b, c, -, -, k1, k2⟩)
        · exact Or.inl hx
        · exact Or.inr (pts_enum (N := 0) k1 k2)
      · rintro x y z (hx | hx)
        · exact ⟨x, y, z, Or.inl hx, kle_refl⟩
        · obtain ⟨a, b, c, k1, k2, x', y', z', k3, k4⟩ := enum_pts hS hR hlo (prd d) hx
          exact ⟨x', y', z', Or.inr ⟨a, b, c, by omega, k1, k2, k3⟩, k4⟩
    · simp only [if_true]
      refine ⟨0, I2, J, rfl, p2, none fun x y z hx => ?_⟩
      have hb : ∀ i, i < 4 → (lo i : Rat) ≤ am (10 * w) x y z i ∧ am (10 * w) x y z i ≤ (hi i : Rat) := fun i hi => by
        have := hx i (by omega)
        rwa [rv_stuff d hi] at this
      have e := fes_ext hS hR hb hm
      have f := hx (4 + m) (by omega)
      rcases q1 with q1 | q1
      · have := Rat.intCast_lt_intCast.mpr q1
        grind
      · have := Rat.intCast_lt_intCast.mpr q1
        grind
  · simp only [if_true]
    exact ⟨0, I, J, rfl, fun _ _ _ _ => rfl, none fun x y z hx => hR (fes_room hx)⟩
end FIN
