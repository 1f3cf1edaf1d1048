/-! The reference: does a point keep its bounds, and is it better? -/
def Cts (S : Nat → Prop) (I : SI) : Prop := ∀ b, b < 22 → (I 11 b = 1 ∧ S b) ∨ (I 11 b = 0 ∧ ¬ S b)
def Kpd (d : Dt) (w : Nat) (S : Nat → Prop) (X : Nat → Int) (u : Int) : Prop := ∀ b, b < 22 → S b → (lst b → rgt d w b * u ≤ sR (fun s => fac d b s * X s) (dn d)) ∧ (¬ lst b → sR (fun s => fac d b s * X s) (dn d) ≤ rgt d w b * u)
section KD
variable {d : Dt} {w : Nat} {I : SI} {J : SJ} {X : Nat → Int} {u : Int}
theorem over_le (hrg : Rg d) (hw : w ≤ 40) (u0 : 0 < u) (u1 : u ≤ 384000) (hX : ∀ s, s < dn d → -1000000000 ≤ X s ∧ X s ≤ 1000000000) {b : Nat} (hb : b < 22) :
    (-160000000000 ≤ sR (fun s => fac d b s * X s) (dn d) ∧ sR (fun s => fac d b s * X s) (dn d) ≤ 160000000000) ∧ 0 ≤ rgt d w b * u ∧ rgt d w b * u ≤ 614400000 := by
  have hn := hrg.1
  have sm : ∀ m, m ≤ dn d → -40000000000 * (m : Int) ≤ sR (fun s => fac d b s * X s) m ∧ sR (fun s => fac d b s * X s) m ≤ 40000000000 * (m : Int) := by
    intro m
    induction m with
    | zero => intro _; show _ ≤ (0 : Int) ∧ (0 : Int) ≤ _; omega
    | succ m ih =>
      intro hm
      have i1 := ih (by omega)
      have i2 := hX m (by omega)
      have i3 := fac_le hrg (b := b) (show m < 4 by omega)
      have m1 := mulB (p := fac d b m) (M := 40) (a := X m) (B := 1000000000) (by omega) (by omega) (by omega) (by omega)
      show _ ≤ sR (fun s => fac d b s * X s) m + fac d b m * X m ∧ sR (fun s => fac d b s * X s) m + fac d b m * X m ≤ _
      omega
  have s1 := sm (dn d) (Nat.le_refl _)
  have r1 := rgt_le hrg hw hb
  have m0 : 0 ≤ rgt d w b * u := Int.mul_nonneg r1.1 (by omega)
  have m1 := mulB (p := rgt d w b) (M := 1600) (a := u) (B := 384000) (by omega) (by omega) (by omega) (by omega)
  omega
theorem keepsAll_ok (hrg : Rg d) (h : ToR d I) (hw : w ≤ 40) {S : Nat → Prop} (hS : Cts S I) (u0 : 0 < u) (u1 : u ≤ 384000) (hX : ∀ s, s < dn d → -1000000000 ≤ X s ∧ X s ≤ 1000000000) (hJ : ∀ s, s < dn d → J 15 s = i6 (X s)) (hu : J 0 26 = i6 u) :
    (m_R_keepsAll (nI w) I J = some (1, I, J) ∧ Kpd d w S X u) ∨ (m_R_keepsAll (nI w) I J = some (0, I, J) ∧ ¬ Kpd d w S X u) := by
  have n1 : narrow .boolean (.int 1) = .int 1 := rfl
  have n0 : narrow .boolean (.int 0) = .int 0 := rfl
  have zz : ∀ (F c : Nat), 0 < F → c ≤ 22 → g_R_keepsAll F (nI w) 0 (nI c) I J = some (0, I, J) := fun F c hF hc => by
    obtain ⟨f, rfl⟩ : ∃ f, F = f + 1 := ⟨F - 1, by omega⟩
    show b_R_keepsAll_4 (g_R_keepsAll f) (nI w) 0 (nI c) I J = _
    unfold b_R_keepsAll_4
    rw [gd_of n0, if_pos rfl, ite_self]
  have loop : ∀ (t b : Nat), b + t = 22 → ∀ (F : Nat), t + 1 < F → (∀ c, c < b → S c → (lst c → rgt d w c * u ≤ sR (fun s => fac d c s * X s) (dn d)) ∧ (¬ lst c → sR (fun s => fac d c s * X s) (dn d) ≤ rgt d w c * u)) →
      (g_R_keepsAll F (nI w) 1 (nI b) I J = some (1, I, J) ∧ Kpd d w S X u) ∨ (g_R_keepsAll F (nI w) 1 (nI b) I J = some (0, I, J) ∧ ¬ Kpd d w S X u) := by
    intro t
    induction t with
    | zero =>
      intro b hb F hF hc
      obtain ⟨f, rfl⟩ : ∃ f, F = f + 1 := ⟨F - 1, by omega⟩
      have e : b = 22 := by omega
      subst e
      refine Or.inl ⟨?_, hc⟩
      show b_R_keepsAll_4 (g_R_keepsAll f) (nI w) 1 (nI 22) I J = _
      unfold b_R_keepsAll_4
      rw [if_pos (show (22 : Int32) ≤ nI 22 by decide), gd_of n1]
    | succ t ih =>
      intro b hb F hF hc
      obtain ⟨f, rfl⟩ : ∃ f, F = f + 1 := ⟨F - 1, by omega⟩
      have hb22 : b < 22 := by omega
      have vb : vin (nI b) 22 := vp_in_nI hb22 (by decide)
      have kb : (nI b).toNatClampNeg = b := nI_clamp (Nat.lt_trans hb22 (by decide))
      obtain ⟨o1, o2⟩ := over_le (b := b) hrg hw u0 u1 hX hb22
      have rest : ((lst b → S b → rgt d w b * u ≤ sR (fun s => fac d b s * X s) (dn d)) ∧ (¬ lst b → S b → sR (fun s => fac d b s * X s) (dn d) ≤ rgt d w b * u)) → ∀ c, c < b + 1 → S c → (lst c → rgt d w c * u ≤ sR (fun s => fac d c s * X s) (dn d)) ∧ (¬ lst c → sR (fun s => fac d c s * X s) (dn d) ≤ rgt d w c * u) := fun hh c c1 c2 => by
        by_cases e : c = b
        · subst e; exact ⟨fun l => hh.1 l c2, fun l => hh.2 l c2⟩
        · exact hc c (by omega) c2
      show (b_R_keepsAll_4 (g_R_keepsAll f) (nI w) 1 (nI b) I J = _ ∧ _) ∨ (b_R_keepsAll_4 (g_R_keepsAll f) (nI w) 1 (nI b) I J = _ ∧ _)
      unfold b_R_keepsAll_4
      rw [if_neg (show ¬ (22 : Int32) ≤ nI b from nI_ge (b := 22) hb22 (by decide)), if_neg (show ¬ (1 : Int32) = 0 by decide)]
      simp only [gd_of vb, nm, kb]
      rcases hS b hb22 with ⟨e, hs⟩ | ⟨e, hs⟩
      · rw [e, if_neg (show ¬ (1 : Int32) = 0 by decide), hu]
        simp only [r_over hrg h hw hb22 (Or.inl rfl) hJ, cl3, r_least b hb22, cl1, nI_1]
        have z6 : (0 : Int64) = i6 0 := i6_0
        by_cases l : lst b
        · have cl : lg_cmp (i6 (sR (fun s => fac d b s * X s) (dn d) - rgt d w b * u)) 0 < 0 ↔ sR (fun s => fac d b s * X s) (dn d) - rgt d w b * u < 0 := by rw [z6]; exact cmp_lt (by omega) (by omega) (by omega) (by omega)
          rw [if_pos l, if_neg (show ¬ (1 : Int32) = 0 by decide)]
          simp only [cl]
          by_cases c : sR (fun s => fac d b s * X s) (dn d) - rgt d w b * u < 0
          · rw [if_pos c, zz f (b + 1) (by omega) (by omega)]
            refine Or.inr ⟨rfl, fun hk => ?_⟩
            have := (hk b hb22 hs).1 l
            omega
          · rw [if_neg c]
            exact ih (b + 1) (by omega) f (by omega) (rest ⟨fun _ _ => by omega, fun q => absurd l q⟩)
        · have cg : 0 < lg_cmp (i6 (sR (fun s => fac d b s * X s) (dn d) - rgt d w b * u)) 0 ↔ 0 < sR (fun s => fac d b s * X s) (dn d) - rgt d w b * u := by rw [z6]; exact cmp_gt (by omega) (by omega) (by omega) (by omega)
          rw [if_neg l, if_pos rfl]
          simp only [cg]
          by_cases c : 0 < sR (fun s => fac d b s * X s) (dn d) - rgt d w b * u
          · rw [if_pos c, zz f (b + 1) (by omega) (by omega)]
            refine Or.inr ⟨rfl, fun hk => ?_⟩
            have := (hk b hb22 hs).2 l
            omega
          · rw [if_neg c]
            exact ih (b + 1) (by omega) f (by omega) (rest ⟨fun q => absurd q l, fun _ _ => by omega⟩)
      · rw [e, if_pos rfl, nI_1]
        exact ih (b + 1) (by omega) f (by omega) (rest ⟨fun _ q => absurd q hs, fun _ q => absurd q hs⟩)
  unfold m_R_keepsAll b_R_keepsAll_0
  exact loop 22 0 rfl fuel (by unfold fuel; omega) (fun c hc => by omega)
theorem lx_same {a b : Nat → Int} : ∀ (t s : Nat), (∀ i, s ≤ i → i < s + t → a i = b i) → ¬ lx a b s t
  | 0, _, _ => fun h => h
  | t + 1, s, he => by
    rintro (h | ⟨-, h⟩)
    · have := he s (Nat.le_refl s) (by omega); omega
    · exact lx_same t (s + 1) (fun i h1 h2 => he i (by omega) (by omega)) h
theorem lx_more {a b : Nat → Int} : ∀ (t s k : Nat), (∀ i, s + t ≤ i → i < s + t + k → a i = b i) → (lx a b s (t + k) ↔ lx a b s t)
  | 0, s, k, he => by
    rw [Nat.zero_add]
    exact ⟨fun h => absurd h (lx_same k s (fun i h1 h2 => he i (by omega) (by omega))), fun h => absurd h id⟩
  | t + 1, s, k, he => by
    rw [show t + 1 + k = (t + k) + 1 by omega]
    show (_ ∨ _ ∧ lx a b (s + 1) (t + k)) ↔ (_ ∨ _ ∧ lx a b (s + 1) t)
    rw [lx_more t (s + 1) k (fun i h1 h2 => he i (by omega) (by omega))]
theorem sum4_sR {pr A : Nat → Int} {m : Nat} (hm : m ≤ 4) (h : ∀ s, m ≤ s → s < 4 → A s = 0) : sum4 pr A = sR (fun s => pr s * A s) m := by
  unfold sum4
  have c : m = 0 ∨ m = 1 ∨ m = 2 ∨ m = 3 ∨ m = 4 := by omega
  rcases c with rfl | rfl | rfl | rfl | rfl
  · rw [h 0 (by omega) (by omega), h 1 (by omega) (by omega), h 2 (by omega) (by omega), h 3 (by omega) (by omega)]; simp [sR]
  · rw [h 1 (by omega) (by omega), h 2 (by omega) (by omega), h 3 (by omega) (by omega)]; simp [sR]
  · rw [h 2 (by omega) (by omega), h 3 (by omega) (by omega)]; simp [sR]
  · rw [h 3 (by omega) (by omega)]; simp [sR]
  · simp [sR]
theorem sR_4 {A : Nat → Int} {m : Nat} (hm : m ≤ 4) (h : ∀ s, m ≤ s → s < 4 → A s = 0) : A 0 + A 1 + A 2 + A 3 = sR A m := by
  have c : m = 0 ∨ m = 1 ∨ m = 2 ∨ m = 3 ∨ m = 4 := by omega
  rcases c with rfl | rfl | rfl | rfl | rfl
  · rw [h 0 (by omega) (by omega), h 1 (by omega) (by omega), h 2 (by omega) (by omega), h 3 (by omega) (by omega)]; simp [sR]
  · rw [h 1 (by omega) (by omega), h 2 (by omega) (by omega), h 3 (by omega) (by omega)]; simp [sR]
  · rw [h 2 (by omega) (by omega), h 3 (by omega) (by omega)]; simp [sR]
  · rw [h 3 (by omega) (by omega)]; simp [sR]
  · simp [sR]
theorem sQ_4 {A : Nat → Rat} {m : Nat} (hm : m ≤ 4) (h : ∀ s, m ≤ s → s < 4 → A s = 0) : A 0 + A 1 + A 2 + A 3 = sQ A m := by
  have c : m = 0 ∨ m = 1 ∨ m = 2 ∨ m = 3 ∨ m = 4 := by omega
  rcases c with rfl | rfl | rfl | rfl | rfl
  · rw [h 0 (by omega) (by omega), h 1 (by omega) (by omega), h 2 (by omega) (by omega), h 3 (by omega) (by omega)]; simp [sQ]; grind
  · rw [h 1 (by omega) (by omega), h 2 (by omega) (by omega), h 3 (by omega) (by omega)]; simp [sQ]; grind
  · rw [h 2 (by omega) (by omega), h 3 (by omega) (by omega)]; simp [sQ]; grind
  · rw [h 3 (by omega) (by omega)]; simp [sQ]; grind
  · simp [sQ]; grind
theorem btr_10 {pr A B : Nat → Int} {u v : Int} : btr pr (fun s => 10 * A s) u (some (fun s => 10 * B s, v)) ↔ btr pr A u (some (B, v)) := by
  have e : ∀ A : Nat → Int, sum4 pr (fun s => 10 * A s) = 10 * sum4 pr A := fun A => by unfold sum4; grind
  have e2 : ∀ (a c : Int), 10 * a * c = 10 * (a * c) := fun a c => Int.mul_assoc _ _ _
  show (sum4 pr (fun s => 10 * A s) * v < sum4 pr (fun s => 10 * B s) * u ∨ (sum4 pr (fun s => 10 * A s) * v = sum4 pr (fun s => 10 * B s) * u ∧ lx (fun i => 10 * A i * v) (fun i => 10 * B i * u) 0 4)) ↔ (sum4 pr A * v < sum4 pr B * u ∨ (sum4 pr A * v = sum4 pr B * u ∧ lx (fun i => A i * v) (fun i => B i * u) 0 4))
  rw [e, e]
  simp only [lx, e2, and_false, or_false]
  generalize sum4 pr A * v = a
  generalize sum4 pr B * u = b
  constructor
  · intro h; omega
  · intro h; omega
theorem isBetter_ok (hrg : Rg d) (h : ToR d I) {B : Nat → Int} {v : Int} (u0 : 0 < u) (u1 : u ≤ 384000) (v0 : 0 < v) (v1 : v ≤ 384000) (hX : ∀ s, s < 4 → -1000000000 ≤ X s ∧ X s ≤ 1000000000) (hB : ∀ s, s < 4 → -1000000000 ≤ B s ∧ B s ≤ 1000000000) (hX0 : ∀ s, dn d ≤ s → s < 4 → X s = 0) (hB0 : ∀ s, dn d ≤ s → s < 4 → B s = 0)
    (hJ : ∀ s, s < dn d → J 15 s = i6 (X s)) (hu : J 0 26 = i6 u) (hJ2 : ∀ s, s < dn d → J 17 s = i6 (B s)) (hv : J 0 30 = i6 v) :
    (m_R_isBetter I J = some (1, I, J) ∧ btr (prd d) X u (some (B, v))) ∨ (m_R_isBetter I J = some (0, I, J) ∧ ¬ btr (prd d) X u (some (B, v))) := by
  have hn := hrg.1
  have pp : ∀ i, i < 4 → 0 ≤ prd d i ∧ prd d i ≤ 1000 := fun i hi => by
    have := (hrg.2.1 i hi).1
    unfold prd
    omega
  have s1 := sum4_le pp hX
  have s2 := sum4_le pp hB
  have bd : ∀ (a c : Int), -4000000000000 ≤ a → a ≤ 4000000000000 → 0 < c → c ≤ 384000 → -1536000000000000000 ≤ a * c ∧ a * c ≤ 1536000000000000000 := fun a c h1 h2 h3 h4 => by
    have := mulAB (a := a) (A := 4000000000000) (b := c) (B := 384000) (by omega) (by omega) (by omega) (by omega)
    omega
  have fin : ∀ (F : Nat) (p q : Int) (s : Nat), s < 5 → 0 < F → -1536000000000000000 ≤ p ∧ p ≤ 1536000000000000000 → -1536000000000000000 ≤ q ∧ q ≤ 1536000000000000000 → (dn d ≤ s ∨ p ≠ q) → (p < q → g_R_isBetter F (i6 p) (i6 q) (nI s) I J = some (1, I, J)) ∧ (¬ p < q → g_R_isBetter F (i6 p) (i6 q) (nI s) I J = some (0, I, J)) := fun F p q s hs hF hp hq hc => by
    obtain ⟨f, rfl⟩ : ∃ f, F = f + 1 := ⟨F - 1, by omega⟩
    have cg : 0 ≤ lg_cmp (i6 p) (i6 q) ↔ q ≤ p := cmp_ge (by omega) (by omega) (by omega) (by omega)
    have ce : lg_cmp (i6 p) (i6 q) = 0 ↔ p = q := cmp_eq (by omega) (by omega) (by omega) (by omega)
    have st : g_R_isBetter (f + 1) (i6 p) (i6 q) (nI s) I J = if q ≤ p then some (0, I, J) else some (1, I, J) := by
      show b_R_isBetter_31 (g_R_isBetter f) (i6 p) (i6 q) (nI s) I J = _
      unfold b_R_isBetter_31
      rw [h.1]
      simp only [nm, cg, ce]
      by_cases c : dn d ≤ s
      · rw [if_pos (nI_le c (by omega))]
      · rw [if_neg (nI_ge (by omega) (by omega)), if_neg (hc.resolve_left c)]
    rw [st]
    exact ⟨fun c => by rw [if_neg (by omega)], fun c => by rw [if_pos (by omega)]⟩
  have loop : ∀ (t s : Nat), s + t = dn d → ∀ (F : Nat), t < F → ∀ (p q : Int), -1536000000000000000 ≤ p ∧ p ≤ 1536000000000000000 → -1536000000000000000 ≤ q ∧ q ≤ 1536000000000000000 →
      (g_R_isBetter F (i6 p) (i6 q) (nI s) I J = some (1, I, J) ∧ (p < q ∨ (p = q ∧ lx (fun i => X i * v) (fun i => B i * u) s t))) ∨ (g_R_isBetter F (i6 p) (i6 q) (nI s) I J = some (0, I, J) ∧ ¬ (p < q ∨ (p = q ∧ lx (fun i => X i * v) (fun i => B i * u) s t))) := by
    intro t
    induction t with
    | zero =>
      intro s hs F hF p q hp hq
      obtain ⟨f1, f2⟩ := fin F p q s (by omega) hF hp hq (Or.inl (by omega))
      by_cases c : p < q
      · exact Or.inl ⟨f1 c, Or.inl c⟩
      · refine Or.inr ⟨f2 c, ?_⟩
        rintro (z | ⟨-, z⟩)
        · exact c z
        · exact z
    | succ t ih =>
      intro s hs F hF p q hp hq
      by_cases e : p = q
      · obtain ⟨f, rfl⟩ : ∃ f, F = f + 1 := ⟨F - 1, by omega⟩
        have hs4 : s < 4 := by omega
        have vs : vin (nI s) 4 := vp_in_nI hs4 (by decide)
        have ks : (nI s).toNatClampNeg = s := nI_clamp (Nat.lt_trans hs4 (by decide))
        have ce : lg_cmp (i6 p) (i6 q) = 0 := (cmp_eq (by omega) (by omega) (by omega) (by omega)).mpr e
        have st : g_R_isBetter (f + 1) (i6 p) (i6 q) (nI s) I J = g_R_isBetter f (i6 (X s * v)) (i6 (B s * u)) (nI (s + 1)) I J := by
          show b_R_isBetter_31 (g_R_isBetter f) (i6 p) (i6 q) (nI s) I J = _
          unfold b_R_isBetter_31
          rw [h.1, if_neg (nI_ge (by omega) (by omega))]
          simp only [nm, ce, if_true, gd_of vs, ks, hJ s (by omega), hJ2 s (by omega), hu, hv, i6_mul, nI_1]
        have b1 := bd (X s) v (by have := hX s hs4; omega) (by have := hX s hs4; omega) v0 v1
        have b2 := bd (B s) u (by have := hB s hs4; omega) (by have := hB s hs4; omega) u0 u1
        rw [st]
        rcases ih (s + 1) (by omega) f (by omega) (X s * v) (B s * u) b1 b2 with ⟨g, k⟩ | ⟨g, k⟩
        · exact Or.inl ⟨g, Or.inr ⟨e, k⟩⟩
        · refine Or.inr ⟨g, ?_⟩
          rintro (z | ⟨-, z⟩)
          · omega
          · exact k z
      · obtain ⟨f1, f2⟩ := fin F p q s (by omega) (by omega) hp hq (Or.inr e)
        by_cases c : p < q
        · exact Or.inl ⟨f1 c, Or.inl c⟩
        · refine Or.inr ⟨f2 c, ?_⟩
          rintro (z | ⟨z, -⟩)
          · exact c z
          · exact e z
  have c1 := r_cost hrg h (Or.inl rfl) hJ
  have c2 := r_cost hrg h (Or.inr rfl) hJ2
  rw [← sum4_sR hn hX0] at c1
  rw [← sum4_sR hn hB0] at c2
  unfold m_R_isBetter b_R_isBetter_0
  simp only [c1, c2, cl3, nm, hu, hv, i6_mul]
  have e : btr (prd d) X u (some (B, v)) ↔ (sum4 (prd d) X * v < sum4 (prd d) B * u ∨ (sum4 (prd d) X * v = sum4 (prd d) B * u ∧ lx (fun i => X i * v) (fun i => B i * u) 0 (dn d))) := by
    show (_ ∨ _ ∧ lx _ _ 0 4) ↔ _
    have := lx_more (a := fun i => X i * v) (b := fun i => B i * u) (dn d) 0 (4 - dn d) (fun i h1 h2 => by
      show X i * v = B i * u
      rw [hX0 i (by omega) (by omega), hB0 i (by omega) (by omega), Int.zero_mul, Int.zero_mul])
    rw [show dn d + (4 - dn d) = 4 by omega] at this
    rw [this]
  rw [e]
  exact loop (dn d) 0 (by omega) fuel (by unfold fuel; omega) _ _ (bd _ _ s1.1 s1.2 v0 v1) (bd _ _ s2.1 s2.2 u0 u1)
end KD
