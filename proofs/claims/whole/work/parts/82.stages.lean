/-! The elimination's stages: what stands in the rows. -/
def d2 (b : Nat → Nat → Int) (i j : Nat) : Int := b 1 i * b 2 j - b 1 j * b 2 i
def d3 (b : Nat → Nat → Int) (i j k : Nat) : Int := b 3 i * d2 b j k - b 3 j * d2 b i k + b 3 k * d2 b i j
def oR (R : Int) (k : Nat) : Int := if k = 4 then R else 1
def E1 (b : Nat → Nat → Int) (R : Int) (r k : Nat) : Int := if r = 0 then oR R k else b r k
def E2 (b : Nat → Nat → Int) (R : Int) (r k : Nat) : Int := if r = 0 then oR R k * b 1 1 - b 1 k else if r = 1 then b 1 k else b r k * b 1 1 - b r 1 * b 1 k
def E3 (b : Nat → Nat → Int) (R : Int) (r k : Nat) : Int := if r = 0 then oR R k * d2 b 1 2 - d2 b k 2 - d2 b 1 k else if r = 1 then d2 b k 2 else if r = 2 then d2 b 1 k else d3 b 1 2 k
def E4 (b : Nat → Nat → Int) (R : Int) (r : Nat) : Int := if r = 0 then R * d3 b 1 2 3 - d3 b 4 2 3 - d3 b 1 4 3 - d3 b 1 2 4 else if r = 1 then d3 b 4 2 3 else if r = 2 then d3 b 1 4 3 else d3 b 1 2 4
def sB (f : Nat → Rat) : Nat → Rat
  | 0 => 0
  | 1 => 0
  | n + 2 => sB f (n + 1) + f (n + 1)
def Bok (n : Nat) (b : Nat → Nat → Int) : Prop := ∀ r, 1 ≤ r → r < n → (∀ k, 1 ≤ k → k < n → -40 ≤ b r k ∧ b r k ≤ 40) ∧ -16000 ≤ b r 4 ∧ b r 4 ≤ 16000
def Sol (n : Nat) (b : Nat → Nat → Int) (y : Nat → Rat) : Prop := ∀ r, 1 ≤ r → r < n → sB (fun k => (b r k : Rat) * y k) n = (b r 4 : Rat)
def Nul (n : Nat) (b : Nat → Nat → Int) (v : Nat → Rat) : Prop := ∀ r, 1 ≤ r → r < n → sB (fun k => (b r k : Rat) * v k) n = 0
def Same (n : Nat) (b b' : Nat → Nat → Int) : Prop := Bok n b' ∧ (∀ y, Sol n b y → Sol n b' y) ∧ ∀ v, Nul n b' v → Nul n b v
theorem sB_neg (f : Nat → Rat) : ∀ n, sB (fun k => -f k) n = -sB f n
  | 0 => by show (0 : Rat) = -0; grind
  | 1 => by show (0 : Rat) = -0; grind
  | n + 2 => by
    show sB (fun k => -f k) (n + 1) + -f (n + 1) = -(sB f (n + 1) + f (n + 1))
    rw [sB_neg f (n + 1)]
    grind
theorem sB_row (b : Nat → Nat → Int) (r : Nat) (y : Nat → Rat) (n : Nat) : sB (fun k => ((-b r k : Int) : Rat) * y k) n = -sB (fun k => (b r k : Rat) * y k) n := by
  rw [← sB_neg]
  congr 1
  funext k
  rw [Rat.intCast_neg]
  grind
theorem Same_sw {n c p : Nat} {b : Nat → Nat → Int} (h : Bok n b) (hc : 1 ≤ c) (hcp : c ≤ p) (hp : p < n) : Same n b (sw b c p) := by
  by_cases e : p = c
  · have ee : sw b c p = b := by
      funext r k
      unfold sw
      rw [if_pos e]
    rw [ee]
    exact ⟨h, fun _ z => z, fun _ z => z⟩
  · have rp : ∀ k, sw b c p p k = b c k := fun k => by unfold sw; rw [if_neg e, if_pos rfl]
    have rc : ∀ k, sw b c p c k = -b p k := fun k => by unfold sw; rw [if_neg e, if_neg (fun z => e z.symm), if_pos rfl]
    have ro : ∀ r, r ≠ p → r ≠ c → ∀ k, sw b c p r k = b r k := fun r h1 h2 k => by unfold sw; rw [if_neg e, if_neg h1, if_neg h2]
    refine ⟨fun r h1 h2 => ?_, fun y hy r h1 h2 => ?_, fun v hv r h1 h2 => ?_⟩
    · by_cases e1 : r = p
      · subst e1
        simp only [rp]
        exact h c hc (by omega)
      · by_cases e2 : r = c
        · subst e2
          simp only [rc]
          have := h p (by omega) hp
          exact ⟨fun k k1 k2 => by have := this.1 k k1 k2; omega, by omega, by omega⟩
        · simp only [ro r e1 e2]
          exact h r h1 h2
    · by_cases e1 : r = p
      · subst e1
        simp only [rp]
        exact hy c hc (by omega)
      · by_cases e2 : r = c
        · subst e2
          simp only [rc]
          rw [sB_row, hy p (by omega) hp, Rat.intCast_neg]
        · simp only [ro r e1 e2]
          exact hy r h1 h2
    · by_cases e1 : r = p
      · subst e1
        have := hv c hc (by omega)
        simp only [rc] at this
        rw [sB_row] at this
        grind
      · by_cases e2 : r = c
        · subst e2
          have := hv p (by omega) hp
          simp only [rp] at this
          exact this
        · have := hv r h1 h2
          simp only [ro r e1 e2] at this
          exact this
theorem Same_trans {n : Nat} {b b' b2 : Nat → Nat → Int} (h : Same n b b') (h2 : Same n b' b2) : Same n b b2 := ⟨h2.1, fun y z => h2.2.1 y (h.2.1 y z), fun v z => h.2.2 v (h2.2.2 v z)⟩
theorem swE1 {b : Nat → Nat → Int} {R : Int} {p : Nat} (hp : 1 ≤ p) (r k : Nat) : sw (E1 b R) 1 p r k = E1 (sw b 1 p) R r k := by
  unfold sw E1
  by_cases e : p = 1
  · simp only [if_pos e]
  · simp only [if_neg e, if_neg (show ¬ p = 0 by omega), if_neg (show ¬ (1 = 0) by omega)]
    by_cases e0 : r = 0
    · simp only [if_pos e0, if_neg (show ¬ r = p by omega), if_neg (show ¬ r = 1 by omega)]
    · simp only [if_neg e0]
theorem swE2 {b : Nat → Nat → Int} {R : Int} {p : Nat} (hp : 2 ≤ p) (r k : Nat) : sw (E2 b R) 2 p r k = E2 (sw b 2 p) R r k := by
  by_cases e : p = 2
  · unfold sw E2
    simp only [if_pos e]
  · have s1 : ∀ j, sw b 2 p 1 j = b 1 j := fun j => by unfold sw; rw [if_neg e, if_neg (by omega), if_neg (by omega)]
    unfold E2
    rw [s1, s1]
    by_cases e0 : r = 0
    · subst e0
      unfold sw
      rw [if_neg e, if_neg (by omega), if_neg (by omega)]
      rfl
    · by_cases e1 : r = 1
      · subst e1
        unfold sw
        rw [if_neg e, if_neg (by omega), if_neg (by omega)]
        rfl
      · rw [if_neg e0, if_neg e1]
        unfold sw
        simp only [if_neg e]
        by_cases ep : r = p
        · simp only [if_pos ep, if_neg (show ¬ (2 = 0) by omega), if_neg (show ¬ (2 = 1) by omega)]
        · by_cases e2 : r = 2
          · simp only [if_neg ep, if_pos e2, if_neg (show ¬ p = 0 by omega), if_neg (show ¬ p = 1 by omega)]
            rw [Int.neg_mul, Int.neg_mul]
            omega
          · simp only [if_neg ep, if_neg e2, if_neg e0, if_neg e1]
theorem sw_c {e : Nat → Nat → Int} {c p : Nat} (h : e p c ≠ 0) : sw e c p c c ≠ 0 := by
  unfold sw
  split
  · next z => subst z; exact h
  · rw [if_neg (show ¬ c = p by omega), if_pos rfl]
    omega
section STG
variable {I : SI} {x1 : Int32} {n : Nat} {b : Nat → Nat → Int} {R : Int}
theorem oR_le (hR : -200 ≤ R ∧ R ≤ 200) (k : Nat) : -200 ≤ oR R k ∧ oR R k ≤ 200 := by unfold oR; split <;> omega
theorem E1_le (h : Bok n b) (hR : -200 ≤ R ∧ R ≤ 200) {r k : Nat} (hr : r < n) (hV : k = 4 ∨ (1 ≤ k ∧ k < n)) : -1000000000 ≤ E1 b R r k ∧ E1 b R r k ≤ 1000000000 := by
  unfold E1
  split
  · have := oR_le hR k; omega
  · have := h r (by omega) hr
    rcases hV with rfl | hV
    · omega
    · have := this.1 k hV.1 hV.2; omega
theorem b_le (h : Bok n b) {r k : Nat} (h1 : 1 ≤ r) (hr : r < n) (hV : k = 4 ∨ (1 ≤ k ∧ k < n)) : -16000 ≤ b r k ∧ b r k ≤ 16000 := by
  have := h r h1 hr
  rcases hV with rfl | hV
  · omega
  · have := this.1 k hV.1 hV.2; omega
theorem E2_le (h : Bok n b) (hR : -200 ≤ R ∧ R ≤ 200) (hn : 2 ≤ n) {r k : Nat} (hr : r < n) (hV : k = 4 ∨ (2 ≤ k ∧ k < n)) : -1000000000 ≤ E2 b R r k ∧ E2 b R r k ≤ 1000000000 := by
  have hV1 : k = 4 ∨ (1 ≤ k ∧ k < n) := hV.imp id (fun z => ⟨by omega, z.2⟩)
  have b11 := (h 1 (by omega) (by omega)).1 1 (by omega) (by omega)
  have b1k := b_le h (show 1 ≤ 1 by omega) (by omega) hV1
  unfold E2
  split
  · have o := oR_le hR k
    have m := mulAB (a := oR R k) (A := 200) (b := b 1 1) (B := 40) (by omega) (by omega) (by omega) (by omega)
    omega
  · split
    · omega
    · have brk := b_le h (show 1 ≤ r by omega) hr hV1
      have br1 := (h r (by omega) hr).1 1 (by omega) (by omega)
      have m1 := mulAB (a := b r k) (A := 16000) (b := b 1 1) (B := 40) (by omega) (by omega) (by omega) (by omega)
      have m2 := mulAB (a := b r 1) (A := 40) (b := b 1 k) (B := 16000) (by omega) (by omega) (by omega) (by omega)
      omega
theorem d2_s (h : Bok n b) (hn : 3 ≤ n) {i j : Nat} (hi : 1 ≤ i ∧ i < n) (hj : 1 ≤ j ∧ j < n) : -3200 ≤ d2 b i j ∧ d2 b i j ≤ 3200 := by
  have r1 := h 1 (by omega) (by omega)
  have r2 := h 2 (by omega) (by omega)
  have a := r1.1 i hi.1 hi.2
  have a' := r1.1 j hj.1 hj.2
  have c := r2.1 i hi.1 hi.2
  have c' := r2.1 j hj.1 hj.2
  have m1 := mulAB (a := b 1 i) (A := 40) (b := b 2 j) (B := 40) (by omega) (by omega) (by omega) (by omega)
  have m2 := mulAB (a := b 1 j) (A := 40) (b := b 2 i) (B := 40) (by omega) (by omega) (by omega) (by omega)
  unfold d2
  omega
theorem d2_neg (b : Nat → Nat → Int) (i j : Nat) : d2 b j i = -d2 b i j := by unfold d2; omega
theorem d2_4 (h : Bok n b) (hn : 3 ≤ n) {i : Nat} (hi : 1 ≤ i ∧ i < n) : -1280000 ≤ d2 b i 4 ∧ d2 b i 4 ≤ 1280000 := by
  have r1 := h 1 (by omega) (by omega)
  have r2 := h 2 (by omega) (by omega)
  have a := r1.1 i hi.1 hi.2
  have c := r2.1 i hi.1 hi.2
  have m1 := mulAB (a := b 1 i) (A := 40) (b := b 2 4) (B := 16000) (by omega) (by omega) (by omega) (by omega)
  have m2 := mulAB (a := b 1 4) (A := 16000) (b := b 2 i) (B := 40) (by omega) (by omega) (by omega) (by omega)
  unfold d2
  omega
theorem d2_k (h : Bok n b) (hn : 3 ≤ n) {i k : Nat} (hi : 1 ≤ i ∧ i < n) (hV : k = 4 ∨ (1 ≤ k ∧ k < n)) : (-1280000 ≤ d2 b i k ∧ d2 b i k ≤ 1280000) ∧ -1280000 ≤ d2 b k i ∧ d2 b k i ≤ 1280000 := by
  have e := d2_neg b i k
  rcases hV with rfl | hV
  · have := d2_4 h hn hi; omega
  · have := d2_s h hn hi hV; omega
theorem d3_s (h : Bok 4 b) {i j k : Nat} (hi : 1 ≤ i ∧ i < 4) (hj : 1 ≤ j ∧ j < 4) (hk : 1 ≤ k ∧ k < 4) : -384000 ≤ d3 b i j k ∧ d3 b i j k ≤ 384000 := by
  have r3 := (h 3 (by omega) (by omega)).1
  have ai := r3 i hi.1 hi.2
  have aj := r3 j hj.1 hj.2
  have ak := r3 k hk.1 hk.2
  have c1 := d2_s h (by omega) hj hk
  have c2 := d2_s h (by omega) hi hk
  have c3 := d2_s h (by omega) hi hj
  have m1 := mulAB (a := b 3 i) (A := 40) (b := d2 b j k) (B := 3200) (by omega) (by omega) (by omega) (by omega)
  have m2 := mulAB (a := b 3 j) (A := 40) (b := d2 b i k) (B := 3200) (by omega) (by omega) (by omega) (by omega)
  have m3 := mulAB (a := b 3 k) (A := 40) (b := d2 b i j) (B := 3200) (by omega) (by omega) (by omega) (by omega)
  unfold d3
  omega
theorem d3_4 (h : Bok 4 b) {i j : Nat} (hi : 1 ≤ i ∧ i < 4) (hj : 1 ≤ j ∧ j < 4) : -153600000 ≤ d3 b i j 4 ∧ d3 b i j 4 ≤ 153600000 := by
  have r3 := h 3 (by omega) (by omega)
  have ai := r3.1 i hi.1 hi.2
  have aj := r3.1 j hj.1 hj.2
  have c1 := d2_4 h (by omega) hj
  have c2 := d2_4 h (by omega) hi
  have c3 := d2_s h (by omega) hi hj
  have m1 := mulAB (a := b 3 i) (A := 40) (b := d2 b j 4) (B := 1280000) (by omega) (by omega) (by omega) (by omega)
  have m2 := mulAB (a := b 3 j) (A := 40) (b := d2 b i 4) (B := 1280000) (by omega) (by omega) (by omega) (by omega)
  have m3 := mulAB (a := b 3 4) (A := 16000) (b := d2 b i j) (B := 3200) (by omega) (by omega) (by omega) (by omega)
  unfold d3
  omega
theorem d3_a (b : Nat → Nat → Int) (i j k : Nat) : d3 b i k j = -d3 b i j k := by unfold d3 d2; grind
theorem d3_b (b : Nat → Nat → Int) (i j k : Nat) : d3 b k i j = d3 b i j k := by unfold d3 d2; grind
theorem E3_le (h : Bok n b) (hR : -200 ≤ R ∧ R ≤ 200) (hn : 3 ≤ n) (hn4 : n ≤ 4) {r k : Nat} (hr : r < n) (hV : k = 4 ∨ (3 ≤ k ∧ k < n)) : -1000000000 ≤ E3 b R r k ∧ E3 b R r k ≤ 1000000000 := by
  have hV1 : k = 4 ∨ (1 ≤ k ∧ k < n) := hV.imp id (fun z => ⟨by omega, z.2⟩)
  have c12 := d2_s h hn (show 1 ≤ 1 ∧ 1 < n by omega) (show 1 ≤ 2 ∧ 2 < n by omega)
  have ck2 := (d2_k h hn (show 1 ≤ 2 ∧ 2 < n by omega) hV1).2
  have c1k := (d2_k h hn (show 1 ≤ 1 ∧ 1 < n by omega) hV1).1
  unfold E3
  split
  · have o := oR_le hR k
    have m := mulAB (a := oR R k) (A := 200) (b := d2 b 1 2) (B := 3200) (by omega) (by omega) (by omega) (by omega)
    omega
  · split
    · omega
    · split
      · omega
      · have e4 : n = 4 := by omega
        subst e4
        rcases hV with rfl | hV
        · have := d3_4 h (show 1 ≤ 1 ∧ 1 < 4 by omega) (show 1 ≤ 2 ∧ 2 < 4 by omega); omega
        · have := d3_s h (show 1 ≤ 1 ∧ 1 < 4 by omega) (show 1 ≤ 2 ∧ 2 < 4 by omega) (show 1 ≤ k ∧ k < 4 by omega); omega
theorem E4_le (h : Bok 4 b) (hR : -200 ≤ R ∧ R ≤ 200) (r : Nat) : -1000000000 ≤ E4 b R r ∧ E4 b R r ≤ 1000000000 := by
  have a := d3_s h (show 1 ≤ 1 ∧ 1 < 4 by omega) (show 1 ≤ 2 ∧ 2 < 4 by omega) (show 1 ≤ 3 ∧ 3 < 4 by omega)
  have c1 := d3_4 h (show 1 ≤ 2 ∧ 2 < 4 by omega) (show 1 ≤ 3 ∧ 3 < 4 by omega)
  have c2 := d3_4 h (show 1 ≤ 1 ∧ 1 < 4 by omega) (show 1 ≤ 3 ∧ 3 < 4 by omega)
  have c3 := d3_4 h (show 1 ≤ 1 ∧ 1 < 4 by omega) (show 1 ≤ 2 ∧ 2 < 4 by omega)
  have e1 := d3_b b 2 3 4
  have e2 := d3_a b 1 3 4
  have m := mulAB (a := R) (A := 200) (b := d3 b 1 2 3) (B := 384000) (by omega) (by omega) (by omega) (by omega)
  unfold E4
  split
  · omega
  · split
    · omega
    · split <;> omega
/-- what the rows hold from column c on -/
def Rws (n c : Nat) (e : Nat → Nat → Int) (J : SJ) : Prop := ∀ r, r < n → ∀ k, k < 5 → (k = 4 ∨ (c ≤ k ∧ k < n)) → J 14 (5 * r + k) = i6 (e r k)
theorem stg2 (hn2 : 2 ≤ n) (hn : n ≤ 4) (h : Bok n b) (hR : -200 ≤ R ∧ R ≤ 200) {J : SJ} (hJ : Rws n 1 (E1 b R) J) (F : Nat) (hF : 100 < F) :
    (∃ (b' : Nat → Nat → Int) (F2 : Nat) (J2 : SJ), Same n b b' ∧ b' 1 1 ≠ 0 ∧ F ≤ F2 + 50 ∧ s180 F x1 (nI n) (i6 1) (nI 1) I J = s180 F2 x1 (nI n) (i6 (b' 1 1)) (nI 2) I J2 ∧ Rws n 2 (E2 b' R) J2 ∧ ∀ m, m ≠ 14 → J2 m = J m) ∨
    ((∃ v, Nul n b v ∧ ∃ k, 1 ≤ k ∧ k < n ∧ v k ≠ 0) ∧ s180 F x1 (nI n) (i6 1) (nI 1) I J = some (0, I, J)) := by
  rcases el_step (x1 := x1) (I := I) (c := 1) (n := n) (by omega) hn (l := 1) (e := E1 b R) (by omega) (by omega) (by omega) (J := J) (fun r hr k hk hV => ⟨hJ r hr k hk hV, E1_le h hR hr hV⟩) (fun p r k => E2 (sw b 1 p) R r k) (fun p hp hpn hne _ r hr hrc k hk hV => by
      have S := (Same_sw h (show 1 ≤ 1 by omega) hp hpn).1
      rw [swE1 hp, swE1 hp, swE1 hp, swE1 hp]
      refine ⟨?_, E2_le S hR hn2 hr hV⟩
      have e11 : E1 (sw b 1 p) R 1 1 = sw b 1 p 1 1 := by unfold E1; rw [if_neg (by omega)]
      have e1k : E1 (sw b 1 p) R 1 k = sw b 1 p 1 k := by unfold E1; rw [if_neg (by omega)]
      rw [e11, e1k]
      unfold E1 E2
      by_cases e0 : r = 0
      · subst e0
        rw [if_pos rfl, if_pos rfl, if_pos rfl]
        have : oR R 1 = 1 := by unfold oR; rw [if_neg (by omega)]
        rw [this]
        omega
      · rw [if_neg e0, if_neg e0, if_neg e0, if_neg hrc, Int.one_mul]) F hF with ⟨p, F2, J2, a1, a2, a3, a4, a5, a6, a7, a8, -⟩ | ⟨a1, a2⟩
  · refine Or.inl ⟨sw b 1 p, F2, J2, Same_sw h (by omega) a1 a2, ?_, a4, ?_, ?_, a8⟩
    · have := sw_c a3
      rw [swE1 a1] at this
      unfold E1 at this
      rw [if_neg (by omega)] at this
      exact this
    · rw [a5, swE1 a1]
      rfl
    · intro r hr k hk hV
      by_cases e1 : r = 1
      · subst e1
        rw [a7 k hk hV, swE1 a1]
        rfl
      · exact a6 r hr e1 k hk hV
  · refine Or.inr ⟨⟨fun k => if k = 1 then 1 else 0, fun r h1 h2 => ?_, 1, by omega, by omega, by show ¬ (1 : Rat) = 0; decide⟩, a2⟩
    have hz := a1 r h1 h2
    unfold E1 at hz
    rw [if_neg (by omega)] at hz
    have z1 : ((b r 1 : Int) : Rat) = 0 := by rw [hz]; rfl
    have hn3 : n = 2 ∨ n = 3 ∨ n = 4 := by omega
    rcases hn3 with rfl | rfl | rfl
    · show 0 + (b r 1 : Rat) * 1 = 0
      grind
    · show 0 + (b r 1 : Rat) * 1 + (b r 2 : Rat) * 0 = 0
      grind
    · show 0 + (b r 1 : Rat) * 1 + (b r 2 : Rat) * 0 + (b r 3 : Rat) * 0 = 0
      grind
theorem stg3 (hn3 : 3 ≤ n) (hn : n ≤ 4) (h : Bok n b) (hR : -200 ≤ R ∧ R ≤ 200) (h11 : b 1 1 ≠ 0) {J : SJ} (hJ : Rws n 2 (E2 b R) J) (F : Nat) (hF : 100 < F) :
    (∃ (b' : Nat → Nat → Int) (F2 : Nat) (J2 : SJ), Same n b b' ∧ d2 b' 1 2 ≠ 0 ∧ F ≤ F2 + 50 ∧ s180 F x1 (nI n) (i6 (b 1 1)) (nI 2) I J = s180 F2 x1 (nI n) (i6 (d2 b' 1 2)) (nI 3) I J2 ∧ Rws n 3 (E3 b' R) J2 ∧ ∀ m, m ≠ 14 → J2 m = J m) ∨
    ((∃ v, Nul n b v ∧ ∃ k, 1 ≤ k ∧ k < n ∧ v k ≠ 0) ∧ s180 F x1 (nI n) (i6 (b 1 1)) (nI 2) I J = some (0, I, J)) := by
  have b11 := (h 1 (by omega) (by omega)).1 1 (by omega) (by omega)
  have s1 : ∀ p, 2 ≤ p → ∀ j, sw b 2 p 1 j = b 1 j := fun p hp j => by
    unfold sw
    split
    · rfl
    · rw [if_neg (by omega), if_neg (by omega)]
  have e22 : ∀ b' : Nat → Nat → Int, E2 b' R 2 2 = d2 b' 1 2 := fun b' => by
    unfold E2 d2
    rw [if_neg (by omega), if_neg (by omega), Int.mul_comm (b' 2 2), Int.mul_comm (b' 2 1)]
  have e2k : ∀ (b' : Nat → Nat → Int) (k : Nat), E2 b' R 2 k = d2 b' 1 k := fun b' k => by
    unfold E2 d2
    rw [if_neg (by omega), if_neg (by omega), Int.mul_comm (b' 2 k), Int.mul_comm (b' 2 1)]
  rcases el_step (x1 := x1) (I := I) (c := 2) (n := n) (by omega) hn (l := b 1 1) (e := E2 b R) h11 (by omega) (by omega) (J := J) (fun r hr k hk hV => ⟨hJ r hr k hk hV, E2_le h hR (by omega) hr hV⟩) (fun p r k => E3 (sw b 2 p) R r k) (fun p hp hpn hne _ r hr hrc k hk hV => by
      have S := (Same_sw h (show 1 ≤ 2 by omega) hp hpn).1
      rw [swE2 hp, swE2 hp, swE2 hp, swE2 hp]
      refine ⟨?_, E3_le S hR hn3 hn hr hV⟩
      rw [← s1 p hp 1]
      generalize sw b 2 p = b'
      rw [e22, e2k]
      by_cases e0 : r = 0
      · subst e0
        unfold E2 E3
        rw [if_pos rfl, if_pos rfl, if_pos rfl]
        have : oR R 2 = 1 := by unfold oR; rw [if_neg (by omega)]
        rw [this]
        unfold d2
        grind
      · by_cases e1 : r = 1
        · subst e1
          unfold E2 E3 d2
          simp
          grind
        · have e3 : r = 3 := by omega
          subst e3
          unfold E2 E3 d3 d2
          simp
          grind) F hF with ⟨p, F2, J2, a1, a2, a3, a4, a5, a6, a7, a8, -⟩ | ⟨a1, a2⟩
  · refine Or.inl ⟨sw b 2 p, F2, J2, Same_sw h (by omega) a1 a2, ?_, a4, ?_, ?_, a8⟩
    · have := sw_c a3
      rw [swE2 a1, e22] at this
      exact this
    · rw [a5, swE2 a1, e22]
    · intro r hr k hk hV
      by_cases e1 : r = 2
      · subst e1
        rw [a7 k hk hV, swE2 a1, e2k]
        rfl
      · exact a6 r hr e1 k hk hV
  · refine Or.inr ⟨⟨fun k => if k = 1 then -(b 1 2 : Rat) else if k = 2 then (b 1 1 : Rat) else 0, fun r h1 h2 => ?_, 2, by omega, by omega, ?_⟩, a2⟩
    · have hz : r = 1 ∨ (b r 2 : Rat) * (b 1 1 : Rat) - (b r 1 : Rat) * (b 1 2 : Rat) = 0 := by
        by_cases e1 : r = 1
        · exact Or.inl e1
        · right
          have hz := a1 r (by omega) h2
          unfold E2 at hz
          rw [if_neg (by omega), if_neg e1] at hz
          rw [← Rat.intCast_mul, ← Rat.intCast_mul, ← Rat.intCast_sub, hz]
          rfl
      have hn2 : n = 3 ∨ n = 4 := by omega
      rcases hn2 with rfl | rfl
      · show 0 + (b r 1 : Rat) * -(b 1 2 : Rat) + (b r 2 : Rat) * (b 1 1 : Rat) = 0
        rcases hz with rfl | hz <;> grind
      · show 0 + (b r 1 : Rat) * -(b 1 2 : Rat) + (b r 2 : Rat) * (b 1 1 : Rat) + (b r 3 : Rat) * 0 = 0
        rcases hz with rfl | hz <;> grind
    · show ¬ (if 2 = 1 then -(b 1 2 : Rat) else if 2 = 2 then (b 1 1 : Rat) else 0) = 0
      rw [if_neg (by omega), if_pos rfl]
      exact fun z => h11 (Rat.intCast_eq_zero_iff.mp z)
theorem stg4 (h : Bok 4 b) (hR : -200 ≤ R ∧ R ≤ 200) (h12 : d2 b 1 2 ≠ 0) {J : SJ} (hJ : Rws 4 3 (E3 b R) J) (F : Nat) (hF : 100 < F) :
    (∃ (F2 : Nat) (J2 : SJ), d3 b 1 2 3 ≠ 0 ∧ F ≤ F2 + 50 ∧ s180 F x1 (nI 4) (i6 (d2 b 1 2)) (nI 3) I J = s180 F2 x1 (nI 4) (i6 (d3 b 1 2 3)) (nI 4) I J2 ∧ (∀ r, r < 4 → J2 14 (5 * r + 4) = i6 (E4 b R r)) ∧ ∀ m, m ≠ 14 → J2 m = J m) ∨
    ((∃ v, Nul 4 b v ∧ ∃ k, 1 ≤ k ∧ k < 4 ∧ v k ≠ 0) ∧ s180 F x1 (nI 4) (i6 (d2 b 1 2)) (nI 3) I J = some (0, I, J)) := by
  have c12 := d2_s h (by omega) (show 1 ≤ 1 ∧ 1 < 4 by omega) (show 1 ≤ 2 ∧ 2 < 4 by omega)
  have swe : ∀ p, 3 ≤ p → p < 4 → sw (E3 b R) 3 p = E3 b R := fun p h1 h2 => by
    funext r k
    unfold sw
    rw [if_pos (by omega)]
  have e33 : ∀ k, E3 b R 3 k = d3 b 1 2 k := fun k => by unfold E3; rw [if_neg (by omega), if_neg (by omega), if_neg (by omega)]
  rcases el_step (x1 := x1) (I := I) (c := 3) (n := 4) (by omega) (by omega) (l := d2 b 1 2) (e := E3 b R) h12 (by omega) (by omega) (J := J) (fun r hr k hk hV => ⟨hJ r hr k hk hV, E3_le h hR (by omega) (by omega) hr hV⟩) (fun p r k => E4 b R r) (fun p hp hpn hne _ r hr hrc k hk hV => by
      have k4 : k = 4 := by omega
      subst k4
      rw [swe p hp hpn, e33, e33]
      refine ⟨?_, E4_le h hR r⟩
      have o3 : oR R 3 = 1 := by unfold oR; rw [if_neg (by omega)]
      have o4 : oR R 4 = R := by unfold oR; rw [if_pos rfl]
      have hr3 : r = 0 ∨ r = 1 ∨ r = 2 := by omega
      rcases hr3 with rfl | rfl | rfl
      · unfold E3 E4
        rw [if_pos rfl, if_pos rfl, if_pos rfl, o3, o4]
        unfold d3 d2
        grind
      · unfold E3 E4
        simp
        unfold d3 d2
        grind
      · unfold E3 E4
        simp
        unfold d3 d2
        grind) F hF with ⟨p, F2, J2, a1, a2, a3, a4, a5, a6, a7, a8, -⟩ | ⟨a1, a2⟩
  · refine Or.inl ⟨F2, J2, ?_, a4, ?_, fun r hr => ?_, a8⟩
    · have hp : p = 3 := by omega
      subst hp
      rw [e33] at a3
      exact a3
    · rw [a5, swe p a1 a2, e33]
    · by_cases e1 : r = 3
      · subst e1
        rw [a7 4 (by omega) (Or.inl rfl), swe p a1 a2, e33]
        rfl
      · exact a6 r hr e1 4 (by omega) (Or.inl rfl)
  · refine Or.inr ⟨⟨fun k => if k = 1 then -((d2 b 3 2 : Int) : Rat) else if k = 2 then -((d2 b 1 3 : Int) : Rat) else ((d2 b 1 2 : Int) : Rat), fun r h1 h2 => ?_, 3, by omega, by omega, ?_⟩, a2⟩
    · show 0 + (b r 1 : Rat) * -((d2 b 3 2 : Int) : Rat) + (b r 2 : Rat) * -((d2 b 1 3 : Int) : Rat) + (b r 3 : Rat) * ((d2 b 1 2 : Int) : Rat) = 0
      have hz := a1 3 (by omega) (by omega)
      rw [e33] at hz
      have hr3 : r = 1 ∨ r = 2 ∨ r = 3 := by omega
      rcases hr3 with rfl | rfl | rfl
      · unfold d2
        rw [Rat.intCast_sub, Rat.intCast_sub, Rat.intCast_sub]
        simp only [Rat.intCast_mul]
        grind
      · unfold d2
        rw [Rat.intCast_sub, Rat.intCast_sub, Rat.intCast_sub]
        simp only [Rat.intCast_mul]
        grind
      · have z : ((d3 b 1 2 3 : Int) : Rat) = 0 := by rw [hz]; rfl
        unfold d3 at z
        rw [Rat.intCast_add, Rat.intCast_sub, Rat.intCast_mul, Rat.intCast_mul, Rat.intCast_mul] at z
        have e := congrArg (fun t : Int => (t : Rat)) (d2_neg b 2 3)
        simp only [Rat.intCast_neg] at e
        grind
    · show ¬ (if 3 = 1 then -((d2 b 3 2 : Int) : Rat) else if 3 = 2 then -((d2 b 1 3 : Int) : Rat) else ((d2 b 1 2 : Int) : Rat)) = 0
      rw [if_neg (by omega), if_neg (by omega)]
      exact fun z => h12 (Rat.intCast_eq_zero_iff.mp z)
end STG
