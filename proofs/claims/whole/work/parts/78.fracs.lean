/-! Fractions in lowest terms. -/
theorem i6_mod {a b : Nat} (ha : a < 2 ^ 62) (hb : 0 < b) (hb2 : b < 2 ^ 62) : i6 (a : Int) - i6 (a : Int) / i6 (b : Int) * i6 (b : Int) = i6 ((a % b : Nat) : Int) := by
  have e : (a : Int) / (b : Int) = ((a / b : Nat) : Int) := rfl
  rw [i6_div (by omega) (by omega) (by omega) (by omega), i6_mul, i6_sub, e]
  congr 1
  have := Nat.div_add_mod a b
  have e2 : ((a / b : Nat) : Int) * (b : Int) = ((b * (a / b) : Nat) : Int) := by rw [Nat.mul_comm]; rfl
  rw [e2]
  omega
theorem mod_half {b r : Nat} (h0 : 0 < r) (h : r < b) : 2 * (b % r) < b := by
  have h1 := Nat.mod_lt b h0
  have h2 := Nat.div_add_mod b r
  have h3 : 1 ≤ b / r := (Nat.le_div_iff_mul_le h0).mpr (by omega)
  have h4 : r * 1 ≤ r * (b / r) := Nat.mul_le_mul_left r h3
  omega
theorem c0_iff {a : Nat} (h : a < 2 ^ 62) : lg_cmp (i6 (a : Int)) 0 = 0 ↔ a = 0 := by
  have := cmp_eq (a := (a : Int)) (b := 0) (by omega) (by omega) (by omega) (by omega)
  rw [← i6_0] at this
  rw [this]
  omega
theorem n0_of {b : Nat} (h0 : 0 < b) (h : b < 2 ^ 62) : ¬ i6 (b : Int) = 0 := fun z => by
  rw [i6_0] at z
  have := (i6_eq (by omega) (by omega) (by omega) (by omega)).mp z
  omega
theorem cd_loop : ∀ (k a b c : Nat), a < 2 ^ 62 → b < 2 ^ 62 → b < 2 ^ k → c + 2 * k ≤ 99 → ∀ (F : Nat), 2 * k < F → g_F_commonDivisor F (i6 (a : Int)) (i6 (b : Int)) (nI c) = some (i6 ((Nat.gcd a b : Nat) : Int)) := by
  have zero : ∀ (a c F : Nat), a < 2 ^ 62 → c < 200 → 0 < F → g_F_commonDivisor F (i6 (a : Int)) (i6 ((0 : Nat) : Int)) (nI c) = some (i6 ((Nat.gcd a 0 : Nat) : Int)) := fun a c F ha hc hF => by
    obtain ⟨f, rfl⟩ : ∃ f, F = f + 1 := ⟨F - 1, by omega⟩
    show b_F_commonDivisor_9 (g_F_commonDivisor f) (i6 (a : Int)) (i6 ((0 : Nat) : Int)) (nI c) = _
    unfold b_F_commonDivisor_9
    simp only [nm, c0_iff (show 0 < 2 ^ 62 by omega), if_true, ite_self, Nat.gcd_zero_right]
  have step : ∀ (a b c F : Nat), a < 2 ^ 62 → b < 2 ^ 62 → 0 < b → c < 100 → g_F_commonDivisor (F + 1) (i6 (a : Int)) (i6 (b : Int)) (nI c) = g_F_commonDivisor F (i6 (b : Int)) (i6 ((a % b : Nat) : Int)) (nI (c + 1)) := fun a b c F ha hb h0 hc => by
    show b_F_commonDivisor_9 (g_F_commonDivisor F) (i6 (a : Int)) (i6 (b : Int)) (nI c) = _
    unfold b_F_commonDivisor_9
    rw [if_neg (show ¬ (100 : Int32) ≤ nI c from nI_ge (b := 100) hc (by decide))]
    simp only [nm, i6_mod ha h0 hb, nI_1]
    rw [if_neg (fun z => by have := (c0_iff hb).mp z; omega), gd_of (n0_of h0 hb)]
  intro k
  induction k with
  | zero =>
    intro a b c ha hb hk hc F hF
    have e : b = 0 := by omega
    subst e
    exact zero a c F ha (by omega) hF
  | succ k ih =>
    intro a b c ha hb hk hc F hF
    by_cases b0 : b = 0
    · subst b0; exact zero a c F ha (by omega) (by omega)
    · obtain ⟨f, rfl⟩ : ∃ f, F = f + 1 + 1 := ⟨F - 2, by omega⟩
      have m1 := Nat.mod_lt a (show 0 < b by omega)
      rw [step a b c (f + 1) ha hb (by omega) (by omega)]
      have g1 : Nat.gcd a b = Nat.gcd b (a % b) := by rw [Nat.gcd_comm, Nat.gcd_rec, Nat.gcd_comm]
      by_cases r0 : a % b = 0
      · rw [g1, r0]
        exact zero b (c + 1) (f + 1) hb (by omega) (by omega)
      · rw [step b (a % b) (c + 1) f hb (by omega) (by omega) (by omega)]
        have hf := mod_half (show 0 < a % b by omega) m1
        have m2 := Nat.mod_lt b (show 0 < a % b by omega)
        have g2 : Nat.gcd b (a % b) = Nat.gcd (a % b) (b % (a % b)) := by rw [Nat.gcd_comm, Nat.gcd_rec, Nat.gcd_comm]
        rw [g1, g2]
        exact ih (a % b) (b % (a % b)) (c + 1 + 1) (by omega) (by omega) (by rw [Nat.pow_succ] at hk; omega) (by omega) f (by omega)
theorem cd_ok {a b : Nat} (ha : a < 2 ^ 62) (hb : b < 2 ^ 45) : m_F_commonDivisor (i6 (a : Int)) (i6 (b : Int)) = some (i6 ((Nat.gcd a b : Nat) : Int)) := by
  unfold m_F_commonDivisor b_F_commonDivisor_0
  exact cd_loop 45 a b 0 ha (by omega) hb (by omega) fuel (by unfold fuel; omega)
theorem dv_loop : ∀ (k a b : Nat), a < 2 ^ 62 → b < 2 ^ 62 → b < 2 ^ k → ∀ (F : Nat), 2 * k < F → g_R_divisor F (i6 (a : Int)) (i6 (b : Int)) = some (i6 ((Nat.gcd a b : Nat) : Int)) := by
  have zero : ∀ (a F : Nat), a < 2 ^ 62 → 0 < F → g_R_divisor F (i6 (a : Int)) (i6 ((0 : Nat) : Int)) = some (i6 ((Nat.gcd a 0 : Nat) : Int)) := fun a F ha hF => by
    obtain ⟨f, rfl⟩ : ∃ f, F = f + 1 := ⟨F - 1, by omega⟩
    show b_R_divisor_17 (g_R_divisor f) (i6 (a : Int)) (i6 ((0 : Nat) : Int)) = _
    unfold b_R_divisor_17
    simp only [nm, c0_iff (show 0 < 2 ^ 62 by omega), if_true, Nat.gcd_zero_right]
  have step : ∀ (a b F : Nat), a < 2 ^ 62 → b < 2 ^ 62 → 0 < b → g_R_divisor (F + 1) (i6 (a : Int)) (i6 (b : Int)) = g_R_divisor F (i6 (b : Int)) (i6 ((a % b : Nat) : Int)) := fun a b F ha hb h0 => by
    show b_R_divisor_17 (g_R_divisor F) (i6 (a : Int)) (i6 (b : Int)) = _
    unfold b_R_divisor_17
    simp only [nm, i6_mod ha h0 hb]
    rw [if_neg (fun z => by have := (c0_iff hb).mp z; omega), gd_of (n0_of h0 hb)]
  intro k
  induction k with
  | zero =>
    intro a b ha hb hk F hF
    have e : b = 0 := by omega
    subst e
    exact zero a F ha hF
  | succ k ih =>
    intro a b ha hb hk F hF
    by_cases b0 : b = 0
    · subst b0; exact zero a F ha (by omega)
    · obtain ⟨f, rfl⟩ : ∃ f, F = f + 1 + 1 := ⟨F - 2, by omega⟩
      have m1 := Nat.mod_lt a (show 0 < b by omega)
      rw [step a b (f + 1) ha hb (by omega)]
      have g1 : Nat.gcd a b = Nat.gcd b (a % b) := by rw [Nat.gcd_comm, Nat.gcd_rec, Nat.gcd_comm]
      by_cases r0 : a % b = 0
      · rw [g1, r0]
        exact zero b (f + 1) hb (by omega)
      · rw [step b (a % b) f hb (by omega) (by omega)]
        have hf := mod_half (show 0 < a % b by omega) m1
        have m2 := Nat.mod_lt b (show 0 < a % b by omega)
        have g2 : Nat.gcd b (a % b) = Nat.gcd (a % b) (b % (a % b)) := by rw [Nat.gcd_comm, Nat.gcd_rec, Nat.gcd_comm]
        rw [g1, g2]
        exact ih (a % b) (b % (a % b)) (by omega) (by omega) (by rw [Nat.pow_succ] at hk; omega) f (by omega)
theorem dv_ok {a b : Nat} (ha : a < 2 ^ 62) (hb : b < 2 ^ 62) : m_R_divisor (i6 (a : Int)) (i6 (b : Int)) = some (i6 ((Nat.gcd a b : Nat) : Int)) := by
  unfold m_R_divisor b_R_divisor_0
  have cg : 0 ≤ lg_cmp (i6 (a : Int)) 0 := by
    have := cmp_ge (a := (a : Int)) (b := 0) (by omega) (by omega) (by omega) (by omega)
    rw [← i6_0] at this
    exact this.mpr (by omega)
  simp only [nm]
  rw [if_pos cg]
  exact dv_loop 62 a b ha hb hb fuel (by unfold fuel; omega)
/-- equal fractions have the same lowest terms -/
theorem low_terms {a b p v : Nat} (hb : 0 < b) (hv : 0 < v) (h : a * v = p * b) : a / Nat.gcd a b = p / Nat.gcd p v ∧ b / Nat.gcd a b = v / Nat.gcd p v := by
  have g0 : 0 < Nat.gcd a b := Nat.gcd_pos_of_pos_right a hb
  have h0 : 0 < Nat.gcd p v := Nat.gcd_pos_of_pos_right p hv
  obtain ⟨a', ea⟩ := Nat.gcd_dvd_left a b
  obtain ⟨b', eb⟩ := Nat.gcd_dvd_right a b
  obtain ⟨p', ep⟩ := Nat.gcd_dvd_left p v
  obtain ⟨v', ev⟩ := Nat.gcd_dvd_right p v
  have c1 : Nat.gcd a' b' = 1 := by
    have := Nat.gcd_mul_left (Nat.gcd a b) a' b'
    rw [← ea, ← eb] at this
    have : Nat.gcd a b * 1 = Nat.gcd a b * Nat.gcd a' b' := by omega
    exact (Nat.eq_of_mul_eq_mul_left g0 this).symm
  have c2 : Nat.gcd p' v' = 1 := by
    have := Nat.gcd_mul_left (Nat.gcd p v) p' v'
    rw [← ep, ← ev] at this
    have : Nat.gcd p v * 1 = Nat.gcd p v * Nat.gcd p' v' := by omega
    exact (Nat.eq_of_mul_eq_mul_left h0 this).symm
  generalize Nat.gcd a b = g at *
  generalize Nat.gcd p v = q at *
  subst ea eb ep ev
  rw [Nat.mul_div_cancel_left _ g0, Nat.mul_div_cancel_left _ g0, Nat.mul_div_cancel_left _ h0, Nat.mul_div_cancel_left _ h0]
  have k : a' * v' = p' * b' := by
    have e1 : g * a' * (q * v') = (g * q) * (a' * v') := by rw [Nat.mul_mul_mul_comm]
    have e2 : q * p' * (g * b') = (g * q) * (p' * b') := by rw [Nat.mul_mul_mul_comm, Nat.mul_comm q g]
    rw [e1, e2] at h
    exact Nat.eq_of_mul_eq_mul_left (Nat.mul_pos g0 h0) h
  have d1 : b' ∣ v' := Nat.Coprime.dvd_of_dvd_mul_left (show Nat.Coprime b' a' from (Nat.gcd_comm b' a').trans c1) (k ▸ Nat.dvd_mul_left b' p')
  have d2 : v' ∣ b' := Nat.Coprime.dvd_of_dvd_mul_left (show Nat.Coprime v' p' from (Nat.gcd_comm v' p').trans c2) (k ▸ Nat.dvd_mul_left v' a')
  have e : b' = v' := Nat.dvd_antisymm d1 d2
  subst e
  refine ⟨?_, rfl⟩
  have b0 : 0 < b' := by
    rcases Nat.eq_zero_or_pos b' with z | z
    · subst z; omega
    · exact z
  exact Nat.eq_of_mul_eq_mul_right b0 k
theorem i6_q {a g : Nat} (ha : a < 2 ^ 62) (hg : 0 < g) (hg2 : g < 2 ^ 62) : i6 (a : Int) / i6 (g : Int) = i6 ((a / g : Nat) : Int) := by
  rw [i6_div (by omega) (by omega) (by omega) (by omega)]
  rfl
theorem part_ok {a b : Nat} (ha : a < 2 ^ 62) (hb : b < 2 ^ 45) (hb0 : 0 < b) : Frac (i6 (a : Int)) (i6 (b : Int)) (i6 ((a / Nat.gcd a b : Nat) : Int)) (i6 ((b / Nat.gcd a b : Nat) : Int)) := by
  intro x
  have g0 : 0 < Nat.gcd a b := Nat.gcd_pos_of_pos_right a hb0
  have g1 : Nat.gcd a b ≤ b := Nat.gcd_le_right a hb0
  unfold m_F_partOf b_F_partOf_0
  rw [cd_ok ha hb]
  have cl : ¬ lg_cmp (i6 ((Nat.gcd a b : Nat) : Int)) 0 ≤ 0 := by
    intro z
    have q := cmp_gt (a := ((Nat.gcd a b : Nat) : Int)) (b := 0) (by omega) (by omega) (by omega) (by omega)
    rw [← i6_0] at q
    have q2 := q.mpr (by omega)
    have t1 := Int32.le_iff_toInt_le.mp z
    have t2 := Int32.lt_iff_toInt_lt.mp q2
    omega
  simp only [cl1, nm]
  rw [if_neg cl, F_within]
  simp only
  by_cases x0 : x = 0
  · subst x0
    rw [if_neg (show ¬ ((0 : Int32) < 0 ∨ (1 : Int32) < 0) by decide), if_neg (show ¬ (1 : Int32) = 0 by decide), if_pos rfl, if_pos rfl, gd_of (n0_of g0 (by omega)), i6_q ha g0 (by omega)]
  · by_cases x1 : x = 1
    · subst x1
      rw [if_neg (show ¬ ((1 : Int32) < 0 ∨ (1 : Int32) < 1) by decide), if_neg (show ¬ (1 : Int32) = 0 by decide), if_neg x0, if_neg x0, if_pos rfl, gd_of (n0_of g0 (by omega)), i6_q (by omega) g0 (by omega)]
    · have out : x < 0 ∨ 1 < x := by
        apply Classical.byContradiction
        intro q
        have q1 : ¬ x < 0 := fun z => q (Or.inl z)
        have q2 : ¬ 1 < x := fun z => q (Or.inr z)
        rw [Int32.lt_iff_toInt_lt] at q1 q2
        have t0 : (0 : Int32).toInt = 0 := by decide
        have t1 : (1 : Int32).toInt = 1 := by decide
        have t : x.toInt = 0 ∨ x.toInt = 1 := by omega
        rcases t with t | t
        · exact x0 (Int32.toInt_inj.mp (by rw [t, t0]))
        · exact x1 (Int32.toInt_inj.mp (by rw [t, t1]))
      rw [if_pos out, if_pos rfl, if_neg x0, if_neg x1]
