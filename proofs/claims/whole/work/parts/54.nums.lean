/-! Whole numbers in ints and longs. -/
def i3 (z : Int) : Int32 := Int32.ofInt z
def i6 (z : Int) : Int64 := Int64.ofInt z
theorem i3_add (a b : Int) : i3 a + i3 b = i3 (a + b) := Int32.toInt_inj.1 (by simp [i3])
theorem i3_sub (a b : Int) : i3 a - i3 b = i3 (a - b) := Int32.toInt_inj.1 (by simp [i3])
theorem i3_mul (a b : Int) : i3 a * i3 b = i3 (a * b) := Int32.toInt_inj.1 (by simp [i3])
theorem i3_neg (a : Int) : -i3 a = i3 (-a) := Int32.toInt_inj.1 (by simp [i3])
theorem i6_add (a b : Int) : i6 a + i6 b = i6 (a + b) := Int64.toInt_inj.1 (by simp [i6])
theorem i6_sub (a b : Int) : i6 a - i6 b = i6 (a - b) := Int64.toInt_inj.1 (by simp [i6])
theorem i6_mul (a b : Int) : i6 a * i6 b = i6 (a * b) := Int64.toInt_inj.1 (by simp [i6])
theorem i6_neg (a : Int) : -i6 a = i6 (-a) := Int64.toInt_inj.1 (by simp [i6])
theorem i3_nI (n : Nat) : nI n = i3 n := Int32.toInt_inj.1 (by unfold nI i3; rw [Int32.ofInt_eq_ofNat])
theorem i3_toInt {a : Int} (h1 : -2147483648 ≤ a) (h2 : a < 2147483648) : (i3 a).toInt = a := Int32.toInt_ofInt_of_le (by omega) (by omega)
theorem i6_toInt {a : Int} (h1 : -9223372036854775808 ≤ a) (h2 : a < 9223372036854775808) : (i6 a).toInt = a := Int64.toInt_ofInt_of_le (by omega) (by omega)
theorem i3_i6 {a : Int} (h1 : -2147483648 ≤ a) (h2 : a < 2147483648) : (i3 a).toInt64 = i6 a := Int64.toInt_inj.1 (by rw [Int32.toInt_toInt64, i3_toInt h1 h2, i6_toInt (by omega) (by omega)])
theorem i3_lt {a b : Int} (h1 : -2147483648 ≤ a) (h2 : a < 2147483648) (h3 : -2147483648 ≤ b) (h4 : b < 2147483648) : i3 a < i3 b ↔ a < b := by rw [Int32.lt_iff_toInt_lt, i3_toInt h1 h2, i3_toInt h3 h4]
theorem i3_le {a b : Int} (h1 : -2147483648 ≤ a) (h2 : a < 2147483648) (h3 : -2147483648 ≤ b) (h4 : b < 2147483648) : i3 a ≤ i3 b ↔ a ≤ b := by rw [Int32.le_iff_toInt_le, i3_toInt h1 h2, i3_toInt h3 h4]
theorem i3_eq {a b : Int} (h1 : -2147483648 ≤ a) (h2 : a < 2147483648) (h3 : -2147483648 ≤ b) (h4 : b < 2147483648) : i3 a = i3 b ↔ a = b := by rw [← Int32.toInt_inj, i3_toInt h1 h2, i3_toInt h3 h4]
theorem i6_lt {a b : Int} (h1 : -9223372036854775808 ≤ a) (h2 : a < 9223372036854775808) (h3 : -9223372036854775808 ≤ b) (h4 : b < 9223372036854775808) : i6 a < i6 b ↔ a < b := by rw [Int64.lt_iff_toInt_lt, i6_toInt h1 h2, i6_toInt h3 h4]
theorem i6_le {a b : Int} (h1 : -9223372036854775808 ≤ a) (h2 : a < 9223372036854775808) (h3 : -9223372036854775808 ≤ b) (h4 : b < 9223372036854775808) : i6 a ≤ i6 b ↔ a ≤ b := by rw [Int64.le_iff_toInt_le, i6_toInt h1 h2, i6_toInt h3 h4]
theorem i6_eq {a b : Int} (h1 : -9223372036854775808 ≤ a) (h2 : a < 9223372036854775808) (h3 : -9223372036854775808 ≤ b) (h4 : b < 9223372036854775808) : i6 a = i6 b ↔ a = b := by rw [← Int64.toInt_inj, i6_toInt h1 h2, i6_toInt h3 h4]
/-- a long's compare, of numbers in range -/
theorem i6_cmp {a b : Int} (h1 : -9223372036854775808 ≤ a) (h2 : a < 9223372036854775808) (h3 : -9223372036854775808 ≤ b) (h4 : b < 9223372036854775808) : lg_cmp (i6 a) (i6 b) = if b < a then 1 else if a = b then 0 else -1 := by
  unfold lg_cmp
  simp only [i6_lt h3 h4 h1 h2, i6_eq h1 h2 h3 h4]
theorem i6_div {a b : Int} (h0 : 0 ≤ a) (h1 : a < 9223372036854775808) (h2 : 0 < b) (h3 : b < 9223372036854775808) : i6 a / i6 b = i6 (a / b) := by
  apply Int64.toInt_inj.1
  have hd : a / b ≤ a := Int.ediv_le_self b h0
  have hn : 0 ≤ a / b := Int.ediv_nonneg h0 (by omega)
  rw [Int64.toInt_div_of_ne_left _ _ (by intro e; have := congrArg Int64.toInt e; rw [i6_toInt (by omega) (by omega)] at this; simp at this; omega), i6_toInt (by omega) (by omega), i6_toInt (by omega) (by omega), i6_toInt (by omega) (by omega), Int.tdiv_eq_ediv_of_nonneg h0]
theorem cmp_lt {a b : Int} (h1 : -9223372036854775808 ≤ a) (h2 : a < 9223372036854775808) (h3 : -9223372036854775808 ≤ b) (h4 : b < 9223372036854775808) : lg_cmp (i6 a) (i6 b) < 0 ↔ a < b := by
  rw [i6_cmp h1 h2 h3 h4]
  by_cases c : b < a
  · rw [if_pos c]; exact ⟨fun h => absurd h (by decide), fun h => by omega⟩
  · rw [if_neg c]
    by_cases e : a = b
    · rw [if_pos e]; exact ⟨fun h => absurd h (by decide), fun h => by omega⟩
    · rw [if_neg e]; exact ⟨fun _ => by omega, fun _ => by decide⟩
theorem cmp_gt {a b : Int} (h1 : -9223372036854775808 ≤ a) (h2 : a < 9223372036854775808) (h3 : -9223372036854775808 ≤ b) (h4 : b < 9223372036854775808) : 0 < lg_cmp (i6 a) (i6 b) ↔ b < a := by
  rw [i6_cmp h1 h2 h3 h4]
  by_cases c : b < a
  · rw [if_pos c]; exact ⟨fun _ => c, fun _ => by decide⟩
  · rw [if_neg c]
    by_cases e : a = b
    · rw [if_pos e]; exact ⟨fun h => absurd h (by decide), fun h => by omega⟩
    · rw [if_neg e]; exact ⟨fun h => absurd h (by decide), fun h => by omega⟩
theorem cmp_eq {a b : Int} (h1 : -9223372036854775808 ≤ a) (h2 : a < 9223372036854775808) (h3 : -9223372036854775808 ≤ b) (h4 : b < 9223372036854775808) : lg_cmp (i6 a) (i6 b) = 0 ↔ a = b := by
  rw [i6_cmp h1 h2 h3 h4]
  by_cases c : b < a
  · rw [if_pos c]; exact ⟨fun h => absurd h (by decide), fun h => by omega⟩
  · rw [if_neg c]
    by_cases e : a = b
    · rw [if_pos e]; exact ⟨fun _ => e, fun _ => rfl⟩
    · rw [if_neg e]; exact ⟨fun h => absurd h (by decide), fun h => by omega⟩
theorem cmp_ge {a b : Int} (h1 : -9223372036854775808 ≤ a) (h2 : a < 9223372036854775808) (h3 : -9223372036854775808 ≤ b) (h4 : b < 9223372036854775808) : 0 ≤ lg_cmp (i6 a) (i6 b) ↔ b ≤ a := by
  rw [lg_cmp_ge, i6_le h3 h4 h1 h2]
