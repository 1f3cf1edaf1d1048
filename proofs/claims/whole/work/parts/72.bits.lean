/-! Bits of bounds. -/
def Msk (x : Int32) (S : Nat → Prop) : Prop := ∀ i, i < 32 → (x.toBitVec.getLsbD i = true ↔ i < 18 ∧ S i)
theorem Msk_eq {x y : Int32} {S : Nat → Prop} (h1 : Msk x S) (h2 : Msk y S) : x = y := by
  apply Int32.toBitVec_inj.1
  apply BitVec.eq_of_getLsbD_eq
  intro i hi
  have a := h1 i hi
  have b := h2 i hi
  rw [← b] at a
  exact Bool.eq_iff_iff.mpr a
theorem Msk_iff {x : Int32} {S S' : Nat → Prop} (h : Msk x S) (e : ∀ i, i < 18 → (S i ↔ S' i)) : Msk x S' := fun i hi => by
  rw [h i hi]
  exact ⟨fun z => ⟨z.1, (e i z.1).mp z.2⟩, fun z => ⟨z.1, (e i z.1).mpr z.2⟩⟩
theorem bit_at : ∀ b, b < 18 → ∀ i, i < 32 → ((1 : Int32) <<< (nI b &&& 31)).toBitVec.getLsbD i = decide (i = b) := by decide +kernel
theorem nbit_at : ∀ b, b < 18 → ∀ i, i < 32 → (((1 : Int32) <<< (nI b &&& 31)) ^^^ (-1)).toBitVec.getLsbD i = decide (i ≠ b) := by decide +kernel
theorem Msk_0 : Msk 0 (fun _ => False) := fun i hi => by
  have : (0 : Int32).toBitVec.getLsbD i = false := by
    show (0#32).getLsbD i = false
    exact BitVec.getLsbD_zero
  rw [this]
  simp
theorem Msk_or {x : Int32} {S : Nat → Prop} (h : Msk x S) {b : Nat} (hb : b < 18) : Msk (x ||| ((1 : Int32) <<< (nI b &&& 31))) (fun i => S i ∨ i = b) := fun i hi => by
  rw [Int32.toBitVec_or, BitVec.getLsbD_or, bit_at b hb i hi, Bool.or_eq_true, h i hi, decide_eq_true_iff]
  constructor
  · rintro (⟨h1, h2⟩ | h1)
    · exact ⟨h1, Or.inl h2⟩
    · exact ⟨by omega, Or.inr h1⟩
  · rintro ⟨h1, h2 | h2⟩
    · exact Or.inl ⟨h1, h2⟩
    · exact Or.inr h2
theorem Msk_and {x : Int32} {S : Nat → Prop} (h : Msk x S) {b : Nat} (hb : b < 18) : Msk (x &&& (((1 : Int32) <<< (nI b &&& 31)) ^^^ (-1))) (fun i => S i ∧ i ≠ b) := fun i hi => by
  rw [Int32.toBitVec_and, BitVec.getLsbD_and, nbit_at b hb i hi, Bool.and_eq_true, h i hi, decide_eq_true_iff]
  constructor
  · rintro ⟨⟨h1, h2⟩, h3⟩
    exact ⟨h1, h2, h3⟩
  · rintro ⟨h1, h2, h3⟩
    exact ⟨⟨h1, h2⟩, h3⟩
theorem sh_at : ∀ c, c < 18 → ((nI c &&& 31).toBitVec.smod 32#32).toNat = c := by decide +kernel
theorem hasBound_ok {x : Int32} {S : Nat → Prop} (h : Msk x S) {c : Nat} (hc : c < 18) : (m_F_hasBound x (nI c) = some 1 ∧ S c) ∨ (m_F_hasBound x (nI c) = some 0 ∧ ¬ S c) := by
  have k : ((x >>> (nI c &&& 31)) &&& 1) = 0 ↔ x.toBitVec.getLsbD c = false := by
    rw [← Int32.toBitVec_inj, Int32.toBitVec_and, Int32.toBitVec_shiftRight]
    have e : (x.toBitVec.sshiftRight' ((nI c &&& 31).toBitVec.smod 32#32)) = x.toBitVec.sshiftRight c := by
      show x.toBitVec.sshiftRight ((nI c &&& 31).toBitVec.smod 32#32).toNat = _
      rw [sh_at c hc]
    have g : (x.toBitVec.sshiftRight c).getLsbD 0 = x.toBitVec.getLsbD c := by
      rw [BitVec.getLsbD_sshiftRight]
      simp
      omega
    rw [← g]
    have e2 : (x >>> (nI c &&& 31)).toBitVec = x.toBitVec.sshiftRight c := by rw [Int32.toBitVec_shiftRight]; exact e
    constructor
    · intro z
      have := congrArg (fun v : BitVec 32 => v.getLsbD 0) z
      simp only [BitVec.getLsbD_and] at this
      have o1 : (1 : Int32).toBitVec.getLsbD 0 = true := by decide
      have o0 : (0 : Int32).toBitVec.getLsbD 0 = false := by decide
      rw [o1, o0, Bool.and_true] at this
      rw [← e]
      exact this
    · intro z
      apply BitVec.eq_of_getLsbD_eq
      intro i hi
      have o0 : (0 : Int32).toBitVec.getLsbD i = false := BitVec.getLsbD_zero
      rw [o0, BitVec.getLsbD_and]
      by_cases e0 : i = 0
      · subst e0
        rw [← e] at z
        rw [Bool.and_eq_false_iff]
        exact Or.inl z
      · have o1 : ∀ i, i < 32 → i ≠ 0 → (1 : Int32).toBitVec.getLsbD i = false := by decide +kernel
        rw [o1 i hi e0, Bool.and_false]
  have hc32 := h c (by omega)
  simp only [m_F_hasBound, b_F_hasBound_0, nm]
  by_cases q : x.toBitVec.getLsbD c = true
  · rw [if_neg (fun z => by rw [k.mp z] at q; cases q)]
    exact Or.inl ⟨rfl, (hc32.mp q).2⟩
  · rw [if_pos (k.mpr (by simpa using q))]
    exact Or.inr ⟨rfl, fun z => q (hc32.mpr ⟨hc, z⟩)⟩
