/-! What stuffs within their limits can hold at least: the leanest first. -/
def mnI (a b : Int) : Int := if b < a then b else a
def grd (p c : Nat → Int) : Nat → Nat → Int → Int
  | _, 0, _ => 0
  | s, t + 1, L => p s * mnI L (c s) + grd p c (s + 1) t (L - mnI L (c s))
def sm (f : Nat → Rat) : Nat → Nat → Rat
  | _, 0 => 0
  | s, t + 1 => f s + sm f (s + 1) t
theorem sm_nn {f : Nat → Rat} : ∀ t s, (∀ k, s ≤ k → k < s + t → 0 ≤ f k) → 0 ≤ sm f s t
  | 0, _, _ => Rat.le_refl
  | t + 1, s, h => by
    have h1 := h s (Nat.le_refl s) (by omega)
    have h2 := sm_nn t (s + 1) (fun k h1 h2 => h k (by omega) (by omega))
    show 0 ≤ f s + sm f (s + 1) t
    grind
theorem greedy {p c : Nat → Int} {e : Nat → Rat} : ∀ (t s : Nat) (L' : Int) (L q : Rat), (∀ k, s ≤ k → k < s + t → 0 ≤ e k ∧ e k ≤ (c k : Rat)) → (∀ k, s ≤ k → k + 1 < s + t → p k ≤ p (k + 1)) → (0 < t → q ≤ (p s : Rat)) → sm e s t = L → (L' : Rat) ≤ L → 0 ≤ L' → ((grd p c s t L' : Int) : Rat) + q * (L - (L' : Rat)) ≤ sm (fun k => (p k : Rat) * e k) s t
  | 0, s, L', L, q, _, _, _, hL, h1, h2 => by
    have e0 : L = 0 := hL.symm
    have h2' : (0 : Rat) ≤ (L' : Rat) := Rat.intCast_nonneg.mpr h2
    have e1 : (L' : Rat) = 0 := by grind
    show ((0 : Int) : Rat) + q * (L - (L' : Rat)) ≤ 0
    rw [e0, e1]
    show (0 : Rat) + q * (0 - 0) ≤ 0
    grind
  | t + 1, s, L', L, q, he, hp, hq, hL, h1, h2 => by
    have hs := he s (Nat.le_refl s) (by omega)
    have h2' : (0 : Rat) ≤ (L' : Rat) := Rat.intCast_nonneg.mpr h2
    have hrest : 0 ≤ sm e (s + 1) t := sm_nn t (s + 1) (fun k k1 k2 => (he k (by omega) (by omega)).1)
    have hL2 : sm e (s + 1) t = L - e s := by
      have : e s + sm e (s + 1) t = L := hL
      grind
    have hq' := hq (by omega)
    have main : ∀ m : Int, mnI L' (c s) = m → m ≤ L' → ((L' - m : Int) : Rat) ≤ L - e s → ((grd p c s (t + 1) L' : Int) : Rat) + q * (L - (L' : Rat)) ≤ sm (fun k => (p k : Rat) * e k) s (t + 1) := by
      intro m hm hm2 hm3
      have ih := greedy t (s + 1) (L' - m) (L - e s) (p s : Rat) (fun k k1 k2 => he k (by omega) (by omega)) (fun k k1 k2 => hp k (by omega) (by omega)) (fun ht => Rat.intCast_le_intCast.mpr (hp s (Nat.le_refl s) (by omega))) hL2 hm3 (by omega)
      have eg : grd p c s (t + 1) L' = p s * m + grd p c (s + 1) t (L' - m) := by
        show p s * mnI L' (c s) + grd p c (s + 1) t (L' - mnI L' (c s)) = _
        rw [hm]
      rw [eg, Rat.intCast_add, Rat.intCast_mul]
      show _ ≤ (p s : Rat) * e s + sm (fun k => (p k : Rat) * e k) (s + 1) t
      rw [Rat.intCast_sub] at ih
      have k1 : 0 ≤ ((p s : Rat) - q) * (L - (L' : Rat)) := Rat.mul_nonneg (by grind) (by grind)
      grind
    by_cases cm : c s < L'
    · refine main (c s) (by unfold mnI; rw [if_pos cm]) (by omega) ?_
      rw [Rat.intCast_sub]
      grind
    · refine main L' (by unfold mnI; rw [if_neg cm]) (by omega) ?_
      have : ((L' - L' : Int) : Rat) = 0 := by rw [Int.sub_self]; rfl
      rw [this]
      grind
theorem grd_neg (p c : Nat → Int) : ∀ (t s : Nat) (L : Int), grd (fun k => -p k) c s t L = -grd p c s t L
  | 0, _, _ => rfl
  | t + 1, s, L => by
    show -p s * mnI L (c s) + grd (fun k => -p k) c (s + 1) t (L - mnI L (c s)) = -(p s * mnI L (c s) + grd p c (s + 1) t (L - mnI L (c s)))
    rw [grd_neg p c t (s + 1), Int.neg_mul]
    omega
/-- an order of the four stuffs -/
def Ord (o : Nat → Nat) : Prop := (∀ k, k < 4 → o k < 4) ∧ ∀ f : Nat → Rat, f (o 0) + f (o 1) + f (o 2) + f (o 3) = f 0 + f 1 + f 2 + f 3
def ext (p lo hi : Nat → Int) (o : Nat → Nat) (T : Int) : Int := p 0 * lo 0 + p 1 * lo 1 + p 2 * lo 2 + p 3 * lo 3 + grd (fun k => p (o k)) (fun k => hi (o k) - lo (o k)) 0 4 (T - lo 0 - lo 1 - lo 2 - lo 3)
section EXT
variable {p lo hi : Nat → Int} {o : Nat → Nat} {T : Int} {y : Nat → Rat}
theorem ext_low (ho : Ord o) (hs : ∀ k, k + 1 < 4 → p (o k) ≤ p (o (k + 1))) (hb : ∀ i, i < 4 → (lo i : Rat) ≤ y i ∧ y i ≤ (hi i : Rat)) (hy : y 0 + y 1 + y 2 + y 3 = (T : Rat)) (hT : lo 0 + lo 1 + lo 2 + lo 3 ≤ T) :
    ((ext p lo hi o T : Int) : Rat) ≤ (p 0 : Rat) * y 0 + (p 1 : Rat) * y 1 + (p 2 : Rat) * y 2 + (p 3 : Rat) * y 3 := by
  have g := greedy (p := fun k => p (o k)) (c := fun k => hi (o k) - lo (o k)) (e := fun k => y (o k) - (lo (o k) : Rat)) 4 0 (T - lo 0 - lo 1 - lo 2 - lo 3) ((T - lo 0 - lo 1 - lo 2 - lo 3 : Int) : Rat) (p (o 0) : Rat)
    (fun k _ hk => by
      have := hb (o k) (ho.1 k (by omega))
      refine ⟨by grind, ?_⟩
      rw [Rat.intCast_sub]
      grind) (fun k _ hk => hs k (by omega)) (fun _ => Rat.le_refl) (by
      show (y (o 0) - (lo (o 0) : Rat)) + ((y (o 1) - (lo (o 1) : Rat)) + ((y (o 2) - (lo (o 2) : Rat)) + ((y (o 3) - (lo (o 3) : Rat)) + 0))) = _
      have f1 := ho.2 y
      have f2 := ho.2 (fun i => (lo i : Rat))
      rw [Rat.intCast_sub, Rat.intCast_sub, Rat.intCast_sub, Rat.intCast_sub]
      grind) Rat.le_refl (by omega)
  have f3 := ho.2 (fun i => (p i : Rat) * (y i - (lo i : Rat)))
  have g' : ((grd (fun k => p (o k)) (fun k => hi (o k) - lo (o k)) 0 4 (T - lo 0 - lo 1 - lo 2 - lo 3) : Int) : Rat) ≤ (p (o 0) : Rat) * (y (o 0) - (lo (o 0) : Rat)) + ((p (o 1) : Rat) * (y (o 1) - (lo (o 1) : Rat)) + ((p (o 2) : Rat) * (y (o 2) - (lo (o 2) : Rat)) + ((p (o 3) : Rat) * (y (o 3) - (lo (o 3) : Rat)) + 0))) := by
    refine Rat.le_trans ?_ g
    grind
  unfold ext
  rw [Rat.intCast_add, Rat.intCast_add, Rat.intCast_add, Rat.intCast_add, Rat.intCast_mul, Rat.intCast_mul, Rat.intCast_mul, Rat.intCast_mul]
  grind
theorem ext_high (ho : Ord o) (hs : ∀ k, k + 1 < 4 → p (o (k + 1)) ≤ p (o k)) (hb : ∀ i, i < 4 → (lo i : Rat) ≤ y i ∧ y i ≤ (hi i : Rat)) (hy : y 0 + y 1 + y 2 + y 3 = (T : Rat)) (hT : lo 0 + lo 1 + lo 2 + lo 3 ≤ T) :
    (p 0 : Rat) * y 0 + (p 1 : Rat) * y 1 + (p 2 : Rat) * y 2 + (p 3 : Rat) * y 3 ≤ ((ext p lo hi o T : Int) : Rat) := by
  have h := ext_low (p := fun i => -p i) ho (fun k hk => by have := hs k hk; omega) hb hy hT
  have e : ext (fun i => -p i) lo hi o T = -ext p lo hi o T := by
    unfold ext
    have := grd_neg (fun k => p (o k)) (fun k => hi (o k) - lo (o k)) 4 0 (T - lo 0 - lo 1 - lo 2 - lo 3)
    rw [this, Int.neg_mul, Int.neg_mul, Int.neg_mul, Int.neg_mul]
    omega
  rw [e, Rat.intCast_neg, Rat.intCast_neg, Rat.intCast_neg, Rat.intCast_neg, Rat.intCast_neg] at h
  grind
end EXT
