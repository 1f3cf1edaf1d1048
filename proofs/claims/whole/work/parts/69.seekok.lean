/-! What seek does. -/
def Pd (d : Dt) (r j : Nat) : Int := if r < 4 then (if r = j then 1 else 0) else ((dpt d (r - 4) j : Nat) : Int)
def slp (d : Dt) (r j : Nat) : Int := Pd d r j - Pd d r 3
def ofl (d : Dt) (T : Int) (r : Nat) : Int := Pd d r 3 * T
def ptd (d : Dt) (r i : Nat) : Int := ((dpt d r i : Nat) : Int)
def prd (d : Dt) (i : Nat) : Int := ((dpr d i : Nat) : Int)
def am (T : Int) (x y z : Rat) : Nat → Rat
  | 0 => x
  | 1 => y
  | 2 => z
  | _ => (T : Rat) - x - y - z
def rv (d : Dt) (k : Nat) (a : Nat → Rat) : Rat := (Pd d k 0 : Rat) * a 0 + (Pd d k 1 : Rat) * a 1 + (Pd d k 2 : Rat) * a 2 + (Pd d k 3 : Rat) * a 3
theorem rv_stuff (d : Dt) {k : Nat} (hk : k < 4) (a : Nat → Rat) : rv d k a = a k := by
  have e1 : ((1 : Int) : Rat) = 1 := rfl
  have e0 : ((0 : Int) : Rat) = 0 := rfl
  unfold rv Pd
  match k, hk with
  | 0, _ => simp [e1, e0]; grind
  | 1, _ => simp [e1, e0]; grind
  | 2, _ => simp [e1, e0]; grind
  | 3, _ => simp [e1, e0]; grind
theorem rv_nut (d : Dt) (n : Nat) (a : Nat → Rat) : rv d (4 + n) a = (ptd d n 0 : Rat) * a 0 + (ptd d n 1 : Rat) * a 1 + (ptd d n 2 : Rat) * a 2 + (ptd d n 3 : Rat) * a 3 := by
  have e : ∀ j, Pd d (4 + n) j = ptd d n j := fun j => by
    unfold Pd ptd
    rw [if_neg (by omega), Nat.add_sub_cancel_left]
  unfold rv
  rw [e, e, e, e]
theorem co_rv (d : Dt) (T : Int) (k : Nat) (x y z : Rat) : co_d (cn (slp d k) 0) x y z + ((ofl d T k : Int) : Rat) = rv d k (am T x y z) := by
  show ((Pd d k 0 - Pd d k 3 : Int) : Rat) * x + ((Pd d k 1 - Pd d k 3 : Int) : Rat) * y + ((Pd d k 2 - Pd d k 3 : Int) : Rat) * z + ((Pd d k 3 * T : Int) : Rat) = (Pd d k 0 : Rat) * x + (Pd d k 1 : Rat) * y + (Pd d k 2 : Rat) * z + (Pd d k 3 : Rat) * ((T : Rat) - x - y - z)
  rw [Rat.intCast_sub, Rat.intCast_sub, Rat.intCast_sub, Rat.intCast_mul]
  grind
def Fes (d : Dt) (T : Int) (lo hi : Nat → Int) (x y z : Rat) : Prop := ∀ k, k < 7 → (lo k : Rat) ≤ rv d k (am T x y z) ∧ rv d k (am T x y z) ≤ (hi k : Rat)
theorem FeQ_iff (d : Dt) (T : Int) (lo hi : Nat → Int) (x y z : Rat) : FeQ lo hi (slp d) (ofl d T) x y z ↔ Fes d T lo hi x y z := by
  have h : ∀ k, (((lo k - ofl d T k : Int) : Rat) ≤ co_d (cn (slp d k) 0) x y z ∧ co_d (cn (slp d k) 0) x y z ≤ ((hi k - ofl d T k : Int) : Rat)) ↔ ((lo k : Rat) ≤ rv d k (am T x y z) ∧ rv d k (am T x y z) ≤ (hi k : Rat)) := fun k => by
    rw [← co_rv, Rat.intCast_sub, Rat.intCast_sub]
    grind
  exact ⟨fun g k hk => (h k).mp (g k hk), fun g k hk => (h k).mpr (g k hk)⟩
theorem am_sum (T : Int) (x y z : Rat) : am T x y z 0 + am T x y z 1 + am T x y z 2 + am T x y z 3 = (T : Rat) := by
  show x + y + z + ((T : Rat) - x - y - z) = _
  grind
theorem lin_ok (d : Dt) (T : Int) : Lin (ptd d) T (slp d) (ofl d T) := by
  intro A u hs k hk
  have a3 : A 3 = T * u - A 0 - A 1 - A 2 := by omega
  by_cases h4 : k < 4
  · have e : rowV (ptd d) k A = A k := by unfold rowV; rw [if_pos h4]
    rw [e]
    unfold slp ofl Pd
    match k, h4 with
    | 0, _ => simp
    | 1, _ => simp
    | 2, _ => simp
    | 3, _ => simp; omega
  · have e : rowV (ptd d) k A = sum4 (ptd d (k - 4)) A := by unfold rowV; rw [if_neg h4]
    have f : ∀ j, Pd d k j = ptd d (k - 4) j := fun j => by unfold Pd ptd; rw [if_neg h4]
    rw [e]
    unfold slp ofl sum4
    rw [f, f, f, f, a3]
    grind
section PLANS
variable {lo hi : Nat → Int} {T : Int} {pt : Nat → Nat → Int} {o : Nat → Nat → Nat} {d : Dt} {x y z : Rat}
theorem fes_room (h : Fes d T lo hi x y z) : Rm lo hi T := by
  have b : ∀ k, k < 4 → (lo k : Rat) ≤ am T x y z k ∧ am T x y z k ≤ (hi k : Rat) := fun k hk => by
    have := h k (by omega)
    rwa [rv_stuff d hk] at this
  have s := am_sum T x y z
  have b0 := b 0 (by omega)
  have b1 := b 1 (by omega)
  have b2 := b 2 (by omega)
  have b3 := b 3 (by omega)
  refine ⟨fun k hk => ?_, ?_, ?_⟩
  · have := b k hk
    exact Rat.intCast_le_intCast.mp (by grind)
  · apply Rat.intCast_le_intCast.mp
    rw [Rat.intCast_add, Rat.intCast_add, Rat.intCast_add]
    grind
  · apply Rat.intCast_le_intCast.mp
    rw [Rat.intCast_add, Rat.intCast_add, Rat.intCast_add]
    grind
theorem Ord_rev {o : Nat → Nat} (h : Ord o) : Ord (oo o 1) := by
  refine ⟨fun k hk => h.1 _ (by omega), fun f => ?_⟩
  have := h.2 f
  show f (o 3) + f (o 2) + f (o 1) + f (o 0) = _
  grind
theorem Ord_fwd {o : Nat → Nat} (h : Ord o) : Ord (oo o 0) := h
def Srt (pt : Nat → Nat → Int) (o : Nat → Nat → Nat) : Prop := ∀ n, n < 3 → Ord (o n) ∧ ∀ k, k + 1 < 4 → pt n (o n k) ≤ pt n (o n (k + 1))
theorem fes_ext (hS : Srt (ptd d) o) (hR : Rm lo hi T) (hb : ∀ i, i < 4 → (lo i : Rat) ≤ am T x y z i ∧ am T x y z i ≤ (hi i : Rat)) {n : Nat} (hn : n < 3) :
    ((lsN lo hi T (ptd d) o n : Int) : Rat) ≤ rv d (4 + n) (am T x y z) ∧ rv d (4 + n) (am T x y z) ≤ ((msN lo hi T (ptd d) o n : Int) : Rat) := by
  obtain ⟨h1, h2⟩ := hS n hn
  rw [rv_nut]
  refine ⟨ext_low (Ord_fwd h1) (fun k hk => h2 k hk) hb (am_sum T x y z) hR.2.1, ext_high (Ord_rev h1) (fun k hk => ?_) hb (am_sum T x y z) hR.2.1⟩
  show ptd d n (o n (3 - (k + 1))) ≤ ptd d n (o n (3 - k))
  have := h2 (3 - (k + 1)) (by omega)
  rw [show 3 - (k + 1) + 1 = 3 - k by omega] at this
  exact this
theorem mem_oneL : ∀ (t s k : Nat), s ≤ k → k < s + t → lo k = hi k → (k, lo k) ∈ oneL lo hi s t
  | 0, s, k, h1, h2, _ => by omega
  | t + 1, s, k, h1, h2, h3 => by
    rw [oneL]
    by_cases e : s = k
    · subst e
      rw [if_pos h3]
      exact List.mem_append.mpr (Or.inl List.mem_cons_self)
    · exact List.mem_append.mpr (Or.inr (mem_oneL t (s + 1) k (by omega) (by omega) h3))
theorem mem_stfL : ∀ (t s k : Nat), s ≤ k → k < s + t → lo k < hi k → (k, lo k) ∈ stfL lo hi T s t ∧ (hi k < T → (k, hi k) ∈ stfL lo hi T s t)
  | 0, s, k, h1, h2, _ => by omega
  | t + 1, s, k, h1, h2, h3 => by
    rw [stfL]
    by_cases e : s = k
    · subst e
      rw [if_pos h3]
      constructor
      · apply List.mem_append.mpr
        left
        split <;> simp
      · intro h
        rw [if_pos h]
        apply List.mem_append.mpr
        left
        simp
    · have := mem_stfL t (s + 1) k (by omega) (by omega) h3
      exact ⟨List.mem_append.mpr (Or.inr this.1), fun h => List.mem_append.mpr (Or.inr (this.2 h))⟩
theorem mem_nutL {ls ms : Nat → Int} : ∀ (t s k : Nat), s ≤ k → k < s + t → (ls k < lo (4 + k) → (4 + k, lo (4 + k)) ∈ nutL lo hi ls ms s t) ∧ (hi (4 + k) < ms k → (4 + k, hi (4 + k)) ∈ nutL lo hi ls ms s t)
  | 0, s, k, h1, h2 => by omega
  | t + 1, s, k, h1, h2 => by
    rw [nutL]
    by_cases e : s = k
    · subst e
      refine ⟨fun h => ?_, fun h => ?_⟩
      · rw [if_pos h]; simp
      · rw [if_pos h]; simp
    · have := mem_nutL (ls := ls) (ms := ms) t (s + 1) k (by omega) (by omega)
      exact ⟨fun h => List.mem_append.mpr (Or.inr (List.mem_append.mpr (Or.inr (this.1 h)))), fun h => List.mem_append.mpr (Or.inr (List.mem_append.mpr (Or.inr (this.2 h))))⟩
theorem oneL_mem : ∀ (t s : Nat) (q : Nat × Int), q ∈ oneL lo hi s t → s ≤ q.1 ∧ q.1 < s + t ∧ lo q.1 = hi q.1 ∧ q.2 = lo q.1
  | 0, s, q, h => by cases h
  | t + 1, s, q, h => by
    rw [oneL] at h
    rcases List.mem_append.mp h with h | h
    · by_cases c : lo s = hi s
      · rw [if_pos c] at h
        have e := List.mem_singleton.mp h
        subst e
        exact ⟨Nat.le_refl s, by show s < s + (t + 1); omega, c, rfl⟩
      · rw [if_neg c] at h
        cases h
    · have := oneL_mem t (s + 1) q h
      exact ⟨by omega, by omega, this.2.2.1, this.2.2.2⟩
theorem oneL_inc : ∀ (t s : Nat), (oneL lo hi s t).Pairwise (fun a b => a.1 < b.1)
  | 0, s => List.Pairwise.nil
  | t + 1, s => by
    rw [oneL]
    apply List.pairwise_append.mpr
    refine ⟨by split <;> simp, oneL_inc t (s + 1), fun a ha b hb => ?_⟩
    have h2 := oneL_mem t (s + 1) b hb
    by_cases c : lo s = hi s
    · rw [if_pos c] at ha
      have e := List.mem_singleton.mp ha
      subst e
      exact h2.1
    · rw [if_neg c] at ha
      cases ha
def rwL (pl : List (Nat × Int)) (k : Nat) : Nat := (pl.getD k (0, 0)).1
def lvL (of : Nat → Int) (pl : List (Nat × Int)) (k : Nat) : Int := (pl.getD k (0, 0)).2 - of (pl.getD k (0, 0)).1
theorem getD_of {pl : List (Nat × Int)} {k : Nat} {q : Nat × Int} (h : pl[k]? = some q) : pl.getD k (0, 0) = q := by
  rw [List.getD_eq_getElem?_getD, h]
  rfl
theorem ind1 (d : Dt) {s : Nat} (h : s < 4) : ¬ (slp d s 0 = 0 ∧ slp d s 1 = 0 ∧ slp d s 2 = 0) := by
  unfold slp Pd
  match s, h with
  | 0, _ => simp
  | 1, _ => simp
  | 2, _ => simp
  | 3, _ => simp
theorem ind2 (d : Dt) {s r : Nat} (h1 : s < r) (h2 : r < 4) : ¬ (crs (slp d s) (slp d r) 0 = 0 ∧ crs (slp d s) (slp d r) 1 = 0 ∧ crs (slp d s) (slp d r) 2 = 0) := by
  have e : (s = 0 ∧ r = 1) ∨ (s = 0 ∧ r = 2) ∨ (s = 0 ∧ r = 3) ∨ (s = 1 ∧ r = 2) ∨ (s = 1 ∧ r = 3) ∨ (s = 2 ∧ r = 3) := by omega
  rcases e with ⟨rfl, rfl⟩ | ⟨rfl, rfl⟩ | ⟨rfl, rfl⟩ | ⟨rfl, rfl⟩ | ⟨rfl, rfl⟩ | ⟨rfl, rfl⟩ <;> simp [crs, slp, Pd]
theorem ind3 (d : Dt) {s r q : Nat} (h1 : s < r) (h2 : r < q) (h3 : q < 4) : det (slp d s) (slp d r) (slp d q) ≠ 0 := by
  have e : (s = 0 ∧ r = 1 ∧ q = 2) ∨ (s = 0 ∧ r = 1 ∧ q = 3) ∨ (s = 0 ∧ r = 2 ∧ q = 3) ∨ (s = 1 ∧ r = 2 ∧ q = 3) := by omega
  rcases e with ⟨rfl, rfl, rfl⟩ | ⟨rfl, rfl, rfl⟩ | ⟨rfl, rfl, rfl⟩ | ⟨rfl, rfl, rfl⟩ <;> simp [det, crs, slp, Pd]
theorem one_at (k : Nat) (h : k < (oneL lo hi 0 4).length) : ∃ s, s < 4 ∧ (allL lo hi T pt o)[k]? = some (s, lo s) ∧ lo s = hi s := by
  have hm := oneL_mem 4 0 (oneL lo hi 0 4)[k] (List.getElem_mem h)
  refine ⟨((oneL lo hi 0 4)[k]).1, hm.2.1, ?_, hm.2.2.1⟩
  unfold allL
  rw [List.getElem?_append_left h, List.getElem?_eq_getElem h, ← hm.2.2.2]
theorem one_lt {j k : Nat} (hjk : j < k) (h : k < (oneL lo hi 0 4).length) : rwL (allL lo hi T pt o) j < rwL (allL lo hi T pt o) k := by
  have hp := List.pairwise_iff_getElem.mp (oneL_inc (lo := lo) (hi := hi) 4 0) j k (by omega) h hjk
  have e : ∀ i (hi' : i < (oneL lo hi 0 4).length), rwL (allL lo hi T pt o) i = ((oneL lo hi 0 4)[i]).1 := fun i hi' => by
    unfold rwL allL
    rw [getD_of (q := (oneL lo hi 0 4)[i]) (by rw [List.getElem?_append_left hi', List.getElem?_eq_getElem hi'])]
  rw [e j (by omega), e k h]
  exact hp
end PLANS
