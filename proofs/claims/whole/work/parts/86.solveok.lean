/-! What solve says. -/
section SK
variable {d : Dt} {w n : Nat} {I : SI} {fx : Nat → Int} {fl ch : Nat → Nat}
/-- a direction in which nothing that was chosen changes -/
def NulD (d : Dt) (fx : Nat → Int) (n : Nat) (ch : Nat → Nat) (v : Nat → Rat) : Prop := (∀ s, s < dn d → 0 ≤ fx s → v s = 0) ∧ sQ v (dn d) = 0 ∧ ∀ r, r + 1 < n → sQ (fun s => (fac d (ch r) s : Rat) * v s) (dn d) = 0
/-- a point at which all that was chosen is met -/
def SolD (d : Dt) (w : Nat) (fx : Nat → Int) (n : Nat) (ch : Nat → Nat) (y : Nat → Rat) : Prop := (∀ s, s < dn d → 0 ≤ fx s → y s = (fx s : Rat)) ∧ sQ y (dn d) = ((w : Int) : Rat) ∧ ∀ r, r + 1 < n → sQ (fun s => (fac d (ch r) s : Rat) * y s) (dn d) = (rgt d w (ch r) : Rat)
/-- a point of whole numbers over u -/
def PtR (d : Dt) (w : Nat) (fx : Nat → Int) (X : Nat → Int) (u : Int) : Prop := 0 < u ∧ u ≤ 384000 ∧ (∀ s, s < dn d → -1000000000 ≤ X s ∧ X s ≤ 1000000000) ∧ sR X (dn d) = (w : Int) * u ∧ ∀ s, s < dn d → 0 ≤ fx s → X s = fx s * u
theorem s431_ok {x1 x2 : Int32} {L : Int} (L1 : -384000 ≤ L) (L2 : L ≤ 384000) (F : Nat) (J : SJ) :
    ∃ (sg : Int) (J2 : SJ), (sg = 1 ∨ sg = -1) ∧ 0 ≤ L * sg ∧ s431 (F + 1) x1 x2 (i6 L) I J = s466 F x1 x2 (i6 sg) (nI 0) I J2 ∧ J2 0 26 = i6 (L * sg) ∧ (∀ j, j ≠ 26 → J2 0 j = J 0 j) ∧ ∀ m, m ≠ 0 → J2 m = J m := by
  obtain ⟨J1, e1⟩ : ∃ z : SJ, z = va_up J 0 (vp_updL (J 0) 26 (i6 L)) := ⟨_, rfl⟩
  have b1 : J1 0 26 = i6 L := by rw [e1, va_up_self]; unfold vp_updL; rw [if_pos rfl]
  have a1 : ∀ j, j ≠ 26 → J1 0 j = J 0 j := fun j hj => by rw [e1, va_up_self]; unfold vp_updL; rw [if_neg hj]
  have c1 : ∀ m, m ≠ 0 → J1 m = J m := fun m hm => by rw [e1, va_up_ne _ _ hm]
  have st : s431 (F + 1) x1 x2 (i6 L) I J = if 0 ≤ L then s466 F x1 x2 (i6 1) (nI 0) I (va_up J1 0 (vp_updL (J1 0) 26 (i6 (L * 1)))) else s466 F x1 x2 (i6 (-1)) (nI 0) I (va_up J1 0 (vp_updL (J1 0) 26 (i6 (L * -1)))) := by
    show b_R_solve_431 (s466 F) x1 x2 (i6 L) I J = _
    unfold b_R_solve_431
    simp only [nm]
    rw [← e1, b1]
    have cg : (0 : Int32) ≤ lg_cmp (i6 L) 0 ↔ 0 ≤ L := cmp_ge (a := L) (b := 0) (by omega) (by omega) (by omega) (by omega)
    simp only [cg]
    rw [show (1 : Int64) = i6 1 from by decide, i6_neg, i6_mul, i6_mul]
    rfl
  by_cases c : 0 ≤ L
  · refine ⟨1, va_up J1 0 (vp_updL (J1 0) 26 (i6 (L * 1))), Or.inl rfl, by omega, by rw [st, if_pos c], by rw [va_up_self]; unfold vp_updL; rw [if_pos rfl], fun j hj => by rw [va_up_self, ← a1 j hj]; unfold vp_updL; rw [if_neg hj], fun m hm => by rw [va_up_ne _ _ hm, c1 m hm]⟩
  · refine ⟨-1, va_up J1 0 (vp_updL (J1 0) 26 (i6 (L * -1))), Or.inr rfl, by omega, by rw [st, if_neg c], by rw [va_up_self]; unfold vp_updL; rw [if_pos rfl], fun j hj => by rw [va_up_self, ← a1 j hj]; unfold vp_updL; rw [if_neg hj], fun m hm => by rw [va_up_ne _ _ hm, c1 m hm]⟩
/-- from the last pivot to the end -/
theorem end_ok (hrg : Rg d) (h : ToR d I) (hw : w ≤ 40) (hx : Fxd fx I) (hf : Fre d fx n fl I) {L : Int} {Z : Nat → Int} (L0 : L ≠ 0) (L1 : -384000 ≤ L) (L2 : L ≤ 384000) (hZ : ∀ r, r < n → -1000000000 ≤ Z r ∧ Z r ≤ 1000000000) {F : Nat} (hF : 50 < F) {J : SJ} (hJ : ∀ r, r < n → J 14 (5 * r + 4) = i6 (Z r)) :
    ∃ (sg : Int) (X : Nat → Int) (J2 : SJ), (sg = 1 ∨ sg = -1) ∧ 0 < L * sg ∧ L * sg ≤ 384000 ∧ (∀ k, k < n → X (fl k) = Z k * sg) ∧ (∀ s, s < dn d → 0 ≤ fx s → X s = fx s * (L * sg)) ∧ (∀ s, s < dn d → -1000000000 ≤ X s ∧ X s ≤ 1000000000) ∧
      s431 F (nI w) (nI n) (i6 L) I J = some (if sR X (dn d) = (w : Int) * (L * sg) then 1 else 0, I, J2) ∧ (∀ s, s < dn d → J2 15 s = i6 (X s)) ∧ J2 0 26 = i6 (L * sg) ∧ (∀ j, j ≠ 26 → J2 0 j = J 0 j) ∧ ∀ m, m ≠ 0 → m ≠ 15 → J2 m = J m := by
  obtain ⟨f, rfl⟩ : ∃ f, F = f + 1 := ⟨F - 1, by omega⟩
  obtain ⟨sg, J1, a1, a2, a3, a4, a5, a6⟩ := s431_ok (I := I) (x1 := nI w) (x2 := nI n) L1 L2 f J
  obtain ⟨F2, J2, b1, b2, b3, b4⟩ := s466_ok (Z := Z) (sg := sg) (x1 := nI w) hf hrg n 0 (by omega) f (by have := hf.2.1; omega) J1 (fun r hr => by rw [a6 14 (by decide)]; exact hJ r hr) (fun k' hk' => by omega)
  have hn := hrg.1
  have hn4 := hf.2.1
  have u1 : 0 < L * sg ∧ L * sg ≤ 384000 := by rcases a1 with rfl | rfl <;> omega
  obtain ⟨X, eX⟩ : ∃ X : Nat → Int, X = fun s => if fx s < 0 then Z (ivf fl s) * sg else fx s * (L * sg) := ⟨_, rfl⟩
  have x1 : ∀ k, k < n → X (fl k) = Z k * sg := fun k hk => by
    rw [eX]
    show (if fx (fl k) < 0 then Z (ivf fl (fl k)) * sg else _) = _
    rw [if_pos (hf.2.2.1 k hk).2.2, ivf_ok hn4 hf.2.2.2.2.1 hk]
  have x2 : ∀ s, s < dn d → 0 ≤ fx s → X s = fx s * (L * sg) := fun s hs hc => by
    rw [eX]
    show (if fx s < 0 then _ else _) = _
    rw [if_neg (by omega)]
  have x3 : ∀ s, s < dn d → -1000000000 ≤ X s ∧ X s ≤ 1000000000 := fun s hs => by
    by_cases c : fx s < 0
    · obtain ⟨k, hk, rfl⟩ := hf.2.2.2.1 s hs c
      rw [x1 k hk]
      have := hZ k hk
      rcases a1 with rfl | rfl <;> omega
    · rw [x2 s hs (by omega)]
      have := hx s (by omega)
      have m := mulB (p := fx s) (M := 40) (a := L * sg) (B := 384000) (by omega) (by omega) (by omega) (by omega)
      have m0 : 0 ≤ fx s * (L * sg) := Int.mul_nonneg (by omega) (by omega)
      omega
  obtain ⟨J3, c1, c2, c3⟩ := s510_ok (w := w) (X := X) (u := L * sg) hrg h hw hx (by omega) u1.2 x3 x2 (dn d) 0 (by omega) F2 (by omega) J2 (by rw [b4 0 (by decide)]; exact a4) (fun s' hs' hc => by
    rcases hc with hc | hc
    · omega
    · obtain ⟨k, hk, rfl⟩ := hf.2.2.2.1 s' hs' hc
      rw [b3 k hk, x1 k hk])
  refine ⟨sg, X, J3, a1, u1.1, u1.2, x1, x2, x3, ?_, c2, by rw [c3 0 (by decide), b4 0 (by decide)]; exact a4, fun j hj => by rw [c3 0 (by decide), b4 0 (by decide), a5 j hj], fun m m1 m2 => by rw [c3 m m2, b4 m m2, a6 m m1]⟩
  rw [a3, b2]
  exact c1
theorem fix_sum (fx : Nat → Int) (c : Nat → Int) (y : Nat → Rat) {m : Nat} (hy : ∀ s, s < m → 0 ≤ fx s → y s = (fx s : Rat)) : sQ (fun s => if fx s < 0 then 0 else (c s : Rat) * y s) m = ((sR (fun s => c s * fxz fx s) m : Int) : Rat) := by
  rw [sR_cast]
  refine sQ_congr (fun s hs => ?_)
  show (if fx s < 0 then 0 else (c s : Rat) * y s) = ((c s * fxz fx s : Int) : Rat)
  unfold fxz
  by_cases q : fx s < 0
  · rw [if_pos q, if_pos q, Int.mul_zero]
    rfl
  · rw [if_neg q, if_neg q, hy s hs (by omega), Rat.intCast_mul]
theorem Arw_le (hrg : Rg d) (hw : w ≤ 40) (hx : ∀ s, s < 4 → -1 ≤ fx s ∧ fx s ≤ 40) (hfl : ∀ k, k < n → fl k < dn d) (hch : ∀ r, r < 3 → ch r < 22) {r : Nat} (hr : r < 4) :
    (∀ k, k < n → k ≠ 4 → 0 ≤ Arw d w fx fl ch r k ∧ Arw d w fx fl ch r k ≤ 40) ∧ -6400 ≤ Arw d w fx fl ch r 4 ∧ Arw d w fx fl ch r 4 ≤ 1600 ∧ (r = 0 → -160 ≤ Arw d w fx fl ch r 4 ∧ Arw d w fx fl ch r 4 ≤ 40) := by
  have hn := hrg.1
  have cf : ∀ s, s < 4 → 0 ≤ cfR d ch r s ∧ cfR d ch r s ≤ 40 ∧ (r = 0 → cfR d ch r s = 1) := fun s hs => by
    unfold cfR
    split
    · omega
    · have := fac_le hrg (b := ch (r - 1)) hs
      omega
  have rt : 0 ≤ rtR d w ch r ∧ rtR d w ch r ≤ 1600 ∧ (r = 0 → rtR d w ch r ≤ 40) := by
    unfold rtR
    split
    · omega
    · have := rgt_le hrg hw (hch (r - 1) (by omega))
      omega
  have sm : ∀ m, m ≤ dn d → 0 ≤ sR (fun s => cfR d ch r s * fxz fx s) m ∧ sR (fun s => cfR d ch r s * fxz fx s) m ≤ 1600 * (m : Int) ∧ (r = 0 → sR (fun s => cfR d ch r s * fxz fx s) m ≤ 40 * (m : Int)) := by
    intro m
    induction m with
    | zero => intro _; show 0 ≤ (0 : Int) ∧ (0 : Int) ≤ _ ∧ (_ → (0 : Int) ≤ _); omega
    | succ m ih =>
      intro hm
      have i1 := ih (by omega)
      have c1 := cf m (by omega)
      have z : 0 ≤ fxz fx m ∧ fxz fx m ≤ 40 := by
        have := hx m (by omega)
        unfold fxz
        split <;> omega
      have m0 : 0 ≤ cfR d ch r m * fxz fx m := Int.mul_nonneg c1.1 z.1
      have m1 := mulB (p := cfR d ch r m) (M := 40) (a := fxz fx m) (B := 40) (by omega) (by omega) (by omega) (by omega)
      show 0 ≤ sR (fun s => cfR d ch r s * fxz fx s) m + cfR d ch r m * fxz fx m ∧ sR (fun s => cfR d ch r s * fxz fx s) m + cfR d ch r m * fxz fx m ≤ _ ∧ (_ → sR (fun s => cfR d ch r s * fxz fx s) m + cfR d ch r m * fxz fx m ≤ _)
      refine ⟨by omega, by omega, fun r0 => ?_⟩
      have := i1.2.2 r0
      rw [c1.2.2 r0, Int.one_mul]
      omega
  have s4 := sm (dn d) (Nat.le_refl _)
  refine ⟨fun k hk hk4 => ?_, ?_⟩
  · unfold Arw
    rw [if_neg hk4]
    have := cf (fl k) (by have := hfl k hk; omega)
    omega
  · unfold Arw
    rw [if_pos rfl]
    refine ⟨by omega, by omega, fun r0 => ?_⟩
    have := s4.2.2 r0
    have := rt.2.2 r0
    omega
theorem sQ_0 {f : Nat → Rat} {m : Nat} (h : ∀ s, s < m → f s = 0) : sQ f m = 0 := by rw [sQ_congr h, sQ_zero]
/-- the sum over the free stuffs, without the first -/
theorem sum_b (c : Nat → Rat) (v : Nat → Rat) (hn1 : 1 ≤ n) : sB (fun k => (c k - c 0) * v k) n = sQ (fun k => c k * v k) n - c 0 * sQ v n := by
  obtain ⟨m, rfl⟩ : ∃ m, n = m + 1 := ⟨n - 1, by omega⟩
  rw [sB_lin, sQ_sB, sQ_sB]
  grind
theorem solve_ok (hrg : Rg d) (h : ToR d I) (hw : w ≤ 40) (hx : Fxd fx I) (hf : Fre d fx n fl I) (hc : Chn ch I) (J : SJ) :
    ∃ (x : Int32) (J2 : SJ), m_R_solve (nI w) I J = some (x, I, J2) ∧ (∀ m, m ≠ 0 → m ≠ 14 → m ≠ 15 → J2 m = J m) ∧ (∀ j, j ≠ 26 → J2 0 j = J 0 j) ∧
      ((x = 0 ∧ ((n = 0 ∧ sR fx (dn d) ≠ (w : Int)) ∨ (1 ≤ n ∧ ∃ v, NulD d fx n ch v ∧ ∃ s, s < dn d ∧ v s ≠ 0))) ∨
       (x = 1 ∧ ∃ (X : Nat → Int) (u : Int), PtR d w fx X u ∧ J2 0 26 = i6 u ∧ (∀ s, s < dn d → J2 15 s = i6 (X s)) ∧ ∀ y, SolD d w fx n ch y → ∀ s, s < dn d → (X s : Rat) = (u : Rat) * y s)) := by
  have hn := hrg.1
  have hn4 := hf.2.1
  have hF : 600 < fuel := by unfold fuel; omega
  have ms : m_R_solve (nI w) I J = s7 fuel (nI w) (nI n) (nI 0) I J := by
    unfold m_R_solve b_R_solve_0
    rw [hf.1]
    rfl
  obtain ⟨F1, J1, a1, a2, a3, a4⟩ := s7_ok hrg h hw hx hf hc n 0 (by omega) fuel (by omega) J (fun r' hr' => by omega)
  rw [ms, a2]
  have hxl : ∀ s, s < 4 → -1 ≤ fx s ∧ fx s ≤ 40 := fun s hs => (hx s hs).2
  have hfl : ∀ k, k < n → fl k < dn d := fun k hk => (hf.2.2.1 k hk).2.1
  have hch : ∀ r, r < 3 → ch r < 22 := fun r hr => (hc r hr).1
  by_cases n0 : n = 0
  · subst n0
    obtain ⟨F2, rfl⟩ : ∃ F2, F1 = F2 + 1 := ⟨F1 - 1, by omega⟩
    have st : s180 (F2 + 1) (nI w) (nI 0) (i6 1) (nI 0) I J1 = s431 F2 (nI w) (nI 0) (i6 1) I J1 := by
      show b_R_solve_180 (s190 F2) (s431 F2) (nI w) (nI 0) (i6 1) (nI 0) I J1 = _
      unfold b_R_solve_180
      rw [if_pos (nI_le (Nat.le_refl 0) (by decide)), if_pos (show nI 0 = 0 from rfl)]
      rfl
    obtain ⟨sg, X, J2, b1, b2, b3, b4, b5, b6, b7, b8, b9, b10, b11⟩ := end_ok (L := 1) (Z := fun _ => 0) hrg h hw hx hf (by omega) (by omega) (by omega) (fun r hr => by omega) (F := F2) (by omega) (J := J1) (fun r hr => by omega)
    have fixd : ∀ s, s < dn d → 0 ≤ fx s := fun s hs => by
      by_cases c : fx s < 0
      · obtain ⟨k, hk, _⟩ := hf.2.2.2.1 s hs c
        omega
      · omega
    have sg1 : sg = 1 := by rcases b1 with rfl | rfl <;> omega
    subst sg1
    have eX : sR X (dn d) = sR fx (dn d) := sR_congr (fun s hs => by rw [b5 s hs (fixd s hs)]; omega)
    refine ⟨_, J2, by rw [st]; exact b7, fun m m1 m2 m3 => by rw [b11 m m1 m3, a4 m m2], fun j hj => by rw [b10 j hj, a4 0 (by decide)], ?_⟩
    by_cases c : sR X (dn d) = (w : Int) * (1 * 1)
    · refine Or.inr ⟨by rw [if_pos c], X, 1 * 1, ⟨by omega, by omega, b6, c, b5⟩, b9, b8, fun y hy s hs => ?_⟩
      rw [b5 s hs (fixd s hs), hy.1 s hs (fixd s hs), Rat.intCast_mul]
      grind
    · refine Or.inl ⟨by rw [if_neg c], Or.inl ⟨rfl, fun z => c ?_⟩⟩
      rw [eX, z]
      omega
  · have n1 : 1 ≤ n := by omega
    obtain ⟨A, eA⟩ : ∃ A, A = Arw d w fx fl ch := ⟨_, rfl⟩
    obtain ⟨b, eb⟩ : ∃ b : Nat → Nat → Int, b = fun r k => A r k - A r 0 * A 0 k := ⟨_, rfl⟩
    have hb : ∀ r k, b r k = A r k - A r 0 * A 0 k := fun r k => by rw [eb]
    have lA : ∀ r, r < 4 → (∀ k, k < n → k ≠ 4 → 0 ≤ A r k ∧ A r k ≤ 40) ∧ -6400 ≤ A r 4 ∧ A r 4 ≤ 1600 ∧ (r = 0 → -160 ≤ A r 4 ∧ A r 4 ≤ 40) := fun r hr => by rw [eA]; exact Arw_le hrg hw hxl hfl hch hr
    have A0 : ∀ k, k < n → A 0 k = 1 := fun k hk => by
      rw [eA]
      unfold Arw cfR
      rw [if_neg (by omega), if_pos rfl]
    have Ak : ∀ r k, k < n → A r k = cfR d ch r (fl k) := fun r k hk => by rw [eA]; unfold Arw; rw [if_neg (by omega)]
    have A4 : ∀ r, A r 4 = rtR d w ch r - sR (fun s => cfR d ch r s * fxz fx s) (dn d) := fun r => by rw [eA]; unfold Arw; rw [if_pos rfl]
    have hB : Bok n b := fun r h1 h2 => by
      have l := lA r (by omega)
      have l0 := l.1 0 (by omega) (by omega)
      have l4 := (lA 0 (by omega)).2.2.2 rfl
      refine ⟨fun k k1 k2 => ?_, ?_⟩
      · rw [hb, A0 k k2]
        have := l.1 k k2 (by omega)
        omega
      · rw [hb]
        have m := mulAB (a := A r 0) (A := 40) (b := A 0 4) (B := 160) (by omega) (by omega) (by omega) (by omega)
        omega
    have hR : -200 ≤ A 0 4 ∧ A 0 4 ≤ 200 := by have := (lA 0 (by omega)).2.2.2 rfl; omega
    have brk : ∀ r, r < n → ∀ k, k < n → ((b r k : Int) : Rat) = ((cfR d ch r (fl k) : Int) : Rat) - ((cfR d ch r (fl 0) : Int) : Rat) := fun r hr k hk => by
      rw [hb, A0 k hk, Ak r k hk, Ak r 0 (by omega), Int.mul_one, Rat.intCast_sub]
    rcases el_first (x1 := nI w) (I := I) n1 hn4 hb hB hR A0 rfl (fun r hr k hk hV => by
        rcases hV with rfl | hV
        · have := (lA r (by omega)).2; omega
        · have := (lA r (by omega)).1 k hV (by omega); omega) (J := J1) (fun r hr k hk hV => by rw [eA]; exact a3 r hr k hk hV) F1 (by omega) with ⟨L, Z, F2, J2, c1, c2, c3, c4, c5⟩ | ⟨⟨v, c1, k0, k1, k2, k3⟩, J2, c2, c3⟩
    · obtain ⟨F3, rfl⟩ : ∃ F3, F2 = F3 + 1 := ⟨F2 - 1, by omega⟩
      have st : s180 (F3 + 1) (nI w) (nI n) (i6 L) (nI n) I J2 = s431 F3 (nI w) (nI n) (i6 L) I J2 := by
        show b_R_solve_180 (s190 F3) (s431 F3) (nI w) (nI n) (i6 L) (nI n) I J2 = _
        unfold b_R_solve_180
        rw [if_pos (nI_le (Nat.le_refl n) (by omega)), if_neg (show ¬ nI n = 0 from fun z => n0 ((nI_inj (b := 0) (by omega) (by decide)).mp z))]
      obtain ⟨q1, q2, q3, q4, q5, q6⟩ := c1
      obtain ⟨sg, X, J3, b1, b2, b3, b4, b5, b6, b7, b8, b9, b10, b11⟩ := end_ok hrg h hw hx hf q1 q2 q3 q4 (F := F3) (by omega) (J := J2) c4
      have S0 := A4 0
      have e1 : ∀ s, cfR d ch 0 s = 1 := fun s => by unfold cfR; rw [if_pos rfl]
      have r0 : rtR d w ch 0 = (w : Int) := by unfold rtR; rw [if_pos rfl]
      -- the amounts are w together
      have sum : sR X (dn d) = (w : Int) * (L * sg) := by
        apply Rat.intCast_inj.mp
        rw [sR_cast, hf.2.2.2.2.2]
        have p1 : sQ (fun k => ((X (fl k) : Int) : Rat)) n = (sg : Rat) * ((L * A 0 4 : Int) : Rat) := by
          rw [← q5, sR_cast, ← sQ_mul]
          exact sQ_congr (fun k hk => by rw [b4 k hk, Rat.intCast_mul]; grind)
        have p2 : sQ (fun s => if fx s < 0 then 0 else ((X s : Int) : Rat)) (dn d) = ((L * sg : Int) : Rat) * ((sR (fun s => cfR d ch 0 s * fxz fx s) (dn d) : Int) : Rat) := by
          rw [sR_cast, ← sQ_mul]
          refine sQ_congr (fun s hs => ?_)
          show (if fx s < 0 then 0 else ((X s : Int) : Rat)) = ((L * sg : Int) : Rat) * ((cfR d ch 0 s * fxz fx s : Int) : Rat)
          unfold fxz
          rw [e1]
          by_cases q : fx s < 0
          · rw [if_pos q, if_pos q]
            show (0 : Rat) = _ * 0
            grind
          · rw [if_neg q, if_neg q, b5 s hs (by omega), Int.one_mul, Rat.intCast_mul (fx s)]
            grind
        rw [p1, p2, S0, r0]
        simp only [Rat.intCast_mul, Rat.intCast_sub]
        grind
      refine ⟨_, J3, by rw [c3, st]; exact b7, fun m m1 m2 m3 => by rw [b11 m m1 m3, c5 m m2, a4 m m2], fun j hj => by rw [b10 j hj, c5 0 (by decide), a4 0 (by decide)], ?_⟩
      rw [if_pos sum]
      refine Or.inr ⟨rfl, X, L * sg, ⟨b2, b3, b6, sum, b5⟩, b9, b8, fun y hy => ?_⟩
      obtain ⟨y1, y2, y3⟩ := hy
      -- the free ones' sums
      have fs : ∀ c : Nat → Int, sQ (fun s => (c s : Rat) * y s) (dn d) = sQ (fun k => (c (fl k) : Rat) * y (fl k)) n + ((sR (fun s => c s * fxz fx s) (dn d) : Int) : Rat) := fun c => by
        rw [hf.2.2.2.2.2, fix_sum fx c y y1]
      have f0 : sQ (fun k => y (fl k)) n = ((A 0 4 : Int) : Rat) := by
        have := fs (cfR d ch 0)
        simp only [e1] at this
        have t1 : sQ (fun s => ((1 : Int) : Rat) * y s) (dn d) = sQ y (dn d) := sQ_congr (fun s _ => by show 1 * y s = y s; grind)
        have t2 : sQ (fun k => ((1 : Int) : Rat) * y (fl k)) n = sQ (fun k => y (fl k)) n := sQ_congr (fun s _ => by show 1 * y (fl s) = y (fl s); grind)
        rw [t1, t2, y2] at this
        rw [S0, r0, Rat.intCast_sub]
        simp only [e1]
        grind
      have hS : Sol n b (fun k => y (fl k)) := fun r h1 h2 => by
        obtain ⟨r', rfl⟩ : ∃ r', r = r' + 1 := ⟨r - 1, by omega⟩
        have cr : ∀ s, cfR d ch (r' + 1) s = fac d (ch r') s := fun s => by unfold cfR; rw [if_neg (by omega), Nat.add_sub_cancel]
        have rr : rtR d w ch (r' + 1) = rgt d w (ch r') := by unfold rtR; rw [if_neg (by omega), Nat.add_sub_cancel]
        have g := fs (cfR d ch (r' + 1))
        have g3 := y3 r' h2
        have g4 : sQ (fun s => ((cfR d ch (r' + 1) s : Int) : Rat) * y s) (dn d) = ((rtR d w ch (r' + 1) : Int) : Rat) := by
          rw [rr, ← g3]
          exact sQ_congr (fun s _ => by rw [cr])
        rw [g4] at g
        have g5 : sB (fun k => (b (r' + 1) k : Rat) * y (fl k)) n = sB (fun k => (((cfR d ch (r' + 1) (fl k) : Int) : Rat) - ((cfR d ch (r' + 1) (fl 0) : Int) : Rat)) * y (fl k)) n := sB_congr (fun k h1 h2 => by rw [brk (r' + 1) (by omega) k h2])
        rw [g5, sum_b (fun k => ((cfR d ch (r' + 1) (fl k) : Int) : Rat)) (fun k => y (fl k)) n1, f0, hb, A4 (r' + 1), Ak (r' + 1) 0 (by omega)]
        simp only [Rat.intCast_sub, Rat.intCast_mul]
        grind
      have zk : ∀ k, k < n → (Z k : Rat) = (L : Rat) * y (fl k) := fun k hk => by
        by_cases e : k = 0
        · subst e
          have t := congrArg (fun z : Int => (z : Rat)) q5
          simp only [sR_cast, Rat.intCast_mul] at t
          rw [← f0] at t
          obtain ⟨m, rfl⟩ : ∃ m, n = m + 1 := ⟨n - 1, by omega⟩
          rw [sQ_sB, sQ_sB] at t
          have t2 : sB (fun s => (Z s : Rat)) (m + 1) = (L : Rat) * sB (fun k => y (fl k)) (m + 1) := by
            have l := sB_lin (fun _ => 0) (fun k => y (fl k)) (-(L : Rat)) (m + 1)
            have z0 : sB (fun k => (0 : Rat) * y (fl k)) (m + 1) = 0 := by
              have := sB_neg (fun k => (0 : Rat) * y (fl k)) (m + 1)
              have e0 : sB (fun k => -((0 : Rat) * y (fl k))) (m + 1) = sB (fun k => (0 : Rat) * y (fl k)) (m + 1) := sB_congr (fun k _ _ => by grind)
              grind
            rw [z0] at l
            have e2 : sB (fun s => (Z s : Rat)) (m + 1) = sB (fun k => ((0 : Rat) - -(L : Rat)) * y (fl k)) (m + 1) := sB_congr (fun k h1 h2 => by rw [q6 _ hS k h1 h2]; grind)
            rw [e2, l]
            grind
          rw [t2] at t
          grind
        · exact q6 _ hS k (by omega) hk
      intro s hs
      by_cases c : fx s < 0
      · obtain ⟨k, hk, rfl⟩ := hf.2.2.2.1 s hs c
        rw [b4 k hk, Rat.intCast_mul, zk k hk, Rat.intCast_mul]
        grind
      · rw [b5 s hs (by omega), y1 s hs (by omega), Rat.intCast_mul (fx s)]
        grind
    · refine ⟨0, J2, c2, fun m m1 m2 m3 => by rw [c3 m m2, a4 m m2], fun j hj => by rw [c3 0 (by decide), a4 0 (by decide)], Or.inl ⟨rfl, Or.inr ⟨n1, ?_⟩⟩⟩
      obtain ⟨v', ev⟩ : ∃ v' : Nat → Rat, v' = fun k => if k = 0 then -sB v n else v k := ⟨_, rfl⟩
      obtain ⟨V, eV⟩ : ∃ V : Nat → Rat, V = fun s => if fx s < 0 then v' (ivf fl s) else 0 := ⟨_, rfl⟩
      have V1 : ∀ k, k < n → V (fl k) = v' k := fun k hk => by
        rw [eV]
        show (if fx (fl k) < 0 then v' (ivf fl (fl k)) else 0) = _
        rw [if_pos (hf.2.2.1 k hk).2.2, ivf_ok hn4 hf.2.2.2.2.1 hk]
      have V2 : ∀ s, 0 ≤ fx s → V s = 0 := fun s hs => by
        rw [eV]
        show (if fx s < 0 then _ else (0 : Rat)) = _
        rw [if_neg (by omega)]
      have vs : sQ v' n = 0 := by
        obtain ⟨m, rfl⟩ : ∃ m, n = m + 1 := ⟨n - 1, by omega⟩
        rw [sQ_sB, ev]
        show -sB v (m + 1) + _ = 0
        have : sB (fun k => if k = 0 then -sB v (m + 1) else v k) (m + 1) = sB v (m + 1) := sB_congr (fun k h1 h2 => by rw [if_neg (by omega)])
        rw [this]
        grind
      have fs : ∀ c : Nat → Rat, sQ (fun s => c s * V s) (dn d) = sQ (fun k => c (fl k) * v' k) n := fun c => by
        rw [hf.2.2.2.2.2]
        have z : sQ (fun s => if fx s < 0 then 0 else c s * V s) (dn d) = 0 := sQ_0 (fun s hs => by
          by_cases q : fx s < 0
          · rw [if_pos q]
          · rw [if_neg q, V2 s (by omega)]; grind)
        rw [z, sQ_congr (fun k hk => by rw [V1 k hk])]
        grind
      refine ⟨V, ⟨fun s _ hs => V2 s hs, ?_, fun r hr => ?_⟩, fl k0, hfl k0 k2, ?_⟩
      · have := fs (fun _ => 1)
        have t1 : sQ (fun s => (1 : Rat) * V s) (dn d) = sQ V (dn d) := sQ_congr (fun s _ => by grind)
        have t2 : sQ (fun k => (1 : Rat) * v' k) n = sQ v' n := sQ_congr (fun s _ => by grind)
        rw [t1, t2, vs] at this
        exact this
      · have cr : ∀ s, cfR d ch (r + 1) s = fac d (ch r) s := fun s => by unfold cfR; rw [if_neg (by omega), Nat.add_sub_cancel]
        rw [fs (fun s => (fac d (ch r) s : Rat))]
        have g := c1 (r + 1) (by omega) hr
        have g2 : sB (fun k => (b (r + 1) k : Rat) * v k) n = sB (fun k => (((cfR d ch (r + 1) (fl k) : Int) : Rat) - ((cfR d ch (r + 1) (fl 0) : Int) : Rat)) * v' k) n := sB_congr (fun k h1 h2 => by
          rw [brk (r + 1) hr k h2, ev]
          show _ = _ * (if k = 0 then _ else v k)
          rw [if_neg (by omega)])
        rw [g2, sum_b (fun k => ((cfR d ch (r + 1) (fl k) : Int) : Rat)) v' n1, vs] at g
        simp only [cr] at g
        grind
      · rw [V1 k0 k2, ev]
        show (if k0 = 0 then _ else v k0) ≠ 0
        rw [if_neg (by omega)]
        exact k3
end SK
