/-! Which corners suffice. -/
section GO
variable {d : Dt} {w n : Nat} {fx : Nat → Int} {fl : Nat → Nat} {S : Nat → Prop}
abbrev FrP (d : Dt) (fx : Nat → Int) (n : Nat) (fl : Nat → Nat) : Prop := n ≤ 4 ∧ (∀ k, k < n → fl k < dn d ∧ fx (fl k) < 0) ∧ (∀ s, s < dn d → fx s < 0 → ∃ k, k < n ∧ fl k = s) ∧ ∀ f : Nat → Rat, sQ f (dn d) = sQ (fun k => f (fl k)) n + sQ (fun s => if fx s < 0 then 0 else f s) (dn d)
def fr1 (d : Dt) (fx : Nat → Int) (s : Nat) : Nat := if s < dn d ∧ fx s < 0 then 1 else 0
theorem sQ_one : ∀ m, sQ (fun _ => 1) m = ((m : Int) : Rat)
  | 0 => rfl
  | m + 1 => by
    show sQ (fun _ => 1) m + 1 = (((m + 1 : Nat) : Int) : Rat)
    rw [sQ_one m, show ((m + 1 : Nat) : Int) = (m : Int) + 1 from rfl, Rat.intCast_add]
    rfl
/-- how many are free -/
theorem fr_count (hn : dn d ≤ 4) (h : FrP d fx n fl) : n = fr1 d fx 0 + fr1 d fx 1 + fr1 d fx 2 + fr1 d fx 3 := by
  obtain ⟨h1, h2, h3, h4⟩ := h
  have g := h4 (fun s => ((fr1 d fx s : Int) : Rat))
  have a : sQ (fun k => ((fr1 d fx (fl k) : Int) : Rat)) n = sQ (fun _ => 1) n := sQ_congr (fun k hk => by
    unfold fr1
    rw [if_pos (h2 k hk)]
    rfl)
  have b : sQ (fun s => if fx s < 0 then 0 else ((fr1 d fx s : Int) : Rat)) (dn d) = 0 := sQ_0 (fun s hs => by
    by_cases c : fx s < 0
    · rw [if_pos c]
    · rw [if_neg c]
      unfold fr1
      rw [if_neg (by omega)]
      rfl)
  rw [a, b, sQ_one, ← sQ_4 hn (A := fun s => ((fr1 d fx s : Int) : Rat)) (fun s h1 h2 => by unfold fr1; rw [if_neg (by omega)]; rfl)] at g
  have e : (((fr1 d fx 0 + fr1 d fx 1 + fr1 d fx 2 + fr1 d fx 3 : Nat) : Int) : Rat) = ((n : Int) : Rat) := by
    have t : ((n : Int) : Rat) = ((fr1 d fx 0 : Int) : Rat) + ((fr1 d fx 1 : Int) : Rat) + ((fr1 d fx 2 : Int) : Rat) + ((fr1 d fx 3 : Int) : Rat) := by rw [g]; grind
    rw [t, ← Rat.intCast_add, ← Rat.intCast_add, ← Rat.intCast_add]
    rfl
  have := Rat.intCast_inj.mp e
  omega
theorem fr_nf (s : Nat) : (fr1 d fx s = 0 ∧ NF d fx s) ∨ (fr1 d fx s = 1 ∧ s < dn d ∧ fx s < 0) := by
  unfold fr1 NF
  by_cases c : s < dn d ∧ fx s < 0
  · rw [if_pos c]; exact Or.inr ⟨rfl, c⟩
  · rw [if_neg c]; exact Or.inl ⟨rfl, by omega⟩
/-- a direction in terms of amounts -/
theorem nul_dir (hn : dn d ≤ 4) {v : Nat → Rat} (h1 : ∀ s, s < dn d → 0 ≤ fx s → v s = 0) (h2 : sQ v (dn d) = 0) :
    ∃ x y z : Rat, (∀ s, s < dn d → am 0 x y z s = v s) ∧ (∀ s, s < 4 → NF d fx s → am 0 x y z s = 0) ∧ ∀ b, s4R d b (am 0 x y z) = sQ (fun s => (fac d b s : Rat) * v s) (dn d) := by
  obtain ⟨v', ev⟩ : ∃ v' : Nat → Rat, v' = fun s => if s < dn d then v s else 0 := ⟨_, rfl⟩
  have v1 : ∀ s, s < dn d → v' s = v s := fun s hs => by rw [ev]; show (if s < dn d then v s else 0) = _; rw [if_pos hs]
  have v2 : ∀ s, dn d ≤ s → s < 4 → v' s = 0 := fun s hs _ => by rw [ev]; show (if s < dn d then v s else 0) = _; rw [if_neg (by omega)]
  have sm : v' 0 + v' 1 + v' 2 + v' 3 = 0 := by rw [sQ_4 hn v2, sQ_congr v1, h2]
  have a4 : ∀ s, s < 4 → am 0 (v' 0) (v' 1) (v' 2) s = v' s := fun s hs => by
    match s, hs with
    | 0, _ => rfl
    | 1, _ => rfl
    | 2, _ => rfl
    | 3, _ =>
      show (0 : Rat) - v' 0 - v' 1 - v' 2 = v' 3
      grind
  refine ⟨v' 0, v' 1, v' 2, fun s hs => by rw [a4 s (by omega), v1 s hs], fun s hs hnf => ?_, fun b => ?_⟩
  · rw [a4 s hs]
    by_cases c : s < dn d
    · rw [v1 s c]
      exact h1 s c (hnf.resolve_left (by omega))
    · exact v2 s (by omega) hs
  · rw [s4_sQ hn b (fun s q1 q2 => by rw [a4 s q2]; exact v2 s q1 q2)]
    exact sQ_congr (fun s hs => by rw [a4 s (by omega), v1 s hs])
theorem cor_of (hn : dn d ≤ 4) {ch : Nat → Nat} {x y z : Rat} (hq : Qr d w S fx x y z) (ht : ∀ r, r + 1 < n → TgR d w (ch r) x y z)
    (hd : ∀ x y z : Rat, (∀ s, s < 4 → NF d fx s → am 0 x y z s = 0) → (∀ r, r + 1 < n → s4R d (ch r) (am 0 x y z) = 0) → ∀ s, s < dn d → am 0 x y z s = 0) : Cor d w fx n ch x y z := by
  have div : ∀ (f : Nat → Rat) (m : Nat), sQ (fun s => f s / 10) m = sQ f m / 10 := fun f m => by
    have := sQ_mul (1 / 10) f m
    have e : sQ (fun s => 1 / 10 * f s) m = sQ (fun s => f s / 10) m := sQ_congr (fun s _ => by grind)
    rw [← e, this]
    grind
  refine ⟨⟨fun s hs hf => ?_, ?_, fun r hr => ?_⟩, fun v hv s hs => ?_⟩
  · show am (10 * w) x y z s / 10 = _
    rw [hq.2.1 s hs hf]
    grind
  · rw [div]
    have := am_sum (10 * w) x y z
    rw [sQ_4 hn (A := am (10 * w) x y z) (fun s h1 h2 => hq.1 s h2 h1)] at this
    rw [this, Rat.intCast_mul]
    have e10 : ((10 : Int) : Rat) = 10 := rfl
    rw [e10]
    grind
  · have t := ht r hr
    unfold TgR at t
    have e : sQ (fun s => (fac d (ch r) s : Rat) * (am (10 * w) x y z s / 10)) (dn d) = sQ (fun s => ((fac d (ch r) s : Rat) * am (10 * w) x y z s) / 10) (dn d) := sQ_congr (fun s _ => by grind)
    rw [e, div, t]
    grind
  · obtain ⟨x', y', z', g1, g2, g3⟩ := nul_dir (fx := fx) hn hv.1 hv.2.1
    rw [← g1 s hs]
    exact hd x' y' z' g2 (fun r hr => by rw [g3, hv.2.2 r hr]) s hs
theorem am0_all {x y z : Rat} (h : x = 0 ∧ y = 0 ∧ z = 0) : ∀ s, s < 4 → am 0 x y z s = 0 := by
  obtain ⟨rfl, rfl, rfl⟩ := h
  intro s hs
  match s, hs with
  | 0, _ => rfl
  | 1, _ => rfl
  | 2, _ => rfl
  | 3, _ => show (0 : Rat) - 0 - 0 - 0 = 0; grind
theorem tg_of (hn : dn d ≤ 4) {b : Nat} {x y z : Rat} (hq : Qr d w S fx x y z) (h : co_d (conR d w b) x y z = (conR d w b).2) : TgR d w b x y z := by
  have e10 : ((10 : Int) : Rat) = 10 := rfl
  have p := con_pl (conR_or d w b) h
  have e := co_pb d b (lbR d w b) (10 * w) x y z
  rw [s4_sQ hn b (fun s h1 h2 => hq.1 s h2 h1), p] at e
  unfold TgR
  rw [← e]
  unfold lbR
  rw [Rat.intCast_sub, Rat.intCast_mul, Rat.intCast_mul (fac d b 3), e10]
  grind
theorem det3_ne (a b c : Con3) (h : det3 a b c ≠ 0) : a ≠ b ∧ a ≠ c ∧ b ≠ c := by
  refine ⟨?_, ?_, ?_⟩
  · rintro rfl; apply h; unfold det3; grind
  · rintro rfl; apply h; unfold det3; grind
  · rintro rfl; apply h; unfold det3; grind
theorem det3_ng1 (a b c : Con3) (h : det3 a b c ≠ 0) : b ≠ ng a ∧ c ≠ ng a := by
  refine ⟨?_, ?_⟩
  · rintro rfl; apply h; unfold det3 ng; grind
  · rintro rfl; apply h; unfold det3 ng; grind
theorem det3_ng2 (a b c : Con3) (h : det3 a b c ≠ 0) : c ≠ ng b := by
  rintro rfl; apply h; unfold det3 ng; grind
/-- the looked-at corners -/
def Seen (d : Dt) (w : Nat) (fx : Nat → Int) (n : Nat) (S : Nat → Prop) (x y z : Rat) : Prop := ∃ a b c, ((if n ≤ 1 then 21 else 0) ≤ a ∧ a < 22 ∧ (n ≤ 1 ∨ S a)) ∧ ((if n ≤ 2 then 21 else a + 1) ≤ b ∧ b < 22 ∧ (n ≤ 2 ∨ S b)) ∧ ((if n ≤ 3 then 21 else b + 1) ≤ c ∧ c < 22 ∧ (n ≤ 3 ∨ S c)) ∧ Cor d w fx n (chv a b c) x y z
theorem geo_ok (hn : dn d ≤ 4) (hf : FrP d fx n fl) (h18 : ∀ s, s < dn d → S (18 + s)) {x y z : Rat} (hq : Qr d w S fx x y z) :
    ∃ x' y' z', Qr d w S fx x' y' z' ∧ kle (wv (prd d)) x' y' z' x y z ∧ Seen d w fx n S x' y' z' := by
  have cnt := fr_count hn hf
  have f0 := fr_nf (d := d) (fx := fx) 0
  have f1 := fr_nf (d := d) (fx := fx) 1
  have f2 := fr_nf (d := d) (fx := fx) 2
  have f3 := fr_nf (d := d) (fx := fx) 3
  obtain ⟨cs, hcs⟩ := cs_ex S (NF d fx) (conR d w) (eqR d w fx) (fun s => ng (eqR d w fx s))
  have hF := (Fe_iff (w := w) hn hcs x y z).mpr hq
  have hB := Bd_ok (w := w) h18 hcs
  have tight : ∀ {s : Nat} {x y z : Rat}, s < 4 → NF d fx s → Fe3 cs x y z → co_d (eqR d w fx s) x y z = (eqR d w fx s).2 := fun {s x y z} hs hnf h => by
    have q1 := h _ ((hcs _).mpr (Or.inr ⟨s, hs, hnf, Or.inl rfl⟩))
    have q2 := h _ ((hcs _).mpr (Or.inr ⟨s, hs, hnf, Or.inr rfl⟩))
    rw [ng_d] at q2
    have q3 : (ng (eqR d w fx s)).2 = -(eqR d w fx s).2 := rfl
    rw [q3] at q2
    grind
  -- a bound's plane, as a direction
  have cdir : ∀ {b : Nat} {x y z : Rat}, s4R d b (am 0 x y z) = 0 → co_d (conR d w b) x y z = 0 := fun {b x y z} h => by
    rcases conR_or d w b with e | e
    · rw [e, pb_dir, h]
    · rw [e, ng_d, pb_dir, h]; grind
  have n4 : n = 0 ∨ n = 1 ∨ n = 2 ∨ n = 3 ∨ n = 4 := by have := hf.1; omega
  rcases n4 with n4 | n4 | n4 | n4 | n4
  · -- nothing is free
    have nf : ∀ s, s < 4 → NF d fx s := fun s hs => by
      match s, hs with
      | 0, _ => rcases f0 with ⟨-, h⟩ | ⟨h, -⟩; exact h; omega
      | 1, _ => rcases f1 with ⟨-, h⟩ | ⟨h, -⟩; exact h; omega
      | 2, _ => rcases f2 with ⟨-, h⟩ | ⟨h, -⟩; exact h; omega
      | 3, _ => rcases f3 with ⟨-, h⟩ | ⟨h, -⟩; exact h; omega
    refine ⟨x, y, z, hq, kle_refl, 21, 21, 21, ⟨by rw [if_pos (by omega)]; omega, by omega, Or.inl (by omega)⟩, ⟨by rw [if_pos (by omega)]; omega, by omega, Or.inl (by omega)⟩, ⟨by rw [if_pos (by omega)]; omega, by omega, Or.inl (by omega)⟩, cor_of hn hq (fun r hr => by omega) (fun x y z h1 _ s hs => h1 s (by omega) (nf s (by omega)))⟩
  · -- one is free
    refine ⟨x, y, z, hq, kle_refl, 21, 21, 21, ⟨by rw [if_pos (by omega)]; omega, by omega, Or.inl (by omega)⟩, ⟨by rw [if_pos (by omega)]; omega, by omega, Or.inl (by omega)⟩, ⟨by rw [if_pos (by omega)]; omega, by omega, Or.inl (by omega)⟩, cor_of hn hq (fun r hr => by omega) (fun x y z h1 _ s hs => ?_)⟩
    have sm := am0_sum x y z
    have g : ∀ s, s < 4 → fr1 d fx s = 0 → am 0 x y z s = 0 := fun s hs e => h1 s hs (by rcases fr_nf (d := d) (fx := fx) s with ⟨-, h⟩ | ⟨h, -⟩; exact h; omega)
    have c : (fr1 d fx 0 = 1 ∧ fr1 d fx 1 = 0 ∧ fr1 d fx 2 = 0 ∧ fr1 d fx 3 = 0) ∨ (fr1 d fx 0 = 0 ∧ fr1 d fx 1 = 1 ∧ fr1 d fx 2 = 0 ∧ fr1 d fx 3 = 0) ∨ (fr1 d fx 0 = 0 ∧ fr1 d fx 1 = 0 ∧ fr1 d fx 2 = 1 ∧ fr1 d fx 3 = 0) ∨ (fr1 d fx 0 = 0 ∧ fr1 d fx 1 = 0 ∧ fr1 d fx 2 = 0 ∧ fr1 d fx 3 = 1) := by omega
    have all : ∀ s, s < 4 → am 0 x y z s = 0 := by
      rcases c with ⟨c0, c1, c2, c3⟩ | ⟨c0, c1, c2, c3⟩ | ⟨c0, c1, c2, c3⟩ | ⟨c0, c1, c2, c3⟩
      · have e1 := g 1 (by omega) c1; have e2 := g 2 (by omega) c2; have e3 := g 3 (by omega) c3
        intro s hs
        match s, hs with
        | 0, _ => grind
        | 1, _ => exact e1
        | 2, _ => exact e2
        | 3, _ => exact e3
      · have e1 := g 0 (by omega) c0; have e2 := g 2 (by omega) c2; have e3 := g 3 (by omega) c3
        intro s hs
        match s, hs with
        | 0, _ => exact e1
        | 1, _ => grind
        | 2, _ => exact e2
        | 3, _ => exact e3
      · have e1 := g 0 (by omega) c0; have e2 := g 1 (by omega) c1; have e3 := g 3 (by omega) c3
        intro s hs
        match s, hs with
        | 0, _ => exact e1
        | 1, _ => exact e2
        | 2, _ => grind
        | 3, _ => exact e3
      · have e1 := g 0 (by omega) c0; have e2 := g 1 (by omega) c1; have e3 := g 2 (by omega) c2
        intro s hs
        match s, hs with
        | 0, _ => exact e1
        | 1, _ => exact e2
        | 2, _ => exact e3
        | 3, _ => grind
    exact all s (by omega)
  · -- two are free
    obtain ⟨e, e', h1, h2, h3, h4⟩ : ∃ e e', e < e' ∧ e' < 4 ∧ NF d fx e ∧ NF d fx e' := by
      rcases f0 with ⟨a0, g0⟩ | ⟨a0, g0⟩
      · rcases f1 with ⟨a1, g1⟩ | ⟨a1, g1⟩
        · exact ⟨0, 1, by omega, by omega, g0, g1⟩
        · rcases f2 with ⟨a2, g2⟩ | ⟨a2, g2⟩
          · exact ⟨0, 2, by omega, by omega, g0, g2⟩
          · rcases f3 with ⟨a3, g3⟩ | ⟨a3, g3⟩
            · exact ⟨0, 3, by omega, by omega, g0, g3⟩
            · omega
      · rcases f1 with ⟨a1, g1⟩ | ⟨a1, g1⟩
        · rcases f2 with ⟨a2, g2⟩ | ⟨a2, g2⟩
          · exact ⟨1, 2, by omega, by omega, g1, g2⟩
          · rcases f3 with ⟨a3, g3⟩ | ⟨a3, g3⟩
            · exact ⟨1, 3, by omega, by omega, g1, g3⟩
            · omega
        · rcases f2 with ⟨a2, g2⟩ | ⟨a2, g2⟩
          · rcases f3 with ⟨a3, g3⟩ | ⟨a3, g3⟩
            · exact ⟨2, 3, by omega, by omega, g2, g3⟩
            · omega
          · omega
    have two : ∀ s, s < 4 → NF d fx s → s = e ∨ s = e' := fun s hs hnf => by
      have z : ∀ s, NF d fx s → fr1 d fx s = 0 := fun s hnf => by unfold fr1 NF at *; rw [if_neg (by omega)]
      have t1 := z e h3
      have t2 := z e' h4
      have t3 := z s hnf
      have c : (e = 0 ∧ e' = 1) ∨ (e = 0 ∧ e' = 2) ∨ (e = 0 ∧ e' = 3) ∨ (e = 1 ∧ e' = 2) ∨ (e = 1 ∧ e' = 3) ∨ (e = 2 ∧ e' = 3) := by omega
      have cs : s = 0 ∨ s = 1 ∨ s = 2 ∨ s = 3 := by omega
      have u : ∀ s, fr1 d fx s ≤ 1 := fun s => by unfold fr1; split <;> omega
      have u0 := u 0; have u1 := u 1; have u2 := u 2; have u3 := u 3
      rcases c with ⟨rfl, rfl⟩ | ⟨rfl, rfl⟩ | ⟨rfl, rfl⟩ | ⟨rfl, rfl⟩ | ⟨rfl, rfl⟩ | ⟨rfl, rfl⟩ <;> rcases cs with rfl | rfl | rfl | rfl <;> omega
    have nc : ¬ crs0 (eqR d w fx e) (eqR d w fx e') := by
      have i := ind2 d h1 h2
      unfold crs0
      intro hc
      apply i
      have c0 : ∀ z : Int, ((z : Int) : Rat) = 0 → z = 0 := fun z hz => Rat.intCast_eq_zero_iff.mp hz
      refine ⟨c0 _ ?_, c0 _ ?_, c0 _ ?_⟩
      · have := hc.1
        show ((slp d e 1 * slp d e' 2 - slp d e 2 * slp d e' 1 : Int) : Rat) = 0
        rw [Rat.intCast_sub, Rat.intCast_mul, Rat.intCast_mul]
        exact this
      · have := hc.2.1
        show ((slp d e 2 * slp d e' 0 - slp d e 0 * slp d e' 2 : Int) : Rat) = 0
        rw [Rat.intCast_sub, Rat.intCast_mul, Rat.intCast_mul]
        exact this
      · have := hc.2.2
        show ((slp d e 0 * slp d e' 1 - slp d e 1 * slp d e' 0 : Int) : Rat) = 0
        rw [Rat.intCast_sub, Rat.intCast_mul, Rat.intCast_mul]
        exact this
    obtain ⟨c, hc, hd, x', y', z', g1, g2, g3, g4, g5⟩ := vtx2 (w := wv (prd d)) hF hB (tight (by omega) h3 hF) (tight h2 h4 hF) nc
    have hq' := (Fe_iff (w := w) hn hcs x' y' z').mp g1
    rcases (hcs c).mp hc with ⟨b, hb, hs, rfl⟩ | ⟨s, hs, hnf, hcc⟩
    · refine ⟨x', y', z', hq', g2, b, 21, 21, ⟨by rw [if_neg (by omega)]; omega, hb, Or.inr hs⟩, ⟨by rw [if_pos (by omega)]; omega, by omega, Or.inl (by omega)⟩, ⟨by rw [if_pos (by omega)]; omega, by omega, Or.inl (by omega)⟩, cor_of hn hq' (fun r hr => ?_) (fun x y z k1 k2 s hs => ?_)⟩
      · have : r = 0 := by omega
        subst this
        exact tg_of hn hq' g5
      · have k3 : s4R d b (am 0 x y z) = 0 := k2 0 (by omega)
        exact am0_all (det_null hd (by rw [eq_dir e (by omega)]; exact k1 e (by omega) h3) (by rw [eq_dir e' h2]; exact k1 e' h2 h4) (cdir k3)) s (by omega)
    · exfalso
      have ne := det3_ne _ _ _ hd
      have n1 := (det3_ng1 _ _ _ hd).2
      have n2 := det3_ng2 _ _ _ hd
      rcases two s hs hnf with rfl | rfl
      · rcases hcc with rfl | rfl
        · exact ne.2.1 rfl
        · exact n1 rfl
      · rcases hcc with rfl | rfl
        · exact ne.2.2 rfl
        · exact n2 rfl
  · -- three are free
    obtain ⟨e, h1, h2⟩ : ∃ e, e < 4 ∧ NF d fx e := by
      rcases f0 with ⟨a0, g0⟩ | ⟨a0, g0⟩
      · exact ⟨0, by omega, g0⟩
      · rcases f1 with ⟨a1, g1⟩ | ⟨a1, g1⟩
        · exact ⟨1, by omega, g1⟩
        · rcases f2 with ⟨a2, g2⟩ | ⟨a2, g2⟩
          · exact ⟨2, by omega, g2⟩
          · rcases f3 with ⟨a3, g3⟩ | ⟨a3, g3⟩
            · exact ⟨3, by omega, g3⟩
            · omega
    have onl : ∀ s, s < 4 → NF d fx s → s = e := fun s hs hnf => by
      have z : ∀ s, NF d fx s → fr1 d fx s = 0 := fun s hnf => by unfold fr1 NF at *; rw [if_neg (by omega)]
      have t1 := z e h2
      have t3 := z s hnf
      have c : e = 0 ∨ e = 1 ∨ e = 2 ∨ e = 3 := by omega
      have cs : s = 0 ∨ s = 1 ∨ s = 2 ∨ s = 3 := by omega
      have u : ∀ s, fr1 d fx s ≤ 1 := fun s => by unfold fr1; split <;> omega
      have u0 := u 0; have u1 := u 1; have u2 := u 2; have u3 := u 3
      rcases c with rfl | rfl | rfl | rfl <;> rcases cs with rfl | rfl | rfl | rfl <;> omega
    have nz : ¬ ((eqR d w fx e).1.1 = 0 ∧ (eqR d w fx e).1.2.1 = 0 ∧ (eqR d w fx e).1.2.2 = 0) := by
      intro hc
      apply ind1 d h1
      have c0 : ∀ z : Int, ((z : Int) : Rat) = 0 → z = 0 := fun z hz => Rat.intCast_eq_zero_iff.mp hz
      exact ⟨c0 _ hc.1, c0 _ hc.2.1, c0 _ hc.2.2⟩
    obtain ⟨b, hb, c, hc, hd, x', y', z', g1, g2, g3, g4, g5⟩ := vtx1 (w := wv (prd d)) hF hB (tight h1 h2 hF) nz
    have hq' := (Fe_iff (w := w) hn hcs x' y' z').mp g1
    have ne := det3_ne _ _ _ hd
    have n1 := det3_ng1 _ _ _ hd
    obtain ⟨i, hi, hsi, ei⟩ : ∃ i, i < 22 ∧ S i ∧ b = conR d w i := by
      rcases (hcs b).mp hb with h | ⟨s, hs, hnf, hcc⟩
      · exact h
      · exfalso
        have := onl s hs hnf
        subst this
        rcases hcc with rfl | rfl
        · exact ne.1 rfl
        · exact n1.1 rfl
    obtain ⟨j, hj, hsj, ej⟩ : ∃ i, i < 22 ∧ S i ∧ c = conR d w i := by
      rcases (hcs c).mp hc with h | ⟨s, hs, hnf, hcc⟩
      · exact h
      · exfalso
        have := onl s hs hnf
        subst this
        rcases hcc with rfl | rfl
        · exact ne.2.1 rfl
        · exact n1.2 rfl
    subst ei ej
    have hij : i ≠ j := fun z => ne.2.2 (by rw [z])
    have fin : ∀ p q, p < q → q < 22 → S p → S q → TgR d w p x' y' z' → TgR d w q x' y' z' → (∀ x y z : Rat, s4R d p (am 0 x y z) = 0 → s4R d q (am 0 x y z) = 0 → s4R d i (am 0 x y z) = 0 ∧ s4R d j (am 0 x y z) = 0) → ∃ x' y' z', Qr d w S fx x' y' z' ∧ kle (wv (prd d)) x' y' z' x y z ∧ Seen d w fx n S x' y' z' := fun p q l1 l2 s1 s2 t1 t2 hh => by
      refine ⟨x', y', z', hq', g2, p, q, 21, ⟨by rw [if_neg (by omega)]; omega, by omega, Or.inr s1⟩, ⟨by rw [if_neg (by omega)]; omega, l2, Or.inr s2⟩, ⟨by rw [if_pos (by omega)]; omega, by omega, Or.inl (by omega)⟩, cor_of hn hq' (fun r hr => ?_) (fun x y z k1 k2 s hs => ?_)⟩
      · have : r = 0 ∨ r = 1 := by omega
        rcases this with rfl | rfl
        · exact t1
        · exact t2
      · have k3 : s4R d p (am 0 x y z) = 0 := k2 0 (by omega)
        have k4 : s4R d q (am 0 x y z) = 0 := k2 1 (by omega)
        obtain ⟨k5, k6⟩ := hh x y z k3 k4
        exact am0_all (det_null hd (by rw [eq_dir e h1]; exact k1 e h1 h2) (cdir k5) (cdir k6)) s (by omega)
    by_cases l : i < j
    · exact fin i j l hj hsi hsj (tg_of hn hq' g4) (tg_of hn hq' g5) (fun _ _ _ a b => ⟨a, b⟩)
    · exact fin j i (by omega) hi hsj hsi (tg_of hn hq' g5) (tg_of hn hq' g4) (fun _ _ _ a b => ⟨b, a⟩)
  · -- all are free
    have nof : ∀ s, s < 4 → ¬ NF d fx s := fun s hs hnf => by
      have z : fr1 d fx s = 0 := by unfold fr1 NF at *; rw [if_neg (by omega)]
      have u : ∀ s, fr1 d fx s ≤ 1 := fun s => by unfold fr1; split <;> omega
      have u0 := u 0; have u1 := u 1; have u2 := u 2; have u3 := u 3
      have cs : s = 0 ∨ s = 1 ∨ s = 2 ∨ s = 3 := by omega
      rcases cs with rfl | rfl | rfl | rfl <;> omega
    obtain ⟨a, ha, b, hb, c, hc, hd, x', y', z', g1, g2, g3, g4, g5⟩ := vtx0 (w := wv (prd d)) hF hB
    have hq' := (Fe_iff (w := w) hn hcs x' y' z').mp g1
    have ne := det3_ne _ _ _ hd
    have get : ∀ k, k ∈ cs → ∃ i, i < 22 ∧ S i ∧ k = conR d w i := fun k hk => by
      rcases (hcs k).mp hk with h | ⟨s, hs, hnf, -⟩
      · exact h
      · exact absurd hnf (nof s hs)
    obtain ⟨i, hi, hsi, ei⟩ := get a ha
    obtain ⟨j, hj, hsj, ej⟩ := get b hb
    obtain ⟨k, hk, hsk, ek⟩ := get c hc
    subst ei ej ek
    have hij : i ≠ j := fun z => ne.1 (by rw [z])
    have hik : i ≠ k := fun z => ne.2.1 (by rw [z])
    have hjk : j ≠ k := fun z => ne.2.2 (by rw [z])
    have ti := tg_of hn hq' g3
    have tj := tg_of hn hq' g4
    have tk := tg_of hn hq' g5
    have fin : ∀ p q r, p < q → q < r → r < 22 → S p → S q → S r → TgR d w p x' y' z' → TgR d w q x' y' z' → TgR d w r x' y' z' → (∀ x y z : Rat, s4R d p (am 0 x y z) = 0 → s4R d q (am 0 x y z) = 0 → s4R d r (am 0 x y z) = 0 → s4R d i (am 0 x y z) = 0 ∧ s4R d j (am 0 x y z) = 0 ∧ s4R d k (am 0 x y z) = 0) → ∃ x' y' z', Qr d w S fx x' y' z' ∧ kle (wv (prd d)) x' y' z' x y z ∧ Seen d w fx n S x' y' z' := fun p q r l1 l2 l3 s1 s2 s3 t1 t2 t3 hh => by
      refine ⟨x', y', z', hq', g2, p, q, r, ⟨by rw [if_neg (by omega)]; omega, by omega, Or.inr s1⟩, ⟨by rw [if_neg (by omega)]; omega, by omega, Or.inr s2⟩, ⟨by rw [if_neg (by omega)]; omega, by omega, Or.inr s3⟩, cor_of hn hq' (fun r hr => ?_) (fun x y z k1 k2 s hs => ?_)⟩
      · have : r = 0 ∨ r = 1 ∨ r = 2 := by omega
        rcases this with rfl | rfl | rfl
        · exact t1
        · exact t2
        · exact t3
      · have k3 : s4R d p (am 0 x y z) = 0 := k2 0 (by omega)
        have k4 : s4R d q (am 0 x y z) = 0 := k2 1 (by omega)
        have k5 : s4R d r (am 0 x y z) = 0 := k2 2 (by omega)
        obtain ⟨k6, k7, k8⟩ := hh x y z k3 k4 k5
        exact am0_all (det_null hd (cdir k6) (cdir k7) (cdir k8)) s (by omega)
    have ord : (i < j ∧ j < k) ∨ (i < k ∧ k < j) ∨ (j < i ∧ i < k) ∨ (j < k ∧ k < i) ∨ (k < i ∧ i < j) ∨ (k < j ∧ j < i) := by omega
    rcases ord with ⟨o1, o2⟩ | ⟨o1, o2⟩ | ⟨o1, o2⟩ | ⟨o1, o2⟩ | ⟨o1, o2⟩ | ⟨o1, o2⟩
    · exact fin i j k o1 o2 hk hsi hsj hsk ti tj tk (fun _ _ _ a b c => ⟨a, b, c⟩)
    · exact fin i k j o1 o2 hj hsi hsk hsj ti tk tj (fun _ _ _ a b c => ⟨a, c, b⟩)
    · exact fin j i k o1 o2 hk hsj hsi hsk tj ti tk (fun _ _ _ a b c => ⟨b, a, c⟩)
    · exact fin j k i o1 o2 hi hsj hsk hsi tj tk ti (fun _ _ _ a b c => ⟨c, a, b⟩)
    · exact fin k i j o1 o2 hj hsk hsi hsj tk ti tj (fun _ _ _ a b c => ⟨b, c, a⟩)
    · exact fin k j i o1 o2 hi hsk hsj hsi tk tj ti (fun _ _ _ a b c => ⟨c, b, a⟩)
theorem Seen_in {Y : Rat → Rat → Rat → Prop} (hC : Cp1 d w fx n S (if n ≤ 1 then 21 else 0) Y) {x y z : Rat} (hq : Qr d w S fx x y z) (h : Seen d w fx n S x y z) : Y x y z := by
  obtain ⟨a, b, c, ⟨a1, a2, a3⟩, ⟨b1, b2, b3⟩, ⟨c1, c2, c3⟩, hcor⟩ := h
  exact hC a a1 a2 a3 b b1 b2 b3 c c1 c2 c3 x y z hq hcor
/-- corners, looking for the best -/
theorem corners_best (hrg : Rg d) (hw : w ≤ 40) {I : SI} {J : SJ} (h : ToR d I) (hx : Fxd fx I) (hS : Cts S I) (h18 : ∀ s, s < dn d → S (18 + s)) {P : Rat → Rat → Rat → Prop} (hP : RB d w I J P) :
    ∃ (I2 : SI) (J2 : SJ), m_R_corners (nI w) 0 I J = some (I2, J2) ∧ KpR I I2 ∧ KpJ J J2 ∧ RB d w I2 J2 (fun x y z => P x y z ∨ Qr d w S fx x y z) := by
  obtain ⟨I2, J2, n, fl, Y, g1, g2, g3, g4, g5, g6, g7⟩ := corners_ok (m := 0) hrg hw (Or.inl rfl) h hx hS hP
  refine ⟨I2, J2, g1, g2, g3, RB_mono g5 (fun x y z q => q.imp id (g6 x y z)) ?_⟩
  have hC := g7.resolve_right (fun z => by omega)
  rintro x y z (q | q)
  · exact ⟨x, y, z, Or.inl q, kle_refl⟩
  · obtain ⟨x', y', z', k1, k2, k3⟩ := geo_ok hrg.1 ⟨g4.2.1, fun k hk => (g4.2.2.1 k hk).2, g4.2.2.2.1, g4.2.2.2.2.2⟩ h18 q
    exact ⟨x', y', z', Or.inr (Seen_in hC k1 k3), k2⟩
/-- corners, looking for any -/
theorem corners_any (hrg : Rg d) (hw : w ≤ 40) {I : SI} {J : SJ} (h : ToR d I) (hx : Fxd fx I) (hS : Cts S I) (h18 : ∀ s, s < dn d → S (18 + s)) (h0 : I 0 28 = 0) :
    ∃ (I2 : SI) (J2 : SJ), m_R_corners (nI w) 1 I J = some (I2, J2) ∧ KpR I I2 ∧ KpJ J J2 ∧ ((I2 0 28 = 1 ∧ ∃ x y z, Qr d w S fx x y z) ∨ (I2 0 28 = 0 ∧ ∀ x y z, ¬ Qr d w S fx x y z)) := by
  obtain ⟨I2, J2, n, fl, Y, g1, g2, g3, g4, g5, g6, g7⟩ := corners_ok (m := 1) (P := fun _ _ _ => False) (J := J) hrg hw (Or.inr rfl) h hx hS (Or.inl ⟨h0, fun _ _ _ => id⟩)
  refine ⟨I2, J2, g1, g2, g3, ?_⟩
  rcases g5 with ⟨e, hno⟩ | ⟨e, B, v, -, hp, -⟩
  · rcases g7 with hC | ⟨-, e1⟩
    · refine Or.inr ⟨e, fun x y z q => ?_⟩
      obtain ⟨x', y', z', k1, k2, k3⟩ := geo_ok hrg.1 ⟨g4.2.1, fun k hk => (g4.2.2.1 k hk).2, g4.2.2.2.1, g4.2.2.2.2.2⟩ h18 q
      exact hno _ _ _ (Or.inr (Seen_in hC k1 k3))
    · rw [e] at e1
      exact absurd e1 (by decide)
  · refine Or.inl ⟨e, _, _, _, g6 _ _ _ (hp.resolve_left id)⟩
end GO
