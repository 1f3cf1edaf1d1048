/-! New arrays of arrays, and array classes: rows for the constructors. -/
theorem arr_of {args : Array Value} {s : State} {ty : FieldType} (h : (Cond.arrayClass ty).before args s = true) : ∃ cA : ClassId, s.vm.findClass ("[" ++ ty.toString) = some cA ∧ ArrOfT s cA ty := by
  obtain ⟨cA, kA, comp, h1, h2, h3⟩ := Cond.arrayClass_spec h
  exact ⟨cA, h1, fun n z => ⟨fun k h => (by cases h), kA, h2, comp, h3⟩⟩
theorem mna_outer (c : ClassId) (N h0 : Nat) : ∀ i : Nat, Jvm.Free.Multi.outerC c N h0 i = arrV c N (fun j => va_rf (if j < i then some (h0 + 1 + j) else none))
  | 0 => by
    show ({ cls := c, slots := Array.replicate N .null, vm := .none } : Cell) = _
    rw [arrV_new]
    refine congrArg (arrV c N) (funext fun j => ?_)
    simp [va_rf]
  | i + 1 => by
    show (Jvm.Free.Multi.outerC c N h0 i).setSlot i (.ref (h0 + 1 + i)) = _
    rw [mna_outer c N h0 i, arrV_store]
    refine congrArg (arrV c N) (funext fun j => ?_)
    by_cases e : j = i
    · subst e
      simp [updV, va_rf]
    · by_cases h : j < i
      · simp [updV, e, h, Nat.lt_succ_of_lt h]
      · simp [updV, e, h, show ¬ j < i + 1 by omega]
section MNA
variable {p : Program} {l : Launch} {e : Env} {R : Room} {s : State} {m : MethodId} {args : Array Value} {below : List Frame} {meth : Method} {c : Code} {H : Heap} {locs : List Loc} {cells slots : Nat} {Q : State → Prop}
variable {cc : ByteArray} {pc : Nat} {ls : Array Slot} {rest : List Value} {D : va_G} {cl : List vw_C} {A : Nat → Prop} {tys : List (ClassId × FieldType)} {ws : va_W} {H0 : Heap}
/-- new int[n][k]: the outer array, and its rows behind it -/
theorem mna_i (hexec : p.tables.exec = Jvm.exec) (hb : c.code = cc) {own : String} {index : Nat} {cy cG : ClassId} (hown : s.vm.findClass own = some m.cls) (hclink : (Cond.classLink own index "[[I").before args s = true) (hover : (Cond.arrayOver (.array .int)).before args s = true) (harr : (Cond.arrayClass .int).before args s = true) (hcy : s.vm.findClass "[I" = some cy) (hcG : s.vm.findClass "[[I" = some cG)
    (hP : va_P D cl ws H) (hD : va_D A ws) (hS : va_S A H0 H locs) (hA : ∀ q, H0.size ≤ q → A q) {n k : Int32} {N K : Nat} (hn : ¬ n < 0) (hk : ¬ k < 0) (hN : n.toNatClampNeg = N) (hM : k.toNatClampNeg = K)
    (hb1 : N * 4 ≤ 536870912) (hb2 : K * 4 ≤ 536870912) (hcells : cells + (1 + N) ≤ R.cells) (hslots : slots + (N + N * K) ≤ R.slots) (hdg : decode cc pc = .ok (.multianewarray index 2, 4))
    (kk : ∀ (q : Nat) (H1 : Heap), va_P D cl (ws ++ ((q, .inl (cG, N, .inr (.inr (.inr (.inr (fun i => if i < N then some (q + 1 + i) else none)))))) :: (List.range N).map (fun i => (q + 1 + i, .inl (cy, K, .inl (fun _ => 0)))))) H1 → va_D A (ws ++ ((q, .inl (cG, N, .inr (.inr (.inr (.inr (fun i => if i < N then some (q + 1 + i) else none)))))) :: (List.range N).map (fun i => (q + 1 + i, .inl (cy, K, .inl (fun _ => 0)))))) → va_S A H0 H1 locs →
      W p l e R s m args below meth c H1 locs (cells + 1 + N) (slots + N + N * K) Q (F0 m (pc + 4) ls (.ref q :: rest))) : W p l e R s m args below meth c H locs cells slots Q (F0 m pc ls (.int k :: .int n :: rest)) := by
  subst hN
  subst hM
  intro T hT Xs
  obtain ⟨vm₁, cA, comp, -, fA, fC, hO, -, X', step⟩ := Xs.multianewarray2F (ty := .int) hexec hown hclink hover harr (g := F0 m pc ls (.int k :: .int n :: rest)) rfl (by rw [hb]; exact hdg) rfl hn hk hb1 (by show k.toNatClampNeg * 4 ≤ _; exact hb2) (by omega) rfl rfl hcells hslots
  have ec : some cy = some comp := hcy.symm.trans fC
  cases ec
  have eA : some cG = some cA := hcG.symm.trans fA
  cases eA
  generalize hF : Jvm.Free.Multi.fill (T.setVm vm₁) cG cy n.toNatClampNeg k.toNatClampNeg (defaultValue .int) n.toNatClampNeg = F at X' step
  have hTh : (T.setVm vm₁).heap = H := hT
  obtain ⟨f1, f2, -, -⟩ := Jvm.Free.Multi.fill_facts (T.setVm vm₁) cG cy n.toNatClampNeg k.toNatClampNeg (defaultValue .int) n.toNatClampNeg
  rw [hF, hTh] at f1 f2
  have hold : ∀ x : Nat, x < H.size → F.heap[x]? = H[x]? := fun x hx => by
    have := Jvm.Free.Multi.fill_old (T.setVm vm₁) cG cy n.toNatClampNeg k.toNatClampNeg (defaultValue .int) (a := x) (by rw [hTh]; exact hx) n.toNatClampNeg
    rw [hF, hTh] at this
    exact this
  have hrow : ∀ j : Nat, j < n.toNatClampNeg → F.heap[H.size + 1 + j]? = some (vp_cell cy (k.toNatClampNeg, .inl (fun _ => 0))) := fun j hj => by
    have := Jvm.Free.Multi.fill_inner (T.setVm vm₁) cG cy n.toNatClampNeg k.toNatClampNeg (defaultValue .int) n.toNatClampNeg j hj
    rw [hF, hTh] at this
    rw [this, vp_cell_i, ← arrV_new]
    rfl
  have hsz := hS.1
  have old : ∀ (x : Nat) (y : Nat × va_E), ws[x]? = some y → y.1 < H.size := fun x y h => (hP x y h).lt
  have new : ∀ (x : Nat) (y : Nat × va_E), (((H.size, .inl (cG, n.toNatClampNeg, .inr (.inr (.inr (.inr (fun i => if i < n.toNatClampNeg then some (H.size + 1 + i) else none)))))) :: (List.range n.toNatClampNeg).map (fun i => (H.size + 1 + i, .inl (cy, k.toNatClampNeg, .inl (fun _ => 0))))) : va_W)[x]? = some y → y.1 = H.size + x ∧ va_at D cl y F.heap := by
    intro x y h
    cases x with
    | zero =>
      rw [List.getElem?_cons_zero] at h
      cases h
      refine ⟨rfl, ?_⟩
      show F.heap[H.size]? = some (vp_cell _ _)
      rw [f2, mna_outer, vp_cell_q]
    | succ x =>
      rw [List.getElem?_cons_succ, List.getElem?_map] at h
      by_cases hx : x < n.toNatClampNeg
      · rw [List.getElem?_range hx] at h
        cases h
        exact ⟨by show H.size + 1 + x = _; omega, hrow x hx⟩
      · rw [List.getElem?_eq_none (by rw [List.length_range]; omega)] at h
        cases h
  obtain ⟨t, a1, b1⟩ := kk H.size F.heap ((hP.kept (fun x y h => hold y.1 (old x y h))).app (fun x y h => (new x y h).2))
    (hD.app ⟨fun i j x y h1 h2 h3 => by rw [(new i x h1).1, (new j y h2).1] at h3; omega, fun x y h => hA _ (by rw [(new x y h).1]; omega)⟩ (fun i j x y h1 h2 h3 => by have := old i x h1; rw [h3, (new j y h2).1] at this; omega))
    ⟨by rw [f1]; omega, fun x h1 h2 => (hold x (Nat.lt_of_lt_of_le h1 hS.1)).trans (hS.2.1 x h1 h2), hS.2.2⟩ F rfl X'
  refine ⟨t, step t ?_, b1⟩
  have e : T.heap.size = H.size := by rw [hT]
  rw [e]
  exact a1
end MNA
theorem wd_52 : Cond.initialized RT ∈ gtb := gtb_in (i := 52) (by decide +kernel) (by decide +kernel)
theorem wd_65 : Cond.methodLink RF 3 objectInit ∈ gtb := gtb_in (i := 65) (by decide +kernel) (by decide +kernel)
theorem wd_68 : Cond.classLink RF 9 RT ∈ gtb := gtb_in (i := 68) (by decide +kernel) (by decide +kernel)
theorem wd_69 : Cond.instantiable RT 9 ∈ gtb := gtb_in (i := 69) (by decide +kernel) (by decide +kernel)
theorem wd_71 : Cond.instanceMethod yT_init ∈ gtb := gtb_in (i := 71) (by decide +kernel) (by decide +kernel)
set_option maxRecDepth 100000 in
theorem wd_72 : Cond.code yT_init bT_init 1 none ∈ gtb := gtb_in (i := 72) rfl (by decide +kernel)
theorem wd_73 : Cond.methodLink RT 3 objectInit ∈ gtb := gtb_in (i := 73) (by decide +kernel) (by decide +kernel)
theorem wd_74 : Cond.classLink RT 31 "[[I" ∈ gtb := gtb_in (i := 74) (by decide +kernel) (by decide +kernel)
theorem wd_76 : Cond.fieldLink RT 9 "FeedMixes$Told" "stuffs" "I" ∈ gtb := gtb_in (i := 76) (by decide +kernel) (by decide +kernel)
theorem wd_80 : Cond.fieldLink RT 15 "FeedMixes$Told" "price" "[I" ∈ gtb := gtb_in (i := 80) (by decide +kernel) (by decide +kernel)
theorem wd_83 : Cond.fieldLink RT 19 "FeedMixes$Told" "stock" "[I" ∈ gtb := gtb_in (i := 83) (by decide +kernel) (by decide +kernel)
theorem wd_86 : Cond.fieldLink RT 22 "FeedMixes$Told" "leastShare" "[I" ∈ gtb := gtb_in (i := 86) (by decide +kernel) (by decide +kernel)
theorem wd_89 : Cond.fieldLink RT 25 "FeedMixes$Told" "mostShare" "[I" ∈ gtb := gtb_in (i := 89) (by decide +kernel) (by decide +kernel)
theorem wd_92 : Cond.fieldLink RT 28 "FeedMixes$Told" "silo" "[I" ∈ gtb := gtb_in (i := 92) (by decide +kernel) (by decide +kernel)
theorem wd_95 : Cond.fieldLink RT 33 "FeedMixes$Told" "points" "[[I" ∈ gtb := gtb_in (i := 95) (by decide +kernel) (by decide +kernel)
theorem wd_99 : Cond.fieldLink RT 36 "FeedMixes$Told" "leastNeed" "[I" ∈ gtb := gtb_in (i := 99) (by decide +kernel) (by decide +kernel)
theorem wd_102 : Cond.fieldLink RT 39 "FeedMixes$Told" "mostNeed" "[I" ∈ gtb := gtb_in (i := 102) (by decide +kernel) (by decide +kernel)
theorem wd_124 : Cond.arrayClass .int ∈ gtb := gtb_in (i := 124) (by decide +kernel) (by decide +kernel)
theorem wd_125 : Cond.classLink RF 16 RE ∈ gtb := gtb_in (i := 125) (by decide +kernel) (by decide +kernel)
theorem wd_126 : Cond.instantiable RE 3 ∈ gtb := gtb_in (i := 126) (by decide +kernel) (by decide +kernel)
theorem wd_128 : Cond.instanceMethod yE_init ∈ gtb := gtb_in (i := 128) (by decide +kernel) (by decide +kernel)
set_option maxRecDepth 100000 in
theorem wd_129 : Cond.code yE_init bE_init 2 none ∈ gtb := gtb_in (i := 129) rfl (by decide +kernel)
theorem wd_130 : Cond.methodLink RE 3 objectInit ∈ gtb := gtb_in (i := 130) (by decide +kernel) (by decide +kernel)
theorem wd_131 : Cond.classLink RE 15 RL ∈ gtb := gtb_in (i := 131) (by decide +kernel) (by decide +kernel)
theorem wd_132 : Cond.instantiable RL 7 ∈ gtb := gtb_in (i := 132) (by decide +kernel) (by decide +kernel)
theorem wd_134 : Cond.instanceMethod yL_init ∈ gtb := gtb_in (i := 134) (by decide +kernel) (by decide +kernel)
set_option maxRecDepth 100000 in
theorem wd_135 : Cond.code yL_init bL_init 2 none ∈ gtb := gtb_in (i := 135) rfl (by decide +kernel)
theorem wd_136 : Cond.methodLink RL 3 objectInit ∈ gtb := gtb_in (i := 136) (by decide +kernel) (by decide +kernel)
theorem wd_137 : Cond.classLink RL 28 "[[I" ∈ gtb := gtb_in (i := 137) (by decide +kernel) (by decide +kernel)
theorem wd_167 : Cond.classLink RE 24 RK ∈ gtb := gtb_in (i := 167) (by decide +kernel) (by decide +kernel)
theorem wd_168 : Cond.instantiable RK 10 ∈ gtb := gtb_in (i := 168) (by decide +kernel) (by decide +kernel)
theorem wd_170 : Cond.instanceMethod yK_init ∈ gtb := gtb_in (i := 170) (by decide +kernel) (by decide +kernel)
set_option maxRecDepth 100000 in
theorem wd_171 : Cond.code yK_init bK_init 3 none ∈ gtb := gtb_in (i := 171) rfl (by decide +kernel)
theorem wd_172 : Cond.methodLink RK 3 objectInit ∈ gtb := gtb_in (i := 172) (by decide +kernel) (by decide +kernel)
theorem wd_173 : Cond.classLink RK 15 "[[I" ∈ gtb := gtb_in (i := 173) (by decide +kernel) (by decide +kernel)
theorem wd_174 : Cond.classLink RK 37 RX ∈ gtb := gtb_in (i := 174) (by decide +kernel) (by decide +kernel)
theorem wd_175 : Cond.instantiable RX 3 ∈ gtb := gtb_in (i := 175) (by decide +kernel) (by decide +kernel)
theorem wd_177 : Cond.instanceMethod yX_init ∈ gtb := gtb_in (i := 177) (by decide +kernel) (by decide +kernel)
set_option maxRecDepth 100000 in
theorem wd_178 : Cond.code yX_init bX_init 1 none ∈ gtb := gtb_in (i := 178) rfl (by decide +kernel)
theorem wd_179 : Cond.methodLink RX 3 objectInit ∈ gtb := gtb_in (i := 179) (by decide +kernel) (by decide +kernel)
theorem wd_198 : Cond.arrayClass .long ∈ gtb := gtb_in (i := 198) (by decide +kernel) (by decide +kernel)
theorem wd_240 : Cond.classLink RF 41 RX ∈ gtb := gtb_in (i := 240) (by decide +kernel) (by decide +kernel)
theorem wd_534 : Cond.methodLink RR 1 objectInit ∈ gtb := gtb_in (i := 534) (by decide +kernel) (by decide +kernel)
theorem wd_629 : Cond.arrayClass .boolean ∈ gtb := gtb_in (i := 629) (by decide +kernel) (by decide +kernel)
theorem nw_241 : Cond.methodLinkNest RF 43 yX_init RF ∈ nwt := nwt_in (i := 241) (by decide +kernel) rfl
theorem nw_176 : Cond.methodLinkNest RK 39 yX_init RF ∈ nwt := nwt_in (i := 176) (by decide +kernel) rfl
theorem nw_169 : Cond.methodLinkNest RE 26 yK_init RF ∈ nwt := nwt_in (i := 169) (by decide +kernel) rfl
theorem nw_133 : Cond.methodLinkNest RE 17 yL_init RF ∈ nwt := nwt_in (i := 133) (by decide +kernel) rfl
theorem nw_127 : Cond.methodLinkNest RF 18 yE_init RF ∈ nwt := nwt_in (i := 127) (by decide +kernel) rfl
theorem nw_70 : Cond.methodLinkNest RF 11 yT_init RF ∈ nwt := nwt_in (i := 70) (by decide +kernel) rfl
theorem dfK : ∀ j, j < 10 → defaultValue (tyK j) = vp_V [.null, .null, .null, .null, .null, .null, .int 0, .int 0, .null, .null] j := by
  intro j hj
  match j, hj with
  | 0, _ => rfl
  | 1, _ => rfl
  | 2, _ => rfl
  | 3, _ => rfl
  | 4, _ => rfl
  | 5, _ => rfl
  | 6, _ => rfl
  | 7, _ => rfl
  | 8, _ => rfl
  | 9, _ => rfl
theorem dfL : ∀ j, j < 7 → defaultValue (tyL j) = vp_V [.null, .int 0, .int 0, .int 0, .null, .null, .null] j := by
  intro j hj
  match j, hj with
  | 0, _ => rfl
  | 1, _ => rfl
  | 2, _ => rfl
  | 3, _ => rfl
  | 4, _ => rfl
  | 5, _ => rfl
  | 6, _ => rfl
theorem dfX : ∀ j, j < 3 → defaultValue (tyX j) = vp_V [.null, .long 0, .long 0] j := by
  intro j hj
  match j, hj with
  | 0, _ => rfl
  | 1, _ => rfl
  | 2, _ => rfl
theorem dfE : ∀ j, j < 3 → defaultValue (tyE j) = vp_V [.null, .null, .null] j := by
  intro j hj
  match j, hj with
  | 0, _ => rfl
  | 1, _ => rfl
  | 2, _ => rfl
theorem dfT : ∀ j, j < 9 → defaultValue (tyT j) = vp_V [.int 0, .null, .null, .null, .null, .null, .null, .null, .null] j := by
  intro j hj
  match j, hj with
  | 0, _ => rfl
  | 1, _ => rfl
  | 2, _ => rfl
  | 3, _ => rfl
  | 4, _ => rfl
  | 5, _ => rfl
  | 6, _ => rfl
  | 7, _ => rfl
  | 8, _ => rfl
theorem dfF : ∀ j, j < 12 → defaultValue (tyF j) = vp_V [.null, .null, .int 0, .int 0, .int 0, .int 0, .int 0, .null, .null, .null, .int 0, .int 0] j := by
  intro j hj
  match j, hj with
  | 0, _ => rfl
  | 1, _ => rfl
  | 2, _ => rfl
  | 3, _ => rfl
  | 4, _ => rfl
  | 5, _ => rfl
  | 6, _ => rfl
  | 7, _ => rfl
  | 8, _ => rfl
  | 9, _ => rfl
  | 10, _ => rfl
  | 11, _ => rfl
theorem dfR : ∀ j, j < 31 → defaultValue (tyR j) = vp_V [.int 0, .null, .null, .null, .null, .null, .null, .null, .null, .int 0, .int 0, .int 0, .null, .null, .long 0, .long 0, .int 0, .int 0, .int 0, .int 0, .null, .null, .null, .int 0, .null, .null, .long 0, .null, .int 0, .null, .long 0] j := by
  intro j hj
  match j, hj with
  | 0, _ => rfl
  | 1, _ => rfl
  | 2, _ => rfl
  | 3, _ => rfl
  | 4, _ => rfl
  | 5, _ => rfl
  | 6, _ => rfl
  | 7, _ => rfl
  | 8, _ => rfl
  | 9, _ => rfl
  | 10, _ => rfl
  | 11, _ => rfl
  | 12, _ => rfl
  | 13, _ => rfl
  | 14, _ => rfl
  | 15, _ => rfl
  | 16, _ => rfl
  | 17, _ => rfl
  | 18, _ => rfl
  | 19, _ => rfl
  | 20, _ => rfl
  | 21, _ => rfl
  | 22, _ => rfl
  | 23, _ => rfl
  | 24, _ => rfl
  | 25, _ => rfl
  | 26, _ => rfl
  | 27, _ => rfl
  | 28, _ => rfl
  | 29, _ => rfl
  | 30, _ => rfl
  | k + 31, h => exact absurd h (by omega)
theorem sel3 {q : Nat} : (fun i => if i < 3 then some (q + 1 + i) else none) = (fun i => [q + 1 + 0, q + 1 + 1, q + 1 + 2][i]?) := by
  funext i
  match i with
  | 0 => rfl
  | 1 => rfl
  | 2 => rfl
  | i + 3 => simp
theorem sel7 {q : Nat} : (fun i => if i < 7 then some (q + 1 + i) else none) = (fun i => [q + 1 + 0, q + 1 + 1, q + 1 + 2, q + 1 + 3, q + 1 + 4, q + 1 + 5, q + 1 + 6][i]?) := by
  funext i
  match i with
  | 0 => rfl
  | 1 => rfl
  | 2 => rfl
  | 3 => rfl
  | 4 => rfl
  | 5 => rfl
  | 6 => rfl
  | i + 7 => simp
theorem nm_G {s : State} {cA : ClassId} (h : va_RA s cA (.array .int)) : s.vm.findClass "[[I" = some cA := h
theorem wd_oi : Cond.instanceMethod objectInit ∈ gtb := gtb_in (i := 66) (by decide +kernel) (by decide +kernel)
set_option maxRecDepth 100000 in
theorem wd_oc : Cond.code objectInit ⟨#[0xb1]⟩ 1 none ∈ gtb := gtb_in (i := 67) rfl (by decide +kernel)
theorem nw_over : Cond.arrayOver (.array .int) ∈ nwt := nwt_in (i := 75) (by decide +kernel) rfl
