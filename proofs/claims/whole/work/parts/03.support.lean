/-! What models are made of, and the rows by which a walk follows a model. -/
abbrev SI : Type := Nat → Nat → Int32
abbrev SJ : Type := Nat → Nat → Int64
/-- a number gets a name -/
def nm {α β : Type} (e : α) (f : α → β) : β := f e
/-- a check: if it fails there is no model -/
def gd {α : Type} (c : Prop) [Decidable c] (x : Option α) : Option α := if c then x else none
/-- a call -/
def cl3 {α β : Type} (x : Option (α × SI × SJ)) (f : α → SI → SJ → Option β) : Option β := match x with
  | some (r, I, J) => f r I J
  | none => none
def cl2 {β : Type} (x : Option (SI × SJ)) (f : SI → SJ → Option β) : Option β := match x with
  | some (I, J) => f I J
  | none => none
def cl1 {α β : Type} (x : Option α) (f : α → Option β) : Option β := match x with
  | some r => f r
  | none => none
theorem nm_to {α β : Type} {e v : α} {f : α → β} {r : β} (h : v = e) (hm : nm e f = r) : f v = r := by subst h; exact hm
theorem gd_to {α : Type} {c : Prop} [Decidable c] {x : Option α} {r : α} (h : gd c x = some r) : c ∧ x = some r := by
  unfold gd at h
  split at h
  · exact ⟨by assumption, h⟩
  · cases h
theorem gd_of {α : Type} {c : Prop} [Decidable c] {x : Option α} (h : c) : gd c x = x := if_pos h
theorem cl3_to {α β : Type} {x : Option (α × SI × SJ)} {f : α → SI → SJ → Option β} {r : β} (h : cl3 x f = some r) : ∃ a I J, x = some (a, I, J) ∧ f a I J = some r := by
  match x, h with
  | some (a, I, J), h => exact ⟨a, I, J, rfl, h⟩
theorem cl2_to {β : Type} {x : Option (SI × SJ)} {f : SI → SJ → Option β} {r : β} (h : cl2 x f = some r) : ∃ I J, x = some (I, J) ∧ f I J = some r := by
  match x, h with
  | some (I, J), h => exact ⟨I, J, rfl, h⟩
theorem cl1_to {α β : Type} {x : Option α} {f : α → Option β} {r : β} (h : cl1 x f = some r) : ∃ a, x = some a ∧ f a = some r := by
  match x, h with
  | some a, h => exact ⟨a, rfl, h⟩
theorem brp {α : Type} {c : Prop} [Decidable c] {a b r : α} (h : (if c then a else b) = r) (hc : c) : a = r := by rw [if_pos hc] at h; exact h
theorem brn {α : Type} {c : Prop} [Decidable c] {a b r : α} (h : (if c then a else b) = r) (hc : ¬ c) : b = r := by rw [if_neg hc] at h; exact h
/-- vp_in, so that it can be decided -/
abbrev vin (i : Int32) (n : Nat) : Prop := ¬ (i < 0 ∨ n ≤ i.toNatClampNeg)
theorem vp_lt {i : Int32} {n : Nat} (h : vp_in i n) : i.toNatClampNeg < n := Nat.not_le.mp fun q => h (Or.inr q)
theorem P_eq {D : va_G} {cl : List vw_C} {ws ws2 : va_W} {H : Heap} (h : va_P D cl ws H) (e : ws = ws2) : va_P D cl ws2 H := e ▸ h
theorem D_eq {A : Nat → Prop} {ws ws2 : va_W} (h : va_D A ws) (e : ws = ws2) : va_D A ws2 := e ▸ h
/-- the words of nest mates: they hold on, but not by goodWord -/
def isNs : Cond → Bool
  | .fieldLinkNest .. => true
  | .methodLinkNest .. => true
  | .arrayOver (.array _) => true
  | _ => false
def nwt : List Cond := lw_tbl.filter isNs
theorem nwt_in {w : Cond} {i : Nat} (h : lw_tbl[i]? = some w) (g : isNs w = true) : w ∈ nwt := List.mem_filter.mpr ⟨List.mem_of_getElem? h, g⟩
def NWs (U : State) : Prop := ∀ w ∈ nwt, va_Nw w U
theorem NWs.warm {s U : State} (hW : s.WarmedH U.vm) (h : NWs s) : NWs U := fun w hw => by
  have hi := (List.mem_filter.mp hw).2
  cases w with
  | fieldLinkNest => exact va_Nw.warmF hW (h _ hw)
  | methodLinkNest => exact va_Nw.warmM hW (h _ hw)
  | arrayOver ty =>
    cases ty with
    | array t => exact over_moved (a := #[]) (a' := #[]) hW.alike (h _ hw)
    | _ => cases hi
  | _ => cases hi
theorem NWs.same {u U : State} (e : u.vm = U.vm) (h : NWs u) : NWs U := fun w hw => by
  have hi := (List.mem_filter.mp hw).2
  cases w with
  | fieldLinkNest => exact va_Nw.same rfl e (h _ hw)
  | methodLinkNest => exact va_Nw.same rfl e (h _ hw)
  | arrayOver ty =>
    cases ty with
    | array t => exact over_moved (a := #[]) (a' := #[]) (e ▸ Vm.Alike.refl u.vm) (h _ hw)
    | _ => cases hi
  | _ => cases hi
theorem NWs.of {args : Array Value} {s : State} (h : ∀ w ∈ lw_tbl, w.before args s = true) : NWs s := fun w hw => by
  have hi := (List.mem_filter.mp hw).2
  have hb := h w (List.mem_filter.mp hw).1
  cases w with
  | fieldLinkNest => exact va_Nw.of rfl hb
  | methodLinkNest => exact va_Nw.of rfl hb
  | arrayOver ty =>
    cases ty with
    | array t => exact over_moved (a' := #[]) (Vm.Alike.refl s.vm) hb
    | _ => cases hi
  | _ => cases hi
theorem gV {own : String} {idx : Nat} {C : String} {y : MethodName} {c : Cond} (h1 : .methodLink own idx y ∈ gtb) (h2 : .instanceMethod y ∈ gtb) (h3 : .selects C y y ∈ gtb) (h4 : .initialized C ∈ gtb) (h5 : c ∈ gtb) : GoodIn gtb (wsV own idx C y (c :: gtb)) := fun w h => by
  rcases List.mem_append.mp h with h | h
  · simp only [List.mem_cons, List.not_mem_nil, or_false] at h
    rcases h with rfl | rfl | rfl | rfl
    · exact gtb_good1 h1
    · exact gtb_good1 h2
    · exact gtb_good1 h3
    · exact gtb_good1 h4
  · exact gtb_good h5 w h
theorem gS {own : String} {idx : Nat} {y : MethodName} {c : Cond} (h1 : .methodLink own idx y ∈ gtb) (h2 : .static y ∈ gtb) (h3 : .initialized y.cls ∈ gtb) (h5 : c ∈ gtb) : GoodIn gtb (va_wsS own idx y (c :: gtb)) := fun w h => by
  rcases List.mem_append.mp h with h | h
  · simp only [List.mem_cons, List.not_mem_nil, or_false] at h
    rcases h with rfl | rfl | rfl
    · exact gtb_good1 h1
    · exact gtb_good1 h2
    · exact gtb_good1 h3
  · exact gtb_good h5 w h
theorem pf_I : parseFieldDescriptor "I" = some .int := by decide +kernel
theorem pf_J : parseFieldDescriptor "J" = some .long := by decide +kernel
theorem pf_Z : parseFieldDescriptor "Z" = some .boolean := by decide +kernel
/-- what a method's walk is begun with -/
def Cx (p : Program) (s : State) (m : MethodId) (args : Array Value) (meth : Method) (c : Code) (cc : ByteArray) (ret : Option FieldType) (nL : Nat) (own : String) : Prop :=
  p.tables.exec = Jvm.exec ∧ c.code = cc ∧ meth.sig.returnType = ret ∧ c.maxLocals = nL ∧ s.vm.findClass own = some m.cls ∧ (∀ w ∈ gtb, w.before args s = true) ∧ meth.locks = false
/-- the walk from a place in the code, over a world -/
def WB (p : Program) (l : Launch) (e : Env) (R : Room) (s : State) (m : MethodId) (args : Array Value) (below : List Frame) (meth : Method) (c : Code) (Q : State → Prop) (D : va_G) (cl : List vw_C) (A : Nat → Prop) (nL : Nat) (ws : va_W) (pc : Nat) (lv : List (Nat × Value)) (st : List Value) : Prop :=
  ∀ (H : Heap) (locs : List Loc) (ls : Array Slot), va_P D cl ws H → va_D A ws → va_S A s.heap H locs → lv_has ls nL lv → W p l e R s m args below meth c H locs 0 0 Q (F0 m pc ls st)
/-- the same of a method that touches no cell -/
def WZ (p : Program) (l : Launch) (e : Env) (R : Room) (s : State) (m : MethodId) (args : Array Value) (below : List Frame) (meth : Method) (c : Code) (Q : State → Prop) (nL : Nat) (pc : Nat) (lv : List (Nat × Value)) (st : List Value) : Prop :=
  ∀ (H : Heap) (locs : List Loc) (ls : Array Slot), va_S (fun _ => False) s.heap H locs → lv_has ls nL lv → W p l e R s m args below meth c H locs 0 0 Q (F0 m pc ls st)
abbrev atW (D : va_G) (cl : List vw_C) (tys : List (ClassId × FieldType)) (A : Nat → Prop) (wf : SI → SJ → va_W) (u : SI × SJ) (t : State) : Prop := va_P D cl (wf u.1 u.2) t.heap ∧ va_K D cl tys t ∧ va_D A (wf u.1 u.2)
abbrev preW (D : va_G) (cl : List vw_C) (tys : List (ClassId × FieldType)) (ws : va_W) (sz : Nat) (U : State) : Prop := U.heap.size = sz ∧ va_P D cl ws U.heap ∧ va_K D cl tys U ∧ va_D (fun _ => True) ws ∧ NWs U
theorem preW_fb {D : va_G} {cl : List vw_C} {tys : List (ClassId × FieldType)} {ws : va_W} {sz : Nat} {av : List Value} : FrameBlind (va_Pc av (preW D cl tys ws sz)) := fun a U g mk q => by
  obtain ⟨q0, q1, qP, qK, qD, qN⟩ := q
  exact ⟨q0, q1, qP, va_K.moved (u := U) (U := U.calling g mk a) (Vm.Alike.refl U.vm) qK, qD, NWs.same (u := U) rfl qN⟩
theorem preW_at {s : State} {H : Heap} {D : va_G} {cl : List vw_C} {tys : List (ClassId × FieldType)} {ws : va_W} {A : Nat → Prop} {av : List Value} (hP : va_P D cl ws H) (hK : va_K D cl tys s) (hN : NWs s) (hD : va_D A ws) : ∀ U : State, U.heap = H → s.WarmedH U.vm → va_Pc av (preW D cl tys ws H.size) av.toArray U :=
  fun U hU hW => ⟨rfl, by rw [hU], by rw [hU]; exact hP, va_K.moved hW.alike hK, hD.weaken (fun _ _ _ _ => trivial), NWs.warm hW hN⟩
theorem preZ_fb {av : List Value} : FrameBlind (va_Pc av (fun _ => True)) := fun _ _ _ _ q => q
theorem preZ_at {s : State} {H : Heap} {av : List Value} : ∀ U : State, U.heap = H → s.WarmedH U.vm → va_Pc av (fun _ => True) av.toArray U := fun _ _ _ => ⟨rfl, trivial⟩
theorem keptP {D : va_G} {cl : List vw_C} {ws : va_W} {H H1 : Heap} (hP : va_P D cl ws H) (hq : ∀ q : Nat, q < H.size → H1[q]? = H[q]?) : va_P D cl ws H1 := hP.kept fun k q hk => hq q.1 ((hP k q hk).lt)
theorem inA {A : Nat → Prop} {ws : va_W} {H0 H : Heap} {locs : List Loc} (hD : va_D A ws) (hS : va_S A H0 H locs) (hA : ∀ q, H0.size ≤ q → A q) : ∀ q, va_A ws H.size q → A q := by
  intro q h
  rcases h with ⟨k, e, h⟩ | h
  · exact hD.2 k (q, e) h
  · exact hA q (Nat.le_trans hS.1 h)
section PST
variable {p : Program} {l : Launch} {e : Env} {R : Room} {s : State} {m : MethodId} {args : Array Value} {below : List Frame} {meth : Method} {c : Code} {H : Heap} {locs : List Loc} {Q : State → Prop}
variable {pc : Nat} {ls : Array Slot} {rest st0 : List Value} {a : Array Value} {A : Nat → Prop} {D : va_G} {cl : List vw_C} {tys : List (ClassId × FieldType)} {wf : SI → SJ → va_W} {I I1 : SI} {J J1 : SJ}
theorem pst_i {r1 : Int32} (hD : va_D A (wf I J)) (hS : va_S A s.heap H locs) (hA : ∀ q, s.heap.size ≤ q → A q) (hr : va_Run p l e R s m args below meth c H locs 0 0 0 0 (F0 m pc ls st0) rest (va_Qi (fun (r : Int32) (u : SI × SJ) => (r, u) = (r1, I1, J1)) (atW D cl tys (va_A (wf I J) H.size) wf) (va_A (wf I J) H.size) a) (va_A (wf I J) H.size))
    (kk : ∀ (H1 : Heap) (locs1 : List Loc), va_P D cl (wf I1 J1) H1 → va_D A (wf I1 J1) → va_S A s.heap H1 locs1 → W p l e R s m args below meth c H1 locs1 0 0 Q (F0 m (pc + 3) ls (.int r1 :: rest))) : W p l e R s m args below meth c H locs 0 0 Q (F0 m pc ls st0) :=
  va_calli hr hS (fun q _ h => inA hD hS hA q h) (inA hD hS hA) (fun r u t H1 locs1 ht hvm hw hB hz hk hS1 => by
    cases hw
    exact kk H1 locs1 (ht ▸ hB.1) (hB.2.2.weaken (fun _ q _ h => inA hD hS hA q.1 h)) hS1)
theorem pst_l {r1 : Int64} (hD : va_D A (wf I J)) (hS : va_S A s.heap H locs) (hA : ∀ q, s.heap.size ≤ q → A q) (hr : va_Run p l e R s m args below meth c H locs 0 0 0 0 (F0 m pc ls st0) rest (va_Ql (fun (r : Int64) (u : SI × SJ) => (r, u) = (r1, I1, J1)) (atW D cl tys (va_A (wf I J) H.size) wf) (va_A (wf I J) H.size) a) (va_A (wf I J) H.size))
    (kk : ∀ (H1 : Heap) (locs1 : List Loc), va_P D cl (wf I1 J1) H1 → va_D A (wf I1 J1) → va_S A s.heap H1 locs1 → W p l e R s m args below meth c H1 locs1 0 0 Q (F0 m (pc + 3) ls (.long r1 :: rest))) : W p l e R s m args below meth c H locs 0 0 Q (F0 m pc ls st0) :=
  va_calll hr hS (fun q _ h => inA hD hS hA q h) (inA hD hS hA) (fun r u t H1 locs1 ht hvm hw hB hz hk hS1 => by
    cases hw
    exact kk H1 locs1 (ht ▸ hB.1) (hB.2.2.weaken (fun _ q _ h => inA hD hS hA q.1 h)) hS1)
theorem pst_v (hD : va_D A (wf I J)) (hS : va_S A s.heap H locs) (hA : ∀ q, s.heap.size ≤ q → A q) (hr : va_Run p l e R s m args below meth c H locs 0 0 0 0 (F0 m pc ls st0) rest (va_Qv (fun (u : SI × SJ) => u = (I1, J1)) (atW D cl tys (va_A (wf I J) H.size) wf) (va_A (wf I J) H.size) a) (va_A (wf I J) H.size))
    (kk : ∀ (H1 : Heap) (locs1 : List Loc), va_P D cl (wf I1 J1) H1 → va_D A (wf I1 J1) → va_S A s.heap H1 locs1 → W p l e R s m args below meth c H1 locs1 0 0 Q (F0 m (pc + 3) ls rest)) : W p l e R s m args below meth c H locs 0 0 Q (F0 m pc ls st0) :=
  va_callv hr hS (fun q _ h => inA hD hS hA q h) (inA hD hS hA) (fun u t H1 locs1 ht hvm hw hB hz hk hS1 => by
    cases hw
    exact kk H1 locs1 (ht ▸ hB.1) (hB.2.2.weaken (fun _ q _ h => inA hD hS hA q.1 h)) hS1)
theorem pstZ_i {r1 : Int32} (hS : va_S A s.heap H locs) (hr : va_Run p l e R s m args below meth c H locs 0 0 0 0 (F0 m pc ls st0) rest (va_Qi (fun (r : Int32) (_ : Unit) => r = r1) (fun _ _ => True) (fun _ => False) a) (fun _ => False))
    (kk : ∀ (H1 : Heap) (locs1 : List Loc), (∀ q : Nat, q < H.size → H1[q]? = H[q]?) → va_S A s.heap H1 locs1 → W p l e R s m args below meth c H1 locs1 0 0 Q (F0 m (pc + 3) ls (.int r1 :: rest))) : W p l e R s m args below meth c H locs 0 0 Q (F0 m pc ls st0) :=
  va_calli hr hS (fun _ _ h => h.elim) (fun _ h => h.elim) (fun r u t H1 locs1 ht hvm hw hB hz hk hS1 => by
    cases hw
    exact kk H1 locs1 (fun q hq => hk q hq (fun h => h)) hS1)
theorem pstZ_l {r1 : Int64} (hS : va_S A s.heap H locs) (hr : va_Run p l e R s m args below meth c H locs 0 0 0 0 (F0 m pc ls st0) rest (va_Ql (fun (r : Int64) (_ : Unit) => r = r1) (fun _ _ => True) (fun _ => False) a) (fun _ => False))
    (kk : ∀ (H1 : Heap) (locs1 : List Loc), (∀ q : Nat, q < H.size → H1[q]? = H[q]?) → va_S A s.heap H1 locs1 → W p l e R s m args below meth c H1 locs1 0 0 Q (F0 m (pc + 3) ls (.long r1 :: rest))) : W p l e R s m args below meth c H locs 0 0 Q (F0 m pc ls st0) :=
  va_calll hr hS (fun _ _ h => h.elim) (fun _ h => h.elim) (fun r u t H1 locs1 ht hvm hw hB hz hk hS1 => by
    cases hw
    exact kk H1 locs1 (fun q hq => hk q hq (fun h => h)) hS1)
end PST
section GRD
variable {p : Program} {l : Launch} {e : Env} {R : Room} {s : State} {m : MethodId} {args : Array Value} {below : List Frame} {meth : Method} {c : Code} {H : Heap} {locs : List Loc} {cells slots : Nat} {Q : State → Prop}
variable {cc : ByteArray} {pc : Nat} {ls : Array Slot} {rest : List Value} {D : va_G} {cl : List vw_C} {a : Nat} {tys : List (ClassId × FieldType)} {ws : va_W}
/-- a row of an array of arrays -/
theorem va_aldG (hexec : p.tables.exec = Jvm.exec) (hb : c.code = cc) (hK : va_K D cl tys s) (hP : va_P D cl ws H) (q0 t0 : Nat) {cA : ClassId} {ty : FieldType} {n r : Nat} {f : Nat → Option Nat} (ha : ws[q0]? = some (a, .inl (cA, n, .inr (.inr (.inr (.inr f)))))) (ht : tys[t0]? = some (cA, ty)) (hty : ty.isReference = true) {i : Int32} (hin : vp_in i n) (hf : f i.toNatClampNeg = some r) (hdg : decode cc pc = .ok (.aaload, 1))
    (kk : W p l e R s m args below meth c H locs cells slots Q (F0 m (pc + 1) ls (.ref r :: rest))) : W p l e R s m args below meth c H locs cells slots Q (F0 m pc ls (.int i :: .ref a :: rest)) := by
  have hlt : i.toNatClampNeg < n := Nat.not_le.mp fun q => hin (Or.inr q)
  exact W.aald (v := va_rf (f i.toNatClampNeg)) (ty := ty) hexec hb (hP q0 _ ha) ((hK.2 t0 _ ht).1 n (fun j => va_rf (f j))) hty (fun q => by cases q) (by show ¬ (i < 0 ∨ (arrV _ _ _).slots.size ≤ _); rw [arrV_size]; exact hin) (by show (arrV _ _ _).slots[_]? = _; rw [arrV_read _ _ hlt]) rfl rfl hdg (by rw [hf]; exact kk)
end GRD
