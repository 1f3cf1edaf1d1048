abbrev tysM (cI cJ cG : ClassId) : List (ClassId × FieldType) := [(cI, .int), (cJ, .long), (cG, .array .int)]
def wsM (ad : Nat → Nat) (cI cJ cG : ClassId) (I : Nat → Nat → Int32) (J : Nat → Nat → Int64) : va_W :=
  [(ad 0, .inr (4, [.int (I 0 0), .ref (ad 1), .ref (ad 2), .ref (ad 3), .ref (ad 4), .ref (ad 5), .ref (ad 6), .ref (ad 10), .ref (ad 11)])),
   (ad 1, .inl (cI, 4, .inl (I 1))),
   (ad 2, .inl (cI, 4, .inl (I 2))),
   (ad 3, .inl (cI, 4, .inl (I 3))),
   (ad 4, .inl (cI, 4, .inl (I 4))),
   (ad 5, .inl (cI, 4, .inl (I 5))),
   (ad 6, .inl (cG, 3, .inr (.inr (.inr (.inr (fun i => [ad 7, ad 8, ad 9][i]?)))))),
   (ad 7, .inl (cI, 4, .inl (I 7))),
   (ad 8, .inl (cI, 4, .inl (I 8))),
   (ad 9, .inl (cI, 4, .inl (I 9))),
   (ad 10, .inl (cI, 3, .inl (I 10))),
   (ad 11, .inl (cI, 3, .inl (I 11))),
   (ad 12, .inr (1, [.ref (ad 0), .int (I 12 1), .int (I 12 2), .int (I 12 3), .ref (ad 13), .ref (ad 14), .ref (ad 15)])),
   (ad 13, .inl (cI, 7, .inl (I 13))),
   (ad 14, .inl (cI, 7, .inl (I 14))),
   (ad 15, .inl (cG, 3, .inr (.inr (.inr (.inr (fun i => [ad 16, ad 17, ad 18][i]?)))))),
   (ad 16, .inl (cI, 4, .inl (I 16))),
   (ad 17, .inl (cI, 4, .inl (I 17))),
   (ad 18, .inl (cI, 4, .inl (I 18))),
   (ad 19, .inr (0, [.ref (ad 0), .ref (ad 12), .ref (ad 20), .ref (ad 21), .ref (ad 29), .ref (ad 30), .int (I 19 6), .int (I 19 7), .ref (ad 31), .ref (ad 32)])),
   (ad 20, .inl (cI, 7, .inl (I 20))),
   (ad 21, .inl (cG, 7, .inr (.inr (.inr (.inr (fun i => [ad 22, ad 23, ad 24, ad 25, ad 26, ad 27, ad 28][i]?)))))),
   (ad 22, .inl (cI, 3, .inl (I 22))),
   (ad 23, .inl (cI, 3, .inl (I 23))),
   (ad 24, .inl (cI, 3, .inl (I 24))),
   (ad 25, .inl (cI, 3, .inl (I 25))),
   (ad 26, .inl (cI, 3, .inl (I 26))),
   (ad 27, .inl (cI, 3, .inl (I 27))),
   (ad 28, .inl (cI, 3, .inl (I 28))),
   (ad 29, .inl (cI, 14, .inl (I 29))),
   (ad 30, .inl (cI, 14, .inl (I 30))),
   (ad 31, .inl (cJ, 3, .inr (.inl (J 31)))),
   (ad 32, .inr (2, [.ref (ad 33), .long (J 32 1), .long (J 32 2)])),
   (ad 33, .inl (cJ, 4, .inr (.inl (J 33)))),
   (ad 34, .inr (3, [.ref (ad 0), .ref (ad 12), .ref (ad 19)])),
   (ad 35, .inr (2, [.ref (ad 36), .long (J 35 1), .long (J 35 2)])),
   (ad 36, .inl (cJ, 4, .inr (.inl (J 36))))]
theorem rowM_6 {ad : Nat → Nat} {cI cJ cG : ClassId} {I : Nat → Nat → Int32} {J : Nat → Nat → Int64} {j : Nat} (h : j < 3) : (wsM ad cI cJ cG I J)[7 + j]? = some (ad (7 + j), .inl (cI, 4, .inl (I (7 + j)))) := by
  match j, h with
  | 0, _ => rfl
  | 1, _ => rfl
  | 2, _ => rfl
theorem outM_6 {ad : Nat → Nat} {j : Nat} (h : j < 3) : [ad 7, ad 8, ad 9][j]? = some (ad (7 + j)) := by
  match j, h with
  | 0, _ => rfl
  | 1, _ => rfl
  | 2, _ => rfl
theorem rsetM_6 {ad : Nat → Nat} {cI cJ cG : ClassId} {I : Nat → Nat → Int32} {J : Nat → Nat → Int64} {j : Nat} {f : Nat → Int32} (h : j < 3) : (wsM ad cI cJ cG I J).set (7 + j) (ad (7 + j), .inl (cI, 4, .inl f)) = (wsM ad cI cJ cG (va_up I (7 + j) f) J) := by
  match j, h with
  | 0, _ => rfl
  | 1, _ => rfl
  | 2, _ => rfl
theorem rowM_15 {ad : Nat → Nat} {cI cJ cG : ClassId} {I : Nat → Nat → Int32} {J : Nat → Nat → Int64} {j : Nat} (h : j < 3) : (wsM ad cI cJ cG I J)[16 + j]? = some (ad (16 + j), .inl (cI, 4, .inl (I (16 + j)))) := by
  match j, h with
  | 0, _ => rfl
  | 1, _ => rfl
  | 2, _ => rfl
theorem outM_15 {ad : Nat → Nat} {j : Nat} (h : j < 3) : [ad 16, ad 17, ad 18][j]? = some (ad (16 + j)) := by
  match j, h with
  | 0, _ => rfl
  | 1, _ => rfl
  | 2, _ => rfl
theorem rsetM_15 {ad : Nat → Nat} {cI cJ cG : ClassId} {I : Nat → Nat → Int32} {J : Nat → Nat → Int64} {j : Nat} {f : Nat → Int32} (h : j < 3) : (wsM ad cI cJ cG I J).set (16 + j) (ad (16 + j), .inl (cI, 4, .inl f)) = (wsM ad cI cJ cG (va_up I (16 + j) f) J) := by
  match j, h with
  | 0, _ => rfl
  | 1, _ => rfl
  | 2, _ => rfl
theorem rowM_21 {ad : Nat → Nat} {cI cJ cG : ClassId} {I : Nat → Nat → Int32} {J : Nat → Nat → Int64} {j : Nat} (h : j < 7) : (wsM ad cI cJ cG I J)[22 + j]? = some (ad (22 + j), .inl (cI, 3, .inl (I (22 + j)))) := by
  match j, h with
  | 0, _ => rfl
  | 1, _ => rfl
  | 2, _ => rfl
  | 3, _ => rfl
  | 4, _ => rfl
  | 5, _ => rfl
  | 6, _ => rfl
theorem outM_21 {ad : Nat → Nat} {j : Nat} (h : j < 7) : [ad 22, ad 23, ad 24, ad 25, ad 26, ad 27, ad 28][j]? = some (ad (22 + j)) := by
  match j, h with
  | 0, _ => rfl
  | 1, _ => rfl
  | 2, _ => rfl
  | 3, _ => rfl
  | 4, _ => rfl
  | 5, _ => rfl
  | 6, _ => rfl
theorem rsetM_21 {ad : Nat → Nat} {cI cJ cG : ClassId} {I : Nat → Nat → Int32} {J : Nat → Nat → Int64} {j : Nat} {f : Nat → Int32} (h : j < 7) : (wsM ad cI cJ cG I J).set (22 + j) (ad (22 + j), .inl (cI, 3, .inl f)) = (wsM ad cI cJ cG (va_up I (22 + j) f) J) := by
  match j, h with
  | 0, _ => rfl
  | 1, _ => rfl
  | 2, _ => rfl
  | 3, _ => rfl
  | 4, _ => rfl
  | 5, _ => rfl
  | 6, _ => rfl
theorem famM_mix {ad : Nat → Nat} {cI cJ cG : ClassId} {I : Nat → Nat → Int32} {J : Nat → Nat → Int64} {a : Nat} (h : a ∈ [32, 35]) : (wsM ad cI cJ cG I J)[a]? = some (ad a, .inr (2, [.ref (ad (a + 1)), .long (J a 1), .long (J a 2)])) := by
  simp only [List.mem_cons, List.not_mem_nil, or_false] at h
  rcases h with rfl | rfl <;> rfl
theorem famM_mix_1 {ad : Nat → Nat} {cI cJ cG : ClassId} {I : Nat → Nat → Int32} {J : Nat → Nat → Int64} {a : Nat} (h : a ∈ [32, 35]) : (wsM ad cI cJ cG I J)[a + 1]? = some (ad (a + 1), .inl (cJ, 4, .inr (.inl (J (a + 1))))) := by
  simp only [List.mem_cons, List.not_mem_nil, or_false] at h
  rcases h with rfl | rfl <;> rfl
theorem famM_row {ad : Nat → Nat} {cI cJ cG : ClassId} {I : Nat → Nat → Int32} {J : Nat → Nat → Int64} {a : Nat} (h : a ∈ [1, 7, 8, 9]) : (wsM ad cI cJ cG I J)[a]? = some (ad a, .inl (cI, 4, .inl (I a))) := by
  simp only [List.mem_cons, List.not_mem_nil, or_false] at h
  rcases h with rfl | rfl | rfl | rfl <;> rfl
theorem fsetM_row {ad : Nat → Nat} {cI cJ cG : ClassId} {I : Nat → Nat → Int32} {J : Nat → Nat → Int64} {a : Nat} {f : Nat → Int32} (h : a ∈ [1, 7, 8, 9]) : (wsM ad cI cJ cG I J).set a (ad a, .inl (cI, 4, .inl f)) = (wsM ad cI cJ cG (va_up I a f) J) := by
  simp only [List.mem_cons, List.not_mem_nil, or_false] at h
  rcases h with rfl | rfl | rfl | rfl <;> rfl
theorem famM_lean {ad : Nat → Nat} {cI cJ cG : ClassId} {I : Nat → Nat → Int32} {J : Nat → Nat → Int64} {a : Nat} (h : a ∈ [16, 17, 18]) : (wsM ad cI cJ cG I J)[a]? = some (ad a, .inl (cI, 4, .inl (I a))) := by
  simp only [List.mem_cons, List.not_mem_nil, or_false] at h
  rcases h with rfl | rfl | rfl <;> rfl
theorem fsetM_lean {ad : Nat → Nat} {cI cJ cG : ClassId} {I : Nat → Nat → Int32} {J : Nat → Nat → Int64} {a : Nat} {f : Nat → Int32} (h : a ∈ [16, 17, 18]) : (wsM ad cI cJ cG I J).set a (ad a, .inl (cI, 4, .inl f)) = (wsM ad cI cJ cG (va_up I a f) J) := by
  simp only [List.mem_cons, List.not_mem_nil, or_false] at h
  rcases h with rfl | rfl | rfl <;> rfl
theorem famM_slope {ad : Nat → Nat} {cI cJ cG : ClassId} {I : Nat → Nat → Int32} {J : Nat → Nat → Int64} {a : Nat} (h : a ∈ [22, 23, 24, 25, 26, 27, 28]) : (wsM ad cI cJ cG I J)[a]? = some (ad a, .inl (cI, 3, .inl (I a))) := by
  simp only [List.mem_cons, List.not_mem_nil, or_false] at h
  rcases h with rfl | rfl | rfl | rfl | rfl | rfl | rfl <;> rfl
theorem fsetM_slope {ad : Nat → Nat} {cI cJ cG : ClassId} {I : Nat → Nat → Int32} {J : Nat → Nat → Int64} {a : Nat} {f : Nat → Int32} (h : a ∈ [22, 23, 24, 25, 26, 27, 28]) : (wsM ad cI cJ cG I J).set a (ad a, .inl (cI, 3, .inl f)) = (wsM ad cI cJ cG (va_up I a f) J) := by
  simp only [List.mem_cons, List.not_mem_nil, or_false] at h
  rcases h with rfl | rfl | rfl | rfl | rfl | rfl | rfl <;> rfl
theorem dX_init_0 : decode bX_init 0 = .ok (.aload_n 0, 1) := by decide +kernel
theorem dX_init_1 : decode bX_init 1 = .ok (.invokespecial 3, 3) := by decide +kernel
theorem dX_init_4 : decode bX_init 4 = .ok (.aload_n 0, 1) := by decide +kernel
theorem dX_init_5 : decode bX_init 5 = .ok (.iconst 4, 1) := by decide +kernel
theorem dX_init_6 : decode bX_init 6 = .ok (.newarray .long, 2) := by decide +kernel
theorem dX_init_8 : decode bX_init 8 = .ok (.putfield 9, 3) := by decide +kernel
theorem dX_init_11 : decode bX_init 11 = .ok (.aload_n 0, 1) := by decide +kernel
theorem dX_init_12 : decode bX_init 12 = .ok (.lconst 0, 1) := by decide +kernel
theorem dX_init_13 : decode bX_init 13 = .ok (.putfield 15, 3) := by decide +kernel
theorem dX_init_16 : decode bX_init 16 = .ok (.aload_n 0, 1) := by decide +kernel
theorem dX_init_17 : decode bX_init 17 = .ok (.lconst 0, 1) := by decide +kernel
theorem dX_init_18 : decode bX_init 18 = .ok (.putfield 19, 3) := by decide +kernel
theorem dX_init_21 : decode bX_init 21 = .ok (.return_, 1) := by decide +kernel
theorem dX_isNone_0 : decode bX_isNone 0 = .ok (.aload_n 0, 1) := by decide +kernel
theorem dX_isNone_1 : decode bX_isNone 1 = .ok (.getfield 19, 3) := by decide +kernel
theorem dX_isNone_4 : decode bX_isNone 4 = .ok (.lconst 0, 1) := by decide +kernel
theorem dX_isNone_5 : decode bX_isNone 5 = .ok (.lcmp, 1) := by decide +kernel
theorem dX_isNone_6 : decode bX_isNone 6 = .ok (.ifCond .ne 7, 3) := by decide +kernel
theorem dX_isNone_9 : decode bX_isNone 9 = .ok (.iconst 1, 1) := by decide +kernel
theorem dX_isNone_10 : decode bX_isNone 10 = .ok (.goto 4, 3) := by decide +kernel
theorem dX_isNone_13 : decode bX_isNone 13 = .ok (.iconst 0, 1) := by decide +kernel
theorem dX_isNone_14 : decode bX_isNone 14 = .ok (.ireturn, 1) := by decide +kernel
theorem dX_forget_0 : decode bX_forget 0 = .ok (.aload_n 0, 1) := by decide +kernel
theorem dX_forget_1 : decode bX_forget 1 = .ok (.lconst 0, 1) := by decide +kernel
theorem dX_forget_2 : decode bX_forget 2 = .ok (.putfield 19, 3) := by decide +kernel
theorem dX_forget_5 : decode bX_forget 5 = .ok (.return_, 1) := by decide +kernel
theorem dX_become_0 : decode bX_become 0 = .ok (.iconst 0, 1) := by decide +kernel
theorem dX_become_1 : decode bX_become 1 = .ok (.istore_n 2, 1) := by decide +kernel
theorem dX_become_2 : decode bX_become 2 = .ok (.iload_n 2, 1) := by decide +kernel
theorem dX_become_3 : decode bX_become 3 = .ok (.iconst 4, 1) := by decide +kernel
theorem dX_become_4 : decode bX_become 4 = .ok (.if_icmp .ge 21, 3) := by decide +kernel
theorem dX_become_7 : decode bX_become 7 = .ok (.aload_n 0, 1) := by decide +kernel
theorem dX_become_8 : decode bX_become 8 = .ok (.getfield 9, 3) := by decide +kernel
theorem dX_become_11 : decode bX_become 11 = .ok (.iload_n 2, 1) := by decide +kernel
theorem dX_become_12 : decode bX_become 12 = .ok (.aload_n 1, 1) := by decide +kernel
theorem dX_become_13 : decode bX_become 13 = .ok (.getfield 9, 3) := by decide +kernel
theorem dX_become_16 : decode bX_become 16 = .ok (.iload_n 2, 1) := by decide +kernel
theorem dX_become_17 : decode bX_become 17 = .ok (.laload, 1) := by decide +kernel
theorem dX_become_18 : decode bX_become 18 = .ok (.lastore, 1) := by decide +kernel
theorem dX_become_19 : decode bX_become 19 = .ok (.iinc 2 1, 3) := by decide +kernel
theorem dX_become_22 : decode bX_become 22 = .ok (.goto (-20), 3) := by decide +kernel
theorem dX_become_25 : decode bX_become 25 = .ok (.aload_n 0, 1) := by decide +kernel
theorem dX_become_26 : decode bX_become 26 = .ok (.aload_n 1, 1) := by decide +kernel
theorem dX_become_27 : decode bX_become 27 = .ok (.getfield 15, 3) := by decide +kernel
theorem dX_become_30 : decode bX_become 30 = .ok (.putfield 15, 3) := by decide +kernel
theorem dX_become_33 : decode bX_become 33 = .ok (.aload_n 0, 1) := by decide +kernel
theorem dX_become_34 : decode bX_become 34 = .ok (.aload_n 1, 1) := by decide +kernel
theorem dX_become_35 : decode bX_become 35 = .ok (.getfield 19, 3) := by decide +kernel
theorem dX_become_38 : decode bX_become 38 = .ok (.putfield 19, 3) := by decide +kernel
theorem dX_become_41 : decode bX_become 41 = .ok (.return_, 1) := by decide +kernel
theorem dX_isBetterThan_0 : decode bX_isBetterThan 0 = .ok (.aload_n 1, 1) := by decide +kernel
theorem dX_isBetterThan_1 : decode bX_isBetterThan 1 = .ok (.getfield 19, 3) := by decide +kernel
theorem dX_isBetterThan_4 : decode bX_isBetterThan 4 = .ok (.lconst 0, 1) := by decide +kernel
theorem dX_isBetterThan_5 : decode bX_isBetterThan 5 = .ok (.lcmp, 1) := by decide +kernel
theorem dX_isBetterThan_6 : decode bX_isBetterThan 6 = .ok (.ifCond .ne 5, 3) := by decide +kernel
theorem dX_isBetterThan_9 : decode bX_isBetterThan 9 = .ok (.iconst 1, 1) := by decide +kernel
theorem dX_isBetterThan_10 : decode bX_isBetterThan 10 = .ok (.ireturn, 1) := by decide +kernel
theorem dX_isBetterThan_11 : decode bX_isBetterThan 11 = .ok (.aload_n 0, 1) := by decide +kernel
theorem dX_isBetterThan_12 : decode bX_isBetterThan 12 = .ok (.getfield 15, 3) := by decide +kernel
theorem dX_isBetterThan_15 : decode bX_isBetterThan 15 = .ok (.aload_n 1, 1) := by decide +kernel
theorem dX_isBetterThan_16 : decode bX_isBetterThan 16 = .ok (.getfield 19, 3) := by decide +kernel
theorem dX_isBetterThan_19 : decode bX_isBetterThan 19 = .ok (.lmul, 1) := by decide +kernel
theorem dX_isBetterThan_20 : decode bX_isBetterThan 20 = .ok (.aload_n 1, 1) := by decide +kernel
theorem dX_isBetterThan_21 : decode bX_isBetterThan 21 = .ok (.getfield 15, 3) := by decide +kernel
theorem dX_isBetterThan_24 : decode bX_isBetterThan 24 = .ok (.aload_n 0, 1) := by decide +kernel
theorem dX_isBetterThan_25 : decode bX_isBetterThan 25 = .ok (.getfield 19, 3) := by decide +kernel
theorem dX_isBetterThan_28 : decode bX_isBetterThan 28 = .ok (.lmul, 1) := by decide +kernel
theorem dX_isBetterThan_29 : decode bX_isBetterThan 29 = .ok (.invokestatic 22, 3) := by decide +kernel
theorem dX_isBetterThan_32 : decode bX_isBetterThan 32 = .ok (.istore_n 2, 1) := by decide +kernel
theorem dX_isBetterThan_33 : decode bX_isBetterThan 33 = .ok (.iconst 0, 1) := by decide +kernel
theorem dX_isBetterThan_34 : decode bX_isBetterThan 34 = .ok (.istore_n 3, 1) := by decide +kernel
theorem dX_isBetterThan_35 : decode bX_isBetterThan 35 = .ok (.iload_n 3, 1) := by decide +kernel
theorem dX_isBetterThan_36 : decode bX_isBetterThan 36 = .ok (.iconst 4, 1) := by decide +kernel
theorem dX_isBetterThan_37 : decode bX_isBetterThan 37 = .ok (.if_icmp .ge 39, 3) := by decide +kernel
theorem dX_isBetterThan_40 : decode bX_isBetterThan 40 = .ok (.iload_n 2, 1) := by decide +kernel
theorem dX_isBetterThan_41 : decode bX_isBetterThan 41 = .ok (.ifCond .ne 35, 3) := by decide +kernel
theorem dX_isBetterThan_44 : decode bX_isBetterThan 44 = .ok (.aload_n 0, 1) := by decide +kernel
theorem dX_isBetterThan_45 : decode bX_isBetterThan 45 = .ok (.getfield 9, 3) := by decide +kernel
theorem dX_isBetterThan_48 : decode bX_isBetterThan 48 = .ok (.iload_n 3, 1) := by decide +kernel
theorem dX_isBetterThan_49 : decode bX_isBetterThan 49 = .ok (.laload, 1) := by decide +kernel
theorem dX_isBetterThan_50 : decode bX_isBetterThan 50 = .ok (.aload_n 1, 1) := by decide +kernel
theorem dX_isBetterThan_51 : decode bX_isBetterThan 51 = .ok (.getfield 19, 3) := by decide +kernel
theorem dX_isBetterThan_54 : decode bX_isBetterThan 54 = .ok (.lmul, 1) := by decide +kernel
theorem dX_isBetterThan_55 : decode bX_isBetterThan 55 = .ok (.aload_n 1, 1) := by decide +kernel
theorem dX_isBetterThan_56 : decode bX_isBetterThan 56 = .ok (.getfield 9, 3) := by decide +kernel
theorem dX_isBetterThan_59 : decode bX_isBetterThan 59 = .ok (.iload_n 3, 1) := by decide +kernel
theorem dX_isBetterThan_60 : decode bX_isBetterThan 60 = .ok (.laload, 1) := by decide +kernel
theorem dX_isBetterThan_61 : decode bX_isBetterThan 61 = .ok (.aload_n 0, 1) := by decide +kernel
theorem dX_isBetterThan_62 : decode bX_isBetterThan 62 = .ok (.getfield 19, 3) := by decide +kernel
theorem dX_isBetterThan_65 : decode bX_isBetterThan 65 = .ok (.lmul, 1) := by decide +kernel
theorem dX_isBetterThan_66 : decode bX_isBetterThan 66 = .ok (.invokestatic 22, 3) := by decide +kernel
theorem dX_isBetterThan_69 : decode bX_isBetterThan 69 = .ok (.istore_n 2, 1) := by decide +kernel
theorem dX_isBetterThan_70 : decode bX_isBetterThan 70 = .ok (.iinc 3 1, 3) := by decide +kernel
theorem dX_isBetterThan_73 : decode bX_isBetterThan 73 = .ok (.goto (-38), 3) := by decide +kernel
theorem dX_isBetterThan_76 : decode bX_isBetterThan 76 = .ok (.iload_n 2, 1) := by decide +kernel
theorem dX_isBetterThan_77 : decode bX_isBetterThan 77 = .ok (.ifCond .ge 7, 3) := by decide +kernel
theorem dX_isBetterThan_80 : decode bX_isBetterThan 80 = .ok (.iconst 1, 1) := by decide +kernel
theorem dX_isBetterThan_81 : decode bX_isBetterThan 81 = .ok (.goto 4, 3) := by decide +kernel
theorem dX_isBetterThan_84 : decode bX_isBetterThan 84 = .ok (.iconst 0, 1) := by decide +kernel
theorem dX_isBetterThan_85 : decode bX_isBetterThan 85 = .ok (.ireturn, 1) := by decide +kernel
theorem dX_sum_0 : decode bX_sum 0 = .ok (.aload_n 1, 1) := by decide +kernel
theorem dX_sum_1 : decode bX_sum 1 = .ok (.iconst 0, 1) := by decide +kernel
theorem dX_sum_2 : decode bX_sum 2 = .ok (.iaload, 1) := by decide +kernel
theorem dX_sum_3 : decode bX_sum 3 = .ok (.i2l, 1) := by decide +kernel
theorem dX_sum_4 : decode bX_sum 4 = .ok (.aload_n 0, 1) := by decide +kernel
theorem dX_sum_5 : decode bX_sum 5 = .ok (.getfield 9, 3) := by decide +kernel
theorem dX_sum_8 : decode bX_sum 8 = .ok (.iconst 0, 1) := by decide +kernel
theorem dX_sum_9 : decode bX_sum 9 = .ok (.laload, 1) := by decide +kernel
theorem dX_sum_10 : decode bX_sum 10 = .ok (.lmul, 1) := by decide +kernel
theorem dX_sum_11 : decode bX_sum 11 = .ok (.aload_n 1, 1) := by decide +kernel
theorem dX_sum_12 : decode bX_sum 12 = .ok (.iconst 1, 1) := by decide +kernel
theorem dX_sum_13 : decode bX_sum 13 = .ok (.iaload, 1) := by decide +kernel
theorem dX_sum_14 : decode bX_sum 14 = .ok (.i2l, 1) := by decide +kernel
theorem dX_sum_15 : decode bX_sum 15 = .ok (.aload_n 0, 1) := by decide +kernel
theorem dX_sum_16 : decode bX_sum 16 = .ok (.getfield 9, 3) := by decide +kernel
theorem dX_sum_19 : decode bX_sum 19 = .ok (.iconst 1, 1) := by decide +kernel
theorem dX_sum_20 : decode bX_sum 20 = .ok (.laload, 1) := by decide +kernel
theorem dX_sum_21 : decode bX_sum 21 = .ok (.lmul, 1) := by decide +kernel
theorem dX_sum_22 : decode bX_sum 22 = .ok (.ladd, 1) := by decide +kernel
theorem dX_sum_23 : decode bX_sum 23 = .ok (.aload_n 1, 1) := by decide +kernel
theorem dX_sum_24 : decode bX_sum 24 = .ok (.iconst 2, 1) := by decide +kernel
theorem dX_sum_25 : decode bX_sum 25 = .ok (.iaload, 1) := by decide +kernel
theorem dX_sum_26 : decode bX_sum 26 = .ok (.i2l, 1) := by decide +kernel
theorem dX_sum_27 : decode bX_sum 27 = .ok (.aload_n 0, 1) := by decide +kernel
theorem dX_sum_28 : decode bX_sum 28 = .ok (.getfield 9, 3) := by decide +kernel
theorem dX_sum_31 : decode bX_sum 31 = .ok (.iconst 2, 1) := by decide +kernel
theorem dX_sum_32 : decode bX_sum 32 = .ok (.laload, 1) := by decide +kernel
theorem dX_sum_33 : decode bX_sum 33 = .ok (.lmul, 1) := by decide +kernel
theorem dX_sum_34 : decode bX_sum 34 = .ok (.ladd, 1) := by decide +kernel
theorem dX_sum_35 : decode bX_sum 35 = .ok (.aload_n 1, 1) := by decide +kernel
theorem dX_sum_36 : decode bX_sum 36 = .ok (.iconst 3, 1) := by decide +kernel
theorem dX_sum_37 : decode bX_sum 37 = .ok (.iaload, 1) := by decide +kernel
theorem dX_sum_38 : decode bX_sum 38 = .ok (.i2l, 1) := by decide +kernel
theorem dX_sum_39 : decode bX_sum 39 = .ok (.aload_n 0, 1) := by decide +kernel
theorem dX_sum_40 : decode bX_sum 40 = .ok (.getfield 9, 3) := by decide +kernel
theorem dX_sum_43 : decode bX_sum 43 = .ok (.iconst 3, 1) := by decide +kernel
theorem dX_sum_44 : decode bX_sum 44 = .ok (.laload, 1) := by decide +kernel
theorem dX_sum_45 : decode bX_sum 45 = .ok (.lmul, 1) := by decide +kernel
theorem dX_sum_46 : decode bX_sum 46 = .ok (.ladd, 1) := by decide +kernel
theorem dX_sum_47 : decode bX_sum 47 = .ok (.lreturn, 1) := by decide +kernel
theorem dL_init_0 : decode bL_init 0 = .ok (.aload_n 0, 1) := by decide +kernel
theorem dL_init_1 : decode bL_init 1 = .ok (.invokespecial 3, 3) := by decide +kernel
theorem dL_init_4 : decode bL_init 4 = .ok (.aload_n 0, 1) := by decide +kernel
theorem dL_init_5 : decode bL_init 5 = .ok (.iconst 0, 1) := by decide +kernel
theorem dL_init_6 : decode bL_init 6 = .ok (.putfield 9, 3) := by decide +kernel
theorem dL_init_9 : decode bL_init 9 = .ok (.aload_n 0, 1) := by decide +kernel
theorem dL_init_10 : decode bL_init 10 = .ok (.iconst 0, 1) := by decide +kernel
theorem dL_init_11 : decode bL_init 11 = .ok (.putfield 15, 3) := by decide +kernel
theorem dL_init_14 : decode bL_init 14 = .ok (.aload_n 0, 1) := by decide +kernel
theorem dL_init_15 : decode bL_init 15 = .ok (.iconst 0, 1) := by decide +kernel
theorem dL_init_16 : decode bL_init 16 = .ok (.putfield 18, 3) := by decide +kernel
theorem dL_init_19 : decode bL_init 19 = .ok (.aload_n 0, 1) := by decide +kernel
theorem dL_init_20 : decode bL_init 20 = .ok (.bipush 7, 2) := by decide +kernel
theorem dL_init_22 : decode bL_init 22 = .ok (.newarray .int, 2) := by decide +kernel
theorem dL_init_24 : decode bL_init 24 = .ok (.putfield 21, 3) := by decide +kernel
theorem dL_init_27 : decode bL_init 27 = .ok (.aload_n 0, 1) := by decide +kernel
theorem dL_init_28 : decode bL_init 28 = .ok (.bipush 7, 2) := by decide +kernel
theorem dL_init_30 : decode bL_init 30 = .ok (.newarray .int, 2) := by decide +kernel
theorem dL_init_32 : decode bL_init 32 = .ok (.putfield 25, 3) := by decide +kernel
theorem dL_init_35 : decode bL_init 35 = .ok (.aload_n 0, 1) := by decide +kernel
theorem dL_init_36 : decode bL_init 36 = .ok (.iconst 3, 1) := by decide +kernel
theorem dL_init_37 : decode bL_init 37 = .ok (.iconst 4, 1) := by decide +kernel
theorem dL_init_38 : decode bL_init 38 = .ok (.multianewarray 28 2, 4) := by decide +kernel
theorem dL_init_42 : decode bL_init 42 = .ok (.putfield 30, 3) := by decide +kernel
theorem dL_init_45 : decode bL_init 45 = .ok (.aload_n 0, 1) := by decide +kernel
theorem dL_init_46 : decode bL_init 46 = .ok (.aload_n 1, 1) := by decide +kernel
theorem dL_init_47 : decode bL_init 47 = .ok (.putfield 33, 3) := by decide +kernel
theorem dL_init_50 : decode bL_init 50 = .ok (.return_, 1) := by decide +kernel
theorem dL_keepAll_0 : decode bL_keepAll 0 = .ok (.aload_n 0, 1) := by decide +kernel
theorem dL_keepAll_1 : decode bL_keepAll 1 = .ok (.iload_n 1, 1) := by decide +kernel
theorem dL_keepAll_2 : decode bL_keepAll 2 = .ok (.putfield 9, 3) := by decide +kernel
theorem dL_keepAll_5 : decode bL_keepAll 5 = .ok (.aload_n 0, 1) := by decide +kernel
theorem dL_keepAll_6 : decode bL_keepAll 6 = .ok (.bipush 10, 2) := by decide +kernel
theorem dL_keepAll_8 : decode bL_keepAll 8 = .ok (.iload_n 1, 1) := by decide +kernel
theorem dL_keepAll_9 : decode bL_keepAll 9 = .ok (.imul, 1) := by decide +kernel
theorem dL_keepAll_10 : decode bL_keepAll 10 = .ok (.putfield 15, 3) := by decide +kernel
theorem dL_keepAll_13 : decode bL_keepAll 13 = .ok (.aload_n 0, 1) := by decide +kernel
theorem dL_keepAll_14 : decode bL_keepAll 14 = .ok (.iconst 0, 1) := by decide +kernel
theorem dL_keepAll_15 : decode bL_keepAll 15 = .ok (.putfield 18, 3) := by decide +kernel
theorem dL_keepAll_18 : decode bL_keepAll 18 = .ok (.iconst 0, 1) := by decide +kernel
theorem dL_keepAll_19 : decode bL_keepAll 19 = .ok (.istore_n 2, 1) := by decide +kernel
theorem dL_keepAll_20 : decode bL_keepAll 20 = .ok (.iload_n 2, 1) := by decide +kernel
theorem dL_keepAll_21 : decode bL_keepAll 21 = .ok (.bipush 7, 2) := by decide +kernel
theorem dL_keepAll_23 : decode bL_keepAll 23 = .ok (.if_icmp .ge 14, 3) := by decide +kernel
theorem dL_keepAll_26 : decode bL_keepAll 26 = .ok (.aload_n 0, 1) := by decide +kernel
theorem dL_keepAll_27 : decode bL_keepAll 27 = .ok (.iload_n 2, 1) := by decide +kernel
theorem dL_keepAll_28 : decode bL_keepAll 28 = .ok (.invokevirtual 37, 3) := by decide +kernel
theorem dL_keepAll_31 : decode bL_keepAll 31 = .ok (.iinc 2 1, 3) := by decide +kernel
theorem dL_keepAll_34 : decode bL_keepAll 34 = .ok (.goto (-14), 3) := by decide +kernel
theorem dL_keepAll_37 : decode bL_keepAll 37 = .ok (.iconst 0, 1) := by decide +kernel
theorem dL_keepAll_38 : decode bL_keepAll 38 = .ok (.istore_n 2, 1) := by decide +kernel
theorem dL_keepAll_39 : decode bL_keepAll 39 = .ok (.iload_n 2, 1) := by decide +kernel
theorem dL_keepAll_40 : decode bL_keepAll 40 = .ok (.bipush 18, 2) := by decide +kernel
theorem dL_keepAll_42 : decode bL_keepAll 42 = .ok (.if_icmp .ge 22, 3) := by decide +kernel
theorem dL_keepAll_45 : decode bL_keepAll 45 = .ok (.aload_n 0, 1) := by decide +kernel
theorem dL_keepAll_46 : decode bL_keepAll 46 = .ok (.iload_n 2, 1) := by decide +kernel
theorem dL_keepAll_47 : decode bL_keepAll 47 = .ok (.invokevirtual 41, 3) := by decide +kernel
theorem dL_keepAll_50 : decode bL_keepAll 50 = .ok (.ifCond .eq 8, 3) := by decide +kernel
theorem dL_keepAll_53 : decode bL_keepAll 53 = .ok (.aload_n 0, 1) := by decide +kernel
theorem dL_keepAll_54 : decode bL_keepAll 54 = .ok (.iload_n 2, 1) := by decide +kernel
theorem dL_keepAll_55 : decode bL_keepAll 55 = .ok (.invokevirtual 45, 3) := by decide +kernel
theorem dL_keepAll_58 : decode bL_keepAll 58 = .ok (.iinc 2 1, 3) := by decide +kernel
theorem dL_keepAll_61 : decode bL_keepAll 61 = .ok (.goto (-22), 3) := by decide +kernel
theorem dL_keepAll_64 : decode bL_keepAll 64 = .ok (.iconst 0, 1) := by decide +kernel
theorem dL_keepAll_65 : decode bL_keepAll 65 = .ok (.istore_n 2, 1) := by decide +kernel
theorem dL_keepAll_66 : decode bL_keepAll 66 = .ok (.iload_n 2, 1) := by decide +kernel
theorem dL_keepAll_67 : decode bL_keepAll 67 = .ok (.iconst 3, 1) := by decide +kernel
theorem dL_keepAll_68 : decode bL_keepAll 68 = .ok (.if_icmp .ge 27, 3) := by decide +kernel
theorem dL_keepAll_71 : decode bL_keepAll 71 = .ok (.aload_n 0, 1) := by decide +kernel
theorem dL_keepAll_72 : decode bL_keepAll 72 = .ok (.getfield 30, 3) := by decide +kernel
theorem dL_keepAll_75 : decode bL_keepAll 75 = .ok (.iload_n 2, 1) := by decide +kernel
theorem dL_keepAll_76 : decode bL_keepAll 76 = .ok (.aaload, 1) := by decide +kernel
theorem dL_keepAll_77 : decode bL_keepAll 77 = .ok (.aload_n 0, 1) := by decide +kernel
theorem dL_keepAll_78 : decode bL_keepAll 78 = .ok (.getfield 33, 3) := by decide +kernel
theorem dL_keepAll_81 : decode bL_keepAll 81 = .ok (.getfield 48, 3) := by decide +kernel
theorem dL_keepAll_84 : decode bL_keepAll 84 = .ok (.iload_n 2, 1) := by decide +kernel
theorem dL_keepAll_85 : decode bL_keepAll 85 = .ok (.aaload, 1) := by decide +kernel
theorem dL_keepAll_86 : decode bL_keepAll 86 = .ok (.invokestatic 53, 3) := by decide +kernel
theorem dL_keepAll_89 : decode bL_keepAll 89 = .ok (.iinc 2 1, 3) := by decide +kernel
theorem dL_keepAll_92 : decode bL_keepAll 92 = .ok (.goto (-26), 3) := by decide +kernel
theorem dL_keepAll_95 : decode bL_keepAll 95 = .ok (.return_, 1) := by decide +kernel
theorem dL_sortByPoints_0 : decode bL_sortByPoints 0 = .ok (.iconst 0, 1) := by decide +kernel
theorem dL_sortByPoints_1 : decode bL_sortByPoints 1 = .ok (.istore_n 2, 1) := by decide +kernel
theorem dL_sortByPoints_2 : decode bL_sortByPoints 2 = .ok (.iload_n 2, 1) := by decide +kernel
theorem dL_sortByPoints_3 : decode bL_sortByPoints 3 = .ok (.iconst 4, 1) := by decide +kernel
theorem dL_sortByPoints_4 : decode bL_sortByPoints 4 = .ok (.if_icmp .ge 46, 3) := by decide +kernel
theorem dL_sortByPoints_7 : decode bL_sortByPoints 7 = .ok (.iload_n 2, 1) := by decide +kernel
theorem dL_sortByPoints_8 : decode bL_sortByPoints 8 = .ok (.istore_n 3, 1) := by decide +kernel
theorem dL_sortByPoints_9 : decode bL_sortByPoints 9 = .ok (.iload_n 3, 1) := by decide +kernel
theorem dL_sortByPoints_10 : decode bL_sortByPoints 10 = .ok (.ifCond .le 30, 3) := by decide +kernel
theorem dL_sortByPoints_13 : decode bL_sortByPoints 13 = .ok (.aload_n 1, 1) := by decide +kernel
theorem dL_sortByPoints_14 : decode bL_sortByPoints 14 = .ok (.aload_n 0, 1) := by decide +kernel
theorem dL_sortByPoints_15 : decode bL_sortByPoints 15 = .ok (.iload_n 3, 1) := by decide +kernel
theorem dL_sortByPoints_16 : decode bL_sortByPoints 16 = .ok (.iconst 1, 1) := by decide +kernel
theorem dL_sortByPoints_17 : decode bL_sortByPoints 17 = .ok (.isub, 1) := by decide +kernel
theorem dL_sortByPoints_18 : decode bL_sortByPoints 18 = .ok (.iaload, 1) := by decide +kernel
theorem dL_sortByPoints_19 : decode bL_sortByPoints 19 = .ok (.iaload, 1) := by decide +kernel
theorem dL_sortByPoints_20 : decode bL_sortByPoints 20 = .ok (.aload_n 1, 1) := by decide +kernel
theorem dL_sortByPoints_21 : decode bL_sortByPoints 21 = .ok (.iload_n 2, 1) := by decide +kernel
theorem dL_sortByPoints_22 : decode bL_sortByPoints 22 = .ok (.iaload, 1) := by decide +kernel
theorem dL_sortByPoints_23 : decode bL_sortByPoints 23 = .ok (.if_icmp .le 17, 3) := by decide +kernel
theorem dL_sortByPoints_26 : decode bL_sortByPoints 26 = .ok (.aload_n 0, 1) := by decide +kernel
theorem dL_sortByPoints_27 : decode bL_sortByPoints 27 = .ok (.iload_n 3, 1) := by decide +kernel
theorem dL_sortByPoints_28 : decode bL_sortByPoints 28 = .ok (.aload_n 0, 1) := by decide +kernel
theorem dL_sortByPoints_29 : decode bL_sortByPoints 29 = .ok (.iload_n 3, 1) := by decide +kernel
theorem dL_sortByPoints_30 : decode bL_sortByPoints 30 = .ok (.iconst 1, 1) := by decide +kernel
theorem dL_sortByPoints_31 : decode bL_sortByPoints 31 = .ok (.isub, 1) := by decide +kernel
theorem dL_sortByPoints_32 : decode bL_sortByPoints 32 = .ok (.iaload, 1) := by decide +kernel
theorem dL_sortByPoints_33 : decode bL_sortByPoints 33 = .ok (.iastore, 1) := by decide +kernel
theorem dL_sortByPoints_34 : decode bL_sortByPoints 34 = .ok (.iinc 3 (-1), 3) := by decide +kernel
theorem dL_sortByPoints_37 : decode bL_sortByPoints 37 = .ok (.goto (-28), 3) := by decide +kernel
theorem dL_sortByPoints_40 : decode bL_sortByPoints 40 = .ok (.aload_n 0, 1) := by decide +kernel
theorem dL_sortByPoints_41 : decode bL_sortByPoints 41 = .ok (.iload_n 3, 1) := by decide +kernel
theorem dL_sortByPoints_42 : decode bL_sortByPoints 42 = .ok (.iload_n 2, 1) := by decide +kernel
theorem dL_sortByPoints_43 : decode bL_sortByPoints 43 = .ok (.iastore, 1) := by decide +kernel
theorem dL_sortByPoints_44 : decode bL_sortByPoints 44 = .ok (.iinc 2 1, 3) := by decide +kernel
theorem dL_sortByPoints_47 : decode bL_sortByPoints 47 = .ok (.goto (-45), 3) := by decide +kernel
theorem dL_sortByPoints_50 : decode bL_sortByPoints 50 = .ok (.return_, 1) := by decide +kernel
theorem dL_widen_0 : decode bL_widen 0 = .ok (.aload_n 0, 1) := by decide +kernel
theorem dL_widen_1 : decode bL_widen 1 = .ok (.getfield 21, 3) := by decide +kernel
theorem dL_widen_4 : decode bL_widen 4 = .ok (.iload_n 1, 1) := by decide +kernel
theorem dL_widen_5 : decode bL_widen 5 = .ok (.iconst 0, 1) := by decide +kernel
theorem dL_widen_6 : decode bL_widen 6 = .ok (.iastore, 1) := by decide +kernel
theorem dL_widen_7 : decode bL_widen 7 = .ok (.iload_n 1, 1) := by decide +kernel
theorem dL_widen_8 : decode bL_widen 8 = .ok (.iconst 4, 1) := by decide +kernel
theorem dL_widen_9 : decode bL_widen 9 = .ok (.if_icmp .lt 19, 3) := by decide +kernel
theorem dL_widen_12 : decode bL_widen 12 = .ok (.aload_n 0, 1) := by decide +kernel
theorem dL_widen_13 : decode bL_widen 13 = .ok (.getfield 25, 3) := by decide +kernel
theorem dL_widen_16 : decode bL_widen 16 = .ok (.iload_n 1, 1) := by decide +kernel
theorem dL_widen_17 : decode bL_widen 17 = .ok (.bipush 40, 2) := by decide +kernel
theorem dL_widen_19 : decode bL_widen 19 = .ok (.aload_n 0, 1) := by decide +kernel
theorem dL_widen_20 : decode bL_widen 20 = .ok (.getfield 15, 3) := by decide +kernel
theorem dL_widen_23 : decode bL_widen 23 = .ok (.imul, 1) := by decide +kernel
theorem dL_widen_24 : decode bL_widen 24 = .ok (.iastore, 1) := by decide +kernel
theorem dL_widen_25 : decode bL_widen 25 = .ok (.goto 28, 3) := by decide +kernel
theorem dL_widen_28 : decode bL_widen 28 = .ok (.aload_n 0, 1) := by decide +kernel
theorem dL_widen_29 : decode bL_widen 29 = .ok (.getfield 25, 3) := by decide +kernel
theorem dL_widen_32 : decode bL_widen 32 = .ok (.iload_n 1, 1) := by decide +kernel
theorem dL_widen_33 : decode bL_widen 33 = .ok (.iload_n 1, 1) := by decide +kernel
theorem dL_widen_34 : decode bL_widen 34 = .ok (.aload_n 0, 1) := by decide +kernel
theorem dL_widen_35 : decode bL_widen 35 = .ok (.getfield 33, 3) := by decide +kernel
theorem dL_widen_38 : decode bL_widen 38 = .ok (.getfield 57, 3) := by decide +kernel
theorem dL_widen_41 : decode bL_widen 41 = .ok (.if_icmp .ge 10, 3) := by decide +kernel
theorem dL_widen_44 : decode bL_widen 44 = .ok (.aload_n 0, 1) := by decide +kernel
theorem dL_widen_45 : decode bL_widen 45 = .ok (.getfield 15, 3) := by decide +kernel
theorem dL_widen_48 : decode bL_widen 48 = .ok (.goto 4, 3) := by decide +kernel
theorem dL_widen_51 : decode bL_widen 51 = .ok (.iconst 0, 1) := by decide +kernel
theorem dL_widen_52 : decode bL_widen 52 = .ok (.iastore, 1) := by decide +kernel
theorem dL_widen_53 : decode bL_widen 53 = .ok (.return_, 1) := by decide +kernel
theorem dL_keep_0 : decode bL_keep 0 = .ok (.aload_n 0, 1) := by decide +kernel
theorem dL_keep_1 : decode bL_keep 1 = .ok (.dup, 1) := by decide +kernel
theorem dL_keep_2 : decode bL_keep 2 = .ok (.getfield 18, 3) := by decide +kernel
theorem dL_keep_5 : decode bL_keep 5 = .ok (.iconst 1, 1) := by decide +kernel
theorem dL_keep_6 : decode bL_keep 6 = .ok (.iload_n 1, 1) := by decide +kernel
theorem dL_keep_7 : decode bL_keep 7 = .ok (.ishl, 1) := by decide +kernel
theorem dL_keep_8 : decode bL_keep 8 = .ok (.ior, 1) := by decide +kernel
theorem dL_keep_9 : decode bL_keep 9 = .ok (.putfield 18, 3) := by decide +kernel
theorem dL_keep_12 : decode bL_keep 12 = .ok (.iload_n 1, 1) := by decide +kernel
theorem dL_keep_13 : decode bL_keep 13 = .ok (.invokestatic 60, 3) := by decide +kernel
theorem dL_keep_16 : decode bL_keep 16 = .ok (.istore_n 2, 1) := by decide +kernel
theorem dL_keep_17 : decode bL_keep 17 = .ok (.iload_n 1, 1) := by decide +kernel
theorem dL_keep_18 : decode bL_keep 18 = .ok (.invokestatic 64, 3) := by decide +kernel
theorem dL_keep_21 : decode bL_keep 21 = .ok (.ifCond .eq 26, 3) := by decide +kernel
theorem dL_keep_24 : decode bL_keep 24 = .ok (.aload_n 0, 1) := by decide +kernel
theorem dL_keep_25 : decode bL_keep 25 = .ok (.getfield 21, 3) := by decide +kernel
theorem dL_keep_28 : decode bL_keep 28 = .ok (.iload_n 2, 1) := by decide +kernel
theorem dL_keep_29 : decode bL_keep 29 = .ok (.aload_n 0, 1) := by decide +kernel
theorem dL_keep_30 : decode bL_keep 30 = .ok (.getfield 21, 3) := by decide +kernel
theorem dL_keep_33 : decode bL_keep 33 = .ok (.iload_n 2, 1) := by decide +kernel
theorem dL_keep_34 : decode bL_keep 34 = .ok (.iaload, 1) := by decide +kernel
theorem dL_keep_35 : decode bL_keep 35 = .ok (.aload_n 0, 1) := by decide +kernel
theorem dL_keep_36 : decode bL_keep 36 = .ok (.iload_n 1, 1) := by decide +kernel
theorem dL_keep_37 : decode bL_keep 37 = .ok (.invokevirtual 67, 3) := by decide +kernel
theorem dL_keep_40 : decode bL_keep 40 = .ok (.invokestatic 70, 3) := by decide +kernel
theorem dL_keep_43 : decode bL_keep 43 = .ok (.iastore, 1) := by decide +kernel
theorem dL_keep_44 : decode bL_keep 44 = .ok (.goto 23, 3) := by decide +kernel
theorem dL_keep_47 : decode bL_keep 47 = .ok (.aload_n 0, 1) := by decide +kernel
theorem dL_keep_48 : decode bL_keep 48 = .ok (.getfield 25, 3) := by decide +kernel
theorem dL_keep_51 : decode bL_keep 51 = .ok (.iload_n 2, 1) := by decide +kernel
theorem dL_keep_52 : decode bL_keep 52 = .ok (.aload_n 0, 1) := by decide +kernel
theorem dL_keep_53 : decode bL_keep 53 = .ok (.getfield 25, 3) := by decide +kernel
theorem dL_keep_56 : decode bL_keep 56 = .ok (.iload_n 2, 1) := by decide +kernel
theorem dL_keep_57 : decode bL_keep 57 = .ok (.iaload, 1) := by decide +kernel
theorem dL_keep_58 : decode bL_keep 58 = .ok (.aload_n 0, 1) := by decide +kernel
theorem dL_keep_59 : decode bL_keep 59 = .ok (.iload_n 1, 1) := by decide +kernel
theorem dL_keep_60 : decode bL_keep 60 = .ok (.invokevirtual 67, 3) := by decide +kernel
theorem dL_keep_63 : decode bL_keep 63 = .ok (.invokestatic 76, 3) := by decide +kernel
theorem dL_keep_66 : decode bL_keep 66 = .ok (.iastore, 1) := by decide +kernel
theorem dL_keep_67 : decode bL_keep 67 = .ok (.return_, 1) := by decide +kernel
theorem dL_leaveOut_0 : decode bL_leaveOut 0 = .ok (.iload_n 1, 1) := by decide +kernel
theorem dL_leaveOut_1 : decode bL_leaveOut 1 = .ok (.invokestatic 60, 3) := by decide +kernel
theorem dL_leaveOut_4 : decode bL_leaveOut 4 = .ok (.istore_n 2, 1) := by decide +kernel
theorem dL_leaveOut_5 : decode bL_leaveOut 5 = .ok (.aload_n 0, 1) := by decide +kernel
theorem dL_leaveOut_6 : decode bL_leaveOut 6 = .ok (.getfield 21, 3) := by decide +kernel
theorem dL_leaveOut_9 : decode bL_leaveOut 9 = .ok (.iload_n 2, 1) := by decide +kernel
theorem dL_leaveOut_10 : decode bL_leaveOut 10 = .ok (.iaload, 1) := by decide +kernel
theorem dL_leaveOut_11 : decode bL_leaveOut 11 = .ok (.istore_n 3, 1) := by decide +kernel
theorem dL_leaveOut_12 : decode bL_leaveOut 12 = .ok (.aload_n 0, 1) := by decide +kernel
theorem dL_leaveOut_13 : decode bL_leaveOut 13 = .ok (.getfield 25, 3) := by decide +kernel
theorem dL_leaveOut_16 : decode bL_leaveOut 16 = .ok (.iload_n 2, 1) := by decide +kernel
theorem dL_leaveOut_17 : decode bL_leaveOut 17 = .ok (.iaload, 1) := by decide +kernel
theorem dL_leaveOut_18 : decode bL_leaveOut 18 = .ok (.istore 4, 2) := by decide +kernel
theorem dL_leaveOut_20 : decode bL_leaveOut 20 = .ok (.aload_n 0, 1) := by decide +kernel
theorem dL_leaveOut_21 : decode bL_leaveOut 21 = .ok (.dup, 1) := by decide +kernel
theorem dL_leaveOut_22 : decode bL_leaveOut 22 = .ok (.getfield 18, 3) := by decide +kernel
theorem dL_leaveOut_25 : decode bL_leaveOut 25 = .ok (.iconst 1, 1) := by decide +kernel
theorem dL_leaveOut_26 : decode bL_leaveOut 26 = .ok (.iload_n 1, 1) := by decide +kernel
theorem dL_leaveOut_27 : decode bL_leaveOut 27 = .ok (.ishl, 1) := by decide +kernel
theorem dL_leaveOut_28 : decode bL_leaveOut 28 = .ok (.iconst (-1), 1) := by decide +kernel
theorem dL_leaveOut_29 : decode bL_leaveOut 29 = .ok (.ixor, 1) := by decide +kernel
theorem dL_leaveOut_30 : decode bL_leaveOut 30 = .ok (.iand, 1) := by decide +kernel
theorem dL_leaveOut_31 : decode bL_leaveOut 31 = .ok (.putfield 18, 3) := by decide +kernel
theorem dL_leaveOut_34 : decode bL_leaveOut 34 = .ok (.aload_n 0, 1) := by decide +kernel
theorem dL_leaveOut_35 : decode bL_leaveOut 35 = .ok (.iload_n 2, 1) := by decide +kernel
theorem dL_leaveOut_36 : decode bL_leaveOut 36 = .ok (.invokevirtual 37, 3) := by decide +kernel
theorem dL_leaveOut_39 : decode bL_leaveOut 39 = .ok (.iconst 0, 1) := by decide +kernel
theorem dL_leaveOut_40 : decode bL_leaveOut 40 = .ok (.istore 5, 2) := by decide +kernel
theorem dL_leaveOut_42 : decode bL_leaveOut 42 = .ok (.iload 5, 2) := by decide +kernel
theorem dL_leaveOut_44 : decode bL_leaveOut 44 = .ok (.bipush 18, 2) := by decide +kernel
theorem dL_leaveOut_46 : decode bL_leaveOut 46 = .ok (.if_icmp .ge 36, 3) := by decide +kernel
theorem dL_leaveOut_49 : decode bL_leaveOut 49 = .ok (.aload_n 0, 1) := by decide +kernel
theorem dL_leaveOut_50 : decode bL_leaveOut 50 = .ok (.getfield 18, 3) := by decide +kernel
theorem dL_leaveOut_53 : decode bL_leaveOut 53 = .ok (.iload 5, 2) := by decide +kernel
theorem dL_leaveOut_55 : decode bL_leaveOut 55 = .ok (.invokestatic 79, 3) := by decide +kernel
theorem dL_leaveOut_58 : decode bL_leaveOut 58 = .ok (.ifCond .eq 18, 3) := by decide +kernel
theorem dL_leaveOut_61 : decode bL_leaveOut 61 = .ok (.iload 5, 2) := by decide +kernel
theorem dL_leaveOut_63 : decode bL_leaveOut 63 = .ok (.invokestatic 60, 3) := by decide +kernel
theorem dL_leaveOut_66 : decode bL_leaveOut 66 = .ok (.iload_n 2, 1) := by decide +kernel
theorem dL_leaveOut_67 : decode bL_leaveOut 67 = .ok (.if_icmp .ne 9, 3) := by decide +kernel
theorem dL_leaveOut_70 : decode bL_leaveOut 70 = .ok (.aload_n 0, 1) := by decide +kernel
theorem dL_leaveOut_71 : decode bL_leaveOut 71 = .ok (.iload 5, 2) := by decide +kernel
theorem dL_leaveOut_73 : decode bL_leaveOut 73 = .ok (.invokevirtual 45, 3) := by decide +kernel
theorem dL_leaveOut_76 : decode bL_leaveOut 76 = .ok (.iinc 5 1, 3) := by decide +kernel
theorem dL_leaveOut_79 : decode bL_leaveOut 79 = .ok (.goto (-37), 3) := by decide +kernel
theorem dL_leaveOut_82 : decode bL_leaveOut 82 = .ok (.aload_n 0, 1) := by decide +kernel
theorem dL_leaveOut_83 : decode bL_leaveOut 83 = .ok (.getfield 21, 3) := by decide +kernel
theorem dL_leaveOut_86 : decode bL_leaveOut 86 = .ok (.iload_n 2, 1) := by decide +kernel
theorem dL_leaveOut_87 : decode bL_leaveOut 87 = .ok (.iaload, 1) := by decide +kernel
theorem dL_leaveOut_88 : decode bL_leaveOut 88 = .ok (.iload_n 3, 1) := by decide +kernel
theorem dL_leaveOut_89 : decode bL_leaveOut 89 = .ok (.if_icmp .ne 14, 3) := by decide +kernel
theorem dL_leaveOut_92 : decode bL_leaveOut 92 = .ok (.aload_n 0, 1) := by decide +kernel
theorem dL_leaveOut_93 : decode bL_leaveOut 93 = .ok (.getfield 25, 3) := by decide +kernel
theorem dL_leaveOut_96 : decode bL_leaveOut 96 = .ok (.iload_n 2, 1) := by decide +kernel
theorem dL_leaveOut_97 : decode bL_leaveOut 97 = .ok (.iaload, 1) := by decide +kernel
theorem dL_leaveOut_98 : decode bL_leaveOut 98 = .ok (.iload 4, 2) := by decide +kernel
theorem dL_leaveOut_100 : decode bL_leaveOut 100 = .ok (.if_icmp .eq 7, 3) := by decide +kernel
theorem dL_leaveOut_103 : decode bL_leaveOut 103 = .ok (.iconst 1, 1) := by decide +kernel
theorem dL_leaveOut_104 : decode bL_leaveOut 104 = .ok (.goto 4, 3) := by decide +kernel
theorem dL_leaveOut_107 : decode bL_leaveOut 107 = .ok (.iconst 0, 1) := by decide +kernel
theorem dL_leaveOut_108 : decode bL_leaveOut 108 = .ok (.ireturn, 1) := by decide +kernel
theorem dL_isThere_0 : decode bL_isThere 0 = .ok (.iload_n 1, 1) := by decide +kernel
theorem dL_isThere_1 : decode bL_isThere 1 = .ok (.invokestatic 60, 3) := by decide +kernel
theorem dL_isThere_4 : decode bL_isThere 4 = .ok (.istore_n 2, 1) := by decide +kernel
theorem dL_isThere_5 : decode bL_isThere 5 = .ok (.iload_n 2, 1) := by decide +kernel
theorem dL_isThere_6 : decode bL_isThere 6 = .ok (.iconst 4, 1) := by decide +kernel
theorem dL_isThere_7 : decode bL_isThere 7 = .ok (.if_icmp .ge 14, 3) := by decide +kernel
theorem dL_isThere_10 : decode bL_isThere 10 = .ok (.iload_n 2, 1) := by decide +kernel
theorem dL_isThere_11 : decode bL_isThere 11 = .ok (.aload_n 0, 1) := by decide +kernel
theorem dL_isThere_12 : decode bL_isThere 12 = .ok (.getfield 33, 3) := by decide +kernel
theorem dL_isThere_15 : decode bL_isThere 15 = .ok (.getfield 57, 3) := by decide +kernel
theorem dL_isThere_18 : decode bL_isThere 18 = .ok (.if_icmp .ge 7, 3) := by decide +kernel
theorem dL_isThere_21 : decode bL_isThere 21 = .ok (.iconst 1, 1) := by decide +kernel
theorem dL_isThere_22 : decode bL_isThere 22 = .ok (.goto 4, 3) := by decide +kernel
theorem dL_isThere_25 : decode bL_isThere 25 = .ok (.iconst 0, 1) := by decide +kernel
theorem dL_isThere_26 : decode bL_isThere 26 = .ok (.ireturn, 1) := by decide +kernel
theorem dL_levelOf_0 : decode bL_levelOf 0 = .ok (.iload_n 1, 1) := by decide +kernel
theorem dL_levelOf_1 : decode bL_levelOf 1 = .ok (.invokestatic 60, 3) := by decide +kernel
theorem dL_levelOf_4 : decode bL_levelOf 4 = .ok (.istore_n 2, 1) := by decide +kernel
theorem dL_levelOf_5 : decode bL_levelOf 5 = .ok (.iload_n 1, 1) := by decide +kernel
theorem dL_levelOf_6 : decode bL_levelOf 6 = .ok (.iconst 4, 1) := by decide +kernel
theorem dL_levelOf_7 : decode bL_levelOf 7 = .ok (.if_icmp .ge 16, 3) := by decide +kernel
theorem dL_levelOf_10 : decode bL_levelOf 10 = .ok (.bipush 10, 2) := by decide +kernel
theorem dL_levelOf_12 : decode bL_levelOf 12 = .ok (.aload_n 0, 1) := by decide +kernel
theorem dL_levelOf_13 : decode bL_levelOf 13 = .ok (.getfield 33, 3) := by decide +kernel
theorem dL_levelOf_16 : decode bL_levelOf 16 = .ok (.getfield 83, 3) := by decide +kernel
theorem dL_levelOf_19 : decode bL_levelOf 19 = .ok (.iload_n 2, 1) := by decide +kernel
theorem dL_levelOf_20 : decode bL_levelOf 20 = .ok (.iaload, 1) := by decide +kernel
theorem dL_levelOf_21 : decode bL_levelOf 21 = .ok (.imul, 1) := by decide +kernel
theorem dL_levelOf_22 : decode bL_levelOf 22 = .ok (.ireturn, 1) := by decide +kernel
theorem dL_levelOf_23 : decode bL_levelOf 23 = .ok (.iload_n 1, 1) := by decide +kernel
theorem dL_levelOf_24 : decode bL_levelOf 24 = .ok (.bipush 8, 2) := by decide +kernel
theorem dL_levelOf_26 : decode bL_levelOf 26 = .ok (.if_icmp .ge 18, 3) := by decide +kernel
theorem dL_levelOf_29 : decode bL_levelOf 29 = .ok (.aload_n 0, 1) := by decide +kernel
theorem dL_levelOf_30 : decode bL_levelOf 30 = .ok (.getfield 9, 3) := by decide +kernel
theorem dL_levelOf_33 : decode bL_levelOf 33 = .ok (.aload_n 0, 1) := by decide +kernel
theorem dL_levelOf_34 : decode bL_levelOf 34 = .ok (.getfield 33, 3) := by decide +kernel
theorem dL_levelOf_37 : decode bL_levelOf 37 = .ok (.getfield 86, 3) := by decide +kernel
theorem dL_levelOf_40 : decode bL_levelOf 40 = .ok (.iload_n 2, 1) := by decide +kernel
theorem dL_levelOf_41 : decode bL_levelOf 41 = .ok (.iaload, 1) := by decide +kernel
theorem dL_levelOf_42 : decode bL_levelOf 42 = .ok (.imul, 1) := by decide +kernel
theorem dL_levelOf_43 : decode bL_levelOf 43 = .ok (.ireturn, 1) := by decide +kernel
theorem dL_levelOf_44 : decode bL_levelOf 44 = .ok (.iload_n 1, 1) := by decide +kernel
theorem dL_levelOf_45 : decode bL_levelOf 45 = .ok (.bipush 12, 2) := by decide +kernel
theorem dL_levelOf_47 : decode bL_levelOf 47 = .ok (.if_icmp .ge 18, 3) := by decide +kernel
theorem dL_levelOf_50 : decode bL_levelOf 50 = .ok (.aload_n 0, 1) := by decide +kernel
theorem dL_levelOf_51 : decode bL_levelOf 51 = .ok (.getfield 9, 3) := by decide +kernel
theorem dL_levelOf_54 : decode bL_levelOf 54 = .ok (.aload_n 0, 1) := by decide +kernel
theorem dL_levelOf_55 : decode bL_levelOf 55 = .ok (.getfield 33, 3) := by decide +kernel
theorem dL_levelOf_58 : decode bL_levelOf 58 = .ok (.getfield 89, 3) := by decide +kernel
theorem dL_levelOf_61 : decode bL_levelOf 61 = .ok (.iload_n 2, 1) := by decide +kernel
theorem dL_levelOf_62 : decode bL_levelOf 62 = .ok (.iaload, 1) := by decide +kernel
theorem dL_levelOf_63 : decode bL_levelOf 63 = .ok (.imul, 1) := by decide +kernel
theorem dL_levelOf_64 : decode bL_levelOf 64 = .ok (.ireturn, 1) := by decide +kernel
theorem dL_levelOf_65 : decode bL_levelOf 65 = .ok (.iload_n 1, 1) := by decide +kernel
theorem dL_levelOf_66 : decode bL_levelOf 66 = .ok (.bipush 15, 2) := by decide +kernel
theorem dL_levelOf_68 : decode bL_levelOf 68 = .ok (.if_icmp .ge 13, 3) := by decide +kernel
theorem dL_levelOf_71 : decode bL_levelOf 71 = .ok (.aload_n 0, 1) := by decide +kernel
theorem dL_levelOf_72 : decode bL_levelOf 72 = .ok (.getfield 33, 3) := by decide +kernel
theorem dL_levelOf_75 : decode bL_levelOf 75 = .ok (.getfield 92, 3) := by decide +kernel
theorem dL_levelOf_78 : decode bL_levelOf 78 = .ok (.goto 10, 3) := by decide +kernel
theorem dL_levelOf_81 : decode bL_levelOf 81 = .ok (.aload_n 0, 1) := by decide +kernel
theorem dL_levelOf_82 : decode bL_levelOf 82 = .ok (.getfield 33, 3) := by decide +kernel
theorem dL_levelOf_85 : decode bL_levelOf 85 = .ok (.getfield 95, 3) := by decide +kernel
theorem dL_levelOf_88 : decode bL_levelOf 88 = .ok (.astore_n 3, 1) := by decide +kernel
theorem dL_levelOf_89 : decode bL_levelOf 89 = .ok (.aload_n 0, 1) := by decide +kernel
theorem dL_levelOf_90 : decode bL_levelOf 90 = .ok (.getfield 15, 3) := by decide +kernel
theorem dL_levelOf_93 : decode bL_levelOf 93 = .ok (.aload_n 3, 1) := by decide +kernel
theorem dL_levelOf_94 : decode bL_levelOf 94 = .ok (.iload_n 2, 1) := by decide +kernel
theorem dL_levelOf_95 : decode bL_levelOf 95 = .ok (.iconst 4, 1) := by decide +kernel
theorem dL_levelOf_96 : decode bL_levelOf 96 = .ok (.isub, 1) := by decide +kernel
theorem dL_levelOf_97 : decode bL_levelOf 97 = .ok (.iaload, 1) := by decide +kernel
theorem dL_levelOf_98 : decode bL_levelOf 98 = .ok (.imul, 1) := by decide +kernel
theorem dL_levelOf_99 : decode bL_levelOf 99 = .ok (.ireturn, 1) := by decide +kernel
theorem dL_leaveRoomToStuffs_0 : decode bL_leaveRoomToStuffs 0 = .ok (.iconst 0, 1) := by decide +kernel
theorem dL_leaveRoomToStuffs_1 : decode bL_leaveRoomToStuffs 1 = .ok (.istore_n 1, 1) := by decide +kernel
theorem dL_leaveRoomToStuffs_2 : decode bL_leaveRoomToStuffs 2 = .ok (.iconst 0, 1) := by decide +kernel
theorem dL_leaveRoomToStuffs_3 : decode bL_leaveRoomToStuffs 3 = .ok (.istore_n 2, 1) := by decide +kernel
theorem dL_leaveRoomToStuffs_4 : decode bL_leaveRoomToStuffs 4 = .ok (.iconst 0, 1) := by decide +kernel
theorem dL_leaveRoomToStuffs_5 : decode bL_leaveRoomToStuffs 5 = .ok (.istore_n 3, 1) := by decide +kernel
theorem dL_leaveRoomToStuffs_6 : decode bL_leaveRoomToStuffs 6 = .ok (.iload_n 3, 1) := by decide +kernel
theorem dL_leaveRoomToStuffs_7 : decode bL_leaveRoomToStuffs 7 = .ok (.iconst 4, 1) := by decide +kernel
theorem dL_leaveRoomToStuffs_8 : decode bL_leaveRoomToStuffs 8 = .ok (.if_icmp .ge 44, 3) := by decide +kernel
theorem dL_leaveRoomToStuffs_11 : decode bL_leaveRoomToStuffs 11 = .ok (.aload_n 0, 1) := by decide +kernel
theorem dL_leaveRoomToStuffs_12 : decode bL_leaveRoomToStuffs 12 = .ok (.getfield 21, 3) := by decide +kernel
theorem dL_leaveRoomToStuffs_15 : decode bL_leaveRoomToStuffs 15 = .ok (.iload_n 3, 1) := by decide +kernel
theorem dL_leaveRoomToStuffs_16 : decode bL_leaveRoomToStuffs 16 = .ok (.iaload, 1) := by decide +kernel
theorem dL_leaveRoomToStuffs_17 : decode bL_leaveRoomToStuffs 17 = .ok (.aload_n 0, 1) := by decide +kernel
theorem dL_leaveRoomToStuffs_18 : decode bL_leaveRoomToStuffs 18 = .ok (.getfield 25, 3) := by decide +kernel
theorem dL_leaveRoomToStuffs_21 : decode bL_leaveRoomToStuffs 21 = .ok (.iload_n 3, 1) := by decide +kernel
theorem dL_leaveRoomToStuffs_22 : decode bL_leaveRoomToStuffs 22 = .ok (.iaload, 1) := by decide +kernel
theorem dL_leaveRoomToStuffs_23 : decode bL_leaveRoomToStuffs 23 = .ok (.if_icmp .le 5, 3) := by decide +kernel
theorem dL_leaveRoomToStuffs_26 : decode bL_leaveRoomToStuffs 26 = .ok (.iconst 0, 1) := by decide +kernel
theorem dL_leaveRoomToStuffs_27 : decode bL_leaveRoomToStuffs 27 = .ok (.ireturn, 1) := by decide +kernel
theorem dL_leaveRoomToStuffs_28 : decode bL_leaveRoomToStuffs 28 = .ok (.iload_n 1, 1) := by decide +kernel
theorem dL_leaveRoomToStuffs_29 : decode bL_leaveRoomToStuffs 29 = .ok (.aload_n 0, 1) := by decide +kernel
theorem dL_leaveRoomToStuffs_30 : decode bL_leaveRoomToStuffs 30 = .ok (.getfield 21, 3) := by decide +kernel
theorem dL_leaveRoomToStuffs_33 : decode bL_leaveRoomToStuffs 33 = .ok (.iload_n 3, 1) := by decide +kernel
theorem dL_leaveRoomToStuffs_34 : decode bL_leaveRoomToStuffs 34 = .ok (.iaload, 1) := by decide +kernel
theorem dL_leaveRoomToStuffs_35 : decode bL_leaveRoomToStuffs 35 = .ok (.iadd, 1) := by decide +kernel
theorem dL_leaveRoomToStuffs_36 : decode bL_leaveRoomToStuffs 36 = .ok (.istore_n 1, 1) := by decide +kernel
theorem dL_leaveRoomToStuffs_37 : decode bL_leaveRoomToStuffs 37 = .ok (.iload_n 2, 1) := by decide +kernel
theorem dL_leaveRoomToStuffs_38 : decode bL_leaveRoomToStuffs 38 = .ok (.aload_n 0, 1) := by decide +kernel
theorem dL_leaveRoomToStuffs_39 : decode bL_leaveRoomToStuffs 39 = .ok (.getfield 25, 3) := by decide +kernel
theorem dL_leaveRoomToStuffs_42 : decode bL_leaveRoomToStuffs 42 = .ok (.iload_n 3, 1) := by decide +kernel
theorem dL_leaveRoomToStuffs_43 : decode bL_leaveRoomToStuffs 43 = .ok (.iaload, 1) := by decide +kernel
theorem dL_leaveRoomToStuffs_44 : decode bL_leaveRoomToStuffs 44 = .ok (.iadd, 1) := by decide +kernel
theorem dL_leaveRoomToStuffs_45 : decode bL_leaveRoomToStuffs 45 = .ok (.istore_n 2, 1) := by decide +kernel
theorem dL_leaveRoomToStuffs_46 : decode bL_leaveRoomToStuffs 46 = .ok (.iinc 3 1, 3) := by decide +kernel
theorem dL_leaveRoomToStuffs_49 : decode bL_leaveRoomToStuffs 49 = .ok (.goto (-43), 3) := by decide +kernel
theorem dL_leaveRoomToStuffs_52 : decode bL_leaveRoomToStuffs 52 = .ok (.iload_n 1, 1) := by decide +kernel
theorem dL_leaveRoomToStuffs_53 : decode bL_leaveRoomToStuffs 53 = .ok (.aload_n 0, 1) := by decide +kernel
theorem dL_leaveRoomToStuffs_54 : decode bL_leaveRoomToStuffs 54 = .ok (.getfield 15, 3) := by decide +kernel
theorem dL_leaveRoomToStuffs_57 : decode bL_leaveRoomToStuffs 57 = .ok (.if_icmp .gt 15, 3) := by decide +kernel
theorem dL_leaveRoomToStuffs_60 : decode bL_leaveRoomToStuffs 60 = .ok (.aload_n 0, 1) := by decide +kernel
theorem dL_leaveRoomToStuffs_61 : decode bL_leaveRoomToStuffs 61 = .ok (.getfield 15, 3) := by decide +kernel
theorem dL_leaveRoomToStuffs_64 : decode bL_leaveRoomToStuffs 64 = .ok (.iload_n 2, 1) := by decide +kernel
theorem dL_leaveRoomToStuffs_65 : decode bL_leaveRoomToStuffs 65 = .ok (.if_icmp .gt 7, 3) := by decide +kernel
theorem dL_leaveRoomToStuffs_68 : decode bL_leaveRoomToStuffs 68 = .ok (.iconst 1, 1) := by decide +kernel
theorem dL_leaveRoomToStuffs_69 : decode bL_leaveRoomToStuffs 69 = .ok (.goto 4, 3) := by decide +kernel
theorem dL_leaveRoomToStuffs_72 : decode bL_leaveRoomToStuffs 72 = .ok (.iconst 0, 1) := by decide +kernel
theorem dL_leaveRoomToStuffs_73 : decode bL_leaveRoomToStuffs 73 = .ok (.ireturn, 1) := by decide +kernel
theorem dL_extremeOf_0 : decode bL_extremeOf 0 = .ok (.aload_n 0, 1) := by decide +kernel
theorem dL_extremeOf_1 : decode bL_extremeOf 1 = .ok (.getfield 33, 3) := by decide +kernel
theorem dL_extremeOf_4 : decode bL_extremeOf 4 = .ok (.getfield 48, 3) := by decide +kernel
theorem dL_extremeOf_7 : decode bL_extremeOf 7 = .ok (.iload_n 1, 1) := by decide +kernel
theorem dL_extremeOf_8 : decode bL_extremeOf 8 = .ok (.aaload, 1) := by decide +kernel
theorem dL_extremeOf_9 : decode bL_extremeOf 9 = .ok (.astore_n 3, 1) := by decide +kernel
theorem dL_extremeOf_10 : decode bL_extremeOf 10 = .ok (.aload_n 0, 1) := by decide +kernel
theorem dL_extremeOf_11 : decode bL_extremeOf 11 = .ok (.getfield 30, 3) := by decide +kernel
theorem dL_extremeOf_14 : decode bL_extremeOf 14 = .ok (.iload_n 1, 1) := by decide +kernel
theorem dL_extremeOf_15 : decode bL_extremeOf 15 = .ok (.aaload, 1) := by decide +kernel
theorem dL_extremeOf_16 : decode bL_extremeOf 16 = .ok (.astore 4, 2) := by decide +kernel
theorem dL_extremeOf_18 : decode bL_extremeOf 18 = .ok (.iconst 0, 1) := by decide +kernel
theorem dL_extremeOf_19 : decode bL_extremeOf 19 = .ok (.istore 5, 2) := by decide +kernel
theorem dL_extremeOf_21 : decode bL_extremeOf 21 = .ok (.aload_n 0, 1) := by decide +kernel
theorem dL_extremeOf_22 : decode bL_extremeOf 22 = .ok (.getfield 15, 3) := by decide +kernel
theorem dL_extremeOf_25 : decode bL_extremeOf 25 = .ok (.istore 6, 2) := by decide +kernel
theorem dL_extremeOf_27 : decode bL_extremeOf 27 = .ok (.iconst 0, 1) := by decide +kernel
theorem dL_extremeOf_28 : decode bL_extremeOf 28 = .ok (.istore 7, 2) := by decide +kernel
theorem dL_extremeOf_30 : decode bL_extremeOf 30 = .ok (.iload 7, 2) := by decide +kernel
theorem dL_extremeOf_32 : decode bL_extremeOf 32 = .ok (.iconst 4, 1) := by decide +kernel
theorem dL_extremeOf_33 : decode bL_extremeOf 33 = .ok (.if_icmp .ge 38, 3) := by decide +kernel
theorem dL_extremeOf_36 : decode bL_extremeOf 36 = .ok (.iload 5, 2) := by decide +kernel
theorem dL_extremeOf_38 : decode bL_extremeOf 38 = .ok (.aload_n 3, 1) := by decide +kernel
theorem dL_extremeOf_39 : decode bL_extremeOf 39 = .ok (.iload 7, 2) := by decide +kernel
theorem dL_extremeOf_41 : decode bL_extremeOf 41 = .ok (.iaload, 1) := by decide +kernel
theorem dL_extremeOf_42 : decode bL_extremeOf 42 = .ok (.aload_n 0, 1) := by decide +kernel
theorem dL_extremeOf_43 : decode bL_extremeOf 43 = .ok (.getfield 21, 3) := by decide +kernel
theorem dL_extremeOf_46 : decode bL_extremeOf 46 = .ok (.iload 7, 2) := by decide +kernel
theorem dL_extremeOf_48 : decode bL_extremeOf 48 = .ok (.iaload, 1) := by decide +kernel
theorem dL_extremeOf_49 : decode bL_extremeOf 49 = .ok (.imul, 1) := by decide +kernel
theorem dL_extremeOf_50 : decode bL_extremeOf 50 = .ok (.iadd, 1) := by decide +kernel
theorem dL_extremeOf_51 : decode bL_extremeOf 51 = .ok (.istore 5, 2) := by decide +kernel
theorem dL_extremeOf_53 : decode bL_extremeOf 53 = .ok (.iload 6, 2) := by decide +kernel
theorem dL_extremeOf_55 : decode bL_extremeOf 55 = .ok (.aload_n 0, 1) := by decide +kernel
theorem dL_extremeOf_56 : decode bL_extremeOf 56 = .ok (.getfield 21, 3) := by decide +kernel
theorem dL_extremeOf_59 : decode bL_extremeOf 59 = .ok (.iload 7, 2) := by decide +kernel
theorem dL_extremeOf_61 : decode bL_extremeOf 61 = .ok (.iaload, 1) := by decide +kernel
theorem dL_extremeOf_62 : decode bL_extremeOf 62 = .ok (.isub, 1) := by decide +kernel
theorem dL_extremeOf_63 : decode bL_extremeOf 63 = .ok (.istore 6, 2) := by decide +kernel
theorem dL_extremeOf_65 : decode bL_extremeOf 65 = .ok (.iinc 7 1, 3) := by decide +kernel
theorem dL_extremeOf_68 : decode bL_extremeOf 68 = .ok (.goto (-38), 3) := by decide +kernel
theorem dL_extremeOf_71 : decode bL_extremeOf 71 = .ok (.iconst 0, 1) := by decide +kernel
theorem dL_extremeOf_72 : decode bL_extremeOf 72 = .ok (.istore 7, 2) := by decide +kernel
theorem dL_extremeOf_74 : decode bL_extremeOf 74 = .ok (.iload 7, 2) := by decide +kernel
theorem dL_extremeOf_76 : decode bL_extremeOf 76 = .ok (.iconst 4, 1) := by decide +kernel
theorem dL_extremeOf_77 : decode bL_extremeOf 77 = .ok (.if_icmp .ge 68, 3) := by decide +kernel
theorem dL_extremeOf_80 : decode bL_extremeOf 80 = .ok (.aload 4, 2) := by decide +kernel
theorem dL_extremeOf_82 : decode bL_extremeOf 82 = .ok (.iload_n 2, 1) := by decide +kernel
theorem dL_extremeOf_83 : decode bL_extremeOf 83 = .ok (.ifCond .eq 10, 3) := by decide +kernel
theorem dL_extremeOf_86 : decode bL_extremeOf 86 = .ok (.iconst 3, 1) := by decide +kernel
theorem dL_extremeOf_87 : decode bL_extremeOf 87 = .ok (.iload 7, 2) := by decide +kernel
theorem dL_extremeOf_89 : decode bL_extremeOf 89 = .ok (.isub, 1) := by decide +kernel
theorem dL_extremeOf_90 : decode bL_extremeOf 90 = .ok (.goto 5, 3) := by decide +kernel
theorem dL_extremeOf_93 : decode bL_extremeOf 93 = .ok (.iload 7, 2) := by decide +kernel
theorem dL_extremeOf_95 : decode bL_extremeOf 95 = .ok (.iaload, 1) := by decide +kernel
theorem dL_extremeOf_96 : decode bL_extremeOf 96 = .ok (.istore 8, 2) := by decide +kernel
theorem dL_extremeOf_98 : decode bL_extremeOf 98 = .ok (.iload 6, 2) := by decide +kernel
theorem dL_extremeOf_100 : decode bL_extremeOf 100 = .ok (.aload_n 0, 1) := by decide +kernel
theorem dL_extremeOf_101 : decode bL_extremeOf 101 = .ok (.getfield 25, 3) := by decide +kernel
theorem dL_extremeOf_104 : decode bL_extremeOf 104 = .ok (.iload 8, 2) := by decide +kernel
theorem dL_extremeOf_106 : decode bL_extremeOf 106 = .ok (.iaload, 1) := by decide +kernel
theorem dL_extremeOf_107 : decode bL_extremeOf 107 = .ok (.aload_n 0, 1) := by decide +kernel
theorem dL_extremeOf_108 : decode bL_extremeOf 108 = .ok (.getfield 21, 3) := by decide +kernel
theorem dL_extremeOf_111 : decode bL_extremeOf 111 = .ok (.iload 8, 2) := by decide +kernel
theorem dL_extremeOf_113 : decode bL_extremeOf 113 = .ok (.iaload, 1) := by decide +kernel
theorem dL_extremeOf_114 : decode bL_extremeOf 114 = .ok (.isub, 1) := by decide +kernel
theorem dL_extremeOf_115 : decode bL_extremeOf 115 = .ok (.invokestatic 76, 3) := by decide +kernel
theorem dL_extremeOf_118 : decode bL_extremeOf 118 = .ok (.istore 9, 2) := by decide +kernel
theorem dL_extremeOf_120 : decode bL_extremeOf 120 = .ok (.iload 5, 2) := by decide +kernel
theorem dL_extremeOf_122 : decode bL_extremeOf 122 = .ok (.aload_n 3, 1) := by decide +kernel
theorem dL_extremeOf_123 : decode bL_extremeOf 123 = .ok (.iload 8, 2) := by decide +kernel
theorem dL_extremeOf_125 : decode bL_extremeOf 125 = .ok (.iaload, 1) := by decide +kernel
theorem dL_extremeOf_126 : decode bL_extremeOf 126 = .ok (.iload 9, 2) := by decide +kernel
theorem dL_extremeOf_128 : decode bL_extremeOf 128 = .ok (.imul, 1) := by decide +kernel
theorem dL_extremeOf_129 : decode bL_extremeOf 129 = .ok (.iadd, 1) := by decide +kernel
theorem dL_extremeOf_130 : decode bL_extremeOf 130 = .ok (.istore 5, 2) := by decide +kernel
theorem dL_extremeOf_132 : decode bL_extremeOf 132 = .ok (.iload 6, 2) := by decide +kernel
theorem dL_extremeOf_134 : decode bL_extremeOf 134 = .ok (.iload 9, 2) := by decide +kernel
theorem dL_extremeOf_136 : decode bL_extremeOf 136 = .ok (.isub, 1) := by decide +kernel
theorem dL_extremeOf_137 : decode bL_extremeOf 137 = .ok (.istore 6, 2) := by decide +kernel
theorem dL_extremeOf_139 : decode bL_extremeOf 139 = .ok (.iinc 7 1, 3) := by decide +kernel
theorem dL_extremeOf_142 : decode bL_extremeOf 142 = .ok (.goto (-68), 3) := by decide +kernel
theorem dL_extremeOf_145 : decode bL_extremeOf 145 = .ok (.iload 5, 2) := by decide +kernel
theorem dL_extremeOf_147 : decode bL_extremeOf 147 = .ok (.ireturn, 1) := by decide +kernel
theorem dL_allow_0 : decode bL_allow 0 = .ok (.lload_n 2, 1) := by decide +kernel
theorem dL_allow_1 : decode bL_allow 1 = .ok (.aload_n 0, 1) := by decide +kernel
theorem dL_allow_2 : decode bL_allow 2 = .ok (.getfield 21, 3) := by decide +kernel
theorem dL_allow_5 : decode bL_allow 5 = .ok (.iload_n 1, 1) := by decide +kernel
theorem dL_allow_6 : decode bL_allow 6 = .ok (.iaload, 1) := by decide +kernel
theorem dL_allow_7 : decode bL_allow 7 = .ok (.i2l, 1) := by decide +kernel
theorem dL_allow_8 : decode bL_allow 8 = .ok (.lload 4, 2) := by decide +kernel
theorem dL_allow_10 : decode bL_allow 10 = .ok (.lmul, 1) := by decide +kernel
theorem dL_allow_11 : decode bL_allow 11 = .ok (.lcmp, 1) := by decide +kernel
theorem dL_allow_12 : decode bL_allow 12 = .ok (.ifCond .lt 22, 3) := by decide +kernel
theorem dL_allow_15 : decode bL_allow 15 = .ok (.lload_n 2, 1) := by decide +kernel
theorem dL_allow_16 : decode bL_allow 16 = .ok (.aload_n 0, 1) := by decide +kernel
theorem dL_allow_17 : decode bL_allow 17 = .ok (.getfield 25, 3) := by decide +kernel
theorem dL_allow_20 : decode bL_allow 20 = .ok (.iload_n 1, 1) := by decide +kernel
theorem dL_allow_21 : decode bL_allow 21 = .ok (.iaload, 1) := by decide +kernel
theorem dL_allow_22 : decode bL_allow 22 = .ok (.i2l, 1) := by decide +kernel
theorem dL_allow_23 : decode bL_allow 23 = .ok (.lload 4, 2) := by decide +kernel
theorem dL_allow_25 : decode bL_allow 25 = .ok (.lmul, 1) := by decide +kernel
theorem dL_allow_26 : decode bL_allow 26 = .ok (.lcmp, 1) := by decide +kernel
theorem dL_allow_27 : decode bL_allow 27 = .ok (.ifCond .gt 7, 3) := by decide +kernel
theorem dL_allow_30 : decode bL_allow 30 = .ok (.iconst 1, 1) := by decide +kernel
theorem dL_allow_31 : decode bL_allow 31 = .ok (.goto 4, 3) := by decide +kernel
theorem dL_allow_34 : decode bL_allow 34 = .ok (.iconst 0, 1) := by decide +kernel
theorem dL_allow_35 : decode bL_allow 35 = .ok (.ireturn, 1) := by decide +kernel
theorem dL_allOf_0 : decode bL_allOf 0 = .ok (.iload_n 1, 1) := by decide +kernel
theorem dL_allOf_1 : decode bL_allOf 1 = .ok (.iconst 4, 1) := by decide +kernel
theorem dL_allOf_2 : decode bL_allOf 2 = .ok (.if_icmp .ge 12, 3) := by decide +kernel
theorem dL_allOf_5 : decode bL_allOf 5 = .ok (.aload_n 2, 1) := by decide +kernel
theorem dL_allOf_6 : decode bL_allOf 6 = .ok (.getfield 98, 3) := by decide +kernel
theorem dL_allOf_9 : decode bL_allOf 9 = .ok (.iload_n 1, 1) := by decide +kernel
theorem dL_allOf_10 : decode bL_allOf 10 = .ok (.laload, 1) := by decide +kernel
theorem dL_allOf_11 : decode bL_allOf 11 = .ok (.goto 18, 3) := by decide +kernel
theorem dL_allOf_14 : decode bL_allOf 14 = .ok (.aload_n 2, 1) := by decide +kernel
theorem dL_allOf_15 : decode bL_allOf 15 = .ok (.aload_n 0, 1) := by decide +kernel
theorem dL_allOf_16 : decode bL_allOf 16 = .ok (.getfield 33, 3) := by decide +kernel
theorem dL_allOf_19 : decode bL_allOf 19 = .ok (.getfield 48, 3) := by decide +kernel
theorem dL_allOf_22 : decode bL_allOf 22 = .ok (.iload_n 1, 1) := by decide +kernel
theorem dL_allOf_23 : decode bL_allOf 23 = .ok (.iconst 4, 1) := by decide +kernel
theorem dL_allOf_24 : decode bL_allOf 24 = .ok (.isub, 1) := by decide +kernel
theorem dL_allOf_25 : decode bL_allOf 25 = .ok (.aaload, 1) := by decide +kernel
theorem dL_allOf_26 : decode bL_allOf 26 = .ok (.invokevirtual 104, 3) := by decide +kernel
theorem dL_allOf_29 : decode bL_allOf 29 = .ok (.lreturn, 1) := by decide +kernel
theorem dK_init_0 : decode bK_init 0 = .ok (.aload_n 0, 1) := by decide +kernel
theorem dK_init_1 : decode bK_init 1 = .ok (.invokespecial 3, 3) := by decide +kernel
theorem dK_init_4 : decode bK_init 4 = .ok (.aload_n 0, 1) := by decide +kernel
theorem dK_init_5 : decode bK_init 5 = .ok (.bipush 7, 2) := by decide +kernel
theorem dK_init_7 : decode bK_init 7 = .ok (.newarray .int, 2) := by decide +kernel
theorem dK_init_9 : decode bK_init 9 = .ok (.putfield 9, 3) := by decide +kernel
theorem dK_init_12 : decode bK_init 12 = .ok (.aload_n 0, 1) := by decide +kernel
theorem dK_init_13 : decode bK_init 13 = .ok (.bipush 7, 2) := by decide +kernel
theorem dK_init_15 : decode bK_init 15 = .ok (.iconst 3, 1) := by decide +kernel
theorem dK_init_16 : decode bK_init 16 = .ok (.multianewarray 15 2, 4) := by decide +kernel
theorem dK_init_20 : decode bK_init 20 = .ok (.putfield 17, 3) := by decide +kernel
theorem dK_init_23 : decode bK_init 23 = .ok (.aload_n 0, 1) := by decide +kernel
theorem dK_init_24 : decode bK_init 24 = .ok (.bipush 14, 2) := by decide +kernel
theorem dK_init_26 : decode bK_init 26 = .ok (.newarray .int, 2) := by decide +kernel
theorem dK_init_28 : decode bK_init 28 = .ok (.putfield 20, 3) := by decide +kernel
theorem dK_init_31 : decode bK_init 31 = .ok (.aload_n 0, 1) := by decide +kernel
theorem dK_init_32 : decode bK_init 32 = .ok (.bipush 14, 2) := by decide +kernel
theorem dK_init_34 : decode bK_init 34 = .ok (.newarray .int, 2) := by decide +kernel
theorem dK_init_36 : decode bK_init 36 = .ok (.putfield 23, 3) := by decide +kernel
theorem dK_init_39 : decode bK_init 39 = .ok (.aload_n 0, 1) := by decide +kernel
theorem dK_init_40 : decode bK_init 40 = .ok (.iconst 0, 1) := by decide +kernel
theorem dK_init_41 : decode bK_init 41 = .ok (.putfield 26, 3) := by decide +kernel
theorem dK_init_44 : decode bK_init 44 = .ok (.aload_n 0, 1) := by decide +kernel
theorem dK_init_45 : decode bK_init 45 = .ok (.iconst 0, 1) := by decide +kernel
theorem dK_init_46 : decode bK_init 46 = .ok (.putfield 30, 3) := by decide +kernel
theorem dK_init_49 : decode bK_init 49 = .ok (.aload_n 0, 1) := by decide +kernel
theorem dK_init_50 : decode bK_init 50 = .ok (.iconst 3, 1) := by decide +kernel
theorem dK_init_51 : decode bK_init 51 = .ok (.newarray .long, 2) := by decide +kernel
theorem dK_init_53 : decode bK_init 53 = .ok (.putfield 33, 3) := by decide +kernel
theorem dK_init_56 : decode bK_init 56 = .ok (.aload_n 0, 1) := by decide +kernel
theorem dK_init_57 : decode bK_init 57 = .ok (.new 37, 3) := by decide +kernel
theorem dK_init_60 : decode bK_init 60 = .ok (.dup, 1) := by decide +kernel
theorem dK_init_61 : decode bK_init 61 = .ok (.invokespecial 39, 3) := by decide +kernel
theorem dK_init_64 : decode bK_init 64 = .ok (.putfield 40, 3) := by decide +kernel
theorem dK_init_67 : decode bK_init 67 = .ok (.aload_n 0, 1) := by decide +kernel
theorem dK_init_68 : decode bK_init 68 = .ok (.aload_n 1, 1) := by decide +kernel
theorem dK_init_69 : decode bK_init 69 = .ok (.putfield 44, 3) := by decide +kernel
theorem dK_init_72 : decode bK_init 72 = .ok (.aload_n 0, 1) := by decide +kernel
theorem dK_init_73 : decode bK_init 73 = .ok (.aload_n 2, 1) := by decide +kernel
theorem dK_init_74 : decode bK_init 74 = .ok (.putfield 48, 3) := by decide +kernel
theorem dK_init_77 : decode bK_init 77 = .ok (.return_, 1) := by decide +kernel
theorem dK_setSlopes_0 : decode bK_setSlopes 0 = .ok (.iconst 0, 1) := by decide +kernel
theorem dK_setSlopes_1 : decode bK_setSlopes 1 = .ok (.istore_n 1, 1) := by decide +kernel
theorem dK_setSlopes_2 : decode bK_setSlopes 2 = .ok (.iload_n 1, 1) := by decide +kernel
theorem dK_setSlopes_3 : decode bK_setSlopes 3 = .ok (.bipush 7, 2) := by decide +kernel
theorem dK_setSlopes_5 : decode bK_setSlopes 5 = .ok (.if_icmp .ge 60, 3) := by decide +kernel
theorem dK_setSlopes_8 : decode bK_setSlopes 8 = .ok (.aload_n 0, 1) := by decide +kernel
theorem dK_setSlopes_9 : decode bK_setSlopes 9 = .ok (.iload_n 1, 1) := by decide +kernel
theorem dK_setSlopes_10 : decode bK_setSlopes 10 = .ok (.iconst 3, 1) := by decide +kernel
theorem dK_setSlopes_11 : decode bK_setSlopes 11 = .ok (.invokevirtual 52, 3) := by decide +kernel
theorem dK_setSlopes_14 : decode bK_setSlopes 14 = .ok (.istore_n 2, 1) := by decide +kernel
theorem dK_setSlopes_15 : decode bK_setSlopes 15 = .ok (.aload_n 0, 1) := by decide +kernel
theorem dK_setSlopes_16 : decode bK_setSlopes 16 = .ok (.getfield 9, 3) := by decide +kernel
theorem dK_setSlopes_19 : decode bK_setSlopes 19 = .ok (.iload_n 1, 1) := by decide +kernel
theorem dK_setSlopes_20 : decode bK_setSlopes 20 = .ok (.iload_n 2, 1) := by decide +kernel
theorem dK_setSlopes_21 : decode bK_setSlopes 21 = .ok (.aload_n 0, 1) := by decide +kernel
theorem dK_setSlopes_22 : decode bK_setSlopes 22 = .ok (.getfield 48, 3) := by decide +kernel
theorem dK_setSlopes_25 : decode bK_setSlopes 25 = .ok (.getfield 56, 3) := by decide +kernel
theorem dK_setSlopes_28 : decode bK_setSlopes 28 = .ok (.imul, 1) := by decide +kernel
theorem dK_setSlopes_29 : decode bK_setSlopes 29 = .ok (.iastore, 1) := by decide +kernel
theorem dK_setSlopes_30 : decode bK_setSlopes 30 = .ok (.iconst 0, 1) := by decide +kernel
theorem dK_setSlopes_31 : decode bK_setSlopes 31 = .ok (.istore_n 3, 1) := by decide +kernel
theorem dK_setSlopes_32 : decode bK_setSlopes 32 = .ok (.iload_n 3, 1) := by decide +kernel
theorem dK_setSlopes_33 : decode bK_setSlopes 33 = .ok (.iconst 3, 1) := by decide +kernel
theorem dK_setSlopes_34 : decode bK_setSlopes 34 = .ok (.if_icmp .ge 25, 3) := by decide +kernel
theorem dK_setSlopes_37 : decode bK_setSlopes 37 = .ok (.aload_n 0, 1) := by decide +kernel
theorem dK_setSlopes_38 : decode bK_setSlopes 38 = .ok (.getfield 17, 3) := by decide +kernel
theorem dK_setSlopes_41 : decode bK_setSlopes 41 = .ok (.iload_n 1, 1) := by decide +kernel
theorem dK_setSlopes_42 : decode bK_setSlopes 42 = .ok (.aaload, 1) := by decide +kernel
theorem dK_setSlopes_43 : decode bK_setSlopes 43 = .ok (.iload_n 3, 1) := by decide +kernel
theorem dK_setSlopes_44 : decode bK_setSlopes 44 = .ok (.aload_n 0, 1) := by decide +kernel
theorem dK_setSlopes_45 : decode bK_setSlopes 45 = .ok (.iload_n 1, 1) := by decide +kernel
theorem dK_setSlopes_46 : decode bK_setSlopes 46 = .ok (.iload_n 3, 1) := by decide +kernel
theorem dK_setSlopes_47 : decode bK_setSlopes 47 = .ok (.invokevirtual 52, 3) := by decide +kernel
theorem dK_setSlopes_50 : decode bK_setSlopes 50 = .ok (.iload_n 2, 1) := by decide +kernel
theorem dK_setSlopes_51 : decode bK_setSlopes 51 = .ok (.isub, 1) := by decide +kernel
theorem dK_setSlopes_52 : decode bK_setSlopes 52 = .ok (.iastore, 1) := by decide +kernel
theorem dK_setSlopes_53 : decode bK_setSlopes 53 = .ok (.iinc 3 1, 3) := by decide +kernel
theorem dK_setSlopes_56 : decode bK_setSlopes 56 = .ok (.goto (-24), 3) := by decide +kernel
theorem dK_setSlopes_59 : decode bK_setSlopes 59 = .ok (.iinc 1 1, 3) := by decide +kernel
theorem dK_setSlopes_62 : decode bK_setSlopes 62 = .ok (.goto (-60), 3) := by decide +kernel
theorem dK_setSlopes_65 : decode bK_setSlopes 65 = .ok (.return_, 1) := by decide +kernel
theorem dK_pointsOf_0 : decode bK_pointsOf 0 = .ok (.iload_n 1, 1) := by decide +kernel
theorem dK_pointsOf_1 : decode bK_pointsOf 1 = .ok (.iconst 4, 1) := by decide +kernel
theorem dK_pointsOf_2 : decode bK_pointsOf 2 = .ok (.if_icmp .ge 14, 3) := by decide +kernel
theorem dK_pointsOf_5 : decode bK_pointsOf 5 = .ok (.iload_n 1, 1) := by decide +kernel
theorem dK_pointsOf_6 : decode bK_pointsOf 6 = .ok (.iload_n 2, 1) := by decide +kernel
theorem dK_pointsOf_7 : decode bK_pointsOf 7 = .ok (.if_icmp .ne 7, 3) := by decide +kernel
theorem dK_pointsOf_10 : decode bK_pointsOf 10 = .ok (.iconst 1, 1) := by decide +kernel
theorem dK_pointsOf_11 : decode bK_pointsOf 11 = .ok (.goto 4, 3) := by decide +kernel
theorem dK_pointsOf_14 : decode bK_pointsOf 14 = .ok (.iconst 0, 1) := by decide +kernel
theorem dK_pointsOf_15 : decode bK_pointsOf 15 = .ok (.ireturn, 1) := by decide +kernel
theorem dK_pointsOf_16 : decode bK_pointsOf 16 = .ok (.aload_n 0, 1) := by decide +kernel
theorem dK_pointsOf_17 : decode bK_pointsOf 17 = .ok (.getfield 44, 3) := by decide +kernel
theorem dK_pointsOf_20 : decode bK_pointsOf 20 = .ok (.getfield 61, 3) := by decide +kernel
theorem dK_pointsOf_23 : decode bK_pointsOf 23 = .ok (.iload_n 1, 1) := by decide +kernel
theorem dK_pointsOf_24 : decode bK_pointsOf 24 = .ok (.iconst 4, 1) := by decide +kernel
theorem dK_pointsOf_25 : decode bK_pointsOf 25 = .ok (.isub, 1) := by decide +kernel
theorem dK_pointsOf_26 : decode bK_pointsOf 26 = .ok (.aaload, 1) := by decide +kernel
theorem dK_pointsOf_27 : decode bK_pointsOf 27 = .ok (.iload_n 2, 1) := by decide +kernel
theorem dK_pointsOf_28 : decode bK_pointsOf 28 = .ok (.iaload, 1) := by decide +kernel
theorem dK_pointsOf_29 : decode bK_pointsOf 29 = .ok (.ireturn, 1) := by decide +kernel
theorem dK_seek_0 : decode bK_seek 0 = .ok (.aload_n 0, 1) := by decide +kernel
theorem dK_seek_1 : decode bK_seek 1 = .ok (.getfield 48, 3) := by decide +kernel
theorem dK_seek_4 : decode bK_seek 4 = .ok (.invokevirtual 66, 3) := by decide +kernel
theorem dK_seek_7 : decode bK_seek 7 = .ok (.ifCond .eq 10, 3) := by decide +kernel
theorem dK_seek_10 : decode bK_seek 10 = .ok (.aload_n 0, 1) := by decide +kernel
theorem dK_seek_11 : decode bK_seek 11 = .ok (.invokevirtual 70, 3) := by decide +kernel
theorem dK_seek_14 : decode bK_seek 14 = .ok (.ifCond .ne 5, 3) := by decide +kernel
theorem dK_seek_17 : decode bK_seek 17 = .ok (.iconst 0, 1) := by decide +kernel
theorem dK_seek_18 : decode bK_seek 18 = .ok (.ireturn, 1) := by decide +kernel
theorem dK_seek_19 : decode bK_seek 19 = .ok (.iconst 0, 1) := by decide +kernel
theorem dK_seek_20 : decode bK_seek 20 = .ok (.istore_n 2, 1) := by decide +kernel
theorem dK_seek_21 : decode bK_seek 21 = .ok (.iconst 0, 1) := by decide +kernel
theorem dK_seek_22 : decode bK_seek 22 = .ok (.istore_n 3, 1) := by decide +kernel
theorem dK_seek_23 : decode bK_seek 23 = .ok (.iload_n 3, 1) := by decide +kernel
theorem dK_seek_24 : decode bK_seek 24 = .ok (.aload_n 0, 1) := by decide +kernel
theorem dK_seek_25 : decode bK_seek 25 = .ok (.getfield 30, 3) := by decide +kernel
theorem dK_seek_28 : decode bK_seek 28 = .ok (.ifCond .le 7, 3) := by decide +kernel
theorem dK_seek_31 : decode bK_seek 31 = .ok (.iconst 1, 1) := by decide +kernel
theorem dK_seek_32 : decode bK_seek 32 = .ok (.goto 7, 3) := by decide +kernel
theorem dK_seek_35 : decode bK_seek 35 = .ok (.aload_n 0, 1) := by decide +kernel
theorem dK_seek_36 : decode bK_seek 36 = .ok (.getfield 26, 3) := by decide +kernel
theorem dK_seek_39 : decode bK_seek 39 = .ok (.if_icmp .ge 106, 3) := by decide +kernel
theorem dK_seek_42 : decode bK_seek 42 = .ok (.iload_n 3, 1) := by decide +kernel
theorem dK_seek_43 : decode bK_seek 43 = .ok (.iconst 1, 1) := by decide +kernel
theorem dK_seek_44 : decode bK_seek 44 = .ok (.iadd, 1) := by decide +kernel
theorem dK_seek_45 : decode bK_seek 45 = .ok (.istore 4, 2) := by decide +kernel
theorem dK_seek_47 : decode bK_seek 47 = .ok (.iload 4, 2) := by decide +kernel
theorem dK_seek_49 : decode bK_seek 49 = .ok (.aload_n 0, 1) := by decide +kernel
theorem dK_seek_50 : decode bK_seek 50 = .ok (.getfield 30, 3) := by decide +kernel
theorem dK_seek_53 : decode bK_seek 53 = .ok (.iconst 1, 1) := by decide +kernel
theorem dK_seek_54 : decode bK_seek 54 = .ok (.if_icmp .le 7, 3) := by decide +kernel
theorem dK_seek_57 : decode bK_seek 57 = .ok (.iconst 2, 1) := by decide +kernel
theorem dK_seek_58 : decode bK_seek 58 = .ok (.goto 7, 3) := by decide +kernel
theorem dK_seek_61 : decode bK_seek 61 = .ok (.aload_n 0, 1) := by decide +kernel
theorem dK_seek_62 : decode bK_seek 62 = .ok (.getfield 26, 3) := by decide +kernel
theorem dK_seek_65 : decode bK_seek 65 = .ok (.if_icmp .ge 74, 3) := by decide +kernel
theorem dK_seek_68 : decode bK_seek 68 = .ok (.aload_n 0, 1) := by decide +kernel
theorem dK_seek_69 : decode bK_seek 69 = .ok (.iload_n 3, 1) := by decide +kernel
theorem dK_seek_70 : decode bK_seek 70 = .ok (.iload 4, 2) := by decide +kernel
theorem dK_seek_72 : decode bK_seek 72 = .ok (.invokevirtual 73, 3) := by decide +kernel
theorem dK_seek_75 : decode bK_seek 75 = .ok (.iload 4, 2) := by decide +kernel
theorem dK_seek_77 : decode bK_seek 77 = .ok (.iconst 1, 1) := by decide +kernel
theorem dK_seek_78 : decode bK_seek 78 = .ok (.iadd, 1) := by decide +kernel
theorem dK_seek_79 : decode bK_seek 79 = .ok (.istore 5, 2) := by decide +kernel
theorem dK_seek_81 : decode bK_seek 81 = .ok (.iload 5, 2) := by decide +kernel
theorem dK_seek_83 : decode bK_seek 83 = .ok (.aload_n 0, 1) := by decide +kernel
theorem dK_seek_84 : decode bK_seek 84 = .ok (.getfield 30, 3) := by decide +kernel
theorem dK_seek_87 : decode bK_seek 87 = .ok (.iconst 2, 1) := by decide +kernel
theorem dK_seek_88 : decode bK_seek 88 = .ok (.if_icmp .le 7, 3) := by decide +kernel
theorem dK_seek_91 : decode bK_seek 91 = .ok (.iconst 3, 1) := by decide +kernel
theorem dK_seek_92 : decode bK_seek 92 = .ok (.goto 7, 3) := by decide +kernel
theorem dK_seek_95 : decode bK_seek 95 = .ok (.aload_n 0, 1) := by decide +kernel
theorem dK_seek_96 : decode bK_seek 96 = .ok (.getfield 26, 3) := by decide +kernel
theorem dK_seek_99 : decode bK_seek 99 = .ok (.if_icmp .ge 34, 3) := by decide +kernel
theorem dK_seek_102 : decode bK_seek 102 = .ok (.aload_n 0, 1) := by decide +kernel
theorem dK_seek_103 : decode bK_seek 103 = .ok (.iload_n 3, 1) := by decide +kernel
theorem dK_seek_104 : decode bK_seek 104 = .ok (.iload 4, 2) := by decide +kernel
theorem dK_seek_106 : decode bK_seek 106 = .ok (.iload 5, 2) := by decide +kernel
theorem dK_seek_108 : decode bK_seek 108 = .ok (.invokevirtual 77, 3) := by decide +kernel
theorem dK_seek_111 : decode bK_seek 111 = .ok (.ifCond .eq 16, 3) := by decide +kernel
theorem dK_seek_114 : decode bK_seek 114 = .ok (.aload_n 1, 1) := by decide +kernel
theorem dK_seek_115 : decode bK_seek 115 = .ok (.ifnonnull 5, 3) := by decide +kernel
theorem dK_seek_118 : decode bK_seek 118 = .ok (.iconst 1, 1) := by decide +kernel
theorem dK_seek_119 : decode bK_seek 119 = .ok (.ireturn, 1) := by decide +kernel
theorem dK_seek_120 : decode bK_seek 120 = .ok (.aload_n 0, 1) := by decide +kernel
theorem dK_seek_121 : decode bK_seek 121 = .ok (.aload_n 1, 1) := by decide +kernel
theorem dK_seek_122 : decode bK_seek 122 = .ok (.invokevirtual 81, 3) := by decide +kernel
theorem dK_seek_125 : decode bK_seek 125 = .ok (.iconst 1, 1) := by decide +kernel
theorem dK_seek_126 : decode bK_seek 126 = .ok (.istore_n 2, 1) := by decide +kernel
theorem dK_seek_127 : decode bK_seek 127 = .ok (.iinc 5 1, 3) := by decide +kernel
theorem dK_seek_130 : decode bK_seek 130 = .ok (.goto (-49), 3) := by decide +kernel
theorem dK_seek_133 : decode bK_seek 133 = .ok (.iinc 4 1, 3) := by decide +kernel
theorem dK_seek_136 : decode bK_seek 136 = .ok (.goto (-89), 3) := by decide +kernel
theorem dK_seek_139 : decode bK_seek 139 = .ok (.iinc 3 1, 3) := by decide +kernel
theorem dK_seek_142 : decode bK_seek 142 = .ok (.goto (-119), 3) := by decide +kernel
theorem dK_seek_145 : decode bK_seek 145 = .ok (.iload_n 2, 1) := by decide +kernel
theorem dK_seek_146 : decode bK_seek 146 = .ok (.ireturn, 1) := by decide +kernel
theorem dK_setPlanes_0 : decode bK_setPlanes 0 = .ok (.aload_n 0, 1) := by decide +kernel
theorem dK_setPlanes_1 : decode bK_setPlanes 1 = .ok (.iconst 0, 1) := by decide +kernel
theorem dK_setPlanes_2 : decode bK_setPlanes 2 = .ok (.putfield 26, 3) := by decide +kernel
theorem dK_setPlanes_5 : decode bK_setPlanes 5 = .ok (.aload_n 0, 1) := by decide +kernel
theorem dK_setPlanes_6 : decode bK_setPlanes 6 = .ok (.invokevirtual 85, 3) := by decide +kernel
theorem dK_setPlanes_9 : decode bK_setPlanes 9 = .ok (.aload_n 0, 1) := by decide +kernel
theorem dK_setPlanes_10 : decode bK_setPlanes 10 = .ok (.aload_n 0, 1) := by decide +kernel
theorem dK_setPlanes_11 : decode bK_setPlanes 11 = .ok (.getfield 26, 3) := by decide +kernel
theorem dK_setPlanes_14 : decode bK_setPlanes 14 = .ok (.putfield 30, 3) := by decide +kernel
theorem dK_setPlanes_17 : decode bK_setPlanes 17 = .ok (.aload_n 0, 1) := by decide +kernel
theorem dK_setPlanes_18 : decode bK_setPlanes 18 = .ok (.getfield 30, 3) := by decide +kernel
theorem dK_setPlanes_21 : decode bK_setPlanes 21 = .ok (.iconst 3, 1) := by decide +kernel
theorem dK_setPlanes_22 : decode bK_setPlanes 22 = .ok (.if_icmp .lt 5, 3) := by decide +kernel
theorem dK_setPlanes_25 : decode bK_setPlanes 25 = .ok (.iconst 1, 1) := by decide +kernel
theorem dK_setPlanes_26 : decode bK_setPlanes 26 = .ok (.ireturn, 1) := by decide +kernel
theorem dK_setPlanes_27 : decode bK_setPlanes 27 = .ok (.aload_n 0, 1) := by decide +kernel
theorem dK_setPlanes_28 : decode bK_setPlanes 28 = .ok (.invokevirtual 88, 3) := by decide +kernel
theorem dK_setPlanes_31 : decode bK_setPlanes 31 = .ok (.aload_n 0, 1) := by decide +kernel
theorem dK_setPlanes_32 : decode bK_setPlanes 32 = .ok (.invokevirtual 91, 3) := by decide +kernel
theorem dK_setPlanes_35 : decode bK_setPlanes 35 = .ok (.ireturn, 1) := by decide +kernel
theorem dK_addPlanesOfOneAmount_0 : decode bK_addPlanesOfOneAmount 0 = .ok (.iconst 0, 1) := by decide +kernel
theorem dK_addPlanesOfOneAmount_1 : decode bK_addPlanesOfOneAmount 1 = .ok (.istore_n 1, 1) := by decide +kernel
theorem dK_addPlanesOfOneAmount_2 : decode bK_addPlanesOfOneAmount 2 = .ok (.iload_n 1, 1) := by decide +kernel
theorem dK_addPlanesOfOneAmount_3 : decode bK_addPlanesOfOneAmount 3 = .ok (.iconst 4, 1) := by decide +kernel
theorem dK_addPlanesOfOneAmount_4 : decode bK_addPlanesOfOneAmount 4 = .ok (.if_icmp .ge 44, 3) := by decide +kernel
theorem dK_addPlanesOfOneAmount_7 : decode bK_addPlanesOfOneAmount 7 = .ok (.aload_n 0, 1) := by decide +kernel
theorem dK_addPlanesOfOneAmount_8 : decode bK_addPlanesOfOneAmount 8 = .ok (.getfield 48, 3) := by decide +kernel
theorem dK_addPlanesOfOneAmount_11 : decode bK_addPlanesOfOneAmount 11 = .ok (.getfield 94, 3) := by decide +kernel
theorem dK_addPlanesOfOneAmount_14 : decode bK_addPlanesOfOneAmount 14 = .ok (.iload_n 1, 1) := by decide +kernel
theorem dK_addPlanesOfOneAmount_15 : decode bK_addPlanesOfOneAmount 15 = .ok (.iaload, 1) := by decide +kernel
theorem dK_addPlanesOfOneAmount_16 : decode bK_addPlanesOfOneAmount 16 = .ok (.aload_n 0, 1) := by decide +kernel
theorem dK_addPlanesOfOneAmount_17 : decode bK_addPlanesOfOneAmount 17 = .ok (.getfield 48, 3) := by decide +kernel
theorem dK_addPlanesOfOneAmount_20 : decode bK_addPlanesOfOneAmount 20 = .ok (.getfield 97, 3) := by decide +kernel
theorem dK_addPlanesOfOneAmount_23 : decode bK_addPlanesOfOneAmount 23 = .ok (.iload_n 1, 1) := by decide +kernel
theorem dK_addPlanesOfOneAmount_24 : decode bK_addPlanesOfOneAmount 24 = .ok (.iaload, 1) := by decide +kernel
theorem dK_addPlanesOfOneAmount_25 : decode bK_addPlanesOfOneAmount 25 = .ok (.if_icmp .ne 17, 3) := by decide +kernel
theorem dK_addPlanesOfOneAmount_28 : decode bK_addPlanesOfOneAmount 28 = .ok (.aload_n 0, 1) := by decide +kernel
theorem dK_addPlanesOfOneAmount_29 : decode bK_addPlanesOfOneAmount 29 = .ok (.iload_n 1, 1) := by decide +kernel
theorem dK_addPlanesOfOneAmount_30 : decode bK_addPlanesOfOneAmount 30 = .ok (.aload_n 0, 1) := by decide +kernel
theorem dK_addPlanesOfOneAmount_31 : decode bK_addPlanesOfOneAmount 31 = .ok (.getfield 48, 3) := by decide +kernel
theorem dK_addPlanesOfOneAmount_34 : decode bK_addPlanesOfOneAmount 34 = .ok (.getfield 94, 3) := by decide +kernel
theorem dK_addPlanesOfOneAmount_37 : decode bK_addPlanesOfOneAmount 37 = .ok (.iload_n 1, 1) := by decide +kernel
theorem dK_addPlanesOfOneAmount_38 : decode bK_addPlanesOfOneAmount 38 = .ok (.iaload, 1) := by decide +kernel
theorem dK_addPlanesOfOneAmount_39 : decode bK_addPlanesOfOneAmount 39 = .ok (.invokevirtual 100, 3) := by decide +kernel
theorem dK_addPlanesOfOneAmount_42 : decode bK_addPlanesOfOneAmount 42 = .ok (.iinc 1 1, 3) := by decide +kernel
theorem dK_addPlanesOfOneAmount_45 : decode bK_addPlanesOfOneAmount 45 = .ok (.goto (-43), 3) := by decide +kernel
theorem dK_addPlanesOfOneAmount_48 : decode bK_addPlanesOfOneAmount 48 = .ok (.return_, 1) := by decide +kernel
theorem dK_addPlanesOfStuffs_0 : decode bK_addPlanesOfStuffs 0 = .ok (.iconst 0, 1) := by decide +kernel
theorem dK_addPlanesOfStuffs_1 : decode bK_addPlanesOfStuffs 1 = .ok (.istore_n 1, 1) := by decide +kernel
theorem dK_addPlanesOfStuffs_2 : decode bK_addPlanesOfStuffs 2 = .ok (.iload_n 1, 1) := by decide +kernel
theorem dK_addPlanesOfStuffs_3 : decode bK_addPlanesOfStuffs 3 = .ok (.iconst 4, 1) := by decide +kernel
theorem dK_addPlanesOfStuffs_4 : decode bK_addPlanesOfStuffs 4 = .ok (.if_icmp .ge 77, 3) := by decide +kernel
theorem dK_addPlanesOfStuffs_7 : decode bK_addPlanesOfStuffs 7 = .ok (.aload_n 0, 1) := by decide +kernel
theorem dK_addPlanesOfStuffs_8 : decode bK_addPlanesOfStuffs 8 = .ok (.getfield 48, 3) := by decide +kernel
theorem dK_addPlanesOfStuffs_11 : decode bK_addPlanesOfStuffs 11 = .ok (.getfield 94, 3) := by decide +kernel
theorem dK_addPlanesOfStuffs_14 : decode bK_addPlanesOfStuffs 14 = .ok (.iload_n 1, 1) := by decide +kernel
theorem dK_addPlanesOfStuffs_15 : decode bK_addPlanesOfStuffs 15 = .ok (.iaload, 1) := by decide +kernel
theorem dK_addPlanesOfStuffs_16 : decode bK_addPlanesOfStuffs 16 = .ok (.aload_n 0, 1) := by decide +kernel
theorem dK_addPlanesOfStuffs_17 : decode bK_addPlanesOfStuffs 17 = .ok (.getfield 48, 3) := by decide +kernel
theorem dK_addPlanesOfStuffs_20 : decode bK_addPlanesOfStuffs 20 = .ok (.getfield 97, 3) := by decide +kernel
theorem dK_addPlanesOfStuffs_23 : decode bK_addPlanesOfStuffs 23 = .ok (.iload_n 1, 1) := by decide +kernel
theorem dK_addPlanesOfStuffs_24 : decode bK_addPlanesOfStuffs 24 = .ok (.iaload, 1) := by decide +kernel
theorem dK_addPlanesOfStuffs_25 : decode bK_addPlanesOfStuffs 25 = .ok (.if_icmp .ge 50, 3) := by decide +kernel
theorem dK_addPlanesOfStuffs_28 : decode bK_addPlanesOfStuffs 28 = .ok (.aload_n 0, 1) := by decide +kernel
theorem dK_addPlanesOfStuffs_29 : decode bK_addPlanesOfStuffs 29 = .ok (.iload_n 1, 1) := by decide +kernel
theorem dK_addPlanesOfStuffs_30 : decode bK_addPlanesOfStuffs 30 = .ok (.aload_n 0, 1) := by decide +kernel
theorem dK_addPlanesOfStuffs_31 : decode bK_addPlanesOfStuffs 31 = .ok (.getfield 48, 3) := by decide +kernel
theorem dK_addPlanesOfStuffs_34 : decode bK_addPlanesOfStuffs 34 = .ok (.getfield 94, 3) := by decide +kernel
theorem dK_addPlanesOfStuffs_37 : decode bK_addPlanesOfStuffs 37 = .ok (.iload_n 1, 1) := by decide +kernel
theorem dK_addPlanesOfStuffs_38 : decode bK_addPlanesOfStuffs 38 = .ok (.iaload, 1) := by decide +kernel
theorem dK_addPlanesOfStuffs_39 : decode bK_addPlanesOfStuffs 39 = .ok (.invokevirtual 100, 3) := by decide +kernel
theorem dK_addPlanesOfStuffs_42 : decode bK_addPlanesOfStuffs 42 = .ok (.aload_n 0, 1) := by decide +kernel
theorem dK_addPlanesOfStuffs_43 : decode bK_addPlanesOfStuffs 43 = .ok (.getfield 48, 3) := by decide +kernel
theorem dK_addPlanesOfStuffs_46 : decode bK_addPlanesOfStuffs 46 = .ok (.getfield 97, 3) := by decide +kernel
theorem dK_addPlanesOfStuffs_49 : decode bK_addPlanesOfStuffs 49 = .ok (.iload_n 1, 1) := by decide +kernel
theorem dK_addPlanesOfStuffs_50 : decode bK_addPlanesOfStuffs 50 = .ok (.iaload, 1) := by decide +kernel
theorem dK_addPlanesOfStuffs_51 : decode bK_addPlanesOfStuffs 51 = .ok (.aload_n 0, 1) := by decide +kernel
theorem dK_addPlanesOfStuffs_52 : decode bK_addPlanesOfStuffs 52 = .ok (.getfield 48, 3) := by decide +kernel
theorem dK_addPlanesOfStuffs_55 : decode bK_addPlanesOfStuffs 55 = .ok (.getfield 56, 3) := by decide +kernel
theorem dK_addPlanesOfStuffs_58 : decode bK_addPlanesOfStuffs 58 = .ok (.if_icmp .ge 17, 3) := by decide +kernel
theorem dK_addPlanesOfStuffs_61 : decode bK_addPlanesOfStuffs 61 = .ok (.aload_n 0, 1) := by decide +kernel
theorem dK_addPlanesOfStuffs_62 : decode bK_addPlanesOfStuffs 62 = .ok (.iload_n 1, 1) := by decide +kernel
theorem dK_addPlanesOfStuffs_63 : decode bK_addPlanesOfStuffs 63 = .ok (.aload_n 0, 1) := by decide +kernel
theorem dK_addPlanesOfStuffs_64 : decode bK_addPlanesOfStuffs 64 = .ok (.getfield 48, 3) := by decide +kernel
theorem dK_addPlanesOfStuffs_67 : decode bK_addPlanesOfStuffs 67 = .ok (.getfield 97, 3) := by decide +kernel
theorem dK_addPlanesOfStuffs_70 : decode bK_addPlanesOfStuffs 70 = .ok (.iload_n 1, 1) := by decide +kernel
theorem dK_addPlanesOfStuffs_71 : decode bK_addPlanesOfStuffs 71 = .ok (.iaload, 1) := by decide +kernel
theorem dK_addPlanesOfStuffs_72 : decode bK_addPlanesOfStuffs 72 = .ok (.invokevirtual 100, 3) := by decide +kernel
theorem dK_addPlanesOfStuffs_75 : decode bK_addPlanesOfStuffs 75 = .ok (.iinc 1 1, 3) := by decide +kernel
theorem dK_addPlanesOfStuffs_78 : decode bK_addPlanesOfStuffs 78 = .ok (.goto (-76), 3) := by decide +kernel
theorem dK_addPlanesOfStuffs_81 : decode bK_addPlanesOfStuffs 81 = .ok (.return_, 1) := by decide +kernel
theorem dK_addPlanesOfNutrients_0 : decode bK_addPlanesOfNutrients 0 = .ok (.iconst 0, 1) := by decide +kernel
theorem dK_addPlanesOfNutrients_1 : decode bK_addPlanesOfNutrients 1 = .ok (.istore_n 1, 1) := by decide +kernel
theorem dK_addPlanesOfNutrients_2 : decode bK_addPlanesOfNutrients 2 = .ok (.iload_n 1, 1) := by decide +kernel
theorem dK_addPlanesOfNutrients_3 : decode bK_addPlanesOfNutrients 3 = .ok (.iconst 3, 1) := by decide +kernel
theorem dK_addPlanesOfNutrients_4 : decode bK_addPlanesOfNutrients 4 = .ok (.if_icmp .ge 118, 3) := by decide +kernel
theorem dK_addPlanesOfNutrients_7 : decode bK_addPlanesOfNutrients 7 = .ok (.iconst 4, 1) := by decide +kernel
theorem dK_addPlanesOfNutrients_8 : decode bK_addPlanesOfNutrients 8 = .ok (.iload_n 1, 1) := by decide +kernel
theorem dK_addPlanesOfNutrients_9 : decode bK_addPlanesOfNutrients 9 = .ok (.iadd, 1) := by decide +kernel
theorem dK_addPlanesOfNutrients_10 : decode bK_addPlanesOfNutrients 10 = .ok (.istore_n 2, 1) := by decide +kernel
theorem dK_addPlanesOfNutrients_11 : decode bK_addPlanesOfNutrients 11 = .ok (.aload_n 0, 1) := by decide +kernel
theorem dK_addPlanesOfNutrients_12 : decode bK_addPlanesOfNutrients 12 = .ok (.getfield 48, 3) := by decide +kernel
theorem dK_addPlanesOfNutrients_15 : decode bK_addPlanesOfNutrients 15 = .ok (.iload_n 1, 1) := by decide +kernel
theorem dK_addPlanesOfNutrients_16 : decode bK_addPlanesOfNutrients 16 = .ok (.iconst 0, 1) := by decide +kernel
theorem dK_addPlanesOfNutrients_17 : decode bK_addPlanesOfNutrients 17 = .ok (.invokevirtual 103, 3) := by decide +kernel
theorem dK_addPlanesOfNutrients_20 : decode bK_addPlanesOfNutrients 20 = .ok (.istore_n 3, 1) := by decide +kernel
theorem dK_addPlanesOfNutrients_21 : decode bK_addPlanesOfNutrients 21 = .ok (.aload_n 0, 1) := by decide +kernel
theorem dK_addPlanesOfNutrients_22 : decode bK_addPlanesOfNutrients 22 = .ok (.getfield 48, 3) := by decide +kernel
theorem dK_addPlanesOfNutrients_25 : decode bK_addPlanesOfNutrients 25 = .ok (.iload_n 1, 1) := by decide +kernel
theorem dK_addPlanesOfNutrients_26 : decode bK_addPlanesOfNutrients 26 = .ok (.iconst 1, 1) := by decide +kernel
theorem dK_addPlanesOfNutrients_27 : decode bK_addPlanesOfNutrients 27 = .ok (.invokevirtual 103, 3) := by decide +kernel
theorem dK_addPlanesOfNutrients_30 : decode bK_addPlanesOfNutrients 30 = .ok (.istore 4, 2) := by decide +kernel
theorem dK_addPlanesOfNutrients_32 : decode bK_addPlanesOfNutrients 32 = .ok (.iload 4, 2) := by decide +kernel
theorem dK_addPlanesOfNutrients_34 : decode bK_addPlanesOfNutrients 34 = .ok (.aload_n 0, 1) := by decide +kernel
theorem dK_addPlanesOfNutrients_35 : decode bK_addPlanesOfNutrients 35 = .ok (.getfield 48, 3) := by decide +kernel
theorem dK_addPlanesOfNutrients_38 : decode bK_addPlanesOfNutrients 38 = .ok (.getfield 94, 3) := by decide +kernel
theorem dK_addPlanesOfNutrients_41 : decode bK_addPlanesOfNutrients 41 = .ok (.iload_n 2, 1) := by decide +kernel
theorem dK_addPlanesOfNutrients_42 : decode bK_addPlanesOfNutrients 42 = .ok (.iaload, 1) := by decide +kernel
theorem dK_addPlanesOfNutrients_43 : decode bK_addPlanesOfNutrients 43 = .ok (.if_icmp .lt 16, 3) := by decide +kernel
theorem dK_addPlanesOfNutrients_46 : decode bK_addPlanesOfNutrients 46 = .ok (.iload_n 3, 1) := by decide +kernel
theorem dK_addPlanesOfNutrients_47 : decode bK_addPlanesOfNutrients 47 = .ok (.aload_n 0, 1) := by decide +kernel
theorem dK_addPlanesOfNutrients_48 : decode bK_addPlanesOfNutrients 48 = .ok (.getfield 48, 3) := by decide +kernel
theorem dK_addPlanesOfNutrients_51 : decode bK_addPlanesOfNutrients 51 = .ok (.getfield 97, 3) := by decide +kernel
theorem dK_addPlanesOfNutrients_54 : decode bK_addPlanesOfNutrients 54 = .ok (.iload_n 2, 1) := by decide +kernel
theorem dK_addPlanesOfNutrients_55 : decode bK_addPlanesOfNutrients 55 = .ok (.iaload, 1) := by decide +kernel
theorem dK_addPlanesOfNutrients_56 : decode bK_addPlanesOfNutrients 56 = .ok (.if_icmp .le 5, 3) := by decide +kernel
theorem dK_addPlanesOfNutrients_59 : decode bK_addPlanesOfNutrients 59 = .ok (.iconst 0, 1) := by decide +kernel
theorem dK_addPlanesOfNutrients_60 : decode bK_addPlanesOfNutrients 60 = .ok (.ireturn, 1) := by decide +kernel
theorem dK_addPlanesOfNutrients_61 : decode bK_addPlanesOfNutrients 61 = .ok (.iload_n 3, 1) := by decide +kernel
theorem dK_addPlanesOfNutrients_62 : decode bK_addPlanesOfNutrients 62 = .ok (.aload_n 0, 1) := by decide +kernel
theorem dK_addPlanesOfNutrients_63 : decode bK_addPlanesOfNutrients 63 = .ok (.getfield 48, 3) := by decide +kernel
theorem dK_addPlanesOfNutrients_66 : decode bK_addPlanesOfNutrients 66 = .ok (.getfield 94, 3) := by decide +kernel
theorem dK_addPlanesOfNutrients_69 : decode bK_addPlanesOfNutrients 69 = .ok (.iload_n 2, 1) := by decide +kernel
theorem dK_addPlanesOfNutrients_70 : decode bK_addPlanesOfNutrients 70 = .ok (.iaload, 1) := by decide +kernel
theorem dK_addPlanesOfNutrients_71 : decode bK_addPlanesOfNutrients 71 = .ok (.if_icmp .ge 17, 3) := by decide +kernel
theorem dK_addPlanesOfNutrients_74 : decode bK_addPlanesOfNutrients 74 = .ok (.aload_n 0, 1) := by decide +kernel
theorem dK_addPlanesOfNutrients_75 : decode bK_addPlanesOfNutrients 75 = .ok (.iload_n 2, 1) := by decide +kernel
theorem dK_addPlanesOfNutrients_76 : decode bK_addPlanesOfNutrients 76 = .ok (.aload_n 0, 1) := by decide +kernel
theorem dK_addPlanesOfNutrients_77 : decode bK_addPlanesOfNutrients 77 = .ok (.getfield 48, 3) := by decide +kernel
theorem dK_addPlanesOfNutrients_80 : decode bK_addPlanesOfNutrients 80 = .ok (.getfield 94, 3) := by decide +kernel
theorem dK_addPlanesOfNutrients_83 : decode bK_addPlanesOfNutrients 83 = .ok (.iload_n 2, 1) := by decide +kernel
theorem dK_addPlanesOfNutrients_84 : decode bK_addPlanesOfNutrients 84 = .ok (.iaload, 1) := by decide +kernel
theorem dK_addPlanesOfNutrients_85 : decode bK_addPlanesOfNutrients 85 = .ok (.invokevirtual 100, 3) := by decide +kernel
theorem dK_addPlanesOfNutrients_88 : decode bK_addPlanesOfNutrients 88 = .ok (.iload 4, 2) := by decide +kernel
theorem dK_addPlanesOfNutrients_90 : decode bK_addPlanesOfNutrients 90 = .ok (.aload_n 0, 1) := by decide +kernel
theorem dK_addPlanesOfNutrients_91 : decode bK_addPlanesOfNutrients 91 = .ok (.getfield 48, 3) := by decide +kernel
theorem dK_addPlanesOfNutrients_94 : decode bK_addPlanesOfNutrients 94 = .ok (.getfield 97, 3) := by decide +kernel
theorem dK_addPlanesOfNutrients_97 : decode bK_addPlanesOfNutrients 97 = .ok (.iload_n 2, 1) := by decide +kernel
theorem dK_addPlanesOfNutrients_98 : decode bK_addPlanesOfNutrients 98 = .ok (.iaload, 1) := by decide +kernel
theorem dK_addPlanesOfNutrients_99 : decode bK_addPlanesOfNutrients 99 = .ok (.if_icmp .le 17, 3) := by decide +kernel
theorem dK_addPlanesOfNutrients_102 : decode bK_addPlanesOfNutrients 102 = .ok (.aload_n 0, 1) := by decide +kernel
theorem dK_addPlanesOfNutrients_103 : decode bK_addPlanesOfNutrients 103 = .ok (.iload_n 2, 1) := by decide +kernel
theorem dK_addPlanesOfNutrients_104 : decode bK_addPlanesOfNutrients 104 = .ok (.aload_n 0, 1) := by decide +kernel
theorem dK_addPlanesOfNutrients_105 : decode bK_addPlanesOfNutrients 105 = .ok (.getfield 48, 3) := by decide +kernel
theorem dK_addPlanesOfNutrients_108 : decode bK_addPlanesOfNutrients 108 = .ok (.getfield 97, 3) := by decide +kernel
theorem dK_addPlanesOfNutrients_111 : decode bK_addPlanesOfNutrients 111 = .ok (.iload_n 2, 1) := by decide +kernel
theorem dK_addPlanesOfNutrients_112 : decode bK_addPlanesOfNutrients 112 = .ok (.iaload, 1) := by decide +kernel
theorem dK_addPlanesOfNutrients_113 : decode bK_addPlanesOfNutrients 113 = .ok (.invokevirtual 100, 3) := by decide +kernel
theorem dK_addPlanesOfNutrients_116 : decode bK_addPlanesOfNutrients 116 = .ok (.iinc 1 1, 3) := by decide +kernel
theorem dK_addPlanesOfNutrients_119 : decode bK_addPlanesOfNutrients 119 = .ok (.goto (-117), 3) := by decide +kernel
theorem dK_addPlanesOfNutrients_122 : decode bK_addPlanesOfNutrients 122 = .ok (.iconst 1, 1) := by decide +kernel
theorem dK_addPlanesOfNutrients_123 : decode bK_addPlanesOfNutrients 123 = .ok (.ireturn, 1) := by decide +kernel
theorem dK_addPlane_0 : decode bK_addPlane 0 = .ok (.aload_n 0, 1) := by decide +kernel
theorem dK_addPlane_1 : decode bK_addPlane 1 = .ok (.getfield 26, 3) := by decide +kernel
theorem dK_addPlane_4 : decode bK_addPlane 4 = .ok (.aload_n 0, 1) := by decide +kernel
theorem dK_addPlane_5 : decode bK_addPlane 5 = .ok (.getfield 20, 3) := by decide +kernel
theorem dK_addPlane_8 : decode bK_addPlane 8 = .ok (.arraylength, 1) := by decide +kernel
theorem dK_addPlane_9 : decode bK_addPlane 9 = .ok (.if_icmp .ge 40, 3) := by decide +kernel
theorem dK_addPlane_12 : decode bK_addPlane 12 = .ok (.aload_n 0, 1) := by decide +kernel
theorem dK_addPlane_13 : decode bK_addPlane 13 = .ok (.getfield 20, 3) := by decide +kernel
theorem dK_addPlane_16 : decode bK_addPlane 16 = .ok (.aload_n 0, 1) := by decide +kernel
theorem dK_addPlane_17 : decode bK_addPlane 17 = .ok (.getfield 26, 3) := by decide +kernel
theorem dK_addPlane_20 : decode bK_addPlane 20 = .ok (.iload_n 1, 1) := by decide +kernel
theorem dK_addPlane_21 : decode bK_addPlane 21 = .ok (.iastore, 1) := by decide +kernel
theorem dK_addPlane_22 : decode bK_addPlane 22 = .ok (.aload_n 0, 1) := by decide +kernel
theorem dK_addPlane_23 : decode bK_addPlane 23 = .ok (.getfield 23, 3) := by decide +kernel
theorem dK_addPlane_26 : decode bK_addPlane 26 = .ok (.aload_n 0, 1) := by decide +kernel
theorem dK_addPlane_27 : decode bK_addPlane 27 = .ok (.getfield 26, 3) := by decide +kernel
theorem dK_addPlane_30 : decode bK_addPlane 30 = .ok (.iload_n 2, 1) := by decide +kernel
theorem dK_addPlane_31 : decode bK_addPlane 31 = .ok (.aload_n 0, 1) := by decide +kernel
theorem dK_addPlane_32 : decode bK_addPlane 32 = .ok (.getfield 9, 3) := by decide +kernel
theorem dK_addPlane_35 : decode bK_addPlane 35 = .ok (.iload_n 1, 1) := by decide +kernel
theorem dK_addPlane_36 : decode bK_addPlane 36 = .ok (.iaload, 1) := by decide +kernel
theorem dK_addPlane_37 : decode bK_addPlane 37 = .ok (.isub, 1) := by decide +kernel
theorem dK_addPlane_38 : decode bK_addPlane 38 = .ok (.iastore, 1) := by decide +kernel
theorem dK_addPlane_39 : decode bK_addPlane 39 = .ok (.aload_n 0, 1) := by decide +kernel
theorem dK_addPlane_40 : decode bK_addPlane 40 = .ok (.dup, 1) := by decide +kernel
theorem dK_addPlane_41 : decode bK_addPlane 41 = .ok (.getfield 26, 3) := by decide +kernel
theorem dK_addPlane_44 : decode bK_addPlane 44 = .ok (.iconst 1, 1) := by decide +kernel
theorem dK_addPlane_45 : decode bK_addPlane 45 = .ok (.iadd, 1) := by decide +kernel
theorem dK_addPlane_46 : decode bK_addPlane 46 = .ok (.putfield 26, 3) := by decide +kernel
theorem dK_addPlane_49 : decode bK_addPlane 49 = .ok (.return_, 1) := by decide +kernel
theorem dK_isCorner_0 : decode bK_isCorner 0 = .ok (.aload_n 0, 1) := by decide +kernel
theorem dK_isCorner_1 : decode bK_isCorner 1 = .ok (.getfield 17, 3) := by decide +kernel
theorem dK_isCorner_4 : decode bK_isCorner 4 = .ok (.aload_n 0, 1) := by decide +kernel
theorem dK_isCorner_5 : decode bK_isCorner 5 = .ok (.getfield 20, 3) := by decide +kernel
theorem dK_isCorner_8 : decode bK_isCorner 8 = .ok (.iload_n 1, 1) := by decide +kernel
theorem dK_isCorner_9 : decode bK_isCorner 9 = .ok (.iaload, 1) := by decide +kernel
theorem dK_isCorner_10 : decode bK_isCorner 10 = .ok (.aaload, 1) := by decide +kernel
theorem dK_isCorner_11 : decode bK_isCorner 11 = .ok (.astore 4, 2) := by decide +kernel
theorem dK_isCorner_13 : decode bK_isCorner 13 = .ok (.aload_n 0, 1) := by decide +kernel
theorem dK_isCorner_14 : decode bK_isCorner 14 = .ok (.getfield 17, 3) := by decide +kernel
theorem dK_isCorner_17 : decode bK_isCorner 17 = .ok (.aload_n 0, 1) := by decide +kernel
theorem dK_isCorner_18 : decode bK_isCorner 18 = .ok (.getfield 20, 3) := by decide +kernel
theorem dK_isCorner_21 : decode bK_isCorner 21 = .ok (.iload_n 2, 1) := by decide +kernel
theorem dK_isCorner_22 : decode bK_isCorner 22 = .ok (.iaload, 1) := by decide +kernel
theorem dK_isCorner_23 : decode bK_isCorner 23 = .ok (.aaload, 1) := by decide +kernel
theorem dK_isCorner_24 : decode bK_isCorner 24 = .ok (.astore 5, 2) := by decide +kernel
theorem dK_isCorner_26 : decode bK_isCorner 26 = .ok (.aload_n 0, 1) := by decide +kernel
theorem dK_isCorner_27 : decode bK_isCorner 27 = .ok (.getfield 17, 3) := by decide +kernel
theorem dK_isCorner_30 : decode bK_isCorner 30 = .ok (.aload_n 0, 1) := by decide +kernel
theorem dK_isCorner_31 : decode bK_isCorner 31 = .ok (.getfield 20, 3) := by decide +kernel
theorem dK_isCorner_34 : decode bK_isCorner 34 = .ok (.iload_n 3, 1) := by decide +kernel
theorem dK_isCorner_35 : decode bK_isCorner 35 = .ok (.iaload, 1) := by decide +kernel
theorem dK_isCorner_36 : decode bK_isCorner 36 = .ok (.aaload, 1) := by decide +kernel
theorem dK_isCorner_37 : decode bK_isCorner 37 = .ok (.astore 6, 2) := by decide +kernel
theorem dK_isCorner_39 : decode bK_isCorner 39 = .ok (.aload_n 0, 1) := by decide +kernel
theorem dK_isCorner_40 : decode bK_isCorner 40 = .ok (.getfield 33, 3) := by decide +kernel
theorem dK_isCorner_43 : decode bK_isCorner 43 = .ok (.iconst 0, 1) := by decide +kernel
theorem dK_isCorner_44 : decode bK_isCorner 44 = .ok (.laload, 1) := by decide +kernel
theorem dK_isCorner_45 : decode bK_isCorner 45 = .ok (.aload 6, 2) := by decide +kernel
theorem dK_isCorner_47 : decode bK_isCorner 47 = .ok (.iconst 0, 1) := by decide +kernel
theorem dK_isCorner_48 : decode bK_isCorner 48 = .ok (.iaload, 1) := by decide +kernel
theorem dK_isCorner_49 : decode bK_isCorner 49 = .ok (.i2l, 1) := by decide +kernel
theorem dK_isCorner_50 : decode bK_isCorner 50 = .ok (.lmul, 1) := by decide +kernel
theorem dK_isCorner_51 : decode bK_isCorner 51 = .ok (.aload_n 0, 1) := by decide +kernel
theorem dK_isCorner_52 : decode bK_isCorner 52 = .ok (.getfield 33, 3) := by decide +kernel
theorem dK_isCorner_55 : decode bK_isCorner 55 = .ok (.iconst 1, 1) := by decide +kernel
theorem dK_isCorner_56 : decode bK_isCorner 56 = .ok (.laload, 1) := by decide +kernel
theorem dK_isCorner_57 : decode bK_isCorner 57 = .ok (.aload 6, 2) := by decide +kernel
theorem dK_isCorner_59 : decode bK_isCorner 59 = .ok (.iconst 1, 1) := by decide +kernel
theorem dK_isCorner_60 : decode bK_isCorner 60 = .ok (.iaload, 1) := by decide +kernel
theorem dK_isCorner_61 : decode bK_isCorner 61 = .ok (.i2l, 1) := by decide +kernel
theorem dK_isCorner_62 : decode bK_isCorner 62 = .ok (.lmul, 1) := by decide +kernel
theorem dK_isCorner_63 : decode bK_isCorner 63 = .ok (.ladd, 1) := by decide +kernel
theorem dK_isCorner_64 : decode bK_isCorner 64 = .ok (.aload_n 0, 1) := by decide +kernel
theorem dK_isCorner_65 : decode bK_isCorner 65 = .ok (.getfield 33, 3) := by decide +kernel
theorem dK_isCorner_68 : decode bK_isCorner 68 = .ok (.iconst 2, 1) := by decide +kernel
theorem dK_isCorner_69 : decode bK_isCorner 69 = .ok (.laload, 1) := by decide +kernel
theorem dK_isCorner_70 : decode bK_isCorner 70 = .ok (.aload 6, 2) := by decide +kernel
theorem dK_isCorner_72 : decode bK_isCorner 72 = .ok (.iconst 2, 1) := by decide +kernel
theorem dK_isCorner_73 : decode bK_isCorner 73 = .ok (.iaload, 1) := by decide +kernel
theorem dK_isCorner_74 : decode bK_isCorner 74 = .ok (.i2l, 1) := by decide +kernel
theorem dK_isCorner_75 : decode bK_isCorner 75 = .ok (.lmul, 1) := by decide +kernel
theorem dK_isCorner_76 : decode bK_isCorner 76 = .ok (.ladd, 1) := by decide +kernel
theorem dK_isCorner_77 : decode bK_isCorner 77 = .ok (.lstore 7, 2) := by decide +kernel
theorem dK_isCorner_79 : decode bK_isCorner 79 = .ok (.lload 7, 2) := by decide +kernel
theorem dK_isCorner_81 : decode bK_isCorner 81 = .ok (.lconst 0, 1) := by decide +kernel
theorem dK_isCorner_82 : decode bK_isCorner 82 = .ok (.lcmp, 1) := by decide +kernel
theorem dK_isCorner_83 : decode bK_isCorner 83 = .ok (.ifCond .ne 5, 3) := by decide +kernel
theorem dK_isCorner_86 : decode bK_isCorner 86 = .ok (.iconst 0, 1) := by decide +kernel
theorem dK_isCorner_87 : decode bK_isCorner 87 = .ok (.ireturn, 1) := by decide +kernel
theorem dK_isCorner_88 : decode bK_isCorner 88 = .ok (.lload 7, 2) := by decide +kernel
theorem dK_isCorner_90 : decode bK_isCorner 90 = .ok (.lconst 0, 1) := by decide +kernel
theorem dK_isCorner_91 : decode bK_isCorner 91 = .ok (.lcmp, 1) := by decide +kernel
theorem dK_isCorner_92 : decode bK_isCorner 92 = .ok (.ifCond .ge 7, 3) := by decide +kernel
theorem dK_isCorner_95 : decode bK_isCorner 95 = .ok (.iconst (-1), 1) := by decide +kernel
theorem dK_isCorner_96 : decode bK_isCorner 96 = .ok (.goto 4, 3) := by decide +kernel
theorem dK_isCorner_99 : decode bK_isCorner 99 = .ok (.iconst 1, 1) := by decide +kernel
theorem dK_isCorner_100 : decode bK_isCorner 100 = .ok (.istore 9, 2) := by decide +kernel
theorem dK_isCorner_102 : decode bK_isCorner 102 = .ok (.aload_n 0, 1) := by decide +kernel
theorem dK_isCorner_103 : decode bK_isCorner 103 = .ok (.getfield 40, 3) := by decide +kernel
theorem dK_isCorner_106 : decode bK_isCorner 106 = .ok (.iload 9, 2) := by decide +kernel
theorem dK_isCorner_108 : decode bK_isCorner 108 = .ok (.i2l, 1) := by decide +kernel
theorem dK_isCorner_109 : decode bK_isCorner 109 = .ok (.lload 7, 2) := by decide +kernel
theorem dK_isCorner_111 : decode bK_isCorner 111 = .ok (.lmul, 1) := by decide +kernel
theorem dK_isCorner_112 : decode bK_isCorner 112 = .ok (.putfield 107, 3) := by decide +kernel
theorem dK_isCorner_115 : decode bK_isCorner 115 = .ok (.aload_n 0, 1) := by decide +kernel
theorem dK_isCorner_116 : decode bK_isCorner 116 = .ok (.getfield 48, 3) := by decide +kernel
theorem dK_isCorner_119 : decode bK_isCorner 119 = .ok (.getfield 56, 3) := by decide +kernel
theorem dK_isCorner_122 : decode bK_isCorner 122 = .ok (.i2l, 1) := by decide +kernel
theorem dK_isCorner_123 : decode bK_isCorner 123 = .ok (.aload_n 0, 1) := by decide +kernel
theorem dK_isCorner_124 : decode bK_isCorner 124 = .ok (.getfield 40, 3) := by decide +kernel
theorem dK_isCorner_127 : decode bK_isCorner 127 = .ok (.getfield 107, 3) := by decide +kernel
theorem dK_isCorner_130 : decode bK_isCorner 130 = .ok (.lmul, 1) := by decide +kernel
theorem dK_isCorner_131 : decode bK_isCorner 131 = .ok (.lstore 10, 2) := by decide +kernel
theorem dK_isCorner_133 : decode bK_isCorner 133 = .ok (.iconst 0, 1) := by decide +kernel
theorem dK_isCorner_134 : decode bK_isCorner 134 = .ok (.istore 12, 2) := by decide +kernel
theorem dK_isCorner_136 : decode bK_isCorner 136 = .ok (.iload 12, 2) := by decide +kernel
theorem dK_isCorner_138 : decode bK_isCorner 138 = .ok (.iconst 3, 1) := by decide +kernel
theorem dK_isCorner_139 : decode bK_isCorner 139 = .ok (.if_icmp .ge 116, 3) := by decide +kernel
theorem dK_isCorner_142 : decode bK_isCorner 142 = .ok (.aload_n 0, 1) := by decide +kernel
theorem dK_isCorner_143 : decode bK_isCorner 143 = .ok (.getfield 23, 3) := by decide +kernel
theorem dK_isCorner_146 : decode bK_isCorner 146 = .ok (.iload_n 1, 1) := by decide +kernel
theorem dK_isCorner_147 : decode bK_isCorner 147 = .ok (.iaload, 1) := by decide +kernel
theorem dK_isCorner_148 : decode bK_isCorner 148 = .ok (.i2l, 1) := by decide +kernel
theorem dK_isCorner_149 : decode bK_isCorner 149 = .ok (.aload 5, 2) := by decide +kernel
theorem dK_isCorner_151 : decode bK_isCorner 151 = .ok (.aload 6, 2) := by decide +kernel
theorem dK_isCorner_153 : decode bK_isCorner 153 = .ok (.iload 12, 2) := by decide +kernel
theorem dK_isCorner_155 : decode bK_isCorner 155 = .ok (.invokestatic 111, 3) := by decide +kernel
theorem dK_isCorner_158 : decode bK_isCorner 158 = .ok (.lmul, 1) := by decide +kernel
theorem dK_isCorner_159 : decode bK_isCorner 159 = .ok (.aload_n 0, 1) := by decide +kernel
theorem dK_isCorner_160 : decode bK_isCorner 160 = .ok (.getfield 23, 3) := by decide +kernel
theorem dK_isCorner_163 : decode bK_isCorner 163 = .ok (.iload_n 2, 1) := by decide +kernel
theorem dK_isCorner_164 : decode bK_isCorner 164 = .ok (.iaload, 1) := by decide +kernel
theorem dK_isCorner_165 : decode bK_isCorner 165 = .ok (.i2l, 1) := by decide +kernel
theorem dK_isCorner_166 : decode bK_isCorner 166 = .ok (.aload 6, 2) := by decide +kernel
theorem dK_isCorner_168 : decode bK_isCorner 168 = .ok (.aload 4, 2) := by decide +kernel
theorem dK_isCorner_170 : decode bK_isCorner 170 = .ok (.iload 12, 2) := by decide +kernel
theorem dK_isCorner_172 : decode bK_isCorner 172 = .ok (.invokestatic 111, 3) := by decide +kernel
theorem dK_isCorner_175 : decode bK_isCorner 175 = .ok (.lmul, 1) := by decide +kernel
theorem dK_isCorner_176 : decode bK_isCorner 176 = .ok (.ladd, 1) := by decide +kernel
theorem dK_isCorner_177 : decode bK_isCorner 177 = .ok (.aload_n 0, 1) := by decide +kernel
theorem dK_isCorner_178 : decode bK_isCorner 178 = .ok (.getfield 23, 3) := by decide +kernel
theorem dK_isCorner_181 : decode bK_isCorner 181 = .ok (.iload_n 3, 1) := by decide +kernel
theorem dK_isCorner_182 : decode bK_isCorner 182 = .ok (.iaload, 1) := by decide +kernel
theorem dK_isCorner_183 : decode bK_isCorner 183 = .ok (.i2l, 1) := by decide +kernel
theorem dK_isCorner_184 : decode bK_isCorner 184 = .ok (.aload_n 0, 1) := by decide +kernel
theorem dK_isCorner_185 : decode bK_isCorner 185 = .ok (.getfield 33, 3) := by decide +kernel
theorem dK_isCorner_188 : decode bK_isCorner 188 = .ok (.iload 12, 2) := by decide +kernel
theorem dK_isCorner_190 : decode bK_isCorner 190 = .ok (.laload, 1) := by decide +kernel
theorem dK_isCorner_191 : decode bK_isCorner 191 = .ok (.lmul, 1) := by decide +kernel
theorem dK_isCorner_192 : decode bK_isCorner 192 = .ok (.ladd, 1) := by decide +kernel
theorem dK_isCorner_193 : decode bK_isCorner 193 = .ok (.lstore 13, 2) := by decide +kernel
theorem dK_isCorner_195 : decode bK_isCorner 195 = .ok (.aload_n 0, 1) := by decide +kernel
theorem dK_isCorner_196 : decode bK_isCorner 196 = .ok (.getfield 48, 3) := by decide +kernel
theorem dK_isCorner_199 : decode bK_isCorner 199 = .ok (.iload 12, 2) := by decide +kernel
theorem dK_isCorner_201 : decode bK_isCorner 201 = .ok (.iload 9, 2) := by decide +kernel
theorem dK_isCorner_203 : decode bK_isCorner 203 = .ok (.i2l, 1) := by decide +kernel
theorem dK_isCorner_204 : decode bK_isCorner 204 = .ok (.lload 13, 2) := by decide +kernel
theorem dK_isCorner_206 : decode bK_isCorner 206 = .ok (.lmul, 1) := by decide +kernel
theorem dK_isCorner_207 : decode bK_isCorner 207 = .ok (.aload_n 0, 1) := by decide +kernel
theorem dK_isCorner_208 : decode bK_isCorner 208 = .ok (.getfield 40, 3) := by decide +kernel
theorem dK_isCorner_211 : decode bK_isCorner 211 = .ok (.getfield 107, 3) := by decide +kernel
theorem dK_isCorner_214 : decode bK_isCorner 214 = .ok (.invokevirtual 115, 3) := by decide +kernel
theorem dK_isCorner_217 : decode bK_isCorner 217 = .ok (.ifCond .ne 5, 3) := by decide +kernel
theorem dK_isCorner_220 : decode bK_isCorner 220 = .ok (.iconst 0, 1) := by decide +kernel
theorem dK_isCorner_221 : decode bK_isCorner 221 = .ok (.ireturn, 1) := by decide +kernel
theorem dK_isCorner_222 : decode bK_isCorner 222 = .ok (.aload_n 0, 1) := by decide +kernel
theorem dK_isCorner_223 : decode bK_isCorner 223 = .ok (.getfield 40, 3) := by decide +kernel
theorem dK_isCorner_226 : decode bK_isCorner 226 = .ok (.getfield 119, 3) := by decide +kernel
theorem dK_isCorner_229 : decode bK_isCorner 229 = .ok (.iload 12, 2) := by decide +kernel
theorem dK_isCorner_231 : decode bK_isCorner 231 = .ok (.iload 9, 2) := by decide +kernel
theorem dK_isCorner_233 : decode bK_isCorner 233 = .ok (.i2l, 1) := by decide +kernel
theorem dK_isCorner_234 : decode bK_isCorner 234 = .ok (.lload 13, 2) := by decide +kernel
theorem dK_isCorner_236 : decode bK_isCorner 236 = .ok (.lmul, 1) := by decide +kernel
theorem dK_isCorner_237 : decode bK_isCorner 237 = .ok (.lastore, 1) := by decide +kernel
theorem dK_isCorner_238 : decode bK_isCorner 238 = .ok (.lload 10, 2) := by decide +kernel
theorem dK_isCorner_240 : decode bK_isCorner 240 = .ok (.iload 9, 2) := by decide +kernel
theorem dK_isCorner_242 : decode bK_isCorner 242 = .ok (.i2l, 1) := by decide +kernel
theorem dK_isCorner_243 : decode bK_isCorner 243 = .ok (.lload 13, 2) := by decide +kernel
theorem dK_isCorner_245 : decode bK_isCorner 245 = .ok (.lmul, 1) := by decide +kernel
theorem dK_isCorner_246 : decode bK_isCorner 246 = .ok (.lsub, 1) := by decide +kernel
theorem dK_isCorner_247 : decode bK_isCorner 247 = .ok (.lstore 10, 2) := by decide +kernel
theorem dK_isCorner_249 : decode bK_isCorner 249 = .ok (.iinc 12 1, 3) := by decide +kernel
theorem dK_isCorner_252 : decode bK_isCorner 252 = .ok (.goto (-116), 3) := by decide +kernel
theorem dK_isCorner_255 : decode bK_isCorner 255 = .ok (.aload_n 0, 1) := by decide +kernel
theorem dK_isCorner_256 : decode bK_isCorner 256 = .ok (.getfield 40, 3) := by decide +kernel
theorem dK_isCorner_259 : decode bK_isCorner 259 = .ok (.getfield 119, 3) := by decide +kernel
theorem dK_isCorner_262 : decode bK_isCorner 262 = .ok (.iconst 3, 1) := by decide +kernel
theorem dK_isCorner_263 : decode bK_isCorner 263 = .ok (.lload 10, 2) := by decide +kernel
theorem dK_isCorner_265 : decode bK_isCorner 265 = .ok (.lastore, 1) := by decide +kernel
theorem dK_isCorner_266 : decode bK_isCorner 266 = .ok (.iconst 3, 1) := by decide +kernel
theorem dK_isCorner_267 : decode bK_isCorner 267 = .ok (.istore 12, 2) := by decide +kernel
theorem dK_isCorner_269 : decode bK_isCorner 269 = .ok (.iload 12, 2) := by decide +kernel
theorem dK_isCorner_271 : decode bK_isCorner 271 = .ok (.bipush 7, 2) := by decide +kernel
theorem dK_isCorner_273 : decode bK_isCorner 273 = .ok (.if_icmp .ge 43, 3) := by decide +kernel
theorem dK_isCorner_276 : decode bK_isCorner 276 = .ok (.aload_n 0, 1) := by decide +kernel
theorem dK_isCorner_277 : decode bK_isCorner 277 = .ok (.getfield 48, 3) := by decide +kernel
theorem dK_isCorner_280 : decode bK_isCorner 280 = .ok (.iload 12, 2) := by decide +kernel
theorem dK_isCorner_282 : decode bK_isCorner 282 = .ok (.aload_n 0, 1) := by decide +kernel
theorem dK_isCorner_283 : decode bK_isCorner 283 = .ok (.getfield 48, 3) := by decide +kernel
theorem dK_isCorner_286 : decode bK_isCorner 286 = .ok (.iload 12, 2) := by decide +kernel
theorem dK_isCorner_288 : decode bK_isCorner 288 = .ok (.aload_n 0, 1) := by decide +kernel
theorem dK_isCorner_289 : decode bK_isCorner 289 = .ok (.getfield 40, 3) := by decide +kernel
theorem dK_isCorner_292 : decode bK_isCorner 292 = .ok (.invokevirtual 122, 3) := by decide +kernel
theorem dK_isCorner_295 : decode bK_isCorner 295 = .ok (.aload_n 0, 1) := by decide +kernel
theorem dK_isCorner_296 : decode bK_isCorner 296 = .ok (.getfield 40, 3) := by decide +kernel
theorem dK_isCorner_299 : decode bK_isCorner 299 = .ok (.getfield 107, 3) := by decide +kernel
theorem dK_isCorner_302 : decode bK_isCorner 302 = .ok (.invokevirtual 115, 3) := by decide +kernel
theorem dK_isCorner_305 : decode bK_isCorner 305 = .ok (.ifCond .ne 5, 3) := by decide +kernel
theorem dK_isCorner_308 : decode bK_isCorner 308 = .ok (.iconst 0, 1) := by decide +kernel
theorem dK_isCorner_309 : decode bK_isCorner 309 = .ok (.ireturn, 1) := by decide +kernel
theorem dK_isCorner_310 : decode bK_isCorner 310 = .ok (.iinc 12 1, 3) := by decide +kernel
theorem dK_isCorner_313 : decode bK_isCorner 313 = .ok (.goto (-44), 3) := by decide +kernel
theorem dK_isCorner_316 : decode bK_isCorner 316 = .ok (.iconst 1, 1) := by decide +kernel
theorem dK_isCorner_317 : decode bK_isCorner 317 = .ok (.ireturn, 1) := by decide +kernel
theorem dK_setCrossOf_0 : decode bK_setCrossOf 0 = .ok (.iconst 0, 1) := by decide +kernel
theorem dK_setCrossOf_1 : decode bK_setCrossOf 1 = .ok (.istore_n 3, 1) := by decide +kernel
theorem dK_setCrossOf_2 : decode bK_setCrossOf 2 = .ok (.iload_n 3, 1) := by decide +kernel
theorem dK_setCrossOf_3 : decode bK_setCrossOf 3 = .ok (.iconst 3, 1) := by decide +kernel
theorem dK_setCrossOf_4 : decode bK_setCrossOf 4 = .ok (.if_icmp .ge 41, 3) := by decide +kernel
theorem dK_setCrossOf_7 : decode bK_setCrossOf 7 = .ok (.aload_n 0, 1) := by decide +kernel
theorem dK_setCrossOf_8 : decode bK_setCrossOf 8 = .ok (.getfield 33, 3) := by decide +kernel
theorem dK_setCrossOf_11 : decode bK_setCrossOf 11 = .ok (.iload_n 3, 1) := by decide +kernel
theorem dK_setCrossOf_12 : decode bK_setCrossOf 12 = .ok (.aload_n 0, 1) := by decide +kernel
theorem dK_setCrossOf_13 : decode bK_setCrossOf 13 = .ok (.getfield 17, 3) := by decide +kernel
theorem dK_setCrossOf_16 : decode bK_setCrossOf 16 = .ok (.aload_n 0, 1) := by decide +kernel
theorem dK_setCrossOf_17 : decode bK_setCrossOf 17 = .ok (.getfield 20, 3) := by decide +kernel
theorem dK_setCrossOf_20 : decode bK_setCrossOf 20 = .ok (.iload_n 1, 1) := by decide +kernel
theorem dK_setCrossOf_21 : decode bK_setCrossOf 21 = .ok (.iaload, 1) := by decide +kernel
theorem dK_setCrossOf_22 : decode bK_setCrossOf 22 = .ok (.aaload, 1) := by decide +kernel
theorem dK_setCrossOf_23 : decode bK_setCrossOf 23 = .ok (.aload_n 0, 1) := by decide +kernel
theorem dK_setCrossOf_24 : decode bK_setCrossOf 24 = .ok (.getfield 17, 3) := by decide +kernel
theorem dK_setCrossOf_27 : decode bK_setCrossOf 27 = .ok (.aload_n 0, 1) := by decide +kernel
theorem dK_setCrossOf_28 : decode bK_setCrossOf 28 = .ok (.getfield 20, 3) := by decide +kernel
theorem dK_setCrossOf_31 : decode bK_setCrossOf 31 = .ok (.iload_n 2, 1) := by decide +kernel
theorem dK_setCrossOf_32 : decode bK_setCrossOf 32 = .ok (.iaload, 1) := by decide +kernel
theorem dK_setCrossOf_33 : decode bK_setCrossOf 33 = .ok (.aaload, 1) := by decide +kernel
theorem dK_setCrossOf_34 : decode bK_setCrossOf 34 = .ok (.iload_n 3, 1) := by decide +kernel
theorem dK_setCrossOf_35 : decode bK_setCrossOf 35 = .ok (.invokestatic 111, 3) := by decide +kernel
theorem dK_setCrossOf_38 : decode bK_setCrossOf 38 = .ok (.lastore, 1) := by decide +kernel
theorem dK_setCrossOf_39 : decode bK_setCrossOf 39 = .ok (.iinc 3 1, 3) := by decide +kernel
theorem dK_setCrossOf_42 : decode bK_setCrossOf 42 = .ok (.goto (-40), 3) := by decide +kernel
theorem dK_setCrossOf_45 : decode bK_setCrossOf 45 = .ok (.return_, 1) := by decide +kernel
theorem dK_cross_0 : decode bK_cross 0 = .ok (.iload_n 2, 1) := by decide +kernel
theorem dK_cross_1 : decode bK_cross 1 = .ok (.iconst 2, 1) := by decide +kernel
theorem dK_cross_2 : decode bK_cross 2 = .ok (.if_icmp .ge 9, 3) := by decide +kernel
theorem dK_cross_5 : decode bK_cross 5 = .ok (.iload_n 2, 1) := by decide +kernel
theorem dK_cross_6 : decode bK_cross 6 = .ok (.iconst 1, 1) := by decide +kernel
theorem dK_cross_7 : decode bK_cross 7 = .ok (.iadd, 1) := by decide +kernel
theorem dK_cross_8 : decode bK_cross 8 = .ok (.goto 4, 3) := by decide +kernel
theorem dK_cross_11 : decode bK_cross 11 = .ok (.iconst 0, 1) := by decide +kernel
theorem dK_cross_12 : decode bK_cross 12 = .ok (.istore_n 3, 1) := by decide +kernel
theorem dK_cross_13 : decode bK_cross 13 = .ok (.iload_n 3, 1) := by decide +kernel
theorem dK_cross_14 : decode bK_cross 14 = .ok (.iconst 2, 1) := by decide +kernel
theorem dK_cross_15 : decode bK_cross 15 = .ok (.if_icmp .ge 9, 3) := by decide +kernel
theorem dK_cross_18 : decode bK_cross 18 = .ok (.iload_n 3, 1) := by decide +kernel
theorem dK_cross_19 : decode bK_cross 19 = .ok (.iconst 1, 1) := by decide +kernel
theorem dK_cross_20 : decode bK_cross 20 = .ok (.iadd, 1) := by decide +kernel
theorem dK_cross_21 : decode bK_cross 21 = .ok (.goto 4, 3) := by decide +kernel
theorem dK_cross_24 : decode bK_cross 24 = .ok (.iconst 0, 1) := by decide +kernel
theorem dK_cross_25 : decode bK_cross 25 = .ok (.istore 4, 2) := by decide +kernel
theorem dK_cross_27 : decode bK_cross 27 = .ok (.aload_n 0, 1) := by decide +kernel
theorem dK_cross_28 : decode bK_cross 28 = .ok (.iload_n 3, 1) := by decide +kernel
theorem dK_cross_29 : decode bK_cross 29 = .ok (.iaload, 1) := by decide +kernel
theorem dK_cross_30 : decode bK_cross 30 = .ok (.aload_n 1, 1) := by decide +kernel
theorem dK_cross_31 : decode bK_cross 31 = .ok (.iload 4, 2) := by decide +kernel
theorem dK_cross_33 : decode bK_cross 33 = .ok (.iaload, 1) := by decide +kernel
theorem dK_cross_34 : decode bK_cross 34 = .ok (.imul, 1) := by decide +kernel
theorem dK_cross_35 : decode bK_cross 35 = .ok (.aload_n 0, 1) := by decide +kernel
theorem dK_cross_36 : decode bK_cross 36 = .ok (.iload 4, 2) := by decide +kernel
theorem dK_cross_38 : decode bK_cross 38 = .ok (.iaload, 1) := by decide +kernel
theorem dK_cross_39 : decode bK_cross 39 = .ok (.aload_n 1, 1) := by decide +kernel
theorem dK_cross_40 : decode bK_cross 40 = .ok (.iload_n 3, 1) := by decide +kernel
theorem dK_cross_41 : decode bK_cross 41 = .ok (.iaload, 1) := by decide +kernel
theorem dK_cross_42 : decode bK_cross 42 = .ok (.imul, 1) := by decide +kernel
theorem dK_cross_43 : decode bK_cross 43 = .ok (.isub, 1) := by decide +kernel
theorem dK_cross_44 : decode bK_cross 44 = .ok (.i2l, 1) := by decide +kernel
theorem dK_cross_45 : decode bK_cross 45 = .ok (.lreturn, 1) := by decide +kernel
theorem dK_offer_0 : decode bK_offer 0 = .ok (.aload_n 0, 1) := by decide +kernel
theorem dK_offer_1 : decode bK_offer 1 = .ok (.getfield 40, 3) := by decide +kernel
theorem dK_offer_4 : decode bK_offer 4 = .ok (.aload_n 0, 1) := by decide +kernel
theorem dK_offer_5 : decode bK_offer 5 = .ok (.getfield 40, 3) := by decide +kernel
theorem dK_offer_8 : decode bK_offer 8 = .ok (.aload_n 0, 1) := by decide +kernel
theorem dK_offer_9 : decode bK_offer 9 = .ok (.getfield 44, 3) := by decide +kernel
theorem dK_offer_12 : decode bK_offer 12 = .ok (.getfield 126, 3) := by decide +kernel
theorem dK_offer_15 : decode bK_offer 15 = .ok (.invokevirtual 129, 3) := by decide +kernel
theorem dK_offer_18 : decode bK_offer 18 = .ok (.putfield 133, 3) := by decide +kernel
theorem dK_offer_21 : decode bK_offer 21 = .ok (.aload_n 0, 1) := by decide +kernel
theorem dK_offer_22 : decode bK_offer 22 = .ok (.getfield 40, 3) := by decide +kernel
theorem dK_offer_25 : decode bK_offer 25 = .ok (.aload_n 1, 1) := by decide +kernel
theorem dK_offer_26 : decode bK_offer 26 = .ok (.invokevirtual 135, 3) := by decide +kernel
theorem dK_offer_29 : decode bK_offer 29 = .ok (.ifCond .eq 11, 3) := by decide +kernel
theorem dK_offer_32 : decode bK_offer 32 = .ok (.aload_n 1, 1) := by decide +kernel
theorem dK_offer_33 : decode bK_offer 33 = .ok (.aload_n 0, 1) := by decide +kernel
theorem dK_offer_34 : decode bK_offer 34 = .ok (.getfield 40, 3) := by decide +kernel
theorem dK_offer_37 : decode bK_offer 37 = .ok (.invokevirtual 139, 3) := by decide +kernel
theorem dK_offer_40 : decode bK_offer 40 = .ok (.return_, 1) := by decide +kernel
theorem dE_init_0 : decode bE_init 0 = .ok (.aload_n 0, 1) := by decide +kernel
theorem dE_init_1 : decode bE_init 1 = .ok (.invokespecial 3, 3) := by decide +kernel
theorem dE_init_4 : decode bE_init 4 = .ok (.aload_n 0, 1) := by decide +kernel
theorem dE_init_5 : decode bE_init 5 = .ok (.aload_n 1, 1) := by decide +kernel
theorem dE_init_6 : decode bE_init 6 = .ok (.putfield 9, 3) := by decide +kernel
theorem dE_init_9 : decode bE_init 9 = .ok (.aload_n 0, 1) := by decide +kernel
theorem dE_init_10 : decode bE_init 10 = .ok (.new 15, 3) := by decide +kernel
theorem dE_init_13 : decode bE_init 13 = .ok (.dup, 1) := by decide +kernel
theorem dE_init_14 : decode bE_init 14 = .ok (.aload_n 1, 1) := by decide +kernel
theorem dE_init_15 : decode bE_init 15 = .ok (.invokespecial 17, 3) := by decide +kernel
theorem dE_init_18 : decode bE_init 18 = .ok (.putfield 20, 3) := by decide +kernel
theorem dE_init_21 : decode bE_init 21 = .ok (.aload_n 0, 1) := by decide +kernel
theorem dE_init_22 : decode bE_init 22 = .ok (.new 24, 3) := by decide +kernel
theorem dE_init_25 : decode bE_init 25 = .ok (.dup, 1) := by decide +kernel
theorem dE_init_26 : decode bE_init 26 = .ok (.aload_n 1, 1) := by decide +kernel
theorem dE_init_27 : decode bE_init 27 = .ok (.aload_n 0, 1) := by decide +kernel
theorem dE_init_28 : decode bE_init 28 = .ok (.getfield 20, 3) := by decide +kernel
theorem dE_init_31 : decode bE_init 31 = .ok (.invokespecial 26, 3) := by decide +kernel
theorem dE_init_34 : decode bE_init 34 = .ok (.putfield 29, 3) := by decide +kernel
theorem dE_init_37 : decode bE_init 37 = .ok (.return_, 1) := by decide +kernel
theorem dE_begin_0 : decode bE_begin 0 = .ok (.aload_n 0, 1) := by decide +kernel
theorem dE_begin_1 : decode bE_begin 1 = .ok (.getfield 20, 3) := by decide +kernel
theorem dE_begin_4 : decode bE_begin 4 = .ok (.iload_n 1, 1) := by decide +kernel
theorem dE_begin_5 : decode bE_begin 5 = .ok (.invokevirtual 33, 3) := by decide +kernel
theorem dE_begin_8 : decode bE_begin 8 = .ok (.aload_n 0, 1) := by decide +kernel
theorem dE_begin_9 : decode bE_begin 9 = .ok (.getfield 29, 3) := by decide +kernel
theorem dE_begin_12 : decode bE_begin 12 = .ok (.invokevirtual 37, 3) := by decide +kernel
theorem dE_begin_15 : decode bE_begin 15 = .ok (.return_, 1) := by decide +kernel
theorem dE_findBest_0 : decode bE_findBest 0 = .ok (.aload_n 0, 1) := by decide +kernel
theorem dE_findBest_1 : decode bE_findBest 1 = .ok (.iload_n 1, 1) := by decide +kernel
theorem dE_findBest_2 : decode bE_findBest 2 = .ok (.invokevirtual 40, 3) := by decide +kernel
theorem dE_findBest_5 : decode bE_findBest 5 = .ok (.aload_n 2, 1) := by decide +kernel
theorem dE_findBest_6 : decode bE_findBest 6 = .ok (.invokevirtual 43, 3) := by decide +kernel
theorem dE_findBest_9 : decode bE_findBest 9 = .ok (.aload_n 0, 1) := by decide +kernel
theorem dE_findBest_10 : decode bE_findBest 10 = .ok (.iconst 0, 1) := by decide +kernel
theorem dE_findBest_11 : decode bE_findBest 11 = .ok (.aload_n 0, 1) := by decide +kernel
theorem dE_findBest_12 : decode bE_findBest 12 = .ok (.getfield 20, 3) := by decide +kernel
theorem dE_findBest_15 : decode bE_findBest 15 = .ok (.getfield 48, 3) := by decide +kernel
theorem dE_findBest_18 : decode bE_findBest 18 = .ok (.aload_n 2, 1) := by decide +kernel
theorem dE_findBest_19 : decode bE_findBest 19 = .ok (.invokestatic 52, 3) := by decide +kernel
theorem dE_findBest_22 : decode bE_findBest 22 = .ok (.aload_n 2, 1) := by decide +kernel
theorem dE_findBest_23 : decode bE_findBest 23 = .ok (.invokevirtual 56, 3) := by decide +kernel
theorem dE_findBest_26 : decode bE_findBest 26 = .ok (.ifCond .ne 7, 3) := by decide +kernel
theorem dE_findBest_29 : decode bE_findBest 29 = .ok (.iconst 1, 1) := by decide +kernel
theorem dE_findBest_30 : decode bE_findBest 30 = .ok (.goto 4, 3) := by decide +kernel
theorem dE_findBest_33 : decode bE_findBest 33 = .ok (.iconst 0, 1) := by decide +kernel
theorem dE_findBest_34 : decode bE_findBest 34 = .ok (.ireturn, 1) := by decide +kernel
theorem dE_fillFromSilos_0 : decode bE_fillFromSilos 0 = .ok (.iload_n 1, 1) := by decide +kernel
theorem dE_fillFromSilos_1 : decode bE_fillFromSilos 1 = .ok (.aload_n 0, 1) := by decide +kernel
theorem dE_fillFromSilos_2 : decode bE_fillFromSilos 2 = .ok (.getfield 9, 3) := by decide +kernel
theorem dE_fillFromSilos_5 : decode bE_fillFromSilos 5 = .ok (.getfield 60, 3) := by decide +kernel
theorem dE_fillFromSilos_8 : decode bE_fillFromSilos 8 = .ok (.if_icmp .ge 8, 3) := by decide +kernel
theorem dE_fillFromSilos_11 : decode bE_fillFromSilos 11 = .ok (.iload_n 1, 1) := by decide +kernel
theorem dE_fillFromSilos_12 : decode bE_fillFromSilos 12 = .ok (.iconst 4, 1) := by decide +kernel
theorem dE_fillFromSilos_13 : decode bE_fillFromSilos 13 = .ok (.if_icmp .lt 13, 3) := by decide +kernel
theorem dE_fillFromSilos_16 : decode bE_fillFromSilos 16 = .ok (.aload_n 0, 1) := by decide +kernel
theorem dE_fillFromSilos_17 : decode bE_fillFromSilos 17 = .ok (.getfield 29, 3) := by decide +kernel
theorem dE_fillFromSilos_20 : decode bE_fillFromSilos 20 = .ok (.aload_n 3, 1) := by decide +kernel
theorem dE_fillFromSilos_21 : decode bE_fillFromSilos 21 = .ok (.invokevirtual 65, 3) := by decide +kernel
theorem dE_fillFromSilos_24 : decode bE_fillFromSilos 24 = .ok (.pop, 1) := by decide +kernel
theorem dE_fillFromSilos_25 : decode bE_fillFromSilos 25 = .ok (.return_, 1) := by decide +kernel
theorem dE_fillFromSilos_26 : decode bE_fillFromSilos 26 = .ok (.bipush 10, 2) := by decide +kernel
theorem dE_fillFromSilos_28 : decode bE_fillFromSilos 28 = .ok (.aload_n 0, 1) := by decide +kernel
theorem dE_fillFromSilos_29 : decode bE_fillFromSilos 29 = .ok (.getfield 9, 3) := by decide +kernel
theorem dE_fillFromSilos_32 : decode bE_fillFromSilos 32 = .ok (.getfield 69, 3) := by decide +kernel
theorem dE_fillFromSilos_35 : decode bE_fillFromSilos 35 = .ok (.iload_n 1, 1) := by decide +kernel
theorem dE_fillFromSilos_36 : decode bE_fillFromSilos 36 = .ok (.iaload, 1) := by decide +kernel
theorem dE_fillFromSilos_37 : decode bE_fillFromSilos 37 = .ok (.imul, 1) := by decide +kernel
theorem dE_fillFromSilos_38 : decode bE_fillFromSilos 38 = .ok (.istore 4, 2) := by decide +kernel
theorem dE_fillFromSilos_40 : decode bE_fillFromSilos 40 = .ok (.iload 4, 2) := by decide +kernel
theorem dE_fillFromSilos_42 : decode bE_fillFromSilos 42 = .ok (.ifCond .gt 13, 3) := by decide +kernel
theorem dE_fillFromSilos_45 : decode bE_fillFromSilos 45 = .ok (.aload_n 0, 1) := by decide +kernel
theorem dE_fillFromSilos_46 : decode bE_fillFromSilos 46 = .ok (.iload_n 1, 1) := by decide +kernel
theorem dE_fillFromSilos_47 : decode bE_fillFromSilos 47 = .ok (.iconst 1, 1) := by decide +kernel
theorem dE_fillFromSilos_48 : decode bE_fillFromSilos 48 = .ok (.iadd, 1) := by decide +kernel
theorem dE_fillFromSilos_49 : decode bE_fillFromSilos 49 = .ok (.iload_n 2, 1) := by decide +kernel
theorem dE_fillFromSilos_50 : decode bE_fillFromSilos 50 = .ok (.aload_n 3, 1) := by decide +kernel
theorem dE_fillFromSilos_51 : decode bE_fillFromSilos 51 = .ok (.invokestatic 52, 3) := by decide +kernel
theorem dE_fillFromSilos_54 : decode bE_fillFromSilos 54 = .ok (.return_, 1) := by decide +kernel
theorem dE_fillFromSilos_55 : decode bE_fillFromSilos 55 = .ok (.aload_n 0, 1) := by decide +kernel
theorem dE_fillFromSilos_56 : decode bE_fillFromSilos 56 = .ok (.getfield 20, 3) := by decide +kernel
theorem dE_fillFromSilos_59 : decode bE_fillFromSilos 59 = .ok (.astore 5, 2) := by decide +kernel
theorem dE_fillFromSilos_61 : decode bE_fillFromSilos 61 = .ok (.aload 5, 2) := by decide +kernel
theorem dE_fillFromSilos_63 : decode bE_fillFromSilos 63 = .ok (.getfield 73, 3) := by decide +kernel
theorem dE_fillFromSilos_66 : decode bE_fillFromSilos 66 = .ok (.iload_n 1, 1) := by decide +kernel
theorem dE_fillFromSilos_67 : decode bE_fillFromSilos 67 = .ok (.iaload, 1) := by decide +kernel
theorem dE_fillFromSilos_68 : decode bE_fillFromSilos 68 = .ok (.istore 6, 2) := by decide +kernel
theorem dE_fillFromSilos_70 : decode bE_fillFromSilos 70 = .ok (.aload 5, 2) := by decide +kernel
theorem dE_fillFromSilos_72 : decode bE_fillFromSilos 72 = .ok (.getfield 76, 3) := by decide +kernel
theorem dE_fillFromSilos_75 : decode bE_fillFromSilos 75 = .ok (.iload_n 1, 1) := by decide +kernel
theorem dE_fillFromSilos_76 : decode bE_fillFromSilos 76 = .ok (.iaload, 1) := by decide +kernel
theorem dE_fillFromSilos_77 : decode bE_fillFromSilos 77 = .ok (.istore 7, 2) := by decide +kernel
theorem dE_fillFromSilos_79 : decode bE_fillFromSilos 79 = .ok (.iconst 0, 1) := by decide +kernel
theorem dE_fillFromSilos_80 : decode bE_fillFromSilos 80 = .ok (.istore 8, 2) := by decide +kernel
theorem dE_fillFromSilos_82 : decode bE_fillFromSilos 82 = .ok (.iload 8, 2) := by decide +kernel
theorem dE_fillFromSilos_84 : decode bE_fillFromSilos 84 = .ok (.iload_n 2, 1) := by decide +kernel
theorem dE_fillFromSilos_85 : decode bE_fillFromSilos 85 = .ok (.if_icmp .gt 57, 3) := by decide +kernel
theorem dE_fillFromSilos_88 : decode bE_fillFromSilos 88 = .ok (.iload 8, 2) := by decide +kernel
theorem dE_fillFromSilos_90 : decode bE_fillFromSilos 90 = .ok (.iload 7, 2) := by decide +kernel
theorem dE_fillFromSilos_92 : decode bE_fillFromSilos 92 = .ok (.if_icmp .gt 50, 3) := by decide +kernel
theorem dE_fillFromSilos_95 : decode bE_fillFromSilos 95 = .ok (.iload 8, 2) := by decide +kernel
theorem dE_fillFromSilos_97 : decode bE_fillFromSilos 97 = .ok (.iload 6, 2) := by decide +kernel
theorem dE_fillFromSilos_99 : decode bE_fillFromSilos 99 = .ok (.if_icmp .lt 33, 3) := by decide +kernel
theorem dE_fillFromSilos_102 : decode bE_fillFromSilos 102 = .ok (.aload 5, 2) := by decide +kernel
theorem dE_fillFromSilos_104 : decode bE_fillFromSilos 104 = .ok (.getfield 73, 3) := by decide +kernel
theorem dE_fillFromSilos_107 : decode bE_fillFromSilos 107 = .ok (.iload_n 1, 1) := by decide +kernel
theorem dE_fillFromSilos_108 : decode bE_fillFromSilos 108 = .ok (.iload 8, 2) := by decide +kernel
theorem dE_fillFromSilos_110 : decode bE_fillFromSilos 110 = .ok (.iastore, 1) := by decide +kernel
theorem dE_fillFromSilos_111 : decode bE_fillFromSilos 111 = .ok (.aload 5, 2) := by decide +kernel
theorem dE_fillFromSilos_113 : decode bE_fillFromSilos 113 = .ok (.getfield 76, 3) := by decide +kernel
theorem dE_fillFromSilos_116 : decode bE_fillFromSilos 116 = .ok (.iload_n 1, 1) := by decide +kernel
theorem dE_fillFromSilos_117 : decode bE_fillFromSilos 117 = .ok (.iload 8, 2) := by decide +kernel
theorem dE_fillFromSilos_119 : decode bE_fillFromSilos 119 = .ok (.iastore, 1) := by decide +kernel
theorem dE_fillFromSilos_120 : decode bE_fillFromSilos 120 = .ok (.aload_n 0, 1) := by decide +kernel
theorem dE_fillFromSilos_121 : decode bE_fillFromSilos 121 = .ok (.iload_n 1, 1) := by decide +kernel
theorem dE_fillFromSilos_122 : decode bE_fillFromSilos 122 = .ok (.iconst 1, 1) := by decide +kernel
theorem dE_fillFromSilos_123 : decode bE_fillFromSilos 123 = .ok (.iadd, 1) := by decide +kernel
theorem dE_fillFromSilos_124 : decode bE_fillFromSilos 124 = .ok (.iload_n 2, 1) := by decide +kernel
theorem dE_fillFromSilos_125 : decode bE_fillFromSilos 125 = .ok (.iload 8, 2) := by decide +kernel
theorem dE_fillFromSilos_127 : decode bE_fillFromSilos 127 = .ok (.isub, 1) := by decide +kernel
theorem dE_fillFromSilos_128 : decode bE_fillFromSilos 128 = .ok (.aload_n 3, 1) := by decide +kernel
theorem dE_fillFromSilos_129 : decode bE_fillFromSilos 129 = .ok (.invokestatic 52, 3) := by decide +kernel
theorem dE_fillFromSilos_132 : decode bE_fillFromSilos 132 = .ok (.iload 8, 2) := by decide +kernel
theorem dE_fillFromSilos_134 : decode bE_fillFromSilos 134 = .ok (.iload 4, 2) := by decide +kernel
theorem dE_fillFromSilos_136 : decode bE_fillFromSilos 136 = .ok (.iadd, 1) := by decide +kernel
theorem dE_fillFromSilos_137 : decode bE_fillFromSilos 137 = .ok (.istore 8, 2) := by decide +kernel
theorem dE_fillFromSilos_139 : decode bE_fillFromSilos 139 = .ok (.goto (-57), 3) := by decide +kernel
theorem dE_fillFromSilos_142 : decode bE_fillFromSilos 142 = .ok (.aload 5, 2) := by decide +kernel
theorem dE_fillFromSilos_144 : decode bE_fillFromSilos 144 = .ok (.getfield 73, 3) := by decide +kernel
theorem dE_fillFromSilos_147 : decode bE_fillFromSilos 147 = .ok (.iload_n 1, 1) := by decide +kernel
theorem dE_fillFromSilos_148 : decode bE_fillFromSilos 148 = .ok (.iload 6, 2) := by decide +kernel
theorem dE_fillFromSilos_150 : decode bE_fillFromSilos 150 = .ok (.iastore, 1) := by decide +kernel
theorem dE_fillFromSilos_151 : decode bE_fillFromSilos 151 = .ok (.aload 5, 2) := by decide +kernel
theorem dE_fillFromSilos_153 : decode bE_fillFromSilos 153 = .ok (.getfield 76, 3) := by decide +kernel
theorem dE_fillFromSilos_156 : decode bE_fillFromSilos 156 = .ok (.iload_n 1, 1) := by decide +kernel
theorem dE_fillFromSilos_157 : decode bE_fillFromSilos 157 = .ok (.iload 7, 2) := by decide +kernel
theorem dE_fillFromSilos_159 : decode bE_fillFromSilos 159 = .ok (.iastore, 1) := by decide +kernel
theorem dE_fillFromSilos_160 : decode bE_fillFromSilos 160 = .ok (.return_, 1) := by decide +kernel
theorem dE_canKeepBounds_0 : decode bE_canKeepBounds 0 = .ok (.aload_n 0, 1) := by decide +kernel
theorem dE_canKeepBounds_1 : decode bE_canKeepBounds 1 = .ok (.iload_n 1, 1) := by decide +kernel
theorem dE_canKeepBounds_2 : decode bE_canKeepBounds 2 = .ok (.invokevirtual 40, 3) := by decide +kernel
theorem dE_canKeepBounds_5 : decode bE_canKeepBounds 5 = .ok (.aload_n 0, 1) := by decide +kernel
theorem dE_canKeepBounds_6 : decode bE_canKeepBounds 6 = .ok (.getfield 29, 3) := by decide +kernel
theorem dE_canKeepBounds_9 : decode bE_canKeepBounds 9 = .ok (.aconst_null, 1) := by decide +kernel
theorem dE_canKeepBounds_10 : decode bE_canKeepBounds 10 = .ok (.invokevirtual 65, 3) := by decide +kernel
theorem dE_canKeepBounds_13 : decode bE_canKeepBounds 13 = .ok (.ireturn, 1) := by decide +kernel
theorem dE_clashingBounds_0 : decode bE_clashingBounds 0 = .ok (.aload_n 0, 1) := by decide +kernel
theorem dE_clashingBounds_1 : decode bE_clashingBounds 1 = .ok (.iload_n 1, 1) := by decide +kernel
theorem dE_clashingBounds_2 : decode bE_clashingBounds 2 = .ok (.invokevirtual 40, 3) := by decide +kernel
theorem dE_clashingBounds_5 : decode bE_clashingBounds 5 = .ok (.iconst 0, 1) := by decide +kernel
theorem dE_clashingBounds_6 : decode bE_clashingBounds 6 = .ok (.istore_n 2, 1) := by decide +kernel
theorem dE_clashingBounds_7 : decode bE_clashingBounds 7 = .ok (.iload_n 2, 1) := by decide +kernel
theorem dE_clashingBounds_8 : decode bE_clashingBounds 8 = .ok (.bipush 18, 2) := by decide +kernel
theorem dE_clashingBounds_10 : decode bE_clashingBounds 10 = .ok (.if_icmp .ge 53, 3) := by decide +kernel
theorem dE_clashingBounds_13 : decode bE_clashingBounds 13 = .ok (.aload_n 0, 1) := by decide +kernel
theorem dE_clashingBounds_14 : decode bE_clashingBounds 14 = .ok (.getfield 20, 3) := by decide +kernel
theorem dE_clashingBounds_17 : decode bE_clashingBounds 17 = .ok (.getfield 79, 3) := by decide +kernel
theorem dE_clashingBounds_20 : decode bE_clashingBounds 20 = .ok (.iload_n 2, 1) := by decide +kernel
theorem dE_clashingBounds_21 : decode bE_clashingBounds 21 = .ok (.invokestatic 82, 3) := by decide +kernel
theorem dE_clashingBounds_24 : decode bE_clashingBounds 24 = .ok (.ifCond .eq 33, 3) := by decide +kernel
theorem dE_clashingBounds_27 : decode bE_clashingBounds 27 = .ok (.aload_n 0, 1) := by decide +kernel
theorem dE_clashingBounds_28 : decode bE_clashingBounds 28 = .ok (.getfield 20, 3) := by decide +kernel
theorem dE_clashingBounds_31 : decode bE_clashingBounds 31 = .ok (.iload_n 2, 1) := by decide +kernel
theorem dE_clashingBounds_32 : decode bE_clashingBounds 32 = .ok (.invokevirtual 86, 3) := by decide +kernel
theorem dE_clashingBounds_35 : decode bE_clashingBounds 35 = .ok (.ifCond .eq 22, 3) := by decide +kernel
theorem dE_clashingBounds_38 : decode bE_clashingBounds 38 = .ok (.aload_n 0, 1) := by decide +kernel
theorem dE_clashingBounds_39 : decode bE_clashingBounds 39 = .ok (.getfield 29, 3) := by decide +kernel
theorem dE_clashingBounds_42 : decode bE_clashingBounds 42 = .ok (.aconst_null, 1) := by decide +kernel
theorem dE_clashingBounds_43 : decode bE_clashingBounds 43 = .ok (.invokevirtual 65, 3) := by decide +kernel
theorem dE_clashingBounds_46 : decode bE_clashingBounds 46 = .ok (.ifCond .eq 11, 3) := by decide +kernel
theorem dE_clashingBounds_49 : decode bE_clashingBounds 49 = .ok (.aload_n 0, 1) := by decide +kernel
theorem dE_clashingBounds_50 : decode bE_clashingBounds 50 = .ok (.getfield 20, 3) := by decide +kernel
theorem dE_clashingBounds_53 : decode bE_clashingBounds 53 = .ok (.iload_n 2, 1) := by decide +kernel
theorem dE_clashingBounds_54 : decode bE_clashingBounds 54 = .ok (.invokevirtual 90, 3) := by decide +kernel
theorem dE_clashingBounds_57 : decode bE_clashingBounds 57 = .ok (.iinc 2 1, 3) := by decide +kernel
theorem dE_clashingBounds_60 : decode bE_clashingBounds 60 = .ok (.goto (-53), 3) := by decide +kernel
theorem dE_clashingBounds_63 : decode bE_clashingBounds 63 = .ok (.aload_n 0, 1) := by decide +kernel
theorem dE_clashingBounds_64 : decode bE_clashingBounds 64 = .ok (.getfield 20, 3) := by decide +kernel
theorem dE_clashingBounds_67 : decode bE_clashingBounds 67 = .ok (.getfield 79, 3) := by decide +kernel
theorem dE_clashingBounds_70 : decode bE_clashingBounds 70 = .ok (.ireturn, 1) := by decide +kernel
theorem dE_tightBounds_0 : decode bE_tightBounds 0 = .ok (.iconst 0, 1) := by decide +kernel
theorem dE_tightBounds_1 : decode bE_tightBounds 1 = .ok (.istore_n 2, 1) := by decide +kernel
theorem dE_tightBounds_2 : decode bE_tightBounds 2 = .ok (.iconst 0, 1) := by decide +kernel
theorem dE_tightBounds_3 : decode bE_tightBounds 3 = .ok (.istore_n 3, 1) := by decide +kernel
theorem dE_tightBounds_4 : decode bE_tightBounds 4 = .ok (.iload_n 3, 1) := by decide +kernel
theorem dE_tightBounds_5 : decode bE_tightBounds 5 = .ok (.bipush 18, 2) := by decide +kernel
theorem dE_tightBounds_7 : decode bE_tightBounds 7 = .ok (.if_icmp .ge 56, 3) := by decide +kernel
theorem dE_tightBounds_10 : decode bE_tightBounds 10 = .ok (.aload_n 0, 1) := by decide +kernel
theorem dE_tightBounds_11 : decode bE_tightBounds 11 = .ok (.getfield 20, 3) := by decide +kernel
theorem dE_tightBounds_14 : decode bE_tightBounds 14 = .ok (.iload_n 3, 1) := by decide +kernel
theorem dE_tightBounds_15 : decode bE_tightBounds 15 = .ok (.invokevirtual 93, 3) := by decide +kernel
theorem dE_tightBounds_18 : decode bE_tightBounds 18 = .ok (.ifCond .eq 39, 3) := by decide +kernel
theorem dE_tightBounds_21 : decode bE_tightBounds 21 = .ok (.aload_n 0, 1) := by decide +kernel
theorem dE_tightBounds_22 : decode bE_tightBounds 22 = .ok (.getfield 20, 3) := by decide +kernel
theorem dE_tightBounds_25 : decode bE_tightBounds 25 = .ok (.iload_n 3, 1) := by decide +kernel
theorem dE_tightBounds_26 : decode bE_tightBounds 26 = .ok (.invokestatic 96, 3) := by decide +kernel
theorem dE_tightBounds_29 : decode bE_tightBounds 29 = .ok (.aload_n 1, 1) := by decide +kernel
theorem dE_tightBounds_30 : decode bE_tightBounds 30 = .ok (.invokevirtual 100, 3) := by decide +kernel
theorem dE_tightBounds_33 : decode bE_tightBounds 33 = .ok (.aload_n 0, 1) := by decide +kernel
theorem dE_tightBounds_34 : decode bE_tightBounds 34 = .ok (.getfield 20, 3) := by decide +kernel
theorem dE_tightBounds_37 : decode bE_tightBounds 37 = .ok (.iload_n 3, 1) := by decide +kernel
theorem dE_tightBounds_38 : decode bE_tightBounds 38 = .ok (.invokevirtual 104, 3) := by decide +kernel
theorem dE_tightBounds_41 : decode bE_tightBounds 41 = .ok (.i2l, 1) := by decide +kernel
theorem dE_tightBounds_42 : decode bE_tightBounds 42 = .ok (.aload_n 1, 1) := by decide +kernel
theorem dE_tightBounds_43 : decode bE_tightBounds 43 = .ok (.getfield 107, 3) := by decide +kernel
theorem dE_tightBounds_46 : decode bE_tightBounds 46 = .ok (.lmul, 1) := by decide +kernel
theorem dE_tightBounds_47 : decode bE_tightBounds 47 = .ok (.lcmp, 1) := by decide +kernel
theorem dE_tightBounds_48 : decode bE_tightBounds 48 = .ok (.ifCond .ne 9, 3) := by decide +kernel
theorem dE_tightBounds_51 : decode bE_tightBounds 51 = .ok (.iload_n 2, 1) := by decide +kernel
theorem dE_tightBounds_52 : decode bE_tightBounds 52 = .ok (.iconst 1, 1) := by decide +kernel
theorem dE_tightBounds_53 : decode bE_tightBounds 53 = .ok (.iload_n 3, 1) := by decide +kernel
theorem dE_tightBounds_54 : decode bE_tightBounds 54 = .ok (.ishl, 1) := by decide +kernel
theorem dE_tightBounds_55 : decode bE_tightBounds 55 = .ok (.ior, 1) := by decide +kernel
theorem dE_tightBounds_56 : decode bE_tightBounds 56 = .ok (.istore_n 2, 1) := by decide +kernel
theorem dE_tightBounds_57 : decode bE_tightBounds 57 = .ok (.iinc 3 1, 3) := by decide +kernel
theorem dE_tightBounds_60 : decode bE_tightBounds 60 = .ok (.goto (-56), 3) := by decide +kernel
theorem dE_tightBounds_63 : decode bE_tightBounds 63 = .ok (.iload_n 2, 1) := by decide +kernel
theorem dE_tightBounds_64 : decode bE_tightBounds 64 = .ok (.ireturn, 1) := by decide +kernel
theorem dT_init_0 : decode bT_init 0 = .ok (.aload_n 0, 1) := by decide +kernel
theorem dT_init_1 : decode bT_init 1 = .ok (.invokespecial 3, 3) := by decide +kernel
theorem dT_init_4 : decode bT_init 4 = .ok (.aload_n 0, 1) := by decide +kernel
theorem dT_init_5 : decode bT_init 5 = .ok (.iconst 0, 1) := by decide +kernel
theorem dT_init_6 : decode bT_init 6 = .ok (.putfield 9, 3) := by decide +kernel
theorem dT_init_9 : decode bT_init 9 = .ok (.aload_n 0, 1) := by decide +kernel
theorem dT_init_10 : decode bT_init 10 = .ok (.iconst 4, 1) := by decide +kernel
theorem dT_init_11 : decode bT_init 11 = .ok (.newarray .int, 2) := by decide +kernel
theorem dT_init_13 : decode bT_init 13 = .ok (.putfield 15, 3) := by decide +kernel
theorem dT_init_16 : decode bT_init 16 = .ok (.aload_n 0, 1) := by decide +kernel
theorem dT_init_17 : decode bT_init 17 = .ok (.iconst 4, 1) := by decide +kernel
theorem dT_init_18 : decode bT_init 18 = .ok (.newarray .int, 2) := by decide +kernel
theorem dT_init_20 : decode bT_init 20 = .ok (.putfield 19, 3) := by decide +kernel
theorem dT_init_23 : decode bT_init 23 = .ok (.aload_n 0, 1) := by decide +kernel
theorem dT_init_24 : decode bT_init 24 = .ok (.iconst 4, 1) := by decide +kernel
theorem dT_init_25 : decode bT_init 25 = .ok (.newarray .int, 2) := by decide +kernel
theorem dT_init_27 : decode bT_init 27 = .ok (.putfield 22, 3) := by decide +kernel
theorem dT_init_30 : decode bT_init 30 = .ok (.aload_n 0, 1) := by decide +kernel
theorem dT_init_31 : decode bT_init 31 = .ok (.iconst 4, 1) := by decide +kernel
theorem dT_init_32 : decode bT_init 32 = .ok (.newarray .int, 2) := by decide +kernel
theorem dT_init_34 : decode bT_init 34 = .ok (.putfield 25, 3) := by decide +kernel
theorem dT_init_37 : decode bT_init 37 = .ok (.aload_n 0, 1) := by decide +kernel
theorem dT_init_38 : decode bT_init 38 = .ok (.iconst 4, 1) := by decide +kernel
theorem dT_init_39 : decode bT_init 39 = .ok (.newarray .int, 2) := by decide +kernel
theorem dT_init_41 : decode bT_init 41 = .ok (.putfield 28, 3) := by decide +kernel
theorem dT_init_44 : decode bT_init 44 = .ok (.aload_n 0, 1) := by decide +kernel
theorem dT_init_45 : decode bT_init 45 = .ok (.iconst 3, 1) := by decide +kernel
theorem dT_init_46 : decode bT_init 46 = .ok (.iconst 4, 1) := by decide +kernel
theorem dT_init_47 : decode bT_init 47 = .ok (.multianewarray 31 2, 4) := by decide +kernel
theorem dT_init_51 : decode bT_init 51 = .ok (.putfield 33, 3) := by decide +kernel
theorem dT_init_54 : decode bT_init 54 = .ok (.aload_n 0, 1) := by decide +kernel
theorem dT_init_55 : decode bT_init 55 = .ok (.iconst 3, 1) := by decide +kernel
theorem dT_init_56 : decode bT_init 56 = .ok (.newarray .int, 2) := by decide +kernel
theorem dT_init_58 : decode bT_init 58 = .ok (.putfield 36, 3) := by decide +kernel
theorem dT_init_61 : decode bT_init 61 = .ok (.aload_n 0, 1) := by decide +kernel
theorem dT_init_62 : decode bT_init 62 = .ok (.iconst 3, 1) := by decide +kernel
theorem dT_init_63 : decode bT_init 63 = .ok (.newarray .int, 2) := by decide +kernel
theorem dT_init_65 : decode bT_init 65 = .ok (.dup, 1) := by decide +kernel
theorem dT_init_66 : decode bT_init 66 = .ok (.iconst 0, 1) := by decide +kernel
theorem dT_init_67 : decode bT_init 67 = .ok (.bipush 40, 2) := by decide +kernel
theorem dT_init_69 : decode bT_init 69 = .ok (.iastore, 1) := by decide +kernel
theorem dT_init_70 : decode bT_init 70 = .ok (.dup, 1) := by decide +kernel
theorem dT_init_71 : decode bT_init 71 = .ok (.iconst 1, 1) := by decide +kernel
theorem dT_init_72 : decode bT_init 72 = .ok (.bipush 40, 2) := by decide +kernel
theorem dT_init_74 : decode bT_init 74 = .ok (.iastore, 1) := by decide +kernel
theorem dT_init_75 : decode bT_init 75 = .ok (.dup, 1) := by decide +kernel
theorem dT_init_76 : decode bT_init 76 = .ok (.iconst 2, 1) := by decide +kernel
theorem dT_init_77 : decode bT_init 77 = .ok (.bipush 40, 2) := by decide +kernel
theorem dT_init_79 : decode bT_init 79 = .ok (.iastore, 1) := by decide +kernel
theorem dT_init_80 : decode bT_init 80 = .ok (.putfield 39, 3) := by decide +kernel
theorem dT_init_83 : decode bT_init 83 = .ok (.return_, 1) := by decide +kernel
theorem dJL_compare_0 : decode bJL_compare 0 = .ok (.lload_n 0, 1) := by decide +kernel
theorem dJL_compare_1 : decode bJL_compare 1 = .ok (.lload_n 2, 1) := by decide +kernel
theorem dJL_compare_2 : decode bJL_compare 2 = .ok (.lcmp, 1) := by decide +kernel
theorem dJL_compare_3 : decode bJL_compare 3 = .ok (.ifCond .ge 7, 3) := by decide +kernel
theorem dJL_compare_6 : decode bJL_compare 6 = .ok (.iconst (-1), 1) := by decide +kernel
theorem dJL_compare_7 : decode bJL_compare 7 = .ok (.goto 14, 3) := by decide +kernel
theorem dJL_compare_10 : decode bJL_compare 10 = .ok (.lload_n 0, 1) := by decide +kernel
theorem dJL_compare_11 : decode bJL_compare 11 = .ok (.lload_n 2, 1) := by decide +kernel
theorem dJL_compare_12 : decode bJL_compare 12 = .ok (.lcmp, 1) := by decide +kernel
theorem dJL_compare_13 : decode bJL_compare 13 = .ok (.ifCond .ne 7, 3) := by decide +kernel
theorem dJL_compare_16 : decode bJL_compare 16 = .ok (.iconst 0, 1) := by decide +kernel
theorem dJL_compare_17 : decode bJL_compare 17 = .ok (.goto 4, 3) := by decide +kernel
theorem dJL_compare_20 : decode bJL_compare 20 = .ok (.iconst 1, 1) := by decide +kernel
theorem dJL_compare_21 : decode bJL_compare 21 = .ok (.ireturn, 1) := by decide +kernel
