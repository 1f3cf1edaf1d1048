abbrev tysR (cI cJ cG : ClassId) : List (ClassId × FieldType) := [(cI, .int), (cJ, .long), (cG, .boolean)]
def wsR (ad : Nat → Nat) (cI cJ cG : ClassId) (I : Nat → Nat → Int32) (J : Nat → Nat → Int64) : va_W :=
  [(ad 0, .inr (6, [.int (I 0 0), .ref (ad 1), .ref (ad 2), .ref (ad 3), .ref (ad 4), .ref (ad 5), .ref (ad 6), .ref (ad 7), .ref (ad 8), .int (I 0 9), .int (I 0 10), .int (I 0 11), .ref (ad 9), .ref (ad 10), .long (J 0 14), .long (J 0 15), .int (I 0 16), .int (I 0 17), .int (I 0 18), .int (I 0 19), .ref (ad 11), .ref (ad 12), .ref (ad 13), .int (I 0 23), .ref (ad 14), .ref (ad 15), .long (J 0 26), .ref (ad 16), .int (I 0 28), .ref (ad 17), .long (J 0 30)])),
   (ad 1, .inl (cI, 4, .inl (I 1))),
   (ad 2, .inl (cI, 4, .inl (I 2))),
   (ad 3, .inl (cI, 12, .inl (I 3))),
   (ad 4, .inl (cI, 4, .inl (I 4))),
   (ad 5, .inl (cI, 4, .inl (I 5))),
   (ad 6, .inl (cI, 4, .inl (I 6))),
   (ad 7, .inl (cI, 3, .inl (I 7))),
   (ad 8, .inl (cI, 3, .inl (I 8))),
   (ad 9, .inl (cJ, 4, .inr (.inl (J 9)))),
   (ad 10, .inl (cJ, 4, .inr (.inl (J 10)))),
   (ad 11, .inl (cG, 22, .inl (I 11))),
   (ad 12, .inl (cI, 4, .inl (I 12))),
   (ad 13, .inl (cI, 4, .inl (I 13))),
   (ad 14, .inl (cJ, 20, .inr (.inl (J 14)))),
   (ad 15, .inl (cJ, 4, .inr (.inl (J 15)))),
   (ad 16, .inl (cI, 3, .inl (I 16))),
   (ad 17, .inl (cJ, 4, .inr (.inl (J 17))))]
theorem famR_am {ad : Nat → Nat} {cI cJ cG : ClassId} {I : Nat → Nat → Int32} {J : Nat → Nat → Int64} {a : Nat} (h : a ∈ [15, 17]) : (wsR ad cI cJ cG I J)[a]? = some (ad a, .inl (cJ, 4, .inr (.inl (J a)))) := by
  simp only [List.mem_cons, List.not_mem_nil, or_false] at h
  rcases h with rfl | rfl <;> rfl
theorem dR_init_0 : decode bR_init 0 = .ok (.aload_n 0, 1) := by decide +kernel
theorem dR_init_1 : decode bR_init 1 = .ok (.invokespecial 1, 3) := by decide +kernel
theorem dR_init_4 : decode bR_init 4 = .ok (.aload_n 0, 1) := by decide +kernel
theorem dR_init_5 : decode bR_init 5 = .ok (.iconst 4, 1) := by decide +kernel
theorem dR_init_6 : decode bR_init 6 = .ok (.newarray .int, 2) := by decide +kernel
theorem dR_init_8 : decode bR_init 8 = .ok (.putfield 7, 3) := by decide +kernel
theorem dR_init_11 : decode bR_init 11 = .ok (.aload_n 0, 1) := by decide +kernel
theorem dR_init_12 : decode bR_init 12 = .ok (.iconst 4, 1) := by decide +kernel
theorem dR_init_13 : decode bR_init 13 = .ok (.newarray .int, 2) := by decide +kernel
theorem dR_init_15 : decode bR_init 15 = .ok (.putfield 13, 3) := by decide +kernel
theorem dR_init_18 : decode bR_init 18 = .ok (.aload_n 0, 1) := by decide +kernel
theorem dR_init_19 : decode bR_init 19 = .ok (.bipush 12, 2) := by decide +kernel
theorem dR_init_21 : decode bR_init 21 = .ok (.newarray .int, 2) := by decide +kernel
theorem dR_init_23 : decode bR_init 23 = .ok (.putfield 16, 3) := by decide +kernel
theorem dR_init_26 : decode bR_init 26 = .ok (.aload_n 0, 1) := by decide +kernel
theorem dR_init_27 : decode bR_init 27 = .ok (.iconst 4, 1) := by decide +kernel
theorem dR_init_28 : decode bR_init 28 = .ok (.newarray .int, 2) := by decide +kernel
theorem dR_init_30 : decode bR_init 30 = .ok (.putfield 19, 3) := by decide +kernel
theorem dR_init_33 : decode bR_init 33 = .ok (.aload_n 0, 1) := by decide +kernel
theorem dR_init_34 : decode bR_init 34 = .ok (.iconst 4, 1) := by decide +kernel
theorem dR_init_35 : decode bR_init 35 = .ok (.newarray .int, 2) := by decide +kernel
theorem dR_init_37 : decode bR_init 37 = .ok (.putfield 22, 3) := by decide +kernel
theorem dR_init_40 : decode bR_init 40 = .ok (.aload_n 0, 1) := by decide +kernel
theorem dR_init_41 : decode bR_init 41 = .ok (.iconst 4, 1) := by decide +kernel
theorem dR_init_42 : decode bR_init 42 = .ok (.newarray .int, 2) := by decide +kernel
theorem dR_init_44 : decode bR_init 44 = .ok (.putfield 25, 3) := by decide +kernel
theorem dR_init_47 : decode bR_init 47 = .ok (.aload_n 0, 1) := by decide +kernel
theorem dR_init_48 : decode bR_init 48 = .ok (.iconst 3, 1) := by decide +kernel
theorem dR_init_49 : decode bR_init 49 = .ok (.newarray .int, 2) := by decide +kernel
theorem dR_init_51 : decode bR_init 51 = .ok (.putfield 28, 3) := by decide +kernel
theorem dR_init_54 : decode bR_init 54 = .ok (.aload_n 0, 1) := by decide +kernel
theorem dR_init_55 : decode bR_init 55 = .ok (.iconst 3, 1) := by decide +kernel
theorem dR_init_56 : decode bR_init 56 = .ok (.newarray .int, 2) := by decide +kernel
theorem dR_init_58 : decode bR_init 58 = .ok (.putfield 31, 3) := by decide +kernel
theorem dR_init_61 : decode bR_init 61 = .ok (.aload_n 0, 1) := by decide +kernel
theorem dR_init_62 : decode bR_init 62 = .ok (.iconst (-1), 1) := by decide +kernel
theorem dR_init_63 : decode bR_init 63 = .ok (.putfield 34, 3) := by decide +kernel
theorem dR_init_66 : decode bR_init 66 = .ok (.aload_n 0, 1) := by decide +kernel
theorem dR_init_67 : decode bR_init 67 = .ok (.iconst 4, 1) := by decide +kernel
theorem dR_init_68 : decode bR_init 68 = .ok (.newarray .long, 2) := by decide +kernel
theorem dR_init_70 : decode bR_init 70 = .ok (.putfield 38, 3) := by decide +kernel
theorem dR_init_73 : decode bR_init 73 = .ok (.aload_n 0, 1) := by decide +kernel
theorem dR_init_74 : decode bR_init 74 = .ok (.iconst 4, 1) := by decide +kernel
theorem dR_init_75 : decode bR_init 75 = .ok (.newarray .long, 2) := by decide +kernel
theorem dR_init_77 : decode bR_init 77 = .ok (.putfield 42, 3) := by decide +kernel
theorem dR_init_80 : decode bR_init 80 = .ok (.aload_n 0, 1) := by decide +kernel
theorem dR_init_81 : decode bR_init 81 = .ok (.bipush 22, 2) := by decide +kernel
theorem dR_init_83 : decode bR_init 83 = .ok (.newarray .boolean, 2) := by decide +kernel
theorem dR_init_85 : decode bR_init 85 = .ok (.putfield 45, 3) := by decide +kernel
theorem dR_init_88 : decode bR_init 88 = .ok (.aload_n 0, 1) := by decide +kernel
theorem dR_init_89 : decode bR_init 89 = .ok (.iconst 4, 1) := by decide +kernel
theorem dR_init_90 : decode bR_init 90 = .ok (.newarray .int, 2) := by decide +kernel
theorem dR_init_92 : decode bR_init 92 = .ok (.putfield 49, 3) := by decide +kernel
theorem dR_init_95 : decode bR_init 95 = .ok (.aload_n 0, 1) := by decide +kernel
theorem dR_init_96 : decode bR_init 96 = .ok (.iconst 4, 1) := by decide +kernel
theorem dR_init_97 : decode bR_init 97 = .ok (.newarray .int, 2) := by decide +kernel
theorem dR_init_99 : decode bR_init 99 = .ok (.putfield 52, 3) := by decide +kernel
theorem dR_init_102 : decode bR_init 102 = .ok (.aload_n 0, 1) := by decide +kernel
theorem dR_init_103 : decode bR_init 103 = .ok (.bipush 20, 2) := by decide +kernel
theorem dR_init_105 : decode bR_init 105 = .ok (.newarray .long, 2) := by decide +kernel
theorem dR_init_107 : decode bR_init 107 = .ok (.putfield 55, 3) := by decide +kernel
theorem dR_init_110 : decode bR_init 110 = .ok (.aload_n 0, 1) := by decide +kernel
theorem dR_init_111 : decode bR_init 111 = .ok (.iconst 4, 1) := by decide +kernel
theorem dR_init_112 : decode bR_init 112 = .ok (.newarray .long, 2) := by decide +kernel
theorem dR_init_114 : decode bR_init 114 = .ok (.putfield 58, 3) := by decide +kernel
theorem dR_init_117 : decode bR_init 117 = .ok (.aload_n 0, 1) := by decide +kernel
theorem dR_init_118 : decode bR_init 118 = .ok (.iconst 3, 1) := by decide +kernel
theorem dR_init_119 : decode bR_init 119 = .ok (.newarray .int, 2) := by decide +kernel
theorem dR_init_121 : decode bR_init 121 = .ok (.putfield 61, 3) := by decide +kernel
theorem dR_init_124 : decode bR_init 124 = .ok (.aload_n 0, 1) := by decide +kernel
theorem dR_init_125 : decode bR_init 125 = .ok (.iconst 4, 1) := by decide +kernel
theorem dR_init_126 : decode bR_init 126 = .ok (.newarray .long, 2) := by decide +kernel
theorem dR_init_128 : decode bR_init 128 = .ok (.putfield 64, 3) := by decide +kernel
theorem dR_init_131 : decode bR_init 131 = .ok (.iconst 0, 1) := by decide +kernel
theorem dR_init_132 : decode bR_init 132 = .ok (.istore_n 1, 1) := by decide +kernel
theorem dR_init_133 : decode bR_init 133 = .ok (.iload_n 1, 1) := by decide +kernel
theorem dR_init_134 : decode bR_init 134 = .ok (.iconst 3, 1) := by decide +kernel
theorem dR_init_135 : decode bR_init 135 = .ok (.if_icmp .ge 17, 3) := by decide +kernel
theorem dR_init_138 : decode bR_init 138 = .ok (.aload_n 0, 1) := by decide +kernel
theorem dR_init_139 : decode bR_init 139 = .ok (.getfield 31, 3) := by decide +kernel
theorem dR_init_142 : decode bR_init 142 = .ok (.iload_n 1, 1) := by decide +kernel
theorem dR_init_143 : decode bR_init 143 = .ok (.bipush 40, 2) := by decide +kernel
theorem dR_init_145 : decode bR_init 145 = .ok (.iastore, 1) := by decide +kernel
theorem dR_init_146 : decode bR_init 146 = .ok (.iinc 1 1, 3) := by decide +kernel
theorem dR_init_149 : decode bR_init 149 = .ok (.goto (-16), 3) := by decide +kernel
theorem dR_init_152 : decode bR_init 152 = .ok (.return_, 1) := by decide +kernel
theorem dR_in_0 : decode bR_in 0 = .ok (.iload_n 0, 1) := by decide +kernel
theorem dR_in_1 : decode bR_in 1 = .ok (.iload_n 1, 1) := by decide +kernel
theorem dR_in_2 : decode bR_in 2 = .ok (.if_icmp .lt 12, 3) := by decide +kernel
theorem dR_in_5 : decode bR_in 5 = .ok (.iload_n 0, 1) := by decide +kernel
theorem dR_in_6 : decode bR_in 6 = .ok (.iload_n 2, 1) := by decide +kernel
theorem dR_in_7 : decode bR_in 7 = .ok (.if_icmp .gt 7, 3) := by decide +kernel
theorem dR_in_10 : decode bR_in 10 = .ok (.iconst 1, 1) := by decide +kernel
theorem dR_in_11 : decode bR_in 11 = .ok (.goto 4, 3) := by decide +kernel
theorem dR_in_14 : decode bR_in 14 = .ok (.iconst 0, 1) := by decide +kernel
theorem dR_in_15 : decode bR_in 15 = .ok (.ireturn, 1) := by decide +kernel
theorem dR_isStuff_0 : decode bR_isStuff 0 = .ok (.iload_n 1, 1) := by decide +kernel
theorem dR_isStuff_1 : decode bR_isStuff 1 = .ok (.ifCond .lt 15, 3) := by decide +kernel
theorem dR_isStuff_4 : decode bR_isStuff 4 = .ok (.iload_n 1, 1) := by decide +kernel
theorem dR_isStuff_5 : decode bR_isStuff 5 = .ok (.aload_n 0, 1) := by decide +kernel
theorem dR_isStuff_6 : decode bR_isStuff 6 = .ok (.getfield 67, 3) := by decide +kernel
theorem dR_isStuff_9 : decode bR_isStuff 9 = .ok (.if_icmp .ge 7, 3) := by decide +kernel
theorem dR_isStuff_12 : decode bR_isStuff 12 = .ok (.iconst 1, 1) := by decide +kernel
theorem dR_isStuff_13 : decode bR_isStuff 13 = .ok (.goto 4, 3) := by decide +kernel
theorem dR_isStuff_16 : decode bR_isStuff 16 = .ok (.iconst 0, 1) := by decide +kernel
theorem dR_isStuff_17 : decode bR_isStuff 17 = .ok (.ireturn, 1) := by decide +kernel
theorem dR_stuff_0 : decode bR_stuff 0 = .ok (.aload_n 0, 1) := by decide +kernel
theorem dR_stuff_1 : decode bR_stuff 1 = .ok (.getfield 67, 3) := by decide +kernel
theorem dR_stuff_4 : decode bR_stuff 4 = .ok (.iconst 4, 1) := by decide +kernel
theorem dR_stuff_5 : decode bR_stuff 5 = .ok (.if_icmp .eq 24, 3) := by decide +kernel
theorem dR_stuff_8 : decode bR_stuff 8 = .ok (.iload_n 1, 1) := by decide +kernel
theorem dR_stuff_9 : decode bR_stuff 9 = .ok (.iconst 0, 1) := by decide +kernel
theorem dR_stuff_10 : decode bR_stuff 10 = .ok (.sipush 1000, 3) := by decide +kernel
theorem dR_stuff_13 : decode bR_stuff 13 = .ok (.invokestatic 70, 3) := by decide +kernel
theorem dR_stuff_16 : decode bR_stuff 16 = .ok (.ifCond .eq 13, 3) := by decide +kernel
theorem dR_stuff_19 : decode bR_stuff 19 = .ok (.iload_n 2, 1) := by decide +kernel
theorem dR_stuff_20 : decode bR_stuff 20 = .ok (.iconst 0, 1) := by decide +kernel
theorem dR_stuff_21 : decode bR_stuff 21 = .ok (.bipush 40, 2) := by decide +kernel
theorem dR_stuff_23 : decode bR_stuff 23 = .ok (.invokestatic 70, 3) := by decide +kernel
theorem dR_stuff_26 : decode bR_stuff 26 = .ok (.ifCond .ne 5, 3) := by decide +kernel
theorem dR_stuff_29 : decode bR_stuff 29 = .ok (.iconst (-1), 1) := by decide +kernel
theorem dR_stuff_30 : decode bR_stuff 30 = .ok (.ireturn, 1) := by decide +kernel
theorem dR_stuff_31 : decode bR_stuff 31 = .ok (.aload_n 0, 1) := by decide +kernel
theorem dR_stuff_32 : decode bR_stuff 32 = .ok (.getfield 7, 3) := by decide +kernel
theorem dR_stuff_35 : decode bR_stuff 35 = .ok (.aload_n 0, 1) := by decide +kernel
theorem dR_stuff_36 : decode bR_stuff 36 = .ok (.getfield 67, 3) := by decide +kernel
theorem dR_stuff_39 : decode bR_stuff 39 = .ok (.iload_n 1, 1) := by decide +kernel
theorem dR_stuff_40 : decode bR_stuff 40 = .ok (.iastore, 1) := by decide +kernel
theorem dR_stuff_41 : decode bR_stuff 41 = .ok (.aload_n 0, 1) := by decide +kernel
theorem dR_stuff_42 : decode bR_stuff 42 = .ok (.getfield 13, 3) := by decide +kernel
theorem dR_stuff_45 : decode bR_stuff 45 = .ok (.aload_n 0, 1) := by decide +kernel
theorem dR_stuff_46 : decode bR_stuff 46 = .ok (.getfield 67, 3) := by decide +kernel
theorem dR_stuff_49 : decode bR_stuff 49 = .ok (.iload_n 2, 1) := by decide +kernel
theorem dR_stuff_50 : decode bR_stuff 50 = .ok (.iastore, 1) := by decide +kernel
theorem dR_stuff_51 : decode bR_stuff 51 = .ok (.aload_n 0, 1) := by decide +kernel
theorem dR_stuff_52 : decode bR_stuff 52 = .ok (.getfield 22, 3) := by decide +kernel
theorem dR_stuff_55 : decode bR_stuff 55 = .ok (.aload_n 0, 1) := by decide +kernel
theorem dR_stuff_56 : decode bR_stuff 56 = .ok (.getfield 67, 3) := by decide +kernel
theorem dR_stuff_59 : decode bR_stuff 59 = .ok (.bipush 10, 2) := by decide +kernel
theorem dR_stuff_61 : decode bR_stuff 61 = .ok (.iastore, 1) := by decide +kernel
theorem dR_stuff_62 : decode bR_stuff 62 = .ok (.aload_n 0, 1) := by decide +kernel
theorem dR_stuff_63 : decode bR_stuff 63 = .ok (.dup, 1) := by decide +kernel
theorem dR_stuff_64 : decode bR_stuff 64 = .ok (.getfield 67, 3) := by decide +kernel
theorem dR_stuff_67 : decode bR_stuff 67 = .ok (.iconst 1, 1) := by decide +kernel
theorem dR_stuff_68 : decode bR_stuff 68 = .ok (.iadd, 1) := by decide +kernel
theorem dR_stuff_69 : decode bR_stuff 69 = .ok (.putfield 67, 3) := by decide +kernel
theorem dR_stuff_72 : decode bR_stuff 72 = .ok (.aload_n 0, 1) := by decide +kernel
theorem dR_stuff_73 : decode bR_stuff 73 = .ok (.getfield 67, 3) := by decide +kernel
theorem dR_stuff_76 : decode bR_stuff 76 = .ok (.iconst 1, 1) := by decide +kernel
theorem dR_stuff_77 : decode bR_stuff 77 = .ok (.isub, 1) := by decide +kernel
theorem dR_stuff_78 : decode bR_stuff 78 = .ok (.ireturn, 1) := by decide +kernel
theorem dR_price_0 : decode bR_price 0 = .ok (.aload_n 0, 1) := by decide +kernel
theorem dR_price_1 : decode bR_price 1 = .ok (.iload_n 1, 1) := by decide +kernel
theorem dR_price_2 : decode bR_price 2 = .ok (.invokevirtual 74, 3) := by decide +kernel
theorem dR_price_5 : decode bR_price 5 = .ok (.ifCond .eq 14, 3) := by decide +kernel
theorem dR_price_8 : decode bR_price 8 = .ok (.iload_n 2, 1) := by decide +kernel
theorem dR_price_9 : decode bR_price 9 = .ok (.iconst 0, 1) := by decide +kernel
theorem dR_price_10 : decode bR_price 10 = .ok (.sipush 1000, 3) := by decide +kernel
theorem dR_price_13 : decode bR_price 13 = .ok (.invokestatic 70, 3) := by decide +kernel
theorem dR_price_16 : decode bR_price 16 = .ok (.ifCond .ne 5, 3) := by decide +kernel
theorem dR_price_19 : decode bR_price 19 = .ok (.iconst (-1), 1) := by decide +kernel
theorem dR_price_20 : decode bR_price 20 = .ok (.ireturn, 1) := by decide +kernel
theorem dR_price_21 : decode bR_price 21 = .ok (.aload_n 0, 1) := by decide +kernel
theorem dR_price_22 : decode bR_price 22 = .ok (.getfield 7, 3) := by decide +kernel
theorem dR_price_25 : decode bR_price 25 = .ok (.iload_n 1, 1) := by decide +kernel
theorem dR_price_26 : decode bR_price 26 = .ok (.iaload, 1) := by decide +kernel
theorem dR_price_27 : decode bR_price 27 = .ok (.istore_n 3, 1) := by decide +kernel
theorem dR_price_28 : decode bR_price 28 = .ok (.aload_n 0, 1) := by decide +kernel
theorem dR_price_29 : decode bR_price 29 = .ok (.getfield 7, 3) := by decide +kernel
theorem dR_price_32 : decode bR_price 32 = .ok (.iload_n 1, 1) := by decide +kernel
theorem dR_price_33 : decode bR_price 33 = .ok (.iload_n 2, 1) := by decide +kernel
theorem dR_price_34 : decode bR_price 34 = .ok (.iastore, 1) := by decide +kernel
theorem dR_price_35 : decode bR_price 35 = .ok (.iload_n 3, 1) := by decide +kernel
theorem dR_price_36 : decode bR_price 36 = .ok (.ireturn, 1) := by decide +kernel
theorem dR_stock_0 : decode bR_stock 0 = .ok (.aload_n 0, 1) := by decide +kernel
theorem dR_stock_1 : decode bR_stock 1 = .ok (.iload_n 1, 1) := by decide +kernel
theorem dR_stock_2 : decode bR_stock 2 = .ok (.invokevirtual 74, 3) := by decide +kernel
theorem dR_stock_5 : decode bR_stock 5 = .ok (.ifCond .eq 13, 3) := by decide +kernel
theorem dR_stock_8 : decode bR_stock 8 = .ok (.iload_n 2, 1) := by decide +kernel
theorem dR_stock_9 : decode bR_stock 9 = .ok (.iconst 0, 1) := by decide +kernel
theorem dR_stock_10 : decode bR_stock 10 = .ok (.bipush 40, 2) := by decide +kernel
theorem dR_stock_12 : decode bR_stock 12 = .ok (.invokestatic 70, 3) := by decide +kernel
theorem dR_stock_15 : decode bR_stock 15 = .ok (.ifCond .ne 5, 3) := by decide +kernel
theorem dR_stock_18 : decode bR_stock 18 = .ok (.iconst (-1), 1) := by decide +kernel
theorem dR_stock_19 : decode bR_stock 19 = .ok (.ireturn, 1) := by decide +kernel
theorem dR_stock_20 : decode bR_stock 20 = .ok (.aload_n 0, 1) := by decide +kernel
theorem dR_stock_21 : decode bR_stock 21 = .ok (.getfield 13, 3) := by decide +kernel
theorem dR_stock_24 : decode bR_stock 24 = .ok (.iload_n 1, 1) := by decide +kernel
theorem dR_stock_25 : decode bR_stock 25 = .ok (.iaload, 1) := by decide +kernel
theorem dR_stock_26 : decode bR_stock 26 = .ok (.istore_n 3, 1) := by decide +kernel
theorem dR_stock_27 : decode bR_stock 27 = .ok (.aload_n 0, 1) := by decide +kernel
theorem dR_stock_28 : decode bR_stock 28 = .ok (.getfield 13, 3) := by decide +kernel
theorem dR_stock_31 : decode bR_stock 31 = .ok (.iload_n 1, 1) := by decide +kernel
theorem dR_stock_32 : decode bR_stock 32 = .ok (.iload_n 2, 1) := by decide +kernel
theorem dR_stock_33 : decode bR_stock 33 = .ok (.iastore, 1) := by decide +kernel
theorem dR_stock_34 : decode bR_stock 34 = .ok (.iload_n 3, 1) := by decide +kernel
theorem dR_stock_35 : decode bR_stock 35 = .ok (.ireturn, 1) := by decide +kernel
theorem dR_holds_0 : decode bR_holds 0 = .ok (.aload_n 0, 1) := by decide +kernel
theorem dR_holds_1 : decode bR_holds 1 = .ok (.iload_n 1, 1) := by decide +kernel
theorem dR_holds_2 : decode bR_holds 2 = .ok (.invokevirtual 74, 3) := by decide +kernel
theorem dR_holds_5 : decode bR_holds 5 = .ok (.ifCond .eq 22, 3) := by decide +kernel
theorem dR_holds_8 : decode bR_holds 8 = .ok (.iload_n 2, 1) := by decide +kernel
theorem dR_holds_9 : decode bR_holds 9 = .ok (.iconst 0, 1) := by decide +kernel
theorem dR_holds_10 : decode bR_holds 10 = .ok (.iconst 2, 1) := by decide +kernel
theorem dR_holds_11 : decode bR_holds 11 = .ok (.invokestatic 70, 3) := by decide +kernel
theorem dR_holds_14 : decode bR_holds 14 = .ok (.ifCond .eq 13, 3) := by decide +kernel
theorem dR_holds_17 : decode bR_holds 17 = .ok (.iload_n 3, 1) := by decide +kernel
theorem dR_holds_18 : decode bR_holds 18 = .ok (.iconst 0, 1) := by decide +kernel
theorem dR_holds_19 : decode bR_holds 19 = .ok (.bipush 40, 2) := by decide +kernel
theorem dR_holds_21 : decode bR_holds 21 = .ok (.invokestatic 70, 3) := by decide +kernel
theorem dR_holds_24 : decode bR_holds 24 = .ok (.ifCond .ne 5, 3) := by decide +kernel
theorem dR_holds_27 : decode bR_holds 27 = .ok (.iconst 0, 1) := by decide +kernel
theorem dR_holds_28 : decode bR_holds 28 = .ok (.ireturn, 1) := by decide +kernel
theorem dR_holds_29 : decode bR_holds 29 = .ok (.aload_n 0, 1) := by decide +kernel
theorem dR_holds_30 : decode bR_holds 30 = .ok (.getfield 16, 3) := by decide +kernel
theorem dR_holds_33 : decode bR_holds 33 = .ok (.iconst 4, 1) := by decide +kernel
theorem dR_holds_34 : decode bR_holds 34 = .ok (.iload_n 2, 1) := by decide +kernel
theorem dR_holds_35 : decode bR_holds 35 = .ok (.imul, 1) := by decide +kernel
theorem dR_holds_36 : decode bR_holds 36 = .ok (.iload_n 1, 1) := by decide +kernel
theorem dR_holds_37 : decode bR_holds 37 = .ok (.iadd, 1) := by decide +kernel
theorem dR_holds_38 : decode bR_holds 38 = .ok (.iload_n 3, 1) := by decide +kernel
theorem dR_holds_39 : decode bR_holds 39 = .ok (.iastore, 1) := by decide +kernel
theorem dR_holds_40 : decode bR_holds 40 = .ok (.iconst 1, 1) := by decide +kernel
theorem dR_holds_41 : decode bR_holds 41 = .ok (.ireturn, 1) := by decide +kernel
theorem dR_need_0 : decode bR_need 0 = .ok (.iload_n 1, 1) := by decide +kernel
theorem dR_need_1 : decode bR_need 1 = .ok (.iconst 0, 1) := by decide +kernel
theorem dR_need_2 : decode bR_need 2 = .ok (.iconst 2, 1) := by decide +kernel
theorem dR_need_3 : decode bR_need 3 = .ok (.invokestatic 70, 3) := by decide +kernel
theorem dR_need_6 : decode bR_need 6 = .ok (.ifCond .eq 23, 3) := by decide +kernel
theorem dR_need_9 : decode bR_need 9 = .ok (.iload_n 2, 1) := by decide +kernel
theorem dR_need_10 : decode bR_need 10 = .ok (.iconst 0, 1) := by decide +kernel
theorem dR_need_11 : decode bR_need 11 = .ok (.bipush 40, 2) := by decide +kernel
theorem dR_need_13 : decode bR_need 13 = .ok (.invokestatic 70, 3) := by decide +kernel
theorem dR_need_16 : decode bR_need 16 = .ok (.ifCond .eq 13, 3) := by decide +kernel
theorem dR_need_19 : decode bR_need 19 = .ok (.iload_n 3, 1) := by decide +kernel
theorem dR_need_20 : decode bR_need 20 = .ok (.iload_n 2, 1) := by decide +kernel
theorem dR_need_21 : decode bR_need 21 = .ok (.bipush 40, 2) := by decide +kernel
theorem dR_need_23 : decode bR_need 23 = .ok (.invokestatic 70, 3) := by decide +kernel
theorem dR_need_26 : decode bR_need 26 = .ok (.ifCond .ne 5, 3) := by decide +kernel
theorem dR_need_29 : decode bR_need 29 = .ok (.iconst 0, 1) := by decide +kernel
theorem dR_need_30 : decode bR_need 30 = .ok (.ireturn, 1) := by decide +kernel
theorem dR_need_31 : decode bR_need 31 = .ok (.aload_n 0, 1) := by decide +kernel
theorem dR_need_32 : decode bR_need 32 = .ok (.getfield 28, 3) := by decide +kernel
theorem dR_need_35 : decode bR_need 35 = .ok (.iload_n 1, 1) := by decide +kernel
theorem dR_need_36 : decode bR_need 36 = .ok (.iload_n 2, 1) := by decide +kernel
theorem dR_need_37 : decode bR_need 37 = .ok (.iastore, 1) := by decide +kernel
theorem dR_need_38 : decode bR_need 38 = .ok (.aload_n 0, 1) := by decide +kernel
theorem dR_need_39 : decode bR_need 39 = .ok (.getfield 31, 3) := by decide +kernel
theorem dR_need_42 : decode bR_need 42 = .ok (.iload_n 1, 1) := by decide +kernel
theorem dR_need_43 : decode bR_need 43 = .ok (.iload_n 3, 1) := by decide +kernel
theorem dR_need_44 : decode bR_need 44 = .ok (.iastore, 1) := by decide +kernel
theorem dR_need_45 : decode bR_need 45 = .ok (.iconst 1, 1) := by decide +kernel
theorem dR_need_46 : decode bR_need 46 = .ok (.ireturn, 1) := by decide +kernel
theorem dR_shares_0 : decode bR_shares 0 = .ok (.aload_n 0, 1) := by decide +kernel
theorem dR_shares_1 : decode bR_shares 1 = .ok (.iload_n 1, 1) := by decide +kernel
theorem dR_shares_2 : decode bR_shares 2 = .ok (.invokevirtual 74, 3) := by decide +kernel
theorem dR_shares_5 : decode bR_shares 5 = .ok (.ifCond .eq 23, 3) := by decide +kernel
theorem dR_shares_8 : decode bR_shares 8 = .ok (.iload_n 2, 1) := by decide +kernel
theorem dR_shares_9 : decode bR_shares 9 = .ok (.iconst 0, 1) := by decide +kernel
theorem dR_shares_10 : decode bR_shares 10 = .ok (.bipush 10, 2) := by decide +kernel
theorem dR_shares_12 : decode bR_shares 12 = .ok (.invokestatic 70, 3) := by decide +kernel
theorem dR_shares_15 : decode bR_shares 15 = .ok (.ifCond .eq 13, 3) := by decide +kernel
theorem dR_shares_18 : decode bR_shares 18 = .ok (.iload_n 3, 1) := by decide +kernel
theorem dR_shares_19 : decode bR_shares 19 = .ok (.iload_n 2, 1) := by decide +kernel
theorem dR_shares_20 : decode bR_shares 20 = .ok (.bipush 10, 2) := by decide +kernel
theorem dR_shares_22 : decode bR_shares 22 = .ok (.invokestatic 70, 3) := by decide +kernel
theorem dR_shares_25 : decode bR_shares 25 = .ok (.ifCond .ne 5, 3) := by decide +kernel
theorem dR_shares_28 : decode bR_shares 28 = .ok (.iconst 0, 1) := by decide +kernel
theorem dR_shares_29 : decode bR_shares 29 = .ok (.ireturn, 1) := by decide +kernel
theorem dR_shares_30 : decode bR_shares 30 = .ok (.aload_n 0, 1) := by decide +kernel
theorem dR_shares_31 : decode bR_shares 31 = .ok (.getfield 19, 3) := by decide +kernel
theorem dR_shares_34 : decode bR_shares 34 = .ok (.iload_n 1, 1) := by decide +kernel
theorem dR_shares_35 : decode bR_shares 35 = .ok (.iload_n 2, 1) := by decide +kernel
theorem dR_shares_36 : decode bR_shares 36 = .ok (.iastore, 1) := by decide +kernel
theorem dR_shares_37 : decode bR_shares 37 = .ok (.aload_n 0, 1) := by decide +kernel
theorem dR_shares_38 : decode bR_shares 38 = .ok (.getfield 22, 3) := by decide +kernel
theorem dR_shares_41 : decode bR_shares 41 = .ok (.iload_n 1, 1) := by decide +kernel
theorem dR_shares_42 : decode bR_shares 42 = .ok (.iload_n 3, 1) := by decide +kernel
theorem dR_shares_43 : decode bR_shares 43 = .ok (.iastore, 1) := by decide +kernel
theorem dR_shares_44 : decode bR_shares 44 = .ok (.iconst 1, 1) := by decide +kernel
theorem dR_shares_45 : decode bR_shares 45 = .ok (.ireturn, 1) := by decide +kernel
theorem dR_silo_0 : decode bR_silo 0 = .ok (.aload_n 0, 1) := by decide +kernel
theorem dR_silo_1 : decode bR_silo 1 = .ok (.iload_n 1, 1) := by decide +kernel
theorem dR_silo_2 : decode bR_silo 2 = .ok (.invokevirtual 74, 3) := by decide +kernel
theorem dR_silo_5 : decode bR_silo 5 = .ok (.ifCond .eq 17, 3) := by decide +kernel
theorem dR_silo_8 : decode bR_silo 8 = .ok (.iload_n 2, 1) := by decide +kernel
theorem dR_silo_9 : decode bR_silo 9 = .ok (.ifCond .eq 15, 3) := by decide +kernel
theorem dR_silo_12 : decode bR_silo 12 = .ok (.iload_n 2, 1) := by decide +kernel
theorem dR_silo_13 : decode bR_silo 13 = .ok (.iconst 5, 1) := by decide +kernel
theorem dR_silo_14 : decode bR_silo 14 = .ok (.bipush 40, 2) := by decide +kernel
theorem dR_silo_16 : decode bR_silo 16 = .ok (.invokestatic 70, 3) := by decide +kernel
theorem dR_silo_19 : decode bR_silo 19 = .ok (.ifCond .ne 5, 3) := by decide +kernel
theorem dR_silo_22 : decode bR_silo 22 = .ok (.iconst 0, 1) := by decide +kernel
theorem dR_silo_23 : decode bR_silo 23 = .ok (.ireturn, 1) := by decide +kernel
theorem dR_silo_24 : decode bR_silo 24 = .ok (.aload_n 0, 1) := by decide +kernel
theorem dR_silo_25 : decode bR_silo 25 = .ok (.getfield 25, 3) := by decide +kernel
theorem dR_silo_28 : decode bR_silo 28 = .ok (.iload_n 1, 1) := by decide +kernel
theorem dR_silo_29 : decode bR_silo 29 = .ok (.iload_n 2, 1) := by decide +kernel
theorem dR_silo_30 : decode bR_silo 30 = .ok (.iastore, 1) := by decide +kernel
theorem dR_silo_31 : decode bR_silo 31 = .ok (.iconst 1, 1) := by decide +kernel
theorem dR_silo_32 : decode bR_silo 32 = .ok (.ireturn, 1) := by decide +kernel
theorem dR_isThere_0 : decode bR_isThere 0 = .ok (.iload_n 1, 1) := by decide +kernel
theorem dR_isThere_1 : decode bR_isThere 1 = .ok (.bipush 12, 2) := by decide +kernel
theorem dR_isThere_3 : decode bR_isThere 3 = .ok (.if_icmp .lt 9, 3) := by decide +kernel
theorem dR_isThere_6 : decode bR_isThere 6 = .ok (.iload_n 1, 1) := by decide +kernel
theorem dR_isThere_7 : decode bR_isThere 7 = .ok (.bipush 18, 2) := by decide +kernel
theorem dR_isThere_9 : decode bR_isThere 9 = .ok (.if_icmp .lt 36, 3) := by decide +kernel
theorem dR_isThere_12 : decode bR_isThere 12 = .ok (.iload_n 1, 1) := by decide +kernel
theorem dR_isThere_13 : decode bR_isThere 13 = .ok (.iconst 4, 1) := by decide +kernel
theorem dR_isThere_14 : decode bR_isThere 14 = .ok (.irem, 1) := by decide +kernel
theorem dR_isThere_15 : decode bR_isThere 15 = .ok (.aload_n 0, 1) := by decide +kernel
theorem dR_isThere_16 : decode bR_isThere 16 = .ok (.getfield 67, 3) := by decide +kernel
theorem dR_isThere_19 : decode bR_isThere 19 = .ok (.if_icmp .ge 9, 3) := by decide +kernel
theorem dR_isThere_22 : decode bR_isThere 22 = .ok (.iload_n 1, 1) := by decide +kernel
theorem dR_isThere_23 : decode bR_isThere 23 = .ok (.bipush 12, 2) := by decide +kernel
theorem dR_isThere_25 : decode bR_isThere 25 = .ok (.if_icmp .lt 20, 3) := by decide +kernel
theorem dR_isThere_28 : decode bR_isThere 28 = .ok (.iload_n 1, 1) := by decide +kernel
theorem dR_isThere_29 : decode bR_isThere 29 = .ok (.bipush 18, 2) := by decide +kernel
theorem dR_isThere_31 : decode bR_isThere 31 = .ok (.if_icmp .lt 18, 3) := by decide +kernel
theorem dR_isThere_34 : decode bR_isThere 34 = .ok (.iload_n 1, 1) := by decide +kernel
theorem dR_isThere_35 : decode bR_isThere 35 = .ok (.bipush 18, 2) := by decide +kernel
theorem dR_isThere_37 : decode bR_isThere 37 = .ok (.isub, 1) := by decide +kernel
theorem dR_isThere_38 : decode bR_isThere 38 = .ok (.aload_n 0, 1) := by decide +kernel
theorem dR_isThere_39 : decode bR_isThere 39 = .ok (.getfield 67, 3) := by decide +kernel
theorem dR_isThere_42 : decode bR_isThere 42 = .ok (.if_icmp .ge 7, 3) := by decide +kernel
theorem dR_isThere_45 : decode bR_isThere 45 = .ok (.iconst 1, 1) := by decide +kernel
theorem dR_isThere_46 : decode bR_isThere 46 = .ok (.goto 4, 3) := by decide +kernel
theorem dR_isThere_49 : decode bR_isThere 49 = .ok (.iconst 0, 1) := by decide +kernel
theorem dR_isThere_50 : decode bR_isThere 50 = .ok (.ireturn, 1) := by decide +kernel
theorem dR_factor_0 : decode bR_factor 0 = .ok (.iload_n 1, 1) := by decide +kernel
theorem dR_factor_1 : decode bR_factor 1 = .ok (.bipush 18, 2) := by decide +kernel
theorem dR_factor_3 : decode bR_factor 3 = .ok (.if_icmp .lt 17, 3) := by decide +kernel
theorem dR_factor_6 : decode bR_factor 6 = .ok (.iload_n 1, 1) := by decide +kernel
theorem dR_factor_7 : decode bR_factor 7 = .ok (.bipush 18, 2) := by decide +kernel
theorem dR_factor_9 : decode bR_factor 9 = .ok (.isub, 1) := by decide +kernel
theorem dR_factor_10 : decode bR_factor 10 = .ok (.iload_n 2, 1) := by decide +kernel
theorem dR_factor_11 : decode bR_factor 11 = .ok (.if_icmp .ne 7, 3) := by decide +kernel
theorem dR_factor_14 : decode bR_factor 14 = .ok (.lconst 1, 1) := by decide +kernel
theorem dR_factor_15 : decode bR_factor 15 = .ok (.goto 4, 3) := by decide +kernel
theorem dR_factor_18 : decode bR_factor 18 = .ok (.lconst 0, 1) := by decide +kernel
theorem dR_factor_19 : decode bR_factor 19 = .ok (.lreturn, 1) := by decide +kernel
theorem dR_factor_20 : decode bR_factor 20 = .ok (.iload_n 1, 1) := by decide +kernel
theorem dR_factor_21 : decode bR_factor 21 = .ok (.bipush 12, 2) := by decide +kernel
theorem dR_factor_23 : decode bR_factor 23 = .ok (.if_icmp .lt 20, 3) := by decide +kernel
theorem dR_factor_26 : decode bR_factor 26 = .ok (.aload_n 0, 1) := by decide +kernel
theorem dR_factor_27 : decode bR_factor 27 = .ok (.getfield 16, 3) := by decide +kernel
theorem dR_factor_30 : decode bR_factor 30 = .ok (.iconst 4, 1) := by decide +kernel
theorem dR_factor_31 : decode bR_factor 31 = .ok (.iload_n 1, 1) := by decide +kernel
theorem dR_factor_32 : decode bR_factor 32 = .ok (.bipush 12, 2) := by decide +kernel
theorem dR_factor_34 : decode bR_factor 34 = .ok (.isub, 1) := by decide +kernel
theorem dR_factor_35 : decode bR_factor 35 = .ok (.iconst 3, 1) := by decide +kernel
theorem dR_factor_36 : decode bR_factor 36 = .ok (.irem, 1) := by decide +kernel
theorem dR_factor_37 : decode bR_factor 37 = .ok (.imul, 1) := by decide +kernel
theorem dR_factor_38 : decode bR_factor 38 = .ok (.iload_n 2, 1) := by decide +kernel
theorem dR_factor_39 : decode bR_factor 39 = .ok (.iadd, 1) := by decide +kernel
theorem dR_factor_40 : decode bR_factor 40 = .ok (.iaload, 1) := by decide +kernel
theorem dR_factor_41 : decode bR_factor 41 = .ok (.i2l, 1) := by decide +kernel
theorem dR_factor_42 : decode bR_factor 42 = .ok (.lreturn, 1) := by decide +kernel
theorem dR_factor_43 : decode bR_factor 43 = .ok (.iload_n 1, 1) := by decide +kernel
theorem dR_factor_44 : decode bR_factor 44 = .ok (.iconst 4, 1) := by decide +kernel
theorem dR_factor_45 : decode bR_factor 45 = .ok (.irem, 1) := by decide +kernel
theorem dR_factor_46 : decode bR_factor 46 = .ok (.iload_n 2, 1) := by decide +kernel
theorem dR_factor_47 : decode bR_factor 47 = .ok (.if_icmp .eq 7, 3) := by decide +kernel
theorem dR_factor_50 : decode bR_factor 50 = .ok (.lconst 0, 1) := by decide +kernel
theorem dR_factor_51 : decode bR_factor 51 = .ok (.goto 15, 3) := by decide +kernel
theorem dR_factor_54 : decode bR_factor 54 = .ok (.iload_n 1, 1) := by decide +kernel
theorem dR_factor_55 : decode bR_factor 55 = .ok (.iconst 4, 1) := by decide +kernel
theorem dR_factor_56 : decode bR_factor 56 = .ok (.if_icmp .ge 7, 3) := by decide +kernel
theorem dR_factor_59 : decode bR_factor 59 = .ok (.lconst 1, 1) := by decide +kernel
theorem dR_factor_60 : decode bR_factor 60 = .ok (.goto 6, 3) := by decide +kernel
theorem dR_factor_63 : decode bR_factor 63 = .ok (.ldc2_w 78, 3) := by decide +kernel
theorem dR_factor_66 : decode bR_factor 66 = .ok (.lreturn, 1) := by decide +kernel
theorem dR_right_0 : decode bR_right 0 = .ok (.iload_n 1, 1) := by decide +kernel
theorem dR_right_1 : decode bR_right 1 = .ok (.bipush 18, 2) := by decide +kernel
theorem dR_right_3 : decode bR_right 3 = .ok (.if_icmp .lt 5, 3) := by decide +kernel
theorem dR_right_6 : decode bR_right 6 = .ok (.lconst 0, 1) := by decide +kernel
theorem dR_right_7 : decode bR_right 7 = .ok (.lreturn, 1) := by decide +kernel
theorem dR_right_8 : decode bR_right 8 = .ok (.iload_n 1, 1) := by decide +kernel
theorem dR_right_9 : decode bR_right 9 = .ok (.bipush 12, 2) := by decide +kernel
theorem dR_right_11 : decode bR_right 11 = .ok (.if_icmp .lt 35, 3) := by decide +kernel
theorem dR_right_14 : decode bR_right 14 = .ok (.iload_n 2, 1) := by decide +kernel
theorem dR_right_15 : decode bR_right 15 = .ok (.i2l, 1) := by decide +kernel
theorem dR_right_16 : decode bR_right 16 = .ok (.iload_n 1, 1) := by decide +kernel
theorem dR_right_17 : decode bR_right 17 = .ok (.bipush 15, 2) := by decide +kernel
theorem dR_right_19 : decode bR_right 19 = .ok (.if_icmp .ge 15, 3) := by decide +kernel
theorem dR_right_22 : decode bR_right 22 = .ok (.aload_n 0, 1) := by decide +kernel
theorem dR_right_23 : decode bR_right 23 = .ok (.getfield 28, 3) := by decide +kernel
theorem dR_right_26 : decode bR_right 26 = .ok (.iload_n 1, 1) := by decide +kernel
theorem dR_right_27 : decode bR_right 27 = .ok (.bipush 12, 2) := by decide +kernel
theorem dR_right_29 : decode bR_right 29 = .ok (.isub, 1) := by decide +kernel
theorem dR_right_30 : decode bR_right 30 = .ok (.iaload, 1) := by decide +kernel
theorem dR_right_31 : decode bR_right 31 = .ok (.goto 12, 3) := by decide +kernel
theorem dR_right_34 : decode bR_right 34 = .ok (.aload_n 0, 1) := by decide +kernel
theorem dR_right_35 : decode bR_right 35 = .ok (.getfield 31, 3) := by decide +kernel
theorem dR_right_38 : decode bR_right 38 = .ok (.iload_n 1, 1) := by decide +kernel
theorem dR_right_39 : decode bR_right 39 = .ok (.bipush 15, 2) := by decide +kernel
theorem dR_right_41 : decode bR_right 41 = .ok (.isub, 1) := by decide +kernel
theorem dR_right_42 : decode bR_right 42 = .ok (.iaload, 1) := by decide +kernel
theorem dR_right_43 : decode bR_right 43 = .ok (.i2l, 1) := by decide +kernel
theorem dR_right_44 : decode bR_right 44 = .ok (.lmul, 1) := by decide +kernel
theorem dR_right_45 : decode bR_right 45 = .ok (.lreturn, 1) := by decide +kernel
theorem dR_right_46 : decode bR_right 46 = .ok (.iload_n 1, 1) := by decide +kernel
theorem dR_right_47 : decode bR_right 47 = .ok (.iconst 4, 1) := by decide +kernel
theorem dR_right_48 : decode bR_right 48 = .ok (.if_icmp .ge 13, 3) := by decide +kernel
theorem dR_right_51 : decode bR_right 51 = .ok (.aload_n 0, 1) := by decide +kernel
theorem dR_right_52 : decode bR_right 52 = .ok (.getfield 13, 3) := by decide +kernel
theorem dR_right_55 : decode bR_right 55 = .ok (.iload_n 1, 1) := by decide +kernel
theorem dR_right_56 : decode bR_right 56 = .ok (.iaload, 1) := by decide +kernel
theorem dR_right_57 : decode bR_right 57 = .ok (.i2l, 1) := by decide +kernel
theorem dR_right_58 : decode bR_right 58 = .ok (.goto 33, 3) := by decide +kernel
theorem dR_right_61 : decode bR_right 61 = .ok (.iload_n 2, 1) := by decide +kernel
theorem dR_right_62 : decode bR_right 62 = .ok (.i2l, 1) := by decide +kernel
theorem dR_right_63 : decode bR_right 63 = .ok (.iload_n 1, 1) := by decide +kernel
theorem dR_right_64 : decode bR_right 64 = .ok (.bipush 8, 2) := by decide +kernel
theorem dR_right_66 : decode bR_right 66 = .ok (.if_icmp .ge 14, 3) := by decide +kernel
theorem dR_right_69 : decode bR_right 69 = .ok (.aload_n 0, 1) := by decide +kernel
theorem dR_right_70 : decode bR_right 70 = .ok (.getfield 19, 3) := by decide +kernel
theorem dR_right_73 : decode bR_right 73 = .ok (.iload_n 1, 1) := by decide +kernel
theorem dR_right_74 : decode bR_right 74 = .ok (.iconst 4, 1) := by decide +kernel
theorem dR_right_75 : decode bR_right 75 = .ok (.isub, 1) := by decide +kernel
theorem dR_right_76 : decode bR_right 76 = .ok (.iaload, 1) := by decide +kernel
theorem dR_right_77 : decode bR_right 77 = .ok (.goto 12, 3) := by decide +kernel
theorem dR_right_80 : decode bR_right 80 = .ok (.aload_n 0, 1) := by decide +kernel
theorem dR_right_81 : decode bR_right 81 = .ok (.getfield 22, 3) := by decide +kernel
theorem dR_right_84 : decode bR_right 84 = .ok (.iload_n 1, 1) := by decide +kernel
theorem dR_right_85 : decode bR_right 85 = .ok (.bipush 8, 2) := by decide +kernel
theorem dR_right_87 : decode bR_right 87 = .ok (.isub, 1) := by decide +kernel
theorem dR_right_88 : decode bR_right 88 = .ok (.iaload, 1) := by decide +kernel
theorem dR_right_89 : decode bR_right 89 = .ok (.i2l, 1) := by decide +kernel
theorem dR_right_90 : decode bR_right 90 = .ok (.lmul, 1) := by decide +kernel
theorem dR_right_91 : decode bR_right 91 = .ok (.lreturn, 1) := by decide +kernel
theorem dR_isLeast_0 : decode bR_isLeast 0 = .ok (.iload_n 0, 1) := by decide +kernel
theorem dR_isLeast_1 : decode bR_isLeast 1 = .ok (.bipush 18, 2) := by decide +kernel
theorem dR_isLeast_3 : decode bR_isLeast 3 = .ok (.if_icmp .ge 26, 3) := by decide +kernel
theorem dR_isLeast_6 : decode bR_isLeast 6 = .ok (.iload_n 0, 1) := by decide +kernel
theorem dR_isLeast_7 : decode bR_isLeast 7 = .ok (.bipush 12, 2) := by decide +kernel
theorem dR_isLeast_9 : decode bR_isLeast 9 = .ok (.if_icmp .lt 9, 3) := by decide +kernel
theorem dR_isLeast_12 : decode bR_isLeast 12 = .ok (.iload_n 0, 1) := by decide +kernel
theorem dR_isLeast_13 : decode bR_isLeast 13 = .ok (.bipush 15, 2) := by decide +kernel
theorem dR_isLeast_15 : decode bR_isLeast 15 = .ok (.if_icmp .lt 14, 3) := by decide +kernel
theorem dR_isLeast_18 : decode bR_isLeast 18 = .ok (.iload_n 0, 1) := by decide +kernel
theorem dR_isLeast_19 : decode bR_isLeast 19 = .ok (.iconst 4, 1) := by decide +kernel
theorem dR_isLeast_20 : decode bR_isLeast 20 = .ok (.if_icmp .lt 13, 3) := by decide +kernel
theorem dR_isLeast_23 : decode bR_isLeast 23 = .ok (.iload_n 0, 1) := by decide +kernel
theorem dR_isLeast_24 : decode bR_isLeast 24 = .ok (.bipush 8, 2) := by decide +kernel
theorem dR_isLeast_26 : decode bR_isLeast 26 = .ok (.if_icmp .ge 7, 3) := by decide +kernel
theorem dR_isLeast_29 : decode bR_isLeast 29 = .ok (.iconst 1, 1) := by decide +kernel
theorem dR_isLeast_30 : decode bR_isLeast 30 = .ok (.goto 4, 3) := by decide +kernel
theorem dR_isLeast_33 : decode bR_isLeast 33 = .ok (.iconst 0, 1) := by decide +kernel
theorem dR_isLeast_34 : decode bR_isLeast 34 = .ok (.ireturn, 1) := by decide +kernel
theorem dR_over_0 : decode bR_over 0 = .ok (.aload_n 0, 1) := by decide +kernel
theorem dR_over_1 : decode bR_over 1 = .ok (.iload_n 1, 1) := by decide +kernel
theorem dR_over_2 : decode bR_over 2 = .ok (.iload_n 2, 1) := by decide +kernel
theorem dR_over_3 : decode bR_over 3 = .ok (.invokevirtual 80, 3) := by decide +kernel
theorem dR_over_6 : decode bR_over 6 = .ok (.lneg, 1) := by decide +kernel
theorem dR_over_7 : decode bR_over 7 = .ok (.lload 4, 2) := by decide +kernel
theorem dR_over_9 : decode bR_over 9 = .ok (.lmul, 1) := by decide +kernel
theorem dR_over_10 : decode bR_over 10 = .ok (.lstore 6, 2) := by decide +kernel
theorem dR_over_12 : decode bR_over 12 = .ok (.iconst 0, 1) := by decide +kernel
theorem dR_over_13 : decode bR_over 13 = .ok (.istore 8, 2) := by decide +kernel
theorem dR_over_15 : decode bR_over 15 = .ok (.iload 8, 2) := by decide +kernel
theorem dR_over_17 : decode bR_over 17 = .ok (.aload_n 0, 1) := by decide +kernel
theorem dR_over_18 : decode bR_over 18 = .ok (.getfield 67, 3) := by decide +kernel
theorem dR_over_21 : decode bR_over 21 = .ok (.if_icmp .ge 26, 3) := by decide +kernel
theorem dR_over_24 : decode bR_over 24 = .ok (.lload 6, 2) := by decide +kernel
theorem dR_over_26 : decode bR_over 26 = .ok (.aload_n 0, 1) := by decide +kernel
theorem dR_over_27 : decode bR_over 27 = .ok (.iload_n 1, 1) := by decide +kernel
theorem dR_over_28 : decode bR_over 28 = .ok (.iload 8, 2) := by decide +kernel
theorem dR_over_30 : decode bR_over 30 = .ok (.invokevirtual 84, 3) := by decide +kernel
theorem dR_over_33 : decode bR_over 33 = .ok (.aload_n 3, 1) := by decide +kernel
theorem dR_over_34 : decode bR_over 34 = .ok (.iload 8, 2) := by decide +kernel
theorem dR_over_36 : decode bR_over 36 = .ok (.laload, 1) := by decide +kernel
theorem dR_over_37 : decode bR_over 37 = .ok (.lmul, 1) := by decide +kernel
theorem dR_over_38 : decode bR_over 38 = .ok (.ladd, 1) := by decide +kernel
theorem dR_over_39 : decode bR_over 39 = .ok (.lstore 6, 2) := by decide +kernel
theorem dR_over_41 : decode bR_over 41 = .ok (.iinc 8 1, 3) := by decide +kernel
theorem dR_over_44 : decode bR_over 44 = .ok (.goto (-29), 3) := by decide +kernel
theorem dR_over_47 : decode bR_over 47 = .ok (.lload 6, 2) := by decide +kernel
theorem dR_over_49 : decode bR_over 49 = .ok (.lreturn, 1) := by decide +kernel
theorem dR_keepsAll_0 : decode bR_keepsAll 0 = .ok (.iconst 1, 1) := by decide +kernel
theorem dR_keepsAll_1 : decode bR_keepsAll 1 = .ok (.istore_n 2, 1) := by decide +kernel
theorem dR_keepsAll_2 : decode bR_keepsAll 2 = .ok (.iconst 0, 1) := by decide +kernel
theorem dR_keepsAll_3 : decode bR_keepsAll 3 = .ok (.istore_n 3, 1) := by decide +kernel
theorem dR_keepsAll_4 : decode bR_keepsAll 4 = .ok (.iload_n 3, 1) := by decide +kernel
theorem dR_keepsAll_5 : decode bR_keepsAll 5 = .ok (.bipush 22, 2) := by decide +kernel
theorem dR_keepsAll_7 : decode bR_keepsAll 7 = .ok (.if_icmp .ge 73, 3) := by decide +kernel
theorem dR_keepsAll_10 : decode bR_keepsAll 10 = .ok (.iload_n 2, 1) := by decide +kernel
theorem dR_keepsAll_11 : decode bR_keepsAll 11 = .ok (.ifCond .eq 69, 3) := by decide +kernel
theorem dR_keepsAll_14 : decode bR_keepsAll 14 = .ok (.aload_n 0, 1) := by decide +kernel
theorem dR_keepsAll_15 : decode bR_keepsAll 15 = .ok (.getfield 45, 3) := by decide +kernel
theorem dR_keepsAll_18 : decode bR_keepsAll 18 = .ok (.iload_n 3, 1) := by decide +kernel
theorem dR_keepsAll_19 : decode bR_keepsAll 19 = .ok (.baload, 1) := by decide +kernel
theorem dR_keepsAll_20 : decode bR_keepsAll 20 = .ok (.ifCond .eq 54, 3) := by decide +kernel
theorem dR_keepsAll_23 : decode bR_keepsAll 23 = .ok (.aload_n 0, 1) := by decide +kernel
theorem dR_keepsAll_24 : decode bR_keepsAll 24 = .ok (.iload_n 3, 1) := by decide +kernel
theorem dR_keepsAll_25 : decode bR_keepsAll 25 = .ok (.iload_n 1, 1) := by decide +kernel
theorem dR_keepsAll_26 : decode bR_keepsAll 26 = .ok (.aload_n 0, 1) := by decide +kernel
theorem dR_keepsAll_27 : decode bR_keepsAll 27 = .ok (.getfield 58, 3) := by decide +kernel
theorem dR_keepsAll_30 : decode bR_keepsAll 30 = .ok (.aload_n 0, 1) := by decide +kernel
theorem dR_keepsAll_31 : decode bR_keepsAll 31 = .ok (.getfield 87, 3) := by decide +kernel
theorem dR_keepsAll_34 : decode bR_keepsAll 34 = .ok (.invokevirtual 91, 3) := by decide +kernel
theorem dR_keepsAll_37 : decode bR_keepsAll 37 = .ok (.lstore 4, 2) := by decide +kernel
theorem dR_keepsAll_39 : decode bR_keepsAll 39 = .ok (.iload_n 3, 1) := by decide +kernel
theorem dR_keepsAll_40 : decode bR_keepsAll 40 = .ok (.invokestatic 95, 3) := by decide +kernel
theorem dR_keepsAll_43 : decode bR_keepsAll 43 = .ok (.ifCond .eq 18, 3) := by decide +kernel
theorem dR_keepsAll_46 : decode bR_keepsAll 46 = .ok (.lload 4, 2) := by decide +kernel
theorem dR_keepsAll_48 : decode bR_keepsAll 48 = .ok (.lconst 0, 1) := by decide +kernel
theorem dR_keepsAll_49 : decode bR_keepsAll 49 = .ok (.lcmp, 1) := by decide +kernel
theorem dR_keepsAll_50 : decode bR_keepsAll 50 = .ok (.ifCond .lt 7, 3) := by decide +kernel
theorem dR_keepsAll_53 : decode bR_keepsAll 53 = .ok (.iconst 1, 1) := by decide +kernel
theorem dR_keepsAll_54 : decode bR_keepsAll 54 = .ok (.goto 19, 3) := by decide +kernel
theorem dR_keepsAll_57 : decode bR_keepsAll 57 = .ok (.iconst 0, 1) := by decide +kernel
theorem dR_keepsAll_58 : decode bR_keepsAll 58 = .ok (.goto 15, 3) := by decide +kernel
theorem dR_keepsAll_61 : decode bR_keepsAll 61 = .ok (.lload 4, 2) := by decide +kernel
theorem dR_keepsAll_63 : decode bR_keepsAll 63 = .ok (.lconst 0, 1) := by decide +kernel
theorem dR_keepsAll_64 : decode bR_keepsAll 64 = .ok (.lcmp, 1) := by decide +kernel
theorem dR_keepsAll_65 : decode bR_keepsAll 65 = .ok (.ifCond .gt 7, 3) := by decide +kernel
theorem dR_keepsAll_68 : decode bR_keepsAll 68 = .ok (.iconst 1, 1) := by decide +kernel
theorem dR_keepsAll_69 : decode bR_keepsAll 69 = .ok (.goto 4, 3) := by decide +kernel
theorem dR_keepsAll_72 : decode bR_keepsAll 72 = .ok (.iconst 0, 1) := by decide +kernel
theorem dR_keepsAll_73 : decode bR_keepsAll 73 = .ok (.istore_n 2, 1) := by decide +kernel
theorem dR_keepsAll_74 : decode bR_keepsAll 74 = .ok (.iinc 3 1, 3) := by decide +kernel
theorem dR_keepsAll_77 : decode bR_keepsAll 77 = .ok (.goto (-73), 3) := by decide +kernel
theorem dR_keepsAll_80 : decode bR_keepsAll 80 = .ok (.iload_n 2, 1) := by decide +kernel
theorem dR_keepsAll_81 : decode bR_keepsAll 81 = .ok (.ireturn, 1) := by decide +kernel
theorem dR_solve_0 : decode bR_solve 0 = .ok (.aload_n 0, 1) := by decide +kernel
theorem dR_solve_1 : decode bR_solve 1 = .ok (.getfield 98, 3) := by decide +kernel
theorem dR_solve_4 : decode bR_solve 4 = .ok (.istore_n 2, 1) := by decide +kernel
theorem dR_solve_5 : decode bR_solve 5 = .ok (.iconst 0, 1) := by decide +kernel
theorem dR_solve_6 : decode bR_solve 6 = .ok (.istore_n 3, 1) := by decide +kernel
theorem dR_solve_7 : decode bR_solve 7 = .ok (.iload_n 3, 1) := by decide +kernel
theorem dR_solve_8 : decode bR_solve 8 = .ok (.iload_n 2, 1) := by decide +kernel
theorem dR_solve_9 : decode bR_solve 9 = .ok (.if_icmp .ge 166, 3) := by decide +kernel
theorem dR_solve_12 : decode bR_solve 12 = .ok (.iload_n 3, 1) := by decide +kernel
theorem dR_solve_13 : decode bR_solve 13 = .ok (.ifCond .ne 8, 3) := by decide +kernel
theorem dR_solve_16 : decode bR_solve 16 = .ok (.iload_n 1, 1) := by decide +kernel
theorem dR_solve_17 : decode bR_solve 17 = .ok (.i2l, 1) := by decide +kernel
theorem dR_solve_18 : decode bR_solve 18 = .ok (.goto 16, 3) := by decide +kernel
theorem dR_solve_21 : decode bR_solve 21 = .ok (.aload_n 0, 1) := by decide +kernel
theorem dR_solve_22 : decode bR_solve 22 = .ok (.aload_n 0, 1) := by decide +kernel
theorem dR_solve_23 : decode bR_solve 23 = .ok (.getfield 61, 3) := by decide +kernel
theorem dR_solve_26 : decode bR_solve 26 = .ok (.iload_n 3, 1) := by decide +kernel
theorem dR_solve_27 : decode bR_solve 27 = .ok (.iconst 1, 1) := by decide +kernel
theorem dR_solve_28 : decode bR_solve 28 = .ok (.isub, 1) := by decide +kernel
theorem dR_solve_29 : decode bR_solve 29 = .ok (.iaload, 1) := by decide +kernel
theorem dR_solve_30 : decode bR_solve 30 = .ok (.iload_n 1, 1) := by decide +kernel
theorem dR_solve_31 : decode bR_solve 31 = .ok (.invokevirtual 80, 3) := by decide +kernel
theorem dR_solve_34 : decode bR_solve 34 = .ok (.lstore 4, 2) := by decide +kernel
theorem dR_solve_36 : decode bR_solve 36 = .ok (.iconst 0, 1) := by decide +kernel
theorem dR_solve_37 : decode bR_solve 37 = .ok (.istore 6, 2) := by decide +kernel
theorem dR_solve_39 : decode bR_solve 39 = .ok (.iload 6, 2) := by decide +kernel
theorem dR_solve_41 : decode bR_solve 41 = .ok (.aload_n 0, 1) := by decide +kernel
theorem dR_solve_42 : decode bR_solve 42 = .ok (.getfield 67, 3) := by decide +kernel
theorem dR_solve_45 : decode bR_solve 45 = .ok (.if_icmp .ge 59, 3) := by decide +kernel
theorem dR_solve_48 : decode bR_solve 48 = .ok (.lload 4, 2) := by decide +kernel
theorem dR_solve_50 : decode bR_solve 50 = .ok (.aload_n 0, 1) := by decide +kernel
theorem dR_solve_51 : decode bR_solve 51 = .ok (.getfield 49, 3) := by decide +kernel
theorem dR_solve_54 : decode bR_solve 54 = .ok (.iload 6, 2) := by decide +kernel
theorem dR_solve_56 : decode bR_solve 56 = .ok (.iaload, 1) := by decide +kernel
theorem dR_solve_57 : decode bR_solve 57 = .ok (.ifCond .ge 7, 3) := by decide +kernel
theorem dR_solve_60 : decode bR_solve 60 = .ok (.lconst 0, 1) := by decide +kernel
theorem dR_solve_61 : decode bR_solve 61 = .ok (.goto 34, 3) := by decide +kernel
theorem dR_solve_64 : decode bR_solve 64 = .ok (.iload_n 3, 1) := by decide +kernel
theorem dR_solve_65 : decode bR_solve 65 = .ok (.ifCond .ne 7, 3) := by decide +kernel
theorem dR_solve_68 : decode bR_solve 68 = .ok (.lconst 1, 1) := by decide +kernel
theorem dR_solve_69 : decode bR_solve 69 = .ok (.goto 17, 3) := by decide +kernel
theorem dR_solve_72 : decode bR_solve 72 = .ok (.aload_n 0, 1) := by decide +kernel
theorem dR_solve_73 : decode bR_solve 73 = .ok (.aload_n 0, 1) := by decide +kernel
theorem dR_solve_74 : decode bR_solve 74 = .ok (.getfield 61, 3) := by decide +kernel
theorem dR_solve_77 : decode bR_solve 77 = .ok (.iload_n 3, 1) := by decide +kernel
theorem dR_solve_78 : decode bR_solve 78 = .ok (.iconst 1, 1) := by decide +kernel
theorem dR_solve_79 : decode bR_solve 79 = .ok (.isub, 1) := by decide +kernel
theorem dR_solve_80 : decode bR_solve 80 = .ok (.iaload, 1) := by decide +kernel
theorem dR_solve_81 : decode bR_solve 81 = .ok (.iload 6, 2) := by decide +kernel
theorem dR_solve_83 : decode bR_solve 83 = .ok (.invokevirtual 84, 3) := by decide +kernel
theorem dR_solve_86 : decode bR_solve 86 = .ok (.aload_n 0, 1) := by decide +kernel
theorem dR_solve_87 : decode bR_solve 87 = .ok (.getfield 49, 3) := by decide +kernel
theorem dR_solve_90 : decode bR_solve 90 = .ok (.iload 6, 2) := by decide +kernel
theorem dR_solve_92 : decode bR_solve 92 = .ok (.iaload, 1) := by decide +kernel
theorem dR_solve_93 : decode bR_solve 93 = .ok (.i2l, 1) := by decide +kernel
theorem dR_solve_94 : decode bR_solve 94 = .ok (.lmul, 1) := by decide +kernel
theorem dR_solve_95 : decode bR_solve 95 = .ok (.lsub, 1) := by decide +kernel
theorem dR_solve_96 : decode bR_solve 96 = .ok (.lstore 4, 2) := by decide +kernel
theorem dR_solve_98 : decode bR_solve 98 = .ok (.iinc 6 1, 3) := by decide +kernel
theorem dR_solve_101 : decode bR_solve 101 = .ok (.goto (-62), 3) := by decide +kernel
theorem dR_solve_104 : decode bR_solve 104 = .ok (.iconst 0, 1) := by decide +kernel
theorem dR_solve_105 : decode bR_solve 105 = .ok (.istore 6, 2) := by decide +kernel
theorem dR_solve_107 : decode bR_solve 107 = .ok (.iload 6, 2) := by decide +kernel
theorem dR_solve_109 : decode bR_solve 109 = .ok (.iload_n 2, 1) := by decide +kernel
theorem dR_solve_110 : decode bR_solve 110 = .ok (.if_icmp .ge 47, 3) := by decide +kernel
theorem dR_solve_113 : decode bR_solve 113 = .ok (.aload_n 0, 1) := by decide +kernel
theorem dR_solve_114 : decode bR_solve 114 = .ok (.getfield 55, 3) := by decide +kernel
theorem dR_solve_117 : decode bR_solve 117 = .ok (.iconst 5, 1) := by decide +kernel
theorem dR_solve_118 : decode bR_solve 118 = .ok (.iload_n 3, 1) := by decide +kernel
theorem dR_solve_119 : decode bR_solve 119 = .ok (.imul, 1) := by decide +kernel
theorem dR_solve_120 : decode bR_solve 120 = .ok (.iload 6, 2) := by decide +kernel
theorem dR_solve_122 : decode bR_solve 122 = .ok (.iadd, 1) := by decide +kernel
theorem dR_solve_123 : decode bR_solve 123 = .ok (.iload_n 3, 1) := by decide +kernel
theorem dR_solve_124 : decode bR_solve 124 = .ok (.ifCond .ne 7, 3) := by decide +kernel
theorem dR_solve_127 : decode bR_solve 127 = .ok (.lconst 1, 1) := by decide +kernel
theorem dR_solve_128 : decode bR_solve 128 = .ok (.goto 22, 3) := by decide +kernel
theorem dR_solve_131 : decode bR_solve 131 = .ok (.aload_n 0, 1) := by decide +kernel
theorem dR_solve_132 : decode bR_solve 132 = .ok (.aload_n 0, 1) := by decide +kernel
theorem dR_solve_133 : decode bR_solve 133 = .ok (.getfield 61, 3) := by decide +kernel
theorem dR_solve_136 : decode bR_solve 136 = .ok (.iload_n 3, 1) := by decide +kernel
theorem dR_solve_137 : decode bR_solve 137 = .ok (.iconst 1, 1) := by decide +kernel
theorem dR_solve_138 : decode bR_solve 138 = .ok (.isub, 1) := by decide +kernel
theorem dR_solve_139 : decode bR_solve 139 = .ok (.iaload, 1) := by decide +kernel
theorem dR_solve_140 : decode bR_solve 140 = .ok (.aload_n 0, 1) := by decide +kernel
theorem dR_solve_141 : decode bR_solve 141 = .ok (.getfield 52, 3) := by decide +kernel
theorem dR_solve_144 : decode bR_solve 144 = .ok (.iload 6, 2) := by decide +kernel
theorem dR_solve_146 : decode bR_solve 146 = .ok (.iaload, 1) := by decide +kernel
theorem dR_solve_147 : decode bR_solve 147 = .ok (.invokevirtual 84, 3) := by decide +kernel
theorem dR_solve_150 : decode bR_solve 150 = .ok (.lastore, 1) := by decide +kernel
theorem dR_solve_151 : decode bR_solve 151 = .ok (.iinc 6 1, 3) := by decide +kernel
theorem dR_solve_154 : decode bR_solve 154 = .ok (.goto (-47), 3) := by decide +kernel
theorem dR_solve_157 : decode bR_solve 157 = .ok (.aload_n 0, 1) := by decide +kernel
theorem dR_solve_158 : decode bR_solve 158 = .ok (.getfield 55, 3) := by decide +kernel
theorem dR_solve_161 : decode bR_solve 161 = .ok (.iconst 5, 1) := by decide +kernel
theorem dR_solve_162 : decode bR_solve 162 = .ok (.iload_n 3, 1) := by decide +kernel
theorem dR_solve_163 : decode bR_solve 163 = .ok (.imul, 1) := by decide +kernel
theorem dR_solve_164 : decode bR_solve 164 = .ok (.iconst 4, 1) := by decide +kernel
theorem dR_solve_165 : decode bR_solve 165 = .ok (.iadd, 1) := by decide +kernel
theorem dR_solve_166 : decode bR_solve 166 = .ok (.lload 4, 2) := by decide +kernel
theorem dR_solve_168 : decode bR_solve 168 = .ok (.lastore, 1) := by decide +kernel
theorem dR_solve_169 : decode bR_solve 169 = .ok (.iinc 3 1, 3) := by decide +kernel
theorem dR_solve_172 : decode bR_solve 172 = .ok (.goto (-165), 3) := by decide +kernel
theorem dR_solve_175 : decode bR_solve 175 = .ok (.lconst 1, 1) := by decide +kernel
theorem dR_solve_176 : decode bR_solve 176 = .ok (.lstore_n 3, 1) := by decide +kernel
theorem dR_solve_177 : decode bR_solve 177 = .ok (.iconst 0, 1) := by decide +kernel
theorem dR_solve_178 : decode bR_solve 178 = .ok (.istore 5, 2) := by decide +kernel
theorem dR_solve_180 : decode bR_solve 180 = .ok (.iload 5, 2) := by decide +kernel
theorem dR_solve_182 : decode bR_solve 182 = .ok (.iload_n 2, 1) := by decide +kernel
theorem dR_solve_183 : decode bR_solve 183 = .ok (.if_icmp .ge 238, 3) := by decide +kernel
theorem dR_solve_186 : decode bR_solve 186 = .ok (.iload 5, 2) := by decide +kernel
theorem dR_solve_188 : decode bR_solve 188 = .ok (.istore 6, 2) := by decide +kernel
theorem dR_solve_190 : decode bR_solve 190 = .ok (.iload 6, 2) := by decide +kernel
theorem dR_solve_192 : decode bR_solve 192 = .ok (.iload_n 2, 1) := by decide +kernel
theorem dR_solve_193 : decode bR_solve 193 = .ok (.if_icmp .ge 26, 3) := by decide +kernel
theorem dR_solve_196 : decode bR_solve 196 = .ok (.aload_n 0, 1) := by decide +kernel
theorem dR_solve_197 : decode bR_solve 197 = .ok (.getfield 55, 3) := by decide +kernel
theorem dR_solve_200 : decode bR_solve 200 = .ok (.iconst 5, 1) := by decide +kernel
theorem dR_solve_201 : decode bR_solve 201 = .ok (.iload 6, 2) := by decide +kernel
theorem dR_solve_203 : decode bR_solve 203 = .ok (.imul, 1) := by decide +kernel
theorem dR_solve_204 : decode bR_solve 204 = .ok (.iload 5, 2) := by decide +kernel
theorem dR_solve_206 : decode bR_solve 206 = .ok (.iadd, 1) := by decide +kernel
theorem dR_solve_207 : decode bR_solve 207 = .ok (.laload, 1) := by decide +kernel
theorem dR_solve_208 : decode bR_solve 208 = .ok (.lconst 0, 1) := by decide +kernel
theorem dR_solve_209 : decode bR_solve 209 = .ok (.lcmp, 1) := by decide +kernel
theorem dR_solve_210 : decode bR_solve 210 = .ok (.ifCond .ne 9, 3) := by decide +kernel
theorem dR_solve_213 : decode bR_solve 213 = .ok (.iinc 6 1, 3) := by decide +kernel
theorem dR_solve_216 : decode bR_solve 216 = .ok (.goto (-26), 3) := by decide +kernel
theorem dR_solve_219 : decode bR_solve 219 = .ok (.iload 6, 2) := by decide +kernel
theorem dR_solve_221 : decode bR_solve 221 = .ok (.iload_n 2, 1) := by decide +kernel
theorem dR_solve_222 : decode bR_solve 222 = .ok (.if_icmp .ne 5, 3) := by decide +kernel
theorem dR_solve_225 : decode bR_solve 225 = .ok (.iconst 0, 1) := by decide +kernel
theorem dR_solve_226 : decode bR_solve 226 = .ok (.ireturn, 1) := by decide +kernel
theorem dR_solve_227 : decode bR_solve 227 = .ok (.iconst 0, 1) := by decide +kernel
theorem dR_solve_228 : decode bR_solve 228 = .ok (.istore 7, 2) := by decide +kernel
theorem dR_solve_230 : decode bR_solve 230 = .ok (.iload 7, 2) := by decide +kernel
theorem dR_solve_232 : decode bR_solve 232 = .ok (.iconst 5, 1) := by decide +kernel
theorem dR_solve_233 : decode bR_solve 233 = .ok (.if_icmp .ge 69, 3) := by decide +kernel
theorem dR_solve_236 : decode bR_solve 236 = .ok (.iload 6, 2) := by decide +kernel
theorem dR_solve_238 : decode bR_solve 238 = .ok (.iload 5, 2) := by decide +kernel
theorem dR_solve_240 : decode bR_solve 240 = .ok (.if_icmp .eq 62, 3) := by decide +kernel
theorem dR_solve_243 : decode bR_solve 243 = .ok (.aload_n 0, 1) := by decide +kernel
theorem dR_solve_244 : decode bR_solve 244 = .ok (.getfield 55, 3) := by decide +kernel
theorem dR_solve_247 : decode bR_solve 247 = .ok (.iconst 5, 1) := by decide +kernel
theorem dR_solve_248 : decode bR_solve 248 = .ok (.iload 6, 2) := by decide +kernel
theorem dR_solve_250 : decode bR_solve 250 = .ok (.imul, 1) := by decide +kernel
theorem dR_solve_251 : decode bR_solve 251 = .ok (.iload 7, 2) := by decide +kernel
theorem dR_solve_253 : decode bR_solve 253 = .ok (.iadd, 1) := by decide +kernel
theorem dR_solve_254 : decode bR_solve 254 = .ok (.laload, 1) := by decide +kernel
theorem dR_solve_255 : decode bR_solve 255 = .ok (.lstore 8, 2) := by decide +kernel
theorem dR_solve_257 : decode bR_solve 257 = .ok (.aload_n 0, 1) := by decide +kernel
theorem dR_solve_258 : decode bR_solve 258 = .ok (.getfield 55, 3) := by decide +kernel
theorem dR_solve_261 : decode bR_solve 261 = .ok (.iconst 5, 1) := by decide +kernel
theorem dR_solve_262 : decode bR_solve 262 = .ok (.iload 6, 2) := by decide +kernel
theorem dR_solve_264 : decode bR_solve 264 = .ok (.imul, 1) := by decide +kernel
theorem dR_solve_265 : decode bR_solve 265 = .ok (.iload 7, 2) := by decide +kernel
theorem dR_solve_267 : decode bR_solve 267 = .ok (.iadd, 1) := by decide +kernel
theorem dR_solve_268 : decode bR_solve 268 = .ok (.aload_n 0, 1) := by decide +kernel
theorem dR_solve_269 : decode bR_solve 269 = .ok (.getfield 55, 3) := by decide +kernel
theorem dR_solve_272 : decode bR_solve 272 = .ok (.iconst 5, 1) := by decide +kernel
theorem dR_solve_273 : decode bR_solve 273 = .ok (.iload 5, 2) := by decide +kernel
theorem dR_solve_275 : decode bR_solve 275 = .ok (.imul, 1) := by decide +kernel
theorem dR_solve_276 : decode bR_solve 276 = .ok (.iload 7, 2) := by decide +kernel
theorem dR_solve_278 : decode bR_solve 278 = .ok (.iadd, 1) := by decide +kernel
theorem dR_solve_279 : decode bR_solve 279 = .ok (.laload, 1) := by decide +kernel
theorem dR_solve_280 : decode bR_solve 280 = .ok (.lastore, 1) := by decide +kernel
theorem dR_solve_281 : decode bR_solve 281 = .ok (.aload_n 0, 1) := by decide +kernel
theorem dR_solve_282 : decode bR_solve 282 = .ok (.getfield 55, 3) := by decide +kernel
theorem dR_solve_285 : decode bR_solve 285 = .ok (.iconst 5, 1) := by decide +kernel
theorem dR_solve_286 : decode bR_solve 286 = .ok (.iload 5, 2) := by decide +kernel
theorem dR_solve_288 : decode bR_solve 288 = .ok (.imul, 1) := by decide +kernel
theorem dR_solve_289 : decode bR_solve 289 = .ok (.iload 7, 2) := by decide +kernel
theorem dR_solve_291 : decode bR_solve 291 = .ok (.iadd, 1) := by decide +kernel
theorem dR_solve_292 : decode bR_solve 292 = .ok (.lload 8, 2) := by decide +kernel
theorem dR_solve_294 : decode bR_solve 294 = .ok (.lneg, 1) := by decide +kernel
theorem dR_solve_295 : decode bR_solve 295 = .ok (.lastore, 1) := by decide +kernel
theorem dR_solve_296 : decode bR_solve 296 = .ok (.iinc 7 1, 3) := by decide +kernel
theorem dR_solve_299 : decode bR_solve 299 = .ok (.goto (-69), 3) := by decide +kernel
theorem dR_solve_302 : decode bR_solve 302 = .ok (.aload_n 0, 1) := by decide +kernel
theorem dR_solve_303 : decode bR_solve 303 = .ok (.getfield 55, 3) := by decide +kernel
theorem dR_solve_306 : decode bR_solve 306 = .ok (.iconst 5, 1) := by decide +kernel
theorem dR_solve_307 : decode bR_solve 307 = .ok (.iload 5, 2) := by decide +kernel
theorem dR_solve_309 : decode bR_solve 309 = .ok (.imul, 1) := by decide +kernel
theorem dR_solve_310 : decode bR_solve 310 = .ok (.iload 5, 2) := by decide +kernel
theorem dR_solve_312 : decode bR_solve 312 = .ok (.iadd, 1) := by decide +kernel
theorem dR_solve_313 : decode bR_solve 313 = .ok (.laload, 1) := by decide +kernel
theorem dR_solve_314 : decode bR_solve 314 = .ok (.lstore 7, 2) := by decide +kernel
theorem dR_solve_316 : decode bR_solve 316 = .ok (.iconst 0, 1) := by decide +kernel
theorem dR_solve_317 : decode bR_solve 317 = .ok (.istore 9, 2) := by decide +kernel
theorem dR_solve_319 : decode bR_solve 319 = .ok (.iload 9, 2) := by decide +kernel
theorem dR_solve_321 : decode bR_solve 321 = .ok (.iload_n 2, 1) := by decide +kernel
theorem dR_solve_322 : decode bR_solve 322 = .ok (.if_icmp .ge 90, 3) := by decide +kernel
theorem dR_solve_325 : decode bR_solve 325 = .ok (.iload 9, 2) := by decide +kernel
theorem dR_solve_327 : decode bR_solve 327 = .ok (.iload 5, 2) := by decide +kernel
theorem dR_solve_329 : decode bR_solve 329 = .ok (.if_icmp .eq 77, 3) := by decide +kernel
theorem dR_solve_332 : decode bR_solve 332 = .ok (.aload_n 0, 1) := by decide +kernel
theorem dR_solve_333 : decode bR_solve 333 = .ok (.getfield 55, 3) := by decide +kernel
theorem dR_solve_336 : decode bR_solve 336 = .ok (.iconst 5, 1) := by decide +kernel
theorem dR_solve_337 : decode bR_solve 337 = .ok (.iload 9, 2) := by decide +kernel
theorem dR_solve_339 : decode bR_solve 339 = .ok (.imul, 1) := by decide +kernel
theorem dR_solve_340 : decode bR_solve 340 = .ok (.iload 5, 2) := by decide +kernel
theorem dR_solve_342 : decode bR_solve 342 = .ok (.iadd, 1) := by decide +kernel
theorem dR_solve_343 : decode bR_solve 343 = .ok (.laload, 1) := by decide +kernel
theorem dR_solve_344 : decode bR_solve 344 = .ok (.lstore 10, 2) := by decide +kernel
theorem dR_solve_346 : decode bR_solve 346 = .ok (.iconst 0, 1) := by decide +kernel
theorem dR_solve_347 : decode bR_solve 347 = .ok (.istore 12, 2) := by decide +kernel
theorem dR_solve_349 : decode bR_solve 349 = .ok (.iload 12, 2) := by decide +kernel
theorem dR_solve_351 : decode bR_solve 351 = .ok (.iconst 5, 1) := by decide +kernel
theorem dR_solve_352 : decode bR_solve 352 = .ok (.if_icmp .ge 54, 3) := by decide +kernel
theorem dR_solve_355 : decode bR_solve 355 = .ok (.aload_n 0, 1) := by decide +kernel
theorem dR_solve_356 : decode bR_solve 356 = .ok (.getfield 55, 3) := by decide +kernel
theorem dR_solve_359 : decode bR_solve 359 = .ok (.iconst 5, 1) := by decide +kernel
theorem dR_solve_360 : decode bR_solve 360 = .ok (.iload 9, 2) := by decide +kernel
theorem dR_solve_362 : decode bR_solve 362 = .ok (.imul, 1) := by decide +kernel
theorem dR_solve_363 : decode bR_solve 363 = .ok (.iload 12, 2) := by decide +kernel
theorem dR_solve_365 : decode bR_solve 365 = .ok (.iadd, 1) := by decide +kernel
theorem dR_solve_366 : decode bR_solve 366 = .ok (.aload_n 0, 1) := by decide +kernel
theorem dR_solve_367 : decode bR_solve 367 = .ok (.getfield 55, 3) := by decide +kernel
theorem dR_solve_370 : decode bR_solve 370 = .ok (.iconst 5, 1) := by decide +kernel
theorem dR_solve_371 : decode bR_solve 371 = .ok (.iload 9, 2) := by decide +kernel
theorem dR_solve_373 : decode bR_solve 373 = .ok (.imul, 1) := by decide +kernel
theorem dR_solve_374 : decode bR_solve 374 = .ok (.iload 12, 2) := by decide +kernel
theorem dR_solve_376 : decode bR_solve 376 = .ok (.iadd, 1) := by decide +kernel
theorem dR_solve_377 : decode bR_solve 377 = .ok (.laload, 1) := by decide +kernel
theorem dR_solve_378 : decode bR_solve 378 = .ok (.lload 7, 2) := by decide +kernel
theorem dR_solve_380 : decode bR_solve 380 = .ok (.lmul, 1) := by decide +kernel
theorem dR_solve_381 : decode bR_solve 381 = .ok (.lload 10, 2) := by decide +kernel
theorem dR_solve_383 : decode bR_solve 383 = .ok (.aload_n 0, 1) := by decide +kernel
theorem dR_solve_384 : decode bR_solve 384 = .ok (.getfield 55, 3) := by decide +kernel
theorem dR_solve_387 : decode bR_solve 387 = .ok (.iconst 5, 1) := by decide +kernel
theorem dR_solve_388 : decode bR_solve 388 = .ok (.iload 5, 2) := by decide +kernel
theorem dR_solve_390 : decode bR_solve 390 = .ok (.imul, 1) := by decide +kernel
theorem dR_solve_391 : decode bR_solve 391 = .ok (.iload 12, 2) := by decide +kernel
theorem dR_solve_393 : decode bR_solve 393 = .ok (.iadd, 1) := by decide +kernel
theorem dR_solve_394 : decode bR_solve 394 = .ok (.laload, 1) := by decide +kernel
theorem dR_solve_395 : decode bR_solve 395 = .ok (.lmul, 1) := by decide +kernel
theorem dR_solve_396 : decode bR_solve 396 = .ok (.lsub, 1) := by decide +kernel
theorem dR_solve_397 : decode bR_solve 397 = .ok (.lload_n 3, 1) := by decide +kernel
theorem dR_solve_398 : decode bR_solve 398 = .ok (.ldiv, 1) := by decide +kernel
theorem dR_solve_399 : decode bR_solve 399 = .ok (.lastore, 1) := by decide +kernel
theorem dR_solve_400 : decode bR_solve 400 = .ok (.iinc 12 1, 3) := by decide +kernel
theorem dR_solve_403 : decode bR_solve 403 = .ok (.goto (-54), 3) := by decide +kernel
theorem dR_solve_406 : decode bR_solve 406 = .ok (.iinc 9 1, 3) := by decide +kernel
theorem dR_solve_409 : decode bR_solve 409 = .ok (.goto (-90), 3) := by decide +kernel
theorem dR_solve_412 : decode bR_solve 412 = .ok (.lload 7, 2) := by decide +kernel
theorem dR_solve_414 : decode bR_solve 414 = .ok (.lstore_n 3, 1) := by decide +kernel
theorem dR_solve_415 : decode bR_solve 415 = .ok (.iinc 5 1, 3) := by decide +kernel
theorem dR_solve_418 : decode bR_solve 418 = .ok (.goto (-238), 3) := by decide +kernel
theorem dR_solve_421 : decode bR_solve 421 = .ok (.aload_n 0, 1) := by decide +kernel
theorem dR_solve_422 : decode bR_solve 422 = .ok (.iload_n 2, 1) := by decide +kernel
theorem dR_solve_423 : decode bR_solve 423 = .ok (.ifCond .ne 7, 3) := by decide +kernel
theorem dR_solve_426 : decode bR_solve 426 = .ok (.lconst 1, 1) := by decide +kernel
theorem dR_solve_427 : decode bR_solve 427 = .ok (.goto 4, 3) := by decide +kernel
theorem dR_solve_430 : decode bR_solve 430 = .ok (.lload_n 3, 1) := by decide +kernel
theorem dR_solve_431 : decode bR_solve 431 = .ok (.putfield 87, 3) := by decide +kernel
theorem dR_solve_434 : decode bR_solve 434 = .ok (.aload_n 0, 1) := by decide +kernel
theorem dR_solve_435 : decode bR_solve 435 = .ok (.getfield 87, 3) := by decide +kernel
theorem dR_solve_438 : decode bR_solve 438 = .ok (.lconst 0, 1) := by decide +kernel
theorem dR_solve_439 : decode bR_solve 439 = .ok (.lcmp, 1) := by decide +kernel
theorem dR_solve_440 : decode bR_solve 440 = .ok (.ifCond .ge 9, 3) := by decide +kernel
theorem dR_solve_443 : decode bR_solve 443 = .ok (.ldc2_w 101, 3) := by decide +kernel
theorem dR_solve_446 : decode bR_solve 446 = .ok (.goto 4, 3) := by decide +kernel
theorem dR_solve_449 : decode bR_solve 449 = .ok (.lconst 1, 1) := by decide +kernel
theorem dR_solve_450 : decode bR_solve 450 = .ok (.lstore 5, 2) := by decide +kernel
theorem dR_solve_452 : decode bR_solve 452 = .ok (.aload_n 0, 1) := by decide +kernel
theorem dR_solve_453 : decode bR_solve 453 = .ok (.aload_n 0, 1) := by decide +kernel
theorem dR_solve_454 : decode bR_solve 454 = .ok (.getfield 87, 3) := by decide +kernel
theorem dR_solve_457 : decode bR_solve 457 = .ok (.lload 5, 2) := by decide +kernel
theorem dR_solve_459 : decode bR_solve 459 = .ok (.lmul, 1) := by decide +kernel
theorem dR_solve_460 : decode bR_solve 460 = .ok (.putfield 87, 3) := by decide +kernel
theorem dR_solve_463 : decode bR_solve 463 = .ok (.iconst 0, 1) := by decide +kernel
theorem dR_solve_464 : decode bR_solve 464 = .ok (.istore 7, 2) := by decide +kernel
theorem dR_solve_466 : decode bR_solve 466 = .ok (.iload 7, 2) := by decide +kernel
theorem dR_solve_468 : decode bR_solve 468 = .ok (.iload_n 2, 1) := by decide +kernel
theorem dR_solve_469 : decode bR_solve 469 = .ok (.if_icmp .ge 35, 3) := by decide +kernel
theorem dR_solve_472 : decode bR_solve 472 = .ok (.aload_n 0, 1) := by decide +kernel
theorem dR_solve_473 : decode bR_solve 473 = .ok (.getfield 58, 3) := by decide +kernel
theorem dR_solve_476 : decode bR_solve 476 = .ok (.aload_n 0, 1) := by decide +kernel
theorem dR_solve_477 : decode bR_solve 477 = .ok (.getfield 52, 3) := by decide +kernel
theorem dR_solve_480 : decode bR_solve 480 = .ok (.iload 7, 2) := by decide +kernel
theorem dR_solve_482 : decode bR_solve 482 = .ok (.iaload, 1) := by decide +kernel
theorem dR_solve_483 : decode bR_solve 483 = .ok (.aload_n 0, 1) := by decide +kernel
theorem dR_solve_484 : decode bR_solve 484 = .ok (.getfield 55, 3) := by decide +kernel
theorem dR_solve_487 : decode bR_solve 487 = .ok (.iconst 5, 1) := by decide +kernel
theorem dR_solve_488 : decode bR_solve 488 = .ok (.iload 7, 2) := by decide +kernel
theorem dR_solve_490 : decode bR_solve 490 = .ok (.imul, 1) := by decide +kernel
theorem dR_solve_491 : decode bR_solve 491 = .ok (.iconst 4, 1) := by decide +kernel
theorem dR_solve_492 : decode bR_solve 492 = .ok (.iadd, 1) := by decide +kernel
theorem dR_solve_493 : decode bR_solve 493 = .ok (.laload, 1) := by decide +kernel
theorem dR_solve_494 : decode bR_solve 494 = .ok (.lload 5, 2) := by decide +kernel
theorem dR_solve_496 : decode bR_solve 496 = .ok (.lmul, 1) := by decide +kernel
theorem dR_solve_497 : decode bR_solve 497 = .ok (.lastore, 1) := by decide +kernel
theorem dR_solve_498 : decode bR_solve 498 = .ok (.iinc 7 1, 3) := by decide +kernel
theorem dR_solve_501 : decode bR_solve 501 = .ok (.goto (-35), 3) := by decide +kernel
theorem dR_solve_504 : decode bR_solve 504 = .ok (.lconst 0, 1) := by decide +kernel
theorem dR_solve_505 : decode bR_solve 505 = .ok (.lstore 7, 2) := by decide +kernel
theorem dR_solve_507 : decode bR_solve 507 = .ok (.iconst 0, 1) := by decide +kernel
theorem dR_solve_508 : decode bR_solve 508 = .ok (.istore 9, 2) := by decide +kernel
theorem dR_solve_510 : decode bR_solve 510 = .ok (.iload 9, 2) := by decide +kernel
theorem dR_solve_512 : decode bR_solve 512 = .ok (.aload_n 0, 1) := by decide +kernel
theorem dR_solve_513 : decode bR_solve 513 = .ok (.getfield 67, 3) := by decide +kernel
theorem dR_solve_516 : decode bR_solve 516 = .ok (.if_icmp .ge 61, 3) := by decide +kernel
theorem dR_solve_519 : decode bR_solve 519 = .ok (.aload_n 0, 1) := by decide +kernel
theorem dR_solve_520 : decode bR_solve 520 = .ok (.getfield 58, 3) := by decide +kernel
theorem dR_solve_523 : decode bR_solve 523 = .ok (.iload 9, 2) := by decide +kernel
theorem dR_solve_525 : decode bR_solve 525 = .ok (.aload_n 0, 1) := by decide +kernel
theorem dR_solve_526 : decode bR_solve 526 = .ok (.getfield 49, 3) := by decide +kernel
theorem dR_solve_529 : decode bR_solve 529 = .ok (.iload 9, 2) := by decide +kernel
theorem dR_solve_531 : decode bR_solve 531 = .ok (.iaload, 1) := by decide +kernel
theorem dR_solve_532 : decode bR_solve 532 = .ok (.ifCond .ge 13, 3) := by decide +kernel
theorem dR_solve_535 : decode bR_solve 535 = .ok (.aload_n 0, 1) := by decide +kernel
theorem dR_solve_536 : decode bR_solve 536 = .ok (.getfield 58, 3) := by decide +kernel
theorem dR_solve_539 : decode bR_solve 539 = .ok (.iload 9, 2) := by decide +kernel
theorem dR_solve_541 : decode bR_solve 541 = .ok (.laload, 1) := by decide +kernel
theorem dR_solve_542 : decode bR_solve 542 = .ok (.goto 16, 3) := by decide +kernel
theorem dR_solve_545 : decode bR_solve 545 = .ok (.aload_n 0, 1) := by decide +kernel
theorem dR_solve_546 : decode bR_solve 546 = .ok (.getfield 49, 3) := by decide +kernel
theorem dR_solve_549 : decode bR_solve 549 = .ok (.iload 9, 2) := by decide +kernel
theorem dR_solve_551 : decode bR_solve 551 = .ok (.iaload, 1) := by decide +kernel
theorem dR_solve_552 : decode bR_solve 552 = .ok (.i2l, 1) := by decide +kernel
theorem dR_solve_553 : decode bR_solve 553 = .ok (.aload_n 0, 1) := by decide +kernel
theorem dR_solve_554 : decode bR_solve 554 = .ok (.getfield 87, 3) := by decide +kernel
theorem dR_solve_557 : decode bR_solve 557 = .ok (.lmul, 1) := by decide +kernel
theorem dR_solve_558 : decode bR_solve 558 = .ok (.lastore, 1) := by decide +kernel
theorem dR_solve_559 : decode bR_solve 559 = .ok (.lload 7, 2) := by decide +kernel
theorem dR_solve_561 : decode bR_solve 561 = .ok (.aload_n 0, 1) := by decide +kernel
theorem dR_solve_562 : decode bR_solve 562 = .ok (.getfield 58, 3) := by decide +kernel
theorem dR_solve_565 : decode bR_solve 565 = .ok (.iload 9, 2) := by decide +kernel
theorem dR_solve_567 : decode bR_solve 567 = .ok (.laload, 1) := by decide +kernel
theorem dR_solve_568 : decode bR_solve 568 = .ok (.ladd, 1) := by decide +kernel
theorem dR_solve_569 : decode bR_solve 569 = .ok (.lstore 7, 2) := by decide +kernel
theorem dR_solve_571 : decode bR_solve 571 = .ok (.iinc 9 1, 3) := by decide +kernel
theorem dR_solve_574 : decode bR_solve 574 = .ok (.goto (-64), 3) := by decide +kernel
theorem dR_solve_577 : decode bR_solve 577 = .ok (.lload 7, 2) := by decide +kernel
theorem dR_solve_579 : decode bR_solve 579 = .ok (.iload_n 1, 1) := by decide +kernel
theorem dR_solve_580 : decode bR_solve 580 = .ok (.i2l, 1) := by decide +kernel
theorem dR_solve_581 : decode bR_solve 581 = .ok (.aload_n 0, 1) := by decide +kernel
theorem dR_solve_582 : decode bR_solve 582 = .ok (.getfield 87, 3) := by decide +kernel
theorem dR_solve_585 : decode bR_solve 585 = .ok (.lmul, 1) := by decide +kernel
theorem dR_solve_586 : decode bR_solve 586 = .ok (.lcmp, 1) := by decide +kernel
theorem dR_solve_587 : decode bR_solve 587 = .ok (.ifCond .ne 7, 3) := by decide +kernel
theorem dR_solve_590 : decode bR_solve 590 = .ok (.iconst 1, 1) := by decide +kernel
theorem dR_solve_591 : decode bR_solve 591 = .ok (.goto 4, 3) := by decide +kernel
theorem dR_solve_594 : decode bR_solve 594 = .ok (.iconst 0, 1) := by decide +kernel
theorem dR_solve_595 : decode bR_solve 595 = .ok (.ireturn, 1) := by decide +kernel
theorem dR_costOf_0 : decode bR_costOf 0 = .ok (.lconst 0, 1) := by decide +kernel
theorem dR_costOf_1 : decode bR_costOf 1 = .ok (.lstore_n 2, 1) := by decide +kernel
theorem dR_costOf_2 : decode bR_costOf 2 = .ok (.iconst 0, 1) := by decide +kernel
theorem dR_costOf_3 : decode bR_costOf 3 = .ok (.istore 4, 2) := by decide +kernel
theorem dR_costOf_5 : decode bR_costOf 5 = .ok (.iload 4, 2) := by decide +kernel
theorem dR_costOf_7 : decode bR_costOf 7 = .ok (.aload_n 0, 1) := by decide +kernel
theorem dR_costOf_8 : decode bR_costOf 8 = .ok (.getfield 67, 3) := by decide +kernel
theorem dR_costOf_11 : decode bR_costOf 11 = .ok (.if_icmp .ge 25, 3) := by decide +kernel
theorem dR_costOf_14 : decode bR_costOf 14 = .ok (.lload_n 2, 1) := by decide +kernel
theorem dR_costOf_15 : decode bR_costOf 15 = .ok (.aload_n 0, 1) := by decide +kernel
theorem dR_costOf_16 : decode bR_costOf 16 = .ok (.getfield 7, 3) := by decide +kernel
theorem dR_costOf_19 : decode bR_costOf 19 = .ok (.iload 4, 2) := by decide +kernel
theorem dR_costOf_21 : decode bR_costOf 21 = .ok (.iaload, 1) := by decide +kernel
theorem dR_costOf_22 : decode bR_costOf 22 = .ok (.i2l, 1) := by decide +kernel
theorem dR_costOf_23 : decode bR_costOf 23 = .ok (.aload_n 1, 1) := by decide +kernel
theorem dR_costOf_24 : decode bR_costOf 24 = .ok (.iload 4, 2) := by decide +kernel
theorem dR_costOf_26 : decode bR_costOf 26 = .ok (.laload, 1) := by decide +kernel
theorem dR_costOf_27 : decode bR_costOf 27 = .ok (.lmul, 1) := by decide +kernel
theorem dR_costOf_28 : decode bR_costOf 28 = .ok (.ladd, 1) := by decide +kernel
theorem dR_costOf_29 : decode bR_costOf 29 = .ok (.lstore_n 2, 1) := by decide +kernel
theorem dR_costOf_30 : decode bR_costOf 30 = .ok (.iinc 4 1, 3) := by decide +kernel
theorem dR_costOf_33 : decode bR_costOf 33 = .ok (.goto (-28), 3) := by decide +kernel
theorem dR_costOf_36 : decode bR_costOf 36 = .ok (.lload_n 2, 1) := by decide +kernel
theorem dR_costOf_37 : decode bR_costOf 37 = .ok (.lreturn, 1) := by decide +kernel
theorem dR_isBetter_0 : decode bR_isBetter 0 = .ok (.aload_n 0, 1) := by decide +kernel
theorem dR_isBetter_1 : decode bR_isBetter 1 = .ok (.aload_n 0, 1) := by decide +kernel
theorem dR_isBetter_2 : decode bR_isBetter 2 = .ok (.getfield 58, 3) := by decide +kernel
theorem dR_isBetter_5 : decode bR_isBetter 5 = .ok (.invokevirtual 103, 3) := by decide +kernel
theorem dR_isBetter_8 : decode bR_isBetter 8 = .ok (.aload_n 0, 1) := by decide +kernel
theorem dR_isBetter_9 : decode bR_isBetter 9 = .ok (.getfield 107, 3) := by decide +kernel
theorem dR_isBetter_12 : decode bR_isBetter 12 = .ok (.lmul, 1) := by decide +kernel
theorem dR_isBetter_13 : decode bR_isBetter 13 = .ok (.lstore_n 1, 1) := by decide +kernel
theorem dR_isBetter_14 : decode bR_isBetter 14 = .ok (.aload_n 0, 1) := by decide +kernel
theorem dR_isBetter_15 : decode bR_isBetter 15 = .ok (.aload_n 0, 1) := by decide +kernel
theorem dR_isBetter_16 : decode bR_isBetter 16 = .ok (.getfield 64, 3) := by decide +kernel
theorem dR_isBetter_19 : decode bR_isBetter 19 = .ok (.invokevirtual 103, 3) := by decide +kernel
theorem dR_isBetter_22 : decode bR_isBetter 22 = .ok (.aload_n 0, 1) := by decide +kernel
theorem dR_isBetter_23 : decode bR_isBetter 23 = .ok (.getfield 87, 3) := by decide +kernel
theorem dR_isBetter_26 : decode bR_isBetter 26 = .ok (.lmul, 1) := by decide +kernel
theorem dR_isBetter_27 : decode bR_isBetter 27 = .ok (.lstore_n 3, 1) := by decide +kernel
theorem dR_isBetter_28 : decode bR_isBetter 28 = .ok (.iconst 0, 1) := by decide +kernel
theorem dR_isBetter_29 : decode bR_isBetter 29 = .ok (.istore 5, 2) := by decide +kernel
theorem dR_isBetter_31 : decode bR_isBetter 31 = .ok (.iload 5, 2) := by decide +kernel
theorem dR_isBetter_33 : decode bR_isBetter 33 = .ok (.aload_n 0, 1) := by decide +kernel
theorem dR_isBetter_34 : decode bR_isBetter 34 = .ok (.getfield 67, 3) := by decide +kernel
theorem dR_isBetter_37 : decode bR_isBetter 37 = .ok (.if_icmp .ge 41, 3) := by decide +kernel
theorem dR_isBetter_40 : decode bR_isBetter 40 = .ok (.lload_n 1, 1) := by decide +kernel
theorem dR_isBetter_41 : decode bR_isBetter 41 = .ok (.lload_n 3, 1) := by decide +kernel
theorem dR_isBetter_42 : decode bR_isBetter 42 = .ok (.lcmp, 1) := by decide +kernel
theorem dR_isBetter_43 : decode bR_isBetter 43 = .ok (.ifCond .ne 35, 3) := by decide +kernel
theorem dR_isBetter_46 : decode bR_isBetter 46 = .ok (.aload_n 0, 1) := by decide +kernel
theorem dR_isBetter_47 : decode bR_isBetter 47 = .ok (.getfield 58, 3) := by decide +kernel
theorem dR_isBetter_50 : decode bR_isBetter 50 = .ok (.iload 5, 2) := by decide +kernel
theorem dR_isBetter_52 : decode bR_isBetter 52 = .ok (.laload, 1) := by decide +kernel
theorem dR_isBetter_53 : decode bR_isBetter 53 = .ok (.aload_n 0, 1) := by decide +kernel
theorem dR_isBetter_54 : decode bR_isBetter 54 = .ok (.getfield 107, 3) := by decide +kernel
theorem dR_isBetter_57 : decode bR_isBetter 57 = .ok (.lmul, 1) := by decide +kernel
theorem dR_isBetter_58 : decode bR_isBetter 58 = .ok (.lstore_n 1, 1) := by decide +kernel
theorem dR_isBetter_59 : decode bR_isBetter 59 = .ok (.aload_n 0, 1) := by decide +kernel
theorem dR_isBetter_60 : decode bR_isBetter 60 = .ok (.getfield 64, 3) := by decide +kernel
theorem dR_isBetter_63 : decode bR_isBetter 63 = .ok (.iload 5, 2) := by decide +kernel
theorem dR_isBetter_65 : decode bR_isBetter 65 = .ok (.laload, 1) := by decide +kernel
theorem dR_isBetter_66 : decode bR_isBetter 66 = .ok (.aload_n 0, 1) := by decide +kernel
theorem dR_isBetter_67 : decode bR_isBetter 67 = .ok (.getfield 87, 3) := by decide +kernel
theorem dR_isBetter_70 : decode bR_isBetter 70 = .ok (.lmul, 1) := by decide +kernel
theorem dR_isBetter_71 : decode bR_isBetter 71 = .ok (.lstore_n 3, 1) := by decide +kernel
theorem dR_isBetter_72 : decode bR_isBetter 72 = .ok (.iinc 5 1, 3) := by decide +kernel
theorem dR_isBetter_75 : decode bR_isBetter 75 = .ok (.goto (-44), 3) := by decide +kernel
theorem dR_isBetter_78 : decode bR_isBetter 78 = .ok (.lload_n 1, 1) := by decide +kernel
theorem dR_isBetter_79 : decode bR_isBetter 79 = .ok (.lload_n 3, 1) := by decide +kernel
theorem dR_isBetter_80 : decode bR_isBetter 80 = .ok (.lcmp, 1) := by decide +kernel
theorem dR_isBetter_81 : decode bR_isBetter 81 = .ok (.ifCond .ge 7, 3) := by decide +kernel
theorem dR_isBetter_84 : decode bR_isBetter 84 = .ok (.iconst 1, 1) := by decide +kernel
theorem dR_isBetter_85 : decode bR_isBetter 85 = .ok (.goto 4, 3) := by decide +kernel
theorem dR_isBetter_88 : decode bR_isBetter 88 = .ok (.iconst 0, 1) := by decide +kernel
theorem dR_isBetter_89 : decode bR_isBetter 89 = .ok (.ireturn, 1) := by decide +kernel
theorem dR_look_0 : decode bR_look 0 = .ok (.aload_n 0, 1) := by decide +kernel
theorem dR_look_1 : decode bR_look 1 = .ok (.iload_n 1, 1) := by decide +kernel
theorem dR_look_2 : decode bR_look 2 = .ok (.invokevirtual 110, 3) := by decide +kernel
theorem dR_look_5 : decode bR_look 5 = .ok (.ifCond .eq 11, 3) := by decide +kernel
theorem dR_look_8 : decode bR_look 8 = .ok (.aload_n 0, 1) := by decide +kernel
theorem dR_look_9 : decode bR_look 9 = .ok (.iload_n 1, 1) := by decide +kernel
theorem dR_look_10 : decode bR_look 10 = .ok (.invokevirtual 113, 3) := by decide +kernel
theorem dR_look_13 : decode bR_look 13 = .ok (.ifCond .ne 5, 3) := by decide +kernel
theorem dR_look_16 : decode bR_look 16 = .ok (.iconst 0, 1) := by decide +kernel
theorem dR_look_17 : decode bR_look 17 = .ok (.ireturn, 1) := by decide +kernel
theorem dR_look_18 : decode bR_look 18 = .ok (.aload_n 0, 1) := by decide +kernel
theorem dR_look_19 : decode bR_look 19 = .ok (.getfield 116, 3) := by decide +kernel
theorem dR_look_22 : decode bR_look 22 = .ok (.ifCond .eq 10, 3) := by decide +kernel
theorem dR_look_25 : decode bR_look 25 = .ok (.aload_n 0, 1) := by decide +kernel
theorem dR_look_26 : decode bR_look 26 = .ok (.invokevirtual 120, 3) := by decide +kernel
theorem dR_look_29 : decode bR_look 29 = .ok (.ifCond .eq 39, 3) := by decide +kernel
theorem dR_look_32 : decode bR_look 32 = .ok (.iconst 0, 1) := by decide +kernel
theorem dR_look_33 : decode bR_look 33 = .ok (.istore_n 2, 1) := by decide +kernel
theorem dR_look_34 : decode bR_look 34 = .ok (.iload_n 2, 1) := by decide +kernel
theorem dR_look_35 : decode bR_look 35 = .ok (.aload_n 0, 1) := by decide +kernel
theorem dR_look_36 : decode bR_look 36 = .ok (.getfield 67, 3) := by decide +kernel
theorem dR_look_39 : decode bR_look 39 = .ok (.if_icmp .ge 21, 3) := by decide +kernel
theorem dR_look_42 : decode bR_look 42 = .ok (.aload_n 0, 1) := by decide +kernel
theorem dR_look_43 : decode bR_look 43 = .ok (.getfield 64, 3) := by decide +kernel
theorem dR_look_46 : decode bR_look 46 = .ok (.iload_n 2, 1) := by decide +kernel
theorem dR_look_47 : decode bR_look 47 = .ok (.aload_n 0, 1) := by decide +kernel
theorem dR_look_48 : decode bR_look 48 = .ok (.getfield 58, 3) := by decide +kernel
theorem dR_look_51 : decode bR_look 51 = .ok (.iload_n 2, 1) := by decide +kernel
theorem dR_look_52 : decode bR_look 52 = .ok (.laload, 1) := by decide +kernel
theorem dR_look_53 : decode bR_look 53 = .ok (.lastore, 1) := by decide +kernel
theorem dR_look_54 : decode bR_look 54 = .ok (.iinc 2 1, 3) := by decide +kernel
theorem dR_look_57 : decode bR_look 57 = .ok (.goto (-23), 3) := by decide +kernel
theorem dR_look_60 : decode bR_look 60 = .ok (.aload_n 0, 1) := by decide +kernel
theorem dR_look_61 : decode bR_look 61 = .ok (.aload_n 0, 1) := by decide +kernel
theorem dR_look_62 : decode bR_look 62 = .ok (.getfield 87, 3) := by decide +kernel
theorem dR_look_65 : decode bR_look 65 = .ok (.putfield 107, 3) := by decide +kernel
theorem dR_look_68 : decode bR_look 68 = .ok (.aload_n 0, 1) := by decide +kernel
theorem dR_look_69 : decode bR_look 69 = .ok (.iconst 1, 1) := by decide +kernel
theorem dR_look_70 : decode bR_look 70 = .ok (.putfield 116, 3) := by decide +kernel
theorem dR_look_73 : decode bR_look 73 = .ok (.iconst 1, 1) := by decide +kernel
theorem dR_look_74 : decode bR_look 74 = .ok (.ireturn, 1) := by decide +kernel
theorem dR_corners_0 : decode bR_corners 0 = .ok (.aload_n 0, 1) := by decide +kernel
theorem dR_corners_1 : decode bR_corners 1 = .ok (.iconst 0, 1) := by decide +kernel
theorem dR_corners_2 : decode bR_corners 2 = .ok (.putfield 98, 3) := by decide +kernel
theorem dR_corners_5 : decode bR_corners 5 = .ok (.iconst 0, 1) := by decide +kernel
theorem dR_corners_6 : decode bR_corners 6 = .ok (.istore_n 3, 1) := by decide +kernel
theorem dR_corners_7 : decode bR_corners 7 = .ok (.iload_n 3, 1) := by decide +kernel
theorem dR_corners_8 : decode bR_corners 8 = .ok (.aload_n 0, 1) := by decide +kernel
theorem dR_corners_9 : decode bR_corners 9 = .ok (.getfield 67, 3) := by decide +kernel
theorem dR_corners_12 : decode bR_corners 12 = .ok (.if_icmp .ge 38, 3) := by decide +kernel
theorem dR_corners_15 : decode bR_corners 15 = .ok (.aload_n 0, 1) := by decide +kernel
theorem dR_corners_16 : decode bR_corners 16 = .ok (.getfield 49, 3) := by decide +kernel
theorem dR_corners_19 : decode bR_corners 19 = .ok (.iload_n 3, 1) := by decide +kernel
theorem dR_corners_20 : decode bR_corners 20 = .ok (.iaload, 1) := by decide +kernel
theorem dR_corners_21 : decode bR_corners 21 = .ok (.ifCond .ge 23, 3) := by decide +kernel
theorem dR_corners_24 : decode bR_corners 24 = .ok (.aload_n 0, 1) := by decide +kernel
theorem dR_corners_25 : decode bR_corners 25 = .ok (.getfield 52, 3) := by decide +kernel
theorem dR_corners_28 : decode bR_corners 28 = .ok (.aload_n 0, 1) := by decide +kernel
theorem dR_corners_29 : decode bR_corners 29 = .ok (.getfield 98, 3) := by decide +kernel
theorem dR_corners_32 : decode bR_corners 32 = .ok (.iload_n 3, 1) := by decide +kernel
theorem dR_corners_33 : decode bR_corners 33 = .ok (.iastore, 1) := by decide +kernel
theorem dR_corners_34 : decode bR_corners 34 = .ok (.aload_n 0, 1) := by decide +kernel
theorem dR_corners_35 : decode bR_corners 35 = .ok (.dup, 1) := by decide +kernel
theorem dR_corners_36 : decode bR_corners 36 = .ok (.getfield 98, 3) := by decide +kernel
theorem dR_corners_39 : decode bR_corners 39 = .ok (.iconst 1, 1) := by decide +kernel
theorem dR_corners_40 : decode bR_corners 40 = .ok (.iadd, 1) := by decide +kernel
theorem dR_corners_41 : decode bR_corners 41 = .ok (.putfield 98, 3) := by decide +kernel
theorem dR_corners_44 : decode bR_corners 44 = .ok (.iinc 3 1, 3) := by decide +kernel
theorem dR_corners_47 : decode bR_corners 47 = .ok (.goto (-40), 3) := by decide +kernel
theorem dR_corners_50 : decode bR_corners 50 = .ok (.aload_n 0, 1) := by decide +kernel
theorem dR_corners_51 : decode bR_corners 51 = .ok (.getfield 98, 3) := by decide +kernel
theorem dR_corners_54 : decode bR_corners 54 = .ok (.iconst 1, 1) := by decide +kernel
theorem dR_corners_55 : decode bR_corners 55 = .ok (.isub, 1) := by decide +kernel
theorem dR_corners_56 : decode bR_corners 56 = .ok (.istore_n 3, 1) := by decide +kernel
theorem dR_corners_57 : decode bR_corners 57 = .ok (.iconst 1, 1) := by decide +kernel
theorem dR_corners_58 : decode bR_corners 58 = .ok (.istore 4, 2) := by decide +kernel
theorem dR_corners_60 : decode bR_corners 60 = .ok (.iload_n 3, 1) := by decide +kernel
theorem dR_corners_61 : decode bR_corners 61 = .ok (.ifCond .le 7, 3) := by decide +kernel
theorem dR_corners_64 : decode bR_corners 64 = .ok (.iconst 0, 1) := by decide +kernel
theorem dR_corners_65 : decode bR_corners 65 = .ok (.goto 5, 3) := by decide +kernel
theorem dR_corners_68 : decode bR_corners 68 = .ok (.bipush 21, 2) := by decide +kernel
theorem dR_corners_70 : decode bR_corners 70 = .ok (.istore 5, 2) := by decide +kernel
theorem dR_corners_72 : decode bR_corners 72 = .ok (.iload 5, 2) := by decide +kernel
theorem dR_corners_74 : decode bR_corners 74 = .ok (.bipush 22, 2) := by decide +kernel
theorem dR_corners_76 : decode bR_corners 76 = .ok (.if_icmp .ge 179, 3) := by decide +kernel
theorem dR_corners_79 : decode bR_corners 79 = .ok (.iload 4, 2) := by decide +kernel
theorem dR_corners_81 : decode bR_corners 81 = .ok (.ifCond .eq 174, 3) := by decide +kernel
theorem dR_corners_84 : decode bR_corners 84 = .ok (.iload_n 3, 1) := by decide +kernel
theorem dR_corners_85 : decode bR_corners 85 = .ok (.ifCond .le 16, 3) := by decide +kernel
theorem dR_corners_88 : decode bR_corners 88 = .ok (.aload_n 0, 1) := by decide +kernel
theorem dR_corners_89 : decode bR_corners 89 = .ok (.getfield 45, 3) := by decide +kernel
theorem dR_corners_92 : decode bR_corners 92 = .ok (.iload 5, 2) := by decide +kernel
theorem dR_corners_94 : decode bR_corners 94 = .ok (.baload, 1) := by decide +kernel
theorem dR_corners_95 : decode bR_corners 95 = .ok (.ifCond .ne 6, 3) := by decide +kernel
theorem dR_corners_98 : decode bR_corners 98 = .ok (.goto 151, 3) := by decide +kernel
theorem dR_corners_101 : decode bR_corners 101 = .ok (.iload_n 3, 1) := by decide +kernel
theorem dR_corners_102 : decode bR_corners 102 = .ok (.iconst 1, 1) := by decide +kernel
theorem dR_corners_103 : decode bR_corners 103 = .ok (.if_icmp .le 10, 3) := by decide +kernel
theorem dR_corners_106 : decode bR_corners 106 = .ok (.iload 5, 2) := by decide +kernel
theorem dR_corners_108 : decode bR_corners 108 = .ok (.iconst 1, 1) := by decide +kernel
theorem dR_corners_109 : decode bR_corners 109 = .ok (.iadd, 1) := by decide +kernel
theorem dR_corners_110 : decode bR_corners 110 = .ok (.goto 5, 3) := by decide +kernel
theorem dR_corners_113 : decode bR_corners 113 = .ok (.bipush 21, 2) := by decide +kernel
theorem dR_corners_115 : decode bR_corners 115 = .ok (.istore 6, 2) := by decide +kernel
theorem dR_corners_117 : decode bR_corners 117 = .ok (.iload 6, 2) := by decide +kernel
theorem dR_corners_119 : decode bR_corners 119 = .ok (.bipush 22, 2) := by decide +kernel
theorem dR_corners_121 : decode bR_corners 121 = .ok (.if_icmp .ge 128, 3) := by decide +kernel
theorem dR_corners_124 : decode bR_corners 124 = .ok (.iload 4, 2) := by decide +kernel
theorem dR_corners_126 : decode bR_corners 126 = .ok (.ifCond .eq 123, 3) := by decide +kernel
theorem dR_corners_129 : decode bR_corners 129 = .ok (.iload_n 3, 1) := by decide +kernel
theorem dR_corners_130 : decode bR_corners 130 = .ok (.iconst 1, 1) := by decide +kernel
theorem dR_corners_131 : decode bR_corners 131 = .ok (.if_icmp .le 16, 3) := by decide +kernel
theorem dR_corners_134 : decode bR_corners 134 = .ok (.aload_n 0, 1) := by decide +kernel
theorem dR_corners_135 : decode bR_corners 135 = .ok (.getfield 45, 3) := by decide +kernel
theorem dR_corners_138 : decode bR_corners 138 = .ok (.iload 6, 2) := by decide +kernel
theorem dR_corners_140 : decode bR_corners 140 = .ok (.baload, 1) := by decide +kernel
theorem dR_corners_141 : decode bR_corners 141 = .ok (.ifCond .ne 6, 3) := by decide +kernel
theorem dR_corners_144 : decode bR_corners 144 = .ok (.goto 99, 3) := by decide +kernel
theorem dR_corners_147 : decode bR_corners 147 = .ok (.iload_n 3, 1) := by decide +kernel
theorem dR_corners_148 : decode bR_corners 148 = .ok (.iconst 2, 1) := by decide +kernel
theorem dR_corners_149 : decode bR_corners 149 = .ok (.if_icmp .le 10, 3) := by decide +kernel
theorem dR_corners_152 : decode bR_corners 152 = .ok (.iload 6, 2) := by decide +kernel
theorem dR_corners_154 : decode bR_corners 154 = .ok (.iconst 1, 1) := by decide +kernel
theorem dR_corners_155 : decode bR_corners 155 = .ok (.iadd, 1) := by decide +kernel
theorem dR_corners_156 : decode bR_corners 156 = .ok (.goto 5, 3) := by decide +kernel
theorem dR_corners_159 : decode bR_corners 159 = .ok (.bipush 21, 2) := by decide +kernel
theorem dR_corners_161 : decode bR_corners 161 = .ok (.istore 7, 2) := by decide +kernel
theorem dR_corners_163 : decode bR_corners 163 = .ok (.iload 7, 2) := by decide +kernel
theorem dR_corners_165 : decode bR_corners 165 = .ok (.bipush 22, 2) := by decide +kernel
theorem dR_corners_167 : decode bR_corners 167 = .ok (.if_icmp .ge 76, 3) := by decide +kernel
theorem dR_corners_170 : decode bR_corners 170 = .ok (.iload 4, 2) := by decide +kernel
theorem dR_corners_172 : decode bR_corners 172 = .ok (.ifCond .eq 71, 3) := by decide +kernel
theorem dR_corners_175 : decode bR_corners 175 = .ok (.iload_n 3, 1) := by decide +kernel
theorem dR_corners_176 : decode bR_corners 176 = .ok (.iconst 2, 1) := by decide +kernel
theorem dR_corners_177 : decode bR_corners 177 = .ok (.if_icmp .le 13, 3) := by decide +kernel
theorem dR_corners_180 : decode bR_corners 180 = .ok (.aload_n 0, 1) := by decide +kernel
theorem dR_corners_181 : decode bR_corners 181 = .ok (.getfield 45, 3) := by decide +kernel
theorem dR_corners_184 : decode bR_corners 184 = .ok (.iload 7, 2) := by decide +kernel
theorem dR_corners_186 : decode bR_corners 186 = .ok (.baload, 1) := by decide +kernel
theorem dR_corners_187 : decode bR_corners 187 = .ok (.ifCond .eq 50, 3) := by decide +kernel
theorem dR_corners_190 : decode bR_corners 190 = .ok (.aload_n 0, 1) := by decide +kernel
theorem dR_corners_191 : decode bR_corners 191 = .ok (.getfield 61, 3) := by decide +kernel
theorem dR_corners_194 : decode bR_corners 194 = .ok (.iconst 0, 1) := by decide +kernel
theorem dR_corners_195 : decode bR_corners 195 = .ok (.iload 5, 2) := by decide +kernel
theorem dR_corners_197 : decode bR_corners 197 = .ok (.iastore, 1) := by decide +kernel
theorem dR_corners_198 : decode bR_corners 198 = .ok (.aload_n 0, 1) := by decide +kernel
theorem dR_corners_199 : decode bR_corners 199 = .ok (.getfield 61, 3) := by decide +kernel
theorem dR_corners_202 : decode bR_corners 202 = .ok (.iconst 1, 1) := by decide +kernel
theorem dR_corners_203 : decode bR_corners 203 = .ok (.iload 6, 2) := by decide +kernel
theorem dR_corners_205 : decode bR_corners 205 = .ok (.iastore, 1) := by decide +kernel
theorem dR_corners_206 : decode bR_corners 206 = .ok (.aload_n 0, 1) := by decide +kernel
theorem dR_corners_207 : decode bR_corners 207 = .ok (.getfield 61, 3) := by decide +kernel
theorem dR_corners_210 : decode bR_corners 210 = .ok (.iconst 2, 1) := by decide +kernel
theorem dR_corners_211 : decode bR_corners 211 = .ok (.iload 7, 2) := by decide +kernel
theorem dR_corners_213 : decode bR_corners 213 = .ok (.iastore, 1) := by decide +kernel
theorem dR_corners_214 : decode bR_corners 214 = .ok (.aload_n 0, 1) := by decide +kernel
theorem dR_corners_215 : decode bR_corners 215 = .ok (.iload_n 1, 1) := by decide +kernel
theorem dR_corners_216 : decode bR_corners 216 = .ok (.invokevirtual 124, 3) := by decide +kernel
theorem dR_corners_219 : decode bR_corners 219 = .ok (.istore 8, 2) := by decide +kernel
theorem dR_corners_221 : decode bR_corners 221 = .ok (.iload 8, 2) := by decide +kernel
theorem dR_corners_223 : decode bR_corners 223 = .ok (.ifCond .eq 7, 3) := by decide +kernel
theorem dR_corners_226 : decode bR_corners 226 = .ok (.iload_n 2, 1) := by decide +kernel
theorem dR_corners_227 : decode bR_corners 227 = .ok (.ifCond .ne 7, 3) := by decide +kernel
theorem dR_corners_230 : decode bR_corners 230 = .ok (.iconst 1, 1) := by decide +kernel
theorem dR_corners_231 : decode bR_corners 231 = .ok (.goto 4, 3) := by decide +kernel
theorem dR_corners_234 : decode bR_corners 234 = .ok (.iconst 0, 1) := by decide +kernel
theorem dR_corners_235 : decode bR_corners 235 = .ok (.istore 4, 2) := by decide +kernel
theorem dR_corners_237 : decode bR_corners 237 = .ok (.iinc 7 1, 3) := by decide +kernel
theorem dR_corners_240 : decode bR_corners 240 = .ok (.goto (-77), 3) := by decide +kernel
theorem dR_corners_243 : decode bR_corners 243 = .ok (.iinc 6 1, 3) := by decide +kernel
theorem dR_corners_246 : decode bR_corners 246 = .ok (.goto (-129), 3) := by decide +kernel
theorem dR_corners_249 : decode bR_corners 249 = .ok (.iinc 5 1, 3) := by decide +kernel
theorem dR_corners_252 : decode bR_corners 252 = .ok (.goto (-180), 3) := by decide +kernel
theorem dR_corners_255 : decode bR_corners 255 = .ok (.return_, 1) := by decide +kernel
theorem dR_countAll_0 : decode bR_countAll 0 = .ok (.iconst 0, 1) := by decide +kernel
theorem dR_countAll_1 : decode bR_countAll 1 = .ok (.istore_n 1, 1) := by decide +kernel
theorem dR_countAll_2 : decode bR_countAll 2 = .ok (.iload_n 1, 1) := by decide +kernel
theorem dR_countAll_3 : decode bR_countAll 3 = .ok (.bipush 22, 2) := by decide +kernel
theorem dR_countAll_5 : decode bR_countAll 5 = .ok (.if_icmp .ge 20, 3) := by decide +kernel
theorem dR_countAll_8 : decode bR_countAll 8 = .ok (.aload_n 0, 1) := by decide +kernel
theorem dR_countAll_9 : decode bR_countAll 9 = .ok (.getfield 45, 3) := by decide +kernel
theorem dR_countAll_12 : decode bR_countAll 12 = .ok (.iload_n 1, 1) := by decide +kernel
theorem dR_countAll_13 : decode bR_countAll 13 = .ok (.aload_n 0, 1) := by decide +kernel
theorem dR_countAll_14 : decode bR_countAll 14 = .ok (.iload_n 1, 1) := by decide +kernel
theorem dR_countAll_15 : decode bR_countAll 15 = .ok (.invokevirtual 127, 3) := by decide +kernel
theorem dR_countAll_18 : decode bR_countAll 18 = .ok (.bastore, 1) := by decide +kernel
theorem dR_countAll_19 : decode bR_countAll 19 = .ok (.iinc 1 1, 3) := by decide +kernel
theorem dR_countAll_22 : decode bR_countAll 22 = .ok (.goto (-20), 3) := by decide +kernel
theorem dR_countAll_25 : decode bR_countAll 25 = .ok (.return_, 1) := by decide +kernel
theorem dR_freeAll_0 : decode bR_freeAll 0 = .ok (.iconst 0, 1) := by decide +kernel
theorem dR_freeAll_1 : decode bR_freeAll 1 = .ok (.istore_n 1, 1) := by decide +kernel
theorem dR_freeAll_2 : decode bR_freeAll 2 = .ok (.iload_n 1, 1) := by decide +kernel
theorem dR_freeAll_3 : decode bR_freeAll 3 = .ok (.iconst 4, 1) := by decide +kernel
theorem dR_freeAll_4 : decode bR_freeAll 4 = .ok (.if_icmp .ge 16, 3) := by decide +kernel
theorem dR_freeAll_7 : decode bR_freeAll 7 = .ok (.aload_n 0, 1) := by decide +kernel
theorem dR_freeAll_8 : decode bR_freeAll 8 = .ok (.getfield 49, 3) := by decide +kernel
theorem dR_freeAll_11 : decode bR_freeAll 11 = .ok (.iload_n 1, 1) := by decide +kernel
theorem dR_freeAll_12 : decode bR_freeAll 12 = .ok (.iconst (-1), 1) := by decide +kernel
theorem dR_freeAll_13 : decode bR_freeAll 13 = .ok (.iastore, 1) := by decide +kernel
theorem dR_freeAll_14 : decode bR_freeAll 14 = .ok (.iinc 1 1, 3) := by decide +kernel
theorem dR_freeAll_17 : decode bR_freeAll 17 = .ok (.goto (-15), 3) := by decide +kernel
theorem dR_freeAll_20 : decode bR_freeAll 20 = .ok (.return_, 1) := by decide +kernel
theorem dR_isPossible_0 : decode bR_isPossible 0 = .ok (.aload_n 0, 1) := by decide +kernel
theorem dR_isPossible_1 : decode bR_isPossible 1 = .ok (.iconst 0, 1) := by decide +kernel
theorem dR_isPossible_2 : decode bR_isPossible 2 = .ok (.putfield 116, 3) := by decide +kernel
theorem dR_isPossible_5 : decode bR_isPossible 5 = .ok (.aload_n 0, 1) := by decide +kernel
theorem dR_isPossible_6 : decode bR_isPossible 6 = .ok (.invokevirtual 130, 3) := by decide +kernel
theorem dR_isPossible_9 : decode bR_isPossible 9 = .ok (.aload_n 0, 1) := by decide +kernel
theorem dR_isPossible_10 : decode bR_isPossible 10 = .ok (.iload_n 1, 1) := by decide +kernel
theorem dR_isPossible_11 : decode bR_isPossible 11 = .ok (.iconst 1, 1) := by decide +kernel
theorem dR_isPossible_12 : decode bR_isPossible 12 = .ok (.invokevirtual 133, 3) := by decide +kernel
theorem dR_isPossible_15 : decode bR_isPossible 15 = .ok (.aload_n 0, 1) := by decide +kernel
theorem dR_isPossible_16 : decode bR_isPossible 16 = .ok (.getfield 116, 3) := by decide +kernel
theorem dR_isPossible_19 : decode bR_isPossible 19 = .ok (.ireturn, 1) := by decide +kernel
theorem dR_most_0 : decode bR_most 0 = .ok (.iload_n 1, 1) := by decide +kernel
theorem dR_most_1 : decode bR_most 1 = .ok (.aload_n 0, 1) := by decide +kernel
theorem dR_most_2 : decode bR_most 2 = .ok (.getfield 67, 3) := by decide +kernel
theorem dR_most_5 : decode bR_most 5 = .ok (.if_icmp .ge 28, 3) := by decide +kernel
theorem dR_most_8 : decode bR_most 8 = .ok (.aload_n 0, 1) := by decide +kernel
theorem dR_most_9 : decode bR_most 9 = .ok (.getfield 25, 3) := by decide +kernel
theorem dR_most_12 : decode bR_most 12 = .ok (.iload_n 1, 1) := by decide +kernel
theorem dR_most_13 : decode bR_most 13 = .ok (.iaload, 1) := by decide +kernel
theorem dR_most_14 : decode bR_most 14 = .ok (.ifCond .le 19, 3) := by decide +kernel
theorem dR_most_17 : decode bR_most 17 = .ok (.aload_n 0, 1) := by decide +kernel
theorem dR_most_18 : decode bR_most 18 = .ok (.getfield 13, 3) := by decide +kernel
theorem dR_most_21 : decode bR_most 21 = .ok (.iload_n 1, 1) := by decide +kernel
theorem dR_most_22 : decode bR_most 22 = .ok (.iaload, 1) := by decide +kernel
theorem dR_most_23 : decode bR_most 23 = .ok (.aload_n 0, 1) := by decide +kernel
theorem dR_most_24 : decode bR_most 24 = .ok (.getfield 25, 3) := by decide +kernel
theorem dR_most_27 : decode bR_most 27 = .ok (.iload_n 1, 1) := by decide +kernel
theorem dR_most_28 : decode bR_most 28 = .ok (.iaload, 1) := by decide +kernel
theorem dR_most_29 : decode bR_most 29 = .ok (.idiv, 1) := by decide +kernel
theorem dR_most_30 : decode bR_most 30 = .ok (.goto 4, 3) := by decide +kernel
theorem dR_most_33 : decode bR_most 33 = .ok (.iconst 0, 1) := by decide +kernel
theorem dR_most_34 : decode bR_most 34 = .ok (.ireturn, 1) := by decide +kernel
theorem dR_fix_0 : decode bR_fix 0 = .ok (.aload_n 0, 1) := by decide +kernel
theorem dR_fix_1 : decode bR_fix 1 = .ok (.getfield 49, 3) := by decide +kernel
theorem dR_fix_4 : decode bR_fix 4 = .ok (.iload_n 1, 1) := by decide +kernel
theorem dR_fix_5 : decode bR_fix 5 = .ok (.iload_n 1, 1) := by decide +kernel
theorem dR_fix_6 : decode bR_fix 6 = .ok (.aload_n 0, 1) := by decide +kernel
theorem dR_fix_7 : decode bR_fix 7 = .ok (.getfield 67, 3) := by decide +kernel
theorem dR_fix_10 : decode bR_fix 10 = .ok (.if_icmp .ge 23, 3) := by decide +kernel
theorem dR_fix_13 : decode bR_fix 13 = .ok (.aload_n 0, 1) := by decide +kernel
theorem dR_fix_14 : decode bR_fix 14 = .ok (.getfield 25, 3) := by decide +kernel
theorem dR_fix_17 : decode bR_fix 17 = .ok (.iload_n 1, 1) := by decide +kernel
theorem dR_fix_18 : decode bR_fix 18 = .ok (.iaload, 1) := by decide +kernel
theorem dR_fix_19 : decode bR_fix 19 = .ok (.ifCond .le 14, 3) := by decide +kernel
theorem dR_fix_22 : decode bR_fix 22 = .ok (.iload_n 2, 1) := by decide +kernel
theorem dR_fix_23 : decode bR_fix 23 = .ok (.aload_n 0, 1) := by decide +kernel
theorem dR_fix_24 : decode bR_fix 24 = .ok (.getfield 25, 3) := by decide +kernel
theorem dR_fix_27 : decode bR_fix 27 = .ok (.iload_n 1, 1) := by decide +kernel
theorem dR_fix_28 : decode bR_fix 28 = .ok (.iaload, 1) := by decide +kernel
theorem dR_fix_29 : decode bR_fix 29 = .ok (.imul, 1) := by decide +kernel
theorem dR_fix_30 : decode bR_fix 30 = .ok (.goto 4, 3) := by decide +kernel
theorem dR_fix_33 : decode bR_fix 33 = .ok (.iconst (-1), 1) := by decide +kernel
theorem dR_fix_34 : decode bR_fix 34 = .ok (.iastore, 1) := by decide +kernel
theorem dR_fix_35 : decode bR_fix 35 = .ok (.return_, 1) := by decide +kernel
theorem dR_mixes_0 : decode bR_mixes 0 = .ok (.aload_n 0, 1) := by decide +kernel
theorem dR_mixes_1 : decode bR_mixes 1 = .ok (.invokevirtual 137, 3) := by decide +kernel
theorem dR_mixes_4 : decode bR_mixes 4 = .ok (.aload_n 0, 1) := by decide +kernel
theorem dR_mixes_5 : decode bR_mixes 5 = .ok (.iconst 0, 1) := by decide +kernel
theorem dR_mixes_6 : decode bR_mixes 6 = .ok (.putfield 116, 3) := by decide +kernel
theorem dR_mixes_9 : decode bR_mixes 9 = .ok (.iconst 0, 1) := by decide +kernel
theorem dR_mixes_10 : decode bR_mixes 10 = .ok (.istore_n 2, 1) := by decide +kernel
theorem dR_mixes_11 : decode bR_mixes 11 = .ok (.iload_n 2, 1) := by decide +kernel
theorem dR_mixes_12 : decode bR_mixes 12 = .ok (.aload_n 0, 1) := by decide +kernel
theorem dR_mixes_13 : decode bR_mixes 13 = .ok (.iconst 0, 1) := by decide +kernel
theorem dR_mixes_14 : decode bR_mixes 14 = .ok (.invokevirtual 140, 3) := by decide +kernel
theorem dR_mixes_17 : decode bR_mixes 17 = .ok (.if_icmp .gt 96, 3) := by decide +kernel
theorem dR_mixes_20 : decode bR_mixes 20 = .ok (.iconst 0, 1) := by decide +kernel
theorem dR_mixes_21 : decode bR_mixes 21 = .ok (.istore_n 3, 1) := by decide +kernel
theorem dR_mixes_22 : decode bR_mixes 22 = .ok (.iload_n 3, 1) := by decide +kernel
theorem dR_mixes_23 : decode bR_mixes 23 = .ok (.aload_n 0, 1) := by decide +kernel
theorem dR_mixes_24 : decode bR_mixes 24 = .ok (.iconst 1, 1) := by decide +kernel
theorem dR_mixes_25 : decode bR_mixes 25 = .ok (.invokevirtual 140, 3) := by decide +kernel
theorem dR_mixes_28 : decode bR_mixes 28 = .ok (.if_icmp .gt 79, 3) := by decide +kernel
theorem dR_mixes_31 : decode bR_mixes 31 = .ok (.iconst 0, 1) := by decide +kernel
theorem dR_mixes_32 : decode bR_mixes 32 = .ok (.istore 4, 2) := by decide +kernel
theorem dR_mixes_34 : decode bR_mixes 34 = .ok (.iload 4, 2) := by decide +kernel
theorem dR_mixes_36 : decode bR_mixes 36 = .ok (.aload_n 0, 1) := by decide +kernel
theorem dR_mixes_37 : decode bR_mixes 37 = .ok (.iconst 2, 1) := by decide +kernel
theorem dR_mixes_38 : decode bR_mixes 38 = .ok (.invokevirtual 140, 3) := by decide +kernel
theorem dR_mixes_41 : decode bR_mixes 41 = .ok (.if_icmp .gt 60, 3) := by decide +kernel
theorem dR_mixes_44 : decode bR_mixes 44 = .ok (.iconst 0, 1) := by decide +kernel
theorem dR_mixes_45 : decode bR_mixes 45 = .ok (.istore 5, 2) := by decide +kernel
theorem dR_mixes_47 : decode bR_mixes 47 = .ok (.iload 5, 2) := by decide +kernel
theorem dR_mixes_49 : decode bR_mixes 49 = .ok (.aload_n 0, 1) := by decide +kernel
theorem dR_mixes_50 : decode bR_mixes 50 = .ok (.iconst 3, 1) := by decide +kernel
theorem dR_mixes_51 : decode bR_mixes 51 = .ok (.invokevirtual 140, 3) := by decide +kernel
theorem dR_mixes_54 : decode bR_mixes 54 = .ok (.if_icmp .gt 41, 3) := by decide +kernel
theorem dR_mixes_57 : decode bR_mixes 57 = .ok (.aload_n 0, 1) := by decide +kernel
theorem dR_mixes_58 : decode bR_mixes 58 = .ok (.iconst 0, 1) := by decide +kernel
theorem dR_mixes_59 : decode bR_mixes 59 = .ok (.iload_n 2, 1) := by decide +kernel
theorem dR_mixes_60 : decode bR_mixes 60 = .ok (.invokevirtual 144, 3) := by decide +kernel
theorem dR_mixes_63 : decode bR_mixes 63 = .ok (.aload_n 0, 1) := by decide +kernel
theorem dR_mixes_64 : decode bR_mixes 64 = .ok (.iconst 1, 1) := by decide +kernel
theorem dR_mixes_65 : decode bR_mixes 65 = .ok (.iload_n 3, 1) := by decide +kernel
theorem dR_mixes_66 : decode bR_mixes 66 = .ok (.invokevirtual 144, 3) := by decide +kernel
theorem dR_mixes_69 : decode bR_mixes 69 = .ok (.aload_n 0, 1) := by decide +kernel
theorem dR_mixes_70 : decode bR_mixes 70 = .ok (.iconst 2, 1) := by decide +kernel
theorem dR_mixes_71 : decode bR_mixes 71 = .ok (.iload 4, 2) := by decide +kernel
theorem dR_mixes_73 : decode bR_mixes 73 = .ok (.invokevirtual 144, 3) := by decide +kernel
theorem dR_mixes_76 : decode bR_mixes 76 = .ok (.aload_n 0, 1) := by decide +kernel
theorem dR_mixes_77 : decode bR_mixes 77 = .ok (.iconst 3, 1) := by decide +kernel
theorem dR_mixes_78 : decode bR_mixes 78 = .ok (.iload 5, 2) := by decide +kernel
theorem dR_mixes_80 : decode bR_mixes 80 = .ok (.invokevirtual 144, 3) := by decide +kernel
theorem dR_mixes_83 : decode bR_mixes 83 = .ok (.aload_n 0, 1) := by decide +kernel
theorem dR_mixes_84 : decode bR_mixes 84 = .ok (.iload_n 1, 1) := by decide +kernel
theorem dR_mixes_85 : decode bR_mixes 85 = .ok (.iconst 0, 1) := by decide +kernel
theorem dR_mixes_86 : decode bR_mixes 86 = .ok (.invokevirtual 133, 3) := by decide +kernel
theorem dR_mixes_89 : decode bR_mixes 89 = .ok (.iinc 5 1, 3) := by decide +kernel
theorem dR_mixes_92 : decode bR_mixes 92 = .ok (.goto (-45), 3) := by decide +kernel
theorem dR_mixes_95 : decode bR_mixes 95 = .ok (.iinc 4 1, 3) := by decide +kernel
theorem dR_mixes_98 : decode bR_mixes 98 = .ok (.goto (-64), 3) := by decide +kernel
theorem dR_mixes_101 : decode bR_mixes 101 = .ok (.iinc 3 1, 3) := by decide +kernel
theorem dR_mixes_104 : decode bR_mixes 104 = .ok (.goto (-82), 3) := by decide +kernel
theorem dR_mixes_107 : decode bR_mixes 107 = .ok (.iinc 2 1, 3) := by decide +kernel
theorem dR_mixes_110 : decode bR_mixes 110 = .ok (.goto (-99), 3) := by decide +kernel
theorem dR_mixes_113 : decode bR_mixes 113 = .ok (.aload_n 0, 1) := by decide +kernel
theorem dR_mixes_114 : decode bR_mixes 114 = .ok (.getfield 116, 3) := by decide +kernel
theorem dR_mixes_117 : decode bR_mixes 117 = .ok (.ireturn, 1) := by decide +kernel
theorem dR_divisor_0 : decode bR_divisor 0 = .ok (.lload_n 0, 1) := by decide +kernel
theorem dR_divisor_1 : decode bR_divisor 1 = .ok (.lconst 0, 1) := by decide +kernel
theorem dR_divisor_2 : decode bR_divisor 2 = .ok (.lcmp, 1) := by decide +kernel
theorem dR_divisor_3 : decode bR_divisor 3 = .ok (.ifCond .ge 8, 3) := by decide +kernel
theorem dR_divisor_6 : decode bR_divisor 6 = .ok (.lload_n 0, 1) := by decide +kernel
theorem dR_divisor_7 : decode bR_divisor 7 = .ok (.lneg, 1) := by decide +kernel
theorem dR_divisor_8 : decode bR_divisor 8 = .ok (.goto 4, 3) := by decide +kernel
theorem dR_divisor_11 : decode bR_divisor 11 = .ok (.lload_n 0, 1) := by decide +kernel
theorem dR_divisor_12 : decode bR_divisor 12 = .ok (.lstore 4, 2) := by decide +kernel
theorem dR_divisor_14 : decode bR_divisor 14 = .ok (.lload_n 2, 1) := by decide +kernel
theorem dR_divisor_15 : decode bR_divisor 15 = .ok (.lstore 6, 2) := by decide +kernel
theorem dR_divisor_17 : decode bR_divisor 17 = .ok (.lload 6, 2) := by decide +kernel
theorem dR_divisor_19 : decode bR_divisor 19 = .ok (.lconst 0, 1) := by decide +kernel
theorem dR_divisor_20 : decode bR_divisor 20 = .ok (.lcmp, 1) := by decide +kernel
theorem dR_divisor_21 : decode bR_divisor 21 = .ok (.ifCond .eq 21, 3) := by decide +kernel
theorem dR_divisor_24 : decode bR_divisor 24 = .ok (.lload 4, 2) := by decide +kernel
theorem dR_divisor_26 : decode bR_divisor 26 = .ok (.lload 6, 2) := by decide +kernel
theorem dR_divisor_28 : decode bR_divisor 28 = .ok (.lrem, 1) := by decide +kernel
theorem dR_divisor_29 : decode bR_divisor 29 = .ok (.lstore 8, 2) := by decide +kernel
theorem dR_divisor_31 : decode bR_divisor 31 = .ok (.lload 6, 2) := by decide +kernel
theorem dR_divisor_33 : decode bR_divisor 33 = .ok (.lstore 4, 2) := by decide +kernel
theorem dR_divisor_35 : decode bR_divisor 35 = .ok (.lload 8, 2) := by decide +kernel
theorem dR_divisor_37 : decode bR_divisor 37 = .ok (.lstore 6, 2) := by decide +kernel
theorem dR_divisor_39 : decode bR_divisor 39 = .ok (.goto (-22), 3) := by decide +kernel
theorem dR_divisor_42 : decode bR_divisor 42 = .ok (.lload 4, 2) := by decide +kernel
theorem dR_divisor_44 : decode bR_divisor 44 = .ok (.lreturn, 1) := by decide +kernel
theorem dR_keepMix_0 : decode bR_keepMix 0 = .ok (.aload_n 0, 1) := by decide +kernel
theorem dR_keepMix_1 : decode bR_keepMix 1 = .ok (.iconst 0, 1) := by decide +kernel
theorem dR_keepMix_2 : decode bR_keepMix 2 = .ok (.putfield 34, 3) := by decide +kernel
theorem dR_keepMix_5 : decode bR_keepMix 5 = .ok (.aload_n 0, 1) := by decide +kernel
theorem dR_keepMix_6 : decode bR_keepMix 6 = .ok (.iconst 0, 1) := by decide +kernel
theorem dR_keepMix_7 : decode bR_keepMix 7 = .ok (.putfield 148, 3) := by decide +kernel
theorem dR_keepMix_10 : decode bR_keepMix 10 = .ok (.iconst 0, 1) := by decide +kernel
theorem dR_keepMix_11 : decode bR_keepMix 11 = .ok (.istore_n 2, 1) := by decide +kernel
theorem dR_keepMix_12 : decode bR_keepMix 12 = .ok (.iload_n 2, 1) := by decide +kernel
theorem dR_keepMix_13 : decode bR_keepMix 13 = .ok (.aload_n 0, 1) := by decide +kernel
theorem dR_keepMix_14 : decode bR_keepMix 14 = .ok (.getfield 67, 3) := by decide +kernel
theorem dR_keepMix_17 : decode bR_keepMix 17 = .ok (.if_icmp .ge 49, 3) := by decide +kernel
theorem dR_keepMix_20 : decode bR_keepMix 20 = .ok (.aload_n 0, 1) := by decide +kernel
theorem dR_keepMix_21 : decode bR_keepMix 21 = .ok (.getfield 64, 3) := by decide +kernel
theorem dR_keepMix_24 : decode bR_keepMix 24 = .ok (.iload_n 2, 1) := by decide +kernel
theorem dR_keepMix_25 : decode bR_keepMix 25 = .ok (.laload, 1) := by decide +kernel
theorem dR_keepMix_26 : decode bR_keepMix 26 = .ok (.aload_n 0, 1) := by decide +kernel
theorem dR_keepMix_27 : decode bR_keepMix 27 = .ok (.getfield 107, 3) := by decide +kernel
theorem dR_keepMix_30 : decode bR_keepMix 30 = .ok (.invokestatic 151, 3) := by decide +kernel
theorem dR_keepMix_33 : decode bR_keepMix 33 = .ok (.lstore_n 3, 1) := by decide +kernel
theorem dR_keepMix_34 : decode bR_keepMix 34 = .ok (.aload_n 0, 1) := by decide +kernel
theorem dR_keepMix_35 : decode bR_keepMix 35 = .ok (.getfield 38, 3) := by decide +kernel
theorem dR_keepMix_38 : decode bR_keepMix 38 = .ok (.iload_n 2, 1) := by decide +kernel
theorem dR_keepMix_39 : decode bR_keepMix 39 = .ok (.aload_n 0, 1) := by decide +kernel
theorem dR_keepMix_40 : decode bR_keepMix 40 = .ok (.getfield 64, 3) := by decide +kernel
theorem dR_keepMix_43 : decode bR_keepMix 43 = .ok (.iload_n 2, 1) := by decide +kernel
theorem dR_keepMix_44 : decode bR_keepMix 44 = .ok (.laload, 1) := by decide +kernel
theorem dR_keepMix_45 : decode bR_keepMix 45 = .ok (.lload_n 3, 1) := by decide +kernel
theorem dR_keepMix_46 : decode bR_keepMix 46 = .ok (.ldiv, 1) := by decide +kernel
theorem dR_keepMix_47 : decode bR_keepMix 47 = .ok (.lastore, 1) := by decide +kernel
theorem dR_keepMix_48 : decode bR_keepMix 48 = .ok (.aload_n 0, 1) := by decide +kernel
theorem dR_keepMix_49 : decode bR_keepMix 49 = .ok (.getfield 42, 3) := by decide +kernel
theorem dR_keepMix_52 : decode bR_keepMix 52 = .ok (.iload_n 2, 1) := by decide +kernel
theorem dR_keepMix_53 : decode bR_keepMix 53 = .ok (.aload_n 0, 1) := by decide +kernel
theorem dR_keepMix_54 : decode bR_keepMix 54 = .ok (.getfield 107, 3) := by decide +kernel
theorem dR_keepMix_57 : decode bR_keepMix 57 = .ok (.lload_n 3, 1) := by decide +kernel
theorem dR_keepMix_58 : decode bR_keepMix 58 = .ok (.ldiv, 1) := by decide +kernel
theorem dR_keepMix_59 : decode bR_keepMix 59 = .ok (.lastore, 1) := by decide +kernel
theorem dR_keepMix_60 : decode bR_keepMix 60 = .ok (.iinc 2 1, 3) := by decide +kernel
theorem dR_keepMix_63 : decode bR_keepMix 63 = .ok (.goto (-51), 3) := by decide +kernel
theorem dR_keepMix_66 : decode bR_keepMix 66 = .ok (.aload_n 0, 1) := by decide +kernel
theorem dR_keepMix_67 : decode bR_keepMix 67 = .ok (.aload_n 0, 1) := by decide +kernel
theorem dR_keepMix_68 : decode bR_keepMix 68 = .ok (.getfield 64, 3) := by decide +kernel
theorem dR_keepMix_71 : decode bR_keepMix 71 = .ok (.invokevirtual 103, 3) := by decide +kernel
theorem dR_keepMix_74 : decode bR_keepMix 74 = .ok (.lstore_n 2, 1) := by decide +kernel
theorem dR_keepMix_75 : decode bR_keepMix 75 = .ok (.lload_n 2, 1) := by decide +kernel
theorem dR_keepMix_76 : decode bR_keepMix 76 = .ok (.aload_n 0, 1) := by decide +kernel
theorem dR_keepMix_77 : decode bR_keepMix 77 = .ok (.getfield 107, 3) := by decide +kernel
theorem dR_keepMix_80 : decode bR_keepMix 80 = .ok (.invokestatic 151, 3) := by decide +kernel
theorem dR_keepMix_83 : decode bR_keepMix 83 = .ok (.lstore 4, 2) := by decide +kernel
theorem dR_keepMix_85 : decode bR_keepMix 85 = .ok (.aload_n 0, 1) := by decide +kernel
theorem dR_keepMix_86 : decode bR_keepMix 86 = .ok (.lload_n 2, 1) := by decide +kernel
theorem dR_keepMix_87 : decode bR_keepMix 87 = .ok (.lload 4, 2) := by decide +kernel
theorem dR_keepMix_89 : decode bR_keepMix 89 = .ok (.ldiv, 1) := by decide +kernel
theorem dR_keepMix_90 : decode bR_keepMix 90 = .ok (.putfield 155, 3) := by decide +kernel
theorem dR_keepMix_93 : decode bR_keepMix 93 = .ok (.aload_n 0, 1) := by decide +kernel
theorem dR_keepMix_94 : decode bR_keepMix 94 = .ok (.aload_n 0, 1) := by decide +kernel
theorem dR_keepMix_95 : decode bR_keepMix 95 = .ok (.getfield 107, 3) := by decide +kernel
theorem dR_keepMix_98 : decode bR_keepMix 98 = .ok (.lload 4, 2) := by decide +kernel
theorem dR_keepMix_100 : decode bR_keepMix 100 = .ok (.ldiv, 1) := by decide +kernel
theorem dR_keepMix_101 : decode bR_keepMix 101 = .ok (.putfield 158, 3) := by decide +kernel
theorem dR_keepMix_104 : decode bR_keepMix 104 = .ok (.iconst 0, 1) := by decide +kernel
theorem dR_keepMix_105 : decode bR_keepMix 105 = .ok (.istore 6, 2) := by decide +kernel
theorem dR_keepMix_107 : decode bR_keepMix 107 = .ok (.iload 6, 2) := by decide +kernel
theorem dR_keepMix_109 : decode bR_keepMix 109 = .ok (.bipush 18, 2) := by decide +kernel
theorem dR_keepMix_111 : decode bR_keepMix 111 = .ok (.if_icmp .ge 55, 3) := by decide +kernel
theorem dR_keepMix_114 : decode bR_keepMix 114 = .ok (.aload_n 0, 1) := by decide +kernel
theorem dR_keepMix_115 : decode bR_keepMix 115 = .ok (.dup, 1) := by decide +kernel
theorem dR_keepMix_116 : decode bR_keepMix 116 = .ok (.getfield 148, 3) := by decide +kernel
theorem dR_keepMix_119 : decode bR_keepMix 119 = .ok (.aload_n 0, 1) := by decide +kernel
theorem dR_keepMix_120 : decode bR_keepMix 120 = .ok (.iload 6, 2) := by decide +kernel
theorem dR_keepMix_122 : decode bR_keepMix 122 = .ok (.invokevirtual 127, 3) := by decide +kernel
theorem dR_keepMix_125 : decode bR_keepMix 125 = .ok (.ifCond .eq 30, 3) := by decide +kernel
theorem dR_keepMix_128 : decode bR_keepMix 128 = .ok (.aload_n 0, 1) := by decide +kernel
theorem dR_keepMix_129 : decode bR_keepMix 129 = .ok (.iload 6, 2) := by decide +kernel
theorem dR_keepMix_131 : decode bR_keepMix 131 = .ok (.iload_n 1, 1) := by decide +kernel
theorem dR_keepMix_132 : decode bR_keepMix 132 = .ok (.aload_n 0, 1) := by decide +kernel
theorem dR_keepMix_133 : decode bR_keepMix 133 = .ok (.getfield 64, 3) := by decide +kernel
theorem dR_keepMix_136 : decode bR_keepMix 136 = .ok (.aload_n 0, 1) := by decide +kernel
theorem dR_keepMix_137 : decode bR_keepMix 137 = .ok (.getfield 107, 3) := by decide +kernel
theorem dR_keepMix_140 : decode bR_keepMix 140 = .ok (.invokevirtual 91, 3) := by decide +kernel
theorem dR_keepMix_143 : decode bR_keepMix 143 = .ok (.lconst 0, 1) := by decide +kernel
theorem dR_keepMix_144 : decode bR_keepMix 144 = .ok (.lcmp, 1) := by decide +kernel
theorem dR_keepMix_145 : decode bR_keepMix 145 = .ok (.ifCond .ne 10, 3) := by decide +kernel
theorem dR_keepMix_148 : decode bR_keepMix 148 = .ok (.iconst 1, 1) := by decide +kernel
theorem dR_keepMix_149 : decode bR_keepMix 149 = .ok (.iload 6, 2) := by decide +kernel
theorem dR_keepMix_151 : decode bR_keepMix 151 = .ok (.ishl, 1) := by decide +kernel
theorem dR_keepMix_152 : decode bR_keepMix 152 = .ok (.goto 4, 3) := by decide +kernel
theorem dR_keepMix_155 : decode bR_keepMix 155 = .ok (.iconst 0, 1) := by decide +kernel
theorem dR_keepMix_156 : decode bR_keepMix 156 = .ok (.ior, 1) := by decide +kernel
theorem dR_keepMix_157 : decode bR_keepMix 157 = .ok (.putfield 148, 3) := by decide +kernel
theorem dR_keepMix_160 : decode bR_keepMix 160 = .ok (.iinc 6 1, 3) := by decide +kernel
theorem dR_keepMix_163 : decode bR_keepMix 163 = .ok (.goto (-56), 3) := by decide +kernel
theorem dR_keepMix_166 : decode bR_keepMix 166 = .ok (.return_, 1) := by decide +kernel
theorem dR_run_0 : decode bR_run 0 = .ok (.iload_n 1, 1) := by decide +kernel
theorem dR_run_1 : decode bR_run 1 = .ok (.iconst 1, 1) := by decide +kernel
theorem dR_run_2 : decode bR_run 2 = .ok (.bipush 40, 2) := by decide +kernel
theorem dR_run_4 : decode bR_run 4 = .ok (.invokestatic 70, 3) := by decide +kernel
theorem dR_run_7 : decode bR_run 7 = .ok (.ifCond .eq 10, 3) := by decide +kernel
theorem dR_run_10 : decode bR_run 10 = .ok (.aload_n 0, 1) := by decide +kernel
theorem dR_run_11 : decode bR_run 11 = .ok (.getfield 67, 3) := by decide +kernel
theorem dR_run_14 : decode bR_run 14 = .ok (.ifCond .ne 5, 3) := by decide +kernel
theorem dR_run_17 : decode bR_run 17 = .ok (.iconst (-1), 1) := by decide +kernel
theorem dR_run_18 : decode bR_run 18 = .ok (.ireturn, 1) := by decide +kernel
theorem dR_run_19 : decode bR_run 19 = .ok (.aload_n 0, 1) := by decide +kernel
theorem dR_run_20 : decode bR_run 20 = .ok (.iload_n 1, 1) := by decide +kernel
theorem dR_run_21 : decode bR_run 21 = .ok (.putfield 161, 3) := by decide +kernel
theorem dR_run_24 : decode bR_run 24 = .ok (.aload_n 0, 1) := by decide +kernel
theorem dR_run_25 : decode bR_run 25 = .ok (.aload_n 0, 1) := by decide +kernel
theorem dR_run_26 : decode bR_run 26 = .ok (.getfield 67, 3) := by decide +kernel
theorem dR_run_29 : decode bR_run 29 = .ok (.putfield 164, 3) := by decide +kernel
theorem dR_run_32 : decode bR_run 32 = .ok (.aload_n 0, 1) := by decide +kernel
theorem dR_run_33 : decode bR_run 33 = .ok (.invokevirtual 137, 3) := by decide +kernel
theorem dR_run_36 : decode bR_run 36 = .ok (.aload_n 0, 1) := by decide +kernel
theorem dR_run_37 : decode bR_run 37 = .ok (.iload_n 1, 1) := by decide +kernel
theorem dR_run_38 : decode bR_run 38 = .ok (.invokevirtual 167, 3) := by decide +kernel
theorem dR_run_41 : decode bR_run 41 = .ok (.ifCond .ne 72, 3) := by decide +kernel
theorem dR_run_44 : decode bR_run 44 = .ok (.aload_n 0, 1) := by decide +kernel
theorem dR_run_45 : decode bR_run 45 = .ok (.iconst 1, 1) := by decide +kernel
theorem dR_run_46 : decode bR_run 46 = .ok (.putfield 34, 3) := by decide +kernel
theorem dR_run_49 : decode bR_run 49 = .ok (.aload_n 0, 1) := by decide +kernel
theorem dR_run_50 : decode bR_run 50 = .ok (.iconst 0, 1) := by decide +kernel
theorem dR_run_51 : decode bR_run 51 = .ok (.putfield 170, 3) := by decide +kernel
theorem dR_run_54 : decode bR_run 54 = .ok (.iconst 0, 1) := by decide +kernel
theorem dR_run_55 : decode bR_run 55 = .ok (.istore_n 2, 1) := by decide +kernel
theorem dR_run_56 : decode bR_run 56 = .ok (.iload_n 2, 1) := by decide +kernel
theorem dR_run_57 : decode bR_run 57 = .ok (.bipush 18, 2) := by decide +kernel
theorem dR_run_59 : decode bR_run 59 = .ok (.if_icmp .ge 52, 3) := by decide +kernel
theorem dR_run_62 : decode bR_run 62 = .ok (.aload_n 0, 1) := by decide +kernel
theorem dR_run_63 : decode bR_run 63 = .ok (.getfield 45, 3) := by decide +kernel
theorem dR_run_66 : decode bR_run 66 = .ok (.iload_n 2, 1) := by decide +kernel
theorem dR_run_67 : decode bR_run 67 = .ok (.baload, 1) := by decide +kernel
theorem dR_run_68 : decode bR_run 68 = .ok (.ifCond .eq 37, 3) := by decide +kernel
theorem dR_run_71 : decode bR_run 71 = .ok (.aload_n 0, 1) := by decide +kernel
theorem dR_run_72 : decode bR_run 72 = .ok (.getfield 45, 3) := by decide +kernel
theorem dR_run_75 : decode bR_run 75 = .ok (.iload_n 2, 1) := by decide +kernel
theorem dR_run_76 : decode bR_run 76 = .ok (.iconst 0, 1) := by decide +kernel
theorem dR_run_77 : decode bR_run 77 = .ok (.bastore, 1) := by decide +kernel
theorem dR_run_78 : decode bR_run 78 = .ok (.aload_n 0, 1) := by decide +kernel
theorem dR_run_79 : decode bR_run 79 = .ok (.iload_n 1, 1) := by decide +kernel
theorem dR_run_80 : decode bR_run 80 = .ok (.invokevirtual 167, 3) := by decide +kernel
theorem dR_run_83 : decode bR_run 83 = .ok (.ifCond .eq 22, 3) := by decide +kernel
theorem dR_run_86 : decode bR_run 86 = .ok (.aload_n 0, 1) := by decide +kernel
theorem dR_run_87 : decode bR_run 87 = .ok (.getfield 45, 3) := by decide +kernel
theorem dR_run_90 : decode bR_run 90 = .ok (.iload_n 2, 1) := by decide +kernel
theorem dR_run_91 : decode bR_run 91 = .ok (.iconst 1, 1) := by decide +kernel
theorem dR_run_92 : decode bR_run 92 = .ok (.bastore, 1) := by decide +kernel
theorem dR_run_93 : decode bR_run 93 = .ok (.aload_n 0, 1) := by decide +kernel
theorem dR_run_94 : decode bR_run 94 = .ok (.dup, 1) := by decide +kernel
theorem dR_run_95 : decode bR_run 95 = .ok (.getfield 170, 3) := by decide +kernel
theorem dR_run_98 : decode bR_run 98 = .ok (.iconst 1, 1) := by decide +kernel
theorem dR_run_99 : decode bR_run 99 = .ok (.iload_n 2, 1) := by decide +kernel
theorem dR_run_100 : decode bR_run 100 = .ok (.ishl, 1) := by decide +kernel
theorem dR_run_101 : decode bR_run 101 = .ok (.ior, 1) := by decide +kernel
theorem dR_run_102 : decode bR_run 102 = .ok (.putfield 170, 3) := by decide +kernel
theorem dR_run_105 : decode bR_run 105 = .ok (.iinc 2 1, 3) := by decide +kernel
theorem dR_run_108 : decode bR_run 108 = .ok (.goto (-52), 3) := by decide +kernel
theorem dR_run_111 : decode bR_run 111 = .ok (.iconst 1, 1) := by decide +kernel
theorem dR_run_112 : decode bR_run 112 = .ok (.ireturn, 1) := by decide +kernel
theorem dR_run_113 : decode bR_run 113 = .ok (.aload_n 0, 1) := by decide +kernel
theorem dR_run_114 : decode bR_run 114 = .ok (.iload_n 1, 1) := by decide +kernel
theorem dR_run_115 : decode bR_run 115 = .ok (.invokevirtual 173, 3) := by decide +kernel
theorem dR_run_118 : decode bR_run 118 = .ok (.ifCond .eq 11, 3) := by decide +kernel
theorem dR_run_121 : decode bR_run 121 = .ok (.aload_n 0, 1) := by decide +kernel
theorem dR_run_122 : decode bR_run 122 = .ok (.iload_n 1, 1) := by decide +kernel
theorem dR_run_123 : decode bR_run 123 = .ok (.invokevirtual 176, 3) := by decide +kernel
theorem dR_run_126 : decode bR_run 126 = .ok (.goto 8, 3) := by decide +kernel
theorem dR_run_129 : decode bR_run 129 = .ok (.aload_n 0, 1) := by decide +kernel
theorem dR_run_130 : decode bR_run 130 = .ok (.iconst 2, 1) := by decide +kernel
theorem dR_run_131 : decode bR_run 131 = .ok (.putfield 34, 3) := by decide +kernel
theorem dR_run_134 : decode bR_run 134 = .ok (.aload_n 0, 1) := by decide +kernel
theorem dR_run_135 : decode bR_run 135 = .ok (.getfield 34, 3) := by decide +kernel
theorem dR_run_138 : decode bR_run 138 = .ok (.ireturn, 1) := by decide +kernel
theorem dR_amount_0 : decode bR_amount 0 = .ok (.aload_n 0, 1) := by decide +kernel
theorem dR_amount_1 : decode bR_amount 1 = .ok (.getfield 34, 3) := by decide +kernel
theorem dR_amount_4 : decode bR_amount 4 = .ok (.ifCond .ne 24, 3) := by decide +kernel
theorem dR_amount_7 : decode bR_amount 7 = .ok (.iload_n 1, 1) := by decide +kernel
theorem dR_amount_8 : decode bR_amount 8 = .ok (.ifCond .lt 20, 3) := by decide +kernel
theorem dR_amount_11 : decode bR_amount 11 = .ok (.iload_n 1, 1) := by decide +kernel
theorem dR_amount_12 : decode bR_amount 12 = .ok (.aload_n 0, 1) := by decide +kernel
theorem dR_amount_13 : decode bR_amount 13 = .ok (.getfield 164, 3) := by decide +kernel
theorem dR_amount_16 : decode bR_amount 16 = .ok (.if_icmp .ge 12, 3) := by decide +kernel
theorem dR_amount_19 : decode bR_amount 19 = .ok (.iload_n 2, 1) := by decide +kernel
theorem dR_amount_20 : decode bR_amount 20 = .ok (.iconst 0, 1) := by decide +kernel
theorem dR_amount_21 : decode bR_amount 21 = .ok (.iconst 1, 1) := by decide +kernel
theorem dR_amount_22 : decode bR_amount 22 = .ok (.invokestatic 70, 3) := by decide +kernel
theorem dR_amount_25 : decode bR_amount 25 = .ok (.ifCond .ne 9, 3) := by decide +kernel
theorem dR_amount_28 : decode bR_amount 28 = .ok (.ldc2_w 101, 3) := by decide +kernel
theorem dR_amount_31 : decode bR_amount 31 = .ok (.goto 22, 3) := by decide +kernel
theorem dR_amount_34 : decode bR_amount 34 = .ok (.iload_n 2, 1) := by decide +kernel
theorem dR_amount_35 : decode bR_amount 35 = .ok (.ifCond .ne 12, 3) := by decide +kernel
theorem dR_amount_38 : decode bR_amount 38 = .ok (.aload_n 0, 1) := by decide +kernel
theorem dR_amount_39 : decode bR_amount 39 = .ok (.getfield 38, 3) := by decide +kernel
theorem dR_amount_42 : decode bR_amount 42 = .ok (.iload_n 1, 1) := by decide +kernel
theorem dR_amount_43 : decode bR_amount 43 = .ok (.laload, 1) := by decide +kernel
theorem dR_amount_44 : decode bR_amount 44 = .ok (.goto 9, 3) := by decide +kernel
theorem dR_amount_47 : decode bR_amount 47 = .ok (.aload_n 0, 1) := by decide +kernel
theorem dR_amount_48 : decode bR_amount 48 = .ok (.getfield 42, 3) := by decide +kernel
theorem dR_amount_51 : decode bR_amount 51 = .ok (.iload_n 1, 1) := by decide +kernel
theorem dR_amount_52 : decode bR_amount 52 = .ok (.laload, 1) := by decide +kernel
theorem dR_amount_53 : decode bR_amount 53 = .ok (.lreturn, 1) := by decide +kernel
theorem dR_cost_0 : decode bR_cost 0 = .ok (.aload_n 0, 1) := by decide +kernel
theorem dR_cost_1 : decode bR_cost 1 = .ok (.getfield 34, 3) := by decide +kernel
theorem dR_cost_4 : decode bR_cost 4 = .ok (.ifCond .ne 12, 3) := by decide +kernel
theorem dR_cost_7 : decode bR_cost 7 = .ok (.iload_n 1, 1) := by decide +kernel
theorem dR_cost_8 : decode bR_cost 8 = .ok (.iconst 0, 1) := by decide +kernel
theorem dR_cost_9 : decode bR_cost 9 = .ok (.iconst 1, 1) := by decide +kernel
theorem dR_cost_10 : decode bR_cost 10 = .ok (.invokestatic 70, 3) := by decide +kernel
theorem dR_cost_13 : decode bR_cost 13 = .ok (.ifCond .ne 9, 3) := by decide +kernel
theorem dR_cost_16 : decode bR_cost 16 = .ok (.ldc2_w 101, 3) := by decide +kernel
theorem dR_cost_19 : decode bR_cost 19 = .ok (.goto 18, 3) := by decide +kernel
theorem dR_cost_22 : decode bR_cost 22 = .ok (.iload_n 1, 1) := by decide +kernel
theorem dR_cost_23 : decode bR_cost 23 = .ok (.ifCond .ne 10, 3) := by decide +kernel
theorem dR_cost_26 : decode bR_cost 26 = .ok (.aload_n 0, 1) := by decide +kernel
theorem dR_cost_27 : decode bR_cost 27 = .ok (.getfield 155, 3) := by decide +kernel
theorem dR_cost_30 : decode bR_cost 30 = .ok (.goto 7, 3) := by decide +kernel
theorem dR_cost_33 : decode bR_cost 33 = .ok (.aload_n 0, 1) := by decide +kernel
theorem dR_cost_34 : decode bR_cost 34 = .ok (.getfield 158, 3) := by decide +kernel
theorem dR_cost_37 : decode bR_cost 37 = .ok (.lreturn, 1) := by decide +kernel
theorem dR_tight_0 : decode bR_tight 0 = .ok (.aload_n 0, 1) := by decide +kernel
theorem dR_tight_1 : decode bR_tight 1 = .ok (.getfield 34, 3) := by decide +kernel
theorem dR_tight_4 : decode bR_tight 4 = .ok (.ifCond .eq 7, 3) := by decide +kernel
theorem dR_tight_7 : decode bR_tight 7 = .ok (.iconst (-1), 1) := by decide +kernel
theorem dR_tight_8 : decode bR_tight 8 = .ok (.goto 7, 3) := by decide +kernel
theorem dR_tight_11 : decode bR_tight 11 = .ok (.aload_n 0, 1) := by decide +kernel
theorem dR_tight_12 : decode bR_tight 12 = .ok (.getfield 148, 3) := by decide +kernel
theorem dR_tight_15 : decode bR_tight 15 = .ok (.ireturn, 1) := by decide +kernel
theorem dR_clash_0 : decode bR_clash 0 = .ok (.aload_n 0, 1) := by decide +kernel
theorem dR_clash_1 : decode bR_clash 1 = .ok (.getfield 34, 3) := by decide +kernel
theorem dR_clash_4 : decode bR_clash 4 = .ok (.iconst 1, 1) := by decide +kernel
theorem dR_clash_5 : decode bR_clash 5 = .ok (.if_icmp .ne 7, 3) := by decide +kernel
theorem dR_clash_8 : decode bR_clash 8 = .ok (.iload_n 1, 1) := by decide +kernel
theorem dR_clash_9 : decode bR_clash 9 = .ok (.ifCond .ge 5, 3) := by decide +kernel
theorem dR_clash_12 : decode bR_clash 12 = .ok (.iconst (-1), 1) := by decide +kernel
theorem dR_clash_13 : decode bR_clash 13 = .ok (.ireturn, 1) := by decide +kernel
theorem dR_clash_14 : decode bR_clash 14 = .ok (.iconst 0, 1) := by decide +kernel
theorem dR_clash_15 : decode bR_clash 15 = .ok (.istore_n 2, 1) := by decide +kernel
theorem dR_clash_16 : decode bR_clash 16 = .ok (.iconst 0, 1) := by decide +kernel
theorem dR_clash_17 : decode bR_clash 17 = .ok (.istore_n 3, 1) := by decide +kernel
theorem dR_clash_18 : decode bR_clash 18 = .ok (.iload_n 3, 1) := by decide +kernel
theorem dR_clash_19 : decode bR_clash 19 = .ok (.bipush 18, 2) := by decide +kernel
theorem dR_clash_21 : decode bR_clash 21 = .ok (.if_icmp .ge 31, 3) := by decide +kernel
theorem dR_clash_24 : decode bR_clash 24 = .ok (.aload_n 0, 1) := by decide +kernel
theorem dR_clash_25 : decode bR_clash 25 = .ok (.getfield 170, 3) := by decide +kernel
theorem dR_clash_28 : decode bR_clash 28 = .ok (.iload_n 3, 1) := by decide +kernel
theorem dR_clash_29 : decode bR_clash 29 = .ok (.ishr, 1) := by decide +kernel
theorem dR_clash_30 : decode bR_clash 30 = .ok (.iconst 1, 1) := by decide +kernel
theorem dR_clash_31 : decode bR_clash 31 = .ok (.iand, 1) := by decide +kernel
theorem dR_clash_32 : decode bR_clash 32 = .ok (.iconst 1, 1) := by decide +kernel
theorem dR_clash_33 : decode bR_clash 33 = .ok (.if_icmp .ne 13, 3) := by decide +kernel
theorem dR_clash_36 : decode bR_clash 36 = .ok (.iload_n 2, 1) := by decide +kernel
theorem dR_clash_37 : decode bR_clash 37 = .ok (.iload_n 1, 1) := by decide +kernel
theorem dR_clash_38 : decode bR_clash 38 = .ok (.if_icmp .ne 5, 3) := by decide +kernel
theorem dR_clash_41 : decode bR_clash 41 = .ok (.iload_n 3, 1) := by decide +kernel
theorem dR_clash_42 : decode bR_clash 42 = .ok (.ireturn, 1) := by decide +kernel
theorem dR_clash_43 : decode bR_clash 43 = .ok (.iinc 2 1, 3) := by decide +kernel
theorem dR_clash_46 : decode bR_clash 46 = .ok (.iinc 3 1, 3) := by decide +kernel
theorem dR_clash_49 : decode bR_clash 49 = .ok (.goto (-31), 3) := by decide +kernel
theorem dR_clash_52 : decode bR_clash 52 = .ok (.iconst (-1), 1) := by decide +kernel
theorem dR_clash_53 : decode bR_clash 53 = .ok (.ireturn, 1) := by decide +kernel
theorem dR_dearer_0 : decode bR_dearer 0 = .ok (.aload_n 0, 1) := by decide +kernel
theorem dR_dearer_1 : decode bR_dearer 1 = .ok (.getfield 34, 3) := by decide +kernel
theorem dR_dearer_4 : decode bR_dearer 4 = .ok (.ifCond .lt 47, 3) := by decide +kernel
theorem dR_dearer_7 : decode bR_dearer 7 = .ok (.iload_n 1, 1) := by decide +kernel
theorem dR_dearer_8 : decode bR_dearer 8 = .ok (.iconst 0, 1) := by decide +kernel
theorem dR_dearer_9 : decode bR_dearer 9 = .ok (.iconst 2, 1) := by decide +kernel
theorem dR_dearer_10 : decode bR_dearer 10 = .ok (.invokestatic 70, 3) := by decide +kernel
theorem dR_dearer_13 : decode bR_dearer 13 = .ok (.ifCond .eq 38, 3) := by decide +kernel
theorem dR_dearer_16 : decode bR_dearer 16 = .ok (.iload_n 2, 1) := by decide +kernel
theorem dR_dearer_17 : decode bR_dearer 17 = .ok (.iconst 0, 1) := by decide +kernel
theorem dR_dearer_18 : decode bR_dearer 18 = .ok (.iconst 1, 1) := by decide +kernel
theorem dR_dearer_19 : decode bR_dearer 19 = .ok (.invokestatic 70, 3) := by decide +kernel
theorem dR_dearer_22 : decode bR_dearer 22 = .ok (.ifCond .eq 29, 3) := by decide +kernel
theorem dR_dearer_25 : decode bR_dearer 25 = .ok (.aload_n 0, 1) := by decide +kernel
theorem dR_dearer_26 : decode bR_dearer 26 = .ok (.getfield 28, 3) := by decide +kernel
theorem dR_dearer_29 : decode bR_dearer 29 = .ok (.iload_n 1, 1) := by decide +kernel
theorem dR_dearer_30 : decode bR_dearer 30 = .ok (.iaload, 1) := by decide +kernel
theorem dR_dearer_31 : decode bR_dearer 31 = .ok (.aload_n 0, 1) := by decide +kernel
theorem dR_dearer_32 : decode bR_dearer 32 = .ok (.getfield 31, 3) := by decide +kernel
theorem dR_dearer_35 : decode bR_dearer 35 = .ok (.iload_n 1, 1) := by decide +kernel
theorem dR_dearer_36 : decode bR_dearer 36 = .ok (.iaload, 1) := by decide +kernel
theorem dR_dearer_37 : decode bR_dearer 37 = .ok (.if_icmp .eq 14, 3) := by decide +kernel
theorem dR_dearer_40 : decode bR_dearer 40 = .ok (.aload_n 0, 1) := by decide +kernel
theorem dR_dearer_41 : decode bR_dearer 41 = .ok (.aload_n 0, 1) := by decide +kernel
theorem dR_dearer_42 : decode bR_dearer 42 = .ok (.getfield 161, 3) := by decide +kernel
theorem dR_dearer_45 : decode bR_dearer 45 = .ok (.invokevirtual 173, 3) := by decide +kernel
theorem dR_dearer_48 : decode bR_dearer 48 = .ok (.ifCond .ne 7, 3) := by decide +kernel
theorem dR_dearer_51 : decode bR_dearer 51 = .ok (.ldc2_w 101, 3) := by decide +kernel
theorem dR_dearer_54 : decode bR_dearer 54 = .ok (.lreturn, 1) := by decide +kernel
theorem dR_dearer_55 : decode bR_dearer 55 = .ok (.aload_n 0, 1) := by decide +kernel
theorem dR_dearer_56 : decode bR_dearer 56 = .ok (.aload_n 0, 1) := by decide +kernel
theorem dR_dearer_57 : decode bR_dearer 57 = .ok (.getfield 64, 3) := by decide +kernel
theorem dR_dearer_60 : decode bR_dearer 60 = .ok (.invokevirtual 103, 3) := by decide +kernel
theorem dR_dearer_63 : decode bR_dearer 63 = .ok (.lstore_n 3, 1) := by decide +kernel
theorem dR_dearer_64 : decode bR_dearer 64 = .ok (.aload_n 0, 1) := by decide +kernel
theorem dR_dearer_65 : decode bR_dearer 65 = .ok (.getfield 107, 3) := by decide +kernel
theorem dR_dearer_68 : decode bR_dearer 68 = .ok (.lstore 5, 2) := by decide +kernel
theorem dR_dearer_70 : decode bR_dearer 70 = .ok (.aload_n 0, 1) := by decide +kernel
theorem dR_dearer_71 : decode bR_dearer 71 = .ok (.getfield 28, 3) := by decide +kernel
theorem dR_dearer_74 : decode bR_dearer 74 = .ok (.iload_n 1, 1) := by decide +kernel
theorem dR_dearer_75 : decode bR_dearer 75 = .ok (.dup2, 1) := by decide +kernel
theorem dR_dearer_76 : decode bR_dearer 76 = .ok (.iaload, 1) := by decide +kernel
theorem dR_dearer_77 : decode bR_dearer 77 = .ok (.iconst 1, 1) := by decide +kernel
theorem dR_dearer_78 : decode bR_dearer 78 = .ok (.iadd, 1) := by decide +kernel
theorem dR_dearer_79 : decode bR_dearer 79 = .ok (.iastore, 1) := by decide +kernel
theorem dR_dearer_80 : decode bR_dearer 80 = .ok (.aload_n 0, 1) := by decide +kernel
theorem dR_dearer_81 : decode bR_dearer 81 = .ok (.aload_n 0, 1) := by decide +kernel
theorem dR_dearer_82 : decode bR_dearer 82 = .ok (.getfield 161, 3) := by decide +kernel
theorem dR_dearer_85 : decode bR_dearer 85 = .ok (.invokevirtual 173, 3) := by decide +kernel
theorem dR_dearer_88 : decode bR_dearer 88 = .ok (.istore 7, 2) := by decide +kernel
theorem dR_dearer_90 : decode bR_dearer 90 = .ok (.aload_n 0, 1) := by decide +kernel
theorem dR_dearer_91 : decode bR_dearer 91 = .ok (.getfield 28, 3) := by decide +kernel
theorem dR_dearer_94 : decode bR_dearer 94 = .ok (.iload_n 1, 1) := by decide +kernel
theorem dR_dearer_95 : decode bR_dearer 95 = .ok (.dup2, 1) := by decide +kernel
theorem dR_dearer_96 : decode bR_dearer 96 = .ok (.iaload, 1) := by decide +kernel
theorem dR_dearer_97 : decode bR_dearer 97 = .ok (.iconst 1, 1) := by decide +kernel
theorem dR_dearer_98 : decode bR_dearer 98 = .ok (.isub, 1) := by decide +kernel
theorem dR_dearer_99 : decode bR_dearer 99 = .ok (.iastore, 1) := by decide +kernel
theorem dR_dearer_100 : decode bR_dearer 100 = .ok (.iload 7, 2) := by decide +kernel
theorem dR_dearer_102 : decode bR_dearer 102 = .ok (.ifCond .ne 7, 3) := by decide +kernel
theorem dR_dearer_105 : decode bR_dearer 105 = .ok (.ldc2_w 101, 3) := by decide +kernel
theorem dR_dearer_108 : decode bR_dearer 108 = .ok (.lreturn, 1) := by decide +kernel
theorem dR_dearer_109 : decode bR_dearer 109 = .ok (.aload_n 0, 1) := by decide +kernel
theorem dR_dearer_110 : decode bR_dearer 110 = .ok (.aload_n 0, 1) := by decide +kernel
theorem dR_dearer_111 : decode bR_dearer 111 = .ok (.getfield 64, 3) := by decide +kernel
theorem dR_dearer_114 : decode bR_dearer 114 = .ok (.invokevirtual 103, 3) := by decide +kernel
theorem dR_dearer_117 : decode bR_dearer 117 = .ok (.lload 5, 2) := by decide +kernel
theorem dR_dearer_119 : decode bR_dearer 119 = .ok (.lmul, 1) := by decide +kernel
theorem dR_dearer_120 : decode bR_dearer 120 = .ok (.lload_n 3, 1) := by decide +kernel
theorem dR_dearer_121 : decode bR_dearer 121 = .ok (.aload_n 0, 1) := by decide +kernel
theorem dR_dearer_122 : decode bR_dearer 122 = .ok (.getfield 107, 3) := by decide +kernel
theorem dR_dearer_125 : decode bR_dearer 125 = .ok (.lmul, 1) := by decide +kernel
theorem dR_dearer_126 : decode bR_dearer 126 = .ok (.lsub, 1) := by decide +kernel
theorem dR_dearer_127 : decode bR_dearer 127 = .ok (.lstore 8, 2) := by decide +kernel
theorem dR_dearer_129 : decode bR_dearer 129 = .ok (.lload 5, 2) := by decide +kernel
theorem dR_dearer_131 : decode bR_dearer 131 = .ok (.aload_n 0, 1) := by decide +kernel
theorem dR_dearer_132 : decode bR_dearer 132 = .ok (.getfield 107, 3) := by decide +kernel
theorem dR_dearer_135 : decode bR_dearer 135 = .ok (.lmul, 1) := by decide +kernel
theorem dR_dearer_136 : decode bR_dearer 136 = .ok (.lstore 10, 2) := by decide +kernel
theorem dR_dearer_138 : decode bR_dearer 138 = .ok (.lload 8, 2) := by decide +kernel
theorem dR_dearer_140 : decode bR_dearer 140 = .ok (.lload 10, 2) := by decide +kernel
theorem dR_dearer_142 : decode bR_dearer 142 = .ok (.invokestatic 151, 3) := by decide +kernel
theorem dR_dearer_145 : decode bR_dearer 145 = .ok (.lstore 12, 2) := by decide +kernel
theorem dR_dearer_147 : decode bR_dearer 147 = .ok (.iload_n 2, 1) := by decide +kernel
theorem dR_dearer_148 : decode bR_dearer 148 = .ok (.ifCond .ne 11, 3) := by decide +kernel
theorem dR_dearer_151 : decode bR_dearer 151 = .ok (.lload 8, 2) := by decide +kernel
theorem dR_dearer_153 : decode bR_dearer 153 = .ok (.lload 12, 2) := by decide +kernel
theorem dR_dearer_155 : decode bR_dearer 155 = .ok (.ldiv, 1) := by decide +kernel
theorem dR_dearer_156 : decode bR_dearer 156 = .ok (.goto 8, 3) := by decide +kernel
theorem dR_dearer_159 : decode bR_dearer 159 = .ok (.lload 10, 2) := by decide +kernel
theorem dR_dearer_161 : decode bR_dearer 161 = .ok (.lload 12, 2) := by decide +kernel
theorem dR_dearer_163 : decode bR_dearer 163 = .ok (.ldiv, 1) := by decide +kernel
theorem dR_dearer_164 : decode bR_dearer 164 = .ok (.lreturn, 1) := by decide +kernel
theorem dR_line_0 : decode bR_line 0 = .ok (.iload_n 1, 1) := by decide +kernel
theorem dR_line_1 : decode bR_line 1 = .ok (.iconst 0, 1) := by decide +kernel
theorem dR_line_2 : decode bR_line 2 = .ok (.iconst 3, 1) := by decide +kernel
theorem dR_line_3 : decode bR_line 3 = .ok (.invokestatic 70, 3) := by decide +kernel
theorem dR_line_6 : decode bR_line 6 = .ok (.ifCond .eq 10, 3) := by decide +kernel
theorem dR_line_9 : decode bR_line 9 = .ok (.aload_n 0, 1) := by decide +kernel
theorem dR_line_10 : decode bR_line 10 = .ok (.getfield 34, 3) := by decide +kernel
theorem dR_line_13 : decode bR_line 13 = .ok (.ifCond .eq 5, 3) := by decide +kernel
theorem dR_line_16 : decode bR_line 16 = .ok (.iconst (-1), 1) := by decide +kernel
theorem dR_line_17 : decode bR_line 17 = .ok (.ireturn, 1) := by decide +kernel
theorem dR_line_18 : decode bR_line 18 = .ok (.aload_n 0, 1) := by decide +kernel
theorem dR_line_19 : decode bR_line 19 = .ok (.getfield 180, 3) := by decide +kernel
theorem dR_line_22 : decode bR_line 22 = .ok (.ifCond .eq 13, 3) := by decide +kernel
theorem dR_line_25 : decode bR_line 25 = .ok (.aload_n 0, 1) := by decide +kernel
theorem dR_line_26 : decode bR_line 26 = .ok (.getfield 180, 3) := by decide +kernel
theorem dR_line_29 : decode bR_line 29 = .ok (.iload_n 1, 1) := by decide +kernel
theorem dR_line_30 : decode bR_line 30 = .ok (.if_icmp .eq 5, 3) := by decide +kernel
theorem dR_line_33 : decode bR_line 33 = .ok (.iconst 1, 1) := by decide +kernel
theorem dR_line_34 : decode bR_line 34 = .ok (.ireturn, 1) := by decide +kernel
theorem dR_line_35 : decode bR_line 35 = .ok (.aload_n 0, 1) := by decide +kernel
theorem dR_line_36 : decode bR_line 36 = .ok (.iload_n 1, 1) := by decide +kernel
theorem dR_line_37 : decode bR_line 37 = .ok (.putfield 180, 3) := by decide +kernel
theorem dR_line_40 : decode bR_line 40 = .ok (.aload_n 0, 1) := by decide +kernel
theorem dR_line_41 : decode bR_line 41 = .ok (.dup, 1) := by decide +kernel
theorem dR_line_42 : decode bR_line 42 = .ok (.getfield 183, 3) := by decide +kernel
theorem dR_line_45 : decode bR_line 45 = .ok (.iconst 1, 1) := by decide +kernel
theorem dR_line_46 : decode bR_line 46 = .ok (.iadd, 1) := by decide +kernel
theorem dR_line_47 : decode bR_line 47 = .ok (.putfield 183, 3) := by decide +kernel
theorem dR_line_50 : decode bR_line 50 = .ok (.iconst 0, 1) := by decide +kernel
theorem dR_line_51 : decode bR_line 51 = .ok (.ireturn, 1) := by decide +kernel
theorem dR_clean_0 : decode bR_clean 0 = .ok (.aload_n 0, 1) := by decide +kernel
theorem dR_clean_1 : decode bR_clean 1 = .ok (.getfield 180, 3) := by decide +kernel
theorem dR_clean_4 : decode bR_clean 4 = .ok (.istore_n 1, 1) := by decide +kernel
theorem dR_clean_5 : decode bR_clean 5 = .ok (.aload_n 0, 1) := by decide +kernel
theorem dR_clean_6 : decode bR_clean 6 = .ok (.iconst 0, 1) := by decide +kernel
theorem dR_clean_7 : decode bR_clean 7 = .ok (.putfield 180, 3) := by decide +kernel
theorem dR_clean_10 : decode bR_clean 10 = .ok (.iload_n 1, 1) := by decide +kernel
theorem dR_clean_11 : decode bR_clean 11 = .ok (.ireturn, 1) := by decide +kernel
theorem dR_made_0 : decode bR_made 0 = .ok (.aload_n 0, 1) := by decide +kernel
theorem dR_made_1 : decode bR_made 1 = .ok (.getfield 183, 3) := by decide +kernel
theorem dR_made_4 : decode bR_made 4 = .ok (.ireturn, 1) := by decide +kernel
