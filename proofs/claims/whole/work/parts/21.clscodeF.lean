theorem dF_init_0 : decode bF_init 0 = .ok (.aload_n 0, 1) := by decide +kernel
theorem dF_init_1 : decode bF_init 1 = .ok (.invokespecial 3, 3) := by decide +kernel
theorem dF_init_4 : decode bF_init 4 = .ok (.aload_n 0, 1) := by decide +kernel
theorem dF_init_5 : decode bF_init 5 = .ok (.new 9, 3) := by decide +kernel
theorem dF_init_8 : decode bF_init 8 = .ok (.dup, 1) := by decide +kernel
theorem dF_init_9 : decode bF_init 9 = .ok (.invokespecial 11, 3) := by decide +kernel
theorem dF_init_12 : decode bF_init 12 = .ok (.putfield 12, 3) := by decide +kernel
theorem dF_init_15 : decode bF_init 15 = .ok (.aload_n 0, 1) := by decide +kernel
theorem dF_init_16 : decode bF_init 16 = .ok (.new 16, 3) := by decide +kernel
theorem dF_init_19 : decode bF_init 19 = .ok (.dup, 1) := by decide +kernel
theorem dF_init_20 : decode bF_init 20 = .ok (.aload_n 0, 1) := by decide +kernel
theorem dF_init_21 : decode bF_init 21 = .ok (.getfield 12, 3) := by decide +kernel
theorem dF_init_24 : decode bF_init 24 = .ok (.invokespecial 18, 3) := by decide +kernel
theorem dF_init_27 : decode bF_init 27 = .ok (.putfield 21, 3) := by decide +kernel
theorem dF_init_30 : decode bF_init 30 = .ok (.aload_n 0, 1) := by decide +kernel
theorem dF_init_31 : decode bF_init 31 = .ok (.iconst (-1), 1) := by decide +kernel
theorem dF_init_32 : decode bF_init 32 = .ok (.putfield 25, 3) := by decide +kernel
theorem dF_init_35 : decode bF_init 35 = .ok (.aload_n 0, 1) := by decide +kernel
theorem dF_init_36 : decode bF_init 36 = .ok (.iconst 0, 1) := by decide +kernel
theorem dF_init_37 : decode bF_init 37 = .ok (.putfield 29, 3) := by decide +kernel
theorem dF_init_40 : decode bF_init 40 = .ok (.aload_n 0, 1) := by decide +kernel
theorem dF_init_41 : decode bF_init 41 = .ok (.iconst 0, 1) := by decide +kernel
theorem dF_init_42 : decode bF_init 42 = .ok (.putfield 32, 3) := by decide +kernel
theorem dF_init_45 : decode bF_init 45 = .ok (.aload_n 0, 1) := by decide +kernel
theorem dF_init_46 : decode bF_init 46 = .ok (.iconst 0, 1) := by decide +kernel
theorem dF_init_47 : decode bF_init 47 = .ok (.putfield 35, 3) := by decide +kernel
theorem dF_init_50 : decode bF_init 50 = .ok (.aload_n 0, 1) := by decide +kernel
theorem dF_init_51 : decode bF_init 51 = .ok (.iconst 0, 1) := by decide +kernel
theorem dF_init_52 : decode bF_init 52 = .ok (.putfield 38, 3) := by decide +kernel
theorem dF_init_55 : decode bF_init 55 = .ok (.aload_n 0, 1) := by decide +kernel
theorem dF_init_56 : decode bF_init 56 = .ok (.new 41, 3) := by decide +kernel
theorem dF_init_59 : decode bF_init 59 = .ok (.dup, 1) := by decide +kernel
theorem dF_init_60 : decode bF_init 60 = .ok (.invokespecial 43, 3) := by decide +kernel
theorem dF_init_63 : decode bF_init 63 = .ok (.putfield 44, 3) := by decide +kernel
theorem dF_init_66 : decode bF_init 66 = .ok (.aload_n 0, 1) := by decide +kernel
theorem dF_init_67 : decode bF_init 67 = .ok (.new 41, 3) := by decide +kernel
theorem dF_init_70 : decode bF_init 70 = .ok (.dup, 1) := by decide +kernel
theorem dF_init_71 : decode bF_init 71 = .ok (.invokespecial 43, 3) := by decide +kernel
theorem dF_init_74 : decode bF_init 74 = .ok (.putfield 48, 3) := by decide +kernel
theorem dF_init_77 : decode bF_init 77 = .ok (.aload_n 0, 1) := by decide +kernel
theorem dF_init_78 : decode bF_init 78 = .ok (.new 41, 3) := by decide +kernel
theorem dF_init_81 : decode bF_init 81 = .ok (.dup, 1) := by decide +kernel
theorem dF_init_82 : decode bF_init 82 = .ok (.invokespecial 43, 3) := by decide +kernel
theorem dF_init_85 : decode bF_init 85 = .ok (.putfield 51, 3) := by decide +kernel
theorem dF_init_88 : decode bF_init 88 = .ok (.aload_n 0, 1) := by decide +kernel
theorem dF_init_89 : decode bF_init 89 = .ok (.iconst 0, 1) := by decide +kernel
theorem dF_init_90 : decode bF_init 90 = .ok (.putfield 54, 3) := by decide +kernel
theorem dF_init_93 : decode bF_init 93 = .ok (.aload_n 0, 1) := by decide +kernel
theorem dF_init_94 : decode bF_init 94 = .ok (.iconst 0, 1) := by decide +kernel
theorem dF_init_95 : decode bF_init 95 = .ok (.putfield 57, 3) := by decide +kernel
theorem dF_init_98 : decode bF_init 98 = .ok (.return_, 1) := by decide +kernel
theorem dF_stuff_0 : decode bF_stuff 0 = .ok (.aload_n 0, 1) := by decide +kernel
theorem dF_stuff_1 : decode bF_stuff 1 = .ok (.getfield 12, 3) := by decide +kernel
theorem dF_stuff_4 : decode bF_stuff 4 = .ok (.getfield 60, 3) := by decide +kernel
theorem dF_stuff_7 : decode bF_stuff 7 = .ok (.iconst 4, 1) := by decide +kernel
theorem dF_stuff_8 : decode bF_stuff 8 = .ok (.if_icmp .ge 17, 3) := by decide +kernel
theorem dF_stuff_11 : decode bF_stuff 11 = .ok (.iload_n 1, 1) := by decide +kernel
theorem dF_stuff_12 : decode bF_stuff 12 = .ok (.invokestatic 63, 3) := by decide +kernel
theorem dF_stuff_15 : decode bF_stuff 15 = .ok (.ifCond .eq 10, 3) := by decide +kernel
theorem dF_stuff_18 : decode bF_stuff 18 = .ok (.iload_n 2, 1) := by decide +kernel
theorem dF_stuff_19 : decode bF_stuff 19 = .ok (.invokestatic 67, 3) := by decide +kernel
theorem dF_stuff_22 : decode bF_stuff 22 = .ok (.ifCond .ne 5, 3) := by decide +kernel
theorem dF_stuff_25 : decode bF_stuff 25 = .ok (.iconst (-1), 1) := by decide +kernel
theorem dF_stuff_26 : decode bF_stuff 26 = .ok (.ireturn, 1) := by decide +kernel
theorem dF_stuff_27 : decode bF_stuff 27 = .ok (.aload_n 0, 1) := by decide +kernel
theorem dF_stuff_28 : decode bF_stuff 28 = .ok (.getfield 12, 3) := by decide +kernel
theorem dF_stuff_31 : decode bF_stuff 31 = .ok (.getfield 60, 3) := by decide +kernel
theorem dF_stuff_34 : decode bF_stuff 34 = .ok (.istore_n 3, 1) := by decide +kernel
theorem dF_stuff_35 : decode bF_stuff 35 = .ok (.aload_n 0, 1) := by decide +kernel
theorem dF_stuff_36 : decode bF_stuff 36 = .ok (.getfield 12, 3) := by decide +kernel
theorem dF_stuff_39 : decode bF_stuff 39 = .ok (.getfield 70, 3) := by decide +kernel
theorem dF_stuff_42 : decode bF_stuff 42 = .ok (.iload_n 3, 1) := by decide +kernel
theorem dF_stuff_43 : decode bF_stuff 43 = .ok (.iload_n 1, 1) := by decide +kernel
theorem dF_stuff_44 : decode bF_stuff 44 = .ok (.iastore, 1) := by decide +kernel
theorem dF_stuff_45 : decode bF_stuff 45 = .ok (.aload_n 0, 1) := by decide +kernel
theorem dF_stuff_46 : decode bF_stuff 46 = .ok (.getfield 12, 3) := by decide +kernel
theorem dF_stuff_49 : decode bF_stuff 49 = .ok (.getfield 74, 3) := by decide +kernel
theorem dF_stuff_52 : decode bF_stuff 52 = .ok (.iload_n 3, 1) := by decide +kernel
theorem dF_stuff_53 : decode bF_stuff 53 = .ok (.iload_n 2, 1) := by decide +kernel
theorem dF_stuff_54 : decode bF_stuff 54 = .ok (.iastore, 1) := by decide +kernel
theorem dF_stuff_55 : decode bF_stuff 55 = .ok (.aload_n 0, 1) := by decide +kernel
theorem dF_stuff_56 : decode bF_stuff 56 = .ok (.getfield 12, 3) := by decide +kernel
theorem dF_stuff_59 : decode bF_stuff 59 = .ok (.getfield 77, 3) := by decide +kernel
theorem dF_stuff_62 : decode bF_stuff 62 = .ok (.iload_n 3, 1) := by decide +kernel
theorem dF_stuff_63 : decode bF_stuff 63 = .ok (.bipush 10, 2) := by decide +kernel
theorem dF_stuff_65 : decode bF_stuff 65 = .ok (.iastore, 1) := by decide +kernel
theorem dF_stuff_66 : decode bF_stuff 66 = .ok (.aload_n 0, 1) := by decide +kernel
theorem dF_stuff_67 : decode bF_stuff 67 = .ok (.getfield 12, 3) := by decide +kernel
theorem dF_stuff_70 : decode bF_stuff 70 = .ok (.iload_n 3, 1) := by decide +kernel
theorem dF_stuff_71 : decode bF_stuff 71 = .ok (.iconst 1, 1) := by decide +kernel
theorem dF_stuff_72 : decode bF_stuff 72 = .ok (.iadd, 1) := by decide +kernel
theorem dF_stuff_73 : decode bF_stuff 73 = .ok (.putfield 60, 3) := by decide +kernel
theorem dF_stuff_76 : decode bF_stuff 76 = .ok (.iload_n 3, 1) := by decide +kernel
theorem dF_stuff_77 : decode bF_stuff 77 = .ok (.ireturn, 1) := by decide +kernel
theorem dF_price_0 : decode bF_price 0 = .ok (.aload_n 0, 1) := by decide +kernel
theorem dF_price_1 : decode bF_price 1 = .ok (.iload_n 1, 1) := by decide +kernel
theorem dF_price_2 : decode bF_price 2 = .ok (.invokevirtual 80, 3) := by decide +kernel
theorem dF_price_5 : decode bF_price 5 = .ok (.ifCond .eq 10, 3) := by decide +kernel
theorem dF_price_8 : decode bF_price 8 = .ok (.iload_n 2, 1) := by decide +kernel
theorem dF_price_9 : decode bF_price 9 = .ok (.invokestatic 63, 3) := by decide +kernel
theorem dF_price_12 : decode bF_price 12 = .ok (.ifCond .ne 5, 3) := by decide +kernel
theorem dF_price_15 : decode bF_price 15 = .ok (.iconst (-1), 1) := by decide +kernel
theorem dF_price_16 : decode bF_price 16 = .ok (.ireturn, 1) := by decide +kernel
theorem dF_price_17 : decode bF_price 17 = .ok (.aload_n 0, 1) := by decide +kernel
theorem dF_price_18 : decode bF_price 18 = .ok (.getfield 12, 3) := by decide +kernel
theorem dF_price_21 : decode bF_price 21 = .ok (.getfield 70, 3) := by decide +kernel
theorem dF_price_24 : decode bF_price 24 = .ok (.iload_n 1, 1) := by decide +kernel
theorem dF_price_25 : decode bF_price 25 = .ok (.iaload, 1) := by decide +kernel
theorem dF_price_26 : decode bF_price 26 = .ok (.istore_n 3, 1) := by decide +kernel
theorem dF_price_27 : decode bF_price 27 = .ok (.aload_n 0, 1) := by decide +kernel
theorem dF_price_28 : decode bF_price 28 = .ok (.getfield 12, 3) := by decide +kernel
theorem dF_price_31 : decode bF_price 31 = .ok (.getfield 70, 3) := by decide +kernel
theorem dF_price_34 : decode bF_price 34 = .ok (.iload_n 1, 1) := by decide +kernel
theorem dF_price_35 : decode bF_price 35 = .ok (.iload_n 2, 1) := by decide +kernel
theorem dF_price_36 : decode bF_price 36 = .ok (.iastore, 1) := by decide +kernel
theorem dF_price_37 : decode bF_price 37 = .ok (.iload_n 3, 1) := by decide +kernel
theorem dF_price_38 : decode bF_price 38 = .ok (.ireturn, 1) := by decide +kernel
theorem dF_stock_0 : decode bF_stock 0 = .ok (.aload_n 0, 1) := by decide +kernel
theorem dF_stock_1 : decode bF_stock 1 = .ok (.iload_n 1, 1) := by decide +kernel
theorem dF_stock_2 : decode bF_stock 2 = .ok (.invokevirtual 80, 3) := by decide +kernel
theorem dF_stock_5 : decode bF_stock 5 = .ok (.ifCond .eq 10, 3) := by decide +kernel
theorem dF_stock_8 : decode bF_stock 8 = .ok (.iload_n 2, 1) := by decide +kernel
theorem dF_stock_9 : decode bF_stock 9 = .ok (.invokestatic 67, 3) := by decide +kernel
theorem dF_stock_12 : decode bF_stock 12 = .ok (.ifCond .ne 5, 3) := by decide +kernel
theorem dF_stock_15 : decode bF_stock 15 = .ok (.iconst (-1), 1) := by decide +kernel
theorem dF_stock_16 : decode bF_stock 16 = .ok (.ireturn, 1) := by decide +kernel
theorem dF_stock_17 : decode bF_stock 17 = .ok (.aload_n 0, 1) := by decide +kernel
theorem dF_stock_18 : decode bF_stock 18 = .ok (.getfield 12, 3) := by decide +kernel
theorem dF_stock_21 : decode bF_stock 21 = .ok (.getfield 74, 3) := by decide +kernel
theorem dF_stock_24 : decode bF_stock 24 = .ok (.iload_n 1, 1) := by decide +kernel
theorem dF_stock_25 : decode bF_stock 25 = .ok (.iaload, 1) := by decide +kernel
theorem dF_stock_26 : decode bF_stock 26 = .ok (.istore_n 3, 1) := by decide +kernel
theorem dF_stock_27 : decode bF_stock 27 = .ok (.aload_n 0, 1) := by decide +kernel
theorem dF_stock_28 : decode bF_stock 28 = .ok (.getfield 12, 3) := by decide +kernel
theorem dF_stock_31 : decode bF_stock 31 = .ok (.getfield 74, 3) := by decide +kernel
theorem dF_stock_34 : decode bF_stock 34 = .ok (.iload_n 1, 1) := by decide +kernel
theorem dF_stock_35 : decode bF_stock 35 = .ok (.iload_n 2, 1) := by decide +kernel
theorem dF_stock_36 : decode bF_stock 36 = .ok (.iastore, 1) := by decide +kernel
theorem dF_stock_37 : decode bF_stock 37 = .ok (.iload_n 3, 1) := by decide +kernel
theorem dF_stock_38 : decode bF_stock 38 = .ok (.ireturn, 1) := by decide +kernel
theorem dF_holds_0 : decode bF_holds 0 = .ok (.aload_n 0, 1) := by decide +kernel
theorem dF_holds_1 : decode bF_holds 1 = .ok (.iload_n 1, 1) := by decide +kernel
theorem dF_holds_2 : decode bF_holds 2 = .ok (.invokevirtual 80, 3) := by decide +kernel
theorem dF_holds_5 : decode bF_holds 5 = .ok (.ifCond .eq 20, 3) := by decide +kernel
theorem dF_holds_8 : decode bF_holds 8 = .ok (.iload_n 2, 1) := by decide +kernel
theorem dF_holds_9 : decode bF_holds 9 = .ok (.invokestatic 83, 3) := by decide +kernel
theorem dF_holds_12 : decode bF_holds 12 = .ok (.ifCond .eq 13, 3) := by decide +kernel
theorem dF_holds_15 : decode bF_holds 15 = .ok (.iload_n 3, 1) := by decide +kernel
theorem dF_holds_16 : decode bF_holds 16 = .ok (.iconst 0, 1) := by decide +kernel
theorem dF_holds_17 : decode bF_holds 17 = .ok (.bipush 40, 2) := by decide +kernel
theorem dF_holds_19 : decode bF_holds 19 = .ok (.invokestatic 86, 3) := by decide +kernel
theorem dF_holds_22 : decode bF_holds 22 = .ok (.ifCond .ne 5, 3) := by decide +kernel
theorem dF_holds_25 : decode bF_holds 25 = .ok (.iconst 0, 1) := by decide +kernel
theorem dF_holds_26 : decode bF_holds 26 = .ok (.ireturn, 1) := by decide +kernel
theorem dF_holds_27 : decode bF_holds 27 = .ok (.aload_n 0, 1) := by decide +kernel
theorem dF_holds_28 : decode bF_holds 28 = .ok (.getfield 12, 3) := by decide +kernel
theorem dF_holds_31 : decode bF_holds 31 = .ok (.getfield 90, 3) := by decide +kernel
theorem dF_holds_34 : decode bF_holds 34 = .ok (.iload_n 2, 1) := by decide +kernel
theorem dF_holds_35 : decode bF_holds 35 = .ok (.aaload, 1) := by decide +kernel
theorem dF_holds_36 : decode bF_holds 36 = .ok (.iload_n 1, 1) := by decide +kernel
theorem dF_holds_37 : decode bF_holds 37 = .ok (.iload_n 3, 1) := by decide +kernel
theorem dF_holds_38 : decode bF_holds 38 = .ok (.iastore, 1) := by decide +kernel
theorem dF_holds_39 : decode bF_holds 39 = .ok (.iconst 1, 1) := by decide +kernel
theorem dF_holds_40 : decode bF_holds 40 = .ok (.ireturn, 1) := by decide +kernel
theorem dF_need_0 : decode bF_need 0 = .ok (.iload_n 1, 1) := by decide +kernel
theorem dF_need_1 : decode bF_need 1 = .ok (.invokestatic 83, 3) := by decide +kernel
theorem dF_need_4 : decode bF_need 4 = .ok (.ifCond .eq 13, 3) := by decide +kernel
theorem dF_need_7 : decode bF_need 7 = .ok (.iload_n 2, 1) := by decide +kernel
theorem dF_need_8 : decode bF_need 8 = .ok (.iload_n 3, 1) := by decide +kernel
theorem dF_need_9 : decode bF_need 9 = .ok (.bipush 40, 2) := by decide +kernel
theorem dF_need_11 : decode bF_need 11 = .ok (.invokestatic 94, 3) := by decide +kernel
theorem dF_need_14 : decode bF_need 14 = .ok (.ifCond .ne 5, 3) := by decide +kernel
theorem dF_need_17 : decode bF_need 17 = .ok (.iconst 0, 1) := by decide +kernel
theorem dF_need_18 : decode bF_need 18 = .ok (.ireturn, 1) := by decide +kernel
theorem dF_need_19 : decode bF_need 19 = .ok (.aload_n 0, 1) := by decide +kernel
theorem dF_need_20 : decode bF_need 20 = .ok (.getfield 12, 3) := by decide +kernel
theorem dF_need_23 : decode bF_need 23 = .ok (.getfield 97, 3) := by decide +kernel
theorem dF_need_26 : decode bF_need 26 = .ok (.iload_n 1, 1) := by decide +kernel
theorem dF_need_27 : decode bF_need 27 = .ok (.iload_n 2, 1) := by decide +kernel
theorem dF_need_28 : decode bF_need 28 = .ok (.iastore, 1) := by decide +kernel
theorem dF_need_29 : decode bF_need 29 = .ok (.aload_n 0, 1) := by decide +kernel
theorem dF_need_30 : decode bF_need 30 = .ok (.getfield 12, 3) := by decide +kernel
theorem dF_need_33 : decode bF_need 33 = .ok (.getfield 100, 3) := by decide +kernel
theorem dF_need_36 : decode bF_need 36 = .ok (.iload_n 1, 1) := by decide +kernel
theorem dF_need_37 : decode bF_need 37 = .ok (.iload_n 3, 1) := by decide +kernel
theorem dF_need_38 : decode bF_need 38 = .ok (.iastore, 1) := by decide +kernel
theorem dF_need_39 : decode bF_need 39 = .ok (.iconst 1, 1) := by decide +kernel
theorem dF_need_40 : decode bF_need 40 = .ok (.ireturn, 1) := by decide +kernel
theorem dF_shares_0 : decode bF_shares 0 = .ok (.aload_n 0, 1) := by decide +kernel
theorem dF_shares_1 : decode bF_shares 1 = .ok (.iload_n 1, 1) := by decide +kernel
theorem dF_shares_2 : decode bF_shares 2 = .ok (.invokevirtual 80, 3) := by decide +kernel
theorem dF_shares_5 : decode bF_shares 5 = .ok (.ifCond .eq 13, 3) := by decide +kernel
theorem dF_shares_8 : decode bF_shares 8 = .ok (.iload_n 2, 1) := by decide +kernel
theorem dF_shares_9 : decode bF_shares 9 = .ok (.iload_n 3, 1) := by decide +kernel
theorem dF_shares_10 : decode bF_shares 10 = .ok (.bipush 10, 2) := by decide +kernel
theorem dF_shares_12 : decode bF_shares 12 = .ok (.invokestatic 94, 3) := by decide +kernel
theorem dF_shares_15 : decode bF_shares 15 = .ok (.ifCond .ne 5, 3) := by decide +kernel
theorem dF_shares_18 : decode bF_shares 18 = .ok (.iconst 0, 1) := by decide +kernel
theorem dF_shares_19 : decode bF_shares 19 = .ok (.ireturn, 1) := by decide +kernel
theorem dF_shares_20 : decode bF_shares 20 = .ok (.aload_n 0, 1) := by decide +kernel
theorem dF_shares_21 : decode bF_shares 21 = .ok (.getfield 12, 3) := by decide +kernel
theorem dF_shares_24 : decode bF_shares 24 = .ok (.getfield 103, 3) := by decide +kernel
theorem dF_shares_27 : decode bF_shares 27 = .ok (.iload_n 1, 1) := by decide +kernel
theorem dF_shares_28 : decode bF_shares 28 = .ok (.iload_n 2, 1) := by decide +kernel
theorem dF_shares_29 : decode bF_shares 29 = .ok (.iastore, 1) := by decide +kernel
theorem dF_shares_30 : decode bF_shares 30 = .ok (.aload_n 0, 1) := by decide +kernel
theorem dF_shares_31 : decode bF_shares 31 = .ok (.getfield 12, 3) := by decide +kernel
theorem dF_shares_34 : decode bF_shares 34 = .ok (.getfield 77, 3) := by decide +kernel
theorem dF_shares_37 : decode bF_shares 37 = .ok (.iload_n 1, 1) := by decide +kernel
theorem dF_shares_38 : decode bF_shares 38 = .ok (.iload_n 3, 1) := by decide +kernel
theorem dF_shares_39 : decode bF_shares 39 = .ok (.iastore, 1) := by decide +kernel
theorem dF_shares_40 : decode bF_shares 40 = .ok (.iconst 1, 1) := by decide +kernel
theorem dF_shares_41 : decode bF_shares 41 = .ok (.ireturn, 1) := by decide +kernel
theorem dF_silo_0 : decode bF_silo 0 = .ok (.aload_n 0, 1) := by decide +kernel
theorem dF_silo_1 : decode bF_silo 1 = .ok (.iload_n 1, 1) := by decide +kernel
theorem dF_silo_2 : decode bF_silo 2 = .ok (.invokevirtual 80, 3) := by decide +kernel
theorem dF_silo_5 : decode bF_silo 5 = .ok (.ifCond .eq 17, 3) := by decide +kernel
theorem dF_silo_8 : decode bF_silo 8 = .ok (.iload_n 2, 1) := by decide +kernel
theorem dF_silo_9 : decode bF_silo 9 = .ok (.ifCond .eq 15, 3) := by decide +kernel
theorem dF_silo_12 : decode bF_silo 12 = .ok (.iload_n 2, 1) := by decide +kernel
theorem dF_silo_13 : decode bF_silo 13 = .ok (.iconst 5, 1) := by decide +kernel
theorem dF_silo_14 : decode bF_silo 14 = .ok (.bipush 40, 2) := by decide +kernel
theorem dF_silo_16 : decode bF_silo 16 = .ok (.invokestatic 86, 3) := by decide +kernel
theorem dF_silo_19 : decode bF_silo 19 = .ok (.ifCond .ne 5, 3) := by decide +kernel
theorem dF_silo_22 : decode bF_silo 22 = .ok (.iconst 0, 1) := by decide +kernel
theorem dF_silo_23 : decode bF_silo 23 = .ok (.ireturn, 1) := by decide +kernel
theorem dF_silo_24 : decode bF_silo 24 = .ok (.aload_n 0, 1) := by decide +kernel
theorem dF_silo_25 : decode bF_silo 25 = .ok (.getfield 12, 3) := by decide +kernel
theorem dF_silo_28 : decode bF_silo 28 = .ok (.getfield 106, 3) := by decide +kernel
theorem dF_silo_31 : decode bF_silo 31 = .ok (.iload_n 1, 1) := by decide +kernel
theorem dF_silo_32 : decode bF_silo 32 = .ok (.iload_n 2, 1) := by decide +kernel
theorem dF_silo_33 : decode bF_silo 33 = .ok (.iastore, 1) := by decide +kernel
theorem dF_silo_34 : decode bF_silo 34 = .ok (.iconst 1, 1) := by decide +kernel
theorem dF_silo_35 : decode bF_silo 35 = .ok (.ireturn, 1) := by decide +kernel
theorem dF_run_0 : decode bF_run 0 = .ok (.iload_n 1, 1) := by decide +kernel
theorem dF_run_1 : decode bF_run 1 = .ok (.iconst 1, 1) := by decide +kernel
theorem dF_run_2 : decode bF_run 2 = .ok (.bipush 40, 2) := by decide +kernel
theorem dF_run_4 : decode bF_run 4 = .ok (.invokestatic 86, 3) := by decide +kernel
theorem dF_run_7 : decode bF_run 7 = .ok (.ifCond .eq 13, 3) := by decide +kernel
theorem dF_run_10 : decode bF_run 10 = .ok (.aload_n 0, 1) := by decide +kernel
theorem dF_run_11 : decode bF_run 11 = .ok (.getfield 12, 3) := by decide +kernel
theorem dF_run_14 : decode bF_run 14 = .ok (.getfield 60, 3) := by decide +kernel
theorem dF_run_17 : decode bF_run 17 = .ok (.ifCond .ne 5, 3) := by decide +kernel
theorem dF_run_20 : decode bF_run 20 = .ok (.iconst (-1), 1) := by decide +kernel
theorem dF_run_21 : decode bF_run 21 = .ok (.ireturn, 1) := by decide +kernel
theorem dF_run_22 : decode bF_run 22 = .ok (.aload_n 0, 1) := by decide +kernel
theorem dF_run_23 : decode bF_run 23 = .ok (.iload_n 1, 1) := by decide +kernel
theorem dF_run_24 : decode bF_run 24 = .ok (.putfield 29, 3) := by decide +kernel
theorem dF_run_27 : decode bF_run 27 = .ok (.aload_n 0, 1) := by decide +kernel
theorem dF_run_28 : decode bF_run 28 = .ok (.aload_n 0, 1) := by decide +kernel
theorem dF_run_29 : decode bF_run 29 = .ok (.getfield 12, 3) := by decide +kernel
theorem dF_run_32 : decode bF_run 32 = .ok (.getfield 60, 3) := by decide +kernel
theorem dF_run_35 : decode bF_run 35 = .ok (.putfield 32, 3) := by decide +kernel
theorem dF_run_38 : decode bF_run 38 = .ok (.aload_n 0, 1) := by decide +kernel
theorem dF_run_39 : decode bF_run 39 = .ok (.iconst 0, 1) := by decide +kernel
theorem dF_run_40 : decode bF_run 40 = .ok (.putfield 35, 3) := by decide +kernel
theorem dF_run_43 : decode bF_run 43 = .ok (.aload_n 0, 1) := by decide +kernel
theorem dF_run_44 : decode bF_run 44 = .ok (.iconst 0, 1) := by decide +kernel
theorem dF_run_45 : decode bF_run 45 = .ok (.putfield 38, 3) := by decide +kernel
theorem dF_run_48 : decode bF_run 48 = .ok (.aload_n 0, 1) := by decide +kernel
theorem dF_run_49 : decode bF_run 49 = .ok (.getfield 21, 3) := by decide +kernel
theorem dF_run_52 : decode bF_run 52 = .ok (.iload_n 1, 1) := by decide +kernel
theorem dF_run_53 : decode bF_run 53 = .ok (.aload_n 0, 1) := by decide +kernel
theorem dF_run_54 : decode bF_run 54 = .ok (.getfield 44, 3) := by decide +kernel
theorem dF_run_57 : decode bF_run 57 = .ok (.invokevirtual 109, 3) := by decide +kernel
theorem dF_run_60 : decode bF_run 60 = .ok (.ifCond .eq 26, 3) := by decide +kernel
theorem dF_run_63 : decode bF_run 63 = .ok (.aload_n 0, 1) := by decide +kernel
theorem dF_run_64 : decode bF_run 64 = .ok (.iconst 0, 1) := by decide +kernel
theorem dF_run_65 : decode bF_run 65 = .ok (.putfield 25, 3) := by decide +kernel
theorem dF_run_68 : decode bF_run 68 = .ok (.aload_n 0, 1) := by decide +kernel
theorem dF_run_69 : decode bF_run 69 = .ok (.aload_n 0, 1) := by decide +kernel
theorem dF_run_70 : decode bF_run 70 = .ok (.getfield 21, 3) := by decide +kernel
theorem dF_run_73 : decode bF_run 73 = .ok (.aload_n 0, 1) := by decide +kernel
theorem dF_run_74 : decode bF_run 74 = .ok (.getfield 44, 3) := by decide +kernel
theorem dF_run_77 : decode bF_run 77 = .ok (.invokevirtual 113, 3) := by decide +kernel
theorem dF_run_80 : decode bF_run 80 = .ok (.putfield 35, 3) := by decide +kernel
theorem dF_run_83 : decode bF_run 83 = .ok (.goto 39, 3) := by decide +kernel
theorem dF_run_86 : decode bF_run 86 = .ok (.aload_n 0, 1) := by decide +kernel
theorem dF_run_87 : decode bF_run 87 = .ok (.getfield 21, 3) := by decide +kernel
theorem dF_run_90 : decode bF_run 90 = .ok (.iload_n 1, 1) := by decide +kernel
theorem dF_run_91 : decode bF_run 91 = .ok (.invokevirtual 117, 3) := by decide +kernel
theorem dF_run_94 : decode bF_run 94 = .ok (.ifCond .eq 11, 3) := by decide +kernel
theorem dF_run_97 : decode bF_run 97 = .ok (.aload_n 0, 1) := by decide +kernel
theorem dF_run_98 : decode bF_run 98 = .ok (.iconst 2, 1) := by decide +kernel
theorem dF_run_99 : decode bF_run 99 = .ok (.putfield 25, 3) := by decide +kernel
theorem dF_run_102 : decode bF_run 102 = .ok (.goto 20, 3) := by decide +kernel
theorem dF_run_105 : decode bF_run 105 = .ok (.aload_n 0, 1) := by decide +kernel
theorem dF_run_106 : decode bF_run 106 = .ok (.iconst 1, 1) := by decide +kernel
theorem dF_run_107 : decode bF_run 107 = .ok (.putfield 25, 3) := by decide +kernel
theorem dF_run_110 : decode bF_run 110 = .ok (.aload_n 0, 1) := by decide +kernel
theorem dF_run_111 : decode bF_run 111 = .ok (.aload_n 0, 1) := by decide +kernel
theorem dF_run_112 : decode bF_run 112 = .ok (.getfield 21, 3) := by decide +kernel
theorem dF_run_115 : decode bF_run 115 = .ok (.iload_n 1, 1) := by decide +kernel
theorem dF_run_116 : decode bF_run 116 = .ok (.invokevirtual 120, 3) := by decide +kernel
theorem dF_run_119 : decode bF_run 119 = .ok (.putfield 38, 3) := by decide +kernel
theorem dF_run_122 : decode bF_run 122 = .ok (.aload_n 0, 1) := by decide +kernel
theorem dF_run_123 : decode bF_run 123 = .ok (.getfield 25, 3) := by decide +kernel
theorem dF_run_126 : decode bF_run 126 = .ok (.ireturn, 1) := by decide +kernel
theorem dF_amount_0 : decode bF_amount 0 = .ok (.aload_n 0, 1) := by decide +kernel
theorem dF_amount_1 : decode bF_amount 1 = .ok (.getfield 25, 3) := by decide +kernel
theorem dF_amount_4 : decode bF_amount 4 = .ok (.ifCond .ne 17, 3) := by decide +kernel
theorem dF_amount_7 : decode bF_amount 7 = .ok (.iload_n 1, 1) := by decide +kernel
theorem dF_amount_8 : decode bF_amount 8 = .ok (.iconst 0, 1) := by decide +kernel
theorem dF_amount_9 : decode bF_amount 9 = .ok (.aload_n 0, 1) := by decide +kernel
theorem dF_amount_10 : decode bF_amount 10 = .ok (.getfield 32, 3) := by decide +kernel
theorem dF_amount_13 : decode bF_amount 13 = .ok (.iconst 1, 1) := by decide +kernel
theorem dF_amount_14 : decode bF_amount 14 = .ok (.isub, 1) := by decide +kernel
theorem dF_amount_15 : decode bF_amount 15 = .ok (.invokestatic 86, 3) := by decide +kernel
theorem dF_amount_18 : decode bF_amount 18 = .ok (.ifCond .ne 7, 3) := by decide +kernel
theorem dF_amount_21 : decode bF_amount 21 = .ok (.ldc2_w 124, 3) := by decide +kernel
theorem dF_amount_24 : decode bF_amount 24 = .ok (.lreturn, 1) := by decide +kernel
theorem dF_amount_25 : decode bF_amount 25 = .ok (.aload_n 0, 1) := by decide +kernel
theorem dF_amount_26 : decode bF_amount 26 = .ok (.getfield 44, 3) := by decide +kernel
theorem dF_amount_29 : decode bF_amount 29 = .ok (.getfield 126, 3) := by decide +kernel
theorem dF_amount_32 : decode bF_amount 32 = .ok (.iload_n 1, 1) := by decide +kernel
theorem dF_amount_33 : decode bF_amount 33 = .ok (.laload, 1) := by decide +kernel
theorem dF_amount_34 : decode bF_amount 34 = .ok (.ldc2_w 130, 3) := by decide +kernel
theorem dF_amount_37 : decode bF_amount 37 = .ok (.aload_n 0, 1) := by decide +kernel
theorem dF_amount_38 : decode bF_amount 38 = .ok (.getfield 44, 3) := by decide +kernel
theorem dF_amount_41 : decode bF_amount 41 = .ok (.getfield 132, 3) := by decide +kernel
theorem dF_amount_44 : decode bF_amount 44 = .ok (.lmul, 1) := by decide +kernel
theorem dF_amount_45 : decode bF_amount 45 = .ok (.iload_n 2, 1) := by decide +kernel
theorem dF_amount_46 : decode bF_amount 46 = .ok (.invokestatic 136, 3) := by decide +kernel
theorem dF_amount_49 : decode bF_amount 49 = .ok (.lreturn, 1) := by decide +kernel
theorem dF_cost_0 : decode bF_cost 0 = .ok (.aload_n 0, 1) := by decide +kernel
theorem dF_cost_1 : decode bF_cost 1 = .ok (.getfield 25, 3) := by decide +kernel
theorem dF_cost_4 : decode bF_cost 4 = .ok (.ifCond .eq 7, 3) := by decide +kernel
theorem dF_cost_7 : decode bF_cost 7 = .ok (.ldc2_w 124, 3) := by decide +kernel
theorem dF_cost_10 : decode bF_cost 10 = .ok (.lreturn, 1) := by decide +kernel
theorem dF_cost_11 : decode bF_cost 11 = .ok (.aload_n 0, 1) := by decide +kernel
theorem dF_cost_12 : decode bF_cost 12 = .ok (.getfield 44, 3) := by decide +kernel
theorem dF_cost_15 : decode bF_cost 15 = .ok (.getfield 140, 3) := by decide +kernel
theorem dF_cost_18 : decode bF_cost 18 = .ok (.ldc2_w 130, 3) := by decide +kernel
theorem dF_cost_21 : decode bF_cost 21 = .ok (.aload_n 0, 1) := by decide +kernel
theorem dF_cost_22 : decode bF_cost 22 = .ok (.getfield 44, 3) := by decide +kernel
theorem dF_cost_25 : decode bF_cost 25 = .ok (.getfield 132, 3) := by decide +kernel
theorem dF_cost_28 : decode bF_cost 28 = .ok (.lmul, 1) := by decide +kernel
theorem dF_cost_29 : decode bF_cost 29 = .ok (.iload_n 1, 1) := by decide +kernel
theorem dF_cost_30 : decode bF_cost 30 = .ok (.invokestatic 136, 3) := by decide +kernel
theorem dF_cost_33 : decode bF_cost 33 = .ok (.lreturn, 1) := by decide +kernel
theorem dF_tight_0 : decode bF_tight 0 = .ok (.aload_n 0, 1) := by decide +kernel
theorem dF_tight_1 : decode bF_tight 1 = .ok (.getfield 25, 3) := by decide +kernel
theorem dF_tight_4 : decode bF_tight 4 = .ok (.ifCond .ne 10, 3) := by decide +kernel
theorem dF_tight_7 : decode bF_tight 7 = .ok (.aload_n 0, 1) := by decide +kernel
theorem dF_tight_8 : decode bF_tight 8 = .ok (.getfield 35, 3) := by decide +kernel
theorem dF_tight_11 : decode bF_tight 11 = .ok (.goto 4, 3) := by decide +kernel
theorem dF_tight_14 : decode bF_tight 14 = .ok (.iconst (-1), 1) := by decide +kernel
theorem dF_tight_15 : decode bF_tight 15 = .ok (.ireturn, 1) := by decide +kernel
theorem dF_clash_0 : decode bF_clash 0 = .ok (.aload_n 0, 1) := by decide +kernel
theorem dF_clash_1 : decode bF_clash 1 = .ok (.getfield 25, 3) := by decide +kernel
theorem dF_clash_4 : decode bF_clash 4 = .ok (.iconst 1, 1) := by decide +kernel
theorem dF_clash_5 : decode bF_clash 5 = .ok (.if_icmp .ne 7, 3) := by decide +kernel
theorem dF_clash_8 : decode bF_clash 8 = .ok (.iload_n 1, 1) := by decide +kernel
theorem dF_clash_9 : decode bF_clash 9 = .ok (.ifCond .ge 5, 3) := by decide +kernel
theorem dF_clash_12 : decode bF_clash 12 = .ok (.iconst (-1), 1) := by decide +kernel
theorem dF_clash_13 : decode bF_clash 13 = .ok (.ireturn, 1) := by decide +kernel
theorem dF_clash_14 : decode bF_clash 14 = .ok (.iload_n 1, 1) := by decide +kernel
theorem dF_clash_15 : decode bF_clash 15 = .ok (.istore_n 2, 1) := by decide +kernel
theorem dF_clash_16 : decode bF_clash 16 = .ok (.iconst 0, 1) := by decide +kernel
theorem dF_clash_17 : decode bF_clash 17 = .ok (.istore_n 3, 1) := by decide +kernel
theorem dF_clash_18 : decode bF_clash 18 = .ok (.iload_n 3, 1) := by decide +kernel
theorem dF_clash_19 : decode bF_clash 19 = .ok (.bipush 18, 2) := by decide +kernel
theorem dF_clash_21 : decode bF_clash 21 = .ok (.if_icmp .ge 29, 3) := by decide +kernel
theorem dF_clash_24 : decode bF_clash 24 = .ok (.aload_n 0, 1) := by decide +kernel
theorem dF_clash_25 : decode bF_clash 25 = .ok (.getfield 38, 3) := by decide +kernel
theorem dF_clash_28 : decode bF_clash 28 = .ok (.iload_n 3, 1) := by decide +kernel
theorem dF_clash_29 : decode bF_clash 29 = .ok (.invokestatic 142, 3) := by decide +kernel
theorem dF_clash_32 : decode bF_clash 32 = .ok (.ifCond .eq 12, 3) := by decide +kernel
theorem dF_clash_35 : decode bF_clash 35 = .ok (.iload_n 2, 1) := by decide +kernel
theorem dF_clash_36 : decode bF_clash 36 = .ok (.ifCond .ne 5, 3) := by decide +kernel
theorem dF_clash_39 : decode bF_clash 39 = .ok (.iload_n 3, 1) := by decide +kernel
theorem dF_clash_40 : decode bF_clash 40 = .ok (.ireturn, 1) := by decide +kernel
theorem dF_clash_41 : decode bF_clash 41 = .ok (.iinc 2 (-1), 3) := by decide +kernel
theorem dF_clash_44 : decode bF_clash 44 = .ok (.iinc 3 1, 3) := by decide +kernel
theorem dF_clash_47 : decode bF_clash 47 = .ok (.goto (-29), 3) := by decide +kernel
theorem dF_clash_50 : decode bF_clash 50 = .ok (.iconst (-1), 1) := by decide +kernel
theorem dF_clash_51 : decode bF_clash 51 = .ok (.ireturn, 1) := by decide +kernel
theorem dF_dearer_0 : decode bF_dearer 0 = .ok (.aload_n 0, 1) := by decide +kernel
theorem dF_dearer_1 : decode bF_dearer 1 = .ok (.getfield 25, 3) := by decide +kernel
theorem dF_dearer_4 : decode bF_dearer 4 = .ok (.iconst (-1), 1) := by decide +kernel
theorem dF_dearer_5 : decode bF_dearer 5 = .ok (.if_icmp .eq 10, 3) := by decide +kernel
theorem dF_dearer_8 : decode bF_dearer 8 = .ok (.iload_n 1, 1) := by decide +kernel
theorem dF_dearer_9 : decode bF_dearer 9 = .ok (.invokestatic 83, 3) := by decide +kernel
theorem dF_dearer_12 : decode bF_dearer 12 = .ok (.ifCond .ne 7, 3) := by decide +kernel
theorem dF_dearer_15 : decode bF_dearer 15 = .ok (.ldc2_w 124, 3) := by decide +kernel
theorem dF_dearer_18 : decode bF_dearer 18 = .ok (.lreturn, 1) := by decide +kernel
theorem dF_dearer_19 : decode bF_dearer 19 = .ok (.aload_n 0, 1) := by decide +kernel
theorem dF_dearer_20 : decode bF_dearer 20 = .ok (.getfield 12, 3) := by decide +kernel
theorem dF_dearer_23 : decode bF_dearer 23 = .ok (.getfield 97, 3) := by decide +kernel
theorem dF_dearer_26 : decode bF_dearer 26 = .ok (.iload_n 1, 1) := by decide +kernel
theorem dF_dearer_27 : decode bF_dearer 27 = .ok (.iaload, 1) := by decide +kernel
theorem dF_dearer_28 : decode bF_dearer 28 = .ok (.istore_n 3, 1) := by decide +kernel
theorem dF_dearer_29 : decode bF_dearer 29 = .ok (.iload_n 3, 1) := by decide +kernel
theorem dF_dearer_30 : decode bF_dearer 30 = .ok (.aload_n 0, 1) := by decide +kernel
theorem dF_dearer_31 : decode bF_dearer 31 = .ok (.getfield 12, 3) := by decide +kernel
theorem dF_dearer_34 : decode bF_dearer 34 = .ok (.getfield 100, 3) := by decide +kernel
theorem dF_dearer_37 : decode bF_dearer 37 = .ok (.iload_n 1, 1) := by decide +kernel
theorem dF_dearer_38 : decode bF_dearer 38 = .ok (.iaload, 1) := by decide +kernel
theorem dF_dearer_39 : decode bF_dearer 39 = .ok (.if_icmp .ge 21, 3) := by decide +kernel
theorem dF_dearer_42 : decode bF_dearer 42 = .ok (.aload_n 0, 1) := by decide +kernel
theorem dF_dearer_43 : decode bF_dearer 43 = .ok (.getfield 21, 3) := by decide +kernel
theorem dF_dearer_46 : decode bF_dearer 46 = .ok (.aload_n 0, 1) := by decide +kernel
theorem dF_dearer_47 : decode bF_dearer 47 = .ok (.getfield 29, 3) := by decide +kernel
theorem dF_dearer_50 : decode bF_dearer 50 = .ok (.aload_n 0, 1) := by decide +kernel
theorem dF_dearer_51 : decode bF_dearer 51 = .ok (.getfield 48, 3) := by decide +kernel
theorem dF_dearer_54 : decode bF_dearer 54 = .ok (.invokevirtual 109, 3) := by decide +kernel
theorem dF_dearer_57 : decode bF_dearer 57 = .ok (.ifCond .ne 7, 3) := by decide +kernel
theorem dF_dearer_60 : decode bF_dearer 60 = .ok (.ldc2_w 124, 3) := by decide +kernel
theorem dF_dearer_63 : decode bF_dearer 63 = .ok (.lreturn, 1) := by decide +kernel
theorem dF_dearer_64 : decode bF_dearer 64 = .ok (.aload_n 0, 1) := by decide +kernel
theorem dF_dearer_65 : decode bF_dearer 65 = .ok (.getfield 12, 3) := by decide +kernel
theorem dF_dearer_68 : decode bF_dearer 68 = .ok (.getfield 97, 3) := by decide +kernel
theorem dF_dearer_71 : decode bF_dearer 71 = .ok (.iload_n 1, 1) := by decide +kernel
theorem dF_dearer_72 : decode bF_dearer 72 = .ok (.iload_n 3, 1) := by decide +kernel
theorem dF_dearer_73 : decode bF_dearer 73 = .ok (.iconst 1, 1) := by decide +kernel
theorem dF_dearer_74 : decode bF_dearer 74 = .ok (.iadd, 1) := by decide +kernel
theorem dF_dearer_75 : decode bF_dearer 75 = .ok (.iastore, 1) := by decide +kernel
theorem dF_dearer_76 : decode bF_dearer 76 = .ok (.aload_n 0, 1) := by decide +kernel
theorem dF_dearer_77 : decode bF_dearer 77 = .ok (.getfield 21, 3) := by decide +kernel
theorem dF_dearer_80 : decode bF_dearer 80 = .ok (.aload_n 0, 1) := by decide +kernel
theorem dF_dearer_81 : decode bF_dearer 81 = .ok (.getfield 29, 3) := by decide +kernel
theorem dF_dearer_84 : decode bF_dearer 84 = .ok (.aload_n 0, 1) := by decide +kernel
theorem dF_dearer_85 : decode bF_dearer 85 = .ok (.getfield 51, 3) := by decide +kernel
theorem dF_dearer_88 : decode bF_dearer 88 = .ok (.invokevirtual 109, 3) := by decide +kernel
theorem dF_dearer_91 : decode bF_dearer 91 = .ok (.istore 4, 2) := by decide +kernel
theorem dF_dearer_93 : decode bF_dearer 93 = .ok (.aload_n 0, 1) := by decide +kernel
theorem dF_dearer_94 : decode bF_dearer 94 = .ok (.getfield 12, 3) := by decide +kernel
theorem dF_dearer_97 : decode bF_dearer 97 = .ok (.getfield 97, 3) := by decide +kernel
theorem dF_dearer_100 : decode bF_dearer 100 = .ok (.iload_n 1, 1) := by decide +kernel
theorem dF_dearer_101 : decode bF_dearer 101 = .ok (.iload_n 3, 1) := by decide +kernel
theorem dF_dearer_102 : decode bF_dearer 102 = .ok (.iastore, 1) := by decide +kernel
theorem dF_dearer_103 : decode bF_dearer 103 = .ok (.iload 4, 2) := by decide +kernel
theorem dF_dearer_105 : decode bF_dearer 105 = .ok (.ifCond .ne 7, 3) := by decide +kernel
theorem dF_dearer_108 : decode bF_dearer 108 = .ok (.ldc2_w 124, 3) := by decide +kernel
theorem dF_dearer_111 : decode bF_dearer 111 = .ok (.lreturn, 1) := by decide +kernel
theorem dF_dearer_112 : decode bF_dearer 112 = .ok (.aload_n 0, 1) := by decide +kernel
theorem dF_dearer_113 : decode bF_dearer 113 = .ok (.getfield 51, 3) := by decide +kernel
theorem dF_dearer_116 : decode bF_dearer 116 = .ok (.getfield 140, 3) := by decide +kernel
theorem dF_dearer_119 : decode bF_dearer 119 = .ok (.aload_n 0, 1) := by decide +kernel
theorem dF_dearer_120 : decode bF_dearer 120 = .ok (.getfield 48, 3) := by decide +kernel
theorem dF_dearer_123 : decode bF_dearer 123 = .ok (.getfield 132, 3) := by decide +kernel
theorem dF_dearer_126 : decode bF_dearer 126 = .ok (.lmul, 1) := by decide +kernel
theorem dF_dearer_127 : decode bF_dearer 127 = .ok (.aload_n 0, 1) := by decide +kernel
theorem dF_dearer_128 : decode bF_dearer 128 = .ok (.getfield 48, 3) := by decide +kernel
theorem dF_dearer_131 : decode bF_dearer 131 = .ok (.getfield 140, 3) := by decide +kernel
theorem dF_dearer_134 : decode bF_dearer 134 = .ok (.aload_n 0, 1) := by decide +kernel
theorem dF_dearer_135 : decode bF_dearer 135 = .ok (.getfield 51, 3) := by decide +kernel
theorem dF_dearer_138 : decode bF_dearer 138 = .ok (.getfield 132, 3) := by decide +kernel
theorem dF_dearer_141 : decode bF_dearer 141 = .ok (.lmul, 1) := by decide +kernel
theorem dF_dearer_142 : decode bF_dearer 142 = .ok (.lsub, 1) := by decide +kernel
theorem dF_dearer_143 : decode bF_dearer 143 = .ok (.lstore 5, 2) := by decide +kernel
theorem dF_dearer_145 : decode bF_dearer 145 = .ok (.lload 5, 2) := by decide +kernel
theorem dF_dearer_147 : decode bF_dearer 147 = .ok (.ldc2_w 130, 3) := by decide +kernel
theorem dF_dearer_150 : decode bF_dearer 150 = .ok (.aload_n 0, 1) := by decide +kernel
theorem dF_dearer_151 : decode bF_dearer 151 = .ok (.getfield 48, 3) := by decide +kernel
theorem dF_dearer_154 : decode bF_dearer 154 = .ok (.getfield 132, 3) := by decide +kernel
theorem dF_dearer_157 : decode bF_dearer 157 = .ok (.lmul, 1) := by decide +kernel
theorem dF_dearer_158 : decode bF_dearer 158 = .ok (.aload_n 0, 1) := by decide +kernel
theorem dF_dearer_159 : decode bF_dearer 159 = .ok (.getfield 51, 3) := by decide +kernel
theorem dF_dearer_162 : decode bF_dearer 162 = .ok (.getfield 132, 3) := by decide +kernel
theorem dF_dearer_165 : decode bF_dearer 165 = .ok (.lmul, 1) := by decide +kernel
theorem dF_dearer_166 : decode bF_dearer 166 = .ok (.iload_n 2, 1) := by decide +kernel
theorem dF_dearer_167 : decode bF_dearer 167 = .ok (.invokestatic 136, 3) := by decide +kernel
theorem dF_dearer_170 : decode bF_dearer 170 = .ok (.lreturn, 1) := by decide +kernel
theorem dF_line_0 : decode bF_line 0 = .ok (.iload_n 1, 1) := by decide +kernel
theorem dF_line_1 : decode bF_line 1 = .ok (.iconst 0, 1) := by decide +kernel
theorem dF_line_2 : decode bF_line 2 = .ok (.iconst 3, 1) := by decide +kernel
theorem dF_line_3 : decode bF_line 3 = .ok (.invokestatic 86, 3) := by decide +kernel
theorem dF_line_6 : decode bF_line 6 = .ok (.ifCond .eq 10, 3) := by decide +kernel
theorem dF_line_9 : decode bF_line 9 = .ok (.aload_n 0, 1) := by decide +kernel
theorem dF_line_10 : decode bF_line 10 = .ok (.getfield 25, 3) := by decide +kernel
theorem dF_line_13 : decode bF_line 13 = .ok (.ifCond .eq 5, 3) := by decide +kernel
theorem dF_line_16 : decode bF_line 16 = .ok (.iconst (-1), 1) := by decide +kernel
theorem dF_line_17 : decode bF_line 17 = .ok (.ireturn, 1) := by decide +kernel
theorem dF_line_18 : decode bF_line 18 = .ok (.aload_n 0, 1) := by decide +kernel
theorem dF_line_19 : decode bF_line 19 = .ok (.getfield 54, 3) := by decide +kernel
theorem dF_line_22 : decode bF_line 22 = .ok (.ifCond .eq 13, 3) := by decide +kernel
theorem dF_line_25 : decode bF_line 25 = .ok (.aload_n 0, 1) := by decide +kernel
theorem dF_line_26 : decode bF_line 26 = .ok (.getfield 54, 3) := by decide +kernel
theorem dF_line_29 : decode bF_line 29 = .ok (.iload_n 1, 1) := by decide +kernel
theorem dF_line_30 : decode bF_line 30 = .ok (.if_icmp .eq 5, 3) := by decide +kernel
theorem dF_line_33 : decode bF_line 33 = .ok (.iconst 1, 1) := by decide +kernel
theorem dF_line_34 : decode bF_line 34 = .ok (.ireturn, 1) := by decide +kernel
theorem dF_line_35 : decode bF_line 35 = .ok (.aload_n 0, 1) := by decide +kernel
theorem dF_line_36 : decode bF_line 36 = .ok (.iload_n 1, 1) := by decide +kernel
theorem dF_line_37 : decode bF_line 37 = .ok (.putfield 54, 3) := by decide +kernel
theorem dF_line_40 : decode bF_line 40 = .ok (.aload_n 0, 1) := by decide +kernel
theorem dF_line_41 : decode bF_line 41 = .ok (.dup, 1) := by decide +kernel
theorem dF_line_42 : decode bF_line 42 = .ok (.getfield 57, 3) := by decide +kernel
theorem dF_line_45 : decode bF_line 45 = .ok (.iconst 1, 1) := by decide +kernel
theorem dF_line_46 : decode bF_line 46 = .ok (.iadd, 1) := by decide +kernel
theorem dF_line_47 : decode bF_line 47 = .ok (.putfield 57, 3) := by decide +kernel
theorem dF_line_50 : decode bF_line 50 = .ok (.iconst 0, 1) := by decide +kernel
theorem dF_line_51 : decode bF_line 51 = .ok (.ireturn, 1) := by decide +kernel
theorem dF_clean_0 : decode bF_clean 0 = .ok (.aload_n 0, 1) := by decide +kernel
theorem dF_clean_1 : decode bF_clean 1 = .ok (.getfield 54, 3) := by decide +kernel
theorem dF_clean_4 : decode bF_clean 4 = .ok (.istore_n 1, 1) := by decide +kernel
theorem dF_clean_5 : decode bF_clean 5 = .ok (.aload_n 0, 1) := by decide +kernel
theorem dF_clean_6 : decode bF_clean 6 = .ok (.iconst 0, 1) := by decide +kernel
theorem dF_clean_7 : decode bF_clean 7 = .ok (.putfield 54, 3) := by decide +kernel
theorem dF_clean_10 : decode bF_clean 10 = .ok (.iload_n 1, 1) := by decide +kernel
theorem dF_clean_11 : decode bF_clean 11 = .ok (.ireturn, 1) := by decide +kernel
theorem dF_made_0 : decode bF_made 0 = .ok (.aload_n 0, 1) := by decide +kernel
theorem dF_made_1 : decode bF_made 1 = .ok (.getfield 57, 3) := by decide +kernel
theorem dF_made_4 : decode bF_made 4 = .ok (.ireturn, 1) := by decide +kernel
theorem dF_isStuff_0 : decode bF_isStuff 0 = .ok (.iload_n 1, 1) := by decide +kernel
theorem dF_isStuff_1 : decode bF_isStuff 1 = .ok (.iconst 0, 1) := by decide +kernel
theorem dF_isStuff_2 : decode bF_isStuff 2 = .ok (.aload_n 0, 1) := by decide +kernel
theorem dF_isStuff_3 : decode bF_isStuff 3 = .ok (.getfield 12, 3) := by decide +kernel
theorem dF_isStuff_6 : decode bF_isStuff 6 = .ok (.getfield 60, 3) := by decide +kernel
theorem dF_isStuff_9 : decode bF_isStuff 9 = .ok (.iconst 1, 1) := by decide +kernel
theorem dF_isStuff_10 : decode bF_isStuff 10 = .ok (.isub, 1) := by decide +kernel
theorem dF_isStuff_11 : decode bF_isStuff 11 = .ok (.invokestatic 86, 3) := by decide +kernel
theorem dF_isStuff_14 : decode bF_isStuff 14 = .ok (.ireturn, 1) := by decide +kernel
theorem dF_isNutrient_0 : decode bF_isNutrient 0 = .ok (.iload_n 0, 1) := by decide +kernel
theorem dF_isNutrient_1 : decode bF_isNutrient 1 = .ok (.iconst 0, 1) := by decide +kernel
theorem dF_isNutrient_2 : decode bF_isNutrient 2 = .ok (.iconst 2, 1) := by decide +kernel
theorem dF_isNutrient_3 : decode bF_isNutrient 3 = .ok (.invokestatic 86, 3) := by decide +kernel
theorem dF_isNutrient_6 : decode bF_isNutrient 6 = .ok (.ireturn, 1) := by decide +kernel
theorem dF_isPrice_0 : decode bF_isPrice 0 = .ok (.iload_n 0, 1) := by decide +kernel
theorem dF_isPrice_1 : decode bF_isPrice 1 = .ok (.iconst 0, 1) := by decide +kernel
theorem dF_isPrice_2 : decode bF_isPrice 2 = .ok (.sipush 1000, 3) := by decide +kernel
theorem dF_isPrice_5 : decode bF_isPrice 5 = .ok (.invokestatic 86, 3) := by decide +kernel
theorem dF_isPrice_8 : decode bF_isPrice 8 = .ok (.ireturn, 1) := by decide +kernel
theorem dF_isStock_0 : decode bF_isStock 0 = .ok (.iload_n 0, 1) := by decide +kernel
theorem dF_isStock_1 : decode bF_isStock 1 = .ok (.iconst 0, 1) := by decide +kernel
theorem dF_isStock_2 : decode bF_isStock 2 = .ok (.bipush 40, 2) := by decide +kernel
theorem dF_isStock_4 : decode bF_isStock 4 = .ok (.invokestatic 86, 3) := by decide +kernel
theorem dF_isStock_7 : decode bF_isStock 7 = .ok (.ireturn, 1) := by decide +kernel
theorem dF_isRange_0 : decode bF_isRange 0 = .ok (.iload_n 0, 1) := by decide +kernel
theorem dF_isRange_1 : decode bF_isRange 1 = .ok (.ifCond .lt 17, 3) := by decide +kernel
theorem dF_isRange_4 : decode bF_isRange 4 = .ok (.iload_n 0, 1) := by decide +kernel
theorem dF_isRange_5 : decode bF_isRange 5 = .ok (.iload_n 1, 1) := by decide +kernel
theorem dF_isRange_6 : decode bF_isRange 6 = .ok (.if_icmp .gt 12, 3) := by decide +kernel
theorem dF_isRange_9 : decode bF_isRange 9 = .ok (.iload_n 1, 1) := by decide +kernel
theorem dF_isRange_10 : decode bF_isRange 10 = .ok (.iload_n 2, 1) := by decide +kernel
theorem dF_isRange_11 : decode bF_isRange 11 = .ok (.if_icmp .gt 7, 3) := by decide +kernel
theorem dF_isRange_14 : decode bF_isRange 14 = .ok (.iconst 1, 1) := by decide +kernel
theorem dF_isRange_15 : decode bF_isRange 15 = .ok (.goto 4, 3) := by decide +kernel
theorem dF_isRange_18 : decode bF_isRange 18 = .ok (.iconst 0, 1) := by decide +kernel
theorem dF_isRange_19 : decode bF_isRange 19 = .ok (.ireturn, 1) := by decide +kernel
theorem dF_isWithin_0 : decode bF_isWithin 0 = .ok (.iload_n 0, 1) := by decide +kernel
theorem dF_isWithin_1 : decode bF_isWithin 1 = .ok (.iload_n 1, 1) := by decide +kernel
theorem dF_isWithin_2 : decode bF_isWithin 2 = .ok (.if_icmp .lt 12, 3) := by decide +kernel
theorem dF_isWithin_5 : decode bF_isWithin 5 = .ok (.iload_n 0, 1) := by decide +kernel
theorem dF_isWithin_6 : decode bF_isWithin 6 = .ok (.iload_n 2, 1) := by decide +kernel
theorem dF_isWithin_7 : decode bF_isWithin 7 = .ok (.if_icmp .gt 7, 3) := by decide +kernel
theorem dF_isWithin_10 : decode bF_isWithin 10 = .ok (.iconst 1, 1) := by decide +kernel
theorem dF_isWithin_11 : decode bF_isWithin 11 = .ok (.goto 4, 3) := by decide +kernel
theorem dF_isWithin_14 : decode bF_isWithin 14 = .ok (.iconst 0, 1) := by decide +kernel
theorem dF_isWithin_15 : decode bF_isWithin 15 = .ok (.ireturn, 1) := by decide +kernel
theorem dF_hasBound_0 : decode bF_hasBound 0 = .ok (.iload_n 0, 1) := by decide +kernel
theorem dF_hasBound_1 : decode bF_hasBound 1 = .ok (.iload_n 1, 1) := by decide +kernel
theorem dF_hasBound_2 : decode bF_hasBound 2 = .ok (.ishr, 1) := by decide +kernel
theorem dF_hasBound_3 : decode bF_hasBound 3 = .ok (.iconst 1, 1) := by decide +kernel
theorem dF_hasBound_4 : decode bF_hasBound 4 = .ok (.iand, 1) := by decide +kernel
theorem dF_hasBound_5 : decode bF_hasBound 5 = .ok (.ifCond .eq 7, 3) := by decide +kernel
theorem dF_hasBound_8 : decode bF_hasBound 8 = .ok (.iconst 1, 1) := by decide +kernel
theorem dF_hasBound_9 : decode bF_hasBound 9 = .ok (.goto 4, 3) := by decide +kernel
theorem dF_hasBound_12 : decode bF_hasBound 12 = .ok (.iconst 0, 1) := by decide +kernel
theorem dF_hasBound_13 : decode bF_hasBound 13 = .ok (.ireturn, 1) := by decide +kernel
theorem dF_rowOf_0 : decode bF_rowOf 0 = .ok (.iload_n 0, 1) := by decide +kernel
theorem dF_rowOf_1 : decode bF_rowOf 1 = .ok (.bipush 12, 2) := by decide +kernel
theorem dF_rowOf_3 : decode bF_rowOf 3 = .ok (.if_icmp .ge 9, 3) := by decide +kernel
theorem dF_rowOf_6 : decode bF_rowOf 6 = .ok (.iload_n 0, 1) := by decide +kernel
theorem dF_rowOf_7 : decode bF_rowOf 7 = .ok (.iconst 4, 1) := by decide +kernel
theorem dF_rowOf_8 : decode bF_rowOf 8 = .ok (.irem, 1) := by decide +kernel
theorem dF_rowOf_9 : decode bF_rowOf 9 = .ok (.goto 11, 3) := by decide +kernel
theorem dF_rowOf_12 : decode bF_rowOf 12 = .ok (.iconst 4, 1) := by decide +kernel
theorem dF_rowOf_13 : decode bF_rowOf 13 = .ok (.iload_n 0, 1) := by decide +kernel
theorem dF_rowOf_14 : decode bF_rowOf 14 = .ok (.bipush 12, 2) := by decide +kernel
theorem dF_rowOf_16 : decode bF_rowOf 16 = .ok (.isub, 1) := by decide +kernel
theorem dF_rowOf_17 : decode bF_rowOf 17 = .ok (.iconst 3, 1) := by decide +kernel
theorem dF_rowOf_18 : decode bF_rowOf 18 = .ok (.irem, 1) := by decide +kernel
theorem dF_rowOf_19 : decode bF_rowOf 19 = .ok (.iadd, 1) := by decide +kernel
theorem dF_rowOf_20 : decode bF_rowOf 20 = .ok (.ireturn, 1) := by decide +kernel
theorem dF_isLeast_0 : decode bF_isLeast 0 = .ok (.iload_n 0, 1) := by decide +kernel
theorem dF_isLeast_1 : decode bF_isLeast 1 = .ok (.iconst 4, 1) := by decide +kernel
theorem dF_isLeast_2 : decode bF_isLeast 2 = .ok (.bipush 7, 2) := by decide +kernel
theorem dF_isLeast_4 : decode bF_isLeast 4 = .ok (.invokestatic 86, 3) := by decide +kernel
theorem dF_isLeast_7 : decode bF_isLeast 7 = .ok (.ifCond .ne 14, 3) := by decide +kernel
theorem dF_isLeast_10 : decode bF_isLeast 10 = .ok (.iload_n 0, 1) := by decide +kernel
theorem dF_isLeast_11 : decode bF_isLeast 11 = .ok (.bipush 12, 2) := by decide +kernel
theorem dF_isLeast_13 : decode bF_isLeast 13 = .ok (.bipush 14, 2) := by decide +kernel
theorem dF_isLeast_15 : decode bF_isLeast 15 = .ok (.invokestatic 86, 3) := by decide +kernel
theorem dF_isLeast_18 : decode bF_isLeast 18 = .ok (.ifCond .eq 7, 3) := by decide +kernel
theorem dF_isLeast_21 : decode bF_isLeast 21 = .ok (.iconst 1, 1) := by decide +kernel
theorem dF_isLeast_22 : decode bF_isLeast 22 = .ok (.goto 4, 3) := by decide +kernel
theorem dF_isLeast_25 : decode bF_isLeast 25 = .ok (.iconst 0, 1) := by decide +kernel
theorem dF_isLeast_26 : decode bF_isLeast 26 = .ok (.ireturn, 1) := by decide +kernel
theorem dF_partOf_0 : decode bF_partOf 0 = .ok (.lload_n 0, 1) := by decide +kernel
theorem dF_partOf_1 : decode bF_partOf 1 = .ok (.lload_n 2, 1) := by decide +kernel
theorem dF_partOf_2 : decode bF_partOf 2 = .ok (.invokestatic 146, 3) := by decide +kernel
theorem dF_partOf_5 : decode bF_partOf 5 = .ok (.lstore 5, 2) := by decide +kernel
theorem dF_partOf_7 : decode bF_partOf 7 = .ok (.lload 5, 2) := by decide +kernel
theorem dF_partOf_9 : decode bF_partOf 9 = .ok (.lconst 0, 1) := by decide +kernel
theorem dF_partOf_10 : decode bF_partOf 10 = .ok (.lcmp, 1) := by decide +kernel
theorem dF_partOf_11 : decode bF_partOf 11 = .ok (.ifCond .le 13, 3) := by decide +kernel
theorem dF_partOf_14 : decode bF_partOf 14 = .ok (.iload 4, 2) := by decide +kernel
theorem dF_partOf_16 : decode bF_partOf 16 = .ok (.iconst 0, 1) := by decide +kernel
theorem dF_partOf_17 : decode bF_partOf 17 = .ok (.iconst 1, 1) := by decide +kernel
theorem dF_partOf_18 : decode bF_partOf 18 = .ok (.invokestatic 86, 3) := by decide +kernel
theorem dF_partOf_21 : decode bF_partOf 21 = .ok (.ifCond .ne 7, 3) := by decide +kernel
theorem dF_partOf_24 : decode bF_partOf 24 = .ok (.ldc2_w 124, 3) := by decide +kernel
theorem dF_partOf_27 : decode bF_partOf 27 = .ok (.lreturn, 1) := by decide +kernel
theorem dF_partOf_28 : decode bF_partOf 28 = .ok (.iload 4, 2) := by decide +kernel
theorem dF_partOf_30 : decode bF_partOf 30 = .ok (.ifCond .ne 10, 3) := by decide +kernel
theorem dF_partOf_33 : decode bF_partOf 33 = .ok (.lload_n 0, 1) := by decide +kernel
theorem dF_partOf_34 : decode bF_partOf 34 = .ok (.lload 5, 2) := by decide +kernel
theorem dF_partOf_36 : decode bF_partOf 36 = .ok (.ldiv, 1) := by decide +kernel
theorem dF_partOf_37 : decode bF_partOf 37 = .ok (.goto 7, 3) := by decide +kernel
theorem dF_partOf_40 : decode bF_partOf 40 = .ok (.lload_n 2, 1) := by decide +kernel
theorem dF_partOf_41 : decode bF_partOf 41 = .ok (.lload 5, 2) := by decide +kernel
theorem dF_partOf_43 : decode bF_partOf 43 = .ok (.ldiv, 1) := by decide +kernel
theorem dF_partOf_44 : decode bF_partOf 44 = .ok (.lreturn, 1) := by decide +kernel
theorem dF_commonDivisor_0 : decode bF_commonDivisor 0 = .ok (.lload_n 0, 1) := by decide +kernel
theorem dF_commonDivisor_1 : decode bF_commonDivisor 1 = .ok (.lstore 4, 2) := by decide +kernel
theorem dF_commonDivisor_3 : decode bF_commonDivisor 3 = .ok (.lload_n 2, 1) := by decide +kernel
theorem dF_commonDivisor_4 : decode bF_commonDivisor 4 = .ok (.lstore 6, 2) := by decide +kernel
theorem dF_commonDivisor_6 : decode bF_commonDivisor 6 = .ok (.iconst 0, 1) := by decide +kernel
theorem dF_commonDivisor_7 : decode bF_commonDivisor 7 = .ok (.istore 8, 2) := by decide +kernel
theorem dF_commonDivisor_9 : decode bF_commonDivisor 9 = .ok (.iload 8, 2) := by decide +kernel
theorem dF_commonDivisor_11 : decode bF_commonDivisor 11 = .ok (.bipush 100, 2) := by decide +kernel
theorem dF_commonDivisor_13 : decode bF_commonDivisor 13 = .ok (.if_icmp .ge 31, 3) := by decide +kernel
theorem dF_commonDivisor_16 : decode bF_commonDivisor 16 = .ok (.lload 6, 2) := by decide +kernel
theorem dF_commonDivisor_18 : decode bF_commonDivisor 18 = .ok (.lconst 0, 1) := by decide +kernel
theorem dF_commonDivisor_19 : decode bF_commonDivisor 19 = .ok (.lcmp, 1) := by decide +kernel
theorem dF_commonDivisor_20 : decode bF_commonDivisor 20 = .ok (.ifCond .eq 24, 3) := by decide +kernel
theorem dF_commonDivisor_23 : decode bF_commonDivisor 23 = .ok (.lload 4, 2) := by decide +kernel
theorem dF_commonDivisor_25 : decode bF_commonDivisor 25 = .ok (.lload 6, 2) := by decide +kernel
theorem dF_commonDivisor_27 : decode bF_commonDivisor 27 = .ok (.lrem, 1) := by decide +kernel
theorem dF_commonDivisor_28 : decode bF_commonDivisor 28 = .ok (.lstore 9, 2) := by decide +kernel
theorem dF_commonDivisor_30 : decode bF_commonDivisor 30 = .ok (.lload 6, 2) := by decide +kernel
theorem dF_commonDivisor_32 : decode bF_commonDivisor 32 = .ok (.lstore 4, 2) := by decide +kernel
theorem dF_commonDivisor_34 : decode bF_commonDivisor 34 = .ok (.lload 9, 2) := by decide +kernel
theorem dF_commonDivisor_36 : decode bF_commonDivisor 36 = .ok (.lstore 6, 2) := by decide +kernel
theorem dF_commonDivisor_38 : decode bF_commonDivisor 38 = .ok (.iinc 8 1, 3) := by decide +kernel
theorem dF_commonDivisor_41 : decode bF_commonDivisor 41 = .ok (.goto (-32), 3) := by decide +kernel
theorem dF_commonDivisor_44 : decode bF_commonDivisor 44 = .ok (.lload 4, 2) := by decide +kernel
theorem dF_commonDivisor_46 : decode bF_commonDivisor 46 = .ok (.lreturn, 1) := by decide +kernel
