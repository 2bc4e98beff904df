theorem dX11_go_95 : decode cX11_go 95 = .ok (.putfield 184, 3) := by decide +kernel
theorem dX11_go_98 : decode cX11_go 98 = .ok (.iinc 5 1, 3) := by decide +kernel
theorem dX11_go_101 : decode cX11_go 101 = .ok (.goto (-38), 3) := by decide +kernel
theorem dX11_go_104 : decode cX11_go 104 = .ok (.aload_n 0, 1) := by decide +kernel
theorem dX11_go_105 : decode cX11_go 105 = .ok (.getfield 34, 3) := by decide +kernel
theorem dX11_go_108 : decode cX11_go 108 = .ok (.getfield 184, 3) := by decide +kernel
theorem dX11_go_111 : decode cX11_go 111 = .ok (.ireturn, 1) := by decide +kernel
theorem dX11_where_0 : decode cX11_where 0 = .ok (.aload_n 0, 1) := by decide +kernel
theorem dX11_where_1 : decode cX11_where 1 = .ok (.getfield 24, 3) := by decide +kernel
theorem dX11_where_4 : decode cX11_where 4 = .ok (.getfield 172, 3) := by decide +kernel
theorem dX11_where_7 : decode cX11_where 7 = .ok (.ifCond .ne 6, 3) := by decide +kernel
theorem dX11_where_10 : decode cX11_where 10 = .ok (.bipush (-4), 2) := by decide +kernel
theorem dX11_where_12 : decode cX11_where 12 = .ok (.ireturn, 1) := by decide +kernel
theorem dX11_where_13 : decode cX11_where 13 = .ok (.aload_n 0, 1) := by decide +kernel
theorem dX11_where_14 : decode cX11_where 14 = .ok (.aload_n 0, 1) := by decide +kernel
theorem dX11_where_15 : decode cX11_where 15 = .ok (.getfield 34, 3) := by decide +kernel
theorem dX11_where_18 : decode cX11_where 18 = .ok (.getfield 216, 3) := by decide +kernel
theorem dX11_where_21 : decode cX11_where 21 = .ok (.ifCond .eq 7, 3) := by decide +kernel
theorem dX11_where_24 : decode cX11_where 24 = .ok (.iconst 1, 1) := by decide +kernel
theorem dX11_where_25 : decode cX11_where 25 = .ok (.goto 4, 3) := by decide +kernel
theorem dX11_where_28 : decode cX11_where 28 = .ok (.iconst 0, 1) := by decide +kernel
theorem dX11_where_29 : decode cX11_where 29 = .ok (.aload_n 0, 1) := by decide +kernel
theorem dX11_where_30 : decode cX11_where 30 = .ok (.getfield 34, 3) := by decide +kernel
theorem dX11_where_33 : decode cX11_where 33 = .ok (.getfield 224, 3) := by decide +kernel
theorem dX11_where_36 : decode cX11_where 36 = .ok (.invokevirtual 135, 3) := by decide +kernel
theorem dX11_where_39 : decode cX11_where 39 = .ok (.ireturn, 1) := by decide +kernel
theorem dX11_told_0 : decode cX11_told 0 = .ok (.aload_n 0, 1) := by decide +kernel
theorem dX11_told_1 : decode cX11_told 1 = .ok (.getfield 24, 3) := by decide +kernel
theorem dX11_told_4 : decode cX11_told 4 = .ok (.iload_n 1, 1) := by decide +kernel
theorem dX11_told_5 : decode cX11_told 5 = .ok (.invokevirtual 173, 3) := by decide +kernel
theorem dX11_told_8 : decode cX11_told 8 = .ok (.ifCond .eq 12, 3) := by decide +kernel
theorem dX11_told_11 : decode cX11_told 11 = .ok (.iload_n 2, 1) := by decide +kernel
theorem dX11_told_12 : decode cX11_told 12 = .ok (.ifCond .lt 8, 3) := by decide +kernel
theorem dX11_told_15 : decode cX11_told 15 = .ok (.iload_n 2, 1) := by decide +kernel
theorem dX11_told_16 : decode cX11_told 16 = .ok (.iconst 4, 1) := by decide +kernel
theorem dX11_told_17 : decode cX11_told 17 = .ok (.if_icmp .lt 5, 3) := by decide +kernel
theorem dX11_told_20 : decode cX11_told 20 = .ok (.iconst (-1), 1) := by decide +kernel
theorem dX11_told_21 : decode cX11_told 21 = .ok (.ireturn, 1) := by decide +kernel
theorem dX11_told_22 : decode cX11_told 22 = .ok (.aload_n 0, 1) := by decide +kernel
theorem dX11_told_23 : decode cX11_told 23 = .ok (.aload_n 0, 1) := by decide +kernel
theorem dX11_told_24 : decode cX11_told 24 = .ok (.getfield 34, 3) := by decide +kernel
theorem dX11_told_27 : decode cX11_told 27 = .ok (.iload_n 1, 1) := by decide +kernel
theorem dX11_told_28 : decode cX11_told 28 = .ok (.iload_n 2, 1) := by decide +kernel
theorem dX11_told_29 : decode cX11_told 29 = .ok (.invokevirtual 227, 3) := by decide +kernel
theorem dX11_told_32 : decode cX11_told 32 = .ok (.iconst 1, 1) := by decide +kernel
theorem dX11_told_33 : decode cX11_told 33 = .ok (.invokevirtual 135, 3) := by decide +kernel
theorem dX11_told_36 : decode cX11_told 36 = .ok (.ireturn, 1) := by decide +kernel
theorem dX11_coins_0 : decode cX11_coins 0 = .ok (.aload_n 0, 1) := by decide +kernel
theorem dX11_coins_1 : decode cX11_coins 1 = .ok (.getfield 59, 3) := by decide +kernel
theorem dX11_coins_4 : decode cX11_coins 4 = .ok (.aload_n 0, 1) := by decide +kernel
theorem dX11_coins_5 : decode cX11_coins 5 = .ok (.getfield 34, 3) := by decide +kernel
theorem dX11_coins_8 : decode cX11_coins 8 = .ok (.invokevirtual 198, 3) := by decide +kernel
theorem dX11_coins_11 : decode cX11_coins 11 = .ok (.aload_n 0, 1) := by decide +kernel
theorem dX11_coins_12 : decode cX11_coins 12 = .ok (.aload_n 0, 1) := by decide +kernel
theorem dX11_coins_13 : decode cX11_coins 13 = .ok (.getfield 34, 3) := by decide +kernel
theorem dX11_coins_16 : decode cX11_coins 16 = .ok (.invokevirtual 230, 3) := by decide +kernel
theorem dX11_coins_19 : decode cX11_coins 19 = .ok (.aload_n 0, 1) := by decide +kernel
theorem dX11_coins_20 : decode cX11_coins 20 = .ok (.getfield 59, 3) := by decide +kernel
theorem dX11_coins_23 : decode cX11_coins 23 = .ok (.getfield 234, 3) := by decide +kernel
theorem dX11_coins_26 : decode cX11_coins 26 = .ok (.invokevirtual 135, 3) := by decide +kernel
theorem dX11_coins_29 : decode cX11_coins 29 = .ok (.ireturn, 1) := by decide +kernel
theorem dX11_keep_0 : decode cX11_keep 0 = .ok (.aload_n 0, 1) := by decide +kernel
theorem dX11_keep_1 : decode cX11_keep 1 = .ok (.iload_n 1, 1) := by decide +kernel
theorem dX11_keep_2 : decode cX11_keep 2 = .ok (.invokevirtual 253, 3) := by decide +kernel
theorem dX11_keep_5 : decode cX11_keep 5 = .ok (.astore_n 2, 1) := by decide +kernel
theorem dX11_keep_6 : decode cX11_keep 6 = .ok (.aload_n 2, 1) := by decide +kernel
theorem dX11_keep_7 : decode cX11_keep 7 = .ok (.ifnonnull 5, 3) := by decide +kernel
theorem dX11_keep_10 : decode cX11_keep 10 = .ok (.iconst (-1), 1) := by decide +kernel
theorem dX11_keep_11 : decode cX11_keep 11 = .ok (.ireturn, 1) := by decide +kernel
theorem dX11_keep_12 : decode cX11_keep 12 = .ok (.aload_n 0, 1) := by decide +kernel
theorem dX11_keep_13 : decode cX11_keep 13 = .ok (.getfield 24, 3) := by decide +kernel
theorem dX11_keep_16 : decode cX11_keep 16 = .ok (.getfield 172, 3) := by decide +kernel
theorem dX11_keep_19 : decode cX11_keep 19 = .ok (.ifCond .ne 6, 3) := by decide +kernel
theorem dX11_keep_22 : decode cX11_keep 22 = .ok (.bipush (-4), 2) := by decide +kernel
theorem dX11_keep_24 : decode cX11_keep 24 = .ok (.ireturn, 1) := by decide +kernel
theorem dX11_keep_25 : decode cX11_keep 25 = .ok (.aload_n 2, 1) := by decide +kernel
theorem dX11_keep_26 : decode cX11_keep 26 = .ok (.aload_n 0, 1) := by decide +kernel
theorem dX11_keep_27 : decode cX11_keep 27 = .ok (.getfield 34, 3) := by decide +kernel
theorem dX11_keep_30 : decode cX11_keep 30 = .ok (.invokevirtual 257, 3) := by decide +kernel
theorem dX11_keep_33 : decode cX11_keep 33 = .ok (.aload_n 2, 1) := by decide +kernel
theorem dX11_keep_34 : decode cX11_keep 34 = .ok (.iconst 1, 1) := by decide +kernel
theorem dX11_keep_35 : decode cX11_keep 35 = .ok (.putfield 260, 3) := by decide +kernel
theorem dX11_keep_38 : decode cX11_keep 38 = .ok (.aload_n 0, 1) := by decide +kernel
theorem dX11_keep_39 : decode cX11_keep 39 = .ok (.getfield 34, 3) := by decide +kernel
theorem dX11_keep_42 : decode cX11_keep 42 = .ok (.getfield 184, 3) := by decide +kernel
theorem dX11_keep_45 : decode cX11_keep 45 = .ok (.ireturn, 1) := by decide +kernel
theorem dX11_on_0 : decode cX11_on 0 = .ok (.aload_n 0, 1) := by decide +kernel
theorem dX11_on_1 : decode cX11_on 1 = .ok (.iload_n 1, 1) := by decide +kernel
theorem dX11_on_2 : decode cX11_on 2 = .ok (.invokevirtual 253, 3) := by decide +kernel
theorem dX11_on_5 : decode cX11_on 5 = .ok (.astore_n 2, 1) := by decide +kernel
theorem dX11_on_6 : decode cX11_on 6 = .ok (.aload_n 2, 1) := by decide +kernel
theorem dX11_on_7 : decode cX11_on 7 = .ok (.ifnonnull 5, 3) := by decide +kernel
theorem dX11_on_10 : decode cX11_on 10 = .ok (.iconst (-1), 1) := by decide +kernel
theorem dX11_on_11 : decode cX11_on 11 = .ok (.ireturn, 1) := by decide +kernel
theorem dX11_on_12 : decode cX11_on 12 = .ok (.aload_n 2, 1) := by decide +kernel
theorem dX11_on_13 : decode cX11_on 13 = .ok (.getfield 260, 3) := by decide +kernel
theorem dX11_on_16 : decode cX11_on 16 = .ok (.ifCond .ne 9, 3) := by decide +kernel
theorem dX11_on_19 : decode cX11_on 19 = .ok (.aload_n 0, 1) := by decide +kernel
theorem dX11_on_20 : decode cX11_on 20 = .ok (.iconst 1, 1) := by decide +kernel
theorem dX11_on_21 : decode cX11_on 21 = .ok (.invokevirtual 116, 3) := by decide +kernel
theorem dX11_on_24 : decode cX11_on 24 = .ok (.ireturn, 1) := by decide +kernel
theorem dX11_on_25 : decode cX11_on 25 = .ok (.aload_n 0, 1) := by decide +kernel
theorem dX11_on_26 : decode cX11_on 26 = .ok (.getfield 34, 3) := by decide +kernel
theorem dX11_on_29 : decode cX11_on 29 = .ok (.aload_n 2, 1) := by decide +kernel
theorem dX11_on_30 : decode cX11_on 30 = .ok (.invokevirtual 257, 3) := by decide +kernel
theorem dX11_on_33 : decode cX11_on 33 = .ok (.aload_n 0, 1) := by decide +kernel
theorem dX11_on_34 : decode cX11_on 34 = .ok (.getfield 34, 3) := by decide +kernel
theorem dX11_on_37 : decode cX11_on 37 = .ok (.getfield 184, 3) := by decide +kernel
theorem dX11_on_40 : decode cX11_on 40 = .ok (.ireturn, 1) := by decide +kernel
theorem dX11_friday_0 : decode cX11_friday 0 = .ok (.iload_n 1, 1) := by decide +kernel
theorem dX11_friday_1 : decode cX11_friday 1 = .ok (.invokestatic 262, 3) := by decide +kernel
theorem dX11_friday_4 : decode cX11_friday 4 = .ok (.ifCond .ne 5, 3) := by decide +kernel
theorem dX11_friday_7 : decode cX11_friday 7 = .ok (.iconst (-1), 1) := by decide +kernel
theorem dX11_friday_8 : decode cX11_friday 8 = .ok (.ireturn, 1) := by decide +kernel
theorem dX11_friday_9 : decode cX11_friday 9 = .ok (.aload_n 0, 1) := by decide +kernel
theorem dX11_friday_10 : decode cX11_friday 10 = .ok (.getfield 24, 3) := by decide +kernel
theorem dX11_friday_13 : decode cX11_friday 13 = .ok (.getfield 172, 3) := by decide +kernel
theorem dX11_friday_16 : decode cX11_friday 16 = .ok (.ifCond .ne 6, 3) := by decide +kernel
theorem dX11_friday_19 : decode cX11_friday 19 = .ok (.bipush (-4), 2) := by decide +kernel
theorem dX11_friday_21 : decode cX11_friday 21 = .ok (.ireturn, 1) := by decide +kernel
theorem dX11_friday_22 : decode cX11_friday 22 = .ok (.aload_n 0, 1) := by decide +kernel
theorem dX11_friday_23 : decode cX11_friday 23 = .ok (.getfield 76, 3) := by decide +kernel
theorem dX11_friday_26 : decode cX11_friday 26 = .ok (.aload_n 0, 1) := by decide +kernel
theorem dX11_friday_27 : decode cX11_friday 27 = .ok (.getfield 24, 3) := by decide +kernel
theorem dX11_friday_30 : decode cX11_friday 30 = .ok (.aload_n 0, 1) := by decide +kernel
theorem dX11_friday_31 : decode cX11_friday 31 = .ok (.getfield 34, 3) := by decide +kernel
theorem dX11_friday_34 : decode cX11_friday 34 = .ok (.iload_n 1, 1) := by decide +kernel
theorem dX11_friday_35 : decode cX11_friday 35 = .ok (.invokevirtual 265, 3) := by decide +kernel
theorem dX11_friday_38 : decode cX11_friday 38 = .ok (.aload_n 0, 1) := by decide +kernel
theorem dX11_friday_39 : decode cX11_friday 39 = .ok (.aload_n 0, 1) := by decide +kernel
theorem dX11_friday_40 : decode cX11_friday 40 = .ok (.getfield 76, 3) := by decide +kernel
theorem dX11_friday_43 : decode cX11_friday 43 = .ok (.invokevirtual 269, 3) := by decide +kernel
theorem dX11_friday_46 : decode cX11_friday 46 = .ok (.aload_n 0, 1) := by decide +kernel
theorem dX11_friday_47 : decode cX11_friday 47 = .ok (.getfield 76, 3) := by decide +kernel
theorem dX11_friday_50 : decode cX11_friday 50 = .ok (.getfield 273, 3) := by decide +kernel
theorem dX11_friday_53 : decode cX11_friday 53 = .ok (.iconst 1, 1) := by decide +kernel
theorem dX11_friday_54 : decode cX11_friday 54 = .ok (.invokevirtual 276, 3) := by decide +kernel
theorem dX11_friday_57 : decode cX11_friday 57 = .ok (.ireturn, 1) := by decide +kernel
theorem dX11_odds_0 : decode cX11_odds 0 = .ok (.iload_n 1, 1) := by decide +kernel
theorem dX11_odds_1 : decode cX11_odds 1 = .ok (.invokestatic 262, 3) := by decide +kernel
theorem dX11_odds_4 : decode cX11_odds 4 = .ok (.ifCond .eq 14, 3) := by decide +kernel
theorem dX11_odds_7 : decode cX11_odds 7 = .ok (.aload_n 0, 1) := by decide +kernel
theorem dX11_odds_8 : decode cX11_odds 8 = .ok (.getfield 24, 3) := by decide +kernel
theorem dX11_odds_11 : decode cX11_odds 11 = .ok (.iload_n 2, 1) := by decide +kernel
theorem dX11_odds_12 : decode cX11_odds 12 = .ok (.invokevirtual 173, 3) := by decide +kernel
theorem dX11_odds_15 : decode cX11_odds 15 = .ok (.ifCond .ne 5, 3) := by decide +kernel
theorem dX11_odds_18 : decode cX11_odds 18 = .ok (.iconst (-1), 1) := by decide +kernel
theorem dX11_odds_19 : decode cX11_odds 19 = .ok (.ireturn, 1) := by decide +kernel
theorem dX11_odds_20 : decode cX11_odds 20 = .ok (.aload_n 0, 1) := by decide +kernel
theorem dX11_odds_21 : decode cX11_odds 21 = .ok (.getfield 76, 3) := by decide +kernel
theorem dX11_odds_24 : decode cX11_odds 24 = .ok (.aload_n 0, 1) := by decide +kernel
theorem dX11_odds_25 : decode cX11_odds 25 = .ok (.getfield 24, 3) := by decide +kernel
theorem dX11_odds_28 : decode cX11_odds 28 = .ok (.aload_n 0, 1) := by decide +kernel
theorem dX11_odds_29 : decode cX11_odds 29 = .ok (.getfield 34, 3) := by decide +kernel
theorem dX11_odds_32 : decode cX11_odds 32 = .ok (.iload_n 1, 1) := by decide +kernel
theorem dX11_odds_33 : decode cX11_odds 33 = .ok (.invokevirtual 265, 3) := by decide +kernel
theorem dX11_odds_36 : decode cX11_odds 36 = .ok (.aload_n 0, 1) := by decide +kernel
theorem dX11_odds_37 : decode cX11_odds 37 = .ok (.aload_n 0, 1) := by decide +kernel
theorem dX11_odds_38 : decode cX11_odds 38 = .ok (.getfield 76, 3) := by decide +kernel
theorem dX11_odds_41 : decode cX11_odds 41 = .ok (.iload_n 2, 1) := by decide +kernel
theorem dX11_odds_42 : decode cX11_odds 42 = .ok (.aload_n 0, 1) := by decide +kernel
theorem dX11_odds_43 : decode cX11_odds 43 = .ok (.getfield 34, 3) := by decide +kernel
theorem dX11_odds_46 : decode cX11_odds 46 = .ok (.getfield 280, 3) := by decide +kernel
theorem dX11_odds_49 : decode cX11_odds 49 = .ok (.invokevirtual 283, 3) := by decide +kernel
theorem dX11_odds_52 : decode cX11_odds 52 = .ok (.aload_n 0, 1) := by decide +kernel
theorem dX11_odds_53 : decode cX11_odds 53 = .ok (.getfield 76, 3) := by decide +kernel
theorem dX11_odds_56 : decode cX11_odds 56 = .ok (.getfield 273, 3) := by decide +kernel
theorem dX11_odds_59 : decode cX11_odds 59 = .ok (.iconst 1, 1) := by decide +kernel
theorem dX11_odds_60 : decode cX11_odds 60 = .ok (.invokevirtual 276, 3) := by decide +kernel
theorem dX11_odds_63 : decode cX11_odds 63 = .ok (.ireturn, 1) := by decide +kernel
theorem dX11_ask_0 : decode cX11_ask 0 = .ok (.iload_n 1, 1) := by decide +kernel
theorem dX11_ask_1 : decode cX11_ask 1 = .ok (.invokestatic 262, 3) := by decide +kernel
theorem dX11_ask_4 : decode cX11_ask 4 = .ok (.ifCond .eq 23, 3) := by decide +kernel
theorem dX11_ask_7 : decode cX11_ask 7 = .ok (.iload_n 3, 1) := by decide +kernel
theorem dX11_ask_8 : decode cX11_ask 8 = .ok (.iconst 1, 1) := by decide +kernel
theorem dX11_ask_9 : decode cX11_ask 9 = .ok (.if_icmp .lt 18, 3) := by decide +kernel
theorem dX11_ask_12 : decode cX11_ask 12 = .ok (.iload_n 3, 1) := by decide +kernel
theorem dX11_ask_13 : decode cX11_ask 13 = .ok (.bipush 99, 2) := by decide +kernel
theorem dX11_ask_15 : decode cX11_ask 15 = .ok (.if_icmp .gt 12, 3) := by decide +kernel
theorem dX11_ask_18 : decode cX11_ask 18 = .ok (.iload_n 2, 1) := by decide +kernel
theorem dX11_ask_19 : decode cX11_ask 19 = .ok (.ifCond .lt 8, 3) := by decide +kernel
theorem dX11_ask_22 : decode cX11_ask 22 = .ok (.iload_n 2, 1) := by decide +kernel
theorem dX11_ask_23 : decode cX11_ask 23 = .ok (.iload_n 3, 1) := by decide +kernel
theorem dX11_ask_24 : decode cX11_ask 24 = .ok (.if_icmp .le 5, 3) := by decide +kernel
theorem dX11_ask_27 : decode cX11_ask 27 = .ok (.iconst (-1), 1) := by decide +kernel
theorem dX11_ask_28 : decode cX11_ask 28 = .ok (.ireturn, 1) := by decide +kernel
theorem dX11_ask_29 : decode cX11_ask 29 = .ok (.aload_n 0, 1) := by decide +kernel
theorem dX11_ask_30 : decode cX11_ask 30 = .ok (.getfield 24, 3) := by decide +kernel
theorem dX11_ask_33 : decode cX11_ask 33 = .ok (.getfield 172, 3) := by decide +kernel
theorem dX11_ask_36 : decode cX11_ask 36 = .ok (.ifCond .ne 6, 3) := by decide +kernel
theorem dX11_ask_39 : decode cX11_ask 39 = .ok (.bipush (-4), 2) := by decide +kernel
theorem dX11_ask_41 : decode cX11_ask 41 = .ok (.ireturn, 1) := by decide +kernel
theorem dX11_ask_42 : decode cX11_ask 42 = .ok (.aload_n 0, 1) := by decide +kernel
theorem dX11_ask_43 : decode cX11_ask 43 = .ok (.getfield 76, 3) := by decide +kernel
theorem dX11_ask_46 : decode cX11_ask 46 = .ok (.aload_n 0, 1) := by decide +kernel
theorem dX11_ask_47 : decode cX11_ask 47 = .ok (.getfield 24, 3) := by decide +kernel
theorem dX11_ask_50 : decode cX11_ask 50 = .ok (.aload_n 0, 1) := by decide +kernel
theorem dX11_ask_51 : decode cX11_ask 51 = .ok (.getfield 34, 3) := by decide +kernel
theorem dX11_ask_54 : decode cX11_ask 54 = .ok (.iload_n 1, 1) := by decide +kernel
theorem dX11_ask_55 : decode cX11_ask 55 = .ok (.invokevirtual 265, 3) := by decide +kernel
theorem dX11_ask_58 : decode cX11_ask 58 = .ok (.iconst 0, 1) := by decide +kernel
theorem dX11_ask_59 : decode cX11_ask 59 = .ok (.istore 4, 2) := by decide +kernel
theorem dX11_ask_61 : decode cX11_ask 61 = .ok (.lconst 0, 1) := by decide +kernel
theorem dX11_ask_62 : decode cX11_ask 62 = .ok (.lstore 5, 2) := by decide +kernel
theorem dX11_ask_64 : decode cX11_ask 64 = .ok (.iconst 0, 1) := by decide +kernel
theorem dX11_ask_65 : decode cX11_ask 65 = .ok (.istore 7, 2) := by decide +kernel
theorem dX11_ask_67 : decode cX11_ask 67 = .ok (.iload 7, 2) := by decide +kernel
theorem dX11_ask_69 : decode cX11_ask 69 = .ok (.aload_n 0, 1) := by decide +kernel
theorem dX11_ask_70 : decode cX11_ask 70 = .ok (.getfield 24, 3) := by decide +kernel
theorem dX11_ask_73 : decode cX11_ask 73 = .ok (.getfield 172, 3) := by decide +kernel
theorem dX11_ask_76 : decode cX11_ask 76 = .ok (.if_icmp .ge 66, 3) := by decide +kernel
theorem dX11_ask_79 : decode cX11_ask 79 = .ok (.lload 5, 2) := by decide +kernel
theorem dX11_ask_81 : decode cX11_ask 81 = .ok (.iload_n 3, 1) := by decide +kernel
theorem dX11_ask_82 : decode cX11_ask 82 = .ok (.i2l, 1) := by decide +kernel
theorem dX11_ask_83 : decode cX11_ask 83 = .ok (.lmul, 1) := by decide +kernel
theorem dX11_ask_84 : decode cX11_ask 84 = .ok (.aload_n 0, 1) := by decide +kernel
theorem dX11_ask_85 : decode cX11_ask 85 = .ok (.getfield 76, 3) := by decide +kernel
theorem dX11_ask_88 : decode cX11_ask 88 = .ok (.getfield 273, 3) := by decide +kernel
theorem dX11_ask_91 : decode cX11_ask 91 = .ok (.iload_n 2, 1) := by decide +kernel
theorem dX11_ask_92 : decode cX11_ask 92 = .ok (.i2l, 1) := by decide +kernel
theorem dX11_ask_93 : decode cX11_ask 93 = .ok (.lmul, 1) := by decide +kernel
theorem dX11_ask_94 : decode cX11_ask 94 = .ok (.lcmp, 1) := by decide +kernel
theorem dX11_ask_95 : decode cX11_ask 95 = .ok (.ifCond .ge 47, 3) := by decide +kernel
theorem dX11_ask_98 : decode cX11_ask 98 = .ok (.aload_n 0, 1) := by decide +kernel
theorem dX11_ask_99 : decode cX11_ask 99 = .ok (.iload 4, 2) := by decide +kernel
theorem dX11_ask_101 : decode cX11_ask 101 = .ok (.invokevirtual 287, 3) := by decide +kernel
theorem dX11_ask_104 : decode cX11_ask 104 = .ok (.istore 8, 2) := by decide +kernel
theorem dX11_ask_106 : decode cX11_ask 106 = .ok (.lload 5, 2) := by decide +kernel
theorem dX11_ask_108 : decode cX11_ask 108 = .ok (.aload_n 0, 1) := by decide +kernel
theorem dX11_ask_109 : decode cX11_ask 109 = .ok (.getfield 76, 3) := by decide +kernel
theorem dX11_ask_112 : decode cX11_ask 112 = .ok (.iload 8, 2) := by decide +kernel
theorem dX11_ask_114 : decode cX11_ask 114 = .ok (.aload_n 0, 1) := by decide +kernel
theorem dX11_ask_115 : decode cX11_ask 115 = .ok (.getfield 34, 3) := by decide +kernel
theorem dX11_ask_118 : decode cX11_ask 118 = .ok (.getfield 280, 3) := by decide +kernel
theorem dX11_ask_121 : decode cX11_ask 121 = .ok (.invokevirtual 283, 3) := by decide +kernel
theorem dX11_ask_124 : decode cX11_ask 124 = .ok (.ladd, 1) := by decide +kernel
theorem dX11_ask_125 : decode cX11_ask 125 = .ok (.lstore 5, 2) := by decide +kernel
theorem dX11_ask_127 : decode cX11_ask 127 = .ok (.iload 4, 2) := by decide +kernel
theorem dX11_ask_129 : decode cX11_ask 129 = .ok (.iconst 1, 1) := by decide +kernel
theorem dX11_ask_130 : decode cX11_ask 130 = .ok (.iload 8, 2) := by decide +kernel
theorem dX11_ask_132 : decode cX11_ask 132 = .ok (.ishl, 1) := by decide +kernel
theorem dX11_ask_133 : decode cX11_ask 133 = .ok (.ior, 1) := by decide +kernel
theorem dX11_ask_134 : decode cX11_ask 134 = .ok (.istore 4, 2) := by decide +kernel
theorem dX11_ask_136 : decode cX11_ask 136 = .ok (.iinc 7 1, 3) := by decide +kernel
theorem dX11_ask_139 : decode cX11_ask 139 = .ok (.goto (-72), 3) := by decide +kernel
theorem dX11_ask_142 : decode cX11_ask 142 = .ok (.aload_n 0, 1) := by decide +kernel
theorem dX11_ask_143 : decode cX11_ask 143 = .ok (.iload 4, 2) := by decide +kernel
theorem dX11_ask_145 : decode cX11_ask 145 = .ok (.iload 4, 2) := by decide +kernel
theorem dX11_ask_147 : decode cX11_ask 147 = .ok (.invokestatic 290, 3) := by decide +kernel
theorem dX11_ask_150 : decode cX11_ask 150 = .ok (.invokevirtual 135, 3) := by decide +kernel
theorem dX11_ask_153 : decode cX11_ask 153 = .ok (.ireturn, 1) := by decide +kernel
theorem dX11_rule_0 : decode cX11_rule 0 = .ok (.aload_n 0, 1) := by decide +kernel
theorem dX11_rule_1 : decode cX11_rule 1 = .ok (.getfield 24, 3) := by decide +kernel
theorem dX11_rule_4 : decode cX11_rule 4 = .ok (.iload_n 1, 1) := by decide +kernel
theorem dX11_rule_5 : decode cX11_rule 5 = .ok (.invokevirtual 173, 3) := by decide +kernel
theorem dX11_rule_8 : decode cX11_rule 8 = .ok (.ifCond .eq 10, 3) := by decide +kernel
theorem dX11_rule_11 : decode cX11_rule 11 = .ok (.iload_n 2, 1) := by decide +kernel
theorem dX11_rule_12 : decode cX11_rule 12 = .ok (.invokestatic 262, 3) := by decide +kernel
theorem dX11_rule_15 : decode cX11_rule 15 = .ok (.ifCond .ne 5, 3) := by decide +kernel
theorem dX11_rule_18 : decode cX11_rule 18 = .ok (.iconst (-1), 1) := by decide +kernel
theorem dX11_rule_19 : decode cX11_rule 19 = .ok (.ireturn, 1) := by decide +kernel
theorem dX11_rule_20 : decode cX11_rule 20 = .ok (.iconst 0, 1) := by decide +kernel
theorem dX11_rule_21 : decode cX11_rule 21 = .ok (.istore_n 3, 1) := by decide +kernel
theorem dX11_rule_22 : decode cX11_rule 22 = .ok (.ldc2_w 295, 3) := by decide +kernel
theorem dX11_rule_25 : decode cX11_rule 25 = .ok (.lstore 4, 2) := by decide +kernel
theorem dX11_rule_27 : decode cX11_rule 27 = .ok (.iconst 0, 1) := by decide +kernel
theorem dX11_rule_28 : decode cX11_rule 28 = .ok (.istore 6, 2) := by decide +kernel
theorem dX11_rule_30 : decode cX11_rule 30 = .ok (.iload 6, 2) := by decide +kernel
theorem dX11_rule_32 : decode cX11_rule 32 = .ok (.iconst 3, 1) := by decide +kernel
theorem dX11_rule_33 : decode cX11_rule 33 = .ok (.if_icmp .ge 49, 3) := by decide +kernel
theorem dX11_rule_36 : decode cX11_rule 36 = .ok (.aload_n 0, 1) := by decide +kernel
theorem dX11_rule_37 : decode cX11_rule 37 = .ok (.getfield 76, 3) := by decide +kernel
theorem dX11_rule_40 : decode cX11_rule 40 = .ok (.aload_n 0, 1) := by decide +kernel
theorem dX11_rule_41 : decode cX11_rule 41 = .ok (.getfield 24, 3) := by decide +kernel
theorem dX11_rule_44 : decode cX11_rule 44 = .ok (.iload_n 1, 1) := by decide +kernel
theorem dX11_rule_45 : decode cX11_rule 45 = .ok (.iload 6, 2) := by decide +kernel
theorem dX11_rule_47 : decode cX11_rule 47 = .ok (.iload_n 2, 1) := by decide +kernel
theorem dX11_rule_48 : decode cX11_rule 48 = .ok (.invokevirtual 297, 3) := by decide +kernel
theorem dX11_rule_51 : decode cX11_rule 51 = .ok (.aload_n 0, 1) := by decide +kernel
theorem dX11_rule_52 : decode cX11_rule 52 = .ok (.getfield 76, 3) := by decide +kernel
theorem dX11_rule_55 : decode cX11_rule 55 = .ok (.invokevirtual 269, 3) := by decide +kernel
theorem dX11_rule_58 : decode cX11_rule 58 = .ok (.lload 4, 2) := by decide +kernel
theorem dX11_rule_60 : decode cX11_rule 60 = .ok (.lcmp, 1) := by decide +kernel
theorem dX11_rule_61 : decode cX11_rule 61 = .ok (.ifCond .le 15, 3) := by decide +kernel
theorem dX11_rule_64 : decode cX11_rule 64 = .ok (.iload 6, 2) := by decide +kernel
theorem dX11_rule_66 : decode cX11_rule 66 = .ok (.istore_n 3, 1) := by decide +kernel
theorem dX11_rule_67 : decode cX11_rule 67 = .ok (.aload_n 0, 1) := by decide +kernel
theorem dX11_rule_68 : decode cX11_rule 68 = .ok (.getfield 76, 3) := by decide +kernel
theorem dX11_rule_71 : decode cX11_rule 71 = .ok (.invokevirtual 269, 3) := by decide +kernel
theorem dX11_rule_74 : decode cX11_rule 74 = .ok (.lstore 4, 2) := by decide +kernel
theorem dX11_rule_76 : decode cX11_rule 76 = .ok (.iinc 6 1, 3) := by decide +kernel
theorem dX11_rule_79 : decode cX11_rule 79 = .ok (.goto (-49), 3) := by decide +kernel
theorem dX11_rule_82 : decode cX11_rule 82 = .ok (.aload_n 0, 1) := by decide +kernel
theorem dX11_rule_83 : decode cX11_rule 83 = .ok (.lload 4, 2) := by decide +kernel
theorem dX11_rule_85 : decode cX11_rule 85 = .ok (.aload_n 0, 1) := by decide +kernel
theorem dX11_rule_86 : decode cX11_rule 86 = .ok (.getfield 76, 3) := by decide +kernel
theorem dX11_rule_89 : decode cX11_rule 89 = .ok (.getfield 273, 3) := by decide +kernel
theorem dX11_rule_92 : decode cX11_rule 92 = .ok (.iload_n 3, 1) := by decide +kernel
theorem dX11_rule_93 : decode cX11_rule 93 = .ok (.invokevirtual 276, 3) := by decide +kernel
theorem dX11_rule_96 : decode cX11_rule 96 = .ok (.ireturn, 1) := by decide +kernel
theorem dX11_order_0 : decode cX11_order 0 = .ok (.aload_n 0, 1) := by decide +kernel
theorem dX11_order_1 : decode cX11_order 1 = .ok (.iload_n 1, 1) := by decide +kernel
theorem dX11_order_2 : decode cX11_order 2 = .ok (.invokevirtual 301, 3) := by decide +kernel
theorem dX11_order_5 : decode cX11_order 5 = .ok (.istore_n 2, 1) := by decide +kernel
theorem dX11_order_6 : decode cX11_order 6 = .ok (.iload_n 2, 1) := by decide +kernel
theorem dX11_order_7 : decode cX11_order 7 = .ok (.ifCond .eq 5, 3) := by decide +kernel
theorem dX11_order_10 : decode cX11_order 10 = .ok (.iload_n 2, 1) := by decide +kernel
theorem dX11_order_11 : decode cX11_order 11 = .ok (.ireturn, 1) := by decide +kernel
theorem dX11_order_12 : decode cX11_order 12 = .ok (.aload_n 0, 1) := by decide +kernel
theorem dX11_order_13 : decode cX11_order 13 = .ok (.getfield 59, 3) := by decide +kernel
theorem dX11_order_16 : decode cX11_order 16 = .ok (.aload_n 0, 1) := by decide +kernel
theorem dX11_order_17 : decode cX11_order 17 = .ok (.getfield 34, 3) := by decide +kernel
theorem dX11_order_20 : decode cX11_order 20 = .ok (.invokevirtual 198, 3) := by decide +kernel
theorem dX11_order_23 : decode cX11_order 23 = .ok (.aload_n 0, 1) := by decide +kernel
theorem dX11_order_24 : decode cX11_order 24 = .ok (.invokevirtual 304, 3) := by decide +kernel
theorem dX11_order_27 : decode cX11_order 27 = .ok (.ireturn, 1) := by decide +kernel
theorem dX11_most_0 : decode cX11_most 0 = .ok (.aload_n 0, 1) := by decide +kernel
theorem dX11_most_1 : decode cX11_most 1 = .ok (.getfield 14, 3) := by decide +kernel
theorem dX11_most_4 : decode cX11_most 4 = .ok (.iload_n 2, 1) := by decide +kernel
theorem dX11_most_5 : decode cX11_most 5 = .ok (.invokevirtual 112, 3) := by decide +kernel
theorem dX11_most_8 : decode cX11_most 8 = .ok (.ifCond .eq 11, 3) := by decide +kernel
theorem dX11_most_11 : decode cX11_most 11 = .ok (.aload_n 0, 1) := by decide +kernel
theorem dX11_most_12 : decode cX11_most 12 = .ok (.iload_n 1, 1) := by decide +kernel
theorem dX11_most_13 : decode cX11_most 13 = .ok (.invokevirtual 307, 3) := by decide +kernel
theorem dX11_most_16 : decode cX11_most 16 = .ok (.ifCond .ne 5, 3) := by decide +kernel
theorem dX11_most_19 : decode cX11_most 19 = .ok (.iconst (-1), 1) := by decide +kernel
theorem dX11_most_20 : decode cX11_most 20 = .ok (.ireturn, 1) := by decide +kernel
theorem dX11_most_21 : decode cX11_most 21 = .ok (.iload_n 1, 1) := by decide +kernel
theorem dX11_most_22 : decode cX11_most 22 = .ok (.aload_n 0, 1) := by decide +kernel
theorem dX11_most_23 : decode cX11_most 23 = .ok (.getfield 34, 3) := by decide +kernel
theorem dX11_most_26 : decode cX11_most 26 = .ok (.getfield 243, 3) := by decide +kernel
theorem dX11_most_29 : decode cX11_most 29 = .ok (.iconst (-1), 1) := by decide +kernel
theorem dX11_most_30 : decode cX11_most 30 = .ok (.ixor, 1) := by decide +kernel
theorem dX11_most_31 : decode cX11_most 31 = .ok (.iand, 1) := by decide +kernel
theorem dX11_most_32 : decode cX11_most 32 = .ok (.istore_n 3, 1) := by decide +kernel
theorem dX11_most_33 : decode cX11_most 33 = .ok (.iload_n 3, 1) := by decide +kernel
theorem dX11_most_34 : decode cX11_most 34 = .ok (.invokestatic 290, 3) := by decide +kernel
theorem dX11_most_37 : decode cX11_most 37 = .ok (.bipush 6, 2) := by decide +kernel
theorem dX11_most_39 : decode cX11_most 39 = .ok (.if_icmp .le 6, 3) := by decide +kernel
theorem dX11_most_42 : decode cX11_most 42 = .ok (.bipush (-6), 2) := by decide +kernel
theorem dX11_most_44 : decode cX11_most 44 = .ok (.ireturn, 1) := by decide +kernel
theorem dX11_most_45 : decode cX11_most 45 = .ok (.aload_n 0, 1) := by decide +kernel
theorem dX11_most_46 : decode cX11_most 46 = .ok (.iload_n 3, 1) := by decide +kernel
theorem dX11_most_47 : decode cX11_most 47 = .ok (.invokevirtual 310, 3) := by decide +kernel
theorem dX11_most_50 : decode cX11_most 50 = .ok (.aload_n 0, 1) := by decide +kernel
theorem dX11_most_51 : decode cX11_most 51 = .ok (.getfield 14, 3) := by decide +kernel
theorem dX11_most_54 : decode cX11_most 54 = .ok (.iload_n 2, 1) := by decide +kernel
theorem dX11_most_55 : decode cX11_most 55 = .ok (.aload_n 0, 1) := by decide +kernel
theorem dX11_most_56 : decode cX11_most 56 = .ok (.getfield 83, 3) := by decide +kernel
theorem dX11_most_59 : decode cX11_most 59 = .ok (.getfield 313, 3) := by decide +kernel
theorem dX11_most_62 : decode cX11_most 62 = .ok (.iconst 0, 1) := by decide +kernel
theorem dX11_most_63 : decode cX11_most 63 = .ok (.invokevirtual 120, 3) := by decide +kernel
theorem dX11_most_66 : decode cX11_most 66 = .ok (.iconst 0, 1) := by decide +kernel
theorem dX11_most_67 : decode cX11_most 67 = .ok (.istore 4, 2) := by decide +kernel
theorem dX11_most_69 : decode cX11_most 69 = .ok (.iload 4, 2) := by decide +kernel
theorem dX11_most_71 : decode cX11_most 71 = .ok (.aload_n 0, 1) := by decide +kernel
theorem dX11_most_72 : decode cX11_most 72 = .ok (.getfield 83, 3) := by decide +kernel
theorem dX11_most_75 : decode cX11_most 75 = .ok (.getfield 313, 3) := by decide +kernel
theorem dX11_most_78 : decode cX11_most 78 = .ok (.if_icmp .ge 28, 3) := by decide +kernel
theorem dX11_most_81 : decode cX11_most 81 = .ok (.aload_n 0, 1) := by decide +kernel
theorem dX11_most_82 : decode cX11_most 82 = .ok (.getfield 14, 3) := by decide +kernel
theorem dX11_most_85 : decode cX11_most 85 = .ok (.iload_n 2, 1) := by decide +kernel
theorem dX11_most_86 : decode cX11_most 86 = .ok (.iload 4, 2) := by decide +kernel
theorem dX11_most_88 : decode cX11_most 88 = .ok (.aload_n 0, 1) := by decide +kernel
theorem dX11_most_89 : decode cX11_most 89 = .ok (.getfield 83, 3) := by decide +kernel
theorem dX11_most_92 : decode cX11_most 92 = .ok (.iload 4, 2) := by decide +kernel
theorem dX11_most_94 : decode cX11_most 94 = .ok (.invokevirtual 316, 3) := by decide +kernel
theorem dX11_most_97 : decode cX11_most 97 = .ok (.invokevirtual 132, 3) := by decide +kernel
theorem dX11_most_100 : decode cX11_most 100 = .ok (.iinc 4 1, 3) := by decide +kernel
theorem dX11_most_103 : decode cX11_most 103 = .ok (.goto (-34), 3) := by decide +kernel
theorem dX11_most_106 : decode cX11_most 106 = .ok (.aload_n 0, 1) := by decide +kernel
theorem dX11_most_107 : decode cX11_most 107 = .ok (.getfield 83, 3) := by decide +kernel
theorem dX11_most_110 : decode cX11_most 110 = .ok (.getfield 319, 3) := by decide +kernel
theorem dX11_most_113 : decode cX11_most 113 = .ok (.ireturn, 1) := by decide +kernel
theorem dX11_spans_0 : decode cX11_spans 0 = .ok (.aload_n 0, 1) := by decide +kernel
theorem dX11_spans_1 : decode cX11_spans 1 = .ok (.iload_n 1, 1) := by decide +kernel
theorem dX11_spans_2 : decode cX11_spans 2 = .ok (.invokevirtual 307, 3) := by decide +kernel
theorem dX11_spans_5 : decode cX11_spans 5 = .ok (.ifCond .ne 5, 3) := by decide +kernel
theorem dX11_spans_8 : decode cX11_spans 8 = .ok (.iconst (-1), 1) := by decide +kernel
theorem dX11_spans_9 : decode cX11_spans 9 = .ok (.ireturn, 1) := by decide +kernel
theorem dX11_spans_10 : decode cX11_spans 10 = .ok (.iload_n 1, 1) := by decide +kernel
theorem dX11_spans_11 : decode cX11_spans 11 = .ok (.aload_n 0, 1) := by decide +kernel
theorem dX11_spans_12 : decode cX11_spans 12 = .ok (.getfield 34, 3) := by decide +kernel
theorem dX11_spans_15 : decode cX11_spans 15 = .ok (.getfield 243, 3) := by decide +kernel
theorem dX11_spans_18 : decode cX11_spans 18 = .ok (.iconst (-1), 1) := by decide +kernel
theorem dX11_spans_19 : decode cX11_spans 19 = .ok (.ixor, 1) := by decide +kernel
theorem dX11_spans_20 : decode cX11_spans 20 = .ok (.iand, 1) := by decide +kernel
theorem dX11_spans_21 : decode cX11_spans 21 = .ok (.istore_n 2, 1) := by decide +kernel
theorem dX11_spans_22 : decode cX11_spans 22 = .ok (.iload_n 2, 1) := by decide +kernel
theorem dX11_spans_23 : decode cX11_spans 23 = .ok (.invokestatic 290, 3) := by decide +kernel
theorem dX11_spans_26 : decode cX11_spans 26 = .ok (.bipush 6, 2) := by decide +kernel
theorem dX11_spans_28 : decode cX11_spans 28 = .ok (.if_icmp .le 6, 3) := by decide +kernel
theorem dX11_spans_31 : decode cX11_spans 31 = .ok (.bipush (-6), 2) := by decide +kernel
theorem dX11_spans_33 : decode cX11_spans 33 = .ok (.ireturn, 1) := by decide +kernel
theorem dX11_spans_34 : decode cX11_spans 34 = .ok (.aload_n 0, 1) := by decide +kernel
theorem dX11_spans_35 : decode cX11_spans 35 = .ok (.iload_n 2, 1) := by decide +kernel
theorem dX11_spans_36 : decode cX11_spans 36 = .ok (.invokevirtual 310, 3) := by decide +kernel
theorem dX11_spans_39 : decode cX11_spans 39 = .ok (.aload_n 0, 1) := by decide +kernel
theorem dX11_spans_40 : decode cX11_spans 40 = .ok (.aload_n 0, 1) := by decide +kernel
theorem dX11_spans_41 : decode cX11_spans 41 = .ok (.getfield 83, 3) := by decide +kernel
theorem dX11_spans_44 : decode cX11_spans 44 = .ok (.getfield 319, 3) := by decide +kernel
theorem dX11_spans_47 : decode cX11_spans 47 = .ok (.aload_n 0, 1) := by decide +kernel
theorem dX11_spans_48 : decode cX11_spans 48 = .ok (.getfield 83, 3) := by decide +kernel
theorem dX11_spans_51 : decode cX11_spans 51 = .ok (.getfield 322, 3) := by decide +kernel
theorem dX11_spans_54 : decode cX11_spans 54 = .ok (.invokevirtual 135, 3) := by decide +kernel
theorem dX11_spans_57 : decode cX11_spans 57 = .ok (.ireturn, 1) := by decide +kernel
theorem dX11_best_0 : decode cX11_best 0 = .ok (.aload_n 0, 1) := by decide +kernel
theorem dX11_best_1 : decode cX11_best 1 = .ok (.iload_n 1, 1) := by decide +kernel
theorem dX11_best_2 : decode cX11_best 2 = .ok (.invokevirtual 301, 3) := by decide +kernel
theorem dX11_best_5 : decode cX11_best 5 = .ok (.istore_n 2, 1) := by decide +kernel
theorem dX11_best_6 : decode cX11_best 6 = .ok (.iload_n 2, 1) := by decide +kernel
theorem dX11_best_7 : decode cX11_best 7 = .ok (.ifCond .eq 5, 3) := by decide +kernel
theorem dX11_best_10 : decode cX11_best 10 = .ok (.iload_n 2, 1) := by decide +kernel
theorem dX11_best_11 : decode cX11_best 11 = .ok (.ireturn, 1) := by decide +kernel
theorem dX11_best_12 : decode cX11_best 12 = .ok (.aload_n 0, 1) := by decide +kernel
theorem dX11_best_13 : decode cX11_best 13 = .ok (.getfield 59, 3) := by decide +kernel
theorem dX11_best_16 : decode cX11_best 16 = .ok (.aload_n 0, 1) := by decide +kernel
theorem dX11_best_17 : decode cX11_best 17 = .ok (.getfield 34, 3) := by decide +kernel
theorem dX11_best_20 : decode cX11_best 20 = .ok (.invokevirtual 198, 3) := by decide +kernel
theorem dX11_best_23 : decode cX11_best 23 = .ok (.iconst 0, 1) := by decide +kernel
theorem dX11_best_24 : decode cX11_best 24 = .ok (.istore_n 3, 1) := by decide +kernel
theorem dX11_best_25 : decode cX11_best 25 = .ok (.iconst (-1), 1) := by decide +kernel
theorem dX11_best_26 : decode cX11_best 26 = .ok (.istore 4, 2) := by decide +kernel
theorem dX11_best_28 : decode cX11_best 28 = .ok (.iconst 0, 1) := by decide +kernel
theorem dX11_best_29 : decode cX11_best 29 = .ok (.istore 5, 2) := by decide +kernel
theorem dX11_best_31 : decode cX11_best 31 = .ok (.iload 5, 2) := by decide +kernel
theorem dX11_best_33 : decode cX11_best 33 = .ok (.bipush 60, 2) := by decide +kernel
theorem dX11_best_35 : decode cX11_best 35 = .ok (.if_icmp .gt 38, 3) := by decide +kernel
theorem dX11_best_38 : decode cX11_best 38 = .ok (.aload_n 0, 1) := by decide +kernel
theorem dX11_best_39 : decode cX11_best 39 = .ok (.getfield 59, 3) := by decide +kernel
theorem dX11_best_42 : decode cX11_best 42 = .ok (.iload 5, 2) := by decide +kernel
theorem dX11_best_44 : decode cX11_best 44 = .ok (.putfield 325, 3) := by decide +kernel
theorem dX11_best_47 : decode cX11_best 47 = .ok (.aload_n 0, 1) := by decide +kernel
theorem dX11_best_48 : decode cX11_best 48 = .ok (.invokevirtual 304, 3) := by decide +kernel
theorem dX11_best_51 : decode cX11_best 51 = .ok (.istore 6, 2) := by decide +kernel
theorem dX11_best_53 : decode cX11_best 53 = .ok (.iload 6, 2) := by decide +kernel
theorem dX11_best_55 : decode cX11_best 55 = .ok (.iload 4, 2) := by decide +kernel
theorem dX11_best_57 : decode cX11_best 57 = .ok (.if_icmp .le 10, 3) := by decide +kernel
theorem dX11_best_60 : decode cX11_best 60 = .ok (.iload 5, 2) := by decide +kernel
theorem dX11_best_62 : decode cX11_best 62 = .ok (.istore_n 3, 1) := by decide +kernel
theorem dX11_best_63 : decode cX11_best 63 = .ok (.iload 6, 2) := by decide +kernel
theorem dX11_best_65 : decode cX11_best 65 = .ok (.istore 4, 2) := by decide +kernel
theorem dX11_best_67 : decode cX11_best 67 = .ok (.iinc 5 1, 3) := by decide +kernel
theorem dX11_best_70 : decode cX11_best 70 = .ok (.goto (-39), 3) := by decide +kernel
theorem dX11_best_73 : decode cX11_best 73 = .ok (.aload_n 0, 1) := by decide +kernel
theorem dX11_best_74 : decode cX11_best 74 = .ok (.iload 4, 2) := by decide +kernel
theorem dX11_best_76 : decode cX11_best 76 = .ok (.iload_n 3, 1) := by decide +kernel
theorem dX11_best_77 : decode cX11_best 77 = .ok (.invokevirtual 135, 3) := by decide +kernel
theorem dX11_best_80 : decode cX11_best 80 = .ok (.ireturn, 1) := by decide +kernel
theorem dX11_fill_0 : decode cX11_fill 0 = .ok (.iload_n 1, 1) := by decide +kernel
theorem dX11_fill_1 : decode cX11_fill 1 = .ok (.ifCond .lt 10, 3) := by decide +kernel
theorem dX11_fill_4 : decode cX11_fill 4 = .ok (.iload_n 1, 1) := by decide +kernel
theorem dX11_fill_5 : decode cX11_fill 5 = .ok (.sipush 999, 3) := by decide +kernel
theorem dX11_fill_8 : decode cX11_fill 8 = .ok (.if_icmp .le 5, 3) := by decide +kernel
theorem dX11_fill_11 : decode cX11_fill 11 = .ok (.iconst (-1), 1) := by decide +kernel
theorem dX11_fill_12 : decode cX11_fill 12 = .ok (.ireturn, 1) := by decide +kernel
theorem dX11_fill_13 : decode cX11_fill 13 = .ok (.aload_n 0, 1) := by decide +kernel
theorem dX11_fill_14 : decode cX11_fill 14 = .ok (.getfield 59, 3) := by decide +kernel
theorem dX11_fill_17 : decode cX11_fill 17 = .ok (.aload_n 0, 1) := by decide +kernel
theorem dX11_fill_18 : decode cX11_fill 18 = .ok (.getfield 34, 3) := by decide +kernel
theorem dX11_fill_21 : decode cX11_fill 21 = .ok (.invokevirtual 198, 3) := by decide +kernel
theorem dX11_fill_24 : decode cX11_fill 24 = .ok (.iconst 0, 1) := by decide +kernel
theorem dX11_fill_25 : decode cX11_fill 25 = .ok (.istore_n 2, 1) := by decide +kernel
theorem dX11_fill_26 : decode cX11_fill 26 = .ok (.iload_n 2, 1) := by decide +kernel
theorem dX11_fill_27 : decode cX11_fill 27 = .ok (.aload_n 0, 1) := by decide +kernel
theorem dX11_fill_28 : decode cX11_fill 28 = .ok (.getfield 24, 3) := by decide +kernel
theorem dX11_fill_31 : decode cX11_fill 31 = .ok (.getfield 172, 3) := by decide +kernel
theorem dX11_fill_34 : decode cX11_fill 34 = .ok (.if_icmp .ge 39, 3) := by decide +kernel
theorem dX11_fill_37 : decode cX11_fill 37 = .ok (.aload_n 0, 1) := by decide +kernel
theorem dX11_fill_38 : decode cX11_fill 38 = .ok (.getfield 34, 3) := by decide +kernel
theorem dX11_fill_41 : decode cX11_fill 41 = .ok (.iload_n 2, 1) := by decide +kernel
theorem dX11_fill_42 : decode cX11_fill 42 = .ok (.invokevirtual 326, 3) := by decide +kernel
theorem dX11_fill_45 : decode cX11_fill 45 = .ok (.ifCond .ne 22, 3) := by decide +kernel
theorem dX11_fill_48 : decode cX11_fill 48 = .ok (.aload_n 0, 1) := by decide +kernel
theorem dX11_fill_49 : decode cX11_fill 49 = .ok (.getfield 59, 3) := by decide +kernel
theorem dX11_fill_52 : decode cX11_fill 52 = .ok (.aload_n 0, 1) := by decide +kernel
theorem dX11_fill_53 : decode cX11_fill 53 = .ok (.getfield 59, 3) := by decide +kernel
theorem dX11_fill_56 : decode cX11_fill 56 = .ok (.aload_n 0, 1) := by decide +kernel
theorem dX11_fill_57 : decode cX11_fill 57 = .ok (.getfield 24, 3) := by decide +kernel
theorem dX11_fill_60 : decode cX11_fill 60 = .ok (.iload_n 2, 1) := by decide +kernel
theorem dX11_fill_61 : decode cX11_fill 61 = .ok (.invokevirtual 332, 3) := by decide +kernel
theorem dX11_fill_64 : decode cX11_fill 64 = .ok (.invokevirtual 335, 3) := by decide +kernel
theorem dX11_fill_67 : decode cX11_fill 67 = .ok (.iinc 2 1, 3) := by decide +kernel
theorem dX11_fill_70 : decode cX11_fill 70 = .ok (.goto (-44), 3) := by decide +kernel
theorem dX11_fill_73 : decode cX11_fill 73 = .ok (.iconst 0, 1) := by decide +kernel
theorem dX11_fill_74 : decode cX11_fill 74 = .ok (.iload_n 1, 1) := by decide +kernel
theorem dX11_fill_75 : decode cX11_fill 75 = .ok (.aload_n 0, 1) := by decide +kernel
theorem dX11_fill_76 : decode cX11_fill 76 = .ok (.getfield 59, 3) := by decide +kernel
theorem dX11_fill_79 : decode cX11_fill 79 = .ok (.getfield 234, 3) := by decide +kernel
theorem dX11_fill_82 : decode cX11_fill 82 = .ok (.isub, 1) := by decide +kernel
theorem dX11_fill_83 : decode cX11_fill 83 = .ok (.invokestatic 344, 3) := by decide +kernel
theorem dX11_fill_86 : decode cX11_fill 86 = .ok (.ireturn, 1) := by decide +kernel
theorem dX11_nothing_0 : decode cX11_nothing 0 = .ok (.iload_n 1, 1) := by decide +kernel
theorem dX11_nothing_1 : decode cX11_nothing 1 = .ok (.ifCond .lt 9, 3) := by decide +kernel
theorem dX11_nothing_4 : decode cX11_nothing 4 = .ok (.iload_n 1, 1) := by decide +kernel
theorem dX11_nothing_5 : decode cX11_nothing 5 = .ok (.bipush 99, 2) := by decide +kernel
theorem dX11_nothing_7 : decode cX11_nothing 7 = .ok (.if_icmp .le 5, 3) := by decide +kernel
theorem dX11_nothing_10 : decode cX11_nothing 10 = .ok (.iconst (-1), 1) := by decide +kernel
theorem dX11_nothing_11 : decode cX11_nothing 11 = .ok (.ireturn, 1) := by decide +kernel
theorem dX11_nothing_12 : decode cX11_nothing 12 = .ok (.iconst 0, 1) := by decide +kernel
theorem dX11_nothing_13 : decode cX11_nothing 13 = .ok (.istore_n 2, 1) := by decide +kernel
theorem dX11_nothing_14 : decode cX11_nothing 14 = .ok (.aload_n 0, 1) := by decide +kernel
theorem dX11_nothing_15 : decode cX11_nothing 15 = .ok (.getfield 34, 3) := by decide +kernel
theorem dX11_nothing_18 : decode cX11_nothing 18 = .ok (.getfield 243, 3) := by decide +kernel
theorem dX11_nothing_21 : decode cX11_nothing 21 = .ok (.istore_n 3, 1) := by decide +kernel
theorem dX11_nothing_22 : decode cX11_nothing 22 = .ok (.iconst 0, 1) := by decide +kernel
theorem dX11_nothing_23 : decode cX11_nothing 23 = .ok (.istore 4, 2) := by decide +kernel
theorem dX11_nothing_25 : decode cX11_nothing 25 = .ok (.iload 4, 2) := by decide +kernel
theorem dX11_nothing_27 : decode cX11_nothing 27 = .ok (.aload_n 0, 1) := by decide +kernel
theorem dX11_nothing_28 : decode cX11_nothing 28 = .ok (.getfield 34, 3) := by decide +kernel
theorem dX11_nothing_31 : decode cX11_nothing 31 = .ok (.getfield 243, 3) := by decide +kernel
theorem dX11_nothing_34 : decode cX11_nothing 34 = .ok (.if_icmp .gt 29, 3) := by decide +kernel
theorem dX11_nothing_37 : decode cX11_nothing 37 = .ok (.aload_n 0, 1) := by decide +kernel
theorem dX11_nothing_38 : decode cX11_nothing 38 = .ok (.iload 4, 2) := by decide +kernel
theorem dX11_nothing_40 : decode cX11_nothing 40 = .ok (.iload_n 1, 1) := by decide +kernel
theorem dX11_nothing_41 : decode cX11_nothing 41 = .ok (.invokevirtual 349, 3) := by decide +kernel
theorem dX11_nothing_44 : decode cX11_nothing 44 = .ok (.ifCond .eq 13, 3) := by decide +kernel
theorem dX11_nothing_47 : decode cX11_nothing 47 = .ok (.iinc 2 1, 3) := by decide +kernel
theorem dX11_nothing_50 : decode cX11_nothing 50 = .ok (.iload_n 3, 1) := by decide +kernel
theorem dX11_nothing_51 : decode cX11_nothing 51 = .ok (.iload 4, 2) := by decide +kernel
theorem dX11_nothing_53 : decode cX11_nothing 53 = .ok (.iconst (-1), 1) := by decide +kernel
theorem dX11_nothing_54 : decode cX11_nothing 54 = .ok (.ixor, 1) := by decide +kernel
theorem dX11_nothing_55 : decode cX11_nothing 55 = .ok (.iand, 1) := by decide +kernel
theorem dX11_nothing_56 : decode cX11_nothing 56 = .ok (.istore_n 3, 1) := by decide +kernel
theorem dX11_nothing_57 : decode cX11_nothing 57 = .ok (.iinc 4 1, 3) := by decide +kernel
theorem dX11_nothing_60 : decode cX11_nothing 60 = .ok (.goto (-35), 3) := by decide +kernel
theorem dX11_nothing_63 : decode cX11_nothing 63 = .ok (.aload_n 0, 1) := by decide +kernel
theorem dX11_nothing_64 : decode cX11_nothing 64 = .ok (.iload_n 2, 1) := by decide +kernel
theorem dX11_nothing_65 : decode cX11_nothing 65 = .ok (.ifCond .ne 7, 3) := by decide +kernel
theorem dX11_nothing_68 : decode cX11_nothing 68 = .ok (.iconst 0, 1) := by decide +kernel
theorem dX11_nothing_69 : decode cX11_nothing 69 = .ok (.goto 4, 3) := by decide +kernel
theorem dX11_nothing_72 : decode cX11_nothing 72 = .ok (.iload_n 3, 1) := by decide +kernel
theorem dX11_nothing_73 : decode cX11_nothing 73 = .ok (.iload_n 2, 1) := by decide +kernel
theorem dX11_nothing_74 : decode cX11_nothing 74 = .ok (.invokevirtual 135, 3) := by decide +kernel
theorem dX11_nothing_77 : decode cX11_nothing 77 = .ok (.ireturn, 1) := by decide +kernel
theorem dX11_gaveNone_0 : decode cX11_gaveNone 0 = .ok (.aload_n 0, 1) := by decide +kernel
theorem dX11_gaveNone_1 : decode cX11_gaveNone 1 = .ok (.getfield 24, 3) := by decide +kernel
theorem dX11_gaveNone_4 : decode cX11_gaveNone 4 = .ok (.iload_n 1, 1) := by decide +kernel
theorem dX11_gaveNone_5 : decode cX11_gaveNone 5 = .ok (.invokevirtual 173, 3) := by decide +kernel
theorem dX11_gaveNone_8 : decode cX11_gaveNone 8 = .ok (.ifCond .eq 13, 3) := by decide +kernel
theorem dX11_gaveNone_11 : decode cX11_gaveNone 11 = .ok (.iload_n 2, 1) := by decide +kernel
theorem dX11_gaveNone_12 : decode cX11_gaveNone 12 = .ok (.ifCond .lt 9, 3) := by decide +kernel
theorem dX11_gaveNone_15 : decode cX11_gaveNone 15 = .ok (.iload_n 2, 1) := by decide +kernel
theorem dX11_gaveNone_16 : decode cX11_gaveNone 16 = .ok (.bipush 99, 2) := by decide +kernel
theorem dX11_gaveNone_18 : decode cX11_gaveNone 18 = .ok (.if_icmp .le 5, 3) := by decide +kernel
theorem dX11_gaveNone_21 : decode cX11_gaveNone 21 = .ok (.iconst (-1), 1) := by decide +kernel
theorem dX11_gaveNone_22 : decode cX11_gaveNone 22 = .ok (.ireturn, 1) := by decide +kernel
theorem dX11_gaveNone_23 : decode cX11_gaveNone 23 = .ok (.aload_n 0, 1) := by decide +kernel
theorem dX11_gaveNone_24 : decode cX11_gaveNone 24 = .ok (.getfield 34, 3) := by decide +kernel
theorem dX11_gaveNone_27 : decode cX11_gaveNone 27 = .ok (.iload_n 1, 1) := by decide +kernel
theorem dX11_gaveNone_28 : decode cX11_gaveNone 28 = .ok (.invokevirtual 326, 3) := by decide +kernel
theorem dX11_gaveNone_31 : decode cX11_gaveNone 31 = .ok (.ifCond .ne 6, 3) := by decide +kernel
theorem dX11_gaveNone_34 : decode cX11_gaveNone 34 = .ok (.bipush (-4), 2) := by decide +kernel
theorem dX11_gaveNone_36 : decode cX11_gaveNone 36 = .ok (.ireturn, 1) := by decide +kernel
theorem dX11_gaveNone_37 : decode cX11_gaveNone 37 = .ok (.iconst 0, 1) := by decide +kernel
theorem dX11_gaveNone_38 : decode cX11_gaveNone 38 = .ok (.istore_n 3, 1) := by decide +kernel
theorem dX11_gaveNone_39 : decode cX11_gaveNone 39 = .ok (.iconst 0, 1) := by decide +kernel
theorem dX11_gaveNone_40 : decode cX11_gaveNone 40 = .ok (.istore 4, 2) := by decide +kernel
theorem dX11_gaveNone_42 : decode cX11_gaveNone 42 = .ok (.iconst 0, 1) := by decide +kernel
theorem dX11_gaveNone_43 : decode cX11_gaveNone 43 = .ok (.istore 5, 2) := by decide +kernel
theorem dX11_gaveNone_45 : decode cX11_gaveNone 45 = .ok (.iload 5, 2) := by decide +kernel
theorem dX11_gaveNone_47 : decode cX11_gaveNone 47 = .ok (.aload_n 0, 1) := by decide +kernel
theorem dX11_gaveNone_48 : decode cX11_gaveNone 48 = .ok (.getfield 34, 3) := by decide +kernel
theorem dX11_gaveNone_51 : decode cX11_gaveNone 51 = .ok (.getfield 243, 3) := by decide +kernel
theorem dX11_gaveNone_54 : decode cX11_gaveNone 54 = .ok (.if_icmp .gt 35, 3) := by decide +kernel
theorem dX11_gaveNone_57 : decode cX11_gaveNone 57 = .ok (.aload_n 0, 1) := by decide +kernel
theorem dX11_gaveNone_58 : decode cX11_gaveNone 58 = .ok (.iload 5, 2) := by decide +kernel
theorem dX11_gaveNone_60 : decode cX11_gaveNone 60 = .ok (.iload_n 2, 1) := by decide +kernel
theorem dX11_gaveNone_61 : decode cX11_gaveNone 61 = .ok (.invokevirtual 349, 3) := by decide +kernel
theorem dX11_gaveNone_64 : decode cX11_gaveNone 64 = .ok (.ifCond .eq 19, 3) := by decide +kernel
theorem dX11_gaveNone_67 : decode cX11_gaveNone 67 = .ok (.iinc 3 1, 3) := by decide +kernel
theorem dX11_gaveNone_70 : decode cX11_gaveNone 70 = .ok (.iload 4, 2) := by decide +kernel
theorem dX11_gaveNone_72 : decode cX11_gaveNone 72 = .ok (.iconst 1, 1) := by decide +kernel
theorem dX11_gaveNone_73 : decode cX11_gaveNone 73 = .ok (.iload 5, 2) := by decide +kernel
theorem dX11_gaveNone_75 : decode cX11_gaveNone 75 = .ok (.iload_n 1, 1) := by decide +kernel
theorem dX11_gaveNone_76 : decode cX11_gaveNone 76 = .ok (.ishr, 1) := by decide +kernel
theorem dX11_gaveNone_77 : decode cX11_gaveNone 77 = .ok (.iconst 1, 1) := by decide +kernel
theorem dX11_gaveNone_78 : decode cX11_gaveNone 78 = .ok (.iand, 1) := by decide +kernel
theorem dX11_gaveNone_79 : decode cX11_gaveNone 79 = .ok (.isub, 1) := by decide +kernel
theorem dX11_gaveNone_80 : decode cX11_gaveNone 80 = .ok (.iadd, 1) := by decide +kernel
theorem dX11_gaveNone_81 : decode cX11_gaveNone 81 = .ok (.istore 4, 2) := by decide +kernel
theorem dX11_gaveNone_83 : decode cX11_gaveNone 83 = .ok (.iinc 5 1, 3) := by decide +kernel
theorem dX11_gaveNone_86 : decode cX11_gaveNone 86 = .ok (.goto (-41), 3) := by decide +kernel
theorem dX11_gaveNone_89 : decode cX11_gaveNone 89 = .ok (.iload_n 3, 1) := by decide +kernel
theorem dX11_gaveNone_90 : decode cX11_gaveNone 90 = .ok (.ifCond .ne 9, 3) := by decide +kernel
theorem dX11_gaveNone_93 : decode cX11_gaveNone 93 = .ok (.aload_n 0, 1) := by decide +kernel
theorem dX11_gaveNone_94 : decode cX11_gaveNone 94 = .ok (.iconst 4, 1) := by decide +kernel
theorem dX11_gaveNone_95 : decode cX11_gaveNone 95 = .ok (.invokevirtual 116, 3) := by decide +kernel
theorem dX11_gaveNone_98 : decode cX11_gaveNone 98 = .ok (.ireturn, 1) := by decide +kernel
theorem dX11_gaveNone_99 : decode cX11_gaveNone 99 = .ok (.aload_n 0, 1) := by decide +kernel
theorem dX11_gaveNone_100 : decode cX11_gaveNone 100 = .ok (.iload 4, 2) := by decide +kernel
theorem dX11_gaveNone_102 : decode cX11_gaveNone 102 = .ok (.i2l, 1) := by decide +kernel
theorem dX11_gaveNone_103 : decode cX11_gaveNone 103 = .ok (.iload_n 3, 1) := by decide +kernel
theorem dX11_gaveNone_104 : decode cX11_gaveNone 104 = .ok (.i2l, 1) := by decide +kernel
theorem dX11_gaveNone_105 : decode cX11_gaveNone 105 = .ok (.iload 4, 2) := by decide +kernel
theorem dX11_gaveNone_107 : decode cX11_gaveNone 107 = .ok (.invokevirtual 276, 3) := by decide +kernel
theorem dX11_gaveNone_110 : decode cX11_gaveNone 110 = .ok (.ireturn, 1) := by decide +kernel
theorem dX11_fits_0 : decode cX11_fits 0 = .ok (.iload_n 1, 1) := by decide +kernel
theorem dX11_fits_1 : decode cX11_fits 1 = .ok (.iload_n 2, 1) := by decide +kernel
theorem dX11_fits_2 : decode cX11_fits 2 = .ok (.invokestatic 352, 3) := by decide +kernel
theorem dX11_fits_5 : decode cX11_fits 5 = .ok (.ifCond .ne 5, 3) := by decide +kernel
theorem dX11_fits_8 : decode cX11_fits 8 = .ok (.iconst (-1), 1) := by decide +kernel
theorem dX11_fits_9 : decode cX11_fits 9 = .ok (.ireturn, 1) := by decide +kernel
theorem dX11_fits_10 : decode cX11_fits 10 = .ok (.aload_n 0, 1) := by decide +kernel
theorem dX11_fits_11 : decode cX11_fits 11 = .ok (.aload_n 0, 1) := by decide +kernel
theorem dX11_fits_12 : decode cX11_fits 12 = .ok (.getfield 14, 3) := by decide +kernel
theorem dX11_fits_15 : decode cX11_fits 15 = .ok (.iload_n 3, 1) := by decide +kernel
theorem dX11_fits_16 : decode cX11_fits 16 = .ok (.invokevirtual 138, 3) := by decide +kernel
theorem dX11_fits_19 : decode cX11_fits 19 = .ok (.istore 4, 2) := by decide +kernel
theorem dX11_fits_21 : decode cX11_fits 21 = .ok (.iload 4, 2) := by decide +kernel
theorem dX11_fits_23 : decode cX11_fits 23 = .ok (.ifCond .eq 6, 3) := by decide +kernel
theorem dX11_fits_26 : decode cX11_fits 26 = .ok (.iload 4, 2) := by decide +kernel
theorem dX11_fits_28 : decode cX11_fits 28 = .ok (.ireturn, 1) := by decide +kernel
theorem dX11_fits_29 : decode cX11_fits 29 = .ok (.aload_n 0, 1) := by decide +kernel
theorem dX11_fits_30 : decode cX11_fits 30 = .ok (.getfield 14, 3) := by decide +kernel
theorem dX11_fits_33 : decode cX11_fits 33 = .ok (.iload_n 3, 1) := by decide +kernel
theorem dX11_fits_34 : decode cX11_fits 34 = .ok (.iconst 1, 1) := by decide +kernel
theorem dX11_fits_35 : decode cX11_fits 35 = .ok (.bipush 40, 2) := by decide +kernel
theorem dX11_fits_37 : decode cX11_fits 37 = .ok (.invokevirtual 338, 3) := by decide +kernel
theorem dX11_fits_40 : decode cX11_fits 40 = .ok (.ifCond .ne 9, 3) := by decide +kernel
theorem dX11_fits_43 : decode cX11_fits 43 = .ok (.aload_n 0, 1) := by decide +kernel
theorem dX11_fits_44 : decode cX11_fits 44 = .ok (.iconst 3, 1) := by decide +kernel
theorem dX11_fits_45 : decode cX11_fits 45 = .ok (.invokevirtual 116, 3) := by decide +kernel
theorem dX11_fits_48 : decode cX11_fits 48 = .ok (.ireturn, 1) := by decide +kernel
theorem dX11_fits_49 : decode cX11_fits 49 = .ok (.iconst 0, 1) := by decide +kernel
theorem dX11_fits_50 : decode cX11_fits 50 = .ok (.istore 5, 2) := by decide +kernel
theorem dX11_fits_52 : decode cX11_fits 52 = .ok (.iconst 0, 1) := by decide +kernel
theorem dX11_fits_53 : decode cX11_fits 53 = .ok (.istore 6, 2) := by decide +kernel
theorem dX11_fits_55 : decode cX11_fits 55 = .ok (.iconst 0, 1) := by decide +kernel
theorem dX11_fits_56 : decode cX11_fits 56 = .ok (.istore 7, 2) := by decide +kernel
theorem dX11_fits_58 : decode cX11_fits 58 = .ok (.iload 7, 2) := by decide +kernel
theorem dX11_fits_60 : decode cX11_fits 60 = .ok (.aload_n 0, 1) := by decide +kernel
theorem dX11_fits_61 : decode cX11_fits 61 = .ok (.getfield 14, 3) := by decide +kernel
theorem dX11_fits_64 : decode cX11_fits 64 = .ok (.iload_n 3, 1) := by decide +kernel
theorem dX11_fits_65 : decode cX11_fits 65 = .ok (.invokevirtual 157, 3) := by decide +kernel
theorem dX11_fits_68 : decode cX11_fits 68 = .ok (.if_icmp .ge 54, 3) := by decide +kernel
theorem dX11_fits_71 : decode cX11_fits 71 = .ok (.aload_n 0, 1) := by decide +kernel
theorem dX11_fits_72 : decode cX11_fits 72 = .ok (.getfield 90, 3) := by decide +kernel
theorem dX11_fits_75 : decode cX11_fits 75 = .ok (.iload 5, 2) := by decide +kernel
theorem dX11_fits_77 : decode cX11_fits 77 = .ok (.aload_n 0, 1) := by decide +kernel
theorem dX11_fits_78 : decode cX11_fits 78 = .ok (.getfield 14, 3) := by decide +kernel
theorem dX11_fits_81 : decode cX11_fits 81 = .ok (.iload_n 3, 1) := by decide +kernel
theorem dX11_fits_82 : decode cX11_fits 82 = .ok (.iload 7, 2) := by decide +kernel
theorem dX11_fits_84 : decode cX11_fits 84 = .ok (.invokevirtual 128, 3) := by decide +kernel
theorem dX11_fits_87 : decode cX11_fits 87 = .ok (.iload_n 1, 1) := by decide +kernel
theorem dX11_fits_88 : decode cX11_fits 88 = .ok (.invokevirtual 355, 3) := by decide +kernel
theorem dX11_fits_91 : decode cX11_fits 91 = .ok (.istore 8, 2) := by decide +kernel
theorem dX11_fits_93 : decode cX11_fits 93 = .ok (.aload_n 0, 1) := by decide +kernel
theorem dX11_fits_94 : decode cX11_fits 94 = .ok (.getfield 90, 3) := by decide +kernel
theorem dX11_fits_97 : decode cX11_fits 97 = .ok (.iload 8, 2) := by decide +kernel
theorem dX11_fits_99 : decode cX11_fits 99 = .ok (.invokevirtual 359, 3) := by decide +kernel
theorem dX11_fits_102 : decode cX11_fits 102 = .ok (.iload_n 2, 1) := by decide +kernel
theorem dX11_fits_103 : decode cX11_fits 103 = .ok (.if_icmp .le 6, 3) := by decide +kernel
theorem dX11_fits_106 : decode cX11_fits 106 = .ok (.goto 16, 3) := by decide +kernel
theorem dX11_fits_109 : decode cX11_fits 109 = .ok (.iload 8, 2) := by decide +kernel
theorem dX11_fits_111 : decode cX11_fits 111 = .ok (.istore 5, 2) := by decide +kernel
theorem dX11_fits_113 : decode cX11_fits 113 = .ok (.iinc 6 1, 3) := by decide +kernel
theorem dX11_fits_116 : decode cX11_fits 116 = .ok (.iinc 7 1, 3) := by decide +kernel
theorem dX11_fits_119 : decode cX11_fits 119 = .ok (.goto (-61), 3) := by decide +kernel
theorem dX11_fits_122 : decode cX11_fits 122 = .ok (.aload_n 0, 1) := by decide +kernel
theorem dX11_fits_123 : decode cX11_fits 123 = .ok (.aload_n 0, 1) := by decide +kernel
theorem dX11_fits_124 : decode cX11_fits 124 = .ok (.getfield 90, 3) := by decide +kernel
theorem dX11_fits_127 : decode cX11_fits 127 = .ok (.iload 5, 2) := by decide +kernel
theorem dX11_fits_129 : decode cX11_fits 129 = .ok (.invokevirtual 359, 3) := by decide +kernel
theorem dX11_fits_132 : decode cX11_fits 132 = .ok (.iload 6, 2) := by decide +kernel
theorem dX11_fits_134 : decode cX11_fits 134 = .ok (.invokevirtual 135, 3) := by decide +kernel
theorem dX11_fits_137 : decode cX11_fits 137 = .ok (.ireturn, 1) := by decide +kernel
theorem dX11_room_0 : decode cX11_room 0 = .ok (.iload_n 1, 1) := by decide +kernel
theorem dX11_room_1 : decode cX11_room 1 = .ok (.iload_n 2, 1) := by decide +kernel
theorem dX11_room_2 : decode cX11_room 2 = .ok (.invokestatic 352, 3) := by decide +kernel
theorem dX11_room_5 : decode cX11_room 5 = .ok (.ifCond .ne 5, 3) := by decide +kernel
theorem dX11_room_8 : decode cX11_room 8 = .ok (.iconst (-1), 1) := by decide +kernel
theorem dX11_room_9 : decode cX11_room 9 = .ok (.ireturn, 1) := by decide +kernel
theorem dX11_room_10 : decode cX11_room 10 = .ok (.aload_n 0, 1) := by decide +kernel
theorem dX11_room_11 : decode cX11_room 11 = .ok (.aload_n 0, 1) := by decide +kernel
theorem dX11_room_12 : decode cX11_room 12 = .ok (.getfield 14, 3) := by decide +kernel
theorem dX11_room_15 : decode cX11_room 15 = .ok (.iload_n 3, 1) := by decide +kernel
theorem dX11_room_16 : decode cX11_room 16 = .ok (.invokevirtual 138, 3) := by decide +kernel
theorem dX11_room_19 : decode cX11_room 19 = .ok (.istore 4, 2) := by decide +kernel
theorem dX11_room_21 : decode cX11_room 21 = .ok (.iload 4, 2) := by decide +kernel
theorem dX11_room_23 : decode cX11_room 23 = .ok (.ifCond .eq 6, 3) := by decide +kernel
theorem dX11_room_26 : decode cX11_room 26 = .ok (.iload 4, 2) := by decide +kernel
theorem dX11_room_28 : decode cX11_room 28 = .ok (.ireturn, 1) := by decide +kernel
theorem dX11_room_29 : decode cX11_room 29 = .ok (.aload_n 0, 1) := by decide +kernel
theorem dX11_room_30 : decode cX11_room 30 = .ok (.getfield 14, 3) := by decide +kernel
theorem dX11_room_33 : decode cX11_room 33 = .ok (.iload_n 3, 1) := by decide +kernel
theorem dX11_room_34 : decode cX11_room 34 = .ok (.invokevirtual 157, 3) := by decide +kernel
theorem dX11_room_37 : decode cX11_room 37 = .ok (.bipush 8, 2) := by decide +kernel
theorem dX11_room_39 : decode cX11_room 39 = .ok (.if_icmp .le 9, 3) := by decide +kernel
theorem dX11_room_42 : decode cX11_room 42 = .ok (.aload_n 0, 1) := by decide +kernel
theorem dX11_room_43 : decode cX11_room 43 = .ok (.iconst 5, 1) := by decide +kernel
theorem dX11_room_44 : decode cX11_room 44 = .ok (.invokevirtual 116, 3) := by decide +kernel
theorem dX11_room_47 : decode cX11_room 47 = .ok (.ireturn, 1) := by decide +kernel
theorem dX11_room_48 : decode cX11_room 48 = .ok (.aload_n 0, 1) := by decide +kernel
theorem dX11_room_49 : decode cX11_room 49 = .ok (.getfield 14, 3) := by decide +kernel
theorem dX11_room_52 : decode cX11_room 52 = .ok (.iload_n 3, 1) := by decide +kernel
theorem dX11_room_53 : decode cX11_room 53 = .ok (.iconst 1, 1) := by decide +kernel
theorem dX11_room_54 : decode cX11_room 54 = .ok (.bipush 40, 2) := by decide +kernel
theorem dX11_room_56 : decode cX11_room 56 = .ok (.invokevirtual 338, 3) := by decide +kernel
theorem dX11_room_59 : decode cX11_room 59 = .ok (.ifCond .ne 9, 3) := by decide +kernel
theorem dX11_room_62 : decode cX11_room 62 = .ok (.aload_n 0, 1) := by decide +kernel
theorem dX11_room_63 : decode cX11_room 63 = .ok (.iconst 3, 1) := by decide +kernel
theorem dX11_room_64 : decode cX11_room 64 = .ok (.invokevirtual 116, 3) := by decide +kernel
theorem dX11_room_67 : decode cX11_room 67 = .ok (.ireturn, 1) := by decide +kernel
theorem dX11_room_68 : decode cX11_room 68 = .ok (.aload_n 0, 1) := by decide +kernel
theorem dX11_room_69 : decode cX11_room 69 = .ok (.getfield 90, 3) := by decide +kernel
theorem dX11_room_72 : decode cX11_room 72 = .ok (.aload_n 0, 1) := by decide +kernel
theorem dX11_room_73 : decode cX11_room 73 = .ok (.getfield 14, 3) := by decide +kernel
theorem dX11_room_76 : decode cX11_room 76 = .ok (.iload_n 3, 1) := by decide +kernel
theorem dX11_room_77 : decode cX11_room 77 = .ok (.iload_n 1, 1) := by decide +kernel
theorem dX11_room_78 : decode cX11_room 78 = .ok (.iload_n 2, 1) := by decide +kernel
theorem dX11_room_79 : decode cX11_room 79 = .ok (.invokevirtual 362, 3) := by decide +kernel
theorem dX11_room_82 : decode cX11_room 82 = .ok (.istore 5, 2) := by decide +kernel
theorem dX11_room_84 : decode cX11_room 84 = .ok (.aload_n 0, 1) := by decide +kernel
theorem dX11_room_85 : decode cX11_room 85 = .ok (.iload 5, 2) := by decide +kernel
theorem dX11_room_87 : decode cX11_room 87 = .ok (.iload 5, 2) := by decide +kernel
theorem dX11_room_89 : decode cX11_room 89 = .ok (.invokestatic 290, 3) := by decide +kernel
theorem dX11_room_92 : decode cX11_room 92 = .ok (.invokevirtual 135, 3) := by decide +kernel
theorem dX11_room_95 : decode cX11_room 95 = .ok (.ireturn, 1) := by decide +kernel
theorem dX11_year_0 : decode cX11_year 0 = .ok (.aload_n 0, 1) := by decide +kernel
theorem dX11_year_1 : decode cX11_year 1 = .ok (.getfield 24, 3) := by decide +kernel
theorem dX11_year_4 : decode cX11_year 4 = .ok (.iload_n 1, 1) := by decide +kernel
theorem dX11_year_5 : decode cX11_year 5 = .ok (.invokevirtual 173, 3) := by decide +kernel
theorem dX11_year_8 : decode cX11_year 8 = .ok (.ifCond .ne 5, 3) := by decide +kernel
theorem dX11_year_11 : decode cX11_year 11 = .ok (.iconst (-1), 1) := by decide +kernel
theorem dX11_year_12 : decode cX11_year 12 = .ok (.ireturn, 1) := by decide +kernel
theorem dX11_year_13 : decode cX11_year 13 = .ok (.aload_n 0, 1) := by decide +kernel
theorem dX11_year_14 : decode cX11_year 14 = .ok (.getfield 63, 3) := by decide +kernel
theorem dX11_year_17 : decode cX11_year 17 = .ok (.aload_n 0, 1) := by decide +kernel
theorem dX11_year_18 : decode cX11_year 18 = .ok (.getfield 34, 3) := by decide +kernel
theorem dX11_year_21 : decode cX11_year 21 = .ok (.invokevirtual 369, 3) := by decide +kernel
theorem dX11_year_24 : decode cX11_year 24 = .ok (.aload_n 0, 1) := by decide +kernel
theorem dX11_year_25 : decode cX11_year 25 = .ok (.getfield 45, 3) := by decide +kernel
theorem dX11_year_28 : decode cX11_year 28 = .ok (.aload_n 0, 1) := by decide +kernel
theorem dX11_year_29 : decode cX11_year 29 = .ok (.getfield 24, 3) := by decide +kernel
theorem dX11_year_32 : decode cX11_year 32 = .ok (.aload_n 0, 1) := by decide +kernel
theorem dX11_year_33 : decode cX11_year 33 = .ok (.getfield 63, 3) := by decide +kernel
theorem dX11_year_36 : decode cX11_year 36 = .ok (.iload_n 1, 1) := by decide +kernel
theorem dX11_year_37 : decode cX11_year 37 = .ok (.invokevirtual 372, 3) := by decide +kernel
theorem dX11_year_40 : decode cX11_year 40 = .ok (.ireturn, 1) := by decide +kernel
theorem dX11_balance_0 : decode cX11_balance 0 = .ok (.aload_n 0, 1) := by decide +kernel
theorem dX11_balance_1 : decode cX11_balance 1 = .ok (.getfield 24, 3) := by decide +kernel
theorem dX11_balance_4 : decode cX11_balance 4 = .ok (.iload_n 1, 1) := by decide +kernel
theorem dX11_balance_5 : decode cX11_balance 5 = .ok (.invokevirtual 173, 3) := by decide +kernel
theorem dX11_balance_8 : decode cX11_balance 8 = .ok (.ifCond .ne 5, 3) := by decide +kernel
theorem dX11_balance_11 : decode cX11_balance 11 = .ok (.iconst (-1), 1) := by decide +kernel
theorem dX11_balance_12 : decode cX11_balance 12 = .ok (.ireturn, 1) := by decide +kernel
theorem dX11_balance_13 : decode cX11_balance 13 = .ok (.aload_n 0, 1) := by decide +kernel
theorem dX11_balance_14 : decode cX11_balance 14 = .ok (.aload_n 0, 1) := by decide +kernel
theorem dX11_balance_15 : decode cX11_balance 15 = .ok (.getfield 45, 3) := by decide +kernel
theorem dX11_balance_18 : decode cX11_balance 18 = .ok (.iload_n 1, 1) := by decide +kernel
theorem dX11_balance_19 : decode cX11_balance 19 = .ok (.invokevirtual 375, 3) := by decide +kernel
theorem dX11_balance_22 : decode cX11_balance 22 = .ok (.iconst 1, 1) := by decide +kernel
theorem dX11_balance_23 : decode cX11_balance 23 = .ok (.invokevirtual 135, 3) := by decide +kernel
theorem dX11_balance_26 : decode cX11_balance 26 = .ok (.ireturn, 1) := by decide +kernel
theorem dX11_forget_0 : decode cX11_forget 0 = .ok (.iload_n 1, 1) := by decide +kernel
theorem dX11_forget_1 : decode cX11_forget 1 = .ok (.ifCond .lt 14, 3) := by decide +kernel
theorem dX11_forget_4 : decode cX11_forget 4 = .ok (.iload_n 1, 1) := by decide +kernel
theorem dX11_forget_5 : decode cX11_forget 5 = .ok (.aload_n 0, 1) := by decide +kernel
theorem dX11_forget_6 : decode cX11_forget 6 = .ok (.getfield 45, 3) := by decide +kernel
theorem dX11_forget_9 : decode cX11_forget 9 = .ok (.getfield 166, 3) := by decide +kernel
theorem dX11_forget_12 : decode cX11_forget 12 = .ok (.if_icmp .le 5, 3) := by decide +kernel
theorem dX11_forget_15 : decode cX11_forget 15 = .ok (.iconst (-1), 1) := by decide +kernel
theorem dX11_forget_16 : decode cX11_forget 16 = .ok (.ireturn, 1) := by decide +kernel
theorem dX11_forget_17 : decode cX11_forget 17 = .ok (.aload_n 0, 1) := by decide +kernel
theorem dX11_forget_18 : decode cX11_forget 18 = .ok (.getfield 45, 3) := by decide +kernel
theorem dX11_forget_21 : decode cX11_forget 21 = .ok (.getfield 166, 3) := by decide +kernel
theorem dX11_forget_24 : decode cX11_forget 24 = .ok (.iload_n 1, 1) := by decide +kernel
theorem dX11_forget_25 : decode cX11_forget 25 = .ok (.isub, 1) := by decide +kernel
theorem dX11_forget_26 : decode cX11_forget 26 = .ok (.istore_n 2, 1) := by decide +kernel
theorem dX11_forget_27 : decode cX11_forget 27 = .ok (.aload_n 0, 1) := by decide +kernel
theorem dX11_forget_28 : decode cX11_forget 28 = .ok (.getfield 45, 3) := by decide +kernel
theorem dX11_forget_31 : decode cX11_forget 31 = .ok (.iload_n 1, 1) := by decide +kernel
theorem dX11_forget_32 : decode cX11_forget 32 = .ok (.putfield 166, 3) := by decide +kernel
theorem dX11_forget_35 : decode cX11_forget 35 = .ok (.iload_n 2, 1) := by decide +kernel
theorem dX11_forget_36 : decode cX11_forget 36 = .ok (.ireturn, 1) := by decide +kernel
theorem dX11_even_0 : decode cX11_even 0 = .ok (.aload_n 0, 1) := by decide +kernel
theorem dX11_even_1 : decode cX11_even 1 = .ok (.getfield 14, 3) := by decide +kernel
theorem dX11_even_4 : decode cX11_even 4 = .ok (.iload_n 1, 1) := by decide +kernel
theorem dX11_even_5 : decode cX11_even 5 = .ok (.invokevirtual 112, 3) := by decide +kernel
theorem dX11_even_8 : decode cX11_even 8 = .ok (.ifCond .ne 5, 3) := by decide +kernel
theorem dX11_even_11 : decode cX11_even 11 = .ok (.iconst (-1), 1) := by decide +kernel
theorem dX11_even_12 : decode cX11_even 12 = .ok (.ireturn, 1) := by decide +kernel
theorem dX11_even_13 : decode cX11_even 13 = .ok (.aload_n 0, 1) := by decide +kernel
theorem dX11_even_14 : decode cX11_even 14 = .ok (.getfield 24, 3) := by decide +kernel
theorem dX11_even_17 : decode cX11_even 17 = .ok (.getfield 172, 3) := by decide +kernel
theorem dX11_even_20 : decode cX11_even 20 = .ok (.ifCond .ne 6, 3) := by decide +kernel
theorem dX11_even_23 : decode cX11_even 23 = .ok (.bipush (-4), 2) := by decide +kernel
theorem dX11_even_25 : decode cX11_even 25 = .ok (.ireturn, 1) := by decide +kernel
theorem dX11_even_26 : decode cX11_even 26 = .ok (.aload_n 0, 1) := by decide +kernel
theorem dX11_even_27 : decode cX11_even 27 = .ok (.getfield 14, 3) := by decide +kernel
theorem dX11_even_30 : decode cX11_even 30 = .ok (.iload_n 1, 1) := by decide +kernel
theorem dX11_even_31 : decode cX11_even 31 = .ok (.invokevirtual 146, 3) := by decide +kernel
theorem dX11_even_34 : decode cX11_even 34 = .ok (.ifCond .ne 9, 3) := by decide +kernel
theorem dX11_even_37 : decode cX11_even 37 = .ok (.aload_n 0, 1) := by decide +kernel
theorem dX11_even_38 : decode cX11_even 38 = .ok (.iconst 1, 1) := by decide +kernel
theorem dX11_even_39 : decode cX11_even 39 = .ok (.invokevirtual 116, 3) := by decide +kernel
theorem dX11_even_42 : decode cX11_even 42 = .ok (.ireturn, 1) := by decide +kernel
theorem dX11_even_43 : decode cX11_even 43 = .ok (.aload_n 0, 1) := by decide +kernel
theorem dX11_even_44 : decode cX11_even 44 = .ok (.getfield 14, 3) := by decide +kernel
theorem dX11_even_47 : decode cX11_even 47 = .ok (.iload_n 1, 1) := by decide +kernel
theorem dX11_even_48 : decode cX11_even 48 = .ok (.invokevirtual 157, 3) := by decide +kernel
theorem dX11_even_51 : decode cX11_even 51 = .ok (.bipush 20, 2) := by decide +kernel
theorem dX11_even_53 : decode cX11_even 53 = .ok (.if_icmp .le 9, 3) := by decide +kernel
theorem dX11_even_56 : decode cX11_even 56 = .ok (.aload_n 0, 1) := by decide +kernel
theorem dX11_even_57 : decode cX11_even 57 = .ok (.iconst 5, 1) := by decide +kernel
theorem dX11_even_58 : decode cX11_even 58 = .ok (.invokevirtual 116, 3) := by decide +kernel
theorem dX11_even_61 : decode cX11_even 61 = .ok (.ireturn, 1) := by decide +kernel
theorem dX11_even_62 : decode cX11_even 62 = .ok (.aload_n 0, 1) := by decide +kernel
theorem dX11_even_63 : decode cX11_even 63 = .ok (.getfield 14, 3) := by decide +kernel
theorem dX11_even_66 : decode cX11_even 66 = .ok (.iload_n 1, 1) := by decide +kernel
theorem dX11_even_67 : decode cX11_even 67 = .ok (.iconst 0, 1) := by decide +kernel
theorem dX11_even_68 : decode cX11_even 68 = .ok (.aload_n 0, 1) := by decide +kernel
theorem dX11_even_69 : decode cX11_even 69 = .ok (.getfield 24, 3) := by decide +kernel
theorem dX11_even_72 : decode cX11_even 72 = .ok (.getfield 172, 3) := by decide +kernel
theorem dX11_even_75 : decode cX11_even 75 = .ok (.iconst 1, 1) := by decide +kernel
theorem dX11_even_76 : decode cX11_even 76 = .ok (.isub, 1) := by decide +kernel
theorem dX11_even_77 : decode cX11_even 77 = .ok (.invokevirtual 338, 3) := by decide +kernel
theorem dX11_even_80 : decode cX11_even 80 = .ok (.ifCond .ne 9, 3) := by decide +kernel
theorem dX11_even_83 : decode cX11_even 83 = .ok (.aload_n 0, 1) := by decide +kernel
theorem dX11_even_84 : decode cX11_even 84 = .ok (.iconst 3, 1) := by decide +kernel
theorem dX11_even_85 : decode cX11_even 85 = .ok (.invokevirtual 116, 3) := by decide +kernel
theorem dX11_even_88 : decode cX11_even 88 = .ok (.ireturn, 1) := by decide +kernel
theorem dX11_even_89 : decode cX11_even 89 = .ok (.aload_n 0, 1) := by decide +kernel
theorem dX11_even_90 : decode cX11_even 90 = .ok (.getfield 63, 3) := by decide +kernel
theorem dX11_even_93 : decode cX11_even 93 = .ok (.aload_n 0, 1) := by decide +kernel
theorem dX11_even_94 : decode cX11_even 94 = .ok (.getfield 34, 3) := by decide +kernel
theorem dX11_even_97 : decode cX11_even 97 = .ok (.invokevirtual 369, 3) := by decide +kernel
theorem dX11_even_100 : decode cX11_even 100 = .ok (.iconst 0, 1) := by decide +kernel
theorem dX11_even_101 : decode cX11_even 101 = .ok (.istore_n 2, 1) := by decide +kernel
theorem dX11_even_102 : decode cX11_even 102 = .ok (.iconst 0, 1) := by decide +kernel
theorem dX11_even_103 : decode cX11_even 103 = .ok (.istore_n 3, 1) := by decide +kernel
theorem dX11_even_104 : decode cX11_even 104 = .ok (.iconst 0, 1) := by decide +kernel
theorem dX11_even_105 : decode cX11_even 105 = .ok (.istore 4, 2) := by decide +kernel
theorem dX11_even_107 : decode cX11_even 107 = .ok (.iload 4, 2) := by decide +kernel
theorem dX11_even_109 : decode cX11_even 109 = .ok (.iconst 3, 1) := by decide +kernel
theorem dX11_even_110 : decode cX11_even 110 = .ok (.if_icmp .ge 57, 3) := by decide +kernel
theorem dX11_even_113 : decode cX11_even 113 = .ok (.aload_n 0, 1) := by decide +kernel
theorem dX11_even_114 : decode cX11_even 114 = .ok (.getfield 63, 3) := by decide +kernel
theorem dX11_even_117 : decode cX11_even 117 = .ok (.iload 4, 2) := by decide +kernel
theorem dX11_even_119 : decode cX11_even 119 = .ok (.putfield 378, 3) := by decide +kernel
theorem dX11_even_122 : decode cX11_even 122 = .ok (.aload_n 0, 1) := by decide +kernel
theorem dX11_even_123 : decode cX11_even 123 = .ok (.getfield 45, 3) := by decide +kernel
theorem dX11_even_126 : decode cX11_even 126 = .ok (.aload_n 0, 1) := by decide +kernel
theorem dX11_even_127 : decode cX11_even 127 = .ok (.getfield 24, 3) := by decide +kernel
theorem dX11_even_130 : decode cX11_even 130 = .ok (.aload_n 0, 1) := by decide +kernel
theorem dX11_even_131 : decode cX11_even 131 = .ok (.getfield 63, 3) := by decide +kernel
theorem dX11_even_134 : decode cX11_even 134 = .ok (.aload_n 0, 1) := by decide +kernel
theorem dX11_even_135 : decode cX11_even 135 = .ok (.getfield 14, 3) := by decide +kernel
theorem dX11_even_138 : decode cX11_even 138 = .ok (.iload_n 1, 1) := by decide +kernel
theorem dX11_even_139 : decode cX11_even 139 = .ok (.invokevirtual 379, 3) := by decide +kernel
theorem dX11_even_142 : decode cX11_even 142 = .ok (.istore 5, 2) := by decide +kernel
theorem dX11_even_144 : decode cX11_even 144 = .ok (.iload 4, 2) := by decide +kernel
theorem dX11_even_146 : decode cX11_even 146 = .ok (.ifCond .eq 9, 3) := by decide +kernel
theorem dX11_even_149 : decode cX11_even 149 = .ok (.iload 5, 2) := by decide +kernel
theorem dX11_even_151 : decode cX11_even 151 = .ok (.iload_n 3, 1) := by decide +kernel
theorem dX11_even_152 : decode cX11_even 152 = .ok (.if_icmp .ge 9, 3) := by decide +kernel
theorem dX11_even_155 : decode cX11_even 155 = .ok (.iload 4, 2) := by decide +kernel
theorem dX11_even_157 : decode cX11_even 157 = .ok (.istore_n 2, 1) := by decide +kernel
theorem dX11_even_158 : decode cX11_even 158 = .ok (.iload 5, 2) := by decide +kernel
theorem dX11_even_160 : decode cX11_even 160 = .ok (.istore_n 3, 1) := by decide +kernel
theorem dX11_even_161 : decode cX11_even 161 = .ok (.iinc 4 1, 3) := by decide +kernel
theorem dX11_even_164 : decode cX11_even 164 = .ok (.goto (-57), 3) := by decide +kernel
theorem dX11_even_167 : decode cX11_even 167 = .ok (.aload_n 0, 1) := by decide +kernel
theorem dX11_even_168 : decode cX11_even 168 = .ok (.iload_n 3, 1) := by decide +kernel
theorem dX11_even_169 : decode cX11_even 169 = .ok (.iload_n 2, 1) := by decide +kernel
theorem dX11_even_170 : decode cX11_even 170 = .ok (.invokevirtual 135, 3) := by decide +kernel
theorem dX11_even_173 : decode cX11_even 173 = .ok (.ireturn, 1) := by decide +kernel
theorem dX11_asked_0 : decode cX11_asked 0 = .ok (.aload_n 0, 1) := by decide +kernel
theorem dX11_asked_1 : decode cX11_asked 1 = .ok (.getfield 102, 3) := by decide +kernel
theorem dX11_asked_4 : decode cX11_asked 4 = .ok (.ireturn, 1) := by decide +kernel
theorem dX11_upper_0 : decode cX11_upper 0 = .ok (.aload_n 0, 1) := by decide +kernel
theorem dX11_upper_1 : decode cX11_upper 1 = .ok (.getfield 105, 3) := by decide +kernel
theorem dX11_upper_4 : decode cX11_upper 4 = .ok (.lreturn, 1) := by decide +kernel
theorem dX11_lower_0 : decode cX11_lower 0 = .ok (.aload_n 0, 1) := by decide +kernel
theorem dX11_lower_1 : decode cX11_lower 1 = .ok (.getfield 109, 3) := by decide +kernel
theorem dX11_lower_4 : decode cX11_lower 4 = .ok (.lreturn, 1) := by decide +kernel
theorem dX11_count_0 : decode cX11_count 0 = .ok (.iload_n 1, 1) := by decide +kernel
theorem dX11_count_1 : decode cX11_count 1 = .ok (.tableswitch 112 0 7 #[47, 55, 66, 74, 83, 91, 96, 104], 47) := by decide +kernel
theorem dX11_count_48 : decode cX11_count 48 = .ok (.aload_n 0, 1) := by decide +kernel
theorem dX11_count_49 : decode cX11_count 49 = .ok (.getfield 24, 3) := by decide +kernel
theorem dX11_count_52 : decode cX11_count 52 = .ok (.getfield 172, 3) := by decide +kernel
theorem dX11_count_55 : decode cX11_count 55 = .ok (.ireturn, 1) := by decide +kernel
theorem dX11_count_56 : decode cX11_count 56 = .ok (.aload_n 0, 1) := by decide +kernel
theorem dX11_count_57 : decode cX11_count 57 = .ok (.getfield 34, 3) := by decide +kernel
theorem dX11_count_60 : decode cX11_count 60 = .ok (.getfield 243, 3) := by decide +kernel
theorem dX11_count_63 : decode cX11_count 63 = .ok (.invokestatic 290, 3) := by decide +kernel
theorem dX11_count_66 : decode cX11_count 66 = .ok (.ireturn, 1) := by decide +kernel
theorem dX11_count_67 : decode cX11_count 67 = .ok (.aload_n 0, 1) := by decide +kernel
theorem dX11_count_68 : decode cX11_count 68 = .ok (.getfield 34, 3) := by decide +kernel
theorem dX11_count_71 : decode cX11_count 71 = .ok (.getfield 184, 3) := by decide +kernel
theorem dX11_count_74 : decode cX11_count 74 = .ok (.ireturn, 1) := by decide +kernel
theorem dX11_count_75 : decode cX11_count 75 = .ok (.aload_n 0, 1) := by decide +kernel
theorem dX11_count_76 : decode cX11_count 76 = .ok (.getfield 24, 3) := by decide +kernel
theorem dX11_count_79 : decode cX11_count 79 = .ok (.iconst 4, 1) := by decide +kernel
theorem dX11_count_80 : decode cX11_count 80 = .ok (.invokevirtual 383, 3) := by decide +kernel
theorem dX11_count_83 : decode cX11_count 83 = .ok (.ireturn, 1) := by decide +kernel
theorem dX11_count_84 : decode cX11_count 84 = .ok (.aload_n 0, 1) := by decide +kernel
theorem dX11_count_85 : decode cX11_count 85 = .ok (.getfield 45, 3) := by decide +kernel
theorem dX11_count_88 : decode cX11_count 88 = .ok (.getfield 166, 3) := by decide +kernel
theorem dX11_count_91 : decode cX11_count 91 = .ok (.ireturn, 1) := by decide +kernel
theorem dX11_count_92 : decode cX11_count 92 = .ok (.aload_n 0, 1) := by decide +kernel
theorem dX11_count_93 : decode cX11_count 93 = .ok (.invokevirtual 386, 3) := by decide +kernel
theorem dX11_count_96 : decode cX11_count 96 = .ok (.ireturn, 1) := by decide +kernel
theorem dX11_count_97 : decode cX11_count 97 = .ok (.aload_n 0, 1) := by decide +kernel
theorem dX11_count_98 : decode cX11_count 98 = .ok (.getfield 14, 3) := by decide +kernel
theorem dX11_count_101 : decode cX11_count 101 = .ok (.invokevirtual 389, 3) := by decide +kernel
theorem dX11_count_104 : decode cX11_count 104 = .ok (.ireturn, 1) := by decide +kernel
theorem dX11_count_105 : decode cX11_count 105 = .ok (.aload_n 0, 1) := by decide +kernel
theorem dX11_count_106 : decode cX11_count 106 = .ok (.getfield 18, 3) := by decide +kernel
theorem dX11_count_109 : decode cX11_count 109 = .ok (.invokevirtual 389, 3) := by decide +kernel
theorem dX11_count_112 : decode cX11_count 112 = .ok (.ireturn, 1) := by decide +kernel
theorem dX11_count_113 : decode cX11_count 113 = .ok (.iconst (-1), 1) := by decide +kernel
theorem dX11_count_114 : decode cX11_count 114 = .ok (.ireturn, 1) := by decide +kernel
theorem dX11_refuse_0 : decode cX11_refuse 0 = .ok (.iload_n 1, 1) := by decide +kernel
theorem dX11_refuse_1 : decode cX11_refuse 1 = .ok (.iconst 1, 1) := by decide +kernel
theorem dX11_refuse_2 : decode cX11_refuse 2 = .ok (.if_icmp .lt 27, 3) := by decide +kernel
theorem dX11_refuse_5 : decode cX11_refuse 5 = .ok (.iload_n 1, 1) := by decide +kernel
theorem dX11_refuse_6 : decode cX11_refuse 6 = .ok (.aload_n 0, 1) := by decide +kernel
theorem dX11_refuse_7 : decode cX11_refuse 7 = .ok (.getfield 94, 3) := by decide +kernel
theorem dX11_refuse_10 : decode cX11_refuse 10 = .ok (.arraylength, 1) := by decide +kernel
theorem dX11_refuse_11 : decode cX11_refuse 11 = .ok (.if_icmp .ge 18, 3) := by decide +kernel
theorem dX11_refuse_14 : decode cX11_refuse 14 = .ok (.aload_n 0, 1) := by decide +kernel
theorem dX11_refuse_15 : decode cX11_refuse 15 = .ok (.getfield 94, 3) := by decide +kernel
theorem dX11_refuse_18 : decode cX11_refuse 18 = .ok (.iload_n 1, 1) := by decide +kernel
theorem dX11_refuse_19 : decode cX11_refuse 19 = .ok (.dup2, 1) := by decide +kernel
theorem dX11_refuse_20 : decode cX11_refuse 20 = .ok (.iaload, 1) := by decide +kernel
theorem dX11_refuse_21 : decode cX11_refuse 21 = .ok (.iconst 1, 1) := by decide +kernel
theorem dX11_refuse_22 : decode cX11_refuse 22 = .ok (.iadd, 1) := by decide +kernel
theorem dX11_refuse_23 : decode cX11_refuse 23 = .ok (.iastore, 1) := by decide +kernel
theorem dX11_refuse_24 : decode cX11_refuse 24 = .ok (.aload_n 0, 1) := by decide +kernel
theorem dX11_refuse_25 : decode cX11_refuse 25 = .ok (.iload_n 1, 1) := by decide +kernel
theorem dX11_refuse_26 : decode cX11_refuse 26 = .ok (.putfield 98, 3) := by decide +kernel
theorem dX11_refuse_29 : decode cX11_refuse 29 = .ok (.bipush (-3), 2) := by decide +kernel
theorem dX11_refuse_31 : decode cX11_refuse 31 = .ok (.ireturn, 1) := by decide +kernel
theorem dX11_refuseMissing_0 : decode cX11_refuseMissing 0 = .ok (.aload_n 1, 1) := by decide +kernel
theorem dX11_refuseMissing_1 : decode cX11_refuseMissing 1 = .ok (.iload_n 2, 1) := by decide +kernel
theorem dX11_refuseMissing_2 : decode cX11_refuseMissing 2 = .ok (.invokevirtual 112, 3) := by decide +kernel
theorem dX11_refuseMissing_5 : decode cX11_refuseMissing 5 = .ok (.ifCond .ne 5, 3) := by decide +kernel
theorem dX11_refuseMissing_8 : decode cX11_refuseMissing 8 = .ok (.iconst (-1), 1) := by decide +kernel
theorem dX11_refuseMissing_9 : decode cX11_refuseMissing 9 = .ok (.ireturn, 1) := by decide +kernel
theorem dX11_refuseMissing_10 : decode cX11_refuseMissing 10 = .ok (.aload_n 1, 1) := by decide +kernel
theorem dX11_refuseMissing_11 : decode cX11_refuseMissing 11 = .ok (.iload_n 2, 1) := by decide +kernel
theorem dX11_refuseMissing_12 : decode cX11_refuseMissing 12 = .ok (.invokevirtual 146, 3) := by decide +kernel
theorem dX11_refuseMissing_15 : decode cX11_refuseMissing 15 = .ok (.ifCond .eq 7, 3) := by decide +kernel
theorem dX11_refuseMissing_18 : decode cX11_refuseMissing 18 = .ok (.iconst 0, 1) := by decide +kernel
theorem dX11_refuseMissing_19 : decode cX11_refuseMissing 19 = .ok (.goto 8, 3) := by decide +kernel
theorem dX11_refuseMissing_22 : decode cX11_refuseMissing 22 = .ok (.aload_n 0, 1) := by decide +kernel
theorem dX11_refuseMissing_23 : decode cX11_refuseMissing 23 = .ok (.iconst 1, 1) := by decide +kernel
theorem dX11_refuseMissing_24 : decode cX11_refuseMissing 24 = .ok (.invokevirtual 116, 3) := by decide +kernel
theorem dX11_refuseMissing_27 : decode cX11_refuseMissing 27 = .ok (.ireturn, 1) := by decide +kernel
theorem dX11_refusePlace_0 : decode cX11_refusePlace 0 = .ok (.aload_n 0, 1) := by decide +kernel
theorem dX11_refusePlace_1 : decode cX11_refusePlace 1 = .ok (.aload_n 1, 1) := by decide +kernel
theorem dX11_refusePlace_2 : decode cX11_refusePlace 2 = .ok (.iload_n 2, 1) := by decide +kernel
theorem dX11_refusePlace_3 : decode cX11_refusePlace 3 = .ok (.invokevirtual 138, 3) := by decide +kernel
theorem dX11_refusePlace_6 : decode cX11_refusePlace 6 = .ok (.istore 4, 2) := by decide +kernel
theorem dX11_refusePlace_8 : decode cX11_refusePlace 8 = .ok (.iload 4, 2) := by decide +kernel
theorem dX11_refusePlace_10 : decode cX11_refusePlace 10 = .ok (.ifCond .eq 6, 3) := by decide +kernel
theorem dX11_refusePlace_13 : decode cX11_refusePlace 13 = .ok (.iload 4, 2) := by decide +kernel
theorem dX11_refusePlace_15 : decode cX11_refusePlace 15 = .ok (.ireturn, 1) := by decide +kernel
theorem dX11_refusePlace_16 : decode cX11_refusePlace 16 = .ok (.aload_n 1, 1) := by decide +kernel
theorem dX11_refusePlace_17 : decode cX11_refusePlace 17 = .ok (.iload_n 2, 1) := by decide +kernel
theorem dX11_refusePlace_18 : decode cX11_refusePlace 18 = .ok (.iload_n 3, 1) := by decide +kernel
theorem dX11_refusePlace_19 : decode cX11_refusePlace 19 = .ok (.invokevirtual 413, 3) := by decide +kernel
theorem dX11_refusePlace_22 : decode cX11_refusePlace 22 = .ok (.ifCond .eq 7, 3) := by decide +kernel
theorem dX11_refusePlace_25 : decode cX11_refusePlace 25 = .ok (.iconst 0, 1) := by decide +kernel
theorem dX11_refusePlace_26 : decode cX11_refusePlace 26 = .ok (.goto 8, 3) := by decide +kernel
theorem dX11_refusePlace_29 : decode cX11_refusePlace 29 = .ok (.aload_n 0, 1) := by decide +kernel
theorem dX11_refusePlace_30 : decode cX11_refusePlace 30 = .ok (.iconst 2, 1) := by decide +kernel
theorem dX11_refusePlace_31 : decode cX11_refusePlace 31 = .ok (.invokevirtual 116, 3) := by decide +kernel
theorem dX11_refusePlace_34 : decode cX11_refusePlace 34 = .ok (.ireturn, 1) := by decide +kernel
theorem dX11_tell_0 : decode cX11_tell 0 = .ok (.aload_n 0, 1) := by decide +kernel
theorem dX11_tell_1 : decode cX11_tell 1 = .ok (.iload_n 1, 1) := by decide +kernel
theorem dX11_tell_2 : decode cX11_tell 2 = .ok (.putfield 102, 3) := by decide +kernel
theorem dX11_tell_5 : decode cX11_tell 5 = .ok (.iload_n 2, 1) := by decide +kernel
theorem dX11_tell_6 : decode cX11_tell 6 = .ok (.ireturn, 1) := by decide +kernel
theorem dX11_tellFraction_0 : decode cX11_tellFraction 0 = .ok (.lload_n 1, 1) := by decide +kernel
theorem dX11_tellFraction_1 : decode cX11_tellFraction 1 = .ok (.lload_n 3, 1) := by decide +kernel
theorem dX11_tellFraction_2 : decode cX11_tellFraction 2 = .ok (.invokestatic 416, 3) := by decide +kernel
theorem dX11_tellFraction_5 : decode cX11_tellFraction 5 = .ok (.lstore 6, 2) := by decide +kernel
theorem dX11_tellFraction_7 : decode cX11_tellFraction 7 = .ok (.aload_n 0, 1) := by decide +kernel
theorem dX11_tellFraction_8 : decode cX11_tellFraction 8 = .ok (.lload 6, 2) := by decide +kernel
theorem dX11_tellFraction_10 : decode cX11_tellFraction 10 = .ok (.lconst 0, 1) := by decide +kernel
theorem dX11_tellFraction_11 : decode cX11_tellFraction 11 = .ok (.lcmp, 1) := by decide +kernel
theorem dX11_tellFraction_12 : decode cX11_tellFraction 12 = .ok (.ifCond .ne 7, 3) := by decide +kernel
theorem dX11_tellFraction_15 : decode cX11_tellFraction 15 = .ok (.lconst 0, 1) := by decide +kernel
theorem dX11_tellFraction_16 : decode cX11_tellFraction 16 = .ok (.goto 7, 3) := by decide +kernel
theorem dX11_tellFraction_19 : decode cX11_tellFraction 19 = .ok (.lload_n 1, 1) := by decide +kernel
theorem dX11_tellFraction_20 : decode cX11_tellFraction 20 = .ok (.lload 6, 2) := by decide +kernel
theorem dX11_tellFraction_22 : decode cX11_tellFraction 22 = .ok (.ldiv, 1) := by decide +kernel
theorem dX11_tellFraction_23 : decode cX11_tellFraction 23 = .ok (.putfield 105, 3) := by decide +kernel
theorem dX11_tellFraction_26 : decode cX11_tellFraction 26 = .ok (.aload_n 0, 1) := by decide +kernel
theorem dX11_tellFraction_27 : decode cX11_tellFraction 27 = .ok (.lload 6, 2) := by decide +kernel
theorem dX11_tellFraction_29 : decode cX11_tellFraction 29 = .ok (.lconst 0, 1) := by decide +kernel
theorem dX11_tellFraction_30 : decode cX11_tellFraction 30 = .ok (.lcmp, 1) := by decide +kernel
theorem dX11_tellFraction_31 : decode cX11_tellFraction 31 = .ok (.ifCond .ne 7, 3) := by decide +kernel
theorem dX11_tellFraction_34 : decode cX11_tellFraction 34 = .ok (.lconst 1, 1) := by decide +kernel
theorem dX11_tellFraction_35 : decode cX11_tellFraction 35 = .ok (.goto 7, 3) := by decide +kernel
theorem dX11_tellFraction_38 : decode cX11_tellFraction 38 = .ok (.lload_n 3, 1) := by decide +kernel
theorem dX11_tellFraction_39 : decode cX11_tellFraction 39 = .ok (.lload 6, 2) := by decide +kernel
theorem dX11_tellFraction_41 : decode cX11_tellFraction 41 = .ok (.ldiv, 1) := by decide +kernel
theorem dX11_tellFraction_42 : decode cX11_tellFraction 42 = .ok (.putfield 109, 3) := by decide +kernel
theorem dX11_tellFraction_45 : decode cX11_tellFraction 45 = .ok (.iload 5, 2) := by decide +kernel
theorem dX11_tellFraction_47 : decode cX11_tellFraction 47 = .ok (.ireturn, 1) := by decide +kernel
theorem dX11_commonDivisor_0 : decode cX11_commonDivisor 0 = .ok (.lload_n 0, 1) := by decide +kernel
theorem dX11_commonDivisor_1 : decode cX11_commonDivisor 1 = .ok (.lstore 4, 2) := by decide +kernel
theorem dX11_commonDivisor_3 : decode cX11_commonDivisor 3 = .ok (.lload_n 2, 1) := by decide +kernel
theorem dX11_commonDivisor_4 : decode cX11_commonDivisor 4 = .ok (.lstore 6, 2) := by decide +kernel
theorem dX11_commonDivisor_6 : decode cX11_commonDivisor 6 = .ok (.iconst 0, 1) := by decide +kernel
theorem dX11_commonDivisor_7 : decode cX11_commonDivisor 7 = .ok (.istore 8, 2) := by decide +kernel
theorem dX11_commonDivisor_9 : decode cX11_commonDivisor 9 = .ok (.iload 8, 2) := by decide +kernel
theorem dX11_commonDivisor_11 : decode cX11_commonDivisor 11 = .ok (.bipush 100, 2) := by decide +kernel
theorem dX11_commonDivisor_13 : decode cX11_commonDivisor 13 = .ok (.if_icmp .ge 31, 3) := by decide +kernel
theorem dX11_commonDivisor_16 : decode cX11_commonDivisor 16 = .ok (.lload 6, 2) := by decide +kernel
theorem dX11_commonDivisor_18 : decode cX11_commonDivisor 18 = .ok (.lconst 0, 1) := by decide +kernel
theorem dX11_commonDivisor_19 : decode cX11_commonDivisor 19 = .ok (.lcmp, 1) := by decide +kernel
theorem dX11_commonDivisor_20 : decode cX11_commonDivisor 20 = .ok (.ifCond .eq 24, 3) := by decide +kernel
theorem dX11_commonDivisor_23 : decode cX11_commonDivisor 23 = .ok (.lload 4, 2) := by decide +kernel
theorem dX11_commonDivisor_25 : decode cX11_commonDivisor 25 = .ok (.lload 6, 2) := by decide +kernel
theorem dX11_commonDivisor_27 : decode cX11_commonDivisor 27 = .ok (.lrem, 1) := by decide +kernel
theorem dX11_commonDivisor_28 : decode cX11_commonDivisor 28 = .ok (.lstore 9, 2) := by decide +kernel
theorem dX11_commonDivisor_30 : decode cX11_commonDivisor 30 = .ok (.lload 6, 2) := by decide +kernel
theorem dX11_commonDivisor_32 : decode cX11_commonDivisor 32 = .ok (.lstore 4, 2) := by decide +kernel
theorem dX11_commonDivisor_34 : decode cX11_commonDivisor 34 = .ok (.lload 9, 2) := by decide +kernel
theorem dX11_commonDivisor_36 : decode cX11_commonDivisor 36 = .ok (.lstore 6, 2) := by decide +kernel
theorem dX11_commonDivisor_38 : decode cX11_commonDivisor 38 = .ok (.iinc 8 1, 3) := by decide +kernel
theorem dX11_commonDivisor_41 : decode cX11_commonDivisor 41 = .ok (.goto (-32), 3) := by decide +kernel
theorem dX11_commonDivisor_44 : decode cX11_commonDivisor 44 = .ok (.lload 4, 2) := by decide +kernel
theorem dX11_commonDivisor_46 : decode cX11_commonDivisor 46 = .ok (.lreturn, 1) := by decide +kernel
theorem dX11_keptAt_0 : decode cX11_keptAt 0 = .ok (.iload_n 1, 1) := by decide +kernel
theorem dX11_keptAt_1 : decode cX11_keptAt 1 = .ok (.ifCond .lt 21, 3) := by decide +kernel
theorem dX11_keptAt_4 : decode cX11_keptAt 4 = .ok (.iload_n 1, 1) := by decide +kernel
theorem dX11_keptAt_5 : decode cX11_keptAt 5 = .ok (.aload_n 0, 1) := by decide +kernel
theorem dX11_keptAt_6 : decode cX11_keptAt 6 = .ok (.getfield 38, 3) := by decide +kernel
theorem dX11_keptAt_9 : decode cX11_keptAt 9 = .ok (.arraylength, 1) := by decide +kernel
theorem dX11_keptAt_10 : decode cX11_keptAt 10 = .ok (.if_icmp .ge 12, 3) := by decide +kernel
theorem dX11_keptAt_13 : decode cX11_keptAt 13 = .ok (.aload_n 0, 1) := by decide +kernel
theorem dX11_keptAt_14 : decode cX11_keptAt 14 = .ok (.getfield 38, 3) := by decide +kernel
theorem dX11_keptAt_17 : decode cX11_keptAt 17 = .ok (.iload_n 1, 1) := by decide +kernel
theorem dX11_keptAt_18 : decode cX11_keptAt 18 = .ok (.aaload, 1) := by decide +kernel
theorem dX11_keptAt_19 : decode cX11_keptAt 19 = .ok (.goto 4, 3) := by decide +kernel
theorem dX11_keptAt_22 : decode cX11_keptAt 22 = .ok (.aconst_null, 1) := by decide +kernel
theorem dX11_keptAt_23 : decode cX11_keptAt 23 = .ok (.areturn, 1) := by decide +kernel
theorem dX11_forgetKept_0 : decode cX11_forgetKept 0 = .ok (.aload_n 0, 1) := by decide +kernel
theorem dX11_forgetKept_1 : decode cX11_forgetKept 1 = .ok (.iload_n 1, 1) := by decide +kernel
theorem dX11_forgetKept_2 : decode cX11_forgetKept 2 = .ok (.invokevirtual 253, 3) := by decide +kernel
theorem dX11_forgetKept_5 : decode cX11_forgetKept 5 = .ok (.astore_n 2, 1) := by decide +kernel
theorem dX11_forgetKept_6 : decode cX11_forgetKept 6 = .ok (.aload_n 2, 1) := by decide +kernel
theorem dX11_forgetKept_7 : decode cX11_forgetKept 7 = .ok (.ifnull 8, 3) := by decide +kernel
theorem dX11_forgetKept_10 : decode cX11_forgetKept 10 = .ok (.aload_n 2, 1) := by decide +kernel
theorem dX11_forgetKept_11 : decode cX11_forgetKept 11 = .ok (.iconst 0, 1) := by decide +kernel
theorem dX11_forgetKept_12 : decode cX11_forgetKept 12 = .ok (.putfield 260, 3) := by decide +kernel
theorem dX11_forgetKept_15 : decode cX11_forgetKept 15 = .ok (.return_, 1) := by decide +kernel
theorem dX11_hourKept_0 : decode cX11_hourKept 0 = .ok (.aload_n 0, 1) := by decide +kernel
theorem dX11_hourKept_1 : decode cX11_hourKept 1 = .ok (.iload_n 1, 1) := by decide +kernel
theorem dX11_hourKept_2 : decode cX11_hourKept 2 = .ok (.invokevirtual 253, 3) := by decide +kernel
theorem dX11_hourKept_5 : decode cX11_hourKept 5 = .ok (.astore_n 2, 1) := by decide +kernel
theorem dX11_hourKept_6 : decode cX11_hourKept 6 = .ok (.aload_n 2, 1) := by decide +kernel
theorem dX11_hourKept_7 : decode cX11_hourKept 7 = .ok (.ifnull 17, 3) := by decide +kernel
theorem dX11_hourKept_10 : decode cX11_hourKept 10 = .ok (.aload_n 2, 1) := by decide +kernel
theorem dX11_hourKept_11 : decode cX11_hourKept 11 = .ok (.getfield 260, 3) := by decide +kernel
theorem dX11_hourKept_14 : decode cX11_hourKept 14 = .ok (.ifCond .eq 10, 3) := by decide +kernel
theorem dX11_hourKept_17 : decode cX11_hourKept 17 = .ok (.aload_n 2, 1) := by decide +kernel
theorem dX11_hourKept_18 : decode cX11_hourKept 18 = .ok (.getfield 184, 3) := by decide +kernel
theorem dX11_hourKept_21 : decode cX11_hourKept 21 = .ok (.goto 4, 3) := by decide +kernel
theorem dX11_hourKept_24 : decode cX11_hourKept 24 = .ok (.iconst (-1), 1) := by decide +kernel
theorem dX11_hourKept_25 : decode cX11_hourKept 25 = .ok (.ireturn, 1) := by decide +kernel
theorem dX11_numberOfKept_0 : decode cX11_numberOfKept 0 = .ok (.iconst 0, 1) := by decide +kernel
theorem dX11_numberOfKept_1 : decode cX11_numberOfKept 1 = .ok (.istore_n 1, 1) := by decide +kernel
theorem dX11_numberOfKept_2 : decode cX11_numberOfKept 2 = .ok (.iconst 0, 1) := by decide +kernel
theorem dX11_numberOfKept_3 : decode cX11_numberOfKept 3 = .ok (.istore_n 2, 1) := by decide +kernel
theorem dX11_numberOfKept_4 : decode cX11_numberOfKept 4 = .ok (.iload_n 2, 1) := by decide +kernel
theorem dX11_numberOfKept_5 : decode cX11_numberOfKept 5 = .ok (.iconst 3, 1) := by decide +kernel
theorem dX11_numberOfKept_6 : decode cX11_numberOfKept 6 = .ok (.if_icmp .ge 21, 3) := by decide +kernel
theorem dX11_numberOfKept_9 : decode cX11_numberOfKept 9 = .ok (.aload_n 0, 1) := by decide +kernel
theorem dX11_numberOfKept_10 : decode cX11_numberOfKept 10 = .ok (.iload_n 2, 1) := by decide +kernel
theorem dX11_numberOfKept_11 : decode cX11_numberOfKept 11 = .ok (.invokevirtual 409, 3) := by decide +kernel
theorem dX11_numberOfKept_14 : decode cX11_numberOfKept 14 = .ok (.iconst (-1), 1) := by decide +kernel
theorem dX11_numberOfKept_15 : decode cX11_numberOfKept 15 = .ok (.if_icmp .eq 6, 3) := by decide +kernel
theorem dX11_numberOfKept_18 : decode cX11_numberOfKept 18 = .ok (.iinc 1 1, 3) := by decide +kernel
theorem dX11_numberOfKept_21 : decode cX11_numberOfKept 21 = .ok (.iinc 2 1, 3) := by decide +kernel
theorem dX11_numberOfKept_24 : decode cX11_numberOfKept 24 = .ok (.goto (-20), 3) := by decide +kernel
theorem dX11_numberOfKept_27 : decode cX11_numberOfKept 27 = .ok (.iload_n 1, 1) := by decide +kernel
theorem dX11_numberOfKept_28 : decode cX11_numberOfKept 28 = .ok (.ireturn, 1) := by decide +kernel
theorem dX11_isAhead_0 : decode cX11_isAhead 0 = .ok (.iload_n 0, 1) := by decide +kernel
theorem dX11_isAhead_1 : decode cX11_isAhead 1 = .ok (.ifCond .lt 13, 3) := by decide +kernel
theorem dX11_isAhead_4 : decode cX11_isAhead 4 = .ok (.iload_n 0, 1) := by decide +kernel
theorem dX11_isAhead_5 : decode cX11_isAhead 5 = .ok (.bipush 12, 2) := by decide +kernel
theorem dX11_isAhead_7 : decode cX11_isAhead 7 = .ok (.if_icmp .gt 7, 3) := by decide +kernel
theorem dX11_isAhead_10 : decode cX11_isAhead 10 = .ok (.iconst 1, 1) := by decide +kernel
theorem dX11_isAhead_11 : decode cX11_isAhead 11 = .ok (.goto 4, 3) := by decide +kernel
theorem dX11_isAhead_14 : decode cX11_isAhead 14 = .ok (.iconst 0, 1) := by decide +kernel
theorem dX11_isAhead_15 : decode cX11_isAhead 15 = .ok (.ireturn, 1) := by decide +kernel
theorem dX11_isCard_0 : decode cX11_isCard 0 = .ok (.iload_n 0, 1) := by decide +kernel
theorem dX11_isCard_1 : decode cX11_isCard 1 = .ok (.iconst 1, 1) := by decide +kernel
theorem dX11_isCard_2 : decode cX11_isCard 2 = .ok (.if_icmp .lt 24, 3) := by decide +kernel
theorem dX11_isCard_5 : decode cX11_isCard 5 = .ok (.iload_n 0, 1) := by decide +kernel
theorem dX11_isCard_6 : decode cX11_isCard 6 = .ok (.bipush 40, 2) := by decide +kernel
theorem dX11_isCard_8 : decode cX11_isCard 8 = .ok (.if_icmp .gt 18, 3) := by decide +kernel
theorem dX11_isCard_11 : decode cX11_isCard 11 = .ok (.iload_n 1, 1) := by decide +kernel
theorem dX11_isCard_12 : decode cX11_isCard 12 = .ok (.iconst 1, 1) := by decide +kernel
theorem dX11_isCard_13 : decode cX11_isCard 13 = .ok (.if_icmp .lt 13, 3) := by decide +kernel
theorem dX11_isCard_16 : decode cX11_isCard 16 = .ok (.iload_n 1, 1) := by decide +kernel
theorem dX11_isCard_17 : decode cX11_isCard 17 = .ok (.bipush 20, 2) := by decide +kernel
theorem dX11_isCard_19 : decode cX11_isCard 19 = .ok (.if_icmp .gt 7, 3) := by decide +kernel
theorem dX11_isCard_22 : decode cX11_isCard 22 = .ok (.iconst 1, 1) := by decide +kernel
theorem dX11_isCard_23 : decode cX11_isCard 23 = .ok (.goto 4, 3) := by decide +kernel
theorem dX11_isCard_26 : decode cX11_isCard 26 = .ok (.iconst 0, 1) := by decide +kernel
theorem dX11_isCard_27 : decode cX11_isCard 27 = .ok (.ireturn, 1) := by decide +kernel
theorem dX11_isSetOfDesks_0 : decode cX11_isSetOfDesks 0 = .ok (.iload_n 1, 1) := by decide +kernel
theorem dX11_isSetOfDesks_1 : decode cX11_isSetOfDesks 1 = .ok (.aload_n 0, 1) := by decide +kernel
theorem dX11_isSetOfDesks_2 : decode cX11_isSetOfDesks 2 = .ok (.getfield 24, 3) := by decide +kernel
theorem dX11_isSetOfDesks_5 : decode cX11_isSetOfDesks 5 = .ok (.invokevirtual 420, 3) := by decide +kernel
theorem dX11_isSetOfDesks_8 : decode cX11_isSetOfDesks 8 = .ok (.iconst (-1), 1) := by decide +kernel
theorem dX11_isSetOfDesks_9 : decode cX11_isSetOfDesks 9 = .ok (.ixor, 1) := by decide +kernel
theorem dX11_isSetOfDesks_10 : decode cX11_isSetOfDesks 10 = .ok (.iand, 1) := by decide +kernel
theorem dX11_isSetOfDesks_11 : decode cX11_isSetOfDesks 11 = .ok (.ifCond .ne 7, 3) := by decide +kernel
theorem dX11_isSetOfDesks_14 : decode cX11_isSetOfDesks 14 = .ok (.iconst 1, 1) := by decide +kernel
theorem dX11_isSetOfDesks_15 : decode cX11_isSetOfDesks 15 = .ok (.goto 4, 3) := by decide +kernel
theorem dX11_isSetOfDesks_18 : decode cX11_isSetOfDesks 18 = .ok (.iconst 0, 1) := by decide +kernel
theorem dX11_isSetOfDesks_19 : decode cX11_isSetOfDesks 19 = .ok (.ireturn, 1) := by decide +kernel
theorem dX11_passOneHour_0 : decode cX11_passOneHour 0 = .ok (.aload_n 0, 1) := by decide +kernel
theorem dX11_passOneHour_1 : decode cX11_passOneHour 1 = .ok (.getfield 52, 3) := by decide +kernel
theorem dX11_passOneHour_4 : decode cX11_passOneHour 4 = .ok (.aload_n 0, 1) := by decide +kernel
theorem dX11_passOneHour_5 : decode cX11_passOneHour 5 = .ok (.getfield 24, 3) := by decide +kernel
theorem dX11_passOneHour_8 : decode cX11_passOneHour 8 = .ok (.aload_n 0, 1) := by decide +kernel
theorem dX11_passOneHour_9 : decode cX11_passOneHour 9 = .ok (.getfield 34, 3) := by decide +kernel
theorem dX11_passOneHour_12 : decode cX11_passOneHour 12 = .ok (.getfield 224, 3) := by decide +kernel
theorem dX11_passOneHour_15 : decode cX11_passOneHour 15 = .ok (.aload_n 0, 1) := by decide +kernel
theorem dX11_passOneHour_16 : decode cX11_passOneHour 16 = .ok (.getfield 34, 3) := by decide +kernel
theorem dX11_passOneHour_19 : decode cX11_passOneHour 19 = .ok (.getfield 243, 3) := by decide +kernel
theorem dX11_passOneHour_22 : decode cX11_passOneHour 22 = .ok (.aload_n 0, 1) := by decide +kernel
theorem dX11_passOneHour_23 : decode cX11_passOneHour 23 = .ok (.getfield 34, 3) := by decide +kernel
theorem dX11_passOneHour_26 : decode cX11_passOneHour 26 = .ok (.getfield 184, 3) := by decide +kernel
theorem dX11_passOneHour_29 : decode cX11_passOneHour 29 = .ok (.aload_n 0, 1) := by decide +kernel
theorem dX11_passOneHour_30 : decode cX11_passOneHour 30 = .ok (.getfield 34, 3) := by decide +kernel
theorem dX11_passOneHour_33 : decode cX11_passOneHour 33 = .ok (.getfield 246, 3) := by decide +kernel
theorem dX11_passOneHour_36 : decode cX11_passOneHour 36 = .ok (.invokevirtual 423, 3) := by decide +kernel
theorem dX11_passOneHour_39 : decode cX11_passOneHour 39 = .ok (.iconst 0, 1) := by decide +kernel
theorem dX11_passOneHour_40 : decode cX11_passOneHour 40 = .ok (.istore_n 3, 1) := by decide +kernel
theorem dX11_passOneHour_41 : decode cX11_passOneHour 41 = .ok (.iload_n 3, 1) := by decide +kernel
theorem dX11_passOneHour_42 : decode cX11_passOneHour 42 = .ok (.aload_n 0, 1) := by decide +kernel
theorem dX11_passOneHour_43 : decode cX11_passOneHour 43 = .ok (.getfield 52, 3) := by decide +kernel
theorem dX11_passOneHour_46 : decode cX11_passOneHour 46 = .ok (.getfield 427, 3) := by decide +kernel
theorem dX11_passOneHour_49 : decode cX11_passOneHour 49 = .ok (.if_icmp .ge 21, 3) := by decide +kernel
theorem dX11_passOneHour_52 : decode cX11_passOneHour 52 = .ok (.aload_n 0, 1) := by decide +kernel
theorem dX11_passOneHour_53 : decode cX11_passOneHour 53 = .ok (.aload_n 0, 1) := by decide +kernel
theorem dX11_passOneHour_54 : decode cX11_passOneHour 54 = .ok (.getfield 52, 3) := by decide +kernel
theorem dX11_passOneHour_57 : decode cX11_passOneHour 57 = .ok (.iload_n 3, 1) := by decide +kernel
theorem dX11_passOneHour_58 : decode cX11_passOneHour 58 = .ok (.invokevirtual 430, 3) := by decide +kernel
theorem dX11_passOneHour_61 : decode cX11_passOneHour 61 = .ok (.invokevirtual 433, 3) := by decide +kernel
theorem dX11_passOneHour_64 : decode cX11_passOneHour 64 = .ok (.iinc 3 1, 3) := by decide +kernel
theorem dX11_passOneHour_67 : decode cX11_passOneHour 67 = .ok (.goto (-26), 3) := by decide +kernel
theorem dX11_passOneHour_70 : decode cX11_passOneHour 70 = .ok (.aload_n 0, 1) := by decide +kernel
theorem dX11_passOneHour_71 : decode cX11_passOneHour 71 = .ok (.getfield 52, 3) := by decide +kernel
theorem dX11_passOneHour_74 : decode cX11_passOneHour 74 = .ok (.getfield 436, 3) := by decide +kernel
theorem dX11_passOneHour_77 : decode cX11_passOneHour 77 = .ok (.ifCond .ne 26, 3) := by decide +kernel
theorem dX11_passOneHour_80 : decode cX11_passOneHour 80 = .ok (.aload_n 0, 1) := by decide +kernel
theorem dX11_passOneHour_81 : decode cX11_passOneHour 81 = .ok (.getfield 34, 3) := by decide +kernel
theorem dX11_passOneHour_84 : decode cX11_passOneHour 84 = .ok (.aload_n 0, 1) := by decide +kernel
theorem dX11_passOneHour_85 : decode cX11_passOneHour 85 = .ok (.getfield 52, 3) := by decide +kernel
theorem dX11_passOneHour_88 : decode cX11_passOneHour 88 = .ok (.getfield 439, 3) := by decide +kernel
theorem dX11_passOneHour_91 : decode cX11_passOneHour 91 = .ok (.aload_n 0, 1) := by decide +kernel
theorem dX11_passOneHour_92 : decode cX11_passOneHour 92 = .ok (.getfield 52, 3) := by decide +kernel
theorem dX11_passOneHour_95 : decode cX11_passOneHour 95 = .ok (.getfield 440, 3) := by decide +kernel
theorem dX11_passOneHour_98 : decode cX11_passOneHour 98 = .ok (.invokevirtual 443, 3) := by decide +kernel
theorem dX11_passOneHour_101 : decode cX11_passOneHour 101 = .ok (.lload_n 1, 1) := by decide +kernel
theorem dX11_passOneHour_102 : decode cX11_passOneHour 102 = .ok (.lreturn, 1) := by decide +kernel
theorem dX11_passOneHour_103 : decode cX11_passOneHour 103 = .ok (.lload_n 1, 1) := by decide +kernel
theorem dX11_passOneHour_104 : decode cX11_passOneHour 104 = .ok (.ldc2_w 446, 3) := by decide +kernel
theorem dX11_passOneHour_107 : decode cX11_passOneHour 107 = .ok (.lmul, 1) := by decide +kernel
theorem dX11_passOneHour_108 : decode cX11_passOneHour 108 = .ok (.ldc2_w 214, 3) := by decide +kernel
theorem dX11_passOneHour_111 : decode cX11_passOneHour 111 = .ok (.lrem, 1) := by decide +kernel
theorem dX11_passOneHour_112 : decode cX11_passOneHour 112 = .ok (.lstore_n 3, 1) := by decide +kernel
theorem dX11_passOneHour_113 : decode cX11_passOneHour 113 = .ok (.aload_n 0, 1) := by decide +kernel
theorem dX11_passOneHour_114 : decode cX11_passOneHour 114 = .ok (.getfield 34, 3) := by decide +kernel
theorem dX11_passOneHour_117 : decode cX11_passOneHour 117 = .ok (.aload_n 0, 1) := by decide +kernel
theorem dX11_passOneHour_118 : decode cX11_passOneHour 118 = .ok (.getfield 52, 3) := by decide +kernel
theorem dX11_passOneHour_121 : decode cX11_passOneHour 121 = .ok (.getfield 439, 3) := by decide +kernel
theorem dX11_passOneHour_124 : decode cX11_passOneHour 124 = .ok (.lload_n 3, 1) := by decide +kernel
theorem dX11_passOneHour_125 : decode cX11_passOneHour 125 = .ok (.ldc2_w 448, 3) := by decide +kernel
theorem dX11_passOneHour_128 : decode cX11_passOneHour 128 = .ok (.lrem, 1) := by decide +kernel
theorem dX11_passOneHour_129 : decode cX11_passOneHour 129 = .ok (.aload_n 0, 1) := by decide +kernel
theorem dX11_passOneHour_130 : decode cX11_passOneHour 130 = .ok (.getfield 52, 3) := by decide +kernel
theorem dX11_passOneHour_133 : decode cX11_passOneHour 133 = .ok (.getfield 436, 3) := by decide +kernel
theorem dX11_passOneHour_136 : decode cX11_passOneHour 136 = .ok (.i2l, 1) := by decide +kernel
theorem dX11_passOneHour_137 : decode cX11_passOneHour 137 = .ok (.lcmp, 1) := by decide +kernel
theorem dX11_passOneHour_138 : decode cX11_passOneHour 138 = .ok (.ifCond .ge 13, 3) := by decide +kernel
theorem dX11_passOneHour_141 : decode cX11_passOneHour 141 = .ok (.aload_n 0, 1) := by decide +kernel
theorem dX11_passOneHour_142 : decode cX11_passOneHour 142 = .ok (.getfield 52, 3) := by decide +kernel
theorem dX11_passOneHour_145 : decode cX11_passOneHour 145 = .ok (.getfield 440, 3) := by decide +kernel
theorem dX11_passOneHour_148 : decode cX11_passOneHour 148 = .ok (.goto 4, 3) := by decide +kernel
theorem dX11_passOneHour_151 : decode cX11_passOneHour 151 = .ok (.iconst (-1), 1) := by decide +kernel
theorem dX11_passOneHour_152 : decode cX11_passOneHour 152 = .ok (.invokevirtual 443, 3) := by decide +kernel
theorem dX11_passOneHour_155 : decode cX11_passOneHour 155 = .ok (.lload_n 3, 1) := by decide +kernel
theorem dX11_passOneHour_156 : decode cX11_passOneHour 156 = .ok (.lreturn, 1) := by decide +kernel
theorem dX11_sign_0 : decode cX11_sign 0 = .ok (.aload_n 0, 1) := by decide +kernel
theorem dX11_sign_1 : decode cX11_sign 1 = .ok (.getfield 59, 3) := by decide +kernel
theorem dX11_sign_4 : decode cX11_sign 4 = .ok (.aload_n 0, 1) := by decide +kernel
theorem dX11_sign_5 : decode cX11_sign 5 = .ok (.getfield 34, 3) := by decide +kernel
theorem dX11_sign_8 : decode cX11_sign 8 = .ok (.invokevirtual 198, 3) := by decide +kernel
theorem dX11_sign_11 : decode cX11_sign 11 = .ok (.aload_n 0, 1) := by decide +kernel
theorem dX11_sign_12 : decode cX11_sign 12 = .ok (.getfield 69, 3) := by decide +kernel
theorem dX11_sign_15 : decode cX11_sign 15 = .ok (.aload_n 0, 1) := by decide +kernel
theorem dX11_sign_16 : decode cX11_sign 16 = .ok (.getfield 34, 3) := by decide +kernel
theorem dX11_sign_19 : decode cX11_sign 19 = .ok (.invokevirtual 190, 3) := by decide +kernel
theorem dX11_sign_22 : decode cX11_sign 22 = .ok (.aload_n 0, 1) := by decide +kernel
theorem dX11_sign_23 : decode cX11_sign 23 = .ok (.getfield 34, 3) := by decide +kernel
theorem dX11_sign_26 : decode cX11_sign 26 = .ok (.iload_n 1, 1) := by decide +kernel
theorem dX11_sign_27 : decode cX11_sign 27 = .ok (.aload_n 0, 1) := by decide +kernel
theorem dX11_sign_28 : decode cX11_sign 28 = .ok (.getfield 59, 3) := by decide +kernel
theorem dX11_sign_31 : decode cX11_sign 31 = .ok (.aload_n 0, 1) := by decide +kernel
theorem dX11_sign_32 : decode cX11_sign 32 = .ok (.getfield 24, 3) := by decide +kernel
theorem dX11_sign_35 : decode cX11_sign 35 = .ok (.iload_n 1, 1) := by decide +kernel
theorem dX11_sign_36 : decode cX11_sign 36 = .ok (.invokevirtual 332, 3) := by decide +kernel
theorem dX11_sign_39 : decode cX11_sign 39 = .ok (.aload_n 0, 1) := by decide +kernel
theorem dX11_sign_40 : decode cX11_sign 40 = .ok (.getfield 69, 3) := by decide +kernel
theorem dX11_sign_43 : decode cX11_sign 43 = .ok (.aload_n 0, 1) := by decide +kernel
theorem dX11_sign_44 : decode cX11_sign 44 = .ok (.getfield 24, 3) := by decide +kernel
theorem dX11_sign_47 : decode cX11_sign 47 = .ok (.iload_n 1, 1) := by decide +kernel
theorem dX11_sign_48 : decode cX11_sign 48 = .ok (.invokevirtual 194, 3) := by decide +kernel
theorem dX11_sign_51 : decode cX11_sign 51 = .ok (.invokevirtual 450, 3) := by decide +kernel
theorem dX11_sign_54 : decode cX11_sign 54 = .ok (.return_, 1) := by decide +kernel
theorem dX11_likeliestBut_0 : decode cX11_likeliestBut 0 = .ok (.iconst 0, 1) := by decide +kernel
theorem dX11_likeliestBut_1 : decode cX11_likeliestBut 1 = .ok (.istore_n 2, 1) := by decide +kernel
theorem dX11_likeliestBut_2 : decode cX11_likeliestBut 2 = .ok (.ldc2_w 295, 3) := by decide +kernel
theorem dX11_likeliestBut_5 : decode cX11_likeliestBut 5 = .ok (.lstore_n 3, 1) := by decide +kernel
theorem dX11_likeliestBut_6 : decode cX11_likeliestBut 6 = .ok (.iconst 0, 1) := by decide +kernel
theorem dX11_likeliestBut_7 : decode cX11_likeliestBut 7 = .ok (.istore 5, 2) := by decide +kernel
theorem dX11_likeliestBut_9 : decode cX11_likeliestBut 9 = .ok (.iload 5, 2) := by decide +kernel
theorem dX11_likeliestBut_11 : decode cX11_likeliestBut 11 = .ok (.aload_n 0, 1) := by decide +kernel
theorem dX11_likeliestBut_12 : decode cX11_likeliestBut 12 = .ok (.getfield 24, 3) := by decide +kernel
theorem dX11_likeliestBut_15 : decode cX11_likeliestBut 15 = .ok (.getfield 172, 3) := by decide +kernel
theorem dX11_likeliestBut_18 : decode cX11_likeliestBut 18 = .ok (.if_icmp .ge 49, 3) := by decide +kernel
theorem dX11_likeliestBut_21 : decode cX11_likeliestBut 21 = .ok (.aload_n 0, 1) := by decide +kernel
theorem dX11_likeliestBut_22 : decode cX11_likeliestBut 22 = .ok (.getfield 76, 3) := by decide +kernel
theorem dX11_likeliestBut_25 : decode cX11_likeliestBut 25 = .ok (.iload 5, 2) := by decide +kernel
theorem dX11_likeliestBut_27 : decode cX11_likeliestBut 27 = .ok (.aload_n 0, 1) := by decide +kernel
theorem dX11_likeliestBut_28 : decode cX11_likeliestBut 28 = .ok (.getfield 34, 3) := by decide +kernel
theorem dX11_likeliestBut_31 : decode cX11_likeliestBut 31 = .ok (.getfield 280, 3) := by decide +kernel
theorem dX11_likeliestBut_34 : decode cX11_likeliestBut 34 = .ok (.invokevirtual 283, 3) := by decide +kernel
theorem dX11_likeliestBut_37 : decode cX11_likeliestBut 37 = .ok (.lstore 6, 2) := by decide +kernel
theorem dX11_likeliestBut_39 : decode cX11_likeliestBut 39 = .ok (.iload_n 1, 1) := by decide +kernel
theorem dX11_likeliestBut_40 : decode cX11_likeliestBut 40 = .ok (.iload 5, 2) := by decide +kernel
theorem dX11_likeliestBut_42 : decode cX11_likeliestBut 42 = .ok (.ishr, 1) := by decide +kernel
theorem dX11_likeliestBut_43 : decode cX11_likeliestBut 43 = .ok (.iconst 1, 1) := by decide +kernel
theorem dX11_likeliestBut_44 : decode cX11_likeliestBut 44 = .ok (.iand, 1) := by decide +kernel
theorem dX11_likeliestBut_45 : decode cX11_likeliestBut 45 = .ok (.ifCond .ne 16, 3) := by decide +kernel
theorem dX11_likeliestBut_48 : decode cX11_likeliestBut 48 = .ok (.lload 6, 2) := by decide +kernel
theorem dX11_likeliestBut_50 : decode cX11_likeliestBut 50 = .ok (.lload_n 3, 1) := by decide +kernel
theorem dX11_likeliestBut_51 : decode cX11_likeliestBut 51 = .ok (.lcmp, 1) := by decide +kernel
theorem dX11_likeliestBut_52 : decode cX11_likeliestBut 52 = .ok (.ifCond .le 9, 3) := by decide +kernel
theorem dX11_likeliestBut_55 : decode cX11_likeliestBut 55 = .ok (.iload 5, 2) := by decide +kernel
theorem dX11_likeliestBut_57 : decode cX11_likeliestBut 57 = .ok (.istore_n 2, 1) := by decide +kernel
theorem dX11_likeliestBut_58 : decode cX11_likeliestBut 58 = .ok (.lload 6, 2) := by decide +kernel
theorem dX11_likeliestBut_60 : decode cX11_likeliestBut 60 = .ok (.lstore_n 3, 1) := by decide +kernel
theorem dX11_likeliestBut_61 : decode cX11_likeliestBut 61 = .ok (.iinc 5 1, 3) := by decide +kernel
theorem dX11_likeliestBut_64 : decode cX11_likeliestBut 64 = .ok (.goto (-55), 3) := by decide +kernel
theorem dX11_likeliestBut_67 : decode cX11_likeliestBut 67 = .ok (.iload_n 2, 1) := by decide +kernel
theorem dX11_likeliestBut_68 : decode cX11_likeliestBut 68 = .ok (.ireturn, 1) := by decide +kernel
theorem dX11_readOrder_0 : decode cX11_readOrder 0 = .ok (.aload_n 0, 1) := by decide +kernel
theorem dX11_readOrder_1 : decode cX11_readOrder 1 = .ok (.aload_n 0, 1) := by decide +kernel
theorem dX11_readOrder_2 : decode cX11_readOrder 2 = .ok (.getfield 14, 3) := by decide +kernel
theorem dX11_readOrder_5 : decode cX11_readOrder 5 = .ok (.iload_n 1, 1) := by decide +kernel
theorem dX11_readOrder_6 : decode cX11_readOrder 6 = .ok (.invokevirtual 138, 3) := by decide +kernel
theorem dX11_readOrder_9 : decode cX11_readOrder 9 = .ok (.istore_n 2, 1) := by decide +kernel
theorem dX11_readOrder_10 : decode cX11_readOrder 10 = .ok (.iload_n 2, 1) := by decide +kernel
theorem dX11_readOrder_11 : decode cX11_readOrder 11 = .ok (.ifCond .eq 5, 3) := by decide +kernel
theorem dX11_readOrder_14 : decode cX11_readOrder 14 = .ok (.iload_n 2, 1) := by decide +kernel
theorem dX11_readOrder_15 : decode cX11_readOrder 15 = .ok (.ireturn, 1) := by decide +kernel
theorem dX11_readOrder_16 : decode cX11_readOrder 16 = .ok (.aload_n 0, 1) := by decide +kernel
theorem dX11_readOrder_17 : decode cX11_readOrder 17 = .ok (.getfield 83, 3) := by decide +kernel
theorem dX11_readOrder_20 : decode cX11_readOrder 20 = .ok (.invokevirtual 453, 3) := by decide +kernel
theorem dX11_readOrder_23 : decode cX11_readOrder 23 = .ok (.iconst 0, 1) := by decide +kernel
theorem dX11_readOrder_24 : decode cX11_readOrder 24 = .ok (.istore_n 3, 1) := by decide +kernel
theorem dX11_readOrder_25 : decode cX11_readOrder 25 = .ok (.iload_n 3, 1) := by decide +kernel
theorem dX11_readOrder_26 : decode cX11_readOrder 26 = .ok (.aload_n 0, 1) := by decide +kernel
theorem dX11_readOrder_27 : decode cX11_readOrder 27 = .ok (.getfield 14, 3) := by decide +kernel
theorem dX11_readOrder_30 : decode cX11_readOrder 30 = .ok (.iload_n 1, 1) := by decide +kernel
theorem dX11_readOrder_31 : decode cX11_readOrder 31 = .ok (.invokevirtual 157, 3) := by decide +kernel
theorem dX11_readOrder_34 : decode cX11_readOrder 34 = .ok (.if_icmp .ge 71, 3) := by decide +kernel
theorem dX11_readOrder_37 : decode cX11_readOrder 37 = .ok (.aload_n 0, 1) := by decide +kernel
theorem dX11_readOrder_38 : decode cX11_readOrder 38 = .ok (.getfield 14, 3) := by decide +kernel
theorem dX11_readOrder_41 : decode cX11_readOrder 41 = .ok (.iload_n 1, 1) := by decide +kernel
theorem dX11_readOrder_42 : decode cX11_readOrder 42 = .ok (.iload_n 3, 1) := by decide +kernel
theorem dX11_readOrder_43 : decode cX11_readOrder 43 = .ok (.invokevirtual 128, 3) := by decide +kernel
theorem dX11_readOrder_46 : decode cX11_readOrder 46 = .ok (.istore 4, 2) := by decide +kernel
theorem dX11_readOrder_48 : decode cX11_readOrder 48 = .ok (.aload_n 0, 1) := by decide +kernel
theorem dX11_readOrder_49 : decode cX11_readOrder 49 = .ok (.getfield 24, 3) := by decide +kernel
theorem dX11_readOrder_52 : decode cX11_readOrder 52 = .ok (.iload 4, 2) := by decide +kernel
theorem dX11_readOrder_54 : decode cX11_readOrder 54 = .ok (.invokevirtual 173, 3) := by decide +kernel
theorem dX11_readOrder_57 : decode cX11_readOrder 57 = .ok (.ifCond .eq 27, 3) := by decide +kernel
theorem dX11_readOrder_60 : decode cX11_readOrder 60 = .ok (.aload_n 0, 1) := by decide +kernel
theorem dX11_readOrder_61 : decode cX11_readOrder 61 = .ok (.getfield 34, 3) := by decide +kernel
theorem dX11_readOrder_64 : decode cX11_readOrder 64 = .ok (.iload 4, 2) := by decide +kernel
theorem dX11_readOrder_66 : decode cX11_readOrder 66 = .ok (.invokevirtual 326, 3) := by decide +kernel
theorem dX11_readOrder_69 : decode cX11_readOrder 69 = .ok (.ifCond .ne 15, 3) := by decide +kernel
theorem dX11_readOrder_72 : decode cX11_readOrder 72 = .ok (.aload_n 0, 1) := by decide +kernel
theorem dX11_readOrder_73 : decode cX11_readOrder 73 = .ok (.getfield 83, 3) := by decide +kernel
theorem dX11_readOrder_76 : decode cX11_readOrder 76 = .ok (.iload 4, 2) := by decide +kernel
theorem dX11_readOrder_78 : decode cX11_readOrder 78 = .ok (.invokevirtual 329, 3) := by decide +kernel
theorem dX11_readOrder_81 : decode cX11_readOrder 81 = .ok (.ifCond .eq 9, 3) := by decide +kernel
theorem dX11_readOrder_84 : decode cX11_readOrder 84 = .ok (.aload_n 0, 1) := by decide +kernel
theorem dX11_readOrder_85 : decode cX11_readOrder 85 = .ok (.iconst 3, 1) := by decide +kernel
theorem dX11_readOrder_86 : decode cX11_readOrder 86 = .ok (.invokevirtual 116, 3) := by decide +kernel
theorem dX11_readOrder_89 : decode cX11_readOrder 89 = .ok (.ireturn, 1) := by decide +kernel
theorem dX11_readOrder_90 : decode cX11_readOrder 90 = .ok (.aload_n 0, 1) := by decide +kernel
theorem dX11_readOrder_91 : decode cX11_readOrder 91 = .ok (.getfield 83, 3) := by decide +kernel
theorem dX11_readOrder_94 : decode cX11_readOrder 94 = .ok (.iload 4, 2) := by decide +kernel
theorem dX11_readOrder_96 : decode cX11_readOrder 96 = .ok (.invokevirtual 456, 3) := by decide +kernel
theorem dX11_readOrder_99 : decode cX11_readOrder 99 = .ok (.iinc 3 1, 3) := by decide +kernel
theorem dX11_readOrder_102 : decode cX11_readOrder 102 = .ok (.goto (-77), 3) := by decide +kernel
theorem dX11_readOrder_105 : decode cX11_readOrder 105 = .ok (.iconst 0, 1) := by decide +kernel
theorem dX11_readOrder_106 : decode cX11_readOrder 106 = .ok (.ireturn, 1) := by decide +kernel
theorem dX11_bringIn_0 : decode cX11_bringIn 0 = .ok (.aload_n 0, 1) := by decide +kernel
theorem dX11_bringIn_1 : decode cX11_bringIn 1 = .ok (.getfield 63, 3) := by decide +kernel
theorem dX11_bringIn_4 : decode cX11_bringIn 4 = .ok (.aload_n 0, 1) := by decide +kernel
theorem dX11_bringIn_5 : decode cX11_bringIn 5 = .ok (.getfield 59, 3) := by decide +kernel
theorem dX11_bringIn_8 : decode cX11_bringIn 8 = .ok (.invokevirtual 457, 3) := by decide +kernel
theorem dX11_bringIn_11 : decode cX11_bringIn 11 = .ok (.aload_n 0, 1) := by decide +kernel
theorem dX11_bringIn_12 : decode cX11_bringIn 12 = .ok (.getfield 63, 3) := by decide +kernel
theorem dX11_bringIn_15 : decode cX11_bringIn 15 = .ok (.getfield 234, 3) := by decide +kernel
theorem dX11_bringIn_18 : decode cX11_bringIn 18 = .ok (.istore_n 1, 1) := by decide +kernel
theorem dX11_bringIn_19 : decode cX11_bringIn 19 = .ok (.iconst 0, 1) := by decide +kernel
theorem dX11_bringIn_20 : decode cX11_bringIn 20 = .ok (.istore_n 2, 1) := by decide +kernel
theorem dX11_bringIn_21 : decode cX11_bringIn 21 = .ok (.iload_n 2, 1) := by decide +kernel
theorem dX11_bringIn_22 : decode cX11_bringIn 22 = .ok (.aload_n 0, 1) := by decide +kernel
theorem dX11_bringIn_23 : decode cX11_bringIn 23 = .ok (.getfield 83, 3) := by decide +kernel
theorem dX11_bringIn_26 : decode cX11_bringIn 26 = .ok (.getfield 313, 3) := by decide +kernel
theorem dX11_bringIn_29 : decode cX11_bringIn 29 = .ok (.if_icmp .ge 35, 3) := by decide +kernel
theorem dX11_bringIn_32 : decode cX11_bringIn 32 = .ok (.aload_n 0, 1) := by decide +kernel
theorem dX11_bringIn_33 : decode cX11_bringIn 33 = .ok (.getfield 63, 3) := by decide +kernel
theorem dX11_bringIn_36 : decode cX11_bringIn 36 = .ok (.aload_n 0, 1) := by decide +kernel
theorem dX11_bringIn_37 : decode cX11_bringIn 37 = .ok (.getfield 63, 3) := by decide +kernel
theorem dX11_bringIn_40 : decode cX11_bringIn 40 = .ok (.aload_n 0, 1) := by decide +kernel
theorem dX11_bringIn_41 : decode cX11_bringIn 41 = .ok (.getfield 24, 3) := by decide +kernel
theorem dX11_bringIn_44 : decode cX11_bringIn 44 = .ok (.aload_n 0, 1) := by decide +kernel
theorem dX11_bringIn_45 : decode cX11_bringIn 45 = .ok (.getfield 83, 3) := by decide +kernel
theorem dX11_bringIn_48 : decode cX11_bringIn 48 = .ok (.iload_n 2, 1) := by decide +kernel
theorem dX11_bringIn_49 : decode cX11_bringIn 49 = .ok (.invokevirtual 460, 3) := by decide +kernel
theorem dX11_bringIn_52 : decode cX11_bringIn 52 = .ok (.invokevirtual 332, 3) := by decide +kernel
theorem dX11_bringIn_55 : decode cX11_bringIn 55 = .ok (.invokevirtual 335, 3) := by decide +kernel
theorem dX11_bringIn_58 : decode cX11_bringIn 58 = .ok (.iinc 2 1, 3) := by decide +kernel
theorem dX11_bringIn_61 : decode cX11_bringIn 61 = .ok (.goto (-40), 3) := by decide +kernel
theorem dX11_bringIn_64 : decode cX11_bringIn 64 = .ok (.aload_n 0, 1) := by decide +kernel
theorem dX11_bringIn_65 : decode cX11_bringIn 65 = .ok (.getfield 63, 3) := by decide +kernel
theorem dX11_bringIn_68 : decode cX11_bringIn 68 = .ok (.getfield 234, 3) := by decide +kernel
theorem dX11_bringIn_71 : decode cX11_bringIn 71 = .ok (.iload_n 1, 1) := by decide +kernel
theorem dX11_bringIn_72 : decode cX11_bringIn 72 = .ok (.isub, 1) := by decide +kernel
theorem dX11_bringIn_73 : decode cX11_bringIn 73 = .ok (.ireturn, 1) := by decide +kernel
theorem dX11_tryAllOrders_0 : decode cX11_tryAllOrders 0 = .ok (.aload_n 0, 1) := by decide +kernel
theorem dX11_tryAllOrders_1 : decode cX11_tryAllOrders 1 = .ok (.getfield 83, 3) := by decide +kernel
theorem dX11_tryAllOrders_4 : decode cX11_tryAllOrders 4 = .ok (.invokevirtual 453, 3) := by decide +kernel
theorem dX11_tryAllOrders_7 : decode cX11_tryAllOrders 7 = .ok (.iconst 0, 1) := by decide +kernel
theorem dX11_tryAllOrders_8 : decode cX11_tryAllOrders 8 = .ok (.istore_n 2, 1) := by decide +kernel
theorem dX11_tryAllOrders_9 : decode cX11_tryAllOrders 9 = .ok (.iload_n 2, 1) := by decide +kernel
theorem dX11_tryAllOrders_10 : decode cX11_tryAllOrders 10 = .ok (.aload_n 0, 1) := by decide +kernel
theorem dX11_tryAllOrders_11 : decode cX11_tryAllOrders 11 = .ok (.getfield 24, 3) := by decide +kernel
theorem dX11_tryAllOrders_14 : decode cX11_tryAllOrders 14 = .ok (.getfield 172, 3) := by decide +kernel
theorem dX11_tryAllOrders_17 : decode cX11_tryAllOrders 17 = .ok (.if_icmp .ge 25, 3) := by decide +kernel
theorem dX11_tryAllOrders_20 : decode cX11_tryAllOrders 20 = .ok (.iload_n 1, 1) := by decide +kernel
theorem dX11_tryAllOrders_21 : decode cX11_tryAllOrders 21 = .ok (.iload_n 2, 1) := by decide +kernel
theorem dX11_tryAllOrders_22 : decode cX11_tryAllOrders 22 = .ok (.ishr, 1) := by decide +kernel
theorem dX11_tryAllOrders_23 : decode cX11_tryAllOrders 23 = .ok (.iconst 1, 1) := by decide +kernel
theorem dX11_tryAllOrders_24 : decode cX11_tryAllOrders 24 = .ok (.iand, 1) := by decide +kernel
theorem dX11_tryAllOrders_25 : decode cX11_tryAllOrders 25 = .ok (.ifCond .eq 11, 3) := by decide +kernel
theorem dX11_tryAllOrders_28 : decode cX11_tryAllOrders 28 = .ok (.aload_n 0, 1) := by decide +kernel
theorem dX11_tryAllOrders_29 : decode cX11_tryAllOrders 29 = .ok (.getfield 83, 3) := by decide +kernel
theorem dX11_tryAllOrders_32 : decode cX11_tryAllOrders 32 = .ok (.iload_n 2, 1) := by decide +kernel
theorem dX11_tryAllOrders_33 : decode cX11_tryAllOrders 33 = .ok (.invokevirtual 456, 3) := by decide +kernel
theorem dX11_tryAllOrders_36 : decode cX11_tryAllOrders 36 = .ok (.iinc 2 1, 3) := by decide +kernel
theorem dX11_tryAllOrders_39 : decode cX11_tryAllOrders 39 = .ok (.goto (-30), 3) := by decide +kernel
theorem dX11_tryAllOrders_42 : decode cX11_tryAllOrders 42 = .ok (.aload_n 0, 1) := by decide +kernel
theorem dX11_tryAllOrders_43 : decode cX11_tryAllOrders 43 = .ok (.getfield 59, 3) := by decide +kernel
theorem dX11_tryAllOrders_46 : decode cX11_tryAllOrders 46 = .ok (.aload_n 0, 1) := by decide +kernel
theorem dX11_tryAllOrders_47 : decode cX11_tryAllOrders 47 = .ok (.getfield 34, 3) := by decide +kernel
theorem dX11_tryAllOrders_50 : decode cX11_tryAllOrders 50 = .ok (.invokevirtual 198, 3) := by decide +kernel
theorem dX11_tryAllOrders_53 : decode cX11_tryAllOrders 53 = .ok (.aload_n 0, 1) := by decide +kernel
theorem dX11_tryAllOrders_54 : decode cX11_tryAllOrders 54 = .ok (.getfield 83, 3) := by decide +kernel
theorem dX11_tryAllOrders_57 : decode cX11_tryAllOrders 57 = .ok (.aload_n 0, 1) := by decide +kernel
theorem dX11_tryAllOrders_58 : decode cX11_tryAllOrders 58 = .ok (.invokevirtual 304, 3) := by decide +kernel
theorem dX11_tryAllOrders_61 : decode cX11_tryAllOrders 61 = .ok (.invokevirtual 463, 3) := by decide +kernel
theorem dX11_tryAllOrders_64 : decode cX11_tryAllOrders 64 = .ok (.iconst 1, 1) := by decide +kernel
theorem dX11_tryAllOrders_65 : decode cX11_tryAllOrders 65 = .ok (.istore_n 2, 1) := by decide +kernel
theorem dX11_tryAllOrders_66 : decode cX11_tryAllOrders 66 = .ok (.iload_n 2, 1) := by decide +kernel
theorem dX11_tryAllOrders_67 : decode cX11_tryAllOrders 67 = .ok (.sipush 720, 3) := by decide +kernel
theorem dX11_tryAllOrders_70 : decode cX11_tryAllOrders 70 = .ok (.if_icmp .ge 30, 3) := by decide +kernel
theorem dX11_tryAllOrders_73 : decode cX11_tryAllOrders 73 = .ok (.aload_n 0, 1) := by decide +kernel
theorem dX11_tryAllOrders_74 : decode cX11_tryAllOrders 74 = .ok (.getfield 83, 3) := by decide +kernel
theorem dX11_tryAllOrders_77 : decode cX11_tryAllOrders 77 = .ok (.invokevirtual 466, 3) := by decide +kernel
theorem dX11_tryAllOrders_80 : decode cX11_tryAllOrders 80 = .ok (.ifCond .eq 20, 3) := by decide +kernel
theorem dX11_tryAllOrders_83 : decode cX11_tryAllOrders 83 = .ok (.aload_n 0, 1) := by decide +kernel
theorem dX11_tryAllOrders_84 : decode cX11_tryAllOrders 84 = .ok (.getfield 83, 3) := by decide +kernel
theorem dX11_tryAllOrders_87 : decode cX11_tryAllOrders 87 = .ok (.aload_n 0, 1) := by decide +kernel
theorem dX11_tryAllOrders_88 : decode cX11_tryAllOrders 88 = .ok (.invokevirtual 304, 3) := by decide +kernel
theorem dX11_tryAllOrders_91 : decode cX11_tryAllOrders 91 = .ok (.invokevirtual 470, 3) := by decide +kernel
theorem dX11_tryAllOrders_94 : decode cX11_tryAllOrders 94 = .ok (.iinc 2 1, 3) := by decide +kernel
theorem dX11_tryAllOrders_97 : decode cX11_tryAllOrders 97 = .ok (.goto (-31), 3) := by decide +kernel
theorem dX11_tryAllOrders_100 : decode cX11_tryAllOrders 100 = .ok (.return_, 1) := by decide +kernel
theorem dX11_isWay_0 : decode cX11_isWay 0 = .ok (.iload_n 1, 1) := by decide +kernel
theorem dX11_isWay_1 : decode cX11_isWay 1 = .ok (.aload_n 0, 1) := by decide +kernel
theorem dX11_isWay_2 : decode cX11_isWay 2 = .ok (.getfield 34, 3) := by decide +kernel
theorem dX11_isWay_5 : decode cX11_isWay 5 = .ok (.getfield 243, 3) := by decide +kernel
theorem dX11_isWay_8 : decode cX11_isWay 8 = .ok (.iconst (-1), 1) := by decide +kernel
theorem dX11_isWay_9 : decode cX11_isWay 9 = .ok (.ixor, 1) := by decide +kernel
theorem dX11_isWay_10 : decode cX11_isWay 10 = .ok (.iand, 1) := by decide +kernel
theorem dX11_isWay_11 : decode cX11_isWay 11 = .ok (.ifCond .eq 5, 3) := by decide +kernel
theorem dX11_isWay_14 : decode cX11_isWay 14 = .ok (.iconst 0, 1) := by decide +kernel
theorem dX11_isWay_15 : decode cX11_isWay 15 = .ok (.ireturn, 1) := by decide +kernel
theorem dX11_isWay_16 : decode cX11_isWay 16 = .ok (.iconst 0, 1) := by decide +kernel
theorem dX11_isWay_17 : decode cX11_isWay 17 = .ok (.istore_n 3, 1) := by decide +kernel
theorem dX11_isWay_18 : decode cX11_isWay 18 = .ok (.iconst 0, 1) := by decide +kernel
theorem dX11_isWay_19 : decode cX11_isWay 19 = .ok (.istore 4, 2) := by decide +kernel
theorem dX11_isWay_21 : decode cX11_isWay 21 = .ok (.iload 4, 2) := by decide +kernel
theorem dX11_isWay_23 : decode cX11_isWay 23 = .ok (.aload_n 0, 1) := by decide +kernel
theorem dX11_isWay_24 : decode cX11_isWay 24 = .ok (.getfield 24, 3) := by decide +kernel
theorem dX11_isWay_27 : decode cX11_isWay 27 = .ok (.getfield 172, 3) := by decide +kernel
theorem dX11_isWay_30 : decode cX11_isWay 30 = .ok (.if_icmp .ge 31, 3) := by decide +kernel
theorem dX11_isWay_33 : decode cX11_isWay 33 = .ok (.iload_n 1, 1) := by decide +kernel
theorem dX11_isWay_34 : decode cX11_isWay 34 = .ok (.iload 4, 2) := by decide +kernel
theorem dX11_isWay_36 : decode cX11_isWay 36 = .ok (.ishr, 1) := by decide +kernel
theorem dX11_isWay_37 : decode cX11_isWay 37 = .ok (.iconst 1, 1) := by decide +kernel
theorem dX11_isWay_38 : decode cX11_isWay 38 = .ok (.iand, 1) := by decide +kernel
theorem dX11_isWay_39 : decode cX11_isWay 39 = .ok (.ifCond .eq 16, 3) := by decide +kernel
theorem dX11_isWay_42 : decode cX11_isWay 42 = .ok (.iload_n 3, 1) := by decide +kernel
theorem dX11_isWay_43 : decode cX11_isWay 43 = .ok (.aload_n 0, 1) := by decide +kernel
theorem dX11_isWay_44 : decode cX11_isWay 44 = .ok (.getfield 24, 3) := by decide +kernel
theorem dX11_isWay_47 : decode cX11_isWay 47 = .ok (.iload 4, 2) := by decide +kernel
theorem dX11_isWay_49 : decode cX11_isWay 49 = .ok (.iconst 1, 1) := by decide +kernel
theorem dX11_isWay_50 : decode cX11_isWay 50 = .ok (.invokevirtual 174, 3) := by decide +kernel
theorem dX11_isWay_53 : decode cX11_isWay 53 = .ok (.iadd, 1) := by decide +kernel
theorem dX11_isWay_54 : decode cX11_isWay 54 = .ok (.istore_n 3, 1) := by decide +kernel
theorem dX11_isWay_55 : decode cX11_isWay 55 = .ok (.iinc 4 1, 3) := by decide +kernel
theorem dX11_isWay_58 : decode cX11_isWay 58 = .ok (.goto (-37), 3) := by decide +kernel
theorem dX11_isWay_61 : decode cX11_isWay 61 = .ok (.iload_n 3, 1) := by decide +kernel
theorem dX11_isWay_62 : decode cX11_isWay 62 = .ok (.iload_n 2, 1) := by decide +kernel
theorem dX11_isWay_63 : decode cX11_isWay 63 = .ok (.if_icmp .ne 7, 3) := by decide +kernel
theorem dX11_isWay_66 : decode cX11_isWay 66 = .ok (.iconst 1, 1) := by decide +kernel
theorem dX11_isWay_67 : decode cX11_isWay 67 = .ok (.goto 4, 3) := by decide +kernel
theorem dX11_isWay_70 : decode cX11_isWay 70 = .ok (.iconst 0, 1) := by decide +kernel
theorem dX11_isWay_71 : decode cX11_isWay 71 = .ok (.ireturn, 1) := by decide +kernel
theorem dJ6_bitCount_0f7a4_0 : decode cJ6_bitCount_0f7a4 0 = .ok (.iload_n 0, 1) := by decide +kernel
theorem dJ6_bitCount_0f7a4_1 : decode cJ6_bitCount_0f7a4 1 = .ok (.iload_n 0, 1) := by decide +kernel
theorem dJ6_bitCount_0f7a4_2 : decode cJ6_bitCount_0f7a4 2 = .ok (.iconst 1, 1) := by decide +kernel
theorem dJ6_bitCount_0f7a4_3 : decode cJ6_bitCount_0f7a4 3 = .ok (.iushr, 1) := by decide +kernel
theorem dJ6_bitCount_0f7a4_4 : decode cJ6_bitCount_0f7a4 4 = .ok (.ldc_w 265, 3) := by decide +kernel
theorem dJ6_bitCount_0f7a4_7 : decode cJ6_bitCount_0f7a4 7 = .ok (.iand, 1) := by decide +kernel
theorem dJ6_bitCount_0f7a4_8 : decode cJ6_bitCount_0f7a4 8 = .ok (.isub, 1) := by decide +kernel
theorem dJ6_bitCount_0f7a4_9 : decode cJ6_bitCount_0f7a4 9 = .ok (.istore_n 0, 1) := by decide +kernel
theorem dJ6_bitCount_0f7a4_10 : decode cJ6_bitCount_0f7a4 10 = .ok (.iload_n 0, 1) := by decide +kernel
theorem dJ6_bitCount_0f7a4_11 : decode cJ6_bitCount_0f7a4 11 = .ok (.ldc_w 266, 3) := by decide +kernel
theorem dJ6_bitCount_0f7a4_14 : decode cJ6_bitCount_0f7a4 14 = .ok (.iand, 1) := by decide +kernel
theorem dJ6_bitCount_0f7a4_15 : decode cJ6_bitCount_0f7a4 15 = .ok (.iload_n 0, 1) := by decide +kernel
theorem dJ6_bitCount_0f7a4_16 : decode cJ6_bitCount_0f7a4 16 = .ok (.iconst 2, 1) := by decide +kernel
theorem dJ6_bitCount_0f7a4_17 : decode cJ6_bitCount_0f7a4 17 = .ok (.iushr, 1) := by decide +kernel
theorem dJ6_bitCount_0f7a4_18 : decode cJ6_bitCount_0f7a4 18 = .ok (.ldc_w 266, 3) := by decide +kernel
theorem dJ6_bitCount_0f7a4_21 : decode cJ6_bitCount_0f7a4 21 = .ok (.iand, 1) := by decide +kernel
theorem dJ6_bitCount_0f7a4_22 : decode cJ6_bitCount_0f7a4 22 = .ok (.iadd, 1) := by decide +kernel
theorem dJ6_bitCount_0f7a4_23 : decode cJ6_bitCount_0f7a4 23 = .ok (.istore_n 0, 1) := by decide +kernel
theorem dJ6_bitCount_0f7a4_24 : decode cJ6_bitCount_0f7a4 24 = .ok (.iload_n 0, 1) := by decide +kernel
theorem dJ6_bitCount_0f7a4_25 : decode cJ6_bitCount_0f7a4 25 = .ok (.iload_n 0, 1) := by decide +kernel
theorem dJ6_bitCount_0f7a4_26 : decode cJ6_bitCount_0f7a4 26 = .ok (.iconst 4, 1) := by decide +kernel
theorem dJ6_bitCount_0f7a4_27 : decode cJ6_bitCount_0f7a4 27 = .ok (.iushr, 1) := by decide +kernel
theorem dJ6_bitCount_0f7a4_28 : decode cJ6_bitCount_0f7a4 28 = .ok (.iadd, 1) := by decide +kernel
theorem dJ6_bitCount_0f7a4_29 : decode cJ6_bitCount_0f7a4 29 = .ok (.ldc_w 267, 3) := by decide +kernel
theorem dJ6_bitCount_0f7a4_32 : decode cJ6_bitCount_0f7a4 32 = .ok (.iand, 1) := by decide +kernel
theorem dJ6_bitCount_0f7a4_33 : decode cJ6_bitCount_0f7a4 33 = .ok (.istore_n 0, 1) := by decide +kernel
theorem dJ6_bitCount_0f7a4_34 : decode cJ6_bitCount_0f7a4 34 = .ok (.iload_n 0, 1) := by decide +kernel
theorem dJ6_bitCount_0f7a4_35 : decode cJ6_bitCount_0f7a4 35 = .ok (.iload_n 0, 1) := by decide +kernel
theorem dJ6_bitCount_0f7a4_36 : decode cJ6_bitCount_0f7a4 36 = .ok (.bipush 8, 2) := by decide +kernel
theorem dJ6_bitCount_0f7a4_38 : decode cJ6_bitCount_0f7a4 38 = .ok (.iushr, 1) := by decide +kernel
theorem dJ6_bitCount_0f7a4_39 : decode cJ6_bitCount_0f7a4 39 = .ok (.iadd, 1) := by decide +kernel
theorem dJ6_bitCount_0f7a4_40 : decode cJ6_bitCount_0f7a4 40 = .ok (.istore_n 0, 1) := by decide +kernel
theorem dJ6_bitCount_0f7a4_41 : decode cJ6_bitCount_0f7a4 41 = .ok (.iload_n 0, 1) := by decide +kernel
theorem dJ6_bitCount_0f7a4_42 : decode cJ6_bitCount_0f7a4 42 = .ok (.iload_n 0, 1) := by decide +kernel
theorem dJ6_bitCount_0f7a4_43 : decode cJ6_bitCount_0f7a4 43 = .ok (.bipush 16, 2) := by decide +kernel
theorem dJ6_bitCount_0f7a4_45 : decode cJ6_bitCount_0f7a4 45 = .ok (.iushr, 1) := by decide +kernel
theorem dJ6_bitCount_0f7a4_46 : decode cJ6_bitCount_0f7a4 46 = .ok (.iadd, 1) := by decide +kernel
theorem dJ6_bitCount_0f7a4_47 : decode cJ6_bitCount_0f7a4 47 = .ok (.istore_n 0, 1) := by decide +kernel
theorem dJ6_bitCount_0f7a4_48 : decode cJ6_bitCount_0f7a4 48 = .ok (.iload_n 0, 1) := by decide +kernel
theorem dJ6_bitCount_0f7a4_49 : decode cJ6_bitCount_0f7a4 49 = .ok (.bipush 63, 2) := by decide +kernel
theorem dJ6_bitCount_0f7a4_51 : decode cJ6_bitCount_0f7a4 51 = .ok (.iand, 1) := by decide +kernel
theorem dJ6_bitCount_0f7a4_52 : decode cJ6_bitCount_0f7a4 52 = .ok (.ireturn, 1) := by decide +kernel
theorem dJ9_abs_0f7a4_0 : decode cJ9_abs_0f7a4 0 = .ok (.iload_n 0, 1) := by decide +kernel
theorem dJ9_abs_0f7a4_1 : decode cJ9_abs_0f7a4 1 = .ok (.ifCond .ge 8, 3) := by decide +kernel
theorem dJ9_abs_0f7a4_4 : decode cJ9_abs_0f7a4 4 = .ok (.iload_n 0, 1) := by decide +kernel
theorem dJ9_abs_0f7a4_5 : decode cJ9_abs_0f7a4 5 = .ok (.ineg, 1) := by decide +kernel
theorem dJ9_abs_0f7a4_6 : decode cJ9_abs_0f7a4 6 = .ok (.goto 4, 3) := by decide +kernel
theorem dJ9_abs_0f7a4_9 : decode cJ9_abs_0f7a4 9 = .ok (.iload_n 0, 1) := by decide +kernel
theorem dJ9_abs_0f7a4_10 : decode cJ9_abs_0f7a4 10 = .ok (.ireturn, 1) := by decide +kernel
theorem dJ9_max_7cf53_0 : decode cJ9_max_7cf53 0 = .ok (.iload_n 0, 1) := by decide +kernel
theorem dJ9_max_7cf53_1 : decode cJ9_max_7cf53 1 = .ok (.iload_n 1, 1) := by decide +kernel
theorem dJ9_max_7cf53_2 : decode cJ9_max_7cf53 2 = .ok (.if_icmp .lt 7, 3) := by decide +kernel
theorem dJ9_max_7cf53_5 : decode cJ9_max_7cf53 5 = .ok (.iload_n 0, 1) := by decide +kernel
theorem dJ9_max_7cf53_6 : decode cJ9_max_7cf53 6 = .ok (.goto 4, 3) := by decide +kernel
theorem dJ9_max_7cf53_9 : decode cJ9_max_7cf53 9 = .ok (.iload_n 1, 1) := by decide +kernel
theorem dJ9_max_7cf53_10 : decode cJ9_max_7cf53 10 = .ok (.ireturn, 1) := by decide +kernel
theorem dJ9_min_7cf53_0 : decode cJ9_min_7cf53 0 = .ok (.iload_n 0, 1) := by decide +kernel
theorem dJ9_min_7cf53_1 : decode cJ9_min_7cf53 1 = .ok (.iload_n 1, 1) := by decide +kernel
theorem dJ9_min_7cf53_2 : decode cJ9_min_7cf53 2 = .ok (.if_icmp .gt 7, 3) := by decide +kernel
theorem dJ9_min_7cf53_5 : decode cJ9_min_7cf53 5 = .ok (.iload_n 0, 1) := by decide +kernel
theorem dJ9_min_7cf53_6 : decode cJ9_min_7cf53 6 = .ok (.goto 4, 3) := by decide +kernel
theorem dJ9_min_7cf53_9 : decode cJ9_min_7cf53 9 = .ok (.iload_n 1, 1) := by decide +kernel
theorem dJ9_min_7cf53_10 : decode cJ9_min_7cf53 10 = .ok (.ireturn, 1) := by decide +kernel
theorem dL_low_0 : decode cL_low 0 = .ok (.iload_n 0, 1) := by decide +kernel
theorem dL_low_1 : decode cL_low 1 = .ok (.ldc 7, 2) := by decide +kernel
theorem dL_low_3 : decode cL_low 3 = .ok (.iand, 1) := by decide +kernel
theorem dL_low_4 : decode cL_low 4 = .ok (.iload_n 1, 1) := by decide +kernel
theorem dL_low_5 : decode cL_low 5 = .ok (.irem, 1) := by decide +kernel
theorem dL_low_6 : decode cL_low 6 = .ok (.ireturn, 1) := by decide +kernel
theorem dL_cell_0 : decode cL_cell 0 = .ok (.iload_n 1, 1) := by decide +kernel
theorem dL_cell_1 : decode cL_cell 1 = .ok (.aload_n 0, 1) := by decide +kernel
theorem dL_cell_2 : decode cL_cell 2 = .ok (.arraylength, 1) := by decide +kernel
theorem dL_cell_3 : decode cL_cell 3 = .ok (.if_icmp .ge 9, 3) := by decide +kernel
theorem dL_cell_6 : decode cL_cell 6 = .ok (.aload_n 0, 1) := by decide +kernel
theorem dL_cell_7 : decode cL_cell 7 = .ok (.iload_n 1, 1) := by decide +kernel
theorem dL_cell_8 : decode cL_cell 8 = .ok (.iaload, 1) := by decide +kernel
theorem dL_cell_9 : decode cL_cell 9 = .ok (.goto 11, 3) := by decide +kernel
theorem dL_cell_12 : decode cL_cell 12 = .ok (.ldc 8, 2) := by decide +kernel
theorem dL_cell_14 : decode cL_cell 14 = .ok (.iload_n 1, 1) := by decide +kernel
theorem dL_cell_15 : decode cL_cell 15 = .ok (.imul, 1) := by decide +kernel
theorem dL_cell_16 : decode cL_cell 16 = .ok (.sipush 977, 3) := by decide +kernel
theorem dL_cell_19 : decode cL_cell 19 = .ok (.iadd, 1) := by decide +kernel
theorem dL_cell_20 : decode cL_cell 20 = .ok (.ireturn, 1) := by decide +kernel
theorem dL_told_0 : decode cL_told 0 = .ok (.iload_n 1, 1) := by decide +kernel
theorem dL_told_1 : decode cL_told 1 = .ok (.iconst 1, 1) := by decide +kernel
theorem dL_told_2 : decode cL_told 2 = .ok (.if_icmp .ne 10, 3) := by decide +kernel
theorem dL_told_5 : decode cL_told 5 = .ok (.aload_n 0, 1) := by decide +kernel
theorem dL_told_6 : decode cL_told 6 = .ok (.invokevirtual 9, 3) := by decide +kernel
theorem dL_told_9 : decode cL_told 9 = .ok (.goto 6, 3) := by decide +kernel
theorem dL_told_12 : decode cL_told 12 = .ok (.sipush (-7777), 3) := by decide +kernel
theorem dL_told_15 : decode cL_told 15 = .ok (.ireturn, 1) := by decide +kernel
theorem dL_office_0 : decode cL_office 0 = .ok (.bipush 60, 2) := by decide +kernel
theorem dL_office_2 : decode cL_office 2 = .ok (.newarray .int, 2) := by decide +kernel
theorem dL_office_4 : decode cL_office 4 = .ok (.astore 5, 2) := by decide +kernel
theorem dL_office_6 : decode cL_office 6 = .ok (.iconst 0, 1) := by decide +kernel
theorem dL_office_7 : decode cL_office 7 = .ok (.istore 6, 2) := by decide +kernel
theorem dL_office_9 : decode cL_office 9 = .ok (.iconst 0, 1) := by decide +kernel
theorem dL_office_10 : decode cL_office 10 = .ok (.istore 7, 2) := by decide +kernel
theorem dL_office_12 : decode cL_office 12 = .ok (.iload 7, 2) := by decide +kernel
theorem dL_office_14 : decode cL_office 14 = .ok (.iload_n 3, 1) := by decide +kernel
theorem dL_office_15 : decode cL_office 15 = .ok (.if_icmp .ge 345, 3) := by decide +kernel
theorem dL_office_18 : decode cL_office 18 = .ok (.aload_n 1, 1) := by decide +kernel
theorem dL_office_19 : decode cL_office 19 = .ok (.iload_n 2, 1) := by decide +kernel
theorem dL_office_20 : decode cL_office 20 = .ok (.iload 7, 2) := by decide +kernel
theorem dL_office_22 : decode cL_office 22 = .ok (.iadd, 1) := by decide +kernel
theorem dL_office_23 : decode cL_office 23 = .ok (.invokestatic 15, 3) := by decide +kernel
theorem dL_office_26 : decode cL_office 26 = .ok (.istore 8, 2) := by decide +kernel
theorem dL_office_28 : decode cL_office 28 = .ok (.iload 8, 2) := by decide +kernel
theorem dL_office_30 : decode cL_office 30 = .ok (.bipush 8, 2) := by decide +kernel
theorem dL_office_32 : decode cL_office 32 = .ok (.invokestatic 21, 3) := by decide +kernel
theorem dL_office_35 : decode cL_office 35 = .ok (.iconst 2, 1) := by decide +kernel
theorem dL_office_36 : decode cL_office 36 = .ok (.if_icmp .ge 7, 3) := by decide +kernel
theorem dL_office_39 : decode cL_office 39 = .ok (.iconst 0, 1) := by decide +kernel
theorem dL_office_40 : decode cL_office 40 = .ok (.goto 12, 3) := by decide +kernel
theorem dL_office_43 : decode cL_office 43 = .ok (.iload 8, 2) := by decide +kernel
theorem dL_office_45 : decode cL_office 45 = .ok (.bipush 8, 2) := by decide +kernel
theorem dL_office_47 : decode cL_office 47 = .ok (.invokestatic 21, 3) := by decide +kernel
theorem dL_office_50 : decode cL_office 50 = .ok (.iconst 2, 1) := by decide +kernel
theorem dL_office_51 : decode cL_office 51 = .ok (.isub, 1) := by decide +kernel
theorem dL_office_52 : decode cL_office 52 = .ok (.istore 9, 2) := by decide +kernel
theorem dL_office_54 : decode cL_office 54 = .ok (.aload 4, 2) := by decide +kernel
theorem dL_office_56 : decode cL_office 56 = .ok (.bipush 6, 2) := by decide +kernel
theorem dL_office_58 : decode cL_office 58 = .ok (.iload 7, 2) := by decide +kernel
theorem dL_office_60 : decode cL_office 60 = .ok (.imul, 1) := by decide +kernel
theorem dL_office_61 : decode cL_office 61 = .ok (.iload 9, 2) := by decide +kernel
theorem dL_office_63 : decode cL_office 63 = .ok (.iastore, 1) := by decide +kernel
theorem dL_office_64 : decode cL_office 64 = .ok (.aload 4, 2) := by decide +kernel
theorem dL_office_66 : decode cL_office 66 = .ok (.bipush 6, 2) := by decide +kernel
theorem dL_office_68 : decode cL_office 68 = .ok (.iload 7, 2) := by decide +kernel
theorem dL_office_70 : decode cL_office 70 = .ok (.imul, 1) := by decide +kernel
theorem dL_office_71 : decode cL_office 71 = .ok (.iconst 1, 1) := by decide +kernel
theorem dL_office_72 : decode cL_office 72 = .ok (.iadd, 1) := by decide +kernel
theorem dL_office_73 : decode cL_office 73 = .ok (.iload 8, 2) := by decide +kernel
theorem dL_office_75 : decode cL_office 75 = .ok (.iconst 3, 1) := by decide +kernel
theorem dL_office_76 : decode cL_office 76 = .ok (.ishr, 1) := by decide +kernel
theorem dL_office_77 : decode cL_office 77 = .ok (.bipush 10, 2) := by decide +kernel
theorem dL_office_79 : decode cL_office 79 = .ok (.invokestatic 21, 3) := by decide +kernel
theorem dL_office_82 : decode cL_office 82 = .ok (.iastore, 1) := by decide +kernel
theorem dL_office_83 : decode cL_office 83 = .ok (.aload 4, 2) := by decide +kernel
theorem dL_office_85 : decode cL_office 85 = .ok (.bipush 6, 2) := by decide +kernel
theorem dL_office_87 : decode cL_office 87 = .ok (.iload 7, 2) := by decide +kernel
theorem dL_office_89 : decode cL_office 89 = .ok (.imul, 1) := by decide +kernel
theorem dL_office_90 : decode cL_office 90 = .ok (.iconst 2, 1) := by decide +kernel
theorem dL_office_91 : decode cL_office 91 = .ok (.iadd, 1) := by decide +kernel
theorem dL_office_92 : decode cL_office 92 = .ok (.iload 8, 2) := by decide +kernel
theorem dL_office_94 : decode cL_office 94 = .ok (.bipush 7, 2) := by decide +kernel
theorem dL_office_96 : decode cL_office 96 = .ok (.ishr, 1) := by decide +kernel
theorem dL_office_97 : decode cL_office 97 = .ok (.bipush 10, 2) := by decide +kernel
theorem dL_office_99 : decode cL_office 99 = .ok (.invokestatic 21, 3) := by decide +kernel
theorem dL_office_102 : decode cL_office 102 = .ok (.iastore, 1) := by decide +kernel
theorem dL_office_103 : decode cL_office 103 = .ok (.aload 4, 2) := by decide +kernel
theorem dL_office_105 : decode cL_office 105 = .ok (.bipush 6, 2) := by decide +kernel
theorem dL_office_107 : decode cL_office 107 = .ok (.iload 7, 2) := by decide +kernel
theorem dL_office_109 : decode cL_office 109 = .ok (.imul, 1) := by decide +kernel
theorem dL_office_110 : decode cL_office 110 = .ok (.iconst 3, 1) := by decide +kernel
theorem dL_office_111 : decode cL_office 111 = .ok (.iadd, 1) := by decide +kernel
theorem dL_office_112 : decode cL_office 112 = .ok (.iload 8, 2) := by decide +kernel
theorem dL_office_114 : decode cL_office 114 = .ok (.bipush 11, 2) := by decide +kernel
theorem dL_office_116 : decode cL_office 116 = .ok (.ishr, 1) := by decide +kernel
theorem dL_office_117 : decode cL_office 117 = .ok (.iload 8, 2) := by decide +kernel
theorem dL_office_119 : decode cL_office 119 = .ok (.bipush 24, 2) := by decide +kernel
theorem dL_office_121 : decode cL_office 121 = .ok (.ishr, 1) := by decide +kernel
theorem dL_office_122 : decode cL_office 122 = .ok (.iconst 2, 1) := by decide +kernel
theorem dL_office_123 : decode cL_office 123 = .ok (.invokestatic 21, 3) := by decide +kernel
theorem dL_office_126 : decode cL_office 126 = .ok (.ifCond .ne 7, 3) := by decide +kernel
theorem dL_office_129 : decode cL_office 129 = .ok (.iconst 3, 1) := by decide +kernel
theorem dL_office_130 : decode cL_office 130 = .ok (.goto 5, 3) := by decide +kernel
theorem dL_office_133 : decode cL_office 133 = .ok (.bipush 10, 2) := by decide +kernel
theorem dL_office_135 : decode cL_office 135 = .ok (.invokestatic 21, 3) := by decide +kernel
theorem dL_office_138 : decode cL_office 138 = .ok (.iastore, 1) := by decide +kernel
theorem dL_office_139 : decode cL_office 139 = .ok (.iload 8, 2) := by decide +kernel
theorem dL_office_141 : decode cL_office 141 = .ok (.bipush 14, 2) := by decide +kernel
theorem dL_office_143 : decode cL_office 143 = .ok (.ishr, 1) := by decide +kernel
theorem dL_office_144 : decode cL_office 144 = .ok (.bipush 6, 2) := by decide +kernel
theorem dL_office_146 : decode cL_office 146 = .ok (.invokestatic 21, 3) := by decide +kernel
theorem dL_office_149 : decode cL_office 149 = .ok (.istore 10, 2) := by decide +kernel
theorem dL_office_151 : decode cL_office 151 = .ok (.aload 4, 2) := by decide +kernel
theorem dL_office_153 : decode cL_office 153 = .ok (.bipush 6, 2) := by decide +kernel
theorem dL_office_155 : decode cL_office 155 = .ok (.iload 7, 2) := by decide +kernel
theorem dL_office_157 : decode cL_office 157 = .ok (.imul, 1) := by decide +kernel
theorem dL_office_158 : decode cL_office 158 = .ok (.iconst 4, 1) := by decide +kernel
theorem dL_office_159 : decode cL_office 159 = .ok (.iadd, 1) := by decide +kernel
theorem dL_office_160 : decode cL_office 160 = .ok (.iload 9, 2) := by decide +kernel
theorem dL_office_162 : decode cL_office 162 = .ok (.iconst 2, 1) := by decide +kernel
theorem dL_office_163 : decode cL_office 163 = .ok (.if_icmp .ne 18, 3) := by decide +kernel
theorem dL_office_166 : decode cL_office 166 = .ok (.iconst 1, 1) := by decide +kernel
theorem dL_office_167 : decode cL_office 167 = .ok (.iload 8, 2) := by decide +kernel
theorem dL_office_169 : decode cL_office 169 = .ok (.bipush 14, 2) := by decide +kernel
theorem dL_office_171 : decode cL_office 171 = .ok (.ishr, 1) := by decide +kernel
theorem dL_office_172 : decode cL_office 172 = .ok (.bipush 9, 2) := by decide +kernel
theorem dL_office_174 : decode cL_office 174 = .ok (.invokestatic 21, 3) := by decide +kernel
theorem dL_office_177 : decode cL_office 177 = .ok (.iadd, 1) := by decide +kernel
theorem dL_office_178 : decode cL_office 178 = .ok (.goto 16, 3) := by decide +kernel
theorem dL_office_181 : decode cL_office 181 = .ok (.iload 9, 2) := by decide +kernel
theorem dL_office_183 : decode cL_office 183 = .ok (.iconst 3, 1) := by decide +kernel
theorem dL_office_184 : decode cL_office 184 = .ok (.if_icmp .ne 8, 3) := by decide +kernel
theorem dL_office_187 : decode cL_office 187 = .ok (.iload 10, 2) := by decide +kernel
theorem dL_office_189 : decode cL_office 189 = .ok (.goto 5, 3) := by decide +kernel
theorem dL_office_192 : decode cL_office 192 = .ok (.bipush (-9), 2) := by decide +kernel
theorem dL_office_194 : decode cL_office 194 = .ok (.iastore, 1) := by decide +kernel
theorem dL_office_195 : decode cL_office 195 = .ok (.aload 4, 2) := by decide +kernel
theorem dL_office_197 : decode cL_office 197 = .ok (.bipush 6, 2) := by decide +kernel
theorem dL_office_199 : decode cL_office 199 = .ok (.iload 7, 2) := by decide +kernel
theorem dL_office_201 : decode cL_office 201 = .ok (.imul, 1) := by decide +kernel
theorem dL_office_202 : decode cL_office 202 = .ok (.iconst 5, 1) := by decide +kernel
theorem dL_office_203 : decode cL_office 203 = .ok (.iadd, 1) := by decide +kernel
theorem dL_office_204 : decode cL_office 204 = .ok (.iload 9, 2) := by decide +kernel
theorem dL_office_206 : decode cL_office 206 = .ok (.iconst 3, 1) := by decide +kernel
theorem dL_office_207 : decode cL_office 207 = .ok (.if_icmp .ne 22, 3) := by decide +kernel
theorem dL_office_210 : decode cL_office 210 = .ok (.iload 10, 2) := by decide +kernel
theorem dL_office_212 : decode cL_office 212 = .ok (.iload 8, 2) := by decide +kernel
theorem dL_office_214 : decode cL_office 214 = .ok (.bipush 18, 2) := by decide +kernel
theorem dL_office_216 : decode cL_office 216 = .ok (.ishr, 1) := by decide +kernel
theorem dL_office_217 : decode cL_office 217 = .ok (.bipush 10, 2) := by decide +kernel
theorem dL_office_219 : decode cL_office 219 = .ok (.iload 10, 2) := by decide +kernel
theorem dL_office_221 : decode cL_office 221 = .ok (.isub, 1) := by decide +kernel
theorem dL_office_222 : decode cL_office 222 = .ok (.invokestatic 21, 3) := by decide +kernel
theorem dL_office_225 : decode cL_office 225 = .ok (.iadd, 1) := by decide +kernel
theorem dL_office_226 : decode cL_office 226 = .ok (.goto 5, 3) := by decide +kernel
theorem dL_office_229 : decode cL_office 229 = .ok (.bipush (-9), 2) := by decide +kernel
theorem dL_office_231 : decode cL_office 231 = .ok (.iastore, 1) := by decide +kernel
theorem dL_office_232 : decode cL_office 232 = .ok (.aload 5, 2) := by decide +kernel
theorem dL_office_234 : decode cL_office 234 = .ok (.iload 6, 2) := by decide +kernel
theorem dL_office_236 : decode cL_office 236 = .ok (.iload 9, 2) := by decide +kernel
theorem dL_office_238 : decode cL_office 238 = .ok (.ifCond .ne 8, 3) := by decide +kernel
theorem dL_office_241 : decode cL_office 241 = .ok (.bipush 104, 2) := by decide +kernel
theorem dL_office_243 : decode cL_office 243 = .ok (.goto 49, 3) := by decide +kernel
theorem dL_office_246 : decode cL_office 246 = .ok (.iload 9, 2) := by decide +kernel
theorem dL_office_248 : decode cL_office 248 = .ok (.iconst 1, 1) := by decide +kernel
theorem dL_office_249 : decode cL_office 249 = .ok (.if_icmp .ne 8, 3) := by decide +kernel
theorem dL_office_252 : decode cL_office 252 = .ok (.bipush 113, 2) := by decide +kernel
theorem dL_office_254 : decode cL_office 254 = .ok (.goto 38, 3) := by decide +kernel
theorem dL_office_257 : decode cL_office 257 = .ok (.iload 9, 2) := by decide +kernel
theorem dL_office_259 : decode cL_office 259 = .ok (.iconst 2, 1) := by decide +kernel
theorem dL_office_260 : decode cL_office 260 = .ok (.if_icmp .ne 8, 3) := by decide +kernel
theorem dL_office_263 : decode cL_office 263 = .ok (.bipush 112, 2) := by decide +kernel
theorem dL_office_265 : decode cL_office 265 = .ok (.goto 27, 3) := by decide +kernel
theorem dL_office_268 : decode cL_office 268 = .ok (.iload 9, 2) := by decide +kernel
theorem dL_office_270 : decode cL_office 270 = .ok (.iconst 3, 1) := by decide +kernel
theorem dL_office_271 : decode cL_office 271 = .ok (.if_icmp .ne 8, 3) := by decide +kernel
theorem dL_office_274 : decode cL_office 274 = .ok (.bipush 97, 2) := by decide +kernel
theorem dL_office_276 : decode cL_office 276 = .ok (.goto 16, 3) := by decide +kernel
theorem dL_office_279 : decode cL_office 279 = .ok (.iload 9, 2) := by decide +kernel
theorem dL_office_281 : decode cL_office 281 = .ok (.iconst 4, 1) := by decide +kernel
theorem dL_office_282 : decode cL_office 282 = .ok (.if_icmp .ne 8, 3) := by decide +kernel
theorem dL_office_285 : decode cL_office 285 = .ok (.bipush 99, 2) := by decide +kernel
theorem dL_office_287 : decode cL_office 287 = .ok (.goto 5, 3) := by decide +kernel
theorem dL_office_290 : decode cL_office 290 = .ok (.bipush 101, 2) := by decide +kernel
theorem dL_office_292 : decode cL_office 292 = .ok (.iastore, 1) := by decide +kernel
theorem dL_office_293 : decode cL_office 293 = .ok (.iinc 6 1, 3) := by decide +kernel
theorem dL_office_296 : decode cL_office 296 = .ok (.iconst 1, 1) := by decide +kernel
theorem dL_office_297 : decode cL_office 297 = .ok (.istore 11, 2) := by decide +kernel
theorem dL_office_299 : decode cL_office 299 = .ok (.iload 11, 2) := by decide +kernel
theorem dL_office_301 : decode cL_office 301 = .ok (.iload 9, 2) := by decide +kernel
theorem dL_office_303 : decode cL_office 303 = .ok (.iconst 2, 1) := by decide +kernel
theorem dL_office_304 : decode cL_office 304 = .ok (.if_icmp .ne 7, 3) := by decide +kernel
theorem dL_office_307 : decode cL_office 307 = .ok (.iconst 5, 1) := by decide +kernel
theorem dL_office_308 : decode cL_office 308 = .ok (.goto 15, 3) := by decide +kernel
theorem dL_office_311 : decode cL_office 311 = .ok (.iload 9, 2) := by decide +kernel
theorem dL_office_313 : decode cL_office 313 = .ok (.iconst 3, 1) := by decide +kernel
theorem dL_office_314 : decode cL_office 314 = .ok (.if_icmp .ne 8, 3) := by decide +kernel
theorem dL_office_317 : decode cL_office 317 = .ok (.bipush 6, 2) := by decide +kernel
theorem dL_office_319 : decode cL_office 319 = .ok (.goto 4, 3) := by decide +kernel
theorem dL_office_322 : decode cL_office 322 = .ok (.iconst 4, 1) := by decide +kernel
theorem dL_office_323 : decode cL_office 323 = .ok (.if_icmp .ge 31, 3) := by decide +kernel
theorem dL_office_326 : decode cL_office 326 = .ok (.aload 5, 2) := by decide +kernel
theorem dL_office_328 : decode cL_office 328 = .ok (.iload 6, 2) := by decide +kernel
theorem dL_office_330 : decode cL_office 330 = .ok (.bipush 48, 2) := by decide +kernel
theorem dL_office_332 : decode cL_office 332 = .ok (.aload 4, 2) := by decide +kernel
theorem dL_office_334 : decode cL_office 334 = .ok (.bipush 6, 2) := by decide +kernel
theorem dL_office_336 : decode cL_office 336 = .ok (.iload 7, 2) := by decide +kernel
theorem dL_office_338 : decode cL_office 338 = .ok (.imul, 1) := by decide +kernel
theorem dL_office_339 : decode cL_office 339 = .ok (.iload 11, 2) := by decide +kernel
theorem dL_office_341 : decode cL_office 341 = .ok (.iadd, 1) := by decide +kernel
theorem dL_office_342 : decode cL_office 342 = .ok (.iaload, 1) := by decide +kernel
theorem dL_office_343 : decode cL_office 343 = .ok (.iadd, 1) := by decide +kernel
theorem dL_office_344 : decode cL_office 344 = .ok (.iastore, 1) := by decide +kernel
theorem dL_office_345 : decode cL_office 345 = .ok (.iinc 6 1, 3) := by decide +kernel
theorem dL_office_348 : decode cL_office 348 = .ok (.iinc 11 1, 3) := by decide +kernel
theorem dL_office_351 : decode cL_office 351 = .ok (.goto (-52), 3) := by decide +kernel
theorem dL_office_354 : decode cL_office 354 = .ok (.iinc 7 1, 3) := by decide +kernel
theorem dL_office_357 : decode cL_office 357 = .ok (.goto (-345), 3) := by decide +kernel
theorem dL_office_360 : decode cL_office 360 = .ok (.aload_n 0, 1) := by decide +kernel
theorem dL_office_361 : decode cL_office 361 = .ok (.iconst 3, 1) := by decide +kernel
theorem dL_office_362 : decode cL_office 362 = .ok (.iload 6, 2) := by decide +kernel
theorem dL_office_364 : decode cL_office 364 = .ok (.invokevirtual 25, 3) := by decide +kernel
theorem dL_office_367 : decode cL_office 367 = .ok (.iload 6, 2) := by decide +kernel
theorem dL_office_369 : decode cL_office 369 = .ok (.if_icmp .ne 7, 3) := by decide +kernel
theorem dL_office_372 : decode cL_office 372 = .ok (.iconst 1, 1) := by decide +kernel
theorem dL_office_373 : decode cL_office 373 = .ok (.goto 4, 3) := by decide +kernel
theorem dL_office_376 : decode cL_office 376 = .ok (.iconst 0, 1) := by decide +kernel
theorem dL_office_377 : decode cL_office 377 = .ok (.istore 7, 2) := by decide +kernel
theorem dL_office_379 : decode cL_office 379 = .ok (.iconst 0, 1) := by decide +kernel
theorem dL_office_380 : decode cL_office 380 = .ok (.istore 8, 2) := by decide +kernel
theorem dL_office_382 : decode cL_office 382 = .ok (.iload 8, 2) := by decide +kernel
theorem dL_office_384 : decode cL_office 384 = .ok (.iload 6, 2) := by decide +kernel
theorem dL_office_386 : decode cL_office 386 = .ok (.if_icmp .ge 39, 3) := by decide +kernel
theorem dL_office_389 : decode cL_office 389 = .ok (.iload 7, 2) := by decide +kernel
theorem dL_office_391 : decode cL_office 391 = .ok (.ifCond .eq 34, 3) := by decide +kernel
theorem dL_office_394 : decode cL_office 394 = .ok (.aload_n 0, 1) := by decide +kernel
theorem dL_office_395 : decode cL_office 395 = .ok (.iconst 3, 1) := by decide +kernel
theorem dL_office_396 : decode cL_office 396 = .ok (.iload 8, 2) := by decide +kernel
theorem dL_office_398 : decode cL_office 398 = .ok (.aload 5, 2) := by decide +kernel
theorem dL_office_400 : decode cL_office 400 = .ok (.iload 8, 2) := by decide +kernel
theorem dL_office_402 : decode cL_office 402 = .ok (.iaload, 1) := by decide +kernel
theorem dL_office_403 : decode cL_office 403 = .ok (.invokevirtual 28, 3) := by decide +kernel
theorem dL_office_406 : decode cL_office 406 = .ok (.sipush 1032, 3) := by decide +kernel
theorem dL_office_409 : decode cL_office 409 = .ok (.if_icmp .ne 7, 3) := by decide +kernel
theorem dL_office_412 : decode cL_office 412 = .ok (.iconst 1, 1) := by decide +kernel
theorem dL_office_413 : decode cL_office 413 = .ok (.goto 4, 3) := by decide +kernel
theorem dL_office_416 : decode cL_office 416 = .ok (.iconst 0, 1) := by decide +kernel
theorem dL_office_417 : decode cL_office 417 = .ok (.istore 7, 2) := by decide +kernel
theorem dL_office_419 : decode cL_office 419 = .ok (.iinc 8 1, 3) := by decide +kernel
theorem dL_office_422 : decode cL_office 422 = .ok (.goto (-40), 3) := by decide +kernel
theorem dL_office_425 : decode cL_office 425 = .ok (.iload 7, 2) := by decide +kernel
theorem dL_office_427 : decode cL_office 427 = .ok (.ifCond .eq 26, 3) := by decide +kernel
theorem dL_office_430 : decode cL_office 430 = .ok (.aload_n 0, 1) := by decide +kernel
theorem dL_office_431 : decode cL_office 431 = .ok (.iconst 3, 1) := by decide +kernel
theorem dL_office_432 : decode cL_office 432 = .ok (.invokevirtual 32, 3) := by decide +kernel
theorem dL_office_435 : decode cL_office 435 = .ok (.bipush (-9), 2) := by decide +kernel
theorem dL_office_437 : decode cL_office 437 = .ok (.if_icmp .ne 16, 3) := by decide +kernel
theorem dL_office_440 : decode cL_office 440 = .ok (.aload_n 0, 1) := by decide +kernel
theorem dL_office_441 : decode cL_office 441 = .ok (.iconst 3, 1) := by decide +kernel
theorem dL_office_442 : decode cL_office 442 = .ok (.invokevirtual 36, 3) := by decide +kernel
theorem dL_office_445 : decode cL_office 445 = .ok (.iload_n 3, 1) := by decide +kernel
theorem dL_office_446 : decode cL_office 446 = .ok (.if_icmp .ne 7, 3) := by decide +kernel
theorem dL_office_449 : decode cL_office 449 = .ok (.iconst 1, 1) := by decide +kernel
theorem dL_office_450 : decode cL_office 450 = .ok (.goto 4, 3) := by decide +kernel
theorem dL_office_453 : decode cL_office 453 = .ok (.iconst 0, 1) := by decide +kernel
theorem dL_office_454 : decode cL_office 454 = .ok (.ireturn, 1) := by decide +kernel
theorem dL_bits_0 : decode cL_bits 0 = .ok (.iconst 0, 1) := by decide +kernel
theorem dL_bits_1 : decode cL_bits 1 = .ok (.istore_n 1, 1) := by decide +kernel
theorem dL_bits_2 : decode cL_bits 2 = .ok (.iconst 0, 1) := by decide +kernel
theorem dL_bits_3 : decode cL_bits 3 = .ok (.istore_n 2, 1) := by decide +kernel
theorem dL_bits_4 : decode cL_bits 4 = .ok (.iload_n 2, 1) := by decide +kernel
theorem dL_bits_5 : decode cL_bits 5 = .ok (.bipush 12, 2) := by decide +kernel
theorem dL_bits_7 : decode cL_bits 7 = .ok (.if_icmp .ge 17, 3) := by decide +kernel
theorem dL_bits_10 : decode cL_bits 10 = .ok (.iload_n 1, 1) := by decide +kernel
theorem dL_bits_11 : decode cL_bits 11 = .ok (.iload_n 0, 1) := by decide +kernel
theorem dL_bits_12 : decode cL_bits 12 = .ok (.iload_n 2, 1) := by decide +kernel
theorem dL_bits_13 : decode cL_bits 13 = .ok (.ishr, 1) := by decide +kernel
theorem dL_bits_14 : decode cL_bits 14 = .ok (.iconst 1, 1) := by decide +kernel
theorem dL_bits_15 : decode cL_bits 15 = .ok (.iand, 1) := by decide +kernel
theorem dL_bits_16 : decode cL_bits 16 = .ok (.iadd, 1) := by decide +kernel
theorem dL_bits_17 : decode cL_bits 17 = .ok (.istore_n 1, 1) := by decide +kernel
theorem dL_bits_18 : decode cL_bits 18 = .ok (.iinc 2 1, 3) := by decide +kernel
theorem dL_bits_21 : decode cL_bits 21 = .ok (.goto (-17), 3) := by decide +kernel
theorem dL_bits_24 : decode cL_bits 24 = .ok (.iload_n 1, 1) := by decide +kernel
theorem dL_bits_25 : decode cL_bits 25 = .ok (.ireturn, 1) := by decide +kernel
theorem dL_law_0 : decode cL_law 0 = .ok (.new 10, 3) := by decide +kernel
theorem dL_law_3 : decode cL_law 3 = .ok (.dup, 1) := by decide +kernel
theorem dL_law_4 : decode cL_law 4 = .ok (.invokespecial 39, 3) := by decide +kernel
theorem dL_law_7 : decode cL_law 7 = .ok (.astore_n 1, 1) := by decide +kernel
theorem dL_law_8 : decode cL_law 8 = .ok (.iconst 1, 1) := by decide +kernel
theorem dL_law_9 : decode cL_law 9 = .ok (.aload_n 0, 1) := by decide +kernel
theorem dL_law_10 : decode cL_law 10 = .ok (.iconst 0, 1) := by decide +kernel
theorem dL_law_11 : decode cL_law 11 = .ok (.invokestatic 15, 3) := by decide +kernel
theorem dL_law_14 : decode cL_law 14 = .ok (.bipush 7, 2) := by decide +kernel
theorem dL_law_16 : decode cL_law 16 = .ok (.invokestatic 21, 3) := by decide +kernel
theorem dL_law_19 : decode cL_law 19 = .ok (.iadd, 1) := by decide +kernel
theorem dL_law_20 : decode cL_law 20 = .ok (.istore_n 2, 1) := by decide +kernel
theorem dL_law_21 : decode cL_law 21 = .ok (.bipush 54, 2) := by decide +kernel
theorem dL_law_23 : decode cL_law 23 = .ok (.newarray .int, 2) := by decide +kernel
theorem dL_law_25 : decode cL_law 25 = .ok (.astore_n 3, 1) := by decide +kernel
theorem dL_law_26 : decode cL_law 26 = .ok (.aload_n 1, 1) := by decide +kernel
theorem dL_law_27 : decode cL_law 27 = .ok (.aload_n 0, 1) := by decide +kernel
theorem dL_law_28 : decode cL_law 28 = .ok (.iconst 1, 1) := by decide +kernel
theorem dL_law_29 : decode cL_law 29 = .ok (.iload_n 2, 1) := by decide +kernel
theorem dL_law_30 : decode cL_law 30 = .ok (.aload_n 3, 1) := by decide +kernel
theorem dL_law_31 : decode cL_law 31 = .ok (.invokestatic 40, 3) := by decide +kernel
theorem dL_law_34 : decode cL_law 34 = .ok (.ifCond .eq 74, 3) := by decide +kernel
theorem dL_law_37 : decode cL_law 37 = .ok (.aload_n 1, 1) := by decide +kernel
theorem dL_law_38 : decode cL_law 38 = .ok (.aload_n 0, 1) := by decide +kernel
theorem dL_law_39 : decode cL_law 39 = .ok (.bipush 8, 2) := by decide +kernel
theorem dL_law_41 : decode cL_law 41 = .ok (.invokestatic 15, 3) := by decide +kernel
theorem dL_law_44 : decode cL_law 44 = .ok (.iconst 3, 1) := by decide +kernel
theorem dL_law_45 : decode cL_law 45 = .ok (.invokestatic 21, 3) := by decide +kernel
theorem dL_law_48 : decode cL_law 48 = .ok (.invokevirtual 43, 3) := by decide +kernel
theorem dL_law_51 : decode cL_law 51 = .ok (.ifCond .ne 57, 3) := by decide +kernel
theorem dL_law_54 : decode cL_law 54 = .ok (.aload_n 1, 1) := by decide +kernel
theorem dL_law_55 : decode cL_law 55 = .ok (.aload_n 0, 1) := by decide +kernel
theorem dL_law_56 : decode cL_law 56 = .ok (.bipush 9, 2) := by decide +kernel
theorem dL_law_58 : decode cL_law 58 = .ok (.invokestatic 15, 3) := by decide +kernel
theorem dL_law_61 : decode cL_law 61 = .ok (.iconst 3, 1) := by decide +kernel
theorem dL_law_62 : decode cL_law 62 = .ok (.invokestatic 21, 3) := by decide +kernel
theorem dL_law_65 : decode cL_law 65 = .ok (.ifCond .ne 19, 3) := by decide +kernel
theorem dL_law_68 : decode cL_law 68 = .ok (.aload_n 0, 1) := by decide +kernel
theorem dL_law_69 : decode cL_law 69 = .ok (.bipush 9, 2) := by decide +kernel
theorem dL_law_71 : decode cL_law 71 = .ok (.invokestatic 15, 3) := by decide +kernel
theorem dL_law_74 : decode cL_law 74 = .ok (.iconst 4, 1) := by decide +kernel
theorem dL_law_75 : decode cL_law 75 = .ok (.ishr, 1) := by decide +kernel
theorem dL_law_76 : decode cL_law 76 = .ok (.bipush 20, 2) := by decide +kernel
theorem dL_law_78 : decode cL_law 78 = .ok (.invokestatic 21, 3) := by decide +kernel
theorem dL_law_81 : decode cL_law 81 = .ok (.goto 4, 3) := by decide +kernel
theorem dL_law_84 : decode cL_law 84 = .ok (.iconst 0, 1) := by decide +kernel
theorem dL_law_85 : decode cL_law 85 = .ok (.invokevirtual 46, 3) := by decide +kernel
theorem dL_law_88 : decode cL_law 88 = .ok (.ifCond .ne 20, 3) := by decide +kernel
theorem dL_law_91 : decode cL_law 91 = .ok (.aload_n 1, 1) := by decide +kernel
theorem dL_law_92 : decode cL_law 92 = .ok (.aload_n 0, 1) := by decide +kernel
theorem dL_law_93 : decode cL_law 93 = .ok (.bipush 10, 2) := by decide +kernel
theorem dL_law_95 : decode cL_law 95 = .ok (.invokestatic 15, 3) := by decide +kernel
theorem dL_law_98 : decode cL_law 98 = .ok (.iconst 2, 1) := by decide +kernel
theorem dL_law_99 : decode cL_law 99 = .ok (.invokestatic 21, 3) := by decide +kernel
theorem dL_law_102 : decode cL_law 102 = .ok (.invokevirtual 49, 3) := by decide +kernel
theorem dL_law_105 : decode cL_law 105 = .ok (.ifCond .eq 5, 3) := by decide +kernel
theorem dL_law_108 : decode cL_law 108 = .ok (.iconst 0, 1) := by decide +kernel
theorem dL_law_109 : decode cL_law 109 = .ok (.ireturn, 1) := by decide +kernel
theorem dL_law_110 : decode cL_law 110 = .ok (.iconst 1, 1) := by decide +kernel
theorem dL_law_111 : decode cL_law 111 = .ok (.istore 4, 2) := by decide +kernel
theorem dL_law_113 : decode cL_law 113 = .ok (.iconst 0, 1) := by decide +kernel
theorem dL_law_114 : decode cL_law 114 = .ok (.istore 5, 2) := by decide +kernel
theorem dL_law_116 : decode cL_law 116 = .ok (.iload 5, 2) := by decide +kernel
theorem dL_law_118 : decode cL_law 118 = .ok (.iload_n 2, 1) := by decide +kernel
theorem dL_law_119 : decode cL_law 119 = .ok (.if_icmp .ge 32, 3) := by decide +kernel
theorem dL_law_122 : decode cL_law 122 = .ok (.iload 4, 2) := by decide +kernel
theorem dL_law_124 : decode cL_law 124 = .ok (.ifCond .eq 18, 3) := by decide +kernel
theorem dL_law_127 : decode cL_law 127 = .ok (.aload_n 3, 1) := by decide +kernel
theorem dL_law_128 : decode cL_law 128 = .ok (.bipush 6, 2) := by decide +kernel
theorem dL_law_130 : decode cL_law 130 = .ok (.iload 5, 2) := by decide +kernel
theorem dL_law_132 : decode cL_law 132 = .ok (.imul, 1) := by decide +kernel
theorem dL_law_133 : decode cL_law 133 = .ok (.iaload, 1) := by decide +kernel
theorem dL_law_134 : decode cL_law 134 = .ok (.iconst 2, 1) := by decide +kernel
theorem dL_law_135 : decode cL_law 135 = .ok (.if_icmp .eq 7, 3) := by decide +kernel
theorem dL_law_138 : decode cL_law 138 = .ok (.iconst 1, 1) := by decide +kernel
theorem dL_law_139 : decode cL_law 139 = .ok (.goto 4, 3) := by decide +kernel
theorem dL_law_142 : decode cL_law 142 = .ok (.iconst 0, 1) := by decide +kernel
theorem dL_law_143 : decode cL_law 143 = .ok (.istore 4, 2) := by decide +kernel
theorem dL_law_145 : decode cL_law 145 = .ok (.iinc 5 1, 3) := by decide +kernel
theorem dL_law_148 : decode cL_law 148 = .ok (.goto (-32), 3) := by decide +kernel
theorem dL_law_151 : decode cL_law 151 = .ok (.aload_n 0, 1) := by decide +kernel
theorem dL_law_152 : decode cL_law 152 = .ok (.bipush 11, 2) := by decide +kernel
theorem dL_law_154 : decode cL_law 154 = .ok (.invokestatic 15, 3) := by decide +kernel
theorem dL_law_157 : decode cL_law 157 = .ok (.iconst 3, 1) := by decide +kernel
theorem dL_law_158 : decode cL_law 158 = .ok (.invokestatic 21, 3) := by decide +kernel
theorem dL_law_161 : decode cL_law 161 = .ok (.istore 5, 2) := by decide +kernel
theorem dL_law_163 : decode cL_law 163 = .ok (.aload_n 0, 1) := by decide +kernel
theorem dL_law_164 : decode cL_law 164 = .ok (.bipush 12, 2) := by decide +kernel
theorem dL_law_166 : decode cL_law 166 = .ok (.invokestatic 15, 3) := by decide +kernel
theorem dL_law_169 : decode cL_law 169 = .ok (.iload_n 2, 1) := by decide +kernel
theorem dL_law_170 : decode cL_law 170 = .ok (.invokestatic 21, 3) := by decide +kernel
theorem dL_law_173 : decode cL_law 173 = .ok (.istore 6, 2) := by decide +kernel
theorem dL_law_175 : decode cL_law 175 = .ok (.aload_n 1, 1) := by decide +kernel
theorem dL_law_176 : decode cL_law 176 = .ok (.iload 6, 2) := by decide +kernel
theorem dL_law_178 : decode cL_law 178 = .ok (.iload 5, 2) := by decide +kernel
theorem dL_law_180 : decode cL_law 180 = .ok (.invokevirtual 52, 3) := by decide +kernel
theorem dL_law_183 : decode cL_law 183 = .ok (.iload_n 2, 1) := by decide +kernel
theorem dL_law_184 : decode cL_law 184 = .ok (.if_icmp .ne 11, 3) := by decide +kernel
theorem dL_law_187 : decode cL_law 187 = .ok (.aload_n 1, 1) := by decide +kernel
theorem dL_law_188 : decode cL_law 188 = .ok (.iconst 0, 1) := by decide +kernel
theorem dL_law_189 : decode cL_law 189 = .ok (.invokevirtual 55, 3) := by decide +kernel
theorem dL_law_192 : decode cL_law 192 = .ok (.ifCond .eq 5, 3) := by decide +kernel
theorem dL_law_195 : decode cL_law 195 = .ok (.iconst 0, 1) := by decide +kernel
theorem dL_law_196 : decode cL_law 196 = .ok (.ireturn, 1) := by decide +kernel
theorem dL_law_197 : decode cL_law 197 = .ok (.iconst 0, 1) := by decide +kernel
theorem dL_law_198 : decode cL_law 198 = .ok (.istore 7, 2) := by decide +kernel
theorem dL_law_200 : decode cL_law 200 = .ok (.iconst 0, 1) := by decide +kernel
theorem dL_law_201 : decode cL_law 201 = .ok (.istore 8, 2) := by decide +kernel
theorem dL_law_203 : decode cL_law 203 = .ok (.bipush 9, 2) := by decide +kernel
theorem dL_law_205 : decode cL_law 205 = .ok (.newarray .int, 2) := by decide +kernel
theorem dL_law_207 : decode cL_law 207 = .ok (.astore 9, 2) := by decide +kernel
theorem dL_law_209 : decode cL_law 209 = .ok (.iconst 0, 1) := by decide +kernel
theorem dL_law_210 : decode cL_law 210 = .ok (.istore 10, 2) := by decide +kernel
theorem dL_law_212 : decode cL_law 212 = .ok (.iload 10, 2) := by decide +kernel
theorem dL_law_214 : decode cL_law 214 = .ok (.bipush 12, 2) := by decide +kernel
theorem dL_law_216 : decode cL_law 216 = .ok (.if_icmp .ge 306, 3) := by decide +kernel
theorem dL_law_219 : decode cL_law 219 = .ok (.aload_n 1, 1) := by decide +kernel
theorem dL_law_220 : decode cL_law 220 = .ok (.iconst 1, 1) := by decide +kernel
theorem dL_law_221 : decode cL_law 221 = .ok (.iconst 1, 1) := by decide +kernel
theorem dL_law_222 : decode cL_law 222 = .ok (.aload_n 0, 1) := by decide +kernel
theorem dL_law_223 : decode cL_law 223 = .ok (.bipush 13, 2) := by decide +kernel
theorem dL_law_225 : decode cL_law 225 = .ok (.iload 10, 2) := by decide +kernel
theorem dL_law_227 : decode cL_law 227 = .ok (.iadd, 1) := by decide +kernel
theorem dL_law_228 : decode cL_law 228 = .ok (.invokestatic 15, 3) := by decide +kernel
theorem dL_law_231 : decode cL_law 231 = .ok (.ldc 58, 2) := by decide +kernel
theorem dL_law_233 : decode cL_law 233 = .ok (.invokestatic 21, 3) := by decide +kernel
theorem dL_law_236 : decode cL_law 236 = .ok (.iadd, 1) := by decide +kernel
theorem dL_law_237 : decode cL_law 237 = .ok (.invokevirtual 59, 3) := by decide +kernel
theorem dL_law_240 : decode cL_law 240 = .ok (.iload 10, 2) := by decide +kernel
theorem dL_law_242 : decode cL_law 242 = .ok (.iconst 1, 1) := by decide +kernel
theorem dL_law_243 : decode cL_law 243 = .ok (.iadd, 1) := by decide +kernel
theorem dL_law_244 : decode cL_law 244 = .ok (.if_icmp .eq 5, 3) := by decide +kernel
theorem dL_law_247 : decode cL_law 247 = .ok (.iconst 0, 1) := by decide +kernel
theorem dL_law_248 : decode cL_law 248 = .ok (.ireturn, 1) := by decide +kernel
theorem dL_law_249 : decode cL_law 249 = .ok (.aload_n 1, 1) := by decide +kernel
theorem dL_law_250 : decode cL_law 250 = .ok (.invokevirtual 62, 3) := by decide +kernel
theorem dL_law_253 : decode cL_law 253 = .ok (.istore 11, 2) := by decide +kernel
theorem dL_law_255 : decode cL_law 255 = .ok (.aload_n 1, 1) := by decide +kernel
theorem dL_law_256 : decode cL_law 256 = .ok (.invokevirtual 9, 3) := by decide +kernel
theorem dL_law_259 : decode cL_law 259 = .ok (.iconst 1, 1) := by decide +kernel
theorem dL_law_260 : decode cL_law 260 = .ok (.if_icmp .ne 7, 3) := by decide +kernel
theorem dL_law_263 : decode cL_law 263 = .ok (.iconst 1, 1) := by decide +kernel
theorem dL_law_264 : decode cL_law 264 = .ok (.goto 4, 3) := by decide +kernel
theorem dL_law_267 : decode cL_law 267 = .ok (.iconst 0, 1) := by decide +kernel
theorem dL_law_268 : decode cL_law 268 = .ok (.istore 12, 2) := by decide +kernel
theorem dL_law_270 : decode cL_law 270 = .ok (.iconst 0, 1) := by decide +kernel
theorem dL_law_271 : decode cL_law 271 = .ok (.istore 13, 2) := by decide +kernel
theorem dL_law_273 : decode cL_law 273 = .ok (.iconst 0, 1) := by decide +kernel
theorem dL_law_274 : decode cL_law 274 = .ok (.istore 14, 2) := by decide +kernel
theorem dL_law_276 : decode cL_law 276 = .ok (.iconst 0, 1) := by decide +kernel
theorem dL_law_277 : decode cL_law 277 = .ok (.istore 15, 2) := by decide +kernel
theorem dL_law_279 : decode cL_law 279 = .ok (.iload 15, 2) := by decide +kernel
theorem dL_law_281 : decode cL_law 281 = .ok (.iload_n 2, 1) := by decide +kernel
theorem dL_law_282 : decode cL_law 282 = .ok (.if_icmp .ge 159, 3) := by decide +kernel
theorem dL_law_285 : decode cL_law 285 = .ok (.aload_n 1, 1) := by decide +kernel
theorem dL_law_286 : decode cL_law 286 = .ok (.aload_n 1, 1) := by decide +kernel
theorem dL_law_287 : decode cL_law 287 = .ok (.iload 15, 2) := by decide +kernel
theorem dL_law_289 : decode cL_law 289 = .ok (.iconst 0, 1) := by decide +kernel
theorem dL_law_290 : decode cL_law 290 = .ok (.invokevirtual 65, 3) := by decide +kernel
theorem dL_law_293 : decode cL_law 293 = .ok (.invokestatic 68, 3) := by decide +kernel
theorem dL_law_296 : decode cL_law 296 = .ok (.iconst 1, 1) := by decide +kernel
theorem dL_law_297 : decode cL_law 297 = .ok (.if_icmp .ne 7, 3) := by decide +kernel
theorem dL_law_300 : decode cL_law 300 = .ok (.iconst 1, 1) := by decide +kernel
theorem dL_law_301 : decode cL_law 301 = .ok (.goto 4, 3) := by decide +kernel
theorem dL_law_304 : decode cL_law 304 = .ok (.iconst 0, 1) := by decide +kernel
theorem dL_law_305 : decode cL_law 305 = .ok (.istore 16, 2) := by decide +kernel
theorem dL_law_307 : decode cL_law 307 = .ok (.aload_n 1, 1) := by decide +kernel
theorem dL_law_308 : decode cL_law 308 = .ok (.aload_n 1, 1) := by decide +kernel
theorem dL_law_309 : decode cL_law 309 = .ok (.iload 15, 2) := by decide +kernel
theorem dL_law_311 : decode cL_law 311 = .ok (.iconst 2, 1) := by decide +kernel
theorem dL_law_312 : decode cL_law 312 = .ok (.invokevirtual 65, 3) := by decide +kernel
theorem dL_law_315 : decode cL_law 315 = .ok (.invokestatic 68, 3) := by decide +kernel
theorem dL_law_318 : decode cL_law 318 = .ok (.istore 17, 2) := by decide +kernel
theorem dL_law_320 : decode cL_law 320 = .ok (.iload 13, 2) := by decide +kernel
theorem dL_law_322 : decode cL_law 322 = .ok (.iload 16, 2) := by decide +kernel
theorem dL_law_324 : decode cL_law 324 = .ok (.ifCond .eq 10, 3) := by decide +kernel
theorem dL_law_327 : decode cL_law 327 = .ok (.iconst 1, 1) := by decide +kernel
theorem dL_law_328 : decode cL_law 328 = .ok (.iload 15, 2) := by decide +kernel
theorem dL_law_330 : decode cL_law 330 = .ok (.ishl, 1) := by decide +kernel
theorem dL_law_331 : decode cL_law 331 = .ok (.goto 4, 3) := by decide +kernel
theorem dL_law_334 : decode cL_law 334 = .ok (.iconst 0, 1) := by decide +kernel
theorem dL_law_335 : decode cL_law 335 = .ok (.ior, 1) := by decide +kernel
theorem dL_law_336 : decode cL_law 336 = .ok (.istore 13, 2) := by decide +kernel
theorem dL_law_338 : decode cL_law 338 = .ok (.iload 14, 2) := by decide +kernel
theorem dL_law_340 : decode cL_law 340 = .ok (.iload 16, 2) := by decide +kernel
theorem dL_law_342 : decode cL_law 342 = .ok (.ifCond .eq 8, 3) := by decide +kernel
theorem dL_law_345 : decode cL_law 345 = .ok (.iload 17, 2) := by decide +kernel
theorem dL_law_347 : decode cL_law 347 = .ok (.goto 4, 3) := by decide +kernel
theorem dL_law_350 : decode cL_law 350 = .ok (.iconst 0, 1) := by decide +kernel
theorem dL_law_351 : decode cL_law 351 = .ok (.iadd, 1) := by decide +kernel
theorem dL_law_352 : decode cL_law 352 = .ok (.istore 14, 2) := by decide +kernel
theorem dL_law_354 : decode cL_law 354 = .ok (.iload 16, 2) := by decide +kernel
theorem dL_law_356 : decode cL_law 356 = .ok (.iload 17, 2) := by decide +kernel
theorem dL_law_358 : decode cL_law 358 = .ok (.ifCond .lt 7, 3) := by decide +kernel
theorem dL_law_361 : decode cL_law 361 = .ok (.iconst 1, 1) := by decide +kernel
theorem dL_law_362 : decode cL_law 362 = .ok (.goto 4, 3) := by decide +kernel
theorem dL_law_365 : decode cL_law 365 = .ok (.iconst 0, 1) := by decide +kernel
theorem dL_law_366 : decode cL_law 366 = .ok (.if_icmp .ne 60, 3) := by decide +kernel
theorem dL_law_369 : decode cL_law 369 = .ok (.iload 7, 2) := by decide +kernel
theorem dL_law_371 : decode cL_law 371 = .ok (.iload 15, 2) := by decide +kernel
theorem dL_law_373 : decode cL_law 373 = .ok (.ishr, 1) := by decide +kernel
theorem dL_law_374 : decode cL_law 374 = .ok (.iconst 1, 1) := by decide +kernel
theorem dL_law_375 : decode cL_law 375 = .ok (.iand, 1) := by decide +kernel
theorem dL_law_376 : decode cL_law 376 = .ok (.iconst 1, 1) := by decide +kernel
theorem dL_law_377 : decode cL_law 377 = .ok (.if_icmp .ne 18, 3) := by decide +kernel
theorem dL_law_380 : decode cL_law 380 = .ok (.iload 16, 2) := by decide +kernel
theorem dL_law_382 : decode cL_law 382 = .ok (.ifCond .eq 44, 3) := by decide +kernel
theorem dL_law_385 : decode cL_law 385 = .ok (.iload 17, 2) := by decide +kernel
theorem dL_law_387 : decode cL_law 387 = .ok (.aload 9, 2) := by decide +kernel
theorem dL_law_389 : decode cL_law 389 = .ok (.iload 15, 2) := by decide +kernel
theorem dL_law_391 : decode cL_law 391 = .ok (.iaload, 1) := by decide +kernel
theorem dL_law_392 : decode cL_law 392 = .ok (.if_icmp .ne 34, 3) := by decide +kernel
theorem dL_law_395 : decode cL_law 395 = .ok (.iload 16, 2) := by decide +kernel
theorem dL_law_397 : decode cL_law 397 = .ok (.ifCond .eq 31, 3) := by decide +kernel
theorem dL_law_400 : decode cL_law 400 = .ok (.iload 7, 2) := by decide +kernel
theorem dL_law_402 : decode cL_law 402 = .ok (.iload 15, 2) := by decide +kernel
theorem dL_law_404 : decode cL_law 404 = .ok (.ishr, 1) := by decide +kernel
theorem dL_law_405 : decode cL_law 405 = .ok (.iconst 1, 1) := by decide +kernel
theorem dL_law_406 : decode cL_law 406 = .ok (.iand, 1) := by decide +kernel
theorem dL_law_407 : decode cL_law 407 = .ok (.ifCond .ne 21, 3) := by decide +kernel
theorem dL_law_410 : decode cL_law 410 = .ok (.aload_n 1, 1) := by decide +kernel
theorem dL_law_411 : decode cL_law 411 = .ok (.aload_n 1, 1) := by decide +kernel
theorem dL_law_412 : decode cL_law 412 = .ok (.iload 15, 2) := by decide +kernel
theorem dL_law_414 : decode cL_law 414 = .ok (.iconst 1, 1) := by decide +kernel
theorem dL_law_415 : decode cL_law 415 = .ok (.invokevirtual 65, 3) := by decide +kernel
theorem dL_law_418 : decode cL_law 418 = .ok (.invokestatic 68, 3) := by decide +kernel
theorem dL_law_421 : decode cL_law 421 = .ok (.iload 10, 2) := by decide +kernel
theorem dL_law_423 : decode cL_law 423 = .ok (.if_icmp .eq 5, 3) := by decide +kernel
theorem dL_law_426 : decode cL_law 426 = .ok (.iconst 0, 1) := by decide +kernel
theorem dL_law_427 : decode cL_law 427 = .ok (.ireturn, 1) := by decide +kernel
theorem dL_law_428 : decode cL_law 428 = .ok (.aload 9, 2) := by decide +kernel
theorem dL_law_430 : decode cL_law 430 = .ok (.iload 15, 2) := by decide +kernel
theorem dL_law_432 : decode cL_law 432 = .ok (.iload 17, 2) := by decide +kernel
theorem dL_law_434 : decode cL_law 434 = .ok (.iastore, 1) := by decide +kernel
theorem dL_law_435 : decode cL_law 435 = .ok (.iinc 15 1, 3) := by decide +kernel
theorem dL_law_438 : decode cL_law 438 = .ok (.goto (-159), 3) := by decide +kernel
theorem dL_law_441 : decode cL_law 441 = .ok (.iload 13, 2) := by decide +kernel
theorem dL_law_443 : decode cL_law 443 = .ok (.istore 7, 2) := by decide +kernel
theorem dL_law_445 : decode cL_law 445 = .ok (.iload 11, 2) := by decide +kernel
theorem dL_law_447 : decode cL_law 447 = .ok (.ifCond .lt 63, 3) := by decide +kernel
theorem dL_law_450 : decode cL_law 450 = .ok (.iload 11, 2) := by decide +kernel
theorem dL_law_452 : decode cL_law 452 = .ok (.iload_n 2, 1) := by decide +kernel
theorem dL_law_453 : decode cL_law 453 = .ok (.if_icmp .ge 57, 3) := by decide +kernel
theorem dL_law_456 : decode cL_law 456 = .ok (.aload_n 1, 1) := by decide +kernel
theorem dL_law_457 : decode cL_law 457 = .ok (.invokevirtual 71, 3) := by decide +kernel
theorem dL_law_460 : decode cL_law 460 = .ok (.iload 14, 2) := by decide +kernel
theorem dL_law_462 : decode cL_law 462 = .ok (.if_icmp .ne 48, 3) := by decide +kernel
theorem dL_law_465 : decode cL_law 465 = .ok (.aload_n 1, 1) := by decide +kernel
theorem dL_law_466 : decode cL_law 466 = .ok (.iconst 1, 1) := by decide +kernel
theorem dL_law_467 : decode cL_law 467 = .ok (.invokevirtual 74, 3) := by decide +kernel
theorem dL_law_470 : decode cL_law 470 = .ok (.iload 13, 2) := by decide +kernel
theorem dL_law_472 : decode cL_law 472 = .ok (.invokestatic 77, 3) := by decide +kernel
theorem dL_law_475 : decode cL_law 475 = .ok (.if_icmp .ne 35, 3) := by decide +kernel
theorem dL_law_478 : decode cL_law 478 = .ok (.iload 12, 2) := by decide +kernel
theorem dL_law_480 : decode cL_law 480 = .ok (.ifCond .eq 20, 3) := by decide +kernel
theorem dL_law_483 : decode cL_law 483 = .ok (.iload 13, 2) := by decide +kernel
theorem dL_law_485 : decode cL_law 485 = .ok (.iconst 1, 1) := by decide +kernel
theorem dL_law_486 : decode cL_law 486 = .ok (.iload_n 2, 1) := by decide +kernel
theorem dL_law_487 : decode cL_law 487 = .ok (.ishl, 1) := by decide +kernel
theorem dL_law_488 : decode cL_law 488 = .ok (.iconst 1, 1) := by decide +kernel
theorem dL_law_489 : decode cL_law 489 = .ok (.isub, 1) := by decide +kernel
theorem dL_law_490 : decode cL_law 490 = .ok (.if_icmp .ne 20, 3) := by decide +kernel
theorem dL_law_493 : decode cL_law 493 = .ok (.iload 11, 2) := by decide +kernel
theorem dL_law_495 : decode cL_law 495 = .ok (.iload 6, 2) := by decide +kernel
theorem dL_law_497 : decode cL_law 497 = .ok (.if_icmp .ne 13, 3) := by decide +kernel
theorem dL_law_500 : decode cL_law 500 = .ok (.iload 8, 2) := by decide +kernel
theorem dL_law_502 : decode cL_law 502 = .ok (.ifCond .eq 10, 3) := by decide +kernel
theorem dL_law_505 : decode cL_law 505 = .ok (.iload 12, 2) := by decide +kernel
theorem dL_law_507 : decode cL_law 507 = .ok (.ifCond .ne 5, 3) := by decide +kernel
theorem dL_law_510 : decode cL_law 510 = .ok (.iconst 0, 1) := by decide +kernel
theorem dL_law_511 : decode cL_law 511 = .ok (.ireturn, 1) := by decide +kernel
theorem dL_law_512 : decode cL_law 512 = .ok (.iload 12, 2) := by decide +kernel
theorem dL_law_514 : decode cL_law 514 = .ok (.istore 8, 2) := by decide +kernel
theorem dL_law_516 : decode cL_law 516 = .ok (.iinc 10 1, 3) := by decide +kernel
theorem dL_law_519 : decode cL_law 519 = .ok (.goto (-307), 3) := by decide +kernel
theorem dL_law_522 : decode cL_law 522 = .ok (.iload 7, 2) := by decide +kernel
theorem dL_law_524 : decode cL_law 524 = .ok (.istore 10, 2) := by decide +kernel
theorem dL_law_526 : decode cL_law 526 = .ok (.aload_n 0, 1) := by decide +kernel
theorem dL_law_527 : decode cL_law 527 = .ok (.bipush 25, 2) := by decide +kernel
theorem dL_law_529 : decode cL_law 529 = .ok (.invokestatic 15, 3) := by decide +kernel
theorem dL_law_532 : decode cL_law 532 = .ok (.bipush 6, 2) := by decide +kernel
theorem dL_law_534 : decode cL_law 534 = .ok (.invokestatic 21, 3) := by decide +kernel
theorem dL_law_537 : decode cL_law 537 = .ok (.istore 11, 2) := by decide +kernel
theorem dL_law_539 : decode cL_law 539 = .ok (.aload_n 1, 1) := by decide +kernel
theorem dL_law_540 : decode cL_law 540 = .ok (.iload 11, 2) := by decide +kernel
theorem dL_law_542 : decode cL_law 542 = .ok (.invokevirtual 80, 3) := by decide +kernel
theorem dL_law_545 : decode cL_law 545 = .ok (.iconst 1, 1) := by decide +kernel
theorem dL_law_546 : decode cL_law 546 = .ok (.if_icmp .eq 5, 3) := by decide +kernel
theorem dL_law_549 : decode cL_law 549 = .ok (.iconst 0, 1) := by decide +kernel
theorem dL_law_550 : decode cL_law 550 = .ok (.ireturn, 1) := by decide +kernel
theorem dL_law_551 : decode cL_law 551 = .ok (.aload_n 1, 1) := by decide +kernel
theorem dL_law_552 : decode cL_law 552 = .ok (.invokevirtual 83, 3) := by decide +kernel
theorem dL_law_555 : decode cL_law 555 = .ok (.lstore 12, 2) := by decide +kernel
theorem dL_law_557 : decode cL_law 557 = .ok (.aload_n 1, 1) := by decide +kernel
theorem dL_law_558 : decode cL_law 558 = .ok (.invokevirtual 87, 3) := by decide +kernel
theorem dL_law_561 : decode cL_law 561 = .ok (.lstore 14, 2) := by decide +kernel
theorem dL_law_563 : decode cL_law 563 = .ok (.aload_n 1, 1) := by decide +kernel
theorem dL_law_564 : decode cL_law 564 = .ok (.iload 11, 2) := by decide +kernel
theorem dL_law_566 : decode cL_law 566 = .ok (.iconst 1, 1) := by decide +kernel
theorem dL_law_567 : decode cL_law 567 = .ok (.iadd, 1) := by decide +kernel
theorem dL_law_568 : decode cL_law 568 = .ok (.invokevirtual 80, 3) := by decide +kernel
theorem dL_law_571 : decode cL_law 571 = .ok (.iconst 1, 1) := by decide +kernel
theorem dL_law_572 : decode cL_law 572 = .ok (.if_icmp .ne 33, 3) := by decide +kernel
theorem dL_law_575 : decode cL_law 575 = .ok (.aload_n 1, 1) := by decide +kernel
theorem dL_law_576 : decode cL_law 576 = .ok (.invokevirtual 83, 3) := by decide +kernel
theorem dL_law_579 : decode cL_law 579 = .ok (.lload 14, 2) := by decide +kernel
theorem dL_law_581 : decode cL_law 581 = .ok (.lmul, 1) := by decide +kernel
theorem dL_law_582 : decode cL_law 582 = .ok (.lload 12, 2) := by decide +kernel
theorem dL_law_584 : decode cL_law 584 = .ok (.aload_n 1, 1) := by decide +kernel
theorem dL_law_585 : decode cL_law 585 = .ok (.invokevirtual 87, 3) := by decide +kernel
theorem dL_law_588 : decode cL_law 588 = .ok (.lmul, 1) := by decide +kernel
theorem dL_law_589 : decode cL_law 589 = .ok (.lcmp, 1) := by decide +kernel
theorem dL_law_590 : decode cL_law 590 = .ok (.ifCond .lt 15, 3) := by decide +kernel
theorem dL_law_593 : decode cL_law 593 = .ok (.aload_n 1, 1) := by decide +kernel
theorem dL_law_594 : decode cL_law 594 = .ok (.invokevirtual 83, 3) := by decide +kernel
theorem dL_law_597 : decode cL_law 597 = .ok (.aload_n 1, 1) := by decide +kernel
theorem dL_law_598 : decode cL_law 598 = .ok (.invokevirtual 87, 3) := by decide +kernel
theorem dL_law_601 : decode cL_law 601 = .ok (.lcmp, 1) := by decide +kernel
theorem dL_law_602 : decode cL_law 602 = .ok (.ifCond .le 5, 3) := by decide +kernel
theorem dL_law_605 : decode cL_law 605 = .ok (.iconst 0, 1) := by decide +kernel
theorem dL_law_606 : decode cL_law 606 = .ok (.ireturn, 1) := by decide +kernel
theorem dL_law_607 : decode cL_law 607 = .ok (.iconst 0, 1) := by decide +kernel
theorem dL_law_608 : decode cL_law 608 = .ok (.istore 16, 2) := by decide +kernel
theorem dL_law_610 : decode cL_law 610 = .ok (.iconst 0, 1) := by decide +kernel
theorem dL_law_611 : decode cL_law 611 = .ok (.istore 17, 2) := by decide +kernel
theorem dL_law_613 : decode cL_law 613 = .ok (.iload 17, 2) := by decide +kernel
theorem dL_law_615 : decode cL_law 615 = .ok (.iload_n 2, 1) := by decide +kernel
theorem dL_law_616 : decode cL_law 616 = .ok (.if_icmp .ge 63, 3) := by decide +kernel
theorem dL_law_619 : decode cL_law 619 = .ok (.aload_n 1, 1) := by decide +kernel
theorem dL_law_620 : decode cL_law 620 = .ok (.iload 11, 2) := by decide +kernel
theorem dL_law_622 : decode cL_law 622 = .ok (.iload 17, 2) := by decide +kernel
theorem dL_law_624 : decode cL_law 624 = .ok (.invokevirtual 90, 3) := by decide +kernel
theorem dL_law_627 : decode cL_law 627 = .ok (.iconst 1, 1) := by decide +kernel
theorem dL_law_628 : decode cL_law 628 = .ok (.if_icmp .ne 24, 3) := by decide +kernel
theorem dL_law_631 : decode cL_law 631 = .ok (.aload_n 1, 1) := by decide +kernel
theorem dL_law_632 : decode cL_law 632 = .ok (.invokevirtual 83, 3) := by decide +kernel
theorem dL_law_635 : decode cL_law 635 = .ok (.aload_n 1, 1) := by decide +kernel
theorem dL_law_636 : decode cL_law 636 = .ok (.invokevirtual 87, 3) := by decide +kernel
theorem dL_law_639 : decode cL_law 639 = .ok (.lcmp, 1) := by decide +kernel
theorem dL_law_640 : decode cL_law 640 = .ok (.ifCond .gt 12, 3) := by decide +kernel
theorem dL_law_643 : decode cL_law 643 = .ok (.aload_n 1, 1) := by decide +kernel
theorem dL_law_644 : decode cL_law 644 = .ok (.invokevirtual 83, 3) := by decide +kernel
theorem dL_law_647 : decode cL_law 647 = .ok (.lconst 0, 1) := by decide +kernel
theorem dL_law_648 : decode cL_law 648 = .ok (.lcmp, 1) := by decide +kernel
theorem dL_law_649 : decode cL_law 649 = .ok (.ifCond .ge 5, 3) := by decide +kernel
theorem dL_law_652 : decode cL_law 652 = .ok (.iconst 0, 1) := by decide +kernel
theorem dL_law_653 : decode cL_law 653 = .ok (.ireturn, 1) := by decide +kernel
theorem dL_law_654 : decode cL_law 654 = .ok (.iload 16, 2) := by decide +kernel
theorem dL_law_656 : decode cL_law 656 = .ok (.aload_n 1, 1) := by decide +kernel
theorem dL_law_657 : decode cL_law 657 = .ok (.invokevirtual 83, 3) := by decide +kernel
theorem dL_law_660 : decode cL_law 660 = .ok (.lconst 0, 1) := by decide +kernel
theorem dL_law_661 : decode cL_law 661 = .ok (.lcmp, 1) := by decide +kernel
theorem dL_law_662 : decode cL_law 662 = .ok (.ifCond .le 7, 3) := by decide +kernel
theorem dL_law_665 : decode cL_law 665 = .ok (.iconst 1, 1) := by decide +kernel
theorem dL_law_666 : decode cL_law 666 = .ok (.goto 4, 3) := by decide +kernel
theorem dL_law_669 : decode cL_law 669 = .ok (.iconst 0, 1) := by decide +kernel
theorem dL_law_670 : decode cL_law 670 = .ok (.iadd, 1) := by decide +kernel
theorem dL_law_671 : decode cL_law 671 = .ok (.istore 16, 2) := by decide +kernel
theorem dL_law_673 : decode cL_law 673 = .ok (.iinc 17 1, 3) := by decide +kernel
theorem dL_law_676 : decode cL_law 676 = .ok (.goto (-63), 3) := by decide +kernel
theorem dL_law_679 : decode cL_law 679 = .ok (.aload_n 1, 1) := by decide +kernel
theorem dL_law_680 : decode cL_law 680 = .ok (.iload 11, 2) := by decide +kernel
theorem dL_law_682 : decode cL_law 682 = .ok (.iconst 1, 1) := by decide +kernel
theorem dL_law_683 : decode cL_law 683 = .ok (.iconst 1, 1) := by decide +kernel
theorem dL_law_684 : decode cL_law 684 = .ok (.invokevirtual 93, 3) := by decide +kernel
theorem dL_law_687 : decode cL_law 687 = .ok (.istore 17, 2) := by decide +kernel
theorem dL_law_689 : decode cL_law 689 = .ok (.iload 17, 2) := by decide +kernel
theorem dL_law_691 : decode cL_law 691 = .ok (.iload 16, 2) := by decide +kernel
theorem dL_law_693 : decode cL_law 693 = .ok (.if_icmp .ne 39, 3) := by decide +kernel
theorem dL_law_696 : decode cL_law 696 = .ok (.aload_n 1, 1) := by decide +kernel
theorem dL_law_697 : decode cL_law 697 = .ok (.invokevirtual 9, 3) := by decide +kernel
theorem dL_law_700 : decode cL_law 700 = .ok (.invokestatic 77, 3) := by decide +kernel
theorem dL_law_703 : decode cL_law 703 = .ok (.iload 17, 2) := by decide +kernel
theorem dL_law_705 : decode cL_law 705 = .ok (.if_icmp .ne 27, 3) := by decide +kernel
theorem dL_law_708 : decode cL_law 708 = .ok (.aload_n 1, 1) := by decide +kernel
theorem dL_law_709 : decode cL_law 709 = .ok (.iload 11, 2) := by decide +kernel
theorem dL_law_711 : decode cL_law 711 = .ok (.iconst 0, 1) := by decide +kernel
theorem dL_law_712 : decode cL_law 712 = .ok (.iconst 5, 1) := by decide +kernel
theorem dL_law_713 : decode cL_law 713 = .ok (.invokevirtual 93, 3) := by decide +kernel
theorem dL_law_716 : decode cL_law 716 = .ok (.ifCond .ne 16, 3) := by decide +kernel
theorem dL_law_719 : decode cL_law 719 = .ok (.aload_n 1, 1) := by decide +kernel
theorem dL_law_720 : decode cL_law 720 = .ok (.iload 11, 2) := by decide +kernel
theorem dL_law_722 : decode cL_law 722 = .ok (.iconst 1, 1) := by decide +kernel
theorem dL_law_723 : decode cL_law 723 = .ok (.iconst 2, 1) := by decide +kernel
theorem dL_law_724 : decode cL_law 724 = .ok (.invokevirtual 93, 3) := by decide +kernel
theorem dL_law_727 : decode cL_law 727 = .ok (.iload 17, 2) := by decide +kernel
theorem dL_law_729 : decode cL_law 729 = .ok (.if_icmp .le 5, 3) := by decide +kernel
theorem dL_law_732 : decode cL_law 732 = .ok (.iconst 0, 1) := by decide +kernel
theorem dL_law_733 : decode cL_law 733 = .ok (.ireturn, 1) := by decide +kernel
theorem dL_law_734 : decode cL_law 734 = .ok (.iconst 1, 1) := by decide +kernel
theorem dL_law_735 : decode cL_law 735 = .ok (.iload_n 2, 1) := by decide +kernel
theorem dL_law_736 : decode cL_law 736 = .ok (.ishl, 1) := by decide +kernel
theorem dL_law_737 : decode cL_law 737 = .ok (.iconst 1, 1) := by decide +kernel
theorem dL_law_738 : decode cL_law 738 = .ok (.isub, 1) := by decide +kernel
theorem dL_law_739 : decode cL_law 739 = .ok (.iload 10, 2) := by decide +kernel
theorem dL_law_741 : decode cL_law 741 = .ok (.iconst (-1), 1) := by decide +kernel
theorem dL_law_742 : decode cL_law 742 = .ok (.ixor, 1) := by decide +kernel
theorem dL_law_743 : decode cL_law 743 = .ok (.iand, 1) := by decide +kernel
theorem dL_law_744 : decode cL_law 744 = .ok (.istore 18, 2) := by decide +kernel
theorem dL_law_746 : decode cL_law 746 = .ok (.iload 18, 2) := by decide +kernel
theorem dL_law_748 : decode cL_law 748 = .ok (.invokestatic 77, 3) := by decide +kernel
theorem dL_law_751 : decode cL_law 751 = .ok (.bipush 6, 2) := by decide +kernel
theorem dL_law_753 : decode cL_law 753 = .ok (.if_icmp .le 8, 3) := by decide +kernel
theorem dL_law_756 : decode cL_law 756 = .ok (.bipush (-6), 2) := by decide +kernel
theorem dL_law_758 : decode cL_law 758 = .ok (.goto 9, 3) := by decide +kernel
theorem dL_law_761 : decode cL_law 761 = .ok (.aload_n 1, 1) := by decide +kernel
theorem dL_law_762 : decode cL_law 762 = .ok (.iload 18, 2) := by decide +kernel
theorem dL_law_764 : decode cL_law 764 = .ok (.invokevirtual 96, 3) := by decide +kernel
theorem dL_law_767 : decode cL_law 767 = .ok (.istore 19, 2) := by decide +kernel
theorem dL_law_769 : decode cL_law 769 = .ok (.aload_n 1, 1) := by decide +kernel
theorem dL_law_770 : decode cL_law 770 = .ok (.invokevirtual 9, 3) := by decide +kernel
theorem dL_law_773 : decode cL_law 773 = .ok (.istore 20, 2) := by decide +kernel
theorem dL_law_775 : decode cL_law 775 = .ok (.iload 19, 2) := by decide +kernel
theorem dL_law_777 : decode cL_law 777 = .ok (.ifCond .lt 132, 3) := by decide +kernel
theorem dL_law_780 : decode cL_law 780 = .ok (.aload_n 1, 1) := by decide +kernel
theorem dL_law_781 : decode cL_law 781 = .ok (.iload 18, 2) := by decide +kernel
theorem dL_law_783 : decode cL_law 783 = .ok (.iconst 0, 1) := by decide +kernel
theorem dL_law_784 : decode cL_law 784 = .ok (.invokevirtual 99, 3) := by decide +kernel
theorem dL_law_787 : decode cL_law 787 = .ok (.iload 20, 2) := by decide +kernel
theorem dL_law_789 : decode cL_law 789 = .ok (.if_icmp .ne 37, 3) := by decide +kernel
theorem dL_law_792 : decode cL_law 792 = .ok (.aload_n 1, 1) := by decide +kernel
theorem dL_law_793 : decode cL_law 793 = .ok (.iconst 0, 1) := by decide +kernel
theorem dL_law_794 : decode cL_law 794 = .ok (.invokevirtual 102, 3) := by decide +kernel
theorem dL_law_797 : decode cL_law 797 = .ok (.iload 20, 2) := by decide +kernel
theorem dL_law_799 : decode cL_law 799 = .ok (.if_icmp .ne 27, 3) := by decide +kernel
theorem dL_law_802 : decode cL_law 802 = .ok (.iload 19, 2) := by decide +kernel
theorem dL_law_804 : decode cL_law 804 = .ok (.iload 20, 2) := by decide +kernel
theorem dL_law_806 : decode cL_law 806 = .ok (.if_icmp .gt 20, 3) := by decide +kernel
theorem dL_law_809 : decode cL_law 809 = .ok (.aload_n 1, 1) := by decide +kernel
theorem dL_law_810 : decode cL_law 810 = .ok (.iconst 0, 1) := by decide +kernel
theorem dL_law_811 : decode cL_law 811 = .ok (.invokevirtual 105, 3) := by decide +kernel
theorem dL_law_814 : decode cL_law 814 = .ok (.ifCond .lt 12, 3) := by decide +kernel
theorem dL_law_817 : decode cL_law 817 = .ok (.aload_n 1, 1) := by decide +kernel
theorem dL_law_818 : decode cL_law 818 = .ok (.invokevirtual 9, 3) := by decide +kernel
theorem dL_law_821 : decode cL_law 821 = .ok (.iload 20, 2) := by decide +kernel
theorem dL_law_823 : decode cL_law 823 = .ok (.if_icmp .ge 5, 3) := by decide +kernel
theorem dL_law_826 : decode cL_law 826 = .ok (.iconst 0, 1) := by decide +kernel
theorem dL_law_827 : decode cL_law 827 = .ok (.ireturn, 1) := by decide +kernel
theorem dL_law_828 : decode cL_law 828 = .ok (.aload_n 0, 1) := by decide +kernel
theorem dL_law_829 : decode cL_law 829 = .ok (.bipush 26, 2) := by decide +kernel
theorem dL_law_831 : decode cL_law 831 = .ok (.invokestatic 15, 3) := by decide +kernel
theorem dL_law_834 : decode cL_law 834 = .ok (.sipush 200, 3) := by decide +kernel
theorem dL_law_837 : decode cL_law 837 = .ok (.invokestatic 21, 3) := by decide +kernel
theorem dL_law_840 : decode cL_law 840 = .ok (.istore 21, 2) := by decide +kernel
theorem dL_law_842 : decode cL_law 842 = .ok (.aload_n 1, 1) := by decide +kernel
theorem dL_law_843 : decode cL_law 843 = .ok (.iload 21, 2) := by decide +kernel
theorem dL_law_845 : decode cL_law 845 = .ok (.invokevirtual 108, 3) := by decide +kernel
theorem dL_law_848 : decode cL_law 848 = .ok (.istore 22, 2) := by decide +kernel
theorem dL_law_850 : decode cL_law 850 = .ok (.iload 22, 2) := by decide +kernel
theorem dL_law_852 : decode cL_law 852 = .ok (.ifCond .lt 55, 3) := by decide +kernel
theorem dL_law_855 : decode cL_law 855 = .ok (.iload 22, 2) := by decide +kernel
theorem dL_law_857 : decode cL_law 857 = .ok (.ifCond .le 33, 3) := by decide +kernel
theorem dL_law_860 : decode cL_law 860 = .ok (.iload 21, 2) := by decide +kernel
theorem dL_law_862 : decode cL_law 862 = .ok (.iload 22, 2) := by decide +kernel
theorem dL_law_864 : decode cL_law 864 = .ok (.isub, 1) := by decide +kernel
theorem dL_law_865 : decode cL_law 865 = .ok (.aload_n 1, 1) := by decide +kernel
theorem dL_law_866 : decode cL_law 866 = .ok (.invokevirtual 71, 3) := by decide +kernel
theorem dL_law_869 : decode cL_law 869 = .ok (.isub, 1) := by decide +kernel
theorem dL_law_870 : decode cL_law 870 = .ok (.iload 19, 2) := by decide +kernel
theorem dL_law_872 : decode cL_law 872 = .ok (.if_icmp .lt 35, 3) := by decide +kernel
theorem dL_law_875 : decode cL_law 875 = .ok (.iload 21, 2) := by decide +kernel
theorem dL_law_877 : decode cL_law 877 = .ok (.iload 22, 2) := by decide +kernel
theorem dL_law_879 : decode cL_law 879 = .ok (.isub, 1) := by decide +kernel
theorem dL_law_880 : decode cL_law 880 = .ok (.aload_n 1, 1) := by decide +kernel
theorem dL_law_881 : decode cL_law 881 = .ok (.invokevirtual 71, 3) := by decide +kernel
theorem dL_law_884 : decode cL_law 884 = .ok (.isub, 1) := by decide +kernel
theorem dL_law_885 : decode cL_law 885 = .ok (.iload 20, 2) := by decide +kernel
theorem dL_law_887 : decode cL_law 887 = .ok (.if_icmp .gt 20, 3) := by decide +kernel
theorem dL_law_890 : decode cL_law 890 = .ok (.iload 22, 2) := by decide +kernel
theorem dL_law_892 : decode cL_law 892 = .ok (.ifCond .ne 17, 3) := by decide +kernel
theorem dL_law_895 : decode cL_law 895 = .ok (.iload 21, 2) := by decide +kernel
theorem dL_law_897 : decode cL_law 897 = .ok (.aload_n 1, 1) := by decide +kernel
theorem dL_law_898 : decode cL_law 898 = .ok (.invokevirtual 71, 3) := by decide +kernel
theorem dL_law_901 : decode cL_law 901 = .ok (.iload 20, 2) := by decide +kernel
theorem dL_law_903 : decode cL_law 903 = .ok (.iadd, 1) := by decide +kernel
theorem dL_law_904 : decode cL_law 904 = .ok (.if_icmp .le 5, 3) := by decide +kernel
theorem dL_law_907 : decode cL_law 907 = .ok (.iconst 0, 1) := by decide +kernel
theorem dL_law_908 : decode cL_law 908 = .ok (.ireturn, 1) := by decide +kernel
theorem dL_law_909 : decode cL_law 909 = .ok (.aload_n 0, 1) := by decide +kernel
theorem dL_law_910 : decode cL_law 910 = .ok (.bipush 27, 2) := by decide +kernel
theorem dL_law_912 : decode cL_law 912 = .ok (.invokestatic 15, 3) := by decide +kernel
theorem dL_law_915 : decode cL_law 915 = .ok (.bipush 30, 2) := by decide +kernel
theorem dL_law_917 : decode cL_law 917 = .ok (.invokestatic 21, 3) := by decide +kernel
theorem dL_law_920 : decode cL_law 920 = .ok (.istore 21, 2) := by decide +kernel
theorem dL_law_922 : decode cL_law 922 = .ok (.aload_n 1, 1) := by decide +kernel
theorem dL_law_923 : decode cL_law 923 = .ok (.iload 21, 2) := by decide +kernel
theorem dL_law_925 : decode cL_law 925 = .ok (.invokevirtual 111, 3) := by decide +kernel
theorem dL_law_928 : decode cL_law 928 = .ok (.istore 22, 2) := by decide +kernel
theorem dL_law_930 : decode cL_law 930 = .ok (.aload_n 1, 1) := by decide +kernel
theorem dL_law_931 : decode cL_law 931 = .ok (.invokevirtual 9, 3) := by decide +kernel
theorem dL_law_934 : decode cL_law 934 = .ok (.istore 23, 2) := by decide +kernel
theorem dL_law_936 : decode cL_law 936 = .ok (.iload 22, 2) := by decide +kernel
theorem dL_law_938 : decode cL_law 938 = .ok (.ifCond .lt 13, 3) := by decide +kernel
theorem dL_law_941 : decode cL_law 941 = .ok (.iload 23, 2) := by decide +kernel
theorem dL_law_943 : decode cL_law 943 = .ok (.iload 10, 2) := by decide +kernel
theorem dL_law_945 : decode cL_law 945 = .ok (.iconst (-1), 1) := by decide +kernel
theorem dL_law_946 : decode cL_law 946 = .ok (.ixor, 1) := by decide +kernel
theorem dL_law_947 : decode cL_law 947 = .ok (.iand, 1) := by decide +kernel
theorem dL_law_948 : decode cL_law 948 = .ok (.ifCond .eq 5, 3) := by decide +kernel
theorem dL_law_951 : decode cL_law 951 = .ok (.iconst 0, 1) := by decide +kernel
theorem dL_law_952 : decode cL_law 952 = .ok (.ireturn, 1) := by decide +kernel
theorem dL_law_953 : decode cL_law 953 = .ok (.iconst 0, 1) := by decide +kernel
theorem dL_law_954 : decode cL_law 954 = .ok (.istore 24, 2) := by decide +kernel
theorem dL_law_956 : decode cL_law 956 = .ok (.iload 24, 2) := by decide +kernel
theorem dL_law_958 : decode cL_law 958 = .ok (.iload_n 2, 1) := by decide +kernel
theorem dL_law_959 : decode cL_law 959 = .ok (.if_icmp .ge 100, 3) := by decide +kernel
theorem dL_law_962 : decode cL_law 962 = .ok (.iload 22, 2) := by decide +kernel
theorem dL_law_964 : decode cL_law 964 = .ok (.ifCond .le 95, 3) := by decide +kernel
theorem dL_law_967 : decode cL_law 967 = .ok (.iload 10, 2) := by decide +kernel
theorem dL_law_969 : decode cL_law 969 = .ok (.iload 24, 2) := by decide +kernel
theorem dL_law_971 : decode cL_law 971 = .ok (.ishr, 1) := by decide +kernel
theorem dL_law_972 : decode cL_law 972 = .ok (.iconst 1, 1) := by decide +kernel
theorem dL_law_973 : decode cL_law 973 = .ok (.iand, 1) := by decide +kernel
theorem dL_law_974 : decode cL_law 974 = .ok (.iconst 1, 1) := by decide +kernel
theorem dL_law_975 : decode cL_law 975 = .ok (.if_icmp .ne 78, 3) := by decide +kernel
theorem dL_law_978 : decode cL_law 978 = .ok (.aload_n 1, 1) := by decide +kernel
theorem dL_law_979 : decode cL_law 979 = .ok (.iload 24, 2) := by decide +kernel
theorem dL_law_981 : decode cL_law 981 = .ok (.iload 21, 2) := by decide +kernel
theorem dL_law_983 : decode cL_law 983 = .ok (.invokevirtual 114, 3) := by decide +kernel
theorem dL_law_986 : decode cL_law 986 = .ok (.istore 25, 2) := by decide +kernel
theorem dL_law_988 : decode cL_law 988 = .ok (.iload 25, 2) := by decide +kernel
theorem dL_law_990 : decode cL_law 990 = .ok (.ifCond .lt 61, 3) := by decide +kernel
theorem dL_law_993 : decode cL_law 993 = .ok (.iload 25, 2) := by decide +kernel
theorem dL_law_995 : decode cL_law 995 = .ok (.iload 22, 2) := by decide +kernel
theorem dL_law_997 : decode cL_law 997 = .ok (.if_icmp .gt 54, 3) := by decide +kernel
theorem dL_law_1000 : decode cL_law 1000 = .ok (.iload 23, 2) := by decide +kernel
theorem dL_law_1002 : decode cL_law 1002 = .ok (.iload 24, 2) := by decide +kernel
theorem dL_law_1004 : decode cL_law 1004 = .ok (.ishr, 1) := by decide +kernel
theorem dL_law_1005 : decode cL_law 1005 = .ok (.iconst 1, 1) := by decide +kernel
theorem dL_law_1006 : decode cL_law 1006 = .ok (.iand, 1) := by decide +kernel
theorem dL_law_1007 : decode cL_law 1007 = .ok (.iconst 1, 1) := by decide +kernel
theorem dL_law_1008 : decode cL_law 1008 = .ok (.if_icmp .ne 7, 3) := by decide +kernel
theorem dL_law_1011 : decode cL_law 1011 = .ok (.iconst 1, 1) := by decide +kernel
theorem dL_law_1012 : decode cL_law 1012 = .ok (.goto 4, 3) := by decide +kernel
theorem dL_law_1015 : decode cL_law 1015 = .ok (.iconst 0, 1) := by decide +kernel
theorem dL_law_1016 : decode cL_law 1016 = .ok (.iload 25, 2) := by decide +kernel
theorem dL_law_1018 : decode cL_law 1018 = .ok (.iload 22, 2) := by decide +kernel
theorem dL_law_1020 : decode cL_law 1020 = .ok (.if_icmp .ne 7, 3) := by decide +kernel
theorem dL_law_1023 : decode cL_law 1023 = .ok (.iconst 1, 1) := by decide +kernel
theorem dL_law_1024 : decode cL_law 1024 = .ok (.goto 4, 3) := by decide +kernel
theorem dL_law_1027 : decode cL_law 1027 = .ok (.iconst 0, 1) := by decide +kernel
theorem dL_law_1028 : decode cL_law 1028 = .ok (.if_icmp .ne 23, 3) := by decide +kernel
theorem dL_law_1031 : decode cL_law 1031 = .ok (.aload_n 1, 1) := by decide +kernel
theorem dL_law_1032 : decode cL_law 1032 = .ok (.invokevirtual 83, 3) := by decide +kernel
theorem dL_law_1035 : decode cL_law 1035 = .ok (.iload 22, 2) := by decide +kernel
theorem dL_law_1037 : decode cL_law 1037 = .ok (.i2l, 1) := by decide +kernel
theorem dL_law_1038 : decode cL_law 1038 = .ok (.lmul, 1) := by decide +kernel
theorem dL_law_1039 : decode cL_law 1039 = .ok (.aload_n 1, 1) := by decide +kernel
theorem dL_law_1040 : decode cL_law 1040 = .ok (.invokevirtual 87, 3) := by decide +kernel
theorem dL_law_1043 : decode cL_law 1043 = .ok (.iload 25, 2) := by decide +kernel
theorem dL_law_1045 : decode cL_law 1045 = .ok (.i2l, 1) := by decide +kernel
theorem dL_law_1046 : decode cL_law 1046 = .ok (.lmul, 1) := by decide +kernel
theorem dL_law_1047 : decode cL_law 1047 = .ok (.lcmp, 1) := by decide +kernel
theorem dL_law_1048 : decode cL_law 1048 = .ok (.ifCond .eq 5, 3) := by decide +kernel
theorem dL_law_1051 : decode cL_law 1051 = .ok (.iconst 0, 1) := by decide +kernel
theorem dL_law_1052 : decode cL_law 1052 = .ok (.ireturn, 1) := by decide +kernel
theorem dL_law_1053 : decode cL_law 1053 = .ok (.iinc 24 1, 3) := by decide +kernel
theorem dL_law_1056 : decode cL_law 1056 = .ok (.goto (-100), 3) := by decide +kernel
theorem dL_law_1059 : decode cL_law 1059 = .ok (.aload_n 1, 1) := by decide +kernel
theorem dL_law_1060 : decode cL_law 1060 = .ok (.iconst 1, 1) := by decide +kernel
theorem dL_law_1061 : decode cL_law 1061 = .ok (.iconst 5, 1) := by decide +kernel
theorem dL_law_1062 : decode cL_law 1062 = .ok (.invokevirtual 117, 3) := by decide +kernel
theorem dL_law_1065 : decode cL_law 1065 = .ok (.iconst 5, 1) := by decide +kernel
theorem dL_law_1066 : decode cL_law 1066 = .ok (.if_icmp .eq 5, 3) := by decide +kernel
theorem dL_law_1069 : decode cL_law 1069 = .ok (.iconst 0, 1) := by decide +kernel
theorem dL_law_1070 : decode cL_law 1070 = .ok (.ireturn, 1) := by decide +kernel
theorem dL_law_1071 : decode cL_law 1071 = .ok (.iconst 0, 1) := by decide +kernel
theorem dL_law_1072 : decode cL_law 1072 = .ok (.istore 24, 2) := by decide +kernel
theorem dL_law_1074 : decode cL_law 1074 = .ok (.iload 24, 2) := by decide +kernel
theorem dL_law_1076 : decode cL_law 1076 = .ok (.iconst 5, 1) := by decide +kernel
theorem dL_law_1077 : decode cL_law 1077 = .ok (.if_icmp .ge 38, 3) := by decide +kernel
theorem dL_law_1080 : decode cL_law 1080 = .ok (.aload_n 1, 1) := by decide +kernel
theorem dL_law_1081 : decode cL_law 1081 = .ok (.iconst 1, 1) := by decide +kernel
theorem dL_law_1082 : decode cL_law 1082 = .ok (.iload 24, 2) := by decide +kernel
theorem dL_law_1084 : decode cL_law 1084 = .ok (.iconst 1, 1) := by decide +kernel
theorem dL_law_1085 : decode cL_law 1085 = .ok (.aload_n 0, 1) := by decide +kernel
theorem dL_law_1086 : decode cL_law 1086 = .ok (.bipush 28, 2) := by decide +kernel
theorem dL_law_1088 : decode cL_law 1088 = .ok (.iload 24, 2) := by decide +kernel
theorem dL_law_1090 : decode cL_law 1090 = .ok (.iadd, 1) := by decide +kernel
theorem dL_law_1091 : decode cL_law 1091 = .ok (.invokestatic 15, 3) := by decide +kernel
theorem dL_law_1094 : decode cL_law 1094 = .ok (.bipush 12, 2) := by decide +kernel
theorem dL_law_1096 : decode cL_law 1096 = .ok (.invokestatic 21, 3) := by decide +kernel
theorem dL_law_1099 : decode cL_law 1099 = .ok (.iadd, 1) := by decide +kernel
theorem dL_law_1100 : decode cL_law 1100 = .ok (.invokevirtual 120, 3) := by decide +kernel
theorem dL_law_1103 : decode cL_law 1103 = .ok (.iconst 1, 1) := by decide +kernel
theorem dL_law_1104 : decode cL_law 1104 = .ok (.if_icmp .eq 5, 3) := by decide +kernel
theorem dL_law_1107 : decode cL_law 1107 = .ok (.iconst 0, 1) := by decide +kernel
theorem dL_law_1108 : decode cL_law 1108 = .ok (.ireturn, 1) := by decide +kernel
theorem dL_law_1109 : decode cL_law 1109 = .ok (.iinc 24 1, 3) := by decide +kernel
theorem dL_law_1112 : decode cL_law 1112 = .ok (.goto (-38), 3) := by decide +kernel
theorem dL_law_1115 : decode cL_law 1115 = .ok (.aload_n 1, 1) := by decide +kernel
theorem dL_law_1116 : decode cL_law 1116 = .ok (.bipush 14, 2) := by decide +kernel
theorem dL_law_1118 : decode cL_law 1118 = .ok (.iconst 2, 1) := by decide +kernel
theorem dL_law_1119 : decode cL_law 1119 = .ok (.iconst 1, 1) := by decide +kernel
theorem dL_law_1120 : decode cL_law 1120 = .ok (.invokevirtual 123, 3) := by decide +kernel
theorem dL_law_1123 : decode cL_law 1123 = .ok (.istore 24, 2) := by decide +kernel
theorem dL_law_1125 : decode cL_law 1125 = .ok (.aload_n 1, 1) := by decide +kernel
theorem dL_law_1126 : decode cL_law 1126 = .ok (.bipush 14, 2) := by decide +kernel
theorem dL_law_1128 : decode cL_law 1128 = .ok (.iconst 2, 1) := by decide +kernel
theorem dL_law_1129 : decode cL_law 1129 = .ok (.iconst 1, 1) := by decide +kernel
theorem dL_law_1130 : decode cL_law 1130 = .ok (.invokevirtual 126, 3) := by decide +kernel
theorem dL_law_1133 : decode cL_law 1133 = .ok (.istore 25, 2) := by decide +kernel
theorem dL_law_1135 : decode cL_law 1135 = .ok (.iload 24, 2) := by decide +kernel
theorem dL_law_1137 : decode cL_law 1137 = .ok (.ifCond .lt 41, 3) := by decide +kernel
theorem dL_law_1140 : decode cL_law 1140 = .ok (.iload 25, 2) := by decide +kernel
theorem dL_law_1142 : decode cL_law 1142 = .ok (.iload 24, 2) := by decide +kernel
theorem dL_law_1144 : decode cL_law 1144 = .ok (.if_icmp .lt 34, 3) := by decide +kernel
theorem dL_law_1147 : decode cL_law 1147 = .ok (.iload 25, 2) := by decide +kernel
theorem dL_law_1149 : decode cL_law 1149 = .ok (.iconst 5, 1) := by decide +kernel
theorem dL_law_1150 : decode cL_law 1150 = .ok (.if_icmp .gt 28, 3) := by decide +kernel
theorem dL_law_1153 : decode cL_law 1153 = .ok (.aload_n 1, 1) := by decide +kernel
theorem dL_law_1154 : decode cL_law 1154 = .ok (.invokevirtual 9, 3) := by decide +kernel
theorem dL_law_1157 : decode cL_law 1157 = .ok (.invokestatic 77, 3) := by decide +kernel
theorem dL_law_1160 : decode cL_law 1160 = .ok (.iload 25, 2) := by decide +kernel
theorem dL_law_1162 : decode cL_law 1162 = .ok (.if_icmp .ne 16, 3) := by decide +kernel
theorem dL_law_1165 : decode cL_law 1165 = .ok (.aload_n 1, 1) := by decide +kernel
theorem dL_law_1166 : decode cL_law 1166 = .ok (.bipush 14, 2) := by decide +kernel
theorem dL_law_1168 : decode cL_law 1168 = .ok (.iconst 3, 1) := by decide +kernel
theorem dL_law_1169 : decode cL_law 1169 = .ok (.iconst 1, 1) := by decide +kernel
theorem dL_law_1170 : decode cL_law 1170 = .ok (.invokevirtual 126, 3) := by decide +kernel
theorem dL_law_1173 : decode cL_law 1173 = .ok (.iload 25, 2) := by decide +kernel
theorem dL_law_1175 : decode cL_law 1175 = .ok (.if_icmp .ge 5, 3) := by decide +kernel
theorem dL_law_1178 : decode cL_law 1178 = .ok (.iconst 0, 1) := by decide +kernel
theorem dL_law_1179 : decode cL_law 1179 = .ok (.ireturn, 1) := by decide +kernel
theorem dL_law_1180 : decode cL_law 1180 = .ok (.iconst 0, 1) := by decide +kernel
theorem dL_law_1181 : decode cL_law 1181 = .ok (.istore 26, 2) := by decide +kernel
theorem dL_law_1183 : decode cL_law 1183 = .ok (.iload 26, 2) := by decide +kernel
theorem dL_law_1185 : decode cL_law 1185 = .ok (.iconst 4, 1) := by decide +kernel
theorem dL_law_1186 : decode cL_law 1186 = .ok (.if_icmp .ge 69, 3) := by decide +kernel
theorem dL_law_1189 : decode cL_law 1189 = .ok (.aload_n 0, 1) := by decide +kernel
theorem dL_law_1190 : decode cL_law 1190 = .ok (.bipush 33, 2) := by decide +kernel
theorem dL_law_1192 : decode cL_law 1192 = .ok (.iload 26, 2) := by decide +kernel
theorem dL_law_1194 : decode cL_law 1194 = .ok (.iadd, 1) := by decide +kernel
theorem dL_law_1195 : decode cL_law 1195 = .ok (.invokestatic 15, 3) := by decide +kernel
theorem dL_law_1198 : decode cL_law 1198 = .ok (.iload_n 2, 1) := by decide +kernel
theorem dL_law_1199 : decode cL_law 1199 = .ok (.invokestatic 21, 3) := by decide +kernel
theorem dL_law_1202 : decode cL_law 1202 = .ok (.istore 27, 2) := by decide +kernel
theorem dL_law_1204 : decode cL_law 1204 = .ok (.aload_n 1, 1) := by decide +kernel
theorem dL_law_1205 : decode cL_law 1205 = .ok (.aload_n 1, 1) := by decide +kernel
theorem dL_law_1206 : decode cL_law 1206 = .ok (.iload 27, 2) := by decide +kernel
theorem dL_law_1208 : decode cL_law 1208 = .ok (.invokevirtual 129, 3) := by decide +kernel
theorem dL_law_1211 : decode cL_law 1211 = .ok (.invokestatic 68, 3) := by decide +kernel
theorem dL_law_1214 : decode cL_law 1214 = .ok (.istore 28, 2) := by decide +kernel
theorem dL_law_1216 : decode cL_law 1216 = .ok (.aload_n 1, 1) := by decide +kernel
theorem dL_law_1217 : decode cL_law 1217 = .ok (.iload 27, 2) := by decide +kernel
theorem dL_law_1219 : decode cL_law 1219 = .ok (.invokevirtual 132, 3) := by decide +kernel
theorem dL_law_1222 : decode cL_law 1222 = .ok (.istore 29, 2) := by decide +kernel
theorem dL_law_1224 : decode cL_law 1224 = .ok (.iload 29, 2) := by decide +kernel
theorem dL_law_1226 : decode cL_law 1226 = .ok (.ifCond .lt 21, 3) := by decide +kernel
theorem dL_law_1229 : decode cL_law 1229 = .ok (.aload_n 1, 1) := by decide +kernel
theorem dL_law_1230 : decode cL_law 1230 = .ok (.aload_n 1, 1) := by decide +kernel
theorem dL_law_1231 : decode cL_law 1231 = .ok (.iload 27, 2) := by decide +kernel
theorem dL_law_1233 : decode cL_law 1233 = .ok (.invokevirtual 129, 3) := by decide +kernel
theorem dL_law_1236 : decode cL_law 1236 = .ok (.invokestatic 68, 3) := by decide +kernel
theorem dL_law_1239 : decode cL_law 1239 = .ok (.iload 28, 2) := by decide +kernel
theorem dL_law_1241 : decode cL_law 1241 = .ok (.iload 29, 2) := by decide +kernel
theorem dL_law_1243 : decode cL_law 1243 = .ok (.iadd, 1) := by decide +kernel
theorem dL_law_1244 : decode cL_law 1244 = .ok (.if_icmp .eq 5, 3) := by decide +kernel
theorem dL_law_1247 : decode cL_law 1247 = .ok (.iconst 0, 1) := by decide +kernel
theorem dL_law_1248 : decode cL_law 1248 = .ok (.ireturn, 1) := by decide +kernel
theorem dL_law_1249 : decode cL_law 1249 = .ok (.iinc 26 1, 3) := by decide +kernel
theorem dL_law_1252 : decode cL_law 1252 = .ok (.goto (-69), 3) := by decide +kernel
theorem dL_law_1255 : decode cL_law 1255 = .ok (.iconst 0, 1) := by decide +kernel
theorem dL_law_1256 : decode cL_law 1256 = .ok (.istore 26, 2) := by decide +kernel
theorem dL_law_1258 : decode cL_law 1258 = .ok (.iconst 0, 1) := by decide +kernel
theorem dL_law_1259 : decode cL_law 1259 = .ok (.istore 27, 2) := by decide +kernel
theorem dL_law_1261 : decode cL_law 1261 = .ok (.iload 27, 2) := by decide +kernel
theorem dL_law_1263 : decode cL_law 1263 = .ok (.iload_n 2, 1) := by decide +kernel
theorem dL_law_1264 : decode cL_law 1264 = .ok (.if_icmp .ge 24, 3) := by decide +kernel
theorem dL_law_1267 : decode cL_law 1267 = .ok (.iload 26, 2) := by decide +kernel
theorem dL_law_1269 : decode cL_law 1269 = .ok (.aload_n 1, 1) := by decide +kernel
theorem dL_law_1270 : decode cL_law 1270 = .ok (.aload_n 1, 1) := by decide +kernel
theorem dL_law_1271 : decode cL_law 1271 = .ok (.iload 27, 2) := by decide +kernel
theorem dL_law_1273 : decode cL_law 1273 = .ok (.invokevirtual 129, 3) := by decide +kernel
theorem dL_law_1276 : decode cL_law 1276 = .ok (.invokestatic 68, 3) := by decide +kernel
theorem dL_law_1279 : decode cL_law 1279 = .ok (.iadd, 1) := by decide +kernel
theorem dL_law_1280 : decode cL_law 1280 = .ok (.istore 26, 2) := by decide +kernel
theorem dL_law_1282 : decode cL_law 1282 = .ok (.iinc 27 1, 3) := by decide +kernel
theorem dL_law_1285 : decode cL_law 1285 = .ok (.goto (-24), 3) := by decide +kernel
theorem dL_law_1288 : decode cL_law 1288 = .ok (.iload 26, 2) := by decide +kernel
theorem dL_law_1290 : decode cL_law 1290 = .ok (.ifCond .ne 52, 3) := by decide +kernel
theorem dL_law_1293 : decode cL_law 1293 = .ok (.aload_n 1, 1) := by decide +kernel
theorem dL_law_1294 : decode cL_law 1294 = .ok (.iconst 0, 1) := by decide +kernel
theorem dL_law_1295 : decode cL_law 1295 = .ok (.invokevirtual 135, 3) := by decide +kernel
theorem dL_law_1298 : decode cL_law 1298 = .ok (.iconst 4, 1) := by decide +kernel
theorem dL_law_1299 : decode cL_law 1299 = .ok (.if_icmp .ne 43, 3) := by decide +kernel
theorem dL_law_1302 : decode cL_law 1302 = .ok (.aload_n 1, 1) := by decide +kernel
theorem dL_law_1303 : decode cL_law 1303 = .ok (.iconst 2, 1) := by decide +kernel
theorem dL_law_1304 : decode cL_law 1304 = .ok (.iconst 1, 1) := by decide +kernel
theorem dL_law_1305 : decode cL_law 1305 = .ok (.invokevirtual 117, 3) := by decide +kernel
theorem dL_law_1308 : decode cL_law 1308 = .ok (.iconst 1, 1) := by decide +kernel
theorem dL_law_1309 : decode cL_law 1309 = .ok (.if_icmp .ne 33, 3) := by decide +kernel
theorem dL_law_1312 : decode cL_law 1312 = .ok (.aload_n 1, 1) := by decide +kernel
theorem dL_law_1313 : decode cL_law 1313 = .ok (.iconst 2, 1) := by decide +kernel
theorem dL_law_1314 : decode cL_law 1314 = .ok (.invokevirtual 138, 3) := by decide +kernel
theorem dL_law_1317 : decode cL_law 1317 = .ok (.ifCond .lt 25, 3) := by decide +kernel
theorem dL_law_1320 : decode cL_law 1320 = .ok (.aload_n 1, 1) := by decide +kernel
theorem dL_law_1321 : decode cL_law 1321 = .ok (.iconst 2, 1) := by decide +kernel
theorem dL_law_1322 : decode cL_law 1322 = .ok (.invokevirtual 138, 3) := by decide +kernel
theorem dL_law_1325 : decode cL_law 1325 = .ok (.iconst 2, 1) := by decide +kernel
theorem dL_law_1326 : decode cL_law 1326 = .ok (.if_icmp .gt 16, 3) := by decide +kernel
theorem dL_law_1329 : decode cL_law 1329 = .ok (.aload_n 1, 1) := by decide +kernel
theorem dL_law_1330 : decode cL_law 1330 = .ok (.iconst 1, 1) := by decide +kernel
theorem dL_law_1331 : decode cL_law 1331 = .ok (.invokevirtual 74, 3) := by decide +kernel
theorem dL_law_1334 : decode cL_law 1334 = .ok (.iload 10, 2) := by decide +kernel
theorem dL_law_1336 : decode cL_law 1336 = .ok (.invokestatic 77, 3) := by decide +kernel
theorem dL_law_1339 : decode cL_law 1339 = .ok (.if_icmp .eq 5, 3) := by decide +kernel
theorem dL_law_1342 : decode cL_law 1342 = .ok (.iconst 0, 1) := by decide +kernel
theorem dL_law_1343 : decode cL_law 1343 = .ok (.ireturn, 1) := by decide +kernel
theorem dL_law_1344 : decode cL_law 1344 = .ok (.aload_n 1, 1) := by decide +kernel
theorem dL_law_1345 : decode cL_law 1345 = .ok (.iload 6, 2) := by decide +kernel
theorem dL_law_1347 : decode cL_law 1347 = .ok (.iload 11, 2) := by decide +kernel
theorem dL_law_1349 : decode cL_law 1349 = .ok (.invokevirtual 141, 3) := by decide +kernel
theorem dL_law_1352 : decode cL_law 1352 = .ok (.istore 27, 2) := by decide +kernel
theorem dL_law_1354 : decode cL_law 1354 = .ok (.aload_n 1, 1) := by decide +kernel
theorem dL_law_1355 : decode cL_law 1355 = .ok (.invokevirtual 83, 3) := by decide +kernel
theorem dL_law_1358 : decode cL_law 1358 = .ok (.lstore 12, 2) := by decide +kernel
theorem dL_law_1360 : decode cL_law 1360 = .ok (.aload_n 1, 1) := by decide +kernel
theorem dL_law_1361 : decode cL_law 1361 = .ok (.invokevirtual 87, 3) := by decide +kernel
theorem dL_law_1364 : decode cL_law 1364 = .ok (.lstore 14, 2) := by decide +kernel
theorem dL_law_1366 : decode cL_law 1366 = .ok (.iload 27, 2) := by decide +kernel
theorem dL_law_1368 : decode cL_law 1368 = .ok (.ifCond .lt 45, 3) := by decide +kernel
theorem dL_law_1371 : decode cL_law 1371 = .ok (.iload 27, 2) := by decide +kernel
theorem dL_law_1373 : decode cL_law 1373 = .ok (.iconst 2, 1) := by decide +kernel
theorem dL_law_1374 : decode cL_law 1374 = .ok (.if_icmp .gt 39, 3) := by decide +kernel
theorem dL_law_1377 : decode cL_law 1377 = .ok (.aload_n 1, 1) := by decide +kernel
theorem dL_law_1378 : decode cL_law 1378 = .ok (.iconst 0, 1) := by decide +kernel
theorem dL_law_1379 : decode cL_law 1379 = .ok (.invokevirtual 144, 3) := by decide +kernel
theorem dL_law_1382 : decode cL_law 1382 = .ok (.ifCond .ne 31, 3) := by decide +kernel
theorem dL_law_1385 : decode cL_law 1385 = .ok (.aload_n 1, 1) := by decide +kernel
theorem dL_law_1386 : decode cL_law 1386 = .ok (.iload 11, 2) := by decide +kernel
theorem dL_law_1388 : decode cL_law 1388 = .ok (.invokevirtual 80, 3) := by decide +kernel
theorem dL_law_1391 : decode cL_law 1391 = .ok (.iconst 1, 1) := by decide +kernel
theorem dL_law_1392 : decode cL_law 1392 = .ok (.if_icmp .ne 21, 3) := by decide +kernel
theorem dL_law_1395 : decode cL_law 1395 = .ok (.aload_n 1, 1) := by decide +kernel
theorem dL_law_1396 : decode cL_law 1396 = .ok (.invokevirtual 83, 3) := by decide +kernel
theorem dL_law_1399 : decode cL_law 1399 = .ok (.lload 14, 2) := by decide +kernel
theorem dL_law_1401 : decode cL_law 1401 = .ok (.lmul, 1) := by decide +kernel
theorem dL_law_1402 : decode cL_law 1402 = .ok (.lload 12, 2) := by decide +kernel
theorem dL_law_1404 : decode cL_law 1404 = .ok (.aload_n 1, 1) := by decide +kernel
theorem dL_law_1405 : decode cL_law 1405 = .ok (.invokevirtual 87, 3) := by decide +kernel
theorem dL_law_1408 : decode cL_law 1408 = .ok (.lmul, 1) := by decide +kernel
theorem dL_law_1409 : decode cL_law 1409 = .ok (.lcmp, 1) := by decide +kernel
theorem dL_law_1410 : decode cL_law 1410 = .ok (.ifCond .le 5, 3) := by decide +kernel
theorem dL_law_1413 : decode cL_law 1413 = .ok (.iconst 0, 1) := by decide +kernel
theorem dL_law_1414 : decode cL_law 1414 = .ok (.ireturn, 1) := by decide +kernel
theorem dL_law_1415 : decode cL_law 1415 = .ok (.aload_n 1, 1) := by decide +kernel
theorem dL_law_1416 : decode cL_law 1416 = .ok (.bipush 12, 2) := by decide +kernel
theorem dL_law_1418 : decode cL_law 1418 = .ok (.bipush 77, 2) := by decide +kernel
theorem dL_law_1420 : decode cL_law 1420 = .ok (.invokevirtual 59, 3) := by decide +kernel
theorem dL_law_1423 : decode cL_law 1423 = .ok (.bipush 12, 2) := by decide +kernel
theorem dL_law_1425 : decode cL_law 1425 = .ok (.if_icmp .eq 5, 3) := by decide +kernel
theorem dL_law_1428 : decode cL_law 1428 = .ok (.iconst 0, 1) := by decide +kernel
theorem dL_law_1429 : decode cL_law 1429 = .ok (.ireturn, 1) := by decide +kernel
theorem dL_law_1430 : decode cL_law 1430 = .ok (.iload 4, 2) := by decide +kernel
theorem dL_law_1432 : decode cL_law 1432 = .ok (.ifCond .eq 39, 3) := by decide +kernel
theorem dL_law_1435 : decode cL_law 1435 = .ok (.iconst 0, 1) := by decide +kernel
theorem dL_law_1436 : decode cL_law 1436 = .ok (.istore 28, 2) := by decide +kernel
theorem dL_law_1438 : decode cL_law 1438 = .ok (.iload 28, 2) := by decide +kernel
theorem dL_law_1440 : decode cL_law 1440 = .ok (.iload_n 2, 1) := by decide +kernel
theorem dL_law_1441 : decode cL_law 1441 = .ok (.if_icmp .ge 30, 3) := by decide +kernel
theorem dL_law_1444 : decode cL_law 1444 = .ok (.aload_n 1, 1) := by decide +kernel
theorem dL_law_1445 : decode cL_law 1445 = .ok (.aload_n 1, 1) := by decide +kernel
theorem dL_law_1446 : decode cL_law 1446 = .ok (.iload 28, 2) := by decide +kernel
theorem dL_law_1448 : decode cL_law 1448 = .ok (.iconst 2, 1) := by decide +kernel
theorem dL_law_1449 : decode cL_law 1449 = .ok (.invokevirtual 65, 3) := by decide +kernel
theorem dL_law_1452 : decode cL_law 1452 = .ok (.invokestatic 68, 3) := by decide +kernel
theorem dL_law_1455 : decode cL_law 1455 = .ok (.aload 9, 2) := by decide +kernel
theorem dL_law_1457 : decode cL_law 1457 = .ok (.iload 28, 2) := by decide +kernel
theorem dL_law_1459 : decode cL_law 1459 = .ok (.iaload, 1) := by decide +kernel
theorem dL_law_1460 : decode cL_law 1460 = .ok (.if_icmp .eq 5, 3) := by decide +kernel
theorem dL_law_1463 : decode cL_law 1463 = .ok (.iconst 0, 1) := by decide +kernel
theorem dL_law_1464 : decode cL_law 1464 = .ok (.ireturn, 1) := by decide +kernel
theorem dL_law_1465 : decode cL_law 1465 = .ok (.iinc 28 1, 3) := by decide +kernel
theorem dL_law_1468 : decode cL_law 1468 = .ok (.goto (-30), 3) := by decide +kernel
theorem dL_law_1471 : decode cL_law 1471 = .ok (.aload_n 1, 1) := by decide +kernel
theorem dL_law_1472 : decode cL_law 1472 = .ok (.iconst 0, 1) := by decide +kernel
theorem dL_law_1473 : decode cL_law 1473 = .ok (.invokevirtual 144, 3) := by decide +kernel
theorem dL_law_1476 : decode cL_law 1476 = .ok (.ifCond .ne 30, 3) := by decide +kernel
theorem dL_law_1479 : decode cL_law 1479 = .ok (.aload_n 1, 1) := by decide +kernel
theorem dL_law_1480 : decode cL_law 1480 = .ok (.iconst 1, 1) := by decide +kernel
theorem dL_law_1481 : decode cL_law 1481 = .ok (.invokevirtual 74, 3) := by decide +kernel
theorem dL_law_1484 : decode cL_law 1484 = .ok (.ifCond .ne 22, 3) := by decide +kernel
theorem dL_law_1487 : decode cL_law 1487 = .ok (.aload_n 1, 1) := by decide +kernel
theorem dL_law_1488 : decode cL_law 1488 = .ok (.invokevirtual 71, 3) := by decide +kernel
theorem dL_law_1491 : decode cL_law 1491 = .ok (.ifCond .ne 15, 3) := by decide +kernel
theorem dL_law_1494 : decode cL_law 1494 = .ok (.aload_n 1, 1) := by decide +kernel
theorem dL_law_1495 : decode cL_law 1495 = .ok (.iconst 2, 1) := by decide +kernel
theorem dL_law_1496 : decode cL_law 1496 = .ok (.invokevirtual 74, 3) := by decide +kernel
theorem dL_law_1499 : decode cL_law 1499 = .ok (.ifCond .ne 7, 3) := by decide +kernel
theorem dL_law_1502 : decode cL_law 1502 = .ok (.iconst 1, 1) := by decide +kernel
theorem dL_law_1503 : decode cL_law 1503 = .ok (.goto 4, 3) := by decide +kernel
theorem dL_law_1506 : decode cL_law 1506 = .ok (.iconst 0, 1) := by decide +kernel
theorem dL_law_1507 : decode cL_law 1507 = .ok (.ireturn, 1) := by decide +kernel
