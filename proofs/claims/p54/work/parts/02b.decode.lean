theorem dX0_init_0 : decode cX0_init 0 = .ok (.aload_n 0, 1) := by decide +kernel
theorem dX0_init_1 : decode cX0_init 1 = .ok (.invokespecial 3, 3) := by decide +kernel
theorem dX0_init_4 : decode cX0_init 4 = .ok (.aload_n 0, 1) := by decide +kernel
theorem dX0_init_5 : decode cX0_init 5 = .ok (.bipush 10, 2) := by decide +kernel
theorem dX0_init_7 : decode cX0_init 7 = .ok (.newarray .int, 2) := by decide +kernel
theorem dX0_init_9 : decode cX0_init 9 = .ok (.putfield 9, 3) := by decide +kernel
theorem dX0_init_12 : decode cX0_init 12 = .ok (.return_, 1) := by decide +kernel
theorem dX0_layFrom_0 : decode cX0_layFrom 0 = .ok (.iconst 0, 1) := by decide +kernel
theorem dX0_layFrom_1 : decode cX0_layFrom 1 = .ok (.istore_n 2, 1) := by decide +kernel
theorem dX0_layFrom_2 : decode cX0_layFrom 2 = .ok (.iload_n 2, 1) := by decide +kernel
theorem dX0_layFrom_3 : decode cX0_layFrom 3 = .ok (.aload_n 0, 1) := by decide +kernel
theorem dX0_layFrom_4 : decode cX0_layFrom 4 = .ok (.getfield 9, 3) := by decide +kernel
theorem dX0_layFrom_7 : decode cX0_layFrom 7 = .ok (.arraylength, 1) := by decide +kernel
theorem dX0_layFrom_8 : decode cX0_layFrom 8 = .ok (.if_icmp .ge 16, 3) := by decide +kernel
theorem dX0_layFrom_11 : decode cX0_layFrom 11 = .ok (.aload_n 0, 1) := by decide +kernel
theorem dX0_layFrom_12 : decode cX0_layFrom 12 = .ok (.getfield 9, 3) := by decide +kernel
theorem dX0_layFrom_15 : decode cX0_layFrom 15 = .ok (.iload_n 2, 1) := by decide +kernel
theorem dX0_layFrom_16 : decode cX0_layFrom 16 = .ok (.iconst 0, 1) := by decide +kernel
theorem dX0_layFrom_17 : decode cX0_layFrom 17 = .ok (.iastore, 1) := by decide +kernel
theorem dX0_layFrom_18 : decode cX0_layFrom 18 = .ok (.iinc 2 1, 3) := by decide +kernel
theorem dX0_layFrom_21 : decode cX0_layFrom 21 = .ok (.goto (-19), 3) := by decide +kernel
theorem dX0_layFrom_24 : decode cX0_layFrom 24 = .ok (.iconst 0, 1) := by decide +kernel
theorem dX0_layFrom_25 : decode cX0_layFrom 25 = .ok (.istore_n 2, 1) := by decide +kernel
theorem dX0_layFrom_26 : decode cX0_layFrom 26 = .ok (.iload_n 2, 1) := by decide +kernel
theorem dX0_layFrom_27 : decode cX0_layFrom 27 = .ok (.bipush 9, 2) := by decide +kernel
theorem dX0_layFrom_29 : decode cX0_layFrom 29 = .ok (.if_icmp .ge 26, 3) := by decide +kernel
theorem dX0_layFrom_32 : decode cX0_layFrom 32 = .ok (.aload_n 1, 1) := by decide +kernel
theorem dX0_layFrom_33 : decode cX0_layFrom 33 = .ok (.iload_n 2, 1) := by decide +kernel
theorem dX0_layFrom_34 : decode cX0_layFrom 34 = .ok (.invokevirtual 15, 3) := by decide +kernel
theorem dX0_layFrom_37 : decode cX0_layFrom 37 = .ok (.ifCond .eq 12, 3) := by decide +kernel
theorem dX0_layFrom_40 : decode cX0_layFrom 40 = .ok (.aload_n 0, 1) := by decide +kernel
theorem dX0_layFrom_41 : decode cX0_layFrom 41 = .ok (.aload_n 1, 1) := by decide +kernel
theorem dX0_layFrom_42 : decode cX0_layFrom 42 = .ok (.iload_n 2, 1) := by decide +kernel
theorem dX0_layFrom_43 : decode cX0_layFrom 43 = .ok (.invokevirtual 21, 3) := by decide +kernel
theorem dX0_layFrom_46 : decode cX0_layFrom 46 = .ok (.invokevirtual 25, 3) := by decide +kernel
theorem dX0_layFrom_49 : decode cX0_layFrom 49 = .ok (.iinc 2 1, 3) := by decide +kernel
theorem dX0_layFrom_52 : decode cX0_layFrom 52 = .ok (.goto (-26), 3) := by decide +kernel
theorem dX0_layFrom_55 : decode cX0_layFrom 55 = .ok (.return_, 1) := by decide +kernel
theorem dX0_add_0 : decode cX0_add 0 = .ok (.iload_n 1, 1) := by decide +kernel
theorem dX0_add_1 : decode cX0_add 1 = .ok (.ifCond .lt 22, 3) := by decide +kernel
theorem dX0_add_4 : decode cX0_add 4 = .ok (.iload_n 1, 1) := by decide +kernel
theorem dX0_add_5 : decode cX0_add 5 = .ok (.aload_n 0, 1) := by decide +kernel
theorem dX0_add_6 : decode cX0_add 6 = .ok (.getfield 9, 3) := by decide +kernel
theorem dX0_add_9 : decode cX0_add 9 = .ok (.arraylength, 1) := by decide +kernel
theorem dX0_add_10 : decode cX0_add 10 = .ok (.if_icmp .ge 13, 3) := by decide +kernel
theorem dX0_add_13 : decode cX0_add 13 = .ok (.aload_n 0, 1) := by decide +kernel
theorem dX0_add_14 : decode cX0_add 14 = .ok (.getfield 9, 3) := by decide +kernel
theorem dX0_add_17 : decode cX0_add 17 = .ok (.iload_n 1, 1) := by decide +kernel
theorem dX0_add_18 : decode cX0_add 18 = .ok (.dup2, 1) := by decide +kernel
theorem dX0_add_19 : decode cX0_add 19 = .ok (.iaload, 1) := by decide +kernel
theorem dX0_add_20 : decode cX0_add 20 = .ok (.iconst 1, 1) := by decide +kernel
theorem dX0_add_21 : decode cX0_add 21 = .ok (.iadd, 1) := by decide +kernel
theorem dX0_add_22 : decode cX0_add 22 = .ok (.iastore, 1) := by decide +kernel
theorem dX0_add_23 : decode cX0_add 23 = .ok (.return_, 1) := by decide +kernel
theorem dX0_mostOften_0 : decode cX0_mostOften 0 = .ok (.bipush (-9), 2) := by decide +kernel
theorem dX0_mostOften_2 : decode cX0_mostOften 2 = .ok (.istore_n 1, 1) := by decide +kernel
theorem dX0_mostOften_3 : decode cX0_mostOften 3 = .ok (.iconst 0, 1) := by decide +kernel
theorem dX0_mostOften_4 : decode cX0_mostOften 4 = .ok (.istore_n 2, 1) := by decide +kernel
theorem dX0_mostOften_5 : decode cX0_mostOften 5 = .ok (.iconst 0, 1) := by decide +kernel
theorem dX0_mostOften_6 : decode cX0_mostOften 6 = .ok (.istore_n 3, 1) := by decide +kernel
theorem dX0_mostOften_7 : decode cX0_mostOften 7 = .ok (.iload_n 3, 1) := by decide +kernel
theorem dX0_mostOften_8 : decode cX0_mostOften 8 = .ok (.aload_n 0, 1) := by decide +kernel
theorem dX0_mostOften_9 : decode cX0_mostOften 9 = .ok (.getfield 9, 3) := by decide +kernel
theorem dX0_mostOften_12 : decode cX0_mostOften 12 = .ok (.arraylength, 1) := by decide +kernel
theorem dX0_mostOften_13 : decode cX0_mostOften 13 = .ok (.if_icmp .ge 28, 3) := by decide +kernel
theorem dX0_mostOften_16 : decode cX0_mostOften 16 = .ok (.aload_n 0, 1) := by decide +kernel
theorem dX0_mostOften_17 : decode cX0_mostOften 17 = .ok (.getfield 9, 3) := by decide +kernel
theorem dX0_mostOften_20 : decode cX0_mostOften 20 = .ok (.iload_n 3, 1) := by decide +kernel
theorem dX0_mostOften_21 : decode cX0_mostOften 21 = .ok (.iaload, 1) := by decide +kernel
theorem dX0_mostOften_22 : decode cX0_mostOften 22 = .ok (.iload_n 2, 1) := by decide +kernel
theorem dX0_mostOften_23 : decode cX0_mostOften 23 = .ok (.if_icmp .le 12, 3) := by decide +kernel
theorem dX0_mostOften_26 : decode cX0_mostOften 26 = .ok (.iload_n 3, 1) := by decide +kernel
theorem dX0_mostOften_27 : decode cX0_mostOften 27 = .ok (.istore_n 1, 1) := by decide +kernel
theorem dX0_mostOften_28 : decode cX0_mostOften 28 = .ok (.aload_n 0, 1) := by decide +kernel
theorem dX0_mostOften_29 : decode cX0_mostOften 29 = .ok (.getfield 9, 3) := by decide +kernel
theorem dX0_mostOften_32 : decode cX0_mostOften 32 = .ok (.iload_n 3, 1) := by decide +kernel
theorem dX0_mostOften_33 : decode cX0_mostOften 33 = .ok (.iaload, 1) := by decide +kernel
theorem dX0_mostOften_34 : decode cX0_mostOften 34 = .ok (.istore_n 2, 1) := by decide +kernel
theorem dX0_mostOften_35 : decode cX0_mostOften 35 = .ok (.iinc 3 1, 3) := by decide +kernel
theorem dX0_mostOften_38 : decode cX0_mostOften 38 = .ok (.goto (-31), 3) := by decide +kernel
theorem dX0_mostOften_41 : decode cX0_mostOften 41 = .ok (.iload_n 1, 1) := by decide +kernel
theorem dX0_mostOften_42 : decode cX0_mostOften 42 = .ok (.ireturn, 1) := by decide +kernel
theorem dX0_wordBy_0 : decode cX0_wordBy 0 = .ok (.aload_n 1, 1) := by decide +kernel
theorem dX0_wordBy_1 : decode cX0_wordBy 1 = .ok (.iload_n 2, 1) := by decide +kernel
theorem dX0_wordBy_2 : decode cX0_wordBy 2 = .ok (.iconst 4, 1) := by decide +kernel
theorem dX0_wordBy_3 : decode cX0_wordBy 3 = .ok (.invokevirtual 29, 3) := by decide +kernel
theorem dX0_wordBy_6 : decode cX0_wordBy 6 = .ok (.ifCond .eq 10, 3) := by decide +kernel
theorem dX0_wordBy_9 : decode cX0_wordBy 9 = .ok (.aload_n 0, 1) := by decide +kernel
theorem dX0_wordBy_10 : decode cX0_wordBy 10 = .ok (.invokevirtual 35, 3) := by decide +kernel
theorem dX0_wordBy_13 : decode cX0_wordBy 13 = .ok (.goto 5, 3) := by decide +kernel
theorem dX0_wordBy_16 : decode cX0_wordBy 16 = .ok (.bipush (-9), 2) := by decide +kernel
theorem dX0_wordBy_18 : decode cX0_wordBy 18 = .ok (.istore_n 3, 1) := by decide +kernel
theorem dX0_wordBy_19 : decode cX0_wordBy 19 = .ok (.iload_n 3, 1) := by decide +kernel
theorem dX0_wordBy_20 : decode cX0_wordBy 20 = .ok (.bipush (-9), 2) := by decide +kernel
theorem dX0_wordBy_22 : decode cX0_wordBy 22 = .ok (.if_icmp .ne 12, 3) := by decide +kernel
theorem dX0_wordBy_25 : decode cX0_wordBy 25 = .ok (.aload_n 1, 1) := by decide +kernel
theorem dX0_wordBy_26 : decode cX0_wordBy 26 = .ok (.iload_n 2, 1) := by decide +kernel
theorem dX0_wordBy_27 : decode cX0_wordBy 27 = .ok (.iconst 3, 1) := by decide +kernel
theorem dX0_wordBy_28 : decode cX0_wordBy 28 = .ok (.invokevirtual 39, 3) := by decide +kernel
theorem dX0_wordBy_31 : decode cX0_wordBy 31 = .ok (.goto 4, 3) := by decide +kernel
theorem dX0_wordBy_34 : decode cX0_wordBy 34 = .ok (.iload_n 3, 1) := by decide +kernel
theorem dX0_wordBy_35 : decode cX0_wordBy 35 = .ok (.ireturn, 1) := by decide +kernel
theorem dX1_init_0 : decode cX1_init 0 = .ok (.aload_n 0, 1) := by decide +kernel
theorem dX1_init_1 : decode cX1_init 1 = .ok (.invokespecial 3, 3) := by decide +kernel
theorem dX1_init_4 : decode cX1_init 4 = .ok (.aload_n 0, 1) := by decide +kernel
theorem dX1_init_5 : decode cX1_init 5 = .ok (.bipush 54, 2) := by decide +kernel
theorem dX1_init_7 : decode cX1_init 7 = .ok (.newarray .int, 2) := by decide +kernel
theorem dX1_init_9 : decode cX1_init 9 = .ok (.putfield 9, 3) := by decide +kernel
theorem dX1_init_12 : decode cX1_init 12 = .ok (.aload_n 0, 1) := by decide +kernel
theorem dX1_init_13 : decode cX1_init 13 = .ok (.iconst 0, 1) := by decide +kernel
theorem dX1_init_14 : decode cX1_init 14 = .ok (.putfield 15, 3) := by decide +kernel
theorem dX1_init_17 : decode cX1_init 17 = .ok (.return_, 1) := by decide +kernel
theorem dX1_names_0 : decode cX1_names 0 = .ok (.iload_n 1, 1) := by decide +kernel
theorem dX1_names_1 : decode cX1_names 1 = .ok (.ifCond .lt 15, 3) := by decide +kernel
theorem dX1_names_4 : decode cX1_names 4 = .ok (.iload_n 1, 1) := by decide +kernel
theorem dX1_names_5 : decode cX1_names 5 = .ok (.aload_n 0, 1) := by decide +kernel
theorem dX1_names_6 : decode cX1_names 6 = .ok (.getfield 15, 3) := by decide +kernel
theorem dX1_names_9 : decode cX1_names 9 = .ok (.if_icmp .ge 7, 3) := by decide +kernel
theorem dX1_names_12 : decode cX1_names 12 = .ok (.iconst 1, 1) := by decide +kernel
theorem dX1_names_13 : decode cX1_names 13 = .ok (.goto 4, 3) := by decide +kernel
theorem dX1_names_16 : decode cX1_names 16 = .ok (.iconst 0, 1) := by decide +kernel
theorem dX1_names_17 : decode cX1_names 17 = .ok (.ireturn, 1) := by decide +kernel
theorem dX1_all_0 : decode cX1_all 0 = .ok (.iconst 1, 1) := by decide +kernel
theorem dX1_all_1 : decode cX1_all 1 = .ok (.aload_n 0, 1) := by decide +kernel
theorem dX1_all_2 : decode cX1_all 2 = .ok (.getfield 15, 3) := by decide +kernel
theorem dX1_all_5 : decode cX1_all 5 = .ok (.ishl, 1) := by decide +kernel
theorem dX1_all_6 : decode cX1_all 6 = .ok (.iconst 1, 1) := by decide +kernel
theorem dX1_all_7 : decode cX1_all 7 = .ok (.isub, 1) := by decide +kernel
theorem dX1_all_8 : decode cX1_all 8 = .ok (.ireturn, 1) := by decide +kernel
theorem dX1_fact_0 : decode cX1_fact 0 = .ok (.iload_n 1, 1) := by decide +kernel
theorem dX1_fact_1 : decode cX1_fact 1 = .ok (.ifCond .lt 21, 3) := by decide +kernel
theorem dX1_fact_4 : decode cX1_fact 4 = .ok (.iload_n 1, 1) := by decide +kernel
theorem dX1_fact_5 : decode cX1_fact 5 = .ok (.aload_n 0, 1) := by decide +kernel
theorem dX1_fact_6 : decode cX1_fact 6 = .ok (.getfield 15, 3) := by decide +kernel
theorem dX1_fact_9 : decode cX1_fact 9 = .ok (.if_icmp .ge 13, 3) := by decide +kernel
theorem dX1_fact_12 : decode cX1_fact 12 = .ok (.iload_n 2, 1) := by decide +kernel
theorem dX1_fact_13 : decode cX1_fact 13 = .ok (.ifCond .lt 9, 3) := by decide +kernel
theorem dX1_fact_16 : decode cX1_fact 16 = .ok (.iload_n 2, 1) := by decide +kernel
theorem dX1_fact_17 : decode cX1_fact 17 = .ok (.bipush 6, 2) := by decide +kernel
theorem dX1_fact_19 : decode cX1_fact 19 = .ok (.if_icmp .lt 6, 3) := by decide +kernel
theorem dX1_fact_22 : decode cX1_fact 22 = .ok (.bipush (-9), 2) := by decide +kernel
theorem dX1_fact_24 : decode cX1_fact 24 = .ok (.ireturn, 1) := by decide +kernel
theorem dX1_fact_25 : decode cX1_fact 25 = .ok (.iload_n 1, 1) := by decide +kernel
theorem dX1_fact_26 : decode cX1_fact 26 = .ok (.bipush 6, 2) := by decide +kernel
theorem dX1_fact_28 : decode cX1_fact 28 = .ok (.imul, 1) := by decide +kernel
theorem dX1_fact_29 : decode cX1_fact 29 = .ok (.iload_n 2, 1) := by decide +kernel
theorem dX1_fact_30 : decode cX1_fact 30 = .ok (.iadd, 1) := by decide +kernel
theorem dX1_fact_31 : decode cX1_fact 31 = .ok (.istore_n 3, 1) := by decide +kernel
theorem dX1_fact_32 : decode cX1_fact 32 = .ok (.iload_n 3, 1) := by decide +kernel
theorem dX1_fact_33 : decode cX1_fact 33 = .ok (.ifCond .lt 21, 3) := by decide +kernel
theorem dX1_fact_36 : decode cX1_fact 36 = .ok (.iload_n 3, 1) := by decide +kernel
theorem dX1_fact_37 : decode cX1_fact 37 = .ok (.aload_n 0, 1) := by decide +kernel
theorem dX1_fact_38 : decode cX1_fact 38 = .ok (.getfield 9, 3) := by decide +kernel
theorem dX1_fact_41 : decode cX1_fact 41 = .ok (.arraylength, 1) := by decide +kernel
theorem dX1_fact_42 : decode cX1_fact 42 = .ok (.if_icmp .ge 12, 3) := by decide +kernel
theorem dX1_fact_45 : decode cX1_fact 45 = .ok (.aload_n 0, 1) := by decide +kernel
theorem dX1_fact_46 : decode cX1_fact 46 = .ok (.getfield 9, 3) := by decide +kernel
theorem dX1_fact_49 : decode cX1_fact 49 = .ok (.iload_n 3, 1) := by decide +kernel
theorem dX1_fact_50 : decode cX1_fact 50 = .ok (.iaload, 1) := by decide +kernel
theorem dX1_fact_51 : decode cX1_fact 51 = .ok (.goto 5, 3) := by decide +kernel
theorem dX1_fact_54 : decode cX1_fact 54 = .ok (.bipush (-9), 2) := by decide +kernel
theorem dX1_fact_56 : decode cX1_fact 56 = .ok (.ireturn, 1) := by decide +kernel
theorem dX1_setFact_0 : decode cX1_setFact 0 = .ok (.iload_n 1, 1) := by decide +kernel
theorem dX1_setFact_1 : decode cX1_setFact 1 = .ok (.bipush 6, 2) := by decide +kernel
theorem dX1_setFact_3 : decode cX1_setFact 3 = .ok (.imul, 1) := by decide +kernel
theorem dX1_setFact_4 : decode cX1_setFact 4 = .ok (.iload_n 2, 1) := by decide +kernel
theorem dX1_setFact_5 : decode cX1_setFact 5 = .ok (.iadd, 1) := by decide +kernel
theorem dX1_setFact_6 : decode cX1_setFact 6 = .ok (.istore 4, 2) := by decide +kernel
theorem dX1_setFact_8 : decode cX1_setFact 8 = .ok (.iload 4, 2) := by decide +kernel
theorem dX1_setFact_10 : decode cX1_setFact 10 = .ok (.ifCond .lt 21, 3) := by decide +kernel
theorem dX1_setFact_13 : decode cX1_setFact 13 = .ok (.iload 4, 2) := by decide +kernel
theorem dX1_setFact_15 : decode cX1_setFact 15 = .ok (.aload_n 0, 1) := by decide +kernel
theorem dX1_setFact_16 : decode cX1_setFact 16 = .ok (.getfield 9, 3) := by decide +kernel
theorem dX1_setFact_19 : decode cX1_setFact 19 = .ok (.arraylength, 1) := by decide +kernel
theorem dX1_setFact_20 : decode cX1_setFact 20 = .ok (.if_icmp .ge 11, 3) := by decide +kernel
theorem dX1_setFact_23 : decode cX1_setFact 23 = .ok (.aload_n 0, 1) := by decide +kernel
theorem dX1_setFact_24 : decode cX1_setFact 24 = .ok (.getfield 9, 3) := by decide +kernel
theorem dX1_setFact_27 : decode cX1_setFact 27 = .ok (.iload 4, 2) := by decide +kernel
theorem dX1_setFact_29 : decode cX1_setFact 29 = .ok (.iload_n 3, 1) := by decide +kernel
theorem dX1_setFact_30 : decode cX1_setFact 30 = .ok (.iastore, 1) := by decide +kernel
theorem dX1_setFact_31 : decode cX1_setFact 31 = .ok (.return_, 1) := by decide +kernel
theorem dX1_isOfKind_0 : decode cX1_isOfKind 0 = .ok (.aload_n 0, 1) := by decide +kernel
theorem dX1_isOfKind_1 : decode cX1_isOfKind 1 = .ok (.iload_n 1, 1) := by decide +kernel
theorem dX1_isOfKind_2 : decode cX1_isOfKind 2 = .ok (.iconst 0, 1) := by decide +kernel
theorem dX1_isOfKind_3 : decode cX1_isOfKind 3 = .ok (.invokevirtual 19, 3) := by decide +kernel
theorem dX1_isOfKind_6 : decode cX1_isOfKind 6 = .ok (.istore_n 3, 1) := by decide +kernel
theorem dX1_isOfKind_7 : decode cX1_isOfKind 7 = .ok (.iload_n 3, 1) := by decide +kernel
theorem dX1_isOfKind_8 : decode cX1_isOfKind 8 = .ok (.iload_n 2, 1) := by decide +kernel
theorem dX1_isOfKind_9 : decode cX1_isOfKind 9 = .ok (.if_icmp .eq 13, 3) := by decide +kernel
theorem dX1_isOfKind_12 : decode cX1_isOfKind 12 = .ok (.iload_n 2, 1) := by decide +kernel
theorem dX1_isOfKind_13 : decode cX1_isOfKind 13 = .ok (.iconst 4, 1) := by decide +kernel
theorem dX1_isOfKind_14 : decode cX1_isOfKind 14 = .ok (.if_icmp .ne 12, 3) := by decide +kernel
theorem dX1_isOfKind_17 : decode cX1_isOfKind 17 = .ok (.iload_n 3, 1) := by decide +kernel
theorem dX1_isOfKind_18 : decode cX1_isOfKind 18 = .ok (.iconst 5, 1) := by decide +kernel
theorem dX1_isOfKind_19 : decode cX1_isOfKind 19 = .ok (.if_icmp .ne 7, 3) := by decide +kernel
theorem dX1_isOfKind_22 : decode cX1_isOfKind 22 = .ok (.iconst 1, 1) := by decide +kernel
theorem dX1_isOfKind_23 : decode cX1_isOfKind 23 = .ok (.goto 4, 3) := by decide +kernel
theorem dX1_isOfKind_26 : decode cX1_isOfKind 26 = .ok (.iconst 0, 1) := by decide +kernel
theorem dX1_isOfKind_27 : decode cX1_isOfKind 27 = .ok (.ireturn, 1) := by decide +kernel
theorem dX1_numberOfKind_0 : decode cX1_numberOfKind 0 = .ok (.iconst 0, 1) := by decide +kernel
theorem dX1_numberOfKind_1 : decode cX1_numberOfKind 1 = .ok (.istore_n 2, 1) := by decide +kernel
theorem dX1_numberOfKind_2 : decode cX1_numberOfKind 2 = .ok (.iconst 0, 1) := by decide +kernel
theorem dX1_numberOfKind_3 : decode cX1_numberOfKind 3 = .ok (.istore_n 3, 1) := by decide +kernel
theorem dX1_numberOfKind_4 : decode cX1_numberOfKind 4 = .ok (.iload_n 3, 1) := by decide +kernel
theorem dX1_numberOfKind_5 : decode cX1_numberOfKind 5 = .ok (.aload_n 0, 1) := by decide +kernel
theorem dX1_numberOfKind_6 : decode cX1_numberOfKind 6 = .ok (.getfield 15, 3) := by decide +kernel
theorem dX1_numberOfKind_9 : decode cX1_numberOfKind 9 = .ok (.if_icmp .ge 21, 3) := by decide +kernel
theorem dX1_numberOfKind_12 : decode cX1_numberOfKind 12 = .ok (.aload_n 0, 1) := by decide +kernel
theorem dX1_numberOfKind_13 : decode cX1_numberOfKind 13 = .ok (.iload_n 3, 1) := by decide +kernel
theorem dX1_numberOfKind_14 : decode cX1_numberOfKind 14 = .ok (.iload_n 1, 1) := by decide +kernel
theorem dX1_numberOfKind_15 : decode cX1_numberOfKind 15 = .ok (.invokevirtual 23, 3) := by decide +kernel
theorem dX1_numberOfKind_18 : decode cX1_numberOfKind 18 = .ok (.ifCond .eq 6, 3) := by decide +kernel
theorem dX1_numberOfKind_21 : decode cX1_numberOfKind 21 = .ok (.iinc 2 1, 3) := by decide +kernel
theorem dX1_numberOfKind_24 : decode cX1_numberOfKind 24 = .ok (.iinc 3 1, 3) := by decide +kernel
theorem dX1_numberOfKind_27 : decode cX1_numberOfKind 27 = .ok (.goto (-23), 3) := by decide +kernel
theorem dX1_numberOfKind_30 : decode cX1_numberOfKind 30 = .ok (.iload_n 2, 1) := by decide +kernel
theorem dX1_numberOfKind_31 : decode cX1_numberOfKind 31 = .ok (.ireturn, 1) := by decide +kernel
theorem dX1_isAway_0 : decode cX1_isAway 0 = .ok (.aload_n 0, 1) := by decide +kernel
theorem dX1_isAway_1 : decode cX1_isAway 1 = .ok (.iload_n 1, 1) := by decide +kernel
theorem dX1_isAway_2 : decode cX1_isAway 2 = .ok (.iconst 0, 1) := by decide +kernel
theorem dX1_isAway_3 : decode cX1_isAway 3 = .ok (.invokevirtual 19, 3) := by decide +kernel
theorem dX1_isAway_6 : decode cX1_isAway 6 = .ok (.iconst 3, 1) := by decide +kernel
theorem dX1_isAway_7 : decode cX1_isAway 7 = .ok (.if_icmp .ne 27, 3) := by decide +kernel
theorem dX1_isAway_10 : decode cX1_isAway 10 = .ok (.iload_n 2, 1) := by decide +kernel
theorem dX1_isAway_11 : decode cX1_isAway 11 = .ok (.aload_n 0, 1) := by decide +kernel
theorem dX1_isAway_12 : decode cX1_isAway 12 = .ok (.iload_n 1, 1) := by decide +kernel
theorem dX1_isAway_13 : decode cX1_isAway 13 = .ok (.iconst 4, 1) := by decide +kernel
theorem dX1_isAway_14 : decode cX1_isAway 14 = .ok (.invokevirtual 19, 3) := by decide +kernel
theorem dX1_isAway_17 : decode cX1_isAway 17 = .ok (.if_icmp .lt 17, 3) := by decide +kernel
theorem dX1_isAway_20 : decode cX1_isAway 20 = .ok (.iload_n 2, 1) := by decide +kernel
theorem dX1_isAway_21 : decode cX1_isAway 21 = .ok (.aload_n 0, 1) := by decide +kernel
theorem dX1_isAway_22 : decode cX1_isAway 22 = .ok (.iload_n 1, 1) := by decide +kernel
theorem dX1_isAway_23 : decode cX1_isAway 23 = .ok (.iconst 5, 1) := by decide +kernel
theorem dX1_isAway_24 : decode cX1_isAway 24 = .ok (.invokevirtual 19, 3) := by decide +kernel
theorem dX1_isAway_27 : decode cX1_isAway 27 = .ok (.if_icmp .gt 7, 3) := by decide +kernel
theorem dX1_isAway_30 : decode cX1_isAway 30 = .ok (.iconst 1, 1) := by decide +kernel
theorem dX1_isAway_31 : decode cX1_isAway 31 = .ok (.goto 4, 3) := by decide +kernel
theorem dX1_isAway_34 : decode cX1_isAway 34 = .ok (.iconst 0, 1) := by decide +kernel
theorem dX1_isAway_35 : decode cX1_isAway 35 = .ok (.ireturn, 1) := by decide +kernel
theorem dX1_heapOf_0 : decode cX1_heapOf 0 = .ok (.aload_n 0, 1) := by decide +kernel
theorem dX1_heapOf_1 : decode cX1_heapOf 1 = .ok (.iload_n 1, 1) := by decide +kernel
theorem dX1_heapOf_2 : decode cX1_heapOf 2 = .ok (.iconst 0, 1) := by decide +kernel
theorem dX1_heapOf_3 : decode cX1_heapOf 3 = .ok (.invokevirtual 19, 3) := by decide +kernel
theorem dX1_heapOf_6 : decode cX1_heapOf 6 = .ok (.iconst 2, 1) := by decide +kernel
theorem dX1_heapOf_7 : decode cX1_heapOf 7 = .ok (.if_icmp .ne 12, 3) := by decide +kernel
theorem dX1_heapOf_10 : decode cX1_heapOf 10 = .ok (.aload_n 0, 1) := by decide +kernel
theorem dX1_heapOf_11 : decode cX1_heapOf 11 = .ok (.iload_n 1, 1) := by decide +kernel
theorem dX1_heapOf_12 : decode cX1_heapOf 12 = .ok (.iconst 4, 1) := by decide +kernel
theorem dX1_heapOf_13 : decode cX1_heapOf 13 = .ok (.invokevirtual 19, 3) := by decide +kernel
theorem dX1_heapOf_16 : decode cX1_heapOf 16 = .ok (.goto 4, 3) := by decide +kernel
theorem dX1_heapOf_19 : decode cX1_heapOf 19 = .ok (.iconst 0, 1) := by decide +kernel
theorem dX1_heapOf_20 : decode cX1_heapOf 20 = .ok (.ireturn, 1) := by decide +kernel
theorem dX1_nextOf_0 : decode cX1_nextOf 0 = .ok (.aload_n 0, 1) := by decide +kernel
theorem dX1_nextOf_1 : decode cX1_nextOf 1 = .ok (.invokevirtual 31, 3) := by decide +kernel
theorem dX1_nextOf_4 : decode cX1_nextOf 4 = .ok (.iload_n 2, 1) := by decide +kernel
theorem dX1_nextOf_5 : decode cX1_nextOf 5 = .ok (.iconst (-1), 1) := by decide +kernel
theorem dX1_nextOf_6 : decode cX1_nextOf 6 = .ok (.ixor, 1) := by decide +kernel
theorem dX1_nextOf_7 : decode cX1_nextOf 7 = .ok (.iand, 1) := by decide +kernel
theorem dX1_nextOf_8 : decode cX1_nextOf 8 = .ok (.ifCond .ne 6, 3) := by decide +kernel
theorem dX1_nextOf_11 : decode cX1_nextOf 11 = .ok (.bipush (-2), 2) := by decide +kernel
theorem dX1_nextOf_13 : decode cX1_nextOf 13 = .ok (.ireturn, 1) := by decide +kernel
theorem dX1_nextOf_14 : decode cX1_nextOf 14 = .ok (.iconst (-1), 1) := by decide +kernel
theorem dX1_nextOf_15 : decode cX1_nextOf 15 = .ok (.istore 5, 2) := by decide +kernel
theorem dX1_nextOf_17 : decode cX1_nextOf 17 = .ok (.iconst 0, 1) := by decide +kernel
theorem dX1_nextOf_18 : decode cX1_nextOf 18 = .ok (.istore 6, 2) := by decide +kernel
theorem dX1_nextOf_20 : decode cX1_nextOf 20 = .ok (.iconst 0, 1) := by decide +kernel
theorem dX1_nextOf_21 : decode cX1_nextOf 21 = .ok (.istore 7, 2) := by decide +kernel
theorem dX1_nextOf_23 : decode cX1_nextOf 23 = .ok (.iload 7, 2) := by decide +kernel
theorem dX1_nextOf_25 : decode cX1_nextOf 25 = .ok (.aload_n 0, 1) := by decide +kernel
theorem dX1_nextOf_26 : decode cX1_nextOf 26 = .ok (.getfield 15, 3) := by decide +kernel
theorem dX1_nextOf_29 : decode cX1_nextOf 29 = .ok (.if_icmp .ge 61, 3) := by decide +kernel
theorem dX1_nextOf_32 : decode cX1_nextOf 32 = .ok (.iload_n 2, 1) := by decide +kernel
theorem dX1_nextOf_33 : decode cX1_nextOf 33 = .ok (.iload 7, 2) := by decide +kernel
theorem dX1_nextOf_35 : decode cX1_nextOf 35 = .ok (.ishr, 1) := by decide +kernel
theorem dX1_nextOf_36 : decode cX1_nextOf 36 = .ok (.iconst 1, 1) := by decide +kernel
theorem dX1_nextOf_37 : decode cX1_nextOf 37 = .ok (.iand, 1) := by decide +kernel
theorem dX1_nextOf_38 : decode cX1_nextOf 38 = .ok (.ifCond .ne 46, 3) := by decide +kernel
theorem dX1_nextOf_41 : decode cX1_nextOf 41 = .ok (.aload_n 0, 1) := by decide +kernel
theorem dX1_nextOf_42 : decode cX1_nextOf 42 = .ok (.iload 7, 2) := by decide +kernel
theorem dX1_nextOf_44 : decode cX1_nextOf 44 = .ok (.iload_n 3, 1) := by decide +kernel
theorem dX1_nextOf_45 : decode cX1_nextOf 45 = .ok (.iconst 1, 1) := by decide +kernel
theorem dX1_nextOf_46 : decode cX1_nextOf 46 = .ok (.iadd, 1) := by decide +kernel
theorem dX1_nextOf_47 : decode cX1_nextOf 47 = .ok (.invokevirtual 35, 3) := by decide +kernel
theorem dX1_nextOf_50 : decode cX1_nextOf 50 = .ok (.ifCond .ne 34, 3) := by decide +kernel
theorem dX1_nextOf_53 : decode cX1_nextOf 53 = .ok (.iload_n 1, 1) := by decide +kernel
theorem dX1_nextOf_54 : decode cX1_nextOf 54 = .ok (.iload 7, 2) := by decide +kernel
theorem dX1_nextOf_56 : decode cX1_nextOf 56 = .ok (.iload 4, 2) := by decide +kernel
theorem dX1_nextOf_58 : decode cX1_nextOf 58 = .ok (.invokestatic 38, 3) := by decide +kernel
theorem dX1_nextOf_61 : decode cX1_nextOf 61 = .ok (.istore 8, 2) := by decide +kernel
theorem dX1_nextOf_63 : decode cX1_nextOf 63 = .ok (.iload 5, 2) := by decide +kernel
theorem dX1_nextOf_65 : decode cX1_nextOf 65 = .ok (.iconst (-1), 1) := by decide +kernel
theorem dX1_nextOf_66 : decode cX1_nextOf 66 = .ok (.if_icmp .eq 10, 3) := by decide +kernel
theorem dX1_nextOf_69 : decode cX1_nextOf 69 = .ok (.iload 8, 2) := by decide +kernel
theorem dX1_nextOf_71 : decode cX1_nextOf 71 = .ok (.iload 6, 2) := by decide +kernel
theorem dX1_nextOf_73 : decode cX1_nextOf 73 = .ok (.if_icmp .ge 11, 3) := by decide +kernel
theorem dX1_nextOf_76 : decode cX1_nextOf 76 = .ok (.iload 7, 2) := by decide +kernel
theorem dX1_nextOf_78 : decode cX1_nextOf 78 = .ok (.istore 5, 2) := by decide +kernel
theorem dX1_nextOf_80 : decode cX1_nextOf 80 = .ok (.iload 8, 2) := by decide +kernel
theorem dX1_nextOf_82 : decode cX1_nextOf 82 = .ok (.istore 6, 2) := by decide +kernel
theorem dX1_nextOf_84 : decode cX1_nextOf 84 = .ok (.iinc 7 1, 3) := by decide +kernel
theorem dX1_nextOf_87 : decode cX1_nextOf 87 = .ok (.goto (-64), 3) := by decide +kernel
theorem dX1_nextOf_90 : decode cX1_nextOf 90 = .ok (.iload 5, 2) := by decide +kernel
theorem dX1_nextOf_92 : decode cX1_nextOf 92 = .ok (.ireturn, 1) := by decide +kernel
theorem dX1_rankOf_0 : decode cX1_rankOf 0 = .ok (.iload_n 2, 1) := by decide +kernel
theorem dX1_rankOf_1 : decode cX1_rankOf 1 = .ok (.ifCond .ne 21, 3) := by decide +kernel
theorem dX1_rankOf_4 : decode cX1_rankOf 4 = .ok (.iload_n 1, 1) := by decide +kernel
theorem dX1_rankOf_5 : decode cX1_rankOf 5 = .ok (.iload_n 0, 1) := by decide +kernel
theorem dX1_rankOf_6 : decode cX1_rankOf 6 = .ok (.if_icmp .le 9, 3) := by decide +kernel
theorem dX1_rankOf_9 : decode cX1_rankOf 9 = .ok (.iload_n 1, 1) := by decide +kernel
theorem dX1_rankOf_10 : decode cX1_rankOf 10 = .ok (.iload_n 0, 1) := by decide +kernel
theorem dX1_rankOf_11 : decode cX1_rankOf 11 = .ok (.isub, 1) := by decide +kernel
theorem dX1_rankOf_12 : decode cX1_rankOf 12 = .ok (.goto 9, 3) := by decide +kernel
theorem dX1_rankOf_15 : decode cX1_rankOf 15 = .ok (.iload_n 1, 1) := by decide +kernel
theorem dX1_rankOf_16 : decode cX1_rankOf 16 = .ok (.iload_n 0, 1) := by decide +kernel
theorem dX1_rankOf_17 : decode cX1_rankOf 17 = .ok (.isub, 1) := by decide +kernel
theorem dX1_rankOf_18 : decode cX1_rankOf 18 = .ok (.bipush 9, 2) := by decide +kernel
theorem dX1_rankOf_20 : decode cX1_rankOf 20 = .ok (.iadd, 1) := by decide +kernel
theorem dX1_rankOf_21 : decode cX1_rankOf 21 = .ok (.ireturn, 1) := by decide +kernel
theorem dX1_rankOf_22 : decode cX1_rankOf 22 = .ok (.iload_n 1, 1) := by decide +kernel
theorem dX1_rankOf_23 : decode cX1_rankOf 23 = .ok (.iload_n 0, 1) := by decide +kernel
theorem dX1_rankOf_24 : decode cX1_rankOf 24 = .ok (.isub, 1) := by decide +kernel
theorem dX1_rankOf_25 : decode cX1_rankOf 25 = .ok (.invokestatic 42, 3) := by decide +kernel
theorem dX1_rankOf_28 : decode cX1_rankOf 28 = .ok (.istore_n 3, 1) := by decide +kernel
theorem dX1_rankOf_29 : decode cX1_rankOf 29 = .ok (.iload_n 2, 1) := by decide +kernel
theorem dX1_rankOf_30 : decode cX1_rankOf 30 = .ok (.iconst 1, 1) := by decide +kernel
theorem dX1_rankOf_31 : decode cX1_rankOf 31 = .ok (.if_icmp .ne 7, 3) := by decide +kernel
theorem dX1_rankOf_34 : decode cX1_rankOf 34 = .ok (.iload_n 3, 1) := by decide +kernel
theorem dX1_rankOf_35 : decode cX1_rankOf 35 = .ok (.goto 5, 3) := by decide +kernel
theorem dX1_rankOf_38 : decode cX1_rankOf 38 = .ok (.iload_n 3, 1) := by decide +kernel
theorem dX1_rankOf_39 : decode cX1_rankOf 39 = .ok (.ineg, 1) := by decide +kernel
theorem dX1_rankOf_40 : decode cX1_rankOf 40 = .ok (.ireturn, 1) := by decide +kernel
theorem dX1_read_0 : decode cX1_read 0 = .ok (.aload_n 0, 1) := by decide +kernel
theorem dX1_read_1 : decode cX1_read 1 = .ok (.iconst 0, 1) := by decide +kernel
theorem dX1_read_2 : decode cX1_read 2 = .ok (.putfield 15, 3) := by decide +kernel
theorem dX1_read_5 : decode cX1_read 5 = .ok (.aload_n 1, 1) := by decide +kernel
theorem dX1_read_6 : decode cX1_read 6 = .ok (.iload_n 2, 1) := by decide +kernel
theorem dX1_read_7 : decode cX1_read 7 = .ok (.invokevirtual 47, 3) := by decide +kernel
theorem dX1_read_10 : decode cX1_read 10 = .ok (.istore_n 3, 1) := by decide +kernel
theorem dX1_read_11 : decode cX1_read 11 = .ok (.iconst 0, 1) := by decide +kernel
theorem dX1_read_12 : decode cX1_read 12 = .ok (.istore 4, 2) := by decide +kernel
theorem dX1_read_14 : decode cX1_read 14 = .ok (.iload 4, 2) := by decide +kernel
theorem dX1_read_16 : decode cX1_read 16 = .ok (.iload_n 3, 1) := by decide +kernel
theorem dX1_read_17 : decode cX1_read 17 = .ok (.if_icmp .ge 88, 3) := by decide +kernel
theorem dX1_read_20 : decode cX1_read 20 = .ok (.aload_n 1, 1) := by decide +kernel
theorem dX1_read_21 : decode cX1_read 21 = .ok (.iload_n 2, 1) := by decide +kernel
theorem dX1_read_22 : decode cX1_read 22 = .ok (.iload 4, 2) := by decide +kernel
theorem dX1_read_24 : decode cX1_read 24 = .ok (.invokevirtual 52, 3) := by decide +kernel
theorem dX1_read_27 : decode cX1_read 27 = .ok (.istore 5, 2) := by decide +kernel
theorem dX1_read_29 : decode cX1_read 29 = .ok (.iload 5, 2) := by decide +kernel
theorem dX1_read_31 : decode cX1_read 31 = .ok (.bipush 32, 2) := by decide +kernel
theorem dX1_read_33 : decode cX1_read 33 = .ok (.if_icmp .ne 9, 3) := by decide +kernel
theorem dX1_read_36 : decode cX1_read 36 = .ok (.iinc 4 1, 3) := by decide +kernel
theorem dX1_read_39 : decode cX1_read 39 = .ok (.goto 63, 3) := by decide +kernel
theorem dX1_read_42 : decode cX1_read 42 = .ok (.iload 5, 2) := by decide +kernel
theorem dX1_read_44 : decode cX1_read 44 = .ok (.invokestatic 55, 3) := by decide +kernel
theorem dX1_read_47 : decode cX1_read 47 = .ok (.istore 6, 2) := by decide +kernel
theorem dX1_read_49 : decode cX1_read 49 = .ok (.iload 6, 2) := by decide +kernel
theorem dX1_read_51 : decode cX1_read 51 = .ok (.bipush (-9), 2) := by decide +kernel
theorem dX1_read_53 : decode cX1_read 53 = .ok (.if_icmp .eq 12, 3) := by decide +kernel
theorem dX1_read_56 : decode cX1_read 56 = .ok (.aload_n 0, 1) := by decide +kernel
theorem dX1_read_57 : decode cX1_read 57 = .ok (.getfield 15, 3) := by decide +kernel
theorem dX1_read_60 : decode cX1_read 60 = .ok (.bipush 9, 2) := by decide +kernel
theorem dX1_read_62 : decode cX1_read 62 = .ok (.if_icmp .lt 6, 3) := by decide +kernel
theorem dX1_read_65 : decode cX1_read 65 = .ok (.iload 4, 2) := by decide +kernel
theorem dX1_read_67 : decode cX1_read 67 = .ok (.ireturn, 1) := by decide +kernel
theorem dX1_read_68 : decode cX1_read 68 = .ok (.aload_n 0, 1) := by decide +kernel
theorem dX1_read_69 : decode cX1_read 69 = .ok (.aload_n 1, 1) := by decide +kernel
theorem dX1_read_70 : decode cX1_read 70 = .ok (.iload_n 2, 1) := by decide +kernel
theorem dX1_read_71 : decode cX1_read 71 = .ok (.iload 4, 2) := by decide +kernel
theorem dX1_read_73 : decode cX1_read 73 = .ok (.iload 6, 2) := by decide +kernel
theorem dX1_read_75 : decode cX1_read 75 = .ok (.invokevirtual 58, 3) := by decide +kernel
theorem dX1_read_78 : decode cX1_read 78 = .ok (.istore 7, 2) := by decide +kernel
theorem dX1_read_80 : decode cX1_read 80 = .ok (.iload 7, 2) := by decide +kernel
theorem dX1_read_82 : decode cX1_read 82 = .ok (.bipush (-9), 2) := by decide +kernel
theorem dX1_read_84 : decode cX1_read 84 = .ok (.if_icmp .eq 6, 3) := by decide +kernel
theorem dX1_read_87 : decode cX1_read 87 = .ok (.iload 7, 2) := by decide +kernel
theorem dX1_read_89 : decode cX1_read 89 = .ok (.ireturn, 1) := by decide +kernel
theorem dX1_read_90 : decode cX1_read 90 = .ok (.iload 4, 2) := by decide +kernel
theorem dX1_read_92 : decode cX1_read 92 = .ok (.iconst 1, 1) := by decide +kernel
theorem dX1_read_93 : decode cX1_read 93 = .ok (.iload 6, 2) := by decide +kernel
theorem dX1_read_95 : decode cX1_read 95 = .ok (.invokestatic 62, 3) := by decide +kernel
theorem dX1_read_98 : decode cX1_read 98 = .ok (.iadd, 1) := by decide +kernel
theorem dX1_read_99 : decode cX1_read 99 = .ok (.iadd, 1) := by decide +kernel
theorem dX1_read_100 : decode cX1_read 100 = .ok (.istore 4, 2) := by decide +kernel
theorem dX1_read_102 : decode cX1_read 102 = .ok (.goto (-88), 3) := by decide +kernel
theorem dX1_read_105 : decode cX1_read 105 = .ok (.bipush (-9), 2) := by decide +kernel
theorem dX1_read_107 : decode cX1_read 107 = .ok (.ireturn, 1) := by decide +kernel
theorem dX1_readDesk_0 : decode cX1_readDesk 0 = .ok (.aload_n 0, 1) := by decide +kernel
theorem dX1_readDesk_1 : decode cX1_readDesk 1 = .ok (.aload_n 0, 1) := by decide +kernel
theorem dX1_readDesk_2 : decode cX1_readDesk 2 = .ok (.getfield 15, 3) := by decide +kernel
theorem dX1_readDesk_5 : decode cX1_readDesk 5 = .ok (.iconst 0, 1) := by decide +kernel
theorem dX1_readDesk_6 : decode cX1_readDesk 6 = .ok (.iload 4, 2) := by decide +kernel
theorem dX1_readDesk_8 : decode cX1_readDesk 8 = .ok (.invokevirtual 65, 3) := by decide +kernel
theorem dX1_readDesk_11 : decode cX1_readDesk 11 = .ok (.aload_n 0, 1) := by decide +kernel
theorem dX1_readDesk_12 : decode cX1_readDesk 12 = .ok (.aload_n 0, 1) := by decide +kernel
theorem dX1_readDesk_13 : decode cX1_readDesk 13 = .ok (.getfield 15, 3) := by decide +kernel
theorem dX1_readDesk_16 : decode cX1_readDesk 16 = .ok (.iconst 4, 1) := by decide +kernel
theorem dX1_readDesk_17 : decode cX1_readDesk 17 = .ok (.bipush (-9), 2) := by decide +kernel
theorem dX1_readDesk_19 : decode cX1_readDesk 19 = .ok (.invokevirtual 65, 3) := by decide +kernel
theorem dX1_readDesk_22 : decode cX1_readDesk 22 = .ok (.aload_n 0, 1) := by decide +kernel
theorem dX1_readDesk_23 : decode cX1_readDesk 23 = .ok (.aload_n 0, 1) := by decide +kernel
theorem dX1_readDesk_24 : decode cX1_readDesk 24 = .ok (.getfield 15, 3) := by decide +kernel
theorem dX1_readDesk_27 : decode cX1_readDesk 27 = .ok (.iconst 5, 1) := by decide +kernel
theorem dX1_readDesk_28 : decode cX1_readDesk 28 = .ok (.bipush (-9), 2) := by decide +kernel
theorem dX1_readDesk_30 : decode cX1_readDesk 30 = .ok (.invokevirtual 65, 3) := by decide +kernel
theorem dX1_readDesk_33 : decode cX1_readDesk 33 = .ok (.iconst 0, 1) := by decide +kernel
theorem dX1_readDesk_34 : decode cX1_readDesk 34 = .ok (.istore 5, 2) := by decide +kernel
theorem dX1_readDesk_36 : decode cX1_readDesk 36 = .ok (.iconst 1, 1) := by decide +kernel
theorem dX1_readDesk_37 : decode cX1_readDesk 37 = .ok (.istore 6, 2) := by decide +kernel
theorem dX1_readDesk_39 : decode cX1_readDesk 39 = .ok (.iload 6, 2) := by decide +kernel
theorem dX1_readDesk_41 : decode cX1_readDesk 41 = .ok (.iload 4, 2) := by decide +kernel
theorem dX1_readDesk_43 : decode cX1_readDesk 43 = .ok (.invokestatic 62, 3) := by decide +kernel
theorem dX1_readDesk_46 : decode cX1_readDesk 46 = .ok (.if_icmp .gt 83, 3) := by decide +kernel
theorem dX1_readDesk_49 : decode cX1_readDesk 49 = .ok (.aload_n 1, 1) := by decide +kernel
theorem dX1_readDesk_50 : decode cX1_readDesk 50 = .ok (.iload_n 2, 1) := by decide +kernel
theorem dX1_readDesk_51 : decode cX1_readDesk 51 = .ok (.iload_n 3, 1) := by decide +kernel
theorem dX1_readDesk_52 : decode cX1_readDesk 52 = .ok (.iload 6, 2) := by decide +kernel
theorem dX1_readDesk_54 : decode cX1_readDesk 54 = .ok (.iadd, 1) := by decide +kernel
theorem dX1_readDesk_55 : decode cX1_readDesk 55 = .ok (.invokevirtual 69, 3) := by decide +kernel
theorem dX1_readDesk_58 : decode cX1_readDesk 58 = .ok (.ifCond .ne 9, 3) := by decide +kernel
theorem dX1_readDesk_61 : decode cX1_readDesk 61 = .ok (.aload_n 1, 1) := by decide +kernel
theorem dX1_readDesk_62 : decode cX1_readDesk 62 = .ok (.iload_n 2, 1) := by decide +kernel
theorem dX1_readDesk_63 : decode cX1_readDesk 63 = .ok (.invokevirtual 47, 3) := by decide +kernel
theorem dX1_readDesk_66 : decode cX1_readDesk 66 = .ok (.ireturn, 1) := by decide +kernel
theorem dX1_readDesk_67 : decode cX1_readDesk 67 = .ok (.aload_n 1, 1) := by decide +kernel
theorem dX1_readDesk_68 : decode cX1_readDesk 68 = .ok (.iload_n 2, 1) := by decide +kernel
theorem dX1_readDesk_69 : decode cX1_readDesk 69 = .ok (.iload_n 3, 1) := by decide +kernel
theorem dX1_readDesk_70 : decode cX1_readDesk 70 = .ok (.iload 6, 2) := by decide +kernel
theorem dX1_readDesk_72 : decode cX1_readDesk 72 = .ok (.iadd, 1) := by decide +kernel
theorem dX1_readDesk_73 : decode cX1_readDesk 73 = .ok (.invokevirtual 52, 3) := by decide +kernel
theorem dX1_readDesk_76 : decode cX1_readDesk 76 = .ok (.bipush 48, 2) := by decide +kernel
theorem dX1_readDesk_78 : decode cX1_readDesk 78 = .ok (.isub, 1) := by decide +kernel
theorem dX1_readDesk_79 : decode cX1_readDesk 79 = .ok (.istore 7, 2) := by decide +kernel
theorem dX1_readDesk_81 : decode cX1_readDesk 81 = .ok (.iload 7, 2) := by decide +kernel
theorem dX1_readDesk_83 : decode cX1_readDesk 83 = .ok (.iload 4, 2) := by decide +kernel
theorem dX1_readDesk_85 : decode cX1_readDesk 85 = .ok (.iload 6, 2) := by decide +kernel
theorem dX1_readDesk_87 : decode cX1_readDesk 87 = .ok (.iload 5, 2) := by decide +kernel
theorem dX1_readDesk_89 : decode cX1_readDesk 89 = .ok (.invokestatic 72, 3) := by decide +kernel
theorem dX1_readDesk_92 : decode cX1_readDesk 92 = .ok (.if_icmp .lt 10, 3) := by decide +kernel
theorem dX1_readDesk_95 : decode cX1_readDesk 95 = .ok (.iload 7, 2) := by decide +kernel
theorem dX1_readDesk_97 : decode cX1_readDesk 97 = .ok (.bipush 9, 2) := by decide +kernel
theorem dX1_readDesk_99 : decode cX1_readDesk 99 = .ok (.if_icmp .le 8, 3) := by decide +kernel
theorem dX1_readDesk_102 : decode cX1_readDesk 102 = .ok (.iload_n 3, 1) := by decide +kernel
theorem dX1_readDesk_103 : decode cX1_readDesk 103 = .ok (.iload 6, 2) := by decide +kernel
theorem dX1_readDesk_105 : decode cX1_readDesk 105 = .ok (.iadd, 1) := by decide +kernel
theorem dX1_readDesk_106 : decode cX1_readDesk 106 = .ok (.ireturn, 1) := by decide +kernel
theorem dX1_readDesk_107 : decode cX1_readDesk 107 = .ok (.aload_n 0, 1) := by decide +kernel
theorem dX1_readDesk_108 : decode cX1_readDesk 108 = .ok (.aload_n 0, 1) := by decide +kernel
theorem dX1_readDesk_109 : decode cX1_readDesk 109 = .ok (.getfield 15, 3) := by decide +kernel
theorem dX1_readDesk_112 : decode cX1_readDesk 112 = .ok (.iload 6, 2) := by decide +kernel
theorem dX1_readDesk_114 : decode cX1_readDesk 114 = .ok (.iload 7, 2) := by decide +kernel
theorem dX1_readDesk_116 : decode cX1_readDesk 116 = .ok (.invokevirtual 65, 3) := by decide +kernel
theorem dX1_readDesk_119 : decode cX1_readDesk 119 = .ok (.iload 7, 2) := by decide +kernel
theorem dX1_readDesk_121 : decode cX1_readDesk 121 = .ok (.istore 5, 2) := by decide +kernel
theorem dX1_readDesk_123 : decode cX1_readDesk 123 = .ok (.iinc 6 1, 3) := by decide +kernel
theorem dX1_readDesk_126 : decode cX1_readDesk 126 = .ok (.goto (-87), 3) := by decide +kernel
theorem dX1_readDesk_129 : decode cX1_readDesk 129 = .ok (.aload_n 0, 1) := by decide +kernel
theorem dX1_readDesk_130 : decode cX1_readDesk 130 = .ok (.dup, 1) := by decide +kernel
theorem dX1_readDesk_131 : decode cX1_readDesk 131 = .ok (.getfield 15, 3) := by decide +kernel
theorem dX1_readDesk_134 : decode cX1_readDesk 134 = .ok (.iconst 1, 1) := by decide +kernel
theorem dX1_readDesk_135 : decode cX1_readDesk 135 = .ok (.iadd, 1) := by decide +kernel
theorem dX1_readDesk_136 : decode cX1_readDesk 136 = .ok (.putfield 15, 3) := by decide +kernel
theorem dX1_readDesk_139 : decode cX1_readDesk 139 = .ok (.bipush (-9), 2) := by decide +kernel
theorem dX1_readDesk_141 : decode cX1_readDesk 141 = .ok (.ireturn, 1) := by decide +kernel
theorem dX1_leastFigure_0 : decode cX1_leastFigure 0 = .ok (.iload_n 0, 1) := by decide +kernel
theorem dX1_leastFigure_1 : decode cX1_leastFigure 1 = .ok (.iconst 2, 1) := by decide +kernel
theorem dX1_leastFigure_2 : decode cX1_leastFigure 2 = .ok (.if_icmp .ne 10, 3) := by decide +kernel
theorem dX1_leastFigure_5 : decode cX1_leastFigure 5 = .ok (.iload_n 1, 1) := by decide +kernel
theorem dX1_leastFigure_6 : decode cX1_leastFigure 6 = .ok (.iconst 4, 1) := by decide +kernel
theorem dX1_leastFigure_7 : decode cX1_leastFigure 7 = .ok (.if_icmp .ne 5, 3) := by decide +kernel
theorem dX1_leastFigure_10 : decode cX1_leastFigure 10 = .ok (.iconst 1, 1) := by decide +kernel
theorem dX1_leastFigure_11 : decode cX1_leastFigure 11 = .ok (.ireturn, 1) := by decide +kernel
theorem dX1_leastFigure_12 : decode cX1_leastFigure 12 = .ok (.iload_n 1, 1) := by decide +kernel
theorem dX1_leastFigure_13 : decode cX1_leastFigure 13 = .ok (.iconst 5, 1) := by decide +kernel
theorem dX1_leastFigure_14 : decode cX1_leastFigure 14 = .ok (.if_icmp .ne 7, 3) := by decide +kernel
theorem dX1_leastFigure_17 : decode cX1_leastFigure 17 = .ok (.iload_n 2, 1) := by decide +kernel
theorem dX1_leastFigure_18 : decode cX1_leastFigure 18 = .ok (.goto 4, 3) := by decide +kernel
theorem dX1_leastFigure_21 : decode cX1_leastFigure 21 = .ok (.iconst 0, 1) := by decide +kernel
theorem dX1_leastFigure_22 : decode cX1_leastFigure 22 = .ok (.ireturn, 1) := by decide +kernel
theorem dX1_figuresOf_0 : decode cX1_figuresOf 0 = .ok (.iload_n 0, 1) := by decide +kernel
theorem dX1_figuresOf_1 : decode cX1_figuresOf 1 = .ok (.iconst 2, 1) := by decide +kernel
theorem dX1_figuresOf_2 : decode cX1_figuresOf 2 = .ok (.if_icmp .ne 5, 3) := by decide +kernel
theorem dX1_figuresOf_5 : decode cX1_figuresOf 5 = .ok (.iconst 4, 1) := by decide +kernel
theorem dX1_figuresOf_6 : decode cX1_figuresOf 6 = .ok (.ireturn, 1) := by decide +kernel
theorem dX1_figuresOf_7 : decode cX1_figuresOf 7 = .ok (.iload_n 0, 1) := by decide +kernel
theorem dX1_figuresOf_8 : decode cX1_figuresOf 8 = .ok (.iconst 3, 1) := by decide +kernel
theorem dX1_figuresOf_9 : decode cX1_figuresOf 9 = .ok (.if_icmp .ne 7, 3) := by decide +kernel
theorem dX1_figuresOf_12 : decode cX1_figuresOf 12 = .ok (.iconst 5, 1) := by decide +kernel
theorem dX1_figuresOf_13 : decode cX1_figuresOf 13 = .ok (.goto 4, 3) := by decide +kernel
theorem dX1_figuresOf_16 : decode cX1_figuresOf 16 = .ok (.iconst 3, 1) := by decide +kernel
theorem dX1_figuresOf_17 : decode cX1_figuresOf 17 = .ok (.ireturn, 1) := by decide +kernel
theorem dX1_kindOf_0 : decode cX1_kindOf 0 = .ok (.iconst 0, 1) := by decide +kernel
theorem dX1_kindOf_1 : decode cX1_kindOf 1 = .ok (.istore_n 1, 1) := by decide +kernel
theorem dX1_kindOf_2 : decode cX1_kindOf 2 = .ok (.iload_n 1, 1) := by decide +kernel
theorem dX1_kindOf_3 : decode cX1_kindOf 3 = .ok (.getstatic 75, 3) := by decide +kernel
theorem dX1_kindOf_6 : decode cX1_kindOf 6 = .ok (.arraylength, 1) := by decide +kernel
theorem dX1_kindOf_7 : decode cX1_kindOf 7 = .ok (.if_icmp .ge 20, 3) := by decide +kernel
theorem dX1_kindOf_10 : decode cX1_kindOf 10 = .ok (.getstatic 75, 3) := by decide +kernel
theorem dX1_kindOf_13 : decode cX1_kindOf 13 = .ok (.iload_n 1, 1) := by decide +kernel
theorem dX1_kindOf_14 : decode cX1_kindOf 14 = .ok (.iaload, 1) := by decide +kernel
theorem dX1_kindOf_15 : decode cX1_kindOf 15 = .ok (.iload_n 0, 1) := by decide +kernel
theorem dX1_kindOf_16 : decode cX1_kindOf 16 = .ok (.if_icmp .ne 5, 3) := by decide +kernel
theorem dX1_kindOf_19 : decode cX1_kindOf 19 = .ok (.iload_n 1, 1) := by decide +kernel
theorem dX1_kindOf_20 : decode cX1_kindOf 20 = .ok (.ireturn, 1) := by decide +kernel
theorem dX1_kindOf_21 : decode cX1_kindOf 21 = .ok (.iinc 1 1, 3) := by decide +kernel
theorem dX1_kindOf_24 : decode cX1_kindOf 24 = .ok (.goto (-22), 3) := by decide +kernel
theorem dX1_kindOf_27 : decode cX1_kindOf 27 = .ok (.bipush (-9), 2) := by decide +kernel
theorem dX1_kindOf_29 : decode cX1_kindOf 29 = .ok (.ireturn, 1) := by decide +kernel
theorem dX2_init_0 : decode cX2_init 0 = .ok (.aload_n 0, 1) := by decide +kernel
theorem dX2_init_1 : decode cX2_init 1 = .ok (.invokespecial 3, 3) := by decide +kernel
theorem dX2_init_4 : decode cX2_init 4 = .ok (.aload_n 0, 1) := by decide +kernel
theorem dX2_init_5 : decode cX2_init 5 = .ok (.new 9, 3) := by decide +kernel
theorem dX2_init_8 : decode cX2_init 8 = .ok (.dup, 1) := by decide +kernel
theorem dX2_init_9 : decode cX2_init 9 = .ok (.invokespecial 11, 3) := by decide +kernel
theorem dX2_init_12 : decode cX2_init 12 = .ok (.putfield 12, 3) := by decide +kernel
theorem dX2_init_15 : decode cX2_init 15 = .ok (.aload_n 0, 1) := by decide +kernel
theorem dX2_init_16 : decode cX2_init 16 = .ok (.new 18, 3) := by decide +kernel
theorem dX2_init_19 : decode cX2_init 19 = .ok (.dup, 1) := by decide +kernel
theorem dX2_init_20 : decode cX2_init 20 = .ok (.invokespecial 20, 3) := by decide +kernel
theorem dX2_init_23 : decode cX2_init 23 = .ok (.putfield 21, 3) := by decide +kernel
theorem dX2_init_26 : decode cX2_init 26 = .ok (.aload_n 0, 1) := by decide +kernel
theorem dX2_init_27 : decode cX2_init 27 = .ok (.new 18, 3) := by decide +kernel
theorem dX2_init_30 : decode cX2_init 30 = .ok (.dup, 1) := by decide +kernel
theorem dX2_init_31 : decode cX2_init 31 = .ok (.invokespecial 20, 3) := by decide +kernel
theorem dX2_init_34 : decode cX2_init 34 = .ok (.putfield 25, 3) := by decide +kernel
theorem dX2_init_37 : decode cX2_init 37 = .ok (.aload_n 0, 1) := by decide +kernel
theorem dX2_init_38 : decode cX2_init 38 = .ok (.lconst 1, 1) := by decide +kernel
theorem dX2_init_39 : decode cX2_init 39 = .ok (.putfield 28, 3) := by decide +kernel
theorem dX2_init_42 : decode cX2_init 42 = .ok (.return_, 1) := by decide +kernel
theorem dX2_look_0 : decode cX2_look 0 = .ok (.aload_n 0, 1) := by decide +kernel
theorem dX2_look_1 : decode cX2_look 1 = .ok (.aload_n 2, 1) := by decide +kernel
theorem dX2_look_2 : decode cX2_look 2 = .ok (.getfield 32, 3) := by decide +kernel
theorem dX2_look_5 : decode cX2_look 5 = .ok (.aload_n 2, 1) := by decide +kernel
theorem dX2_look_6 : decode cX2_look 6 = .ok (.getfield 38, 3) := by decide +kernel
theorem dX2_look_9 : decode cX2_look 9 = .ok (.aload_n 2, 1) := by decide +kernel
theorem dX2_look_10 : decode cX2_look 10 = .ok (.getfield 41, 3) := by decide +kernel
theorem dX2_look_13 : decode cX2_look 13 = .ok (.invokevirtual 45, 3) := by decide +kernel
theorem dX2_look_16 : decode cX2_look 16 = .ok (.aload_n 0, 1) := by decide +kernel
theorem dX2_look_17 : decode cX2_look 17 = .ok (.aload_n 1, 1) := by decide +kernel
theorem dX2_look_18 : decode cX2_look 18 = .ok (.aload_n 2, 1) := by decide +kernel
theorem dX2_look_19 : decode cX2_look 19 = .ok (.getfield 49, 3) := by decide +kernel
theorem dX2_look_22 : decode cX2_look 22 = .ok (.aload_n 2, 1) := by decide +kernel
theorem dX2_look_23 : decode cX2_look 23 = .ok (.getfield 52, 3) := by decide +kernel
theorem dX2_look_26 : decode cX2_look 26 = .ok (.iload_n 3, 1) := by decide +kernel
theorem dX2_look_27 : decode cX2_look 27 = .ok (.invokevirtual 55, 3) := by decide +kernel
theorem dX2_look_30 : decode cX2_look 30 = .ok (.return_, 1) := by decide +kernel
theorem dX2_lookAnew_0 : decode cX2_lookAnew 0 = .ok (.aload_n 0, 1) := by decide +kernel
theorem dX2_lookAnew_1 : decode cX2_lookAnew 1 = .ok (.iload_n 2, 1) := by decide +kernel
theorem dX2_lookAnew_2 : decode cX2_lookAnew 2 = .ok (.iconst 0, 1) := by decide +kernel
theorem dX2_lookAnew_3 : decode cX2_lookAnew 3 = .ok (.iconst 0, 1) := by decide +kernel
theorem dX2_lookAnew_4 : decode cX2_lookAnew 4 = .ok (.invokevirtual 45, 3) := by decide +kernel
theorem dX2_lookAnew_7 : decode cX2_lookAnew 7 = .ok (.aload_n 0, 1) := by decide +kernel
theorem dX2_lookAnew_8 : decode cX2_lookAnew 8 = .ok (.aload_n 1, 1) := by decide +kernel
theorem dX2_lookAnew_9 : decode cX2_lookAnew 9 = .ok (.iconst 0, 1) := by decide +kernel
theorem dX2_lookAnew_10 : decode cX2_lookAnew 10 = .ok (.iload_n 3, 1) := by decide +kernel
theorem dX2_lookAnew_11 : decode cX2_lookAnew 11 = .ok (.iload 4, 2) := by decide +kernel
theorem dX2_lookAnew_13 : decode cX2_lookAnew 13 = .ok (.invokevirtual 55, 3) := by decide +kernel
theorem dX2_lookAnew_16 : decode cX2_lookAnew 16 = .ok (.return_, 1) := by decide +kernel
theorem dX2_startFrom_0 : decode cX2_startFrom 0 = .ok (.aload_n 0, 1) := by decide +kernel
theorem dX2_startFrom_1 : decode cX2_startFrom 1 = .ok (.lconst 1, 1) := by decide +kernel
theorem dX2_startFrom_2 : decode cX2_startFrom 2 = .ok (.putfield 28, 3) := by decide +kernel
theorem dX2_startFrom_5 : decode cX2_startFrom 5 = .ok (.aload_n 0, 1) := by decide +kernel
theorem dX2_startFrom_6 : decode cX2_startFrom 6 = .ok (.getfield 21, 3) := by decide +kernel
theorem dX2_startFrom_9 : decode cX2_startFrom 9 = .ok (.invokevirtual 59, 3) := by decide +kernel
theorem dX2_startFrom_12 : decode cX2_startFrom 12 = .ok (.iload_n 3, 1) := by decide +kernel
theorem dX2_startFrom_13 : decode cX2_startFrom 13 = .ok (.ifCond .eq 14, 3) := by decide +kernel
theorem dX2_startFrom_16 : decode cX2_startFrom 16 = .ok (.aload_n 0, 1) := by decide +kernel
theorem dX2_startFrom_17 : decode cX2_startFrom 17 = .ok (.getfield 21, 3) := by decide +kernel
theorem dX2_startFrom_20 : decode cX2_startFrom 20 = .ok (.lconst 1, 1) := by decide +kernel
theorem dX2_startFrom_21 : decode cX2_startFrom 21 = .ok (.putfield 62, 3) := by decide +kernel
theorem dX2_startFrom_24 : decode cX2_startFrom 24 = .ok (.goto 13, 3) := by decide +kernel
theorem dX2_startFrom_27 : decode cX2_startFrom 27 = .ok (.aload_n 0, 1) := by decide +kernel
theorem dX2_startFrom_28 : decode cX2_startFrom 28 = .ok (.getfield 21, 3) := by decide +kernel
theorem dX2_startFrom_31 : decode cX2_startFrom 31 = .ok (.iload_n 1, 1) := by decide +kernel
theorem dX2_startFrom_32 : decode cX2_startFrom 32 = .ok (.iload_n 2, 1) := by decide +kernel
theorem dX2_startFrom_33 : decode cX2_startFrom 33 = .ok (.lconst 1, 1) := by decide +kernel
theorem dX2_startFrom_34 : decode cX2_startFrom 34 = .ok (.invokevirtual 65, 3) := by decide +kernel
theorem dX2_startFrom_37 : decode cX2_startFrom 37 = .ok (.return_, 1) := by decide +kernel
theorem dX2_passHours_0 : decode cX2_passHours 0 = .ok (.iconst 0, 1) := by decide +kernel
theorem dX2_passHours_1 : decode cX2_passHours 1 = .ok (.istore 5, 2) := by decide +kernel
theorem dX2_passHours_3 : decode cX2_passHours 3 = .ok (.iload 5, 2) := by decide +kernel
theorem dX2_passHours_5 : decode cX2_passHours 5 = .ok (.iload 4, 2) := by decide +kernel
theorem dX2_passHours_7 : decode cX2_passHours 7 = .ok (.if_icmp .ge 106, 3) := by decide +kernel
theorem dX2_passHours_10 : decode cX2_passHours 10 = .ok (.aload_n 0, 1) := by decide +kernel
theorem dX2_passHours_11 : decode cX2_passHours 11 = .ok (.getfield 25, 3) := by decide +kernel
theorem dX2_passHours_14 : decode cX2_passHours 14 = .ok (.invokevirtual 59, 3) := by decide +kernel
theorem dX2_passHours_17 : decode cX2_passHours 17 = .ok (.aload_n 0, 1) := by decide +kernel
theorem dX2_passHours_18 : decode cX2_passHours 18 = .ok (.getfield 25, 3) := by decide +kernel
theorem dX2_passHours_21 : decode cX2_passHours 21 = .ok (.aload_n 0, 1) := by decide +kernel
theorem dX2_passHours_22 : decode cX2_passHours 22 = .ok (.getfield 21, 3) := by decide +kernel
theorem dX2_passHours_25 : decode cX2_passHours 25 = .ok (.getfield 62, 3) := by decide +kernel
theorem dX2_passHours_28 : decode cX2_passHours 28 = .ok (.ldc2_w 69, 3) := by decide +kernel
theorem dX2_passHours_31 : decode cX2_passHours 31 = .ok (.lmul, 1) := by decide +kernel
theorem dX2_passHours_32 : decode cX2_passHours 32 = .ok (.putfield 62, 3) := by decide +kernel
theorem dX2_passHours_35 : decode cX2_passHours 35 = .ok (.iconst 0, 1) := by decide +kernel
theorem dX2_passHours_36 : decode cX2_passHours 36 = .ok (.istore 6, 2) := by decide +kernel
theorem dX2_passHours_38 : decode cX2_passHours 38 = .ok (.iload 6, 2) := by decide +kernel
theorem dX2_passHours_40 : decode cX2_passHours 40 = .ok (.aload_n 0, 1) := by decide +kernel
theorem dX2_passHours_41 : decode cX2_passHours 41 = .ok (.getfield 21, 3) := by decide +kernel
theorem dX2_passHours_44 : decode cX2_passHours 44 = .ok (.getfield 71, 3) := by decide +kernel
theorem dX2_passHours_47 : decode cX2_passHours 47 = .ok (.if_icmp .ge 28, 3) := by decide +kernel
theorem dX2_passHours_50 : decode cX2_passHours 50 = .ok (.aload_n 0, 1) := by decide +kernel
theorem dX2_passHours_51 : decode cX2_passHours 51 = .ok (.aload_n 1, 1) := by decide +kernel
theorem dX2_passHours_52 : decode cX2_passHours 52 = .ok (.aload_n 0, 1) := by decide +kernel
theorem dX2_passHours_53 : decode cX2_passHours 53 = .ok (.getfield 21, 3) := by decide +kernel
theorem dX2_passHours_56 : decode cX2_passHours 56 = .ok (.iload 6, 2) := by decide +kernel
theorem dX2_passHours_58 : decode cX2_passHours 58 = .ok (.invokevirtual 74, 3) := by decide +kernel
theorem dX2_passHours_61 : decode cX2_passHours 61 = .ok (.iload_n 2, 1) := by decide +kernel
theorem dX2_passHours_62 : decode cX2_passHours 62 = .ok (.iload 5, 2) := by decide +kernel
theorem dX2_passHours_64 : decode cX2_passHours 64 = .ok (.iadd, 1) := by decide +kernel
theorem dX2_passHours_65 : decode cX2_passHours 65 = .ok (.iload_n 3, 1) := by decide +kernel
theorem dX2_passHours_66 : decode cX2_passHours 66 = .ok (.invokevirtual 78, 3) := by decide +kernel
theorem dX2_passHours_69 : decode cX2_passHours 69 = .ok (.iinc 6 1, 3) := by decide +kernel
theorem dX2_passHours_72 : decode cX2_passHours 72 = .ok (.goto (-34), 3) := by decide +kernel
theorem dX2_passHours_75 : decode cX2_passHours 75 = .ok (.aload_n 0, 1) := by decide +kernel
theorem dX2_passHours_76 : decode cX2_passHours 76 = .ok (.getfield 21, 3) := by decide +kernel
theorem dX2_passHours_79 : decode cX2_passHours 79 = .ok (.astore 6, 2) := by decide +kernel
theorem dX2_passHours_81 : decode cX2_passHours 81 = .ok (.aload_n 0, 1) := by decide +kernel
theorem dX2_passHours_82 : decode cX2_passHours 82 = .ok (.aload_n 0, 1) := by decide +kernel
theorem dX2_passHours_83 : decode cX2_passHours 83 = .ok (.getfield 25, 3) := by decide +kernel
theorem dX2_passHours_86 : decode cX2_passHours 86 = .ok (.putfield 21, 3) := by decide +kernel
theorem dX2_passHours_89 : decode cX2_passHours 89 = .ok (.aload_n 0, 1) := by decide +kernel
theorem dX2_passHours_90 : decode cX2_passHours 90 = .ok (.aload 6, 2) := by decide +kernel
theorem dX2_passHours_92 : decode cX2_passHours 92 = .ok (.putfield 25, 3) := by decide +kernel
theorem dX2_passHours_95 : decode cX2_passHours 95 = .ok (.aload_n 0, 1) := by decide +kernel
theorem dX2_passHours_96 : decode cX2_passHours 96 = .ok (.dup, 1) := by decide +kernel
theorem dX2_passHours_97 : decode cX2_passHours 97 = .ok (.getfield 28, 3) := by decide +kernel
theorem dX2_passHours_100 : decode cX2_passHours 100 = .ok (.ldc2_w 69, 3) := by decide +kernel
theorem dX2_passHours_103 : decode cX2_passHours 103 = .ok (.lmul, 1) := by decide +kernel
theorem dX2_passHours_104 : decode cX2_passHours 104 = .ok (.putfield 28, 3) := by decide +kernel
theorem dX2_passHours_107 : decode cX2_passHours 107 = .ok (.iinc 5 1, 3) := by decide +kernel
theorem dX2_passHours_110 : decode cX2_passHours 110 = .ok (.goto (-107), 3) := by decide +kernel
theorem dX2_passHours_113 : decode cX2_passHours 113 = .ok (.return_, 1) := by decide +kernel
theorem dX2_spread_0 : decode cX2_spread 0 = .ok (.aload_n 0, 1) := by decide +kernel
theorem dX2_spread_1 : decode cX2_spread 1 = .ok (.getfield 12, 3) := by decide +kernel
theorem dX2_spread_4 : decode cX2_spread 4 = .ok (.aload_n 1, 1) := by decide +kernel
theorem dX2_spread_5 : decode cX2_spread 5 = .ok (.iload_n 2, 1) := by decide +kernel
theorem dX2_spread_6 : decode cX2_spread 6 = .ok (.invokestatic 81, 3) := by decide +kernel
theorem dX2_spread_9 : decode cX2_spread 9 = .ok (.iload_n 2, 1) := by decide +kernel
theorem dX2_spread_10 : decode cX2_spread 10 = .ok (.invokestatic 84, 3) := by decide +kernel
theorem dX2_spread_13 : decode cX2_spread 13 = .ok (.iload_n 3, 1) := by decide +kernel
theorem dX2_spread_14 : decode cX2_spread 14 = .ok (.iload 4, 2) := by decide +kernel
theorem dX2_spread_16 : decode cX2_spread 16 = .ok (.invokevirtual 87, 3) := by decide +kernel
theorem dX2_spread_19 : decode cX2_spread 19 = .ok (.aload_n 0, 1) := by decide +kernel
theorem dX2_spread_20 : decode cX2_spread 20 = .ok (.getfield 21, 3) := by decide +kernel
theorem dX2_spread_23 : decode cX2_spread 23 = .ok (.iload_n 2, 1) := by decide +kernel
theorem dX2_spread_24 : decode cX2_spread 24 = .ok (.invokevirtual 91, 3) := by decide +kernel
theorem dX2_spread_27 : decode cX2_spread 27 = .ok (.lstore 5, 2) := by decide +kernel
theorem dX2_spread_29 : decode cX2_spread 29 = .ok (.aload_n 0, 1) := by decide +kernel
theorem dX2_spread_30 : decode cX2_spread 30 = .ok (.getfield 12, 3) := by decide +kernel
theorem dX2_spread_33 : decode cX2_spread 33 = .ok (.getfield 95, 3) := by decide +kernel
theorem dX2_spread_36 : decode cX2_spread 36 = .ok (.ifCond .le 13, 3) := by decide +kernel
theorem dX2_spread_39 : decode cX2_spread 39 = .ok (.aload_n 0, 1) := by decide +kernel
theorem dX2_spread_40 : decode cX2_spread 40 = .ok (.getfield 12, 3) := by decide +kernel
theorem dX2_spread_43 : decode cX2_spread 43 = .ok (.getfield 95, 3) := by decide +kernel
theorem dX2_spread_46 : decode cX2_spread 46 = .ok (.goto 5, 3) := by decide +kernel
theorem dX2_spread_49 : decode cX2_spread 49 = .ok (.bipush 12, 2) := by decide +kernel
theorem dX2_spread_51 : decode cX2_spread 51 = .ok (.istore 7, 2) := by decide +kernel
theorem dX2_spread_53 : decode cX2_spread 53 = .ok (.aload_n 0, 1) := by decide +kernel
theorem dX2_spread_54 : decode cX2_spread 54 = .ok (.getfield 12, 3) := by decide +kernel
theorem dX2_spread_57 : decode cX2_spread 57 = .ok (.getfield 98, 3) := by decide +kernel
theorem dX2_spread_60 : decode cX2_spread 60 = .ok (.iconst (-1), 1) := by decide +kernel
theorem dX2_spread_61 : decode cX2_spread 61 = .ok (.if_icmp .ne 6, 3) := by decide +kernel
theorem dX2_spread_64 : decode cX2_spread 64 = .ok (.iconst 0, 1) := by decide +kernel
theorem dX2_spread_65 : decode cX2_spread 65 = .ok (.istore 7, 2) := by decide +kernel
theorem dX2_spread_67 : decode cX2_spread 67 = .ok (.aload_n 0, 1) := by decide +kernel
theorem dX2_spread_68 : decode cX2_spread 68 = .ok (.getfield 25, 3) := by decide +kernel
theorem dX2_spread_71 : decode cX2_spread 71 = .ok (.aload_n 0, 1) := by decide +kernel
theorem dX2_spread_72 : decode cX2_spread 72 = .ok (.getfield 12, 3) := by decide +kernel
theorem dX2_spread_75 : decode cX2_spread 75 = .ok (.getfield 101, 3) := by decide +kernel
theorem dX2_spread_78 : decode cX2_spread 78 = .ok (.aload_n 0, 1) := by decide +kernel
theorem dX2_spread_79 : decode cX2_spread 79 = .ok (.getfield 12, 3) := by decide +kernel
theorem dX2_spread_82 : decode cX2_spread 82 = .ok (.getfield 102, 3) := by decide +kernel
theorem dX2_spread_85 : decode cX2_spread 85 = .ok (.lload 5, 2) := by decide +kernel
theorem dX2_spread_87 : decode cX2_spread 87 = .ok (.bipush 12, 2) := by decide +kernel
theorem dX2_spread_89 : decode cX2_spread 89 = .ok (.iload 7, 2) := by decide +kernel
theorem dX2_spread_91 : decode cX2_spread 91 = .ok (.isub, 1) := by decide +kernel
theorem dX2_spread_92 : decode cX2_spread 92 = .ok (.i2l, 1) := by decide +kernel
theorem dX2_spread_93 : decode cX2_spread 93 = .ok (.lmul, 1) := by decide +kernel
theorem dX2_spread_94 : decode cX2_spread 94 = .ok (.invokevirtual 65, 3) := by decide +kernel
theorem dX2_spread_97 : decode cX2_spread 97 = .ok (.aload_n 0, 1) := by decide +kernel
theorem dX2_spread_98 : decode cX2_spread 98 = .ok (.getfield 12, 3) := by decide +kernel
theorem dX2_spread_101 : decode cX2_spread 101 = .ok (.getfield 98, 3) := by decide +kernel
theorem dX2_spread_104 : decode cX2_spread 104 = .ok (.bipush (-2), 2) := by decide +kernel
theorem dX2_spread_106 : decode cX2_spread 106 = .ok (.if_icmp .ne 24, 3) := by decide +kernel
theorem dX2_spread_109 : decode cX2_spread 109 = .ok (.aload_n 0, 1) := by decide +kernel
theorem dX2_spread_110 : decode cX2_spread 110 = .ok (.getfield 25, 3) := by decide +kernel
theorem dX2_spread_113 : decode cX2_spread 113 = .ok (.dup, 1) := by decide +kernel
theorem dX2_spread_114 : decode cX2_spread 114 = .ok (.getfield 62, 3) := by decide +kernel
theorem dX2_spread_117 : decode cX2_spread 117 = .ok (.lload 5, 2) := by decide +kernel
theorem dX2_spread_119 : decode cX2_spread 119 = .ok (.iload 7, 2) := by decide +kernel
theorem dX2_spread_121 : decode cX2_spread 121 = .ok (.i2l, 1) := by decide +kernel
theorem dX2_spread_122 : decode cX2_spread 122 = .ok (.lmul, 1) := by decide +kernel
theorem dX2_spread_123 : decode cX2_spread 123 = .ok (.ladd, 1) := by decide +kernel
theorem dX2_spread_124 : decode cX2_spread 124 = .ok (.putfield 62, 3) := by decide +kernel
theorem dX2_spread_127 : decode cX2_spread 127 = .ok (.goto 40, 3) := by decide +kernel
theorem dX2_spread_130 : decode cX2_spread 130 = .ok (.aload_n 0, 1) := by decide +kernel
theorem dX2_spread_131 : decode cX2_spread 131 = .ok (.getfield 12, 3) := by decide +kernel
theorem dX2_spread_134 : decode cX2_spread 134 = .ok (.getfield 98, 3) := by decide +kernel
theorem dX2_spread_137 : decode cX2_spread 137 = .ok (.ifCond .lt 30, 3) := by decide +kernel
theorem dX2_spread_140 : decode cX2_spread 140 = .ok (.aload_n 0, 1) := by decide +kernel
theorem dX2_spread_141 : decode cX2_spread 141 = .ok (.getfield 25, 3) := by decide +kernel
theorem dX2_spread_144 : decode cX2_spread 144 = .ok (.aload_n 0, 1) := by decide +kernel
theorem dX2_spread_145 : decode cX2_spread 145 = .ok (.getfield 12, 3) := by decide +kernel
theorem dX2_spread_148 : decode cX2_spread 148 = .ok (.getfield 98, 3) := by decide +kernel
theorem dX2_spread_151 : decode cX2_spread 151 = .ok (.aload_n 0, 1) := by decide +kernel
theorem dX2_spread_152 : decode cX2_spread 152 = .ok (.getfield 12, 3) := by decide +kernel
theorem dX2_spread_155 : decode cX2_spread 155 = .ok (.getfield 102, 3) := by decide +kernel
theorem dX2_spread_158 : decode cX2_spread 158 = .ok (.lload 5, 2) := by decide +kernel
theorem dX2_spread_160 : decode cX2_spread 160 = .ok (.iload 7, 2) := by decide +kernel
theorem dX2_spread_162 : decode cX2_spread 162 = .ok (.i2l, 1) := by decide +kernel
theorem dX2_spread_163 : decode cX2_spread 163 = .ok (.lmul, 1) := by decide +kernel
theorem dX2_spread_164 : decode cX2_spread 164 = .ok (.invokevirtual 65, 3) := by decide +kernel
theorem dX2_spread_167 : decode cX2_spread 167 = .ok (.return_, 1) := by decide +kernel
theorem dX2_partHome_0 : decode cX2_partHome 0 = .ok (.aload_n 0, 1) := by decide +kernel
theorem dX2_partHome_1 : decode cX2_partHome 1 = .ok (.getfield 21, 3) := by decide +kernel
theorem dX2_partHome_4 : decode cX2_partHome 4 = .ok (.getfield 62, 3) := by decide +kernel
theorem dX2_partHome_7 : decode cX2_partHome 7 = .ok (.lreturn, 1) := by decide +kernel
theorem dX2_partAt_0 : decode cX2_partAt 0 = .ok (.iload_n 1, 1) := by decide +kernel
theorem dX2_partAt_1 : decode cX2_partAt 1 = .ok (.iload_n 2, 1) := by decide +kernel
theorem dX2_partAt_2 : decode cX2_partAt 2 = .ok (.if_icmp .ne 13, 3) := by decide +kernel
theorem dX2_partAt_5 : decode cX2_partAt 5 = .ok (.aload_n 0, 1) := by decide +kernel
theorem dX2_partAt_6 : decode cX2_partAt 6 = .ok (.getfield 21, 3) := by decide +kernel
theorem dX2_partAt_9 : decode cX2_partAt 9 = .ok (.getfield 62, 3) := by decide +kernel
theorem dX2_partAt_12 : decode cX2_partAt 12 = .ok (.goto 4, 3) := by decide +kernel
theorem dX2_partAt_15 : decode cX2_partAt 15 = .ok (.lconst 0, 1) := by decide +kernel
theorem dX2_partAt_16 : decode cX2_partAt 16 = .ok (.lstore_n 3, 1) := by decide +kernel
theorem dX2_partAt_17 : decode cX2_partAt 17 = .ok (.iconst 0, 1) := by decide +kernel
theorem dX2_partAt_18 : decode cX2_partAt 18 = .ok (.istore 5, 2) := by decide +kernel
theorem dX2_partAt_20 : decode cX2_partAt 20 = .ok (.iload 5, 2) := by decide +kernel
theorem dX2_partAt_22 : decode cX2_partAt 22 = .ok (.aload_n 0, 1) := by decide +kernel
theorem dX2_partAt_23 : decode cX2_partAt 23 = .ok (.getfield 21, 3) := by decide +kernel
theorem dX2_partAt_26 : decode cX2_partAt 26 = .ok (.getfield 71, 3) := by decide +kernel
theorem dX2_partAt_29 : decode cX2_partAt 29 = .ok (.if_icmp .ge 41, 3) := by decide +kernel
theorem dX2_partAt_32 : decode cX2_partAt 32 = .ok (.aload_n 0, 1) := by decide +kernel
theorem dX2_partAt_33 : decode cX2_partAt 33 = .ok (.getfield 21, 3) := by decide +kernel
theorem dX2_partAt_36 : decode cX2_partAt 36 = .ok (.iload 5, 2) := by decide +kernel
theorem dX2_partAt_38 : decode cX2_partAt 38 = .ok (.invokevirtual 74, 3) := by decide +kernel
theorem dX2_partAt_41 : decode cX2_partAt 41 = .ok (.istore 6, 2) := by decide +kernel
theorem dX2_partAt_43 : decode cX2_partAt 43 = .ok (.iload 6, 2) := by decide +kernel
theorem dX2_partAt_45 : decode cX2_partAt 45 = .ok (.invokestatic 81, 3) := by decide +kernel
theorem dX2_partAt_48 : decode cX2_partAt 48 = .ok (.iload_n 1, 1) := by decide +kernel
theorem dX2_partAt_49 : decode cX2_partAt 49 = .ok (.if_icmp .ne 15, 3) := by decide +kernel
theorem dX2_partAt_52 : decode cX2_partAt 52 = .ok (.lload_n 3, 1) := by decide +kernel
theorem dX2_partAt_53 : decode cX2_partAt 53 = .ok (.aload_n 0, 1) := by decide +kernel
theorem dX2_partAt_54 : decode cX2_partAt 54 = .ok (.getfield 21, 3) := by decide +kernel
theorem dX2_partAt_57 : decode cX2_partAt 57 = .ok (.iload 6, 2) := by decide +kernel
theorem dX2_partAt_59 : decode cX2_partAt 59 = .ok (.invokevirtual 91, 3) := by decide +kernel
theorem dX2_partAt_62 : decode cX2_partAt 62 = .ok (.ladd, 1) := by decide +kernel
theorem dX2_partAt_63 : decode cX2_partAt 63 = .ok (.lstore_n 3, 1) := by decide +kernel
theorem dX2_partAt_64 : decode cX2_partAt 64 = .ok (.iinc 5 1, 3) := by decide +kernel
theorem dX2_partAt_67 : decode cX2_partAt 67 = .ok (.goto (-47), 3) := by decide +kernel
theorem dX2_partAt_70 : decode cX2_partAt 70 = .ok (.lload_n 3, 1) := by decide +kernel
theorem dX2_partAt_71 : decode cX2_partAt 71 = .ok (.lreturn, 1) := by decide +kernel
theorem dX3_init_0 : decode cX3_init 0 = .ok (.aload_n 0, 1) := by decide +kernel
theorem dX3_init_1 : decode cX3_init 1 = .ok (.invokespecial 3, 3) := by decide +kernel
theorem dX3_init_4 : decode cX3_init 4 = .ok (.aload_n 0, 1) := by decide +kernel
theorem dX3_init_5 : decode cX3_init 5 = .ok (.bipush 9, 2) := by decide +kernel
theorem dX3_init_7 : decode cX3_init 7 = .ok (.newarray .int, 2) := by decide +kernel
theorem dX3_init_9 : decode cX3_init 9 = .ok (.putfield 9, 3) := by decide +kernel
theorem dX3_init_12 : decode cX3_init 12 = .ok (.aload_n 0, 1) := by decide +kernel
theorem dX3_init_13 : decode cX3_init 13 = .ok (.bipush 9, 2) := by decide +kernel
theorem dX3_init_15 : decode cX3_init 15 = .ok (.newarray .int, 2) := by decide +kernel
theorem dX3_init_17 : decode cX3_init 17 = .ok (.putfield 15, 3) := by decide +kernel
theorem dX3_init_20 : decode cX3_init 20 = .ok (.aload_n 0, 1) := by decide +kernel
theorem dX3_init_21 : decode cX3_init 21 = .ok (.iconst 0, 1) := by decide +kernel
theorem dX3_init_22 : decode cX3_init 22 = .ok (.putfield 18, 3) := by decide +kernel
theorem dX3_init_25 : decode cX3_init 25 = .ok (.aload_n 0, 1) := by decide +kernel
theorem dX3_init_26 : decode cX3_init 26 = .ok (.iconst 0, 1) := by decide +kernel
theorem dX3_init_27 : decode cX3_init 27 = .ok (.putfield 22, 3) := by decide +kernel
theorem dX3_init_30 : decode cX3_init 30 = .ok (.aload_n 0, 1) := by decide +kernel
theorem dX3_init_31 : decode cX3_init 31 = .ok (.iconst 0, 1) := by decide +kernel
theorem dX3_init_32 : decode cX3_init 32 = .ok (.putfield 25, 3) := by decide +kernel
theorem dX3_init_35 : decode cX3_init 35 = .ok (.aload_n 0, 1) := by decide +kernel
theorem dX3_init_36 : decode cX3_init 36 = .ok (.iconst 0, 1) := by decide +kernel
theorem dX3_init_37 : decode cX3_init 37 = .ok (.putfield 28, 3) := by decide +kernel
theorem dX3_init_40 : decode cX3_init 40 = .ok (.return_, 1) := by decide +kernel
theorem dX3_clear_0 : decode cX3_clear 0 = .ok (.aload_n 0, 1) := by decide +kernel
theorem dX3_clear_1 : decode cX3_clear 1 = .ok (.iconst 0, 1) := by decide +kernel
theorem dX3_clear_2 : decode cX3_clear 2 = .ok (.putfield 18, 3) := by decide +kernel
theorem dX3_clear_5 : decode cX3_clear 5 = .ok (.aload_n 0, 1) := by decide +kernel
theorem dX3_clear_6 : decode cX3_clear 6 = .ok (.iconst 0, 1) := by decide +kernel
theorem dX3_clear_7 : decode cX3_clear 7 = .ok (.putfield 22, 3) := by decide +kernel
theorem dX3_clear_10 : decode cX3_clear 10 = .ok (.return_, 1) := by decide +kernel
theorem dX3_add_0 : decode cX3_add 0 = .ok (.aload_n 0, 1) := by decide +kernel
theorem dX3_add_1 : decode cX3_add 1 = .ok (.getfield 18, 3) := by decide +kernel
theorem dX3_add_4 : decode cX3_add 4 = .ok (.aload_n 0, 1) := by decide +kernel
theorem dX3_add_5 : decode cX3_add 5 = .ok (.getfield 9, 3) := by decide +kernel
theorem dX3_add_8 : decode cX3_add 8 = .ok (.arraylength, 1) := by decide +kernel
theorem dX3_add_9 : decode cX3_add 9 = .ok (.if_icmp .ge 45, 3) := by decide +kernel
theorem dX3_add_12 : decode cX3_add 12 = .ok (.iload_n 1, 1) := by decide +kernel
theorem dX3_add_13 : decode cX3_add 13 = .ok (.ifCond .lt 41, 3) := by decide +kernel
theorem dX3_add_16 : decode cX3_add 16 = .ok (.iload_n 1, 1) := by decide +kernel
theorem dX3_add_17 : decode cX3_add 17 = .ok (.bipush 9, 2) := by decide +kernel
theorem dX3_add_19 : decode cX3_add 19 = .ok (.if_icmp .ge 35, 3) := by decide +kernel
theorem dX3_add_22 : decode cX3_add 22 = .ok (.aload_n 0, 1) := by decide +kernel
theorem dX3_add_23 : decode cX3_add 23 = .ok (.getfield 9, 3) := by decide +kernel
theorem dX3_add_26 : decode cX3_add 26 = .ok (.aload_n 0, 1) := by decide +kernel
theorem dX3_add_27 : decode cX3_add 27 = .ok (.getfield 18, 3) := by decide +kernel
theorem dX3_add_30 : decode cX3_add 30 = .ok (.iload_n 1, 1) := by decide +kernel
theorem dX3_add_31 : decode cX3_add 31 = .ok (.iastore, 1) := by decide +kernel
theorem dX3_add_32 : decode cX3_add 32 = .ok (.aload_n 0, 1) := by decide +kernel
theorem dX3_add_33 : decode cX3_add 33 = .ok (.dup, 1) := by decide +kernel
theorem dX3_add_34 : decode cX3_add 34 = .ok (.getfield 18, 3) := by decide +kernel
theorem dX3_add_37 : decode cX3_add 37 = .ok (.iconst 1, 1) := by decide +kernel
theorem dX3_add_38 : decode cX3_add 38 = .ok (.iadd, 1) := by decide +kernel
theorem dX3_add_39 : decode cX3_add 39 = .ok (.putfield 18, 3) := by decide +kernel
theorem dX3_add_42 : decode cX3_add 42 = .ok (.aload_n 0, 1) := by decide +kernel
theorem dX3_add_43 : decode cX3_add 43 = .ok (.dup, 1) := by decide +kernel
theorem dX3_add_44 : decode cX3_add 44 = .ok (.getfield 22, 3) := by decide +kernel
theorem dX3_add_47 : decode cX3_add 47 = .ok (.iconst 1, 1) := by decide +kernel
theorem dX3_add_48 : decode cX3_add 48 = .ok (.iload_n 1, 1) := by decide +kernel
theorem dX3_add_49 : decode cX3_add 49 = .ok (.ishl, 1) := by decide +kernel
theorem dX3_add_50 : decode cX3_add 50 = .ok (.ior, 1) := by decide +kernel
theorem dX3_add_51 : decode cX3_add 51 = .ok (.putfield 22, 3) := by decide +kernel
theorem dX3_add_54 : decode cX3_add 54 = .ok (.return_, 1) := by decide +kernel
theorem dX3_holds_0 : decode cX3_holds 0 = .ok (.iload_n 1, 1) := by decide +kernel
theorem dX3_holds_1 : decode cX3_holds 1 = .ok (.ifCond .lt 24, 3) := by decide +kernel
theorem dX3_holds_4 : decode cX3_holds 4 = .ok (.iload_n 1, 1) := by decide +kernel
theorem dX3_holds_5 : decode cX3_holds 5 = .ok (.bipush 9, 2) := by decide +kernel
theorem dX3_holds_7 : decode cX3_holds 7 = .ok (.if_icmp .ge 18, 3) := by decide +kernel
theorem dX3_holds_10 : decode cX3_holds 10 = .ok (.aload_n 0, 1) := by decide +kernel
theorem dX3_holds_11 : decode cX3_holds 11 = .ok (.getfield 22, 3) := by decide +kernel
theorem dX3_holds_14 : decode cX3_holds 14 = .ok (.iload_n 1, 1) := by decide +kernel
theorem dX3_holds_15 : decode cX3_holds 15 = .ok (.ishr, 1) := by decide +kernel
theorem dX3_holds_16 : decode cX3_holds 16 = .ok (.iconst 1, 1) := by decide +kernel
theorem dX3_holds_17 : decode cX3_holds 17 = .ok (.iand, 1) := by decide +kernel
theorem dX3_holds_18 : decode cX3_holds 18 = .ok (.ifCond .eq 7, 3) := by decide +kernel
theorem dX3_holds_21 : decode cX3_holds 21 = .ok (.iconst 1, 1) := by decide +kernel
theorem dX3_holds_22 : decode cX3_holds 22 = .ok (.goto 4, 3) := by decide +kernel
theorem dX3_holds_25 : decode cX3_holds 25 = .ok (.iconst 0, 1) := by decide +kernel
theorem dX3_holds_26 : decode cX3_holds 26 = .ok (.ireturn, 1) := by decide +kernel
theorem dX3_deskAt_0 : decode cX3_deskAt 0 = .ok (.iload_n 1, 1) := by decide +kernel
theorem dX3_deskAt_1 : decode cX3_deskAt 1 = .ok (.ifCond .lt 21, 3) := by decide +kernel
theorem dX3_deskAt_4 : decode cX3_deskAt 4 = .ok (.iload_n 1, 1) := by decide +kernel
theorem dX3_deskAt_5 : decode cX3_deskAt 5 = .ok (.aload_n 0, 1) := by decide +kernel
theorem dX3_deskAt_6 : decode cX3_deskAt 6 = .ok (.getfield 9, 3) := by decide +kernel
theorem dX3_deskAt_9 : decode cX3_deskAt 9 = .ok (.arraylength, 1) := by decide +kernel
theorem dX3_deskAt_10 : decode cX3_deskAt 10 = .ok (.if_icmp .ge 12, 3) := by decide +kernel
theorem dX3_deskAt_13 : decode cX3_deskAt 13 = .ok (.aload_n 0, 1) := by decide +kernel
theorem dX3_deskAt_14 : decode cX3_deskAt 14 = .ok (.getfield 9, 3) := by decide +kernel
theorem dX3_deskAt_17 : decode cX3_deskAt 17 = .ok (.iload_n 1, 1) := by decide +kernel
theorem dX3_deskAt_18 : decode cX3_deskAt 18 = .ok (.iaload, 1) := by decide +kernel
theorem dX3_deskAt_19 : decode cX3_deskAt 19 = .ok (.goto 4, 3) := by decide +kernel
theorem dX3_deskAt_22 : decode cX3_deskAt 22 = .ok (.iconst 0, 1) := by decide +kernel
theorem dX3_deskAt_23 : decode cX3_deskAt 23 = .ok (.ireturn, 1) := by decide +kernel
theorem dX3_bestAt_0 : decode cX3_bestAt 0 = .ok (.iload_n 1, 1) := by decide +kernel
theorem dX3_bestAt_1 : decode cX3_bestAt 1 = .ok (.ifCond .lt 21, 3) := by decide +kernel
theorem dX3_bestAt_4 : decode cX3_bestAt 4 = .ok (.iload_n 1, 1) := by decide +kernel
theorem dX3_bestAt_5 : decode cX3_bestAt 5 = .ok (.aload_n 0, 1) := by decide +kernel
theorem dX3_bestAt_6 : decode cX3_bestAt 6 = .ok (.getfield 15, 3) := by decide +kernel
theorem dX3_bestAt_9 : decode cX3_bestAt 9 = .ok (.arraylength, 1) := by decide +kernel
theorem dX3_bestAt_10 : decode cX3_bestAt 10 = .ok (.if_icmp .ge 12, 3) := by decide +kernel
theorem dX3_bestAt_13 : decode cX3_bestAt 13 = .ok (.aload_n 0, 1) := by decide +kernel
theorem dX3_bestAt_14 : decode cX3_bestAt 14 = .ok (.getfield 15, 3) := by decide +kernel
theorem dX3_bestAt_17 : decode cX3_bestAt 17 = .ok (.iload_n 1, 1) := by decide +kernel
theorem dX3_bestAt_18 : decode cX3_bestAt 18 = .ok (.iaload, 1) := by decide +kernel
theorem dX3_bestAt_19 : decode cX3_bestAt 19 = .ok (.goto 4, 3) := by decide +kernel
theorem dX3_bestAt_22 : decode cX3_bestAt 22 = .ok (.iconst 0, 1) := by decide +kernel
theorem dX3_bestAt_23 : decode cX3_bestAt 23 = .ok (.ireturn, 1) := by decide +kernel
theorem dX3_judgeFirst_0 : decode cX3_judgeFirst 0 = .ok (.aload_n 0, 1) := by decide +kernel
theorem dX3_judgeFirst_1 : decode cX3_judgeFirst 1 = .ok (.iload_n 1, 1) := by decide +kernel
theorem dX3_judgeFirst_2 : decode cX3_judgeFirst 2 = .ok (.putfield 28, 3) := by decide +kernel
theorem dX3_judgeFirst_5 : decode cX3_judgeFirst 5 = .ok (.aload_n 0, 1) := by decide +kernel
theorem dX3_judgeFirst_6 : decode cX3_judgeFirst 6 = .ok (.iload_n 1, 1) := by decide +kernel
theorem dX3_judgeFirst_7 : decode cX3_judgeFirst 7 = .ok (.putfield 25, 3) := by decide +kernel
theorem dX3_judgeFirst_10 : decode cX3_judgeFirst 10 = .ok (.aload_n 0, 1) := by decide +kernel
theorem dX3_judgeFirst_11 : decode cX3_judgeFirst 11 = .ok (.invokevirtual 31, 3) := by decide +kernel
theorem dX3_judgeFirst_14 : decode cX3_judgeFirst 14 = .ok (.return_, 1) := by decide +kernel
theorem dX3_judge_0 : decode cX3_judge 0 = .ok (.aload_n 0, 1) := by decide +kernel
theorem dX3_judge_1 : decode cX3_judge 1 = .ok (.aload_n 0, 1) := by decide +kernel
theorem dX3_judge_2 : decode cX3_judge 2 = .ok (.getfield 28, 3) := by decide +kernel
theorem dX3_judge_5 : decode cX3_judge 5 = .ok (.iload_n 1, 1) := by decide +kernel
theorem dX3_judge_6 : decode cX3_judge 6 = .ok (.invokestatic 34, 3) := by decide +kernel
theorem dX3_judge_9 : decode cX3_judge 9 = .ok (.putfield 28, 3) := by decide +kernel
theorem dX3_judge_12 : decode cX3_judge 12 = .ok (.iload_n 1, 1) := by decide +kernel
theorem dX3_judge_13 : decode cX3_judge 13 = .ok (.aload_n 0, 1) := by decide +kernel
theorem dX3_judge_14 : decode cX3_judge 14 = .ok (.getfield 25, 3) := by decide +kernel
theorem dX3_judge_17 : decode cX3_judge 17 = .ok (.if_icmp .le 12, 3) := by decide +kernel
theorem dX3_judge_20 : decode cX3_judge 20 = .ok (.aload_n 0, 1) := by decide +kernel
theorem dX3_judge_21 : decode cX3_judge 21 = .ok (.iload_n 1, 1) := by decide +kernel
theorem dX3_judge_22 : decode cX3_judge 22 = .ok (.putfield 25, 3) := by decide +kernel
theorem dX3_judge_25 : decode cX3_judge 25 = .ok (.aload_n 0, 1) := by decide +kernel
theorem dX3_judge_26 : decode cX3_judge 26 = .ok (.invokevirtual 31, 3) := by decide +kernel
theorem dX3_judge_29 : decode cX3_judge 29 = .ok (.return_, 1) := by decide +kernel
theorem dX3_markBest_0 : decode cX3_markBest 0 = .ok (.iconst 0, 1) := by decide +kernel
theorem dX3_markBest_1 : decode cX3_markBest 1 = .ok (.istore_n 1, 1) := by decide +kernel
theorem dX3_markBest_2 : decode cX3_markBest 2 = .ok (.iload_n 1, 1) := by decide +kernel
theorem dX3_markBest_3 : decode cX3_markBest 3 = .ok (.aload_n 0, 1) := by decide +kernel
theorem dX3_markBest_4 : decode cX3_markBest 4 = .ok (.getfield 9, 3) := by decide +kernel
theorem dX3_markBest_7 : decode cX3_markBest 7 = .ok (.arraylength, 1) := by decide +kernel
theorem dX3_markBest_8 : decode cX3_markBest 8 = .ok (.if_icmp .ge 30, 3) := by decide +kernel
theorem dX3_markBest_11 : decode cX3_markBest 11 = .ok (.iload_n 1, 1) := by decide +kernel
theorem dX3_markBest_12 : decode cX3_markBest 12 = .ok (.aload_n 0, 1) := by decide +kernel
theorem dX3_markBest_13 : decode cX3_markBest 13 = .ok (.getfield 15, 3) := by decide +kernel
theorem dX3_markBest_16 : decode cX3_markBest 16 = .ok (.arraylength, 1) := by decide +kernel
theorem dX3_markBest_17 : decode cX3_markBest 17 = .ok (.if_icmp .ge 21, 3) := by decide +kernel
theorem dX3_markBest_20 : decode cX3_markBest 20 = .ok (.aload_n 0, 1) := by decide +kernel
theorem dX3_markBest_21 : decode cX3_markBest 21 = .ok (.getfield 15, 3) := by decide +kernel
theorem dX3_markBest_24 : decode cX3_markBest 24 = .ok (.iload_n 1, 1) := by decide +kernel
theorem dX3_markBest_25 : decode cX3_markBest 25 = .ok (.aload_n 0, 1) := by decide +kernel
theorem dX3_markBest_26 : decode cX3_markBest 26 = .ok (.getfield 9, 3) := by decide +kernel
theorem dX3_markBest_29 : decode cX3_markBest 29 = .ok (.iload_n 1, 1) := by decide +kernel
theorem dX3_markBest_30 : decode cX3_markBest 30 = .ok (.iaload, 1) := by decide +kernel
theorem dX3_markBest_31 : decode cX3_markBest 31 = .ok (.iastore, 1) := by decide +kernel
theorem dX3_markBest_32 : decode cX3_markBest 32 = .ok (.iinc 1 1, 3) := by decide +kernel
theorem dX3_markBest_35 : decode cX3_markBest 35 = .ok (.goto (-33), 3) := by decide +kernel
theorem dX3_markBest_38 : decode cX3_markBest 38 = .ok (.return_, 1) := by decide +kernel
theorem dX3_turn_0 : decode cX3_turn 0 = .ok (.aload_n 0, 1) := by decide +kernel
theorem dX3_turn_1 : decode cX3_turn 1 = .ok (.getfield 18, 3) := by decide +kernel
theorem dX3_turn_4 : decode cX3_turn 4 = .ok (.iconst 2, 1) := by decide +kernel
theorem dX3_turn_5 : decode cX3_turn 5 = .ok (.isub, 1) := by decide +kernel
theorem dX3_turn_6 : decode cX3_turn 6 = .ok (.istore_n 1, 1) := by decide +kernel
theorem dX3_turn_7 : decode cX3_turn 7 = .ok (.iload_n 1, 1) := by decide +kernel
theorem dX3_turn_8 : decode cX3_turn 8 = .ok (.ifCond .lt 24, 3) := by decide +kernel
theorem dX3_turn_11 : decode cX3_turn 11 = .ok (.aload_n 0, 1) := by decide +kernel
theorem dX3_turn_12 : decode cX3_turn 12 = .ok (.iload_n 1, 1) := by decide +kernel
theorem dX3_turn_13 : decode cX3_turn 13 = .ok (.invokevirtual 40, 3) := by decide +kernel
theorem dX3_turn_16 : decode cX3_turn 16 = .ok (.aload_n 0, 1) := by decide +kernel
theorem dX3_turn_17 : decode cX3_turn 17 = .ok (.iload_n 1, 1) := by decide +kernel
theorem dX3_turn_18 : decode cX3_turn 18 = .ok (.iconst 1, 1) := by decide +kernel
theorem dX3_turn_19 : decode cX3_turn 19 = .ok (.iadd, 1) := by decide +kernel
theorem dX3_turn_20 : decode cX3_turn 20 = .ok (.invokevirtual 40, 3) := by decide +kernel
theorem dX3_turn_23 : decode cX3_turn 23 = .ok (.if_icmp .le 9, 3) := by decide +kernel
theorem dX3_turn_26 : decode cX3_turn 26 = .ok (.iinc 1 (-1), 3) := by decide +kernel
theorem dX3_turn_29 : decode cX3_turn 29 = .ok (.goto (-22), 3) := by decide +kernel
theorem dX3_turn_32 : decode cX3_turn 32 = .ok (.iload_n 1, 1) := by decide +kernel
theorem dX3_turn_33 : decode cX3_turn 33 = .ok (.ifCond .ge 5, 3) := by decide +kernel
theorem dX3_turn_36 : decode cX3_turn 36 = .ok (.iconst 0, 1) := by decide +kernel
theorem dX3_turn_37 : decode cX3_turn 37 = .ok (.ireturn, 1) := by decide +kernel
theorem dX3_turn_38 : decode cX3_turn 38 = .ok (.aload_n 0, 1) := by decide +kernel
theorem dX3_turn_39 : decode cX3_turn 39 = .ok (.getfield 18, 3) := by decide +kernel
theorem dX3_turn_42 : decode cX3_turn 42 = .ok (.iconst 1, 1) := by decide +kernel
theorem dX3_turn_43 : decode cX3_turn 43 = .ok (.isub, 1) := by decide +kernel
theorem dX3_turn_44 : decode cX3_turn 44 = .ok (.istore_n 2, 1) := by decide +kernel
theorem dX3_turn_45 : decode cX3_turn 45 = .ok (.iload_n 2, 1) := by decide +kernel
theorem dX3_turn_46 : decode cX3_turn 46 = .ok (.iload_n 1, 1) := by decide +kernel
theorem dX3_turn_47 : decode cX3_turn 47 = .ok (.if_icmp .le 22, 3) := by decide +kernel
theorem dX3_turn_50 : decode cX3_turn 50 = .ok (.aload_n 0, 1) := by decide +kernel
theorem dX3_turn_51 : decode cX3_turn 51 = .ok (.iload_n 2, 1) := by decide +kernel
theorem dX3_turn_52 : decode cX3_turn 52 = .ok (.invokevirtual 40, 3) := by decide +kernel
theorem dX3_turn_55 : decode cX3_turn 55 = .ok (.aload_n 0, 1) := by decide +kernel
theorem dX3_turn_56 : decode cX3_turn 56 = .ok (.iload_n 1, 1) := by decide +kernel
theorem dX3_turn_57 : decode cX3_turn 57 = .ok (.invokevirtual 40, 3) := by decide +kernel
theorem dX3_turn_60 : decode cX3_turn 60 = .ok (.if_icmp .ge 9, 3) := by decide +kernel
theorem dX3_turn_63 : decode cX3_turn 63 = .ok (.iinc 2 (-1), 3) := by decide +kernel
theorem dX3_turn_66 : decode cX3_turn 66 = .ok (.goto (-21), 3) := by decide +kernel
theorem dX3_turn_69 : decode cX3_turn 69 = .ok (.aload_n 0, 1) := by decide +kernel
theorem dX3_turn_70 : decode cX3_turn 70 = .ok (.iload_n 1, 1) := by decide +kernel
theorem dX3_turn_71 : decode cX3_turn 71 = .ok (.iload_n 2, 1) := by decide +kernel
theorem dX3_turn_72 : decode cX3_turn 72 = .ok (.invokevirtual 44, 3) := by decide +kernel
theorem dX3_turn_75 : decode cX3_turn 75 = .ok (.iload_n 1, 1) := by decide +kernel
theorem dX3_turn_76 : decode cX3_turn 76 = .ok (.iconst 1, 1) := by decide +kernel
theorem dX3_turn_77 : decode cX3_turn 77 = .ok (.iadd, 1) := by decide +kernel
theorem dX3_turn_78 : decode cX3_turn 78 = .ok (.istore_n 3, 1) := by decide +kernel
theorem dX3_turn_79 : decode cX3_turn 79 = .ok (.aload_n 0, 1) := by decide +kernel
theorem dX3_turn_80 : decode cX3_turn 80 = .ok (.getfield 18, 3) := by decide +kernel
theorem dX3_turn_83 : decode cX3_turn 83 = .ok (.iconst 1, 1) := by decide +kernel
theorem dX3_turn_84 : decode cX3_turn 84 = .ok (.isub, 1) := by decide +kernel
theorem dX3_turn_85 : decode cX3_turn 85 = .ok (.istore 4, 2) := by decide +kernel
theorem dX3_turn_87 : decode cX3_turn 87 = .ok (.iload_n 3, 1) := by decide +kernel
theorem dX3_turn_88 : decode cX3_turn 88 = .ok (.iload 4, 2) := by decide +kernel
theorem dX3_turn_90 : decode cX3_turn 90 = .ok (.if_icmp .ge 19, 3) := by decide +kernel
theorem dX3_turn_93 : decode cX3_turn 93 = .ok (.aload_n 0, 1) := by decide +kernel
theorem dX3_turn_94 : decode cX3_turn 94 = .ok (.iload_n 3, 1) := by decide +kernel
theorem dX3_turn_95 : decode cX3_turn 95 = .ok (.iload 4, 2) := by decide +kernel
theorem dX3_turn_97 : decode cX3_turn 97 = .ok (.invokevirtual 44, 3) := by decide +kernel
theorem dX3_turn_100 : decode cX3_turn 100 = .ok (.iinc 3 1, 3) := by decide +kernel
theorem dX3_turn_103 : decode cX3_turn 103 = .ok (.iinc 4 (-1), 3) := by decide +kernel
theorem dX3_turn_106 : decode cX3_turn 106 = .ok (.goto (-19), 3) := by decide +kernel
theorem dX3_turn_109 : decode cX3_turn 109 = .ok (.iconst 1, 1) := by decide +kernel
theorem dX3_turn_110 : decode cX3_turn 110 = .ok (.ireturn, 1) := by decide +kernel
theorem dX3_swap_0 : decode cX3_swap 0 = .ok (.iload_n 1, 1) := by decide +kernel
theorem dX3_swap_1 : decode cX3_swap 1 = .ok (.ifCond .lt 51, 3) := by decide +kernel
theorem dX3_swap_4 : decode cX3_swap 4 = .ok (.iload_n 1, 1) := by decide +kernel
theorem dX3_swap_5 : decode cX3_swap 5 = .ok (.aload_n 0, 1) := by decide +kernel
theorem dX3_swap_6 : decode cX3_swap 6 = .ok (.getfield 9, 3) := by decide +kernel
theorem dX3_swap_9 : decode cX3_swap 9 = .ok (.arraylength, 1) := by decide +kernel
theorem dX3_swap_10 : decode cX3_swap 10 = .ok (.if_icmp .ge 42, 3) := by decide +kernel
theorem dX3_swap_13 : decode cX3_swap 13 = .ok (.iload_n 2, 1) := by decide +kernel
theorem dX3_swap_14 : decode cX3_swap 14 = .ok (.ifCond .lt 38, 3) := by decide +kernel
theorem dX3_swap_17 : decode cX3_swap 17 = .ok (.iload_n 2, 1) := by decide +kernel
theorem dX3_swap_18 : decode cX3_swap 18 = .ok (.aload_n 0, 1) := by decide +kernel
theorem dX3_swap_19 : decode cX3_swap 19 = .ok (.getfield 9, 3) := by decide +kernel
theorem dX3_swap_22 : decode cX3_swap 22 = .ok (.arraylength, 1) := by decide +kernel
theorem dX3_swap_23 : decode cX3_swap 23 = .ok (.if_icmp .ge 29, 3) := by decide +kernel
theorem dX3_swap_26 : decode cX3_swap 26 = .ok (.aload_n 0, 1) := by decide +kernel
theorem dX3_swap_27 : decode cX3_swap 27 = .ok (.getfield 9, 3) := by decide +kernel
theorem dX3_swap_30 : decode cX3_swap 30 = .ok (.iload_n 1, 1) := by decide +kernel
theorem dX3_swap_31 : decode cX3_swap 31 = .ok (.iaload, 1) := by decide +kernel
theorem dX3_swap_32 : decode cX3_swap 32 = .ok (.istore_n 3, 1) := by decide +kernel
theorem dX3_swap_33 : decode cX3_swap 33 = .ok (.aload_n 0, 1) := by decide +kernel
theorem dX3_swap_34 : decode cX3_swap 34 = .ok (.getfield 9, 3) := by decide +kernel
theorem dX3_swap_37 : decode cX3_swap 37 = .ok (.iload_n 1, 1) := by decide +kernel
theorem dX3_swap_38 : decode cX3_swap 38 = .ok (.aload_n 0, 1) := by decide +kernel
theorem dX3_swap_39 : decode cX3_swap 39 = .ok (.getfield 9, 3) := by decide +kernel
theorem dX3_swap_42 : decode cX3_swap 42 = .ok (.iload_n 2, 1) := by decide +kernel
theorem dX3_swap_43 : decode cX3_swap 43 = .ok (.iaload, 1) := by decide +kernel
theorem dX3_swap_44 : decode cX3_swap 44 = .ok (.iastore, 1) := by decide +kernel
theorem dX3_swap_45 : decode cX3_swap 45 = .ok (.aload_n 0, 1) := by decide +kernel
theorem dX3_swap_46 : decode cX3_swap 46 = .ok (.getfield 9, 3) := by decide +kernel
theorem dX3_swap_49 : decode cX3_swap 49 = .ok (.iload_n 2, 1) := by decide +kernel
theorem dX3_swap_50 : decode cX3_swap 50 = .ok (.iload_n 3, 1) := by decide +kernel
theorem dX3_swap_51 : decode cX3_swap 51 = .ok (.iastore, 1) := by decide +kernel
theorem dX3_swap_52 : decode cX3_swap 52 = .ok (.return_, 1) := by decide +kernel
theorem dX4_init_0 : decode cX4_init 0 = .ok (.aload_n 0, 1) := by decide +kernel
theorem dX4_init_1 : decode cX4_init 1 = .ok (.invokespecial 5, 3) := by decide +kernel
theorem dX4_init_4 : decode cX4_init 4 = .ok (.aload_n 0, 1) := by decide +kernel
theorem dX4_init_5 : decode cX4_init 5 = .ok (.sipush 256, 3) := by decide +kernel
theorem dX4_init_8 : decode cX4_init 8 = .ok (.newarray .int, 2) := by decide +kernel
theorem dX4_init_10 : decode cX4_init 10 = .ok (.putfield 11, 3) := by decide +kernel
theorem dX4_init_13 : decode cX4_init 13 = .ok (.return_, 1) := by decide +kernel
theorem dX4_linesOf_0 : decode cX4_linesOf 0 = .ok (.iload_n 1, 1) := by decide +kernel
theorem dX4_linesOf_1 : decode cX4_linesOf 1 = .ok (.bipush 64, 2) := by decide +kernel
theorem dX4_linesOf_3 : decode cX4_linesOf 3 = .ok (.idiv, 1) := by decide +kernel
theorem dX4_linesOf_4 : decode cX4_linesOf 4 = .ok (.ireturn, 1) := by decide +kernel
theorem dX4_withName_0 : decode cX4_withName 0 = .ok (.iload_n 1, 1) := by decide +kernel
theorem dX4_withName_1 : decode cX4_withName 1 = .ok (.ldc 15, 2) := by decide +kernel
theorem dX4_withName_3 : decode cX4_withName 3 = .ok (.if_icmp .ge 8, 3) := by decide +kernel
theorem dX4_withName_6 : decode cX4_withName 6 = .ok (.iload_n 2, 1) := by decide +kernel
theorem dX4_withName_7 : decode cX4_withName 7 = .ok (.iload_n 3, 1) := by decide +kernel
theorem dX4_withName_8 : decode cX4_withName 8 = .ok (.if_icmp .le 6, 3) := by decide +kernel
theorem dX4_withName_11 : decode cX4_withName 11 = .ok (.ldc 15, 2) := by decide +kernel
theorem dX4_withName_13 : decode cX4_withName 13 = .ok (.ireturn, 1) := by decide +kernel
theorem dX4_withName_14 : decode cX4_withName 14 = .ok (.iload_n 1, 1) := by decide +kernel
theorem dX4_withName_15 : decode cX4_withName 15 = .ok (.bipush 64, 2) := by decide +kernel
theorem dX4_withName_17 : decode cX4_withName 17 = .ok (.irem, 1) := by decide +kernel
theorem dX4_withName_18 : decode cX4_withName 18 = .ok (.istore 4, 2) := by decide +kernel
theorem dX4_withName_20 : decode cX4_withName 20 = .ok (.iload_n 1, 1) := by decide +kernel
theorem dX4_withName_21 : decode cX4_withName 21 = .ok (.ifCond .le 19, 3) := by decide +kernel
theorem dX4_withName_24 : decode cX4_withName 24 = .ok (.iload 4, 2) := by decide +kernel
theorem dX4_withName_26 : decode cX4_withName 26 = .ok (.iconst 1, 1) := by decide +kernel
theorem dX4_withName_27 : decode cX4_withName 27 = .ok (.iadd, 1) := by decide +kernel
theorem dX4_withName_28 : decode cX4_withName 28 = .ok (.iload_n 2, 1) := by decide +kernel
theorem dX4_withName_29 : decode cX4_withName 29 = .ok (.iadd, 1) := by decide +kernel
theorem dX4_withName_30 : decode cX4_withName 30 = .ok (.iload_n 3, 1) := by decide +kernel
theorem dX4_withName_31 : decode cX4_withName 31 = .ok (.if_icmp .gt 9, 3) := by decide +kernel
theorem dX4_withName_34 : decode cX4_withName 34 = .ok (.iload_n 1, 1) := by decide +kernel
theorem dX4_withName_35 : decode cX4_withName 35 = .ok (.iconst 1, 1) := by decide +kernel
theorem dX4_withName_36 : decode cX4_withName 36 = .ok (.iadd, 1) := by decide +kernel
theorem dX4_withName_37 : decode cX4_withName 37 = .ok (.iload_n 2, 1) := by decide +kernel
theorem dX4_withName_38 : decode cX4_withName 38 = .ok (.iadd, 1) := by decide +kernel
theorem dX4_withName_39 : decode cX4_withName 39 = .ok (.ireturn, 1) := by decide +kernel
theorem dX4_withName_40 : decode cX4_withName 40 = .ok (.aload_n 0, 1) := by decide +kernel
theorem dX4_withName_41 : decode cX4_withName 41 = .ok (.iload_n 1, 1) := by decide +kernel
theorem dX4_withName_42 : decode cX4_withName 42 = .ok (.invokevirtual 16, 3) := by decide +kernel
theorem dX4_withName_45 : decode cX4_withName 45 = .ok (.iconst 1, 1) := by decide +kernel
theorem dX4_withName_46 : decode cX4_withName 46 = .ok (.iadd, 1) := by decide +kernel
theorem dX4_withName_47 : decode cX4_withName 47 = .ok (.bipush 64, 2) := by decide +kernel
theorem dX4_withName_49 : decode cX4_withName 49 = .ok (.imul, 1) := by decide +kernel
theorem dX4_withName_50 : decode cX4_withName 50 = .ok (.iload_n 2, 1) := by decide +kernel
theorem dX4_withName_51 : decode cX4_withName 51 = .ok (.iadd, 1) := by decide +kernel
theorem dX4_withName_52 : decode cX4_withName 52 = .ok (.ireturn, 1) := by decide +kernel
theorem dX4_leastOf_0 : decode cX4_leastOf 0 = .ok (.iload_n 1, 1) := by decide +kernel
theorem dX4_leastOf_1 : decode cX4_leastOf 1 = .ok (.ifCond .lt 21, 3) := by decide +kernel
theorem dX4_leastOf_4 : decode cX4_leastOf 4 = .ok (.iload_n 1, 1) := by decide +kernel
theorem dX4_leastOf_5 : decode cX4_leastOf 5 = .ok (.aload_n 0, 1) := by decide +kernel
theorem dX4_leastOf_6 : decode cX4_leastOf 6 = .ok (.getfield 11, 3) := by decide +kernel
theorem dX4_leastOf_9 : decode cX4_leastOf 9 = .ok (.arraylength, 1) := by decide +kernel
theorem dX4_leastOf_10 : decode cX4_leastOf 10 = .ok (.if_icmp .ge 12, 3) := by decide +kernel
theorem dX4_leastOf_13 : decode cX4_leastOf 13 = .ok (.aload_n 0, 1) := by decide +kernel
theorem dX4_leastOf_14 : decode cX4_leastOf 14 = .ok (.getfield 11, 3) := by decide +kernel
theorem dX4_leastOf_17 : decode cX4_leastOf 17 = .ok (.iload_n 1, 1) := by decide +kernel
theorem dX4_leastOf_18 : decode cX4_leastOf 18 = .ok (.iaload, 1) := by decide +kernel
theorem dX4_leastOf_19 : decode cX4_leastOf 19 = .ok (.goto 5, 3) := by decide +kernel
theorem dX4_leastOf_22 : decode cX4_leastOf 22 = .ok (.ldc 15, 2) := by decide +kernel
theorem dX4_leastOf_24 : decode cX4_leastOf 24 = .ok (.ireturn, 1) := by decide +kernel
theorem dX4_fullestSet_0 : decode cX4_fullestSet 0 = .ok (.iconst 1, 1) := by decide +kernel
theorem dX4_fullestSet_1 : decode cX4_fullestSet 1 = .ok (.aload_n 1, 1) := by decide +kernel
theorem dX4_fullestSet_2 : decode cX4_fullestSet 2 = .ok (.iload_n 2, 1) := by decide +kernel
theorem dX4_fullestSet_3 : decode cX4_fullestSet 3 = .ok (.invokevirtual 20, 3) := by decide +kernel
theorem dX4_fullestSet_6 : decode cX4_fullestSet 6 = .ok (.bipush 8, 2) := by decide +kernel
theorem dX4_fullestSet_8 : decode cX4_fullestSet 8 = .ok (.invokestatic 25, 3) := by decide +kernel
theorem dX4_fullestSet_11 : decode cX4_fullestSet 11 = .ok (.ishl, 1) := by decide +kernel
theorem dX4_fullestSet_12 : decode cX4_fullestSet 12 = .ok (.istore 5, 2) := by decide +kernel
theorem dX4_fullestSet_14 : decode cX4_fullestSet 14 = .ok (.iconst 0, 1) := by decide +kernel
theorem dX4_fullestSet_15 : decode cX4_fullestSet 15 = .ok (.istore 6, 2) := by decide +kernel
theorem dX4_fullestSet_17 : decode cX4_fullestSet 17 = .ok (.iconst 0, 1) := by decide +kernel
theorem dX4_fullestSet_18 : decode cX4_fullestSet 18 = .ok (.istore 7, 2) := by decide +kernel
theorem dX4_fullestSet_20 : decode cX4_fullestSet 20 = .ok (.iload 7, 2) := by decide +kernel
theorem dX4_fullestSet_22 : decode cX4_fullestSet 22 = .ok (.iload 5, 2) := by decide +kernel
theorem dX4_fullestSet_24 : decode cX4_fullestSet 24 = .ok (.if_icmp .ge 77, 3) := by decide +kernel
theorem dX4_fullestSet_27 : decode cX4_fullestSet 27 = .ok (.iload 7, 2) := by decide +kernel
theorem dX4_fullestSet_29 : decode cX4_fullestSet 29 = .ok (.aload_n 0, 1) := by decide +kernel
theorem dX4_fullestSet_30 : decode cX4_fullestSet 30 = .ok (.getfield 11, 3) := by decide +kernel
theorem dX4_fullestSet_33 : decode cX4_fullestSet 33 = .ok (.arraylength, 1) := by decide +kernel
theorem dX4_fullestSet_34 : decode cX4_fullestSet 34 = .ok (.if_icmp .ge 67, 3) := by decide +kernel
theorem dX4_fullestSet_37 : decode cX4_fullestSet 37 = .ok (.aload_n 0, 1) := by decide +kernel
theorem dX4_fullestSet_38 : decode cX4_fullestSet 38 = .ok (.getfield 11, 3) := by decide +kernel
theorem dX4_fullestSet_41 : decode cX4_fullestSet 41 = .ok (.iload 7, 2) := by decide +kernel
theorem dX4_fullestSet_43 : decode cX4_fullestSet 43 = .ok (.iload 7, 2) := by decide +kernel
theorem dX4_fullestSet_45 : decode cX4_fullestSet 45 = .ok (.ifCond .ne 7, 3) := by decide +kernel
theorem dX4_fullestSet_48 : decode cX4_fullestSet 48 = .ok (.iconst 0, 1) := by decide +kernel
theorem dX4_fullestSet_49 : decode cX4_fullestSet 49 = .ok (.goto 12, 3) := by decide +kernel
theorem dX4_fullestSet_52 : decode cX4_fullestSet 52 = .ok (.aload_n 0, 1) := by decide +kernel
theorem dX4_fullestSet_53 : decode cX4_fullestSet 53 = .ok (.aload_n 1, 1) := by decide +kernel
theorem dX4_fullestSet_54 : decode cX4_fullestSet 54 = .ok (.iload_n 2, 1) := by decide +kernel
theorem dX4_fullestSet_55 : decode cX4_fullestSet 55 = .ok (.iload 7, 2) := by decide +kernel
theorem dX4_fullestSet_57 : decode cX4_fullestSet 57 = .ok (.iload_n 3, 1) := by decide +kernel
theorem dX4_fullestSet_58 : decode cX4_fullestSet 58 = .ok (.invokevirtual 31, 3) := by decide +kernel
theorem dX4_fullestSet_61 : decode cX4_fullestSet 61 = .ok (.iastore, 1) := by decide +kernel
theorem dX4_fullestSet_62 : decode cX4_fullestSet 62 = .ok (.aload_n 0, 1) := by decide +kernel
theorem dX4_fullestSet_63 : decode cX4_fullestSet 63 = .ok (.aload_n 0, 1) := by decide +kernel
theorem dX4_fullestSet_64 : decode cX4_fullestSet 64 = .ok (.getfield 11, 3) := by decide +kernel
theorem dX4_fullestSet_67 : decode cX4_fullestSet 67 = .ok (.iload 7, 2) := by decide +kernel
theorem dX4_fullestSet_69 : decode cX4_fullestSet 69 = .ok (.iaload, 1) := by decide +kernel
theorem dX4_fullestSet_70 : decode cX4_fullestSet 70 = .ok (.invokevirtual 16, 3) := by decide +kernel
theorem dX4_fullestSet_73 : decode cX4_fullestSet 73 = .ok (.iload 4, 2) := by decide +kernel
theorem dX4_fullestSet_75 : decode cX4_fullestSet 75 = .ok (.if_icmp .gt 20, 3) := by decide +kernel
theorem dX4_fullestSet_78 : decode cX4_fullestSet 78 = .ok (.iload 7, 2) := by decide +kernel
theorem dX4_fullestSet_80 : decode cX4_fullestSet 80 = .ok (.invokestatic 35, 3) := by decide +kernel
theorem dX4_fullestSet_83 : decode cX4_fullestSet 83 = .ok (.iload 6, 2) := by decide +kernel
theorem dX4_fullestSet_85 : decode cX4_fullestSet 85 = .ok (.invokestatic 35, 3) := by decide +kernel
theorem dX4_fullestSet_88 : decode cX4_fullestSet 88 = .ok (.if_icmp .le 7, 3) := by decide +kernel
theorem dX4_fullestSet_91 : decode cX4_fullestSet 91 = .ok (.iload 7, 2) := by decide +kernel
theorem dX4_fullestSet_93 : decode cX4_fullestSet 93 = .ok (.istore 6, 2) := by decide +kernel
theorem dX4_fullestSet_95 : decode cX4_fullestSet 95 = .ok (.iinc 7 1, 3) := by decide +kernel
theorem dX4_fullestSet_98 : decode cX4_fullestSet 98 = .ok (.goto (-78), 3) := by decide +kernel
theorem dX4_fullestSet_101 : decode cX4_fullestSet 101 = .ok (.iload 6, 2) := by decide +kernel
theorem dX4_fullestSet_103 : decode cX4_fullestSet 103 = .ok (.ireturn, 1) := by decide +kernel
theorem dX4_layLeast_0 : decode cX4_layLeast 0 = .ok (.ldc 15, 2) := by decide +kernel
theorem dX4_layLeast_2 : decode cX4_layLeast 2 = .ok (.istore 5, 2) := by decide +kernel
theorem dX4_layLeast_4 : decode cX4_layLeast 4 = .ok (.iconst 0, 1) := by decide +kernel
theorem dX4_layLeast_5 : decode cX4_layLeast 5 = .ok (.istore 6, 2) := by decide +kernel
theorem dX4_layLeast_7 : decode cX4_layLeast 7 = .ok (.iload 6, 2) := by decide +kernel
theorem dX4_layLeast_9 : decode cX4_layLeast 9 = .ok (.bipush 8, 2) := by decide +kernel
theorem dX4_layLeast_11 : decode cX4_layLeast 11 = .ok (.if_icmp .ge 50, 3) := by decide +kernel
theorem dX4_layLeast_14 : decode cX4_layLeast 14 = .ok (.iload_n 3, 1) := by decide +kernel
theorem dX4_layLeast_15 : decode cX4_layLeast 15 = .ok (.iload 6, 2) := by decide +kernel
theorem dX4_layLeast_17 : decode cX4_layLeast 17 = .ok (.ishr, 1) := by decide +kernel
theorem dX4_layLeast_18 : decode cX4_layLeast 18 = .ok (.iconst 1, 1) := by decide +kernel
theorem dX4_layLeast_19 : decode cX4_layLeast 19 = .ok (.iand, 1) := by decide +kernel
theorem dX4_layLeast_20 : decode cX4_layLeast 20 = .ok (.ifCond .eq 35, 3) := by decide +kernel
theorem dX4_layLeast_23 : decode cX4_layLeast 23 = .ok (.iload 5, 2) := by decide +kernel
theorem dX4_layLeast_25 : decode cX4_layLeast 25 = .ok (.aload_n 0, 1) := by decide +kernel
theorem dX4_layLeast_26 : decode cX4_layLeast 26 = .ok (.aload_n 0, 1) := by decide +kernel
theorem dX4_layLeast_27 : decode cX4_layLeast 27 = .ok (.iload_n 3, 1) := by decide +kernel
theorem dX4_layLeast_28 : decode cX4_layLeast 28 = .ok (.iconst 1, 1) := by decide +kernel
theorem dX4_layLeast_29 : decode cX4_layLeast 29 = .ok (.iload 6, 2) := by decide +kernel
theorem dX4_layLeast_31 : decode cX4_layLeast 31 = .ok (.ishl, 1) := by decide +kernel
theorem dX4_layLeast_32 : decode cX4_layLeast 32 = .ok (.iconst (-1), 1) := by decide +kernel
theorem dX4_layLeast_33 : decode cX4_layLeast 33 = .ok (.ixor, 1) := by decide +kernel
theorem dX4_layLeast_34 : decode cX4_layLeast 34 = .ok (.iand, 1) := by decide +kernel
theorem dX4_layLeast_35 : decode cX4_layLeast 35 = .ok (.invokevirtual 40, 3) := by decide +kernel
theorem dX4_layLeast_38 : decode cX4_layLeast 38 = .ok (.aload_n 1, 1) := by decide +kernel
theorem dX4_layLeast_39 : decode cX4_layLeast 39 = .ok (.iload_n 2, 1) := by decide +kernel
theorem dX4_layLeast_40 : decode cX4_layLeast 40 = .ok (.iload 6, 2) := by decide +kernel
theorem dX4_layLeast_42 : decode cX4_layLeast 42 = .ok (.invokevirtual 43, 3) := by decide +kernel
theorem dX4_layLeast_45 : decode cX4_layLeast 45 = .ok (.iload 4, 2) := by decide +kernel
theorem dX4_layLeast_47 : decode cX4_layLeast 47 = .ok (.invokevirtual 46, 3) := by decide +kernel
theorem dX4_layLeast_50 : decode cX4_layLeast 50 = .ok (.invokestatic 25, 3) := by decide +kernel
theorem dX4_layLeast_53 : decode cX4_layLeast 53 = .ok (.istore 5, 2) := by decide +kernel
theorem dX4_layLeast_55 : decode cX4_layLeast 55 = .ok (.iinc 6 1, 3) := by decide +kernel
theorem dX4_layLeast_58 : decode cX4_layLeast 58 = .ok (.goto (-51), 3) := by decide +kernel
theorem dX4_layLeast_61 : decode cX4_layLeast 61 = .ok (.iload 5, 2) := by decide +kernel
theorem dX4_layLeast_63 : decode cX4_layLeast 63 = .ok (.ireturn, 1) := by decide +kernel
theorem dX5_init_0 : decode cX5_init 0 = .ok (.aload_n 0, 1) := by decide +kernel
theorem dX5_init_1 : decode cX5_init 1 = .ok (.invokespecial 3, 3) := by decide +kernel
theorem dX5_init_4 : decode cX5_init 4 = .ok (.aload_n 0, 1) := by decide +kernel
theorem dX5_init_5 : decode cX5_init 5 = .ok (.iconst 0, 1) := by decide +kernel
theorem dX5_init_6 : decode cX5_init 6 = .ok (.putfield 9, 3) := by decide +kernel
theorem dX5_init_9 : decode cX5_init 9 = .ok (.aload_n 0, 1) := by decide +kernel
theorem dX5_init_10 : decode cX5_init 10 = .ok (.iconst 0, 1) := by decide +kernel
theorem dX5_init_11 : decode cX5_init 11 = .ok (.putfield 15, 3) := by decide +kernel
theorem dX5_init_14 : decode cX5_init 14 = .ok (.aload_n 0, 1) := by decide +kernel
theorem dX5_init_15 : decode cX5_init 15 = .ok (.iconst 0, 1) := by decide +kernel
theorem dX5_init_16 : decode cX5_init 16 = .ok (.putfield 18, 3) := by decide +kernel
theorem dX5_init_19 : decode cX5_init 19 = .ok (.aload_n 0, 1) := by decide +kernel
theorem dX5_init_20 : decode cX5_init 20 = .ok (.iconst 0, 1) := by decide +kernel
theorem dX5_init_21 : decode cX5_init 21 = .ok (.putfield 21, 3) := by decide +kernel
theorem dX5_init_24 : decode cX5_init 24 = .ok (.aload_n 0, 1) := by decide +kernel
theorem dX5_init_25 : decode cX5_init 25 = .ok (.iconst 0, 1) := by decide +kernel
theorem dX5_init_26 : decode cX5_init 26 = .ok (.putfield 24, 3) := by decide +kernel
theorem dX5_init_29 : decode cX5_init 29 = .ok (.aload_n 0, 1) := by decide +kernel
theorem dX5_init_30 : decode cX5_init 30 = .ok (.iconst 0, 1) := by decide +kernel
theorem dX5_init_31 : decode cX5_init 31 = .ok (.putfield 27, 3) := by decide +kernel
theorem dX5_init_34 : decode cX5_init 34 = .ok (.return_, 1) := by decide +kernel
theorem dX5_copyTermsFrom_0 : decode cX5_copyTermsFrom 0 = .ok (.aload_n 0, 1) := by decide +kernel
theorem dX5_copyTermsFrom_1 : decode cX5_copyTermsFrom 1 = .ok (.aload_n 1, 1) := by decide +kernel
theorem dX5_copyTermsFrom_2 : decode cX5_copyTermsFrom 2 = .ok (.getfield 30, 3) := by decide +kernel
theorem dX5_copyTermsFrom_5 : decode cX5_copyTermsFrom 5 = .ok (.putfield 9, 3) := by decide +kernel
theorem dX5_copyTermsFrom_8 : decode cX5_copyTermsFrom 8 = .ok (.aload_n 0, 1) := by decide +kernel
theorem dX5_copyTermsFrom_9 : decode cX5_copyTermsFrom 9 = .ok (.aload_n 1, 1) := by decide +kernel
theorem dX5_copyTermsFrom_10 : decode cX5_copyTermsFrom 10 = .ok (.getfield 33, 3) := by decide +kernel
theorem dX5_copyTermsFrom_13 : decode cX5_copyTermsFrom 13 = .ok (.putfield 15, 3) := by decide +kernel
theorem dX5_copyTermsFrom_16 : decode cX5_copyTermsFrom 16 = .ok (.aload_n 0, 1) := by decide +kernel
theorem dX5_copyTermsFrom_17 : decode cX5_copyTermsFrom 17 = .ok (.aload_n 1, 1) := by decide +kernel
theorem dX5_copyTermsFrom_18 : decode cX5_copyTermsFrom 18 = .ok (.getfield 34, 3) := by decide +kernel
theorem dX5_copyTermsFrom_21 : decode cX5_copyTermsFrom 21 = .ok (.putfield 18, 3) := by decide +kernel
theorem dX5_copyTermsFrom_24 : decode cX5_copyTermsFrom 24 = .ok (.aload_n 0, 1) := by decide +kernel
theorem dX5_copyTermsFrom_25 : decode cX5_copyTermsFrom 25 = .ok (.invokevirtual 35, 3) := by decide +kernel
theorem dX5_copyTermsFrom_28 : decode cX5_copyTermsFrom 28 = .ok (.return_, 1) := by decide +kernel
theorem dX5_clear_0 : decode cX5_clear 0 = .ok (.aload_n 0, 1) := by decide +kernel
theorem dX5_clear_1 : decode cX5_clear 1 = .ok (.iconst 0, 1) := by decide +kernel
theorem dX5_clear_2 : decode cX5_clear 2 = .ok (.putfield 21, 3) := by decide +kernel
theorem dX5_clear_5 : decode cX5_clear 5 = .ok (.aload_n 0, 1) := by decide +kernel
theorem dX5_clear_6 : decode cX5_clear 6 = .ok (.iconst 0, 1) := by decide +kernel
theorem dX5_clear_7 : decode cX5_clear 7 = .ok (.putfield 24, 3) := by decide +kernel
theorem dX5_clear_10 : decode cX5_clear 10 = .ok (.aload_n 0, 1) := by decide +kernel
theorem dX5_clear_11 : decode cX5_clear 11 = .ok (.iconst 0, 1) := by decide +kernel
theorem dX5_clear_12 : decode cX5_clear 12 = .ok (.putfield 27, 3) := by decide +kernel
theorem dX5_clear_15 : decode cX5_clear 15 = .ok (.return_, 1) := by decide +kernel
theorem dX5_layFrom_0 : decode cX5_layFrom 0 = .ok (.aload_n 0, 1) := by decide +kernel
theorem dX5_layFrom_1 : decode cX5_layFrom 1 = .ok (.aload_n 1, 1) := by decide +kernel
theorem dX5_layFrom_2 : decode cX5_layFrom 2 = .ok (.invokevirtual 38, 3) := by decide +kernel
theorem dX5_layFrom_5 : decode cX5_layFrom 5 = .ok (.iconst 0, 1) := by decide +kernel
theorem dX5_layFrom_6 : decode cX5_layFrom 6 = .ok (.istore_n 2, 1) := by decide +kernel
theorem dX5_layFrom_7 : decode cX5_layFrom 7 = .ok (.iload_n 2, 1) := by decide +kernel
theorem dX5_layFrom_8 : decode cX5_layFrom 8 = .ok (.bipush 9, 2) := by decide +kernel
theorem dX5_layFrom_10 : decode cX5_layFrom 10 = .ok (.if_icmp .ge 26, 3) := by decide +kernel
theorem dX5_layFrom_13 : decode cX5_layFrom 13 = .ok (.aload_n 1, 1) := by decide +kernel
theorem dX5_layFrom_14 : decode cX5_layFrom 14 = .ok (.iload_n 2, 1) := by decide +kernel
theorem dX5_layFrom_15 : decode cX5_layFrom 15 = .ok (.invokevirtual 42, 3) := by decide +kernel
theorem dX5_layFrom_18 : decode cX5_layFrom 18 = .ok (.ifCond .eq 12, 3) := by decide +kernel
theorem dX5_layFrom_21 : decode cX5_layFrom 21 = .ok (.aload_n 0, 1) := by decide +kernel
theorem dX5_layFrom_22 : decode cX5_layFrom 22 = .ok (.aload_n 1, 1) := by decide +kernel
theorem dX5_layFrom_23 : decode cX5_layFrom 23 = .ok (.iload_n 2, 1) := by decide +kernel
theorem dX5_layFrom_24 : decode cX5_layFrom 24 = .ok (.invokevirtual 46, 3) := by decide +kernel
theorem dX5_layFrom_27 : decode cX5_layFrom 27 = .ok (.invokevirtual 50, 3) := by decide +kernel
theorem dX5_layFrom_30 : decode cX5_layFrom 30 = .ok (.iinc 2 1, 3) := by decide +kernel
theorem dX5_layFrom_33 : decode cX5_layFrom 33 = .ok (.goto (-26), 3) := by decide +kernel
theorem dX5_layFrom_36 : decode cX5_layFrom 36 = .ok (.return_, 1) := by decide +kernel
theorem dX5_copyFrom_0 : decode cX5_copyFrom 0 = .ok (.aload_n 0, 1) := by decide +kernel
theorem dX5_copyFrom_1 : decode cX5_copyFrom 1 = .ok (.aload_n 1, 1) := by decide +kernel
theorem dX5_copyFrom_2 : decode cX5_copyFrom 2 = .ok (.getfield 9, 3) := by decide +kernel
theorem dX5_copyFrom_5 : decode cX5_copyFrom 5 = .ok (.putfield 9, 3) := by decide +kernel
theorem dX5_copyFrom_8 : decode cX5_copyFrom 8 = .ok (.aload_n 0, 1) := by decide +kernel
theorem dX5_copyFrom_9 : decode cX5_copyFrom 9 = .ok (.aload_n 1, 1) := by decide +kernel
theorem dX5_copyFrom_10 : decode cX5_copyFrom 10 = .ok (.getfield 15, 3) := by decide +kernel
theorem dX5_copyFrom_13 : decode cX5_copyFrom 13 = .ok (.putfield 15, 3) := by decide +kernel
theorem dX5_copyFrom_16 : decode cX5_copyFrom 16 = .ok (.aload_n 0, 1) := by decide +kernel
theorem dX5_copyFrom_17 : decode cX5_copyFrom 17 = .ok (.aload_n 1, 1) := by decide +kernel
theorem dX5_copyFrom_18 : decode cX5_copyFrom 18 = .ok (.getfield 18, 3) := by decide +kernel
theorem dX5_copyFrom_21 : decode cX5_copyFrom 21 = .ok (.putfield 18, 3) := by decide +kernel
theorem dX5_copyFrom_24 : decode cX5_copyFrom 24 = .ok (.aload_n 0, 1) := by decide +kernel
theorem dX5_copyFrom_25 : decode cX5_copyFrom 25 = .ok (.aload_n 1, 1) := by decide +kernel
theorem dX5_copyFrom_26 : decode cX5_copyFrom 26 = .ok (.getfield 21, 3) := by decide +kernel
theorem dX5_copyFrom_29 : decode cX5_copyFrom 29 = .ok (.putfield 21, 3) := by decide +kernel
theorem dX5_copyFrom_32 : decode cX5_copyFrom 32 = .ok (.aload_n 0, 1) := by decide +kernel
theorem dX5_copyFrom_33 : decode cX5_copyFrom 33 = .ok (.aload_n 1, 1) := by decide +kernel
theorem dX5_copyFrom_34 : decode cX5_copyFrom 34 = .ok (.getfield 24, 3) := by decide +kernel
theorem dX5_copyFrom_37 : decode cX5_copyFrom 37 = .ok (.putfield 24, 3) := by decide +kernel
theorem dX5_copyFrom_40 : decode cX5_copyFrom 40 = .ok (.aload_n 0, 1) := by decide +kernel
theorem dX5_copyFrom_41 : decode cX5_copyFrom 41 = .ok (.aload_n 1, 1) := by decide +kernel
theorem dX5_copyFrom_42 : decode cX5_copyFrom 42 = .ok (.getfield 27, 3) := by decide +kernel
theorem dX5_copyFrom_45 : decode cX5_copyFrom 45 = .ok (.putfield 27, 3) := by decide +kernel
theorem dX5_copyFrom_48 : decode cX5_copyFrom 48 = .ok (.return_, 1) := by decide +kernel
theorem dX5_take_0 : decode cX5_take 0 = .ok (.aload_n 0, 1) := by decide +kernel
theorem dX5_take_1 : decode cX5_take 1 = .ok (.dup, 1) := by decide +kernel
theorem dX5_take_2 : decode cX5_take 2 = .ok (.getfield 21, 3) := by decide +kernel
theorem dX5_take_5 : decode cX5_take 5 = .ok (.iload_n 1, 1) := by decide +kernel
theorem dX5_take_6 : decode cX5_take 6 = .ok (.iadd, 1) := by decide +kernel
theorem dX5_take_7 : decode cX5_take 7 = .ok (.putfield 21, 3) := by decide +kernel
theorem dX5_take_10 : decode cX5_take 10 = .ok (.aload_n 0, 1) := by decide +kernel
theorem dX5_take_11 : decode cX5_take 11 = .ok (.dup, 1) := by decide +kernel
theorem dX5_take_12 : decode cX5_take 12 = .ok (.getfield 24, 3) := by decide +kernel
theorem dX5_take_15 : decode cX5_take 15 = .ok (.iconst 1, 1) := by decide +kernel
theorem dX5_take_16 : decode cX5_take 16 = .ok (.iadd, 1) := by decide +kernel
theorem dX5_take_17 : decode cX5_take 17 = .ok (.putfield 24, 3) := by decide +kernel
theorem dX5_take_20 : decode cX5_take 20 = .ok (.iload_n 1, 1) := by decide +kernel
theorem dX5_take_21 : decode cX5_take 21 = .ok (.ifCond .le 23, 3) := by decide +kernel
theorem dX5_take_24 : decode cX5_take 24 = .ok (.aload_n 0, 1) := by decide +kernel
theorem dX5_take_25 : decode cX5_take 25 = .ok (.getfield 27, 3) := by decide +kernel
theorem dX5_take_28 : decode cX5_take 28 = .ok (.ifCond .eq 11, 3) := by decide +kernel
theorem dX5_take_31 : decode cX5_take 31 = .ok (.iload_n 1, 1) := by decide +kernel
theorem dX5_take_32 : decode cX5_take 32 = .ok (.aload_n 0, 1) := by decide +kernel
theorem dX5_take_33 : decode cX5_take 33 = .ok (.getfield 27, 3) := by decide +kernel
theorem dX5_take_36 : decode cX5_take 36 = .ok (.if_icmp .ge 8, 3) := by decide +kernel
theorem dX5_take_39 : decode cX5_take 39 = .ok (.aload_n 0, 1) := by decide +kernel
theorem dX5_take_40 : decode cX5_take 40 = .ok (.iload_n 1, 1) := by decide +kernel
theorem dX5_take_41 : decode cX5_take 41 = .ok (.putfield 27, 3) := by decide +kernel
theorem dX5_take_44 : decode cX5_take 44 = .ok (.return_, 1) := by decide +kernel
theorem dX5_gives_0 : decode cX5_gives 0 = .ok (.aload_n 1, 1) := by decide +kernel
theorem dX5_gives_1 : decode cX5_gives 1 = .ok (.iload_n 2, 1) := by decide +kernel
theorem dX5_gives_2 : decode cX5_gives 2 = .ok (.iconst 5, 1) := by decide +kernel
theorem dX5_gives_3 : decode cX5_gives 3 = .ok (.invokevirtual 54, 3) := by decide +kernel
theorem dX5_gives_6 : decode cX5_gives 6 = .ok (.ifCond .eq 10, 3) := by decide +kernel
theorem dX5_gives_9 : decode cX5_gives 9 = .ok (.aload_n 0, 1) := by decide +kernel
theorem dX5_gives_10 : decode cX5_gives 10 = .ok (.getfield 18, 3) := by decide +kernel
theorem dX5_gives_13 : decode cX5_gives 13 = .ok (.goto 9, 3) := by decide +kernel
theorem dX5_gives_16 : decode cX5_gives 16 = .ok (.aload_n 0, 1) := by decide +kernel
theorem dX5_gives_17 : decode cX5_gives 17 = .ok (.aload_n 1, 1) := by decide +kernel
theorem dX5_gives_18 : decode cX5_gives 18 = .ok (.iload_n 2, 1) := by decide +kernel
theorem dX5_gives_19 : decode cX5_gives 19 = .ok (.invokevirtual 60, 3) := by decide +kernel
theorem dX5_gives_22 : decode cX5_gives 22 = .ok (.ireturn, 1) := by decide +kernel
theorem dX5_wouldGive_0 : decode cX5_wouldGive 0 = .ok (.aload_n 0, 1) := by decide +kernel
theorem dX5_wouldGive_1 : decode cX5_wouldGive 1 = .ok (.aload_n 1, 1) := by decide +kernel
theorem dX5_wouldGive_2 : decode cX5_wouldGive 2 = .ok (.iload_n 2, 1) := by decide +kernel
theorem dX5_wouldGive_3 : decode cX5_wouldGive 3 = .ok (.invokevirtual 64, 3) := by decide +kernel
theorem dX5_wouldGive_6 : decode cX5_wouldGive 6 = .ok (.istore_n 3, 1) := by decide +kernel
theorem dX5_wouldGive_7 : decode cX5_wouldGive 7 = .ok (.aload_n 0, 1) := by decide +kernel
theorem dX5_wouldGive_8 : decode cX5_wouldGive 8 = .ok (.getfield 15, 3) := by decide +kernel
theorem dX5_wouldGive_11 : decode cX5_wouldGive 11 = .ok (.ifCond .le 18, 3) := by decide +kernel
theorem dX5_wouldGive_14 : decode cX5_wouldGive 14 = .ok (.iconst 2, 1) := by decide +kernel
theorem dX5_wouldGive_15 : decode cX5_wouldGive 15 = .ok (.iload_n 3, 1) := by decide +kernel
theorem dX5_wouldGive_16 : decode cX5_wouldGive 16 = .ok (.imul, 1) := by decide +kernel
theorem dX5_wouldGive_17 : decode cX5_wouldGive 17 = .ok (.aload_n 0, 1) := by decide +kernel
theorem dX5_wouldGive_18 : decode cX5_wouldGive 18 = .ok (.getfield 15, 3) := by decide +kernel
theorem dX5_wouldGive_21 : decode cX5_wouldGive 21 = .ok (.if_icmp .lt 8, 3) := by decide +kernel
theorem dX5_wouldGive_24 : decode cX5_wouldGive 24 = .ok (.aload_n 0, 1) := by decide +kernel
theorem dX5_wouldGive_25 : decode cX5_wouldGive 25 = .ok (.getfield 15, 3) := by decide +kernel
theorem dX5_wouldGive_28 : decode cX5_wouldGive 28 = .ok (.istore_n 3, 1) := by decide +kernel
theorem dX5_wouldGive_29 : decode cX5_wouldGive 29 = .ok (.aload_n 0, 1) := by decide +kernel
theorem dX5_wouldGive_30 : decode cX5_wouldGive 30 = .ok (.getfield 18, 3) := by decide +kernel
theorem dX5_wouldGive_33 : decode cX5_wouldGive 33 = .ok (.iconst 1, 1) := by decide +kernel
theorem dX5_wouldGive_34 : decode cX5_wouldGive 34 = .ok (.if_icmp .ne 14, 3) := by decide +kernel
theorem dX5_wouldGive_37 : decode cX5_wouldGive 37 = .ok (.iload_n 3, 1) := by decide +kernel
theorem dX5_wouldGive_38 : decode cX5_wouldGive 38 = .ok (.aload_n 0, 1) := by decide +kernel
theorem dX5_wouldGive_39 : decode cX5_wouldGive 39 = .ok (.getfield 27, 3) := by decide +kernel
theorem dX5_wouldGive_42 : decode cX5_wouldGive 42 = .ok (.invokestatic 67, 3) := by decide +kernel
theorem dX5_wouldGive_45 : decode cX5_wouldGive 45 = .ok (.goto 4, 3) := by decide +kernel
theorem dX5_wouldGive_48 : decode cX5_wouldGive 48 = .ok (.iload_n 3, 1) := by decide +kernel
theorem dX5_wouldGive_49 : decode cX5_wouldGive 49 = .ok (.ireturn, 1) := by decide +kernel
theorem dX5_ownOf_0 : decode cX5_ownOf 0 = .ok (.aload_n 1, 1) := by decide +kernel
theorem dX5_ownOf_1 : decode cX5_ownOf 1 = .ok (.iload_n 2, 1) := by decide +kernel
theorem dX5_ownOf_2 : decode cX5_ownOf 2 = .ok (.iconst 1, 1) := by decide +kernel
theorem dX5_ownOf_3 : decode cX5_ownOf 3 = .ok (.invokevirtual 73, 3) := by decide +kernel
theorem dX5_ownOf_6 : decode cX5_ownOf 6 = .ok (.istore_n 3, 1) := by decide +kernel
theorem dX5_ownOf_7 : decode cX5_ownOf 7 = .ok (.aload_n 0, 1) := by decide +kernel
theorem dX5_ownOf_8 : decode cX5_ownOf 8 = .ok (.getfield 9, 3) := by decide +kernel
theorem dX5_ownOf_11 : decode cX5_ownOf 11 = .ok (.iconst 1, 1) := by decide +kernel
theorem dX5_ownOf_12 : decode cX5_ownOf 12 = .ok (.if_icmp .ne 15, 3) := by decide +kernel
theorem dX5_ownOf_15 : decode cX5_ownOf 15 = .ok (.iload_n 3, 1) := by decide +kernel
theorem dX5_ownOf_16 : decode cX5_ownOf 16 = .ok (.aload_n 1, 1) := by decide +kernel
theorem dX5_ownOf_17 : decode cX5_ownOf 17 = .ok (.iload_n 2, 1) := by decide +kernel
theorem dX5_ownOf_18 : decode cX5_ownOf 18 = .ok (.iconst 2, 1) := by decide +kernel
theorem dX5_ownOf_19 : decode cX5_ownOf 19 = .ok (.invokevirtual 73, 3) := by decide +kernel
theorem dX5_ownOf_22 : decode cX5_ownOf 22 = .ok (.imul, 1) := by decide +kernel
theorem dX5_ownOf_23 : decode cX5_ownOf 23 = .ok (.bipush 9, 2) := by decide +kernel
theorem dX5_ownOf_25 : decode cX5_ownOf 25 = .ok (.idiv, 1) := by decide +kernel
theorem dX5_ownOf_26 : decode cX5_ownOf 26 = .ok (.ireturn, 1) := by decide +kernel
theorem dX5_ownOf_27 : decode cX5_ownOf 27 = .ok (.aload_n 0, 1) := by decide +kernel
theorem dX5_ownOf_28 : decode cX5_ownOf 28 = .ok (.getfield 9, 3) := by decide +kernel
theorem dX5_ownOf_31 : decode cX5_ownOf 31 = .ok (.iconst 2, 1) := by decide +kernel
theorem dX5_ownOf_32 : decode cX5_ownOf 32 = .ok (.if_icmp .ne 24, 3) := by decide +kernel
theorem dX5_ownOf_35 : decode cX5_ownOf 35 = .ok (.aload_n 0, 1) := by decide +kernel
theorem dX5_ownOf_36 : decode cX5_ownOf 36 = .ok (.getfield 24, 3) := by decide +kernel
theorem dX5_ownOf_39 : decode cX5_ownOf 39 = .ok (.ifCond .le 17, 3) := by decide +kernel
theorem dX5_ownOf_42 : decode cX5_ownOf 42 = .ok (.iload_n 3, 1) := by decide +kernel
theorem dX5_ownOf_43 : decode cX5_ownOf 43 = .ok (.aload_n 0, 1) := by decide +kernel
theorem dX5_ownOf_44 : decode cX5_ownOf 44 = .ok (.getfield 21, 3) := by decide +kernel
theorem dX5_ownOf_47 : decode cX5_ownOf 47 = .ok (.aload_n 0, 1) := by decide +kernel
theorem dX5_ownOf_48 : decode cX5_ownOf 48 = .ok (.getfield 24, 3) := by decide +kernel
theorem dX5_ownOf_51 : decode cX5_ownOf 51 = .ok (.idiv, 1) := by decide +kernel
theorem dX5_ownOf_52 : decode cX5_ownOf 52 = .ok (.iadd, 1) := by decide +kernel
theorem dX5_ownOf_53 : decode cX5_ownOf 53 = .ok (.iconst 2, 1) := by decide +kernel
theorem dX5_ownOf_54 : decode cX5_ownOf 54 = .ok (.idiv, 1) := by decide +kernel
theorem dX5_ownOf_55 : decode cX5_ownOf 55 = .ok (.ireturn, 1) := by decide +kernel
theorem dX5_ownOf_56 : decode cX5_ownOf 56 = .ok (.iload_n 3, 1) := by decide +kernel
theorem dX5_ownOf_57 : decode cX5_ownOf 57 = .ok (.ireturn, 1) := by decide +kernel
theorem dX6_init_0 : decode cX6_init 0 = .ok (.aload_n 0, 1) := by decide +kernel
theorem dX6_init_1 : decode cX6_init 1 = .ok (.invokespecial 3, 3) := by decide +kernel
theorem dX6_init_4 : decode cX6_init 4 = .ok (.aload_n 0, 1) := by decide +kernel
theorem dX6_init_5 : decode cX6_init 5 = .ok (.bipush 9, 2) := by decide +kernel
theorem dX6_init_7 : decode cX6_init 7 = .ok (.newarray .int, 2) := by decide +kernel
theorem dX6_init_9 : decode cX6_init 9 = .ok (.putfield 9, 3) := by decide +kernel
theorem dX6_init_12 : decode cX6_init 12 = .ok (.aload_n 0, 1) := by decide +kernel
theorem dX6_init_13 : decode cX6_init 13 = .ok (.bipush 9, 2) := by decide +kernel
theorem dX6_init_15 : decode cX6_init 15 = .ok (.newarray .int, 2) := by decide +kernel
theorem dX6_init_17 : decode cX6_init 17 = .ok (.putfield 15, 3) := by decide +kernel
theorem dX6_init_20 : decode cX6_init 20 = .ok (.aload_n 0, 1) := by decide +kernel
theorem dX6_init_21 : decode cX6_init 21 = .ok (.bipush 9, 2) := by decide +kernel
theorem dX6_init_23 : decode cX6_init 23 = .ok (.newarray .int, 2) := by decide +kernel
theorem dX6_init_25 : decode cX6_init 25 = .ok (.putfield 18, 3) := by decide +kernel
theorem dX6_init_28 : decode cX6_init 28 = .ok (.aload_n 0, 1) := by decide +kernel
theorem dX6_init_29 : decode cX6_init 29 = .ok (.iconst 0, 1) := by decide +kernel
theorem dX6_init_30 : decode cX6_init 30 = .ok (.putfield 21, 3) := by decide +kernel
theorem dX6_init_33 : decode cX6_init 33 = .ok (.aload_n 0, 1) := by decide +kernel
theorem dX6_init_34 : decode cX6_init 34 = .ok (.iconst 0, 1) := by decide +kernel
theorem dX6_init_35 : decode cX6_init 35 = .ok (.putfield 25, 3) := by decide +kernel
theorem dX6_init_38 : decode cX6_init 38 = .ok (.aload_n 0, 1) := by decide +kernel
theorem dX6_init_39 : decode cX6_init 39 = .ok (.iconst 0, 1) := by decide +kernel
theorem dX6_init_40 : decode cX6_init 40 = .ok (.putfield 28, 3) := by decide +kernel
theorem dX6_init_43 : decode cX6_init 43 = .ok (.aload_n 0, 1) := by decide +kernel
theorem dX6_init_44 : decode cX6_init 44 = .ok (.iconst 0, 1) := by decide +kernel
theorem dX6_init_45 : decode cX6_init 45 = .ok (.putfield 31, 3) := by decide +kernel
theorem dX6_init_48 : decode cX6_init 48 = .ok (.aload_n 0, 1) := by decide +kernel
theorem dX6_init_49 : decode cX6_init 49 = .ok (.iconst 0, 1) := by decide +kernel
theorem dX6_init_50 : decode cX6_init 50 = .ok (.putfield 35, 3) := by decide +kernel
theorem dX6_init_53 : decode cX6_init 53 = .ok (.aload_n 0, 1) := by decide +kernel
theorem dX6_init_54 : decode cX6_init 54 = .ok (.iconst 0, 1) := by decide +kernel
theorem dX6_init_55 : decode cX6_init 55 = .ok (.putfield 38, 3) := by decide +kernel
theorem dX6_init_58 : decode cX6_init 58 = .ok (.aload_n 0, 1) := by decide +kernel
theorem dX6_init_59 : decode cX6_init 59 = .ok (.iconst 0, 1) := by decide +kernel
theorem dX6_init_60 : decode cX6_init 60 = .ok (.putfield 41, 3) := by decide +kernel
theorem dX6_init_63 : decode cX6_init 63 = .ok (.aload_n 0, 1) := by decide +kernel
theorem dX6_init_64 : decode cX6_init 64 = .ok (.iconst 0, 1) := by decide +kernel
theorem dX6_init_65 : decode cX6_init 65 = .ok (.putfield 44, 3) := by decide +kernel
theorem dX6_init_68 : decode cX6_init 68 = .ok (.aload_n 0, 1) := by decide +kernel
theorem dX6_init_69 : decode cX6_init 69 = .ok (.iconst 0, 1) := by decide +kernel
theorem dX6_init_70 : decode cX6_init 70 = .ok (.putfield 47, 3) := by decide +kernel
theorem dX6_init_73 : decode cX6_init 73 = .ok (.aload_n 0, 1) := by decide +kernel
theorem dX6_init_74 : decode cX6_init 74 = .ok (.iconst 0, 1) := by decide +kernel
theorem dX6_init_75 : decode cX6_init 75 = .ok (.putfield 50, 3) := by decide +kernel
theorem dX6_init_78 : decode cX6_init 78 = .ok (.return_, 1) := by decide +kernel
theorem dX6_reset_0 : decode cX6_reset 0 = .ok (.aload_n 0, 1) := by decide +kernel
theorem dX6_reset_1 : decode cX6_reset 1 = .ok (.iconst 0, 1) := by decide +kernel
theorem dX6_reset_2 : decode cX6_reset 2 = .ok (.putfield 41, 3) := by decide +kernel
theorem dX6_reset_5 : decode cX6_reset 5 = .ok (.aload_n 0, 1) := by decide +kernel
theorem dX6_reset_6 : decode cX6_reset 6 = .ok (.iconst 0, 1) := by decide +kernel
theorem dX6_reset_7 : decode cX6_reset 7 = .ok (.putfield 44, 3) := by decide +kernel
theorem dX6_reset_10 : decode cX6_reset 10 = .ok (.aload_n 0, 1) := by decide +kernel
theorem dX6_reset_11 : decode cX6_reset 11 = .ok (.iconst 0, 1) := by decide +kernel
theorem dX6_reset_12 : decode cX6_reset 12 = .ok (.putfield 47, 3) := by decide +kernel
theorem dX6_reset_15 : decode cX6_reset 15 = .ok (.aload_n 0, 1) := by decide +kernel
theorem dX6_reset_16 : decode cX6_reset 16 = .ok (.iconst 0, 1) := by decide +kernel
theorem dX6_reset_17 : decode cX6_reset 17 = .ok (.iconst 0, 1) := by decide +kernel
theorem dX6_reset_18 : decode cX6_reset 18 = .ok (.invokevirtual 53, 3) := by decide +kernel
theorem dX6_reset_21 : decode cX6_reset 21 = .ok (.return_, 1) := by decide +kernel
theorem dX6_beginAt_0 : decode cX6_beginAt 0 = .ok (.aload_n 0, 1) := by decide +kernel
theorem dX6_beginAt_1 : decode cX6_beginAt 1 = .ok (.iload_n 1, 1) := by decide +kernel
theorem dX6_beginAt_2 : decode cX6_beginAt 2 = .ok (.putfield 21, 3) := by decide +kernel
theorem dX6_beginAt_5 : decode cX6_beginAt 5 = .ok (.aload_n 0, 1) := by decide +kernel
theorem dX6_beginAt_6 : decode cX6_beginAt 6 = .ok (.iload_n 2, 1) := by decide +kernel
theorem dX6_beginAt_7 : decode cX6_beginAt 7 = .ok (.putfield 25, 3) := by decide +kernel
theorem dX6_beginAt_10 : decode cX6_beginAt 10 = .ok (.aload_n 0, 1) := by decide +kernel
theorem dX6_beginAt_11 : decode cX6_beginAt 11 = .ok (.iload_n 1, 1) := by decide +kernel
theorem dX6_beginAt_12 : decode cX6_beginAt 12 = .ok (.putfield 28, 3) := by decide +kernel
theorem dX6_beginAt_15 : decode cX6_beginAt 15 = .ok (.aload_n 0, 1) := by decide +kernel
theorem dX6_beginAt_16 : decode cX6_beginAt 16 = .ok (.iconst 0, 1) := by decide +kernel
theorem dX6_beginAt_17 : decode cX6_beginAt 17 = .ok (.putfield 31, 3) := by decide +kernel
theorem dX6_beginAt_20 : decode cX6_beginAt 20 = .ok (.aload_n 0, 1) := by decide +kernel
theorem dX6_beginAt_21 : decode cX6_beginAt 21 = .ok (.iconst 0, 1) := by decide +kernel
theorem dX6_beginAt_22 : decode cX6_beginAt 22 = .ok (.putfield 35, 3) := by decide +kernel
theorem dX6_beginAt_25 : decode cX6_beginAt 25 = .ok (.aload_n 0, 1) := by decide +kernel
theorem dX6_beginAt_26 : decode cX6_beginAt 26 = .ok (.iconst 0, 1) := by decide +kernel
theorem dX6_beginAt_27 : decode cX6_beginAt 27 = .ok (.putfield 38, 3) := by decide +kernel
theorem dX6_beginAt_30 : decode cX6_beginAt 30 = .ok (.return_, 1) := by decide +kernel
theorem dX6_copyFrom_0 : decode cX6_copyFrom 0 = .ok (.aload_n 1, 1) := by decide +kernel
theorem dX6_copyFrom_1 : decode cX6_copyFrom 1 = .ok (.getfield 9, 3) := by decide +kernel
theorem dX6_copyFrom_4 : decode cX6_copyFrom 4 = .ok (.aload_n 0, 1) := by decide +kernel
theorem dX6_copyFrom_5 : decode cX6_copyFrom 5 = .ok (.getfield 9, 3) := by decide +kernel
theorem dX6_copyFrom_8 : decode cX6_copyFrom 8 = .ok (.invokestatic 57, 3) := by decide +kernel
theorem dX6_copyFrom_11 : decode cX6_copyFrom 11 = .ok (.aload_n 1, 1) := by decide +kernel
theorem dX6_copyFrom_12 : decode cX6_copyFrom 12 = .ok (.getfield 15, 3) := by decide +kernel
theorem dX6_copyFrom_15 : decode cX6_copyFrom 15 = .ok (.aload_n 0, 1) := by decide +kernel
theorem dX6_copyFrom_16 : decode cX6_copyFrom 16 = .ok (.getfield 15, 3) := by decide +kernel
theorem dX6_copyFrom_19 : decode cX6_copyFrom 19 = .ok (.invokestatic 57, 3) := by decide +kernel
theorem dX6_copyFrom_22 : decode cX6_copyFrom 22 = .ok (.aload_n 1, 1) := by decide +kernel
theorem dX6_copyFrom_23 : decode cX6_copyFrom 23 = .ok (.getfield 18, 3) := by decide +kernel
theorem dX6_copyFrom_26 : decode cX6_copyFrom 26 = .ok (.aload_n 0, 1) := by decide +kernel
theorem dX6_copyFrom_27 : decode cX6_copyFrom 27 = .ok (.getfield 18, 3) := by decide +kernel
theorem dX6_copyFrom_30 : decode cX6_copyFrom 30 = .ok (.invokestatic 57, 3) := by decide +kernel
theorem dX6_copyFrom_33 : decode cX6_copyFrom 33 = .ok (.aload_n 0, 1) := by decide +kernel
theorem dX6_copyFrom_34 : decode cX6_copyFrom 34 = .ok (.aload_n 1, 1) := by decide +kernel
theorem dX6_copyFrom_35 : decode cX6_copyFrom 35 = .ok (.getfield 21, 3) := by decide +kernel
theorem dX6_copyFrom_38 : decode cX6_copyFrom 38 = .ok (.putfield 21, 3) := by decide +kernel
theorem dX6_copyFrom_41 : decode cX6_copyFrom 41 = .ok (.aload_n 0, 1) := by decide +kernel
theorem dX6_copyFrom_42 : decode cX6_copyFrom 42 = .ok (.aload_n 1, 1) := by decide +kernel
theorem dX6_copyFrom_43 : decode cX6_copyFrom 43 = .ok (.getfield 25, 3) := by decide +kernel
theorem dX6_copyFrom_46 : decode cX6_copyFrom 46 = .ok (.putfield 25, 3) := by decide +kernel
theorem dX6_copyFrom_49 : decode cX6_copyFrom 49 = .ok (.aload_n 0, 1) := by decide +kernel
theorem dX6_copyFrom_50 : decode cX6_copyFrom 50 = .ok (.aload_n 1, 1) := by decide +kernel
theorem dX6_copyFrom_51 : decode cX6_copyFrom 51 = .ok (.getfield 28, 3) := by decide +kernel
theorem dX6_copyFrom_54 : decode cX6_copyFrom 54 = .ok (.putfield 28, 3) := by decide +kernel
theorem dX6_copyFrom_57 : decode cX6_copyFrom 57 = .ok (.aload_n 0, 1) := by decide +kernel
theorem dX6_copyFrom_58 : decode cX6_copyFrom 58 = .ok (.aload_n 1, 1) := by decide +kernel
theorem dX6_copyFrom_59 : decode cX6_copyFrom 59 = .ok (.getfield 31, 3) := by decide +kernel
theorem dX6_copyFrom_62 : decode cX6_copyFrom 62 = .ok (.putfield 31, 3) := by decide +kernel
theorem dX6_copyFrom_65 : decode cX6_copyFrom 65 = .ok (.aload_n 0, 1) := by decide +kernel
theorem dX6_copyFrom_66 : decode cX6_copyFrom 66 = .ok (.aload_n 1, 1) := by decide +kernel
theorem dX6_copyFrom_67 : decode cX6_copyFrom 67 = .ok (.getfield 35, 3) := by decide +kernel
theorem dX6_copyFrom_70 : decode cX6_copyFrom 70 = .ok (.putfield 35, 3) := by decide +kernel
theorem dX6_copyFrom_73 : decode cX6_copyFrom 73 = .ok (.aload_n 0, 1) := by decide +kernel
theorem dX6_copyFrom_74 : decode cX6_copyFrom 74 = .ok (.aload_n 1, 1) := by decide +kernel
theorem dX6_copyFrom_75 : decode cX6_copyFrom 75 = .ok (.getfield 38, 3) := by decide +kernel
theorem dX6_copyFrom_78 : decode cX6_copyFrom 78 = .ok (.putfield 38, 3) := by decide +kernel
theorem dX6_copyFrom_81 : decode cX6_copyFrom 81 = .ok (.aload_n 0, 1) := by decide +kernel
theorem dX6_copyFrom_82 : decode cX6_copyFrom 82 = .ok (.aload_n 1, 1) := by decide +kernel
theorem dX6_copyFrom_83 : decode cX6_copyFrom 83 = .ok (.getfield 41, 3) := by decide +kernel
theorem dX6_copyFrom_86 : decode cX6_copyFrom 86 = .ok (.putfield 41, 3) := by decide +kernel
theorem dX6_copyFrom_89 : decode cX6_copyFrom 89 = .ok (.aload_n 0, 1) := by decide +kernel
theorem dX6_copyFrom_90 : decode cX6_copyFrom 90 = .ok (.aload_n 1, 1) := by decide +kernel
theorem dX6_copyFrom_91 : decode cX6_copyFrom 91 = .ok (.getfield 44, 3) := by decide +kernel
theorem dX6_copyFrom_94 : decode cX6_copyFrom 94 = .ok (.putfield 44, 3) := by decide +kernel
theorem dX6_copyFrom_97 : decode cX6_copyFrom 97 = .ok (.aload_n 0, 1) := by decide +kernel
theorem dX6_copyFrom_98 : decode cX6_copyFrom 98 = .ok (.aload_n 1, 1) := by decide +kernel
theorem dX6_copyFrom_99 : decode cX6_copyFrom 99 = .ok (.getfield 47, 3) := by decide +kernel
theorem dX6_copyFrom_102 : decode cX6_copyFrom 102 = .ok (.putfield 47, 3) := by decide +kernel
theorem dX6_copyFrom_105 : decode cX6_copyFrom 105 = .ok (.return_, 1) := by decide +kernel
theorem dX6_copyCells_0 : decode cX6_copyCells 0 = .ok (.iconst 0, 1) := by decide +kernel
theorem dX6_copyCells_1 : decode cX6_copyCells 1 = .ok (.istore_n 2, 1) := by decide +kernel
theorem dX6_copyCells_2 : decode cX6_copyCells 2 = .ok (.iload_n 2, 1) := by decide +kernel
theorem dX6_copyCells_3 : decode cX6_copyCells 3 = .ok (.aload_n 0, 1) := by decide +kernel
theorem dX6_copyCells_4 : decode cX6_copyCells 4 = .ok (.arraylength, 1) := by decide +kernel
theorem dX6_copyCells_5 : decode cX6_copyCells 5 = .ok (.if_icmp .ge 21, 3) := by decide +kernel
theorem dX6_copyCells_8 : decode cX6_copyCells 8 = .ok (.iload_n 2, 1) := by decide +kernel
theorem dX6_copyCells_9 : decode cX6_copyCells 9 = .ok (.aload_n 1, 1) := by decide +kernel
theorem dX6_copyCells_10 : decode cX6_copyCells 10 = .ok (.arraylength, 1) := by decide +kernel
theorem dX6_copyCells_11 : decode cX6_copyCells 11 = .ok (.if_icmp .ge 15, 3) := by decide +kernel
theorem dX6_copyCells_14 : decode cX6_copyCells 14 = .ok (.aload_n 1, 1) := by decide +kernel
theorem dX6_copyCells_15 : decode cX6_copyCells 15 = .ok (.iload_n 2, 1) := by decide +kernel
theorem dX6_copyCells_16 : decode cX6_copyCells 16 = .ok (.aload_n 0, 1) := by decide +kernel
theorem dX6_copyCells_17 : decode cX6_copyCells 17 = .ok (.iload_n 2, 1) := by decide +kernel
theorem dX6_copyCells_18 : decode cX6_copyCells 18 = .ok (.iaload, 1) := by decide +kernel
theorem dX6_copyCells_19 : decode cX6_copyCells 19 = .ok (.iastore, 1) := by decide +kernel
theorem dX6_copyCells_20 : decode cX6_copyCells 20 = .ok (.iinc 2 1, 3) := by decide +kernel
theorem dX6_copyCells_23 : decode cX6_copyCells 23 = .ok (.goto (-21), 3) := by decide +kernel
theorem dX6_copyCells_26 : decode cX6_copyCells 26 = .ok (.return_, 1) := by decide +kernel
theorem dX6_isCrossed_0 : decode cX6_isCrossed 0 = .ok (.iload_n 1, 1) := by decide +kernel
theorem dX6_isCrossed_1 : decode cX6_isCrossed 1 = .ok (.ifCond .lt 24, 3) := by decide +kernel
theorem dX6_isCrossed_4 : decode cX6_isCrossed 4 = .ok (.iload_n 1, 1) := by decide +kernel
theorem dX6_isCrossed_5 : decode cX6_isCrossed 5 = .ok (.bipush 9, 2) := by decide +kernel
theorem dX6_isCrossed_7 : decode cX6_isCrossed 7 = .ok (.if_icmp .ge 18, 3) := by decide +kernel
theorem dX6_isCrossed_10 : decode cX6_isCrossed 10 = .ok (.aload_n 0, 1) := by decide +kernel
theorem dX6_isCrossed_11 : decode cX6_isCrossed 11 = .ok (.getfield 38, 3) := by decide +kernel
theorem dX6_isCrossed_14 : decode cX6_isCrossed 14 = .ok (.iload_n 1, 1) := by decide +kernel
theorem dX6_isCrossed_15 : decode cX6_isCrossed 15 = .ok (.ishr, 1) := by decide +kernel
theorem dX6_isCrossed_16 : decode cX6_isCrossed 16 = .ok (.iconst 1, 1) := by decide +kernel
theorem dX6_isCrossed_17 : decode cX6_isCrossed 17 = .ok (.iand, 1) := by decide +kernel
theorem dX6_isCrossed_18 : decode cX6_isCrossed 18 = .ok (.ifCond .eq 7, 3) := by decide +kernel
theorem dX6_isCrossed_21 : decode cX6_isCrossed 21 = .ok (.iconst 1, 1) := by decide +kernel
theorem dX6_isCrossed_22 : decode cX6_isCrossed 22 = .ok (.goto 4, 3) := by decide +kernel
theorem dX6_isCrossed_25 : decode cX6_isCrossed 25 = .ok (.iconst 0, 1) := by decide +kernel
theorem dX6_isCrossed_26 : decode cX6_isCrossed 26 = .ok (.ireturn, 1) := by decide +kernel
theorem dX6_cross_0 : decode cX6_cross 0 = .ok (.iload_n 1, 1) := by decide +kernel
theorem dX6_cross_1 : decode cX6_cross 1 = .ok (.ifCond .lt 66, 3) := by decide +kernel
theorem dX6_cross_4 : decode cX6_cross 4 = .ok (.iload_n 1, 1) := by decide +kernel
theorem dX6_cross_5 : decode cX6_cross 5 = .ok (.aload_n 0, 1) := by decide +kernel
theorem dX6_cross_6 : decode cX6_cross 6 = .ok (.getfield 9, 3) := by decide +kernel
theorem dX6_cross_9 : decode cX6_cross 9 = .ok (.arraylength, 1) := by decide +kernel
theorem dX6_cross_10 : decode cX6_cross 10 = .ok (.if_icmp .ge 57, 3) := by decide +kernel
theorem dX6_cross_13 : decode cX6_cross 13 = .ok (.iload_n 1, 1) := by decide +kernel
theorem dX6_cross_14 : decode cX6_cross 14 = .ok (.aload_n 0, 1) := by decide +kernel
theorem dX6_cross_15 : decode cX6_cross 15 = .ok (.getfield 15, 3) := by decide +kernel
theorem dX6_cross_18 : decode cX6_cross 18 = .ok (.arraylength, 1) := by decide +kernel
theorem dX6_cross_19 : decode cX6_cross 19 = .ok (.if_icmp .ge 48, 3) := by decide +kernel
theorem dX6_cross_22 : decode cX6_cross 22 = .ok (.iload_n 1, 1) := by decide +kernel
theorem dX6_cross_23 : decode cX6_cross 23 = .ok (.aload_n 0, 1) := by decide +kernel
theorem dX6_cross_24 : decode cX6_cross 24 = .ok (.getfield 18, 3) := by decide +kernel
theorem dX6_cross_27 : decode cX6_cross 27 = .ok (.arraylength, 1) := by decide +kernel
theorem dX6_cross_28 : decode cX6_cross 28 = .ok (.if_icmp .ge 39, 3) := by decide +kernel
theorem dX6_cross_31 : decode cX6_cross 31 = .ok (.aload_n 0, 1) := by decide +kernel
theorem dX6_cross_32 : decode cX6_cross 32 = .ok (.getfield 9, 3) := by decide +kernel
theorem dX6_cross_35 : decode cX6_cross 35 = .ok (.iload_n 1, 1) := by decide +kernel
theorem dX6_cross_36 : decode cX6_cross 36 = .ok (.aload_n 0, 1) := by decide +kernel
theorem dX6_cross_37 : decode cX6_cross 37 = .ok (.getfield 35, 3) := by decide +kernel
theorem dX6_cross_40 : decode cX6_cross 40 = .ok (.iastore, 1) := by decide +kernel
theorem dX6_cross_41 : decode cX6_cross 41 = .ok (.aload_n 0, 1) := by decide +kernel
theorem dX6_cross_42 : decode cX6_cross 42 = .ok (.getfield 15, 3) := by decide +kernel
theorem dX6_cross_45 : decode cX6_cross 45 = .ok (.iload_n 1, 1) := by decide +kernel
theorem dX6_cross_46 : decode cX6_cross 46 = .ok (.iload_n 2, 1) := by decide +kernel
theorem dX6_cross_47 : decode cX6_cross 47 = .ok (.iastore, 1) := by decide +kernel
theorem dX6_cross_48 : decode cX6_cross 48 = .ok (.aload_n 0, 1) := by decide +kernel
theorem dX6_cross_49 : decode cX6_cross 49 = .ok (.getfield 18, 3) := by decide +kernel
theorem dX6_cross_52 : decode cX6_cross 52 = .ok (.iload_n 1, 1) := by decide +kernel
theorem dX6_cross_53 : decode cX6_cross 53 = .ok (.iload_n 3, 1) := by decide +kernel
theorem dX6_cross_54 : decode cX6_cross 54 = .ok (.iastore, 1) := by decide +kernel
theorem dX6_cross_55 : decode cX6_cross 55 = .ok (.aload_n 0, 1) := by decide +kernel
theorem dX6_cross_56 : decode cX6_cross 56 = .ok (.dup, 1) := by decide +kernel
theorem dX6_cross_57 : decode cX6_cross 57 = .ok (.getfield 38, 3) := by decide +kernel
theorem dX6_cross_60 : decode cX6_cross 60 = .ok (.iconst 1, 1) := by decide +kernel
theorem dX6_cross_61 : decode cX6_cross 61 = .ok (.iload_n 1, 1) := by decide +kernel
theorem dX6_cross_62 : decode cX6_cross 62 = .ok (.ishl, 1) := by decide +kernel
theorem dX6_cross_63 : decode cX6_cross 63 = .ok (.ior, 1) := by decide +kernel
theorem dX6_cross_64 : decode cX6_cross 64 = .ok (.putfield 38, 3) := by decide +kernel
theorem dX6_cross_67 : decode cX6_cross 67 = .ok (.return_, 1) := by decide +kernel
theorem dX6_moveTo_0 : decode cX6_moveTo 0 = .ok (.aload_n 0, 1) := by decide +kernel
theorem dX6_moveTo_1 : decode cX6_moveTo 1 = .ok (.iload_n 2, 1) := by decide +kernel
theorem dX6_moveTo_2 : decode cX6_moveTo 2 = .ok (.bipush (-2), 2) := by decide +kernel
theorem dX6_moveTo_4 : decode cX6_moveTo 4 = .ok (.if_icmp .ne 7, 3) := by decide +kernel
theorem dX6_moveTo_7 : decode cX6_moveTo 7 = .ok (.iconst 1, 1) := by decide +kernel
theorem dX6_moveTo_8 : decode cX6_moveTo 8 = .ok (.goto 4, 3) := by decide +kernel
theorem dX6_moveTo_11 : decode cX6_moveTo 11 = .ok (.iconst 0, 1) := by decide +kernel
theorem dX6_moveTo_12 : decode cX6_moveTo 12 = .ok (.putfield 31, 3) := by decide +kernel
theorem dX6_moveTo_15 : decode cX6_moveTo 15 = .ok (.iload_n 2, 1) := by decide +kernel
theorem dX6_moveTo_16 : decode cX6_moveTo 16 = .ok (.bipush (-2), 2) := by decide +kernel
theorem dX6_moveTo_18 : decode cX6_moveTo 18 = .ok (.if_icmp .ne 14, 3) := by decide +kernel
theorem dX6_moveTo_21 : decode cX6_moveTo 21 = .ok (.aload_n 0, 1) := by decide +kernel
theorem dX6_moveTo_22 : decode cX6_moveTo 22 = .ok (.aload_n 0, 1) := by decide +kernel
theorem dX6_moveTo_23 : decode cX6_moveTo 23 = .ok (.getfield 21, 3) := by decide +kernel
theorem dX6_moveTo_26 : decode cX6_moveTo 26 = .ok (.putfield 28, 3) := by decide +kernel
theorem dX6_moveTo_29 : decode cX6_moveTo 29 = .ok (.goto 17, 3) := by decide +kernel
theorem dX6_moveTo_32 : decode cX6_moveTo 32 = .ok (.aload_n 0, 1) := by decide +kernel
theorem dX6_moveTo_33 : decode cX6_moveTo 33 = .ok (.iload_n 2, 1) := by decide +kernel
theorem dX6_moveTo_34 : decode cX6_moveTo 34 = .ok (.iconst (-1), 1) := by decide +kernel
theorem dX6_moveTo_35 : decode cX6_moveTo 35 = .ok (.if_icmp .ne 7, 3) := by decide +kernel
theorem dX6_moveTo_38 : decode cX6_moveTo 38 = .ok (.iload_n 1, 1) := by decide +kernel
theorem dX6_moveTo_39 : decode cX6_moveTo 39 = .ok (.goto 4, 3) := by decide +kernel
theorem dX6_moveTo_42 : decode cX6_moveTo 42 = .ok (.iload_n 2, 1) := by decide +kernel
theorem dX6_moveTo_43 : decode cX6_moveTo 43 = .ok (.putfield 28, 3) := by decide +kernel
theorem dX6_moveTo_46 : decode cX6_moveTo 46 = .ok (.return_, 1) := by decide +kernel
theorem dX6_factTold_0 : decode cX6_factTold 0 = .ok (.iload_n 2, 1) := by decide +kernel
theorem dX6_factTold_1 : decode cX6_factTold 1 = .ok (.tableswitch 86 0 3 #[31, 45, 74, 80], 31) := by decide +kernel
theorem dX6_factTold_32 : decode cX6_factTold 32 = .ok (.aload_n 0, 1) := by decide +kernel
theorem dX6_factTold_33 : decode cX6_factTold 33 = .ok (.iload_n 1, 1) := by decide +kernel
theorem dX6_factTold_34 : decode cX6_factTold 34 = .ok (.invokevirtual 61, 3) := by decide +kernel
theorem dX6_factTold_37 : decode cX6_factTold 37 = .ok (.ifCond .eq 7, 3) := by decide +kernel
theorem dX6_factTold_40 : decode cX6_factTold 40 = .ok (.iconst 1, 1) := by decide +kernel
theorem dX6_factTold_41 : decode cX6_factTold 41 = .ok (.goto 4, 3) := by decide +kernel
theorem dX6_factTold_44 : decode cX6_factTold 44 = .ok (.iconst 0, 1) := by decide +kernel
theorem dX6_factTold_45 : decode cX6_factTold 45 = .ok (.ireturn, 1) := by decide +kernel
theorem dX6_factTold_46 : decode cX6_factTold 46 = .ok (.aload_n 0, 1) := by decide +kernel
theorem dX6_factTold_47 : decode cX6_factTold 47 = .ok (.iload_n 1, 1) := by decide +kernel
theorem dX6_factTold_48 : decode cX6_factTold 48 = .ok (.invokevirtual 61, 3) := by decide +kernel
theorem dX6_factTold_51 : decode cX6_factTold 51 = .ok (.ifCond .eq 21, 3) := by decide +kernel
theorem dX6_factTold_54 : decode cX6_factTold 54 = .ok (.iload_n 1, 1) := by decide +kernel
theorem dX6_factTold_55 : decode cX6_factTold 55 = .ok (.aload_n 0, 1) := by decide +kernel
theorem dX6_factTold_56 : decode cX6_factTold 56 = .ok (.getfield 9, 3) := by decide +kernel
theorem dX6_factTold_59 : decode cX6_factTold 59 = .ok (.arraylength, 1) := by decide +kernel
theorem dX6_factTold_60 : decode cX6_factTold 60 = .ok (.if_icmp .ge 12, 3) := by decide +kernel
theorem dX6_factTold_63 : decode cX6_factTold 63 = .ok (.aload_n 0, 1) := by decide +kernel
theorem dX6_factTold_64 : decode cX6_factTold 64 = .ok (.getfield 9, 3) := by decide +kernel
theorem dX6_factTold_67 : decode cX6_factTold 67 = .ok (.iload_n 1, 1) := by decide +kernel
theorem dX6_factTold_68 : decode cX6_factTold 68 = .ok (.iaload, 1) := by decide +kernel
theorem dX6_factTold_69 : decode cX6_factTold 69 = .ok (.goto 5, 3) := by decide +kernel
theorem dX6_factTold_72 : decode cX6_factTold 72 = .ok (.bipush (-9), 2) := by decide +kernel
theorem dX6_factTold_74 : decode cX6_factTold 74 = .ok (.ireturn, 1) := by decide +kernel
theorem dX6_factTold_75 : decode cX6_factTold 75 = .ok (.aload_n 0, 1) := by decide +kernel
theorem dX6_factTold_76 : decode cX6_factTold 76 = .ok (.iload_n 1, 1) := by decide +kernel
theorem dX6_factTold_77 : decode cX6_factTold 77 = .ok (.invokevirtual 65, 3) := by decide +kernel
theorem dX6_factTold_80 : decode cX6_factTold 80 = .ok (.ireturn, 1) := by decide +kernel
theorem dX6_factTold_81 : decode cX6_factTold 81 = .ok (.aload_n 0, 1) := by decide +kernel
theorem dX6_factTold_82 : decode cX6_factTold 82 = .ok (.iload_n 1, 1) := by decide +kernel
theorem dX6_factTold_83 : decode cX6_factTold 83 = .ok (.invokevirtual 69, 3) := by decide +kernel
theorem dX6_factTold_86 : decode cX6_factTold 86 = .ok (.ireturn, 1) := by decide +kernel
theorem dX6_factTold_87 : decode cX6_factTold 87 = .ok (.bipush (-9), 2) := by decide +kernel
theorem dX6_factTold_89 : decode cX6_factTold 89 = .ok (.ireturn, 1) := by decide +kernel
theorem dX6_giftOf_0 : decode cX6_giftOf 0 = .ok (.aload_n 0, 1) := by decide +kernel
theorem dX6_giftOf_1 : decode cX6_giftOf 1 = .ok (.iload_n 1, 1) := by decide +kernel
theorem dX6_giftOf_2 : decode cX6_giftOf 2 = .ok (.invokevirtual 61, 3) := by decide +kernel
theorem dX6_giftOf_5 : decode cX6_giftOf 5 = .ok (.ifCond .eq 21, 3) := by decide +kernel
theorem dX6_giftOf_8 : decode cX6_giftOf 8 = .ok (.iload_n 1, 1) := by decide +kernel
theorem dX6_giftOf_9 : decode cX6_giftOf 9 = .ok (.aload_n 0, 1) := by decide +kernel
theorem dX6_giftOf_10 : decode cX6_giftOf 10 = .ok (.getfield 15, 3) := by decide +kernel
theorem dX6_giftOf_13 : decode cX6_giftOf 13 = .ok (.arraylength, 1) := by decide +kernel
theorem dX6_giftOf_14 : decode cX6_giftOf 14 = .ok (.if_icmp .ge 12, 3) := by decide +kernel
theorem dX6_giftOf_17 : decode cX6_giftOf 17 = .ok (.aload_n 0, 1) := by decide +kernel
theorem dX6_giftOf_18 : decode cX6_giftOf 18 = .ok (.getfield 15, 3) := by decide +kernel
theorem dX6_giftOf_21 : decode cX6_giftOf 21 = .ok (.iload_n 1, 1) := by decide +kernel
theorem dX6_giftOf_22 : decode cX6_giftOf 22 = .ok (.iaload, 1) := by decide +kernel
theorem dX6_giftOf_23 : decode cX6_giftOf 23 = .ok (.goto 5, 3) := by decide +kernel
theorem dX6_giftOf_26 : decode cX6_giftOf 26 = .ok (.bipush (-9), 2) := by decide +kernel
theorem dX6_giftOf_28 : decode cX6_giftOf 28 = .ok (.ireturn, 1) := by decide +kernel
theorem dX6_wordOf_0 : decode cX6_wordOf 0 = .ok (.aload_n 0, 1) := by decide +kernel
theorem dX6_wordOf_1 : decode cX6_wordOf 1 = .ok (.iload_n 1, 1) := by decide +kernel
theorem dX6_wordOf_2 : decode cX6_wordOf 2 = .ok (.invokevirtual 61, 3) := by decide +kernel
theorem dX6_wordOf_5 : decode cX6_wordOf 5 = .ok (.ifCond .eq 21, 3) := by decide +kernel
theorem dX6_wordOf_8 : decode cX6_wordOf 8 = .ok (.iload_n 1, 1) := by decide +kernel
theorem dX6_wordOf_9 : decode cX6_wordOf 9 = .ok (.aload_n 0, 1) := by decide +kernel
theorem dX6_wordOf_10 : decode cX6_wordOf 10 = .ok (.getfield 18, 3) := by decide +kernel
theorem dX6_wordOf_13 : decode cX6_wordOf 13 = .ok (.arraylength, 1) := by decide +kernel
theorem dX6_wordOf_14 : decode cX6_wordOf 14 = .ok (.if_icmp .ge 12, 3) := by decide +kernel
theorem dX6_wordOf_17 : decode cX6_wordOf 17 = .ok (.aload_n 0, 1) := by decide +kernel
theorem dX6_wordOf_18 : decode cX6_wordOf 18 = .ok (.getfield 18, 3) := by decide +kernel
theorem dX6_wordOf_21 : decode cX6_wordOf 21 = .ok (.iload_n 1, 1) := by decide +kernel
theorem dX6_wordOf_22 : decode cX6_wordOf 22 = .ok (.iaload, 1) := by decide +kernel
theorem dX6_wordOf_23 : decode cX6_wordOf 23 = .ok (.goto 5, 3) := by decide +kernel
theorem dX6_wordOf_26 : decode cX6_wordOf 26 = .ok (.bipush (-9), 2) := by decide +kernel
theorem dX6_wordOf_28 : decode cX6_wordOf 28 = .ok (.ireturn, 1) := by decide +kernel
theorem dX6_numberOfGivers_0 : decode cX6_numberOfGivers 0 = .ok (.iconst 0, 1) := by decide +kernel
theorem dX6_numberOfGivers_1 : decode cX6_numberOfGivers 1 = .ok (.istore_n 1, 1) := by decide +kernel
theorem dX6_numberOfGivers_2 : decode cX6_numberOfGivers 2 = .ok (.iconst 0, 1) := by decide +kernel
theorem dX6_numberOfGivers_3 : decode cX6_numberOfGivers 3 = .ok (.istore_n 2, 1) := by decide +kernel
theorem dX6_numberOfGivers_4 : decode cX6_numberOfGivers 4 = .ok (.iload_n 2, 1) := by decide +kernel
theorem dX6_numberOfGivers_5 : decode cX6_numberOfGivers 5 = .ok (.bipush 9, 2) := by decide +kernel
theorem dX6_numberOfGivers_7 : decode cX6_numberOfGivers 7 = .ok (.if_icmp .ge 20, 3) := by decide +kernel
theorem dX6_numberOfGivers_10 : decode cX6_numberOfGivers 10 = .ok (.aload_n 0, 1) := by decide +kernel
theorem dX6_numberOfGivers_11 : decode cX6_numberOfGivers 11 = .ok (.iload_n 2, 1) := by decide +kernel
theorem dX6_numberOfGivers_12 : decode cX6_numberOfGivers 12 = .ok (.invokevirtual 65, 3) := by decide +kernel
theorem dX6_numberOfGivers_15 : decode cX6_numberOfGivers 15 = .ok (.ifCond .le 6, 3) := by decide +kernel
theorem dX6_numberOfGivers_18 : decode cX6_numberOfGivers 18 = .ok (.iinc 1 1, 3) := by decide +kernel
theorem dX6_numberOfGivers_21 : decode cX6_numberOfGivers 21 = .ok (.iinc 2 1, 3) := by decide +kernel
theorem dX6_numberOfGivers_24 : decode cX6_numberOfGivers 24 = .ok (.goto (-20), 3) := by decide +kernel
theorem dX6_numberOfGivers_27 : decode cX6_numberOfGivers 27 = .ok (.iload_n 1, 1) := by decide +kernel
theorem dX6_numberOfGivers_28 : decode cX6_numberOfGivers 28 = .ok (.ireturn, 1) := by decide +kernel
theorem dX7_init_0 : decode cX7_init 0 = .ok (.aload_n 0, 1) := by decide +kernel
theorem dX7_init_1 : decode cX7_init 1 = .ok (.invokespecial 3, 3) := by decide +kernel
theorem dX7_init_4 : decode cX7_init 4 = .ok (.aload_n 0, 1) := by decide +kernel
theorem dX7_init_5 : decode cX7_init 5 = .ok (.iconst 0, 1) := by decide +kernel
theorem dX7_init_6 : decode cX7_init 6 = .ok (.iload_n 2, 1) := by decide +kernel
theorem dX7_init_7 : decode cX7_init 7 = .ok (.invokestatic 9, 3) := by decide +kernel
theorem dX7_init_10 : decode cX7_init 10 = .ok (.putfield 15, 3) := by decide +kernel
theorem dX7_init_13 : decode cX7_init 13 = .ok (.aload_n 0, 1) := by decide +kernel
theorem dX7_init_14 : decode cX7_init 14 = .ok (.iconst 0, 1) := by decide +kernel
theorem dX7_init_15 : decode cX7_init 15 = .ok (.iload_n 1, 1) := by decide +kernel
theorem dX7_init_16 : decode cX7_init 16 = .ok (.invokestatic 9, 3) := by decide +kernel
theorem dX7_init_19 : decode cX7_init 19 = .ok (.newarray .int, 2) := by decide +kernel
theorem dX7_init_21 : decode cX7_init 21 = .ok (.putfield 21, 3) := by decide +kernel
theorem dX7_init_24 : decode cX7_init 24 = .ok (.aload_n 0, 1) := by decide +kernel
theorem dX7_init_25 : decode cX7_init 25 = .ok (.iconst 0, 1) := by decide +kernel
theorem dX7_init_26 : decode cX7_init 26 = .ok (.aload_n 0, 1) := by decide +kernel
theorem dX7_init_27 : decode cX7_init 27 = .ok (.getfield 21, 3) := by decide +kernel
theorem dX7_init_30 : decode cX7_init 30 = .ok (.arraylength, 1) := by decide +kernel
theorem dX7_init_31 : decode cX7_init 31 = .ok (.aload_n 0, 1) := by decide +kernel
theorem dX7_init_32 : decode cX7_init 32 = .ok (.getfield 15, 3) := by decide +kernel
theorem dX7_init_35 : decode cX7_init 35 = .ok (.imul, 1) := by decide +kernel
theorem dX7_init_36 : decode cX7_init 36 = .ok (.invokestatic 9, 3) := by decide +kernel
theorem dX7_init_39 : decode cX7_init 39 = .ok (.newarray .int, 2) := by decide +kernel
theorem dX7_init_41 : decode cX7_init 41 = .ok (.putfield 25, 3) := by decide +kernel
theorem dX7_init_44 : decode cX7_init 44 = .ok (.iconst 0, 1) := by decide +kernel
theorem dX7_init_45 : decode cX7_init 45 = .ok (.istore_n 3, 1) := by decide +kernel
theorem dX7_init_46 : decode cX7_init 46 = .ok (.iload_n 3, 1) := by decide +kernel
theorem dX7_init_47 : decode cX7_init 47 = .ok (.aload_n 0, 1) := by decide +kernel
theorem dX7_init_48 : decode cX7_init 48 = .ok (.getfield 21, 3) := by decide +kernel
theorem dX7_init_51 : decode cX7_init 51 = .ok (.arraylength, 1) := by decide +kernel
theorem dX7_init_52 : decode cX7_init 52 = .ok (.if_icmp .ge 16, 3) := by decide +kernel
theorem dX7_init_55 : decode cX7_init 55 = .ok (.aload_n 0, 1) := by decide +kernel
theorem dX7_init_56 : decode cX7_init 56 = .ok (.getfield 21, 3) := by decide +kernel
theorem dX7_init_59 : decode cX7_init 59 = .ok (.iload_n 3, 1) := by decide +kernel
theorem dX7_init_60 : decode cX7_init 60 = .ok (.iconst (-1), 1) := by decide +kernel
theorem dX7_init_61 : decode cX7_init 61 = .ok (.iastore, 1) := by decide +kernel
theorem dX7_init_62 : decode cX7_init 62 = .ok (.iinc 3 1, 3) := by decide +kernel
theorem dX7_init_65 : decode cX7_init 65 = .ok (.goto (-19), 3) := by decide +kernel
theorem dX7_init_68 : decode cX7_init 68 = .ok (.return_, 1) := by decide +kernel
theorem dX7_names_0 : decode cX7_names 0 = .ok (.iload_n 1, 1) := by decide +kernel
theorem dX7_names_1 : decode cX7_names 1 = .ok (.ifCond .lt 16, 3) := by decide +kernel
theorem dX7_names_4 : decode cX7_names 4 = .ok (.iload_n 1, 1) := by decide +kernel
theorem dX7_names_5 : decode cX7_names 5 = .ok (.aload_n 0, 1) := by decide +kernel
theorem dX7_names_6 : decode cX7_names 6 = .ok (.getfield 21, 3) := by decide +kernel
theorem dX7_names_9 : decode cX7_names 9 = .ok (.arraylength, 1) := by decide +kernel
theorem dX7_names_10 : decode cX7_names 10 = .ok (.if_icmp .ge 7, 3) := by decide +kernel
theorem dX7_names_13 : decode cX7_names 13 = .ok (.iconst 1, 1) := by decide +kernel
theorem dX7_names_14 : decode cX7_names 14 = .ok (.goto 4, 3) := by decide +kernel
theorem dX7_names_17 : decode cX7_names 17 = .ok (.iconst 0, 1) := by decide +kernel
theorem dX7_names_18 : decode cX7_names 18 = .ok (.ireturn, 1) := by decide +kernel
theorem dX7_sizeOf_0 : decode cX7_sizeOf 0 = .ok (.iload_n 1, 1) := by decide +kernel
theorem dX7_sizeOf_1 : decode cX7_sizeOf 1 = .ok (.ifCond .lt 21, 3) := by decide +kernel
theorem dX7_sizeOf_4 : decode cX7_sizeOf 4 = .ok (.iload_n 1, 1) := by decide +kernel
theorem dX7_sizeOf_5 : decode cX7_sizeOf 5 = .ok (.aload_n 0, 1) := by decide +kernel
theorem dX7_sizeOf_6 : decode cX7_sizeOf 6 = .ok (.getfield 21, 3) := by decide +kernel
theorem dX7_sizeOf_9 : decode cX7_sizeOf 9 = .ok (.arraylength, 1) := by decide +kernel
theorem dX7_sizeOf_10 : decode cX7_sizeOf 10 = .ok (.if_icmp .ge 12, 3) := by decide +kernel
theorem dX7_sizeOf_13 : decode cX7_sizeOf 13 = .ok (.aload_n 0, 1) := by decide +kernel
theorem dX7_sizeOf_14 : decode cX7_sizeOf 14 = .ok (.getfield 21, 3) := by decide +kernel
theorem dX7_sizeOf_17 : decode cX7_sizeOf 17 = .ok (.iload_n 1, 1) := by decide +kernel
theorem dX7_sizeOf_18 : decode cX7_sizeOf 18 = .ok (.iaload, 1) := by decide +kernel
theorem dX7_sizeOf_19 : decode cX7_sizeOf 19 = .ok (.goto 4, 3) := by decide +kernel
theorem dX7_sizeOf_22 : decode cX7_sizeOf 22 = .ok (.iconst (-1), 1) := by decide +kernel
theorem dX7_sizeOf_23 : decode cX7_sizeOf 23 = .ok (.ireturn, 1) := by decide +kernel
theorem dX7_isThere_0 : decode cX7_isThere 0 = .ok (.aload_n 0, 1) := by decide +kernel
theorem dX7_isThere_1 : decode cX7_isThere 1 = .ok (.iload_n 1, 1) := by decide +kernel
theorem dX7_isThere_2 : decode cX7_isThere 2 = .ok (.invokevirtual 28, 3) := by decide +kernel
theorem dX7_isThere_5 : decode cX7_isThere 5 = .ok (.iconst (-1), 1) := by decide +kernel
theorem dX7_isThere_6 : decode cX7_isThere 6 = .ok (.if_icmp .eq 7, 3) := by decide +kernel
theorem dX7_isThere_9 : decode cX7_isThere 9 = .ok (.iconst 1, 1) := by decide +kernel
theorem dX7_isThere_10 : decode cX7_isThere 10 = .ok (.goto 4, 3) := by decide +kernel
theorem dX7_isThere_13 : decode cX7_isThere 13 = .ok (.iconst 0, 1) := by decide +kernel
theorem dX7_isThere_14 : decode cX7_isThere 14 = .ok (.ireturn, 1) := by decide +kernel
theorem dX7_hasPlace_0 : decode cX7_hasPlace 0 = .ok (.iload_n 2, 1) := by decide +kernel
theorem dX7_hasPlace_1 : decode cX7_hasPlace 1 = .ok (.ifCond .lt 16, 3) := by decide +kernel
theorem dX7_hasPlace_4 : decode cX7_hasPlace 4 = .ok (.iload_n 2, 1) := by decide +kernel
theorem dX7_hasPlace_5 : decode cX7_hasPlace 5 = .ok (.aload_n 0, 1) := by decide +kernel
theorem dX7_hasPlace_6 : decode cX7_hasPlace 6 = .ok (.iload_n 1, 1) := by decide +kernel
theorem dX7_hasPlace_7 : decode cX7_hasPlace 7 = .ok (.invokevirtual 28, 3) := by decide +kernel
theorem dX7_hasPlace_10 : decode cX7_hasPlace 10 = .ok (.if_icmp .ge 7, 3) := by decide +kernel
theorem dX7_hasPlace_13 : decode cX7_hasPlace 13 = .ok (.iconst 1, 1) := by decide +kernel
theorem dX7_hasPlace_14 : decode cX7_hasPlace 14 = .ok (.goto 4, 3) := by decide +kernel
theorem dX7_hasPlace_17 : decode cX7_hasPlace 17 = .ok (.iconst 0, 1) := by decide +kernel
theorem dX7_hasPlace_18 : decode cX7_hasPlace 18 = .ok (.ireturn, 1) := by decide +kernel
theorem dX7_cell_0 : decode cX7_cell 0 = .ok (.iload_n 1, 1) := by decide +kernel
theorem dX7_cell_1 : decode cX7_cell 1 = .ok (.aload_n 0, 1) := by decide +kernel
theorem dX7_cell_2 : decode cX7_cell 2 = .ok (.getfield 15, 3) := by decide +kernel
theorem dX7_cell_5 : decode cX7_cell 5 = .ok (.imul, 1) := by decide +kernel
theorem dX7_cell_6 : decode cX7_cell 6 = .ok (.iload_n 2, 1) := by decide +kernel
theorem dX7_cell_7 : decode cX7_cell 7 = .ok (.iadd, 1) := by decide +kernel
theorem dX7_cell_8 : decode cX7_cell 8 = .ok (.istore_n 3, 1) := by decide +kernel
theorem dX7_cell_9 : decode cX7_cell 9 = .ok (.aload_n 0, 1) := by decide +kernel
theorem dX7_cell_10 : decode cX7_cell 10 = .ok (.iload_n 1, 1) := by decide +kernel
theorem dX7_cell_11 : decode cX7_cell 11 = .ok (.iload_n 2, 1) := by decide +kernel
theorem dX7_cell_12 : decode cX7_cell 12 = .ok (.invokevirtual 32, 3) := by decide +kernel
theorem dX7_cell_15 : decode cX7_cell 15 = .ok (.ifCond .eq 25, 3) := by decide +kernel
theorem dX7_cell_18 : decode cX7_cell 18 = .ok (.iload_n 3, 1) := by decide +kernel
theorem dX7_cell_19 : decode cX7_cell 19 = .ok (.ifCond .lt 21, 3) := by decide +kernel
theorem dX7_cell_22 : decode cX7_cell 22 = .ok (.iload_n 3, 1) := by decide +kernel
theorem dX7_cell_23 : decode cX7_cell 23 = .ok (.aload_n 0, 1) := by decide +kernel
theorem dX7_cell_24 : decode cX7_cell 24 = .ok (.getfield 25, 3) := by decide +kernel
theorem dX7_cell_27 : decode cX7_cell 27 = .ok (.arraylength, 1) := by decide +kernel
theorem dX7_cell_28 : decode cX7_cell 28 = .ok (.if_icmp .ge 12, 3) := by decide +kernel
theorem dX7_cell_31 : decode cX7_cell 31 = .ok (.aload_n 0, 1) := by decide +kernel
theorem dX7_cell_32 : decode cX7_cell 32 = .ok (.getfield 25, 3) := by decide +kernel
theorem dX7_cell_35 : decode cX7_cell 35 = .ok (.iload_n 3, 1) := by decide +kernel
theorem dX7_cell_36 : decode cX7_cell 36 = .ok (.iaload, 1) := by decide +kernel
theorem dX7_cell_37 : decode cX7_cell 37 = .ok (.goto 4, 3) := by decide +kernel
theorem dX7_cell_40 : decode cX7_cell 40 = .ok (.iconst 0, 1) := by decide +kernel
theorem dX7_cell_41 : decode cX7_cell 41 = .ok (.ireturn, 1) := by decide +kernel
theorem dX7_setCell_0 : decode cX7_setCell 0 = .ok (.iload_n 1, 1) := by decide +kernel
theorem dX7_setCell_1 : decode cX7_setCell 1 = .ok (.aload_n 0, 1) := by decide +kernel
theorem dX7_setCell_2 : decode cX7_setCell 2 = .ok (.getfield 15, 3) := by decide +kernel
theorem dX7_setCell_5 : decode cX7_setCell 5 = .ok (.imul, 1) := by decide +kernel
theorem dX7_setCell_6 : decode cX7_setCell 6 = .ok (.iload_n 2, 1) := by decide +kernel
theorem dX7_setCell_7 : decode cX7_setCell 7 = .ok (.iadd, 1) := by decide +kernel
theorem dX7_setCell_8 : decode cX7_setCell 8 = .ok (.istore 4, 2) := by decide +kernel
theorem dX7_setCell_10 : decode cX7_setCell 10 = .ok (.aload_n 0, 1) := by decide +kernel
theorem dX7_setCell_11 : decode cX7_setCell 11 = .ok (.iload_n 1, 1) := by decide +kernel
theorem dX7_setCell_12 : decode cX7_setCell 12 = .ok (.iload_n 2, 1) := by decide +kernel
theorem dX7_setCell_13 : decode cX7_setCell 13 = .ok (.invokevirtual 32, 3) := by decide +kernel
theorem dX7_setCell_16 : decode cX7_setCell 16 = .ok (.ifCond .eq 26, 3) := by decide +kernel
theorem dX7_setCell_19 : decode cX7_setCell 19 = .ok (.iload 4, 2) := by decide +kernel
theorem dX7_setCell_21 : decode cX7_setCell 21 = .ok (.ifCond .lt 21, 3) := by decide +kernel
theorem dX7_setCell_24 : decode cX7_setCell 24 = .ok (.iload 4, 2) := by decide +kernel
theorem dX7_setCell_26 : decode cX7_setCell 26 = .ok (.aload_n 0, 1) := by decide +kernel
theorem dX7_setCell_27 : decode cX7_setCell 27 = .ok (.getfield 25, 3) := by decide +kernel
theorem dX7_setCell_30 : decode cX7_setCell 30 = .ok (.arraylength, 1) := by decide +kernel
theorem dX7_setCell_31 : decode cX7_setCell 31 = .ok (.if_icmp .ge 11, 3) := by decide +kernel
theorem dX7_setCell_34 : decode cX7_setCell 34 = .ok (.aload_n 0, 1) := by decide +kernel
theorem dX7_setCell_35 : decode cX7_setCell 35 = .ok (.getfield 25, 3) := by decide +kernel
theorem dX7_setCell_38 : decode cX7_setCell 38 = .ok (.iload 4, 2) := by decide +kernel
theorem dX7_setCell_40 : decode cX7_setCell 40 = .ok (.iload_n 3, 1) := by decide +kernel
theorem dX7_setCell_41 : decode cX7_setCell 41 = .ok (.iastore, 1) := by decide +kernel
theorem dX7_setCell_42 : decode cX7_setCell 42 = .ok (.return_, 1) := by decide +kernel
theorem dX7_make_0 : decode cX7_make 0 = .ok (.iload_n 1, 1) := by decide +kernel
theorem dX7_make_1 : decode cX7_make 1 = .ok (.ifCond .lt 54, 3) := by decide +kernel
theorem dX7_make_4 : decode cX7_make 4 = .ok (.iload_n 1, 1) := by decide +kernel
theorem dX7_make_5 : decode cX7_make 5 = .ok (.aload_n 0, 1) := by decide +kernel
theorem dX7_make_6 : decode cX7_make 6 = .ok (.getfield 21, 3) := by decide +kernel
theorem dX7_make_9 : decode cX7_make 9 = .ok (.arraylength, 1) := by decide +kernel
theorem dX7_make_10 : decode cX7_make 10 = .ok (.if_icmp .ge 45, 3) := by decide +kernel
theorem dX7_make_13 : decode cX7_make 13 = .ok (.iload_n 2, 1) := by decide +kernel
theorem dX7_make_14 : decode cX7_make 14 = .ok (.ifCond .lt 41, 3) := by decide +kernel
theorem dX7_make_17 : decode cX7_make 17 = .ok (.iload_n 2, 1) := by decide +kernel
theorem dX7_make_18 : decode cX7_make 18 = .ok (.aload_n 0, 1) := by decide +kernel
theorem dX7_make_19 : decode cX7_make 19 = .ok (.getfield 15, 3) := by decide +kernel
theorem dX7_make_22 : decode cX7_make 22 = .ok (.if_icmp .gt 33, 3) := by decide +kernel
theorem dX7_make_25 : decode cX7_make 25 = .ok (.aload_n 0, 1) := by decide +kernel
theorem dX7_make_26 : decode cX7_make 26 = .ok (.getfield 21, 3) := by decide +kernel
theorem dX7_make_29 : decode cX7_make 29 = .ok (.iload_n 1, 1) := by decide +kernel
theorem dX7_make_30 : decode cX7_make 30 = .ok (.iload_n 2, 1) := by decide +kernel
theorem dX7_make_31 : decode cX7_make 31 = .ok (.iastore, 1) := by decide +kernel
theorem dX7_make_32 : decode cX7_make 32 = .ok (.iconst 0, 1) := by decide +kernel
theorem dX7_make_33 : decode cX7_make 33 = .ok (.istore 4, 2) := by decide +kernel
theorem dX7_make_35 : decode cX7_make 35 = .ok (.iload 4, 2) := by decide +kernel
theorem dX7_make_37 : decode cX7_make 37 = .ok (.iload_n 2, 1) := by decide +kernel
theorem dX7_make_38 : decode cX7_make 38 = .ok (.if_icmp .ge 17, 3) := by decide +kernel
theorem dX7_make_41 : decode cX7_make 41 = .ok (.aload_n 0, 1) := by decide +kernel
theorem dX7_make_42 : decode cX7_make 42 = .ok (.iload_n 1, 1) := by decide +kernel
theorem dX7_make_43 : decode cX7_make 43 = .ok (.iload 4, 2) := by decide +kernel
theorem dX7_make_45 : decode cX7_make 45 = .ok (.iload_n 3, 1) := by decide +kernel
theorem dX7_make_46 : decode cX7_make 46 = .ok (.invokevirtual 36, 3) := by decide +kernel
theorem dX7_make_49 : decode cX7_make 49 = .ok (.iinc 4 1, 3) := by decide +kernel
theorem dX7_make_52 : decode cX7_make 52 = .ok (.goto (-17), 3) := by decide +kernel
theorem dX7_make_55 : decode cX7_make 55 = .ok (.return_, 1) := by decide +kernel
theorem dX7_allWithin_0 : decode cX7_allWithin 0 = .ok (.iconst 0, 1) := by decide +kernel
theorem dX7_allWithin_1 : decode cX7_allWithin 1 = .ok (.istore 4, 2) := by decide +kernel
theorem dX7_allWithin_3 : decode cX7_allWithin 3 = .ok (.iload 4, 2) := by decide +kernel
theorem dX7_allWithin_5 : decode cX7_allWithin 5 = .ok (.aload_n 0, 1) := by decide +kernel
theorem dX7_allWithin_6 : decode cX7_allWithin 6 = .ok (.iload_n 1, 1) := by decide +kernel
theorem dX7_allWithin_7 : decode cX7_allWithin 7 = .ok (.invokevirtual 28, 3) := by decide +kernel
theorem dX7_allWithin_10 : decode cX7_allWithin 10 = .ok (.if_icmp .ge 33, 3) := by decide +kernel
theorem dX7_allWithin_13 : decode cX7_allWithin 13 = .ok (.aload_n 0, 1) := by decide +kernel
theorem dX7_allWithin_14 : decode cX7_allWithin 14 = .ok (.iload_n 1, 1) := by decide +kernel
theorem dX7_allWithin_15 : decode cX7_allWithin 15 = .ok (.iload 4, 2) := by decide +kernel
theorem dX7_allWithin_17 : decode cX7_allWithin 17 = .ok (.invokevirtual 40, 3) := by decide +kernel
theorem dX7_allWithin_20 : decode cX7_allWithin 20 = .ok (.iload_n 2, 1) := by decide +kernel
theorem dX7_allWithin_21 : decode cX7_allWithin 21 = .ok (.if_icmp .lt 14, 3) := by decide +kernel
theorem dX7_allWithin_24 : decode cX7_allWithin 24 = .ok (.aload_n 0, 1) := by decide +kernel
theorem dX7_allWithin_25 : decode cX7_allWithin 25 = .ok (.iload_n 1, 1) := by decide +kernel
theorem dX7_allWithin_26 : decode cX7_allWithin 26 = .ok (.iload 4, 2) := by decide +kernel
theorem dX7_allWithin_28 : decode cX7_allWithin 28 = .ok (.invokevirtual 40, 3) := by decide +kernel
theorem dX7_allWithin_31 : decode cX7_allWithin 31 = .ok (.iload_n 3, 1) := by decide +kernel
theorem dX7_allWithin_32 : decode cX7_allWithin 32 = .ok (.if_icmp .le 5, 3) := by decide +kernel
theorem dX7_allWithin_35 : decode cX7_allWithin 35 = .ok (.iconst 0, 1) := by decide +kernel
theorem dX7_allWithin_36 : decode cX7_allWithin 36 = .ok (.ireturn, 1) := by decide +kernel
theorem dX7_allWithin_37 : decode cX7_allWithin 37 = .ok (.iinc 4 1, 3) := by decide +kernel
theorem dX7_allWithin_40 : decode cX7_allWithin 40 = .ok (.goto (-37), 3) := by decide +kernel
theorem dX7_allWithin_43 : decode cX7_allWithin 43 = .ok (.iconst 1, 1) := by decide +kernel
theorem dX7_allWithin_44 : decode cX7_allWithin 44 = .ok (.ireturn, 1) := by decide +kernel
theorem dX7_numberThere_0 : decode cX7_numberThere 0 = .ok (.iconst 0, 1) := by decide +kernel
theorem dX7_numberThere_1 : decode cX7_numberThere 1 = .ok (.istore_n 1, 1) := by decide +kernel
theorem dX7_numberThere_2 : decode cX7_numberThere 2 = .ok (.iconst 0, 1) := by decide +kernel
theorem dX7_numberThere_3 : decode cX7_numberThere 3 = .ok (.istore_n 2, 1) := by decide +kernel
theorem dX7_numberThere_4 : decode cX7_numberThere 4 = .ok (.iload_n 2, 1) := by decide +kernel
theorem dX7_numberThere_5 : decode cX7_numberThere 5 = .ok (.aload_n 0, 1) := by decide +kernel
theorem dX7_numberThere_6 : decode cX7_numberThere 6 = .ok (.getfield 21, 3) := by decide +kernel
theorem dX7_numberThere_9 : decode cX7_numberThere 9 = .ok (.arraylength, 1) := by decide +kernel
theorem dX7_numberThere_10 : decode cX7_numberThere 10 = .ok (.if_icmp .ge 20, 3) := by decide +kernel
theorem dX7_numberThere_13 : decode cX7_numberThere 13 = .ok (.aload_n 0, 1) := by decide +kernel
theorem dX7_numberThere_14 : decode cX7_numberThere 14 = .ok (.iload_n 2, 1) := by decide +kernel
theorem dX7_numberThere_15 : decode cX7_numberThere 15 = .ok (.invokevirtual 43, 3) := by decide +kernel
theorem dX7_numberThere_18 : decode cX7_numberThere 18 = .ok (.ifCond .eq 6, 3) := by decide +kernel
theorem dX7_numberThere_21 : decode cX7_numberThere 21 = .ok (.iinc 1 1, 3) := by decide +kernel
theorem dX7_numberThere_24 : decode cX7_numberThere 24 = .ok (.iinc 2 1, 3) := by decide +kernel
theorem dX7_numberThere_27 : decode cX7_numberThere 27 = .ok (.goto (-23), 3) := by decide +kernel
theorem dX7_numberThere_30 : decode cX7_numberThere 30 = .ok (.iload_n 1, 1) := by decide +kernel
theorem dX7_numberThere_31 : decode cX7_numberThere 31 = .ok (.ireturn, 1) := by decide +kernel
theorem dX8_init_0 : decode cX8_init 0 = .ok (.aload_n 0, 1) := by decide +kernel
theorem dX8_init_1 : decode cX8_init 1 = .ok (.invokespecial 3, 3) := by decide +kernel
theorem dX8_init_4 : decode cX8_init 4 = .ok (.aload_n 0, 1) := by decide +kernel
theorem dX8_init_5 : decode cX8_init 5 = .ok (.sipush 4608, 3) := by decide +kernel
theorem dX8_init_8 : decode cX8_init 8 = .ok (.newarray .long, 2) := by decide +kernel
theorem dX8_init_10 : decode cX8_init 10 = .ok (.putfield 11, 3) := by decide +kernel
theorem dX8_init_13 : decode cX8_init 13 = .ok (.aload_n 0, 1) := by decide +kernel
theorem dX8_init_14 : decode cX8_init 14 = .ok (.sipush 4608, 3) := by decide +kernel
theorem dX8_init_17 : decode cX8_init 17 = .ok (.newarray .int, 2) := by decide +kernel
theorem dX8_init_19 : decode cX8_init 19 = .ok (.putfield 15, 3) := by decide +kernel
theorem dX8_init_22 : decode cX8_init 22 = .ok (.aload_n 0, 1) := by decide +kernel
theorem dX8_init_23 : decode cX8_init 23 = .ok (.iconst 0, 1) := by decide +kernel
theorem dX8_init_24 : decode cX8_init 24 = .ok (.putfield 19, 3) := by decide +kernel
theorem dX8_init_27 : decode cX8_init 27 = .ok (.aload_n 0, 1) := by decide +kernel
theorem dX8_init_28 : decode cX8_init 28 = .ok (.lconst 0, 1) := by decide +kernel
theorem dX8_init_29 : decode cX8_init 29 = .ok (.putfield 23, 3) := by decide +kernel
theorem dX8_init_32 : decode cX8_init 32 = .ok (.return_, 1) := by decide +kernel
theorem dX8_clear_0 : decode cX8_clear 0 = .ok (.iconst 0, 1) := by decide +kernel
theorem dX8_clear_1 : decode cX8_clear 1 = .ok (.istore_n 1, 1) := by decide +kernel
theorem dX8_clear_2 : decode cX8_clear 2 = .ok (.iload_n 1, 1) := by decide +kernel
theorem dX8_clear_3 : decode cX8_clear 3 = .ok (.aload_n 0, 1) := by decide +kernel
theorem dX8_clear_4 : decode cX8_clear 4 = .ok (.getfield 19, 3) := by decide +kernel
theorem dX8_clear_7 : decode cX8_clear 7 = .ok (.if_icmp .ge 44, 3) := by decide +kernel
theorem dX8_clear_10 : decode cX8_clear 10 = .ok (.iload_n 1, 1) := by decide +kernel
theorem dX8_clear_11 : decode cX8_clear 11 = .ok (.aload_n 0, 1) := by decide +kernel
theorem dX8_clear_12 : decode cX8_clear 12 = .ok (.getfield 15, 3) := by decide +kernel
theorem dX8_clear_15 : decode cX8_clear 15 = .ok (.arraylength, 1) := by decide +kernel
theorem dX8_clear_16 : decode cX8_clear 16 = .ok (.if_icmp .ge 35, 3) := by decide +kernel
theorem dX8_clear_19 : decode cX8_clear 19 = .ok (.aload_n 0, 1) := by decide +kernel
theorem dX8_clear_20 : decode cX8_clear 20 = .ok (.iload_n 1, 1) := by decide +kernel
theorem dX8_clear_21 : decode cX8_clear 21 = .ok (.invokevirtual 27, 3) := by decide +kernel
theorem dX8_clear_24 : decode cX8_clear 24 = .ok (.istore_n 2, 1) := by decide +kernel
theorem dX8_clear_25 : decode cX8_clear 25 = .ok (.iload_n 2, 1) := by decide +kernel
theorem dX8_clear_26 : decode cX8_clear 26 = .ok (.ifCond .lt 19, 3) := by decide +kernel
theorem dX8_clear_29 : decode cX8_clear 29 = .ok (.iload_n 2, 1) := by decide +kernel
theorem dX8_clear_30 : decode cX8_clear 30 = .ok (.aload_n 0, 1) := by decide +kernel
theorem dX8_clear_31 : decode cX8_clear 31 = .ok (.getfield 11, 3) := by decide +kernel
theorem dX8_clear_34 : decode cX8_clear 34 = .ok (.arraylength, 1) := by decide +kernel
theorem dX8_clear_35 : decode cX8_clear 35 = .ok (.if_icmp .ge 10, 3) := by decide +kernel
theorem dX8_clear_38 : decode cX8_clear 38 = .ok (.aload_n 0, 1) := by decide +kernel
theorem dX8_clear_39 : decode cX8_clear 39 = .ok (.getfield 11, 3) := by decide +kernel
theorem dX8_clear_42 : decode cX8_clear 42 = .ok (.iload_n 2, 1) := by decide +kernel
theorem dX8_clear_43 : decode cX8_clear 43 = .ok (.lconst 0, 1) := by decide +kernel
theorem dX8_clear_44 : decode cX8_clear 44 = .ok (.lastore, 1) := by decide +kernel
theorem dX8_clear_45 : decode cX8_clear 45 = .ok (.iinc 1 1, 3) := by decide +kernel
theorem dX8_clear_48 : decode cX8_clear 48 = .ok (.goto (-46), 3) := by decide +kernel
theorem dX8_clear_51 : decode cX8_clear 51 = .ok (.aload_n 0, 1) := by decide +kernel
theorem dX8_clear_52 : decode cX8_clear 52 = .ok (.iconst 0, 1) := by decide +kernel
theorem dX8_clear_53 : decode cX8_clear 53 = .ok (.putfield 19, 3) := by decide +kernel
theorem dX8_clear_56 : decode cX8_clear 56 = .ok (.aload_n 0, 1) := by decide +kernel
theorem dX8_clear_57 : decode cX8_clear 57 = .ok (.lconst 0, 1) := by decide +kernel
theorem dX8_clear_58 : decode cX8_clear 58 = .ok (.putfield 23, 3) := by decide +kernel
theorem dX8_clear_61 : decode cX8_clear 61 = .ok (.return_, 1) := by decide +kernel
theorem dX8_keyAt_0 : decode cX8_keyAt 0 = .ok (.iload_n 1, 1) := by decide +kernel
theorem dX8_keyAt_1 : decode cX8_keyAt 1 = .ok (.ifCond .lt 29, 3) := by decide +kernel
theorem dX8_keyAt_4 : decode cX8_keyAt 4 = .ok (.iload_n 1, 1) := by decide +kernel
theorem dX8_keyAt_5 : decode cX8_keyAt 5 = .ok (.aload_n 0, 1) := by decide +kernel
theorem dX8_keyAt_6 : decode cX8_keyAt 6 = .ok (.getfield 19, 3) := by decide +kernel
theorem dX8_keyAt_9 : decode cX8_keyAt 9 = .ok (.if_icmp .ge 21, 3) := by decide +kernel
theorem dX8_keyAt_12 : decode cX8_keyAt 12 = .ok (.iload_n 1, 1) := by decide +kernel
theorem dX8_keyAt_13 : decode cX8_keyAt 13 = .ok (.aload_n 0, 1) := by decide +kernel
theorem dX8_keyAt_14 : decode cX8_keyAt 14 = .ok (.getfield 15, 3) := by decide +kernel
theorem dX8_keyAt_17 : decode cX8_keyAt 17 = .ok (.arraylength, 1) := by decide +kernel
theorem dX8_keyAt_18 : decode cX8_keyAt 18 = .ok (.if_icmp .ge 12, 3) := by decide +kernel
theorem dX8_keyAt_21 : decode cX8_keyAt 21 = .ok (.aload_n 0, 1) := by decide +kernel
theorem dX8_keyAt_22 : decode cX8_keyAt 22 = .ok (.getfield 15, 3) := by decide +kernel
theorem dX8_keyAt_25 : decode cX8_keyAt 25 = .ok (.iload_n 1, 1) := by decide +kernel
theorem dX8_keyAt_26 : decode cX8_keyAt 26 = .ok (.iaload, 1) := by decide +kernel
theorem dX8_keyAt_27 : decode cX8_keyAt 27 = .ok (.goto 4, 3) := by decide +kernel
theorem dX8_keyAt_30 : decode cX8_keyAt 30 = .ok (.iconst 0, 1) := by decide +kernel
theorem dX8_keyAt_31 : decode cX8_keyAt 31 = .ok (.ireturn, 1) := by decide +kernel
theorem dX8_partOf_0 : decode cX8_partOf 0 = .ok (.iload_n 1, 1) := by decide +kernel
theorem dX8_partOf_1 : decode cX8_partOf 1 = .ok (.ifCond .lt 21, 3) := by decide +kernel
theorem dX8_partOf_4 : decode cX8_partOf 4 = .ok (.iload_n 1, 1) := by decide +kernel
theorem dX8_partOf_5 : decode cX8_partOf 5 = .ok (.aload_n 0, 1) := by decide +kernel
theorem dX8_partOf_6 : decode cX8_partOf 6 = .ok (.getfield 11, 3) := by decide +kernel
theorem dX8_partOf_9 : decode cX8_partOf 9 = .ok (.arraylength, 1) := by decide +kernel
theorem dX8_partOf_10 : decode cX8_partOf 10 = .ok (.if_icmp .ge 12, 3) := by decide +kernel
theorem dX8_partOf_13 : decode cX8_partOf 13 = .ok (.aload_n 0, 1) := by decide +kernel
theorem dX8_partOf_14 : decode cX8_partOf 14 = .ok (.getfield 11, 3) := by decide +kernel
theorem dX8_partOf_17 : decode cX8_partOf 17 = .ok (.iload_n 1, 1) := by decide +kernel
theorem dX8_partOf_18 : decode cX8_partOf 18 = .ok (.laload, 1) := by decide +kernel
theorem dX8_partOf_19 : decode cX8_partOf 19 = .ok (.goto 4, 3) := by decide +kernel
theorem dX8_partOf_22 : decode cX8_partOf 22 = .ok (.lconst 0, 1) := by decide +kernel
theorem dX8_partOf_23 : decode cX8_partOf 23 = .ok (.lreturn, 1) := by decide +kernel
theorem dX8_deskOf_0 : decode cX8_deskOf 0 = .ok (.iload_n 0, 1) := by decide +kernel
theorem dX8_deskOf_1 : decode cX8_deskOf 1 = .ok (.bipush 9, 2) := by decide +kernel
theorem dX8_deskOf_3 : decode cX8_deskOf 3 = .ok (.irem, 1) := by decide +kernel
theorem dX8_deskOf_4 : decode cX8_deskOf 4 = .ok (.ireturn, 1) := by decide +kernel
theorem dX8_crossedOf_0 : decode cX8_crossedOf 0 = .ok (.iload_n 0, 1) := by decide +kernel
theorem dX8_crossedOf_1 : decode cX8_crossedOf 1 = .ok (.bipush 9, 2) := by decide +kernel
theorem dX8_crossedOf_3 : decode cX8_crossedOf 3 = .ok (.idiv, 1) := by decide +kernel
theorem dX8_crossedOf_4 : decode cX8_crossedOf 4 = .ok (.ireturn, 1) := by decide +kernel
theorem dX8_add_0 : decode cX8_add 0 = .ok (.iload_n 2, 1) := by decide +kernel
theorem dX8_add_1 : decode cX8_add 1 = .ok (.bipush 9, 2) := by decide +kernel
theorem dX8_add_3 : decode cX8_add 3 = .ok (.imul, 1) := by decide +kernel
theorem dX8_add_4 : decode cX8_add 4 = .ok (.iload_n 1, 1) := by decide +kernel
theorem dX8_add_5 : decode cX8_add 5 = .ok (.iadd, 1) := by decide +kernel
theorem dX8_add_6 : decode cX8_add 6 = .ok (.istore 5, 2) := by decide +kernel
theorem dX8_add_8 : decode cX8_add 8 = .ok (.lload_n 3, 1) := by decide +kernel
theorem dX8_add_9 : decode cX8_add 9 = .ok (.lconst 0, 1) := by decide +kernel
theorem dX8_add_10 : decode cX8_add 10 = .ok (.lcmp, 1) := by decide +kernel
theorem dX8_add_11 : decode cX8_add 11 = .ok (.ifCond .le 74, 3) := by decide +kernel
theorem dX8_add_14 : decode cX8_add 14 = .ok (.iload 5, 2) := by decide +kernel
theorem dX8_add_16 : decode cX8_add 16 = .ok (.ifCond .lt 69, 3) := by decide +kernel
theorem dX8_add_19 : decode cX8_add 19 = .ok (.iload 5, 2) := by decide +kernel
theorem dX8_add_21 : decode cX8_add 21 = .ok (.aload_n 0, 1) := by decide +kernel
theorem dX8_add_22 : decode cX8_add 22 = .ok (.getfield 11, 3) := by decide +kernel
theorem dX8_add_25 : decode cX8_add 25 = .ok (.arraylength, 1) := by decide +kernel
theorem dX8_add_26 : decode cX8_add 26 = .ok (.if_icmp .ge 59, 3) := by decide +kernel
theorem dX8_add_29 : decode cX8_add 29 = .ok (.aload_n 0, 1) := by decide +kernel
theorem dX8_add_30 : decode cX8_add 30 = .ok (.getfield 11, 3) := by decide +kernel
theorem dX8_add_33 : decode cX8_add 33 = .ok (.iload 5, 2) := by decide +kernel
theorem dX8_add_35 : decode cX8_add 35 = .ok (.laload, 1) := by decide +kernel
theorem dX8_add_36 : decode cX8_add 36 = .ok (.lconst 0, 1) := by decide +kernel
theorem dX8_add_37 : decode cX8_add 37 = .ok (.lcmp, 1) := by decide +kernel
theorem dX8_add_38 : decode cX8_add 38 = .ok (.ifCond .ne 36, 3) := by decide +kernel
theorem dX8_add_41 : decode cX8_add 41 = .ok (.aload_n 0, 1) := by decide +kernel
theorem dX8_add_42 : decode cX8_add 42 = .ok (.getfield 19, 3) := by decide +kernel
theorem dX8_add_45 : decode cX8_add 45 = .ok (.aload_n 0, 1) := by decide +kernel
theorem dX8_add_46 : decode cX8_add 46 = .ok (.getfield 15, 3) := by decide +kernel
theorem dX8_add_49 : decode cX8_add 49 = .ok (.arraylength, 1) := by decide +kernel
theorem dX8_add_50 : decode cX8_add 50 = .ok (.if_icmp .ge 24, 3) := by decide +kernel
theorem dX8_add_53 : decode cX8_add 53 = .ok (.aload_n 0, 1) := by decide +kernel
theorem dX8_add_54 : decode cX8_add 54 = .ok (.getfield 15, 3) := by decide +kernel
theorem dX8_add_57 : decode cX8_add 57 = .ok (.aload_n 0, 1) := by decide +kernel
theorem dX8_add_58 : decode cX8_add 58 = .ok (.getfield 19, 3) := by decide +kernel
theorem dX8_add_61 : decode cX8_add 61 = .ok (.iload 5, 2) := by decide +kernel
theorem dX8_add_63 : decode cX8_add 63 = .ok (.iastore, 1) := by decide +kernel
theorem dX8_add_64 : decode cX8_add 64 = .ok (.aload_n 0, 1) := by decide +kernel
theorem dX8_add_65 : decode cX8_add 65 = .ok (.dup, 1) := by decide +kernel
theorem dX8_add_66 : decode cX8_add 66 = .ok (.getfield 19, 3) := by decide +kernel
theorem dX8_add_69 : decode cX8_add 69 = .ok (.iconst 1, 1) := by decide +kernel
theorem dX8_add_70 : decode cX8_add 70 = .ok (.iadd, 1) := by decide +kernel
theorem dX8_add_71 : decode cX8_add 71 = .ok (.putfield 19, 3) := by decide +kernel
theorem dX8_add_74 : decode cX8_add 74 = .ok (.aload_n 0, 1) := by decide +kernel
theorem dX8_add_75 : decode cX8_add 75 = .ok (.getfield 11, 3) := by decide +kernel
theorem dX8_add_78 : decode cX8_add 78 = .ok (.iload 5, 2) := by decide +kernel
theorem dX8_add_80 : decode cX8_add 80 = .ok (.dup2, 1) := by decide +kernel
theorem dX8_add_81 : decode cX8_add 81 = .ok (.laload, 1) := by decide +kernel
theorem dX8_add_82 : decode cX8_add 82 = .ok (.lload_n 3, 1) := by decide +kernel
theorem dX8_add_83 : decode cX8_add 83 = .ok (.ladd, 1) := by decide +kernel
theorem dX8_add_84 : decode cX8_add 84 = .ok (.lastore, 1) := by decide +kernel
theorem dX8_add_85 : decode cX8_add 85 = .ok (.return_, 1) := by decide +kernel
theorem dX9_init_0 : decode cX9_init 0 = .ok (.aload_n 0, 1) := by decide +kernel
theorem dX9_init_1 : decode cX9_init 1 = .ok (.invokespecial 3, 3) := by decide +kernel
theorem dX9_init_4 : decode cX9_init 4 = .ok (.aload_n 0, 1) := by decide +kernel
theorem dX9_init_5 : decode cX9_init 5 = .ok (.bipush 9, 2) := by decide +kernel
theorem dX9_init_7 : decode cX9_init 7 = .ok (.newarray .int, 2) := by decide +kernel
theorem dX9_init_9 : decode cX9_init 9 = .ok (.putfield 9, 3) := by decide +kernel
theorem dX9_init_12 : decode cX9_init 12 = .ok (.aload_n 0, 1) := by decide +kernel
theorem dX9_init_13 : decode cX9_init 13 = .ok (.iconst 0, 1) := by decide +kernel
theorem dX9_init_14 : decode cX9_init 14 = .ok (.putfield 15, 3) := by decide +kernel
theorem dX9_init_17 : decode cX9_init 17 = .ok (.aload_n 0, 1) := by decide +kernel
theorem dX9_init_18 : decode cX9_init 18 = .ok (.iconst 0, 1) := by decide +kernel
theorem dX9_init_19 : decode cX9_init 19 = .ok (.putfield 19, 3) := by decide +kernel
theorem dX9_init_22 : decode cX9_init 22 = .ok (.aload_n 0, 1) := by decide +kernel
theorem dX9_init_23 : decode cX9_init 23 = .ok (.iconst 0, 1) := by decide +kernel
theorem dX9_init_24 : decode cX9_init 24 = .ok (.putfield 22, 3) := by decide +kernel
theorem dX9_init_27 : decode cX9_init 27 = .ok (.aload_n 0, 1) := by decide +kernel
theorem dX9_init_28 : decode cX9_init 28 = .ok (.iconst (-1), 1) := by decide +kernel
theorem dX9_init_29 : decode cX9_init 29 = .ok (.putfield 25, 3) := by decide +kernel
theorem dX9_init_32 : decode cX9_init 32 = .ok (.aload_n 0, 1) := by decide +kernel
theorem dX9_init_33 : decode cX9_init 33 = .ok (.iconst 0, 1) := by decide +kernel
theorem dX9_init_34 : decode cX9_init 34 = .ok (.putfield 28, 3) := by decide +kernel
theorem dX9_init_37 : decode cX9_init 37 = .ok (.return_, 1) := by decide +kernel
theorem dX9_signerAt_0 : decode cX9_signerAt 0 = .ok (.iload_n 1, 1) := by decide +kernel
theorem dX9_signerAt_1 : decode cX9_signerAt 1 = .ok (.ifCond .lt 29, 3) := by decide +kernel
theorem dX9_signerAt_4 : decode cX9_signerAt 4 = .ok (.iload_n 1, 1) := by decide +kernel
theorem dX9_signerAt_5 : decode cX9_signerAt 5 = .ok (.aload_n 0, 1) := by decide +kernel
theorem dX9_signerAt_6 : decode cX9_signerAt 6 = .ok (.getfield 15, 3) := by decide +kernel
theorem dX9_signerAt_9 : decode cX9_signerAt 9 = .ok (.if_icmp .ge 21, 3) := by decide +kernel
theorem dX9_signerAt_12 : decode cX9_signerAt 12 = .ok (.iload_n 1, 1) := by decide +kernel
theorem dX9_signerAt_13 : decode cX9_signerAt 13 = .ok (.aload_n 0, 1) := by decide +kernel
theorem dX9_signerAt_14 : decode cX9_signerAt 14 = .ok (.getfield 9, 3) := by decide +kernel
theorem dX9_signerAt_17 : decode cX9_signerAt 17 = .ok (.arraylength, 1) := by decide +kernel
theorem dX9_signerAt_18 : decode cX9_signerAt 18 = .ok (.if_icmp .ge 12, 3) := by decide +kernel
theorem dX9_signerAt_21 : decode cX9_signerAt 21 = .ok (.aload_n 0, 1) := by decide +kernel
theorem dX9_signerAt_22 : decode cX9_signerAt 22 = .ok (.getfield 9, 3) := by decide +kernel
theorem dX9_signerAt_25 : decode cX9_signerAt 25 = .ok (.iload_n 1, 1) := by decide +kernel
theorem dX9_signerAt_26 : decode cX9_signerAt 26 = .ok (.iaload, 1) := by decide +kernel
theorem dX9_signerAt_27 : decode cX9_signerAt 27 = .ok (.goto 4, 3) := by decide +kernel
theorem dX9_signerAt_30 : decode cX9_signerAt 30 = .ok (.iconst 0, 1) := by decide +kernel
theorem dX9_signerAt_31 : decode cX9_signerAt 31 = .ok (.ireturn, 1) := by decide +kernel
theorem dX9_passHour_0 : decode cX9_passHour 0 = .ok (.aload_n 0, 1) := by decide +kernel
theorem dX9_passHour_1 : decode cX9_passHour 1 = .ok (.iconst 0, 1) := by decide +kernel
theorem dX9_passHour_2 : decode cX9_passHour 2 = .ok (.putfield 15, 3) := by decide +kernel
theorem dX9_passHour_5 : decode cX9_passHour 5 = .ok (.aload_n 0, 1) := by decide +kernel
theorem dX9_passHour_6 : decode cX9_passHour 6 = .ok (.iload_n 2, 1) := by decide +kernel
theorem dX9_passHour_7 : decode cX9_passHour 7 = .ok (.putfield 19, 3) := by decide +kernel
theorem dX9_passHour_10 : decode cX9_passHour 10 = .ok (.aload_n 0, 1) := by decide +kernel
theorem dX9_passHour_11 : decode cX9_passHour 11 = .ok (.iload_n 3, 1) := by decide +kernel
theorem dX9_passHour_12 : decode cX9_passHour 12 = .ok (.putfield 22, 3) := by decide +kernel
theorem dX9_passHour_15 : decode cX9_passHour 15 = .ok (.aload_n 0, 1) := by decide +kernel
theorem dX9_passHour_16 : decode cX9_passHour 16 = .ok (.iconst (-1), 1) := by decide +kernel
theorem dX9_passHour_17 : decode cX9_passHour 17 = .ok (.putfield 25, 3) := by decide +kernel
theorem dX9_passHour_20 : decode cX9_passHour 20 = .ok (.aload_n 0, 1) := by decide +kernel
theorem dX9_passHour_21 : decode cX9_passHour 21 = .ok (.iconst 0, 1) := by decide +kernel
theorem dX9_passHour_22 : decode cX9_passHour 22 = .ok (.putfield 28, 3) := by decide +kernel
theorem dX9_passHour_25 : decode cX9_passHour 25 = .ok (.iconst 0, 1) := by decide +kernel
theorem dX9_passHour_26 : decode cX9_passHour 26 = .ok (.istore 6, 2) := by decide +kernel
theorem dX9_passHour_28 : decode cX9_passHour 28 = .ok (.iload 6, 2) := by decide +kernel
theorem dX9_passHour_30 : decode cX9_passHour 30 = .ok (.bipush 9, 2) := by decide +kernel
theorem dX9_passHour_32 : decode cX9_passHour 32 = .ok (.if_icmp .ge 104, 3) := by decide +kernel
theorem dX9_passHour_35 : decode cX9_passHour 35 = .ok (.aload_n 0, 1) := by decide +kernel
theorem dX9_passHour_36 : decode cX9_passHour 36 = .ok (.iconst (-1), 1) := by decide +kernel
theorem dX9_passHour_37 : decode cX9_passHour 37 = .ok (.putfield 25, 3) := by decide +kernel
theorem dX9_passHour_40 : decode cX9_passHour 40 = .ok (.aload_n 1, 1) := by decide +kernel
theorem dX9_passHour_41 : decode cX9_passHour 41 = .ok (.aload_n 0, 1) := by decide +kernel
theorem dX9_passHour_42 : decode cX9_passHour 42 = .ok (.getfield 19, 3) := by decide +kernel
theorem dX9_passHour_45 : decode cX9_passHour 45 = .ok (.iload 4, 2) := by decide +kernel
theorem dX9_passHour_47 : decode cX9_passHour 47 = .ok (.invokevirtual 31, 3) := by decide +kernel
theorem dX9_passHour_50 : decode cX9_passHour 50 = .ok (.ifCond .eq 4, 3) := by decide +kernel
theorem dX9_passHour_53 : decode cX9_passHour 53 = .ok (.return_, 1) := by decide +kernel
theorem dX9_passHour_54 : decode cX9_passHour 54 = .ok (.aload_n 0, 1) := by decide +kernel
theorem dX9_passHour_55 : decode cX9_passHour 55 = .ok (.invokevirtual 37, 3) := by decide +kernel
theorem dX9_passHour_58 : decode cX9_passHour 58 = .ok (.aload_n 0, 1) := by decide +kernel
theorem dX9_passHour_59 : decode cX9_passHour 59 = .ok (.aload_n 1, 1) := by decide +kernel
theorem dX9_passHour_60 : decode cX9_passHour 60 = .ok (.aload_n 0, 1) := by decide +kernel
theorem dX9_passHour_61 : decode cX9_passHour 61 = .ok (.getfield 19, 3) := by decide +kernel
theorem dX9_passHour_64 : decode cX9_passHour 64 = .ok (.aload_n 0, 1) := by decide +kernel
theorem dX9_passHour_65 : decode cX9_passHour 65 = .ok (.getfield 22, 3) := by decide +kernel
theorem dX9_passHour_68 : decode cX9_passHour 68 = .ok (.iload 4, 2) := by decide +kernel
theorem dX9_passHour_70 : decode cX9_passHour 70 = .ok (.iload 5, 2) := by decide +kernel
theorem dX9_passHour_72 : decode cX9_passHour 72 = .ok (.invokevirtual 40, 3) := by decide +kernel
theorem dX9_passHour_75 : decode cX9_passHour 75 = .ok (.putfield 25, 3) := by decide +kernel
theorem dX9_passHour_78 : decode cX9_passHour 78 = .ok (.aload_n 0, 1) := by decide +kernel
theorem dX9_passHour_79 : decode cX9_passHour 79 = .ok (.getfield 25, 3) := by decide +kernel
theorem dX9_passHour_82 : decode cX9_passHour 82 = .ok (.ifCond .lt 15, 3) := by decide +kernel
theorem dX9_passHour_85 : decode cX9_passHour 85 = .ok (.aload_n 1, 1) := by decide +kernel
theorem dX9_passHour_86 : decode cX9_passHour 86 = .ok (.aload_n 0, 1) := by decide +kernel
theorem dX9_passHour_87 : decode cX9_passHour 87 = .ok (.getfield 19, 3) := by decide +kernel
theorem dX9_passHour_90 : decode cX9_passHour 90 = .ok (.iconst 1, 1) := by decide +kernel
theorem dX9_passHour_91 : decode cX9_passHour 91 = .ok (.invokevirtual 44, 3) := by decide +kernel
theorem dX9_passHour_94 : decode cX9_passHour 94 = .ok (.ifCond .ne 28, 3) := by decide +kernel
theorem dX9_passHour_97 : decode cX9_passHour 97 = .ok (.aload_n 0, 1) := by decide +kernel
theorem dX9_passHour_98 : decode cX9_passHour 98 = .ok (.aload_n 0, 1) := by decide +kernel
theorem dX9_passHour_99 : decode cX9_passHour 99 = .ok (.getfield 25, 3) := by decide +kernel
theorem dX9_passHour_102 : decode cX9_passHour 102 = .ok (.iconst (-1), 1) := by decide +kernel
theorem dX9_passHour_103 : decode cX9_passHour 103 = .ok (.if_icmp .ne 7, 3) := by decide +kernel
theorem dX9_passHour_106 : decode cX9_passHour 106 = .ok (.iconst 0, 1) := by decide +kernel
theorem dX9_passHour_107 : decode cX9_passHour 107 = .ok (.goto 11, 3) := by decide +kernel
theorem dX9_passHour_110 : decode cX9_passHour 110 = .ok (.aload_n 1, 1) := by decide +kernel
theorem dX9_passHour_111 : decode cX9_passHour 111 = .ok (.aload_n 0, 1) := by decide +kernel
theorem dX9_passHour_112 : decode cX9_passHour 112 = .ok (.getfield 19, 3) := by decide +kernel
theorem dX9_passHour_115 : decode cX9_passHour 115 = .ok (.invokevirtual 47, 3) := by decide +kernel
theorem dX9_passHour_118 : decode cX9_passHour 118 = .ok (.putfield 28, 3) := by decide +kernel
theorem dX9_passHour_121 : decode cX9_passHour 121 = .ok (.return_, 1) := by decide +kernel
theorem dX9_passHour_122 : decode cX9_passHour 122 = .ok (.aload_n 0, 1) := by decide +kernel
theorem dX9_passHour_123 : decode cX9_passHour 123 = .ok (.aload_n 0, 1) := by decide +kernel
theorem dX9_passHour_124 : decode cX9_passHour 124 = .ok (.getfield 25, 3) := by decide +kernel
theorem dX9_passHour_127 : decode cX9_passHour 127 = .ok (.putfield 19, 3) := by decide +kernel
theorem dX9_passHour_130 : decode cX9_passHour 130 = .ok (.iinc 6 1, 3) := by decide +kernel
theorem dX9_passHour_133 : decode cX9_passHour 133 = .ok (.goto (-105), 3) := by decide +kernel
theorem dX9_passHour_136 : decode cX9_passHour 136 = .ok (.return_, 1) := by decide +kernel
theorem dX9_signHere_0 : decode cX9_signHere 0 = .ok (.aload_n 0, 1) := by decide +kernel
theorem dX9_signHere_1 : decode cX9_signHere 1 = .ok (.getfield 22, 3) := by decide +kernel
theorem dX9_signHere_4 : decode cX9_signHere 4 = .ok (.aload_n 0, 1) := by decide +kernel
theorem dX9_signHere_5 : decode cX9_signHere 5 = .ok (.getfield 19, 3) := by decide +kernel
theorem dX9_signHere_8 : decode cX9_signHere 8 = .ok (.ishr, 1) := by decide +kernel
theorem dX9_signHere_9 : decode cX9_signHere 9 = .ok (.iconst 1, 1) := by decide +kernel
theorem dX9_signHere_10 : decode cX9_signHere 10 = .ok (.iand, 1) := by decide +kernel
theorem dX9_signHere_11 : decode cX9_signHere 11 = .ok (.ifCond .ne 53, 3) := by decide +kernel
theorem dX9_signHere_14 : decode cX9_signHere 14 = .ok (.aload_n 0, 1) := by decide +kernel
theorem dX9_signHere_15 : decode cX9_signHere 15 = .ok (.getfield 15, 3) := by decide +kernel
theorem dX9_signHere_18 : decode cX9_signHere 18 = .ok (.aload_n 0, 1) := by decide +kernel
theorem dX9_signHere_19 : decode cX9_signHere 19 = .ok (.getfield 9, 3) := by decide +kernel
theorem dX9_signHere_22 : decode cX9_signHere 22 = .ok (.arraylength, 1) := by decide +kernel
theorem dX9_signHere_23 : decode cX9_signHere 23 = .ok (.if_icmp .ge 41, 3) := by decide +kernel
theorem dX9_signHere_26 : decode cX9_signHere 26 = .ok (.aload_n 0, 1) := by decide +kernel
theorem dX9_signHere_27 : decode cX9_signHere 27 = .ok (.getfield 9, 3) := by decide +kernel
theorem dX9_signHere_30 : decode cX9_signHere 30 = .ok (.aload_n 0, 1) := by decide +kernel
theorem dX9_signHere_31 : decode cX9_signHere 31 = .ok (.getfield 15, 3) := by decide +kernel
theorem dX9_signHere_34 : decode cX9_signHere 34 = .ok (.aload_n 0, 1) := by decide +kernel
theorem dX9_signHere_35 : decode cX9_signHere 35 = .ok (.getfield 19, 3) := by decide +kernel
theorem dX9_signHere_38 : decode cX9_signHere 38 = .ok (.iastore, 1) := by decide +kernel
theorem dX9_signHere_39 : decode cX9_signHere 39 = .ok (.aload_n 0, 1) := by decide +kernel
theorem dX9_signHere_40 : decode cX9_signHere 40 = .ok (.dup, 1) := by decide +kernel
theorem dX9_signHere_41 : decode cX9_signHere 41 = .ok (.getfield 15, 3) := by decide +kernel
theorem dX9_signHere_44 : decode cX9_signHere 44 = .ok (.iconst 1, 1) := by decide +kernel
theorem dX9_signHere_45 : decode cX9_signHere 45 = .ok (.iadd, 1) := by decide +kernel
theorem dX9_signHere_46 : decode cX9_signHere 46 = .ok (.putfield 15, 3) := by decide +kernel
theorem dX9_signHere_49 : decode cX9_signHere 49 = .ok (.aload_n 0, 1) := by decide +kernel
theorem dX9_signHere_50 : decode cX9_signHere 50 = .ok (.dup, 1) := by decide +kernel
theorem dX9_signHere_51 : decode cX9_signHere 51 = .ok (.getfield 22, 3) := by decide +kernel
theorem dX9_signHere_54 : decode cX9_signHere 54 = .ok (.iconst 1, 1) := by decide +kernel
theorem dX9_signHere_55 : decode cX9_signHere 55 = .ok (.aload_n 0, 1) := by decide +kernel
theorem dX9_signHere_56 : decode cX9_signHere 56 = .ok (.getfield 19, 3) := by decide +kernel
theorem dX9_signHere_59 : decode cX9_signHere 59 = .ok (.ishl, 1) := by decide +kernel
theorem dX9_signHere_60 : decode cX9_signHere 60 = .ok (.ior, 1) := by decide +kernel
theorem dX9_signHere_61 : decode cX9_signHere 61 = .ok (.putfield 22, 3) := by decide +kernel
theorem dX9_signHere_64 : decode cX9_signHere 64 = .ok (.return_, 1) := by decide +kernel
theorem dX10_init_0 : decode cX10_init 0 = .ok (.aload_n 0, 1) := by decide +kernel
theorem dX10_init_1 : decode cX10_init 1 = .ok (.invokespecial 3, 3) := by decide +kernel
theorem dX10_init_4 : decode cX10_init 4 = .ok (.aload_n 0, 1) := by decide +kernel
theorem dX10_init_5 : decode cX10_init 5 = .ok (.bipush 40, 2) := by decide +kernel
theorem dX10_init_7 : decode cX10_init 7 = .ok (.newarray .int, 2) := by decide +kernel
theorem dX10_init_9 : decode cX10_init 9 = .ok (.putfield 9, 3) := by decide +kernel
theorem dX10_init_12 : decode cX10_init 12 = .ok (.aload_n 0, 1) := by decide +kernel
theorem dX10_init_13 : decode cX10_init 13 = .ok (.sipush 360, 3) := by decide +kernel
theorem dX10_init_16 : decode cX10_init 16 = .ok (.newarray .int, 2) := by decide +kernel
theorem dX10_init_18 : decode cX10_init 18 = .ok (.putfield 15, 3) := by decide +kernel
theorem dX10_init_21 : decode cX10_init 21 = .ok (.aload_n 0, 1) := by decide +kernel
theorem dX10_init_22 : decode cX10_init 22 = .ok (.bipush 9, 2) := by decide +kernel
theorem dX10_init_24 : decode cX10_init 24 = .ok (.newarray .int, 2) := by decide +kernel
theorem dX10_init_26 : decode cX10_init 26 = .ok (.putfield 18, 3) := by decide +kernel
theorem dX10_init_29 : decode cX10_init 29 = .ok (.aload_n 0, 1) := by decide +kernel
theorem dX10_init_30 : decode cX10_init 30 = .ok (.iconst 0, 1) := by decide +kernel
theorem dX10_init_31 : decode cX10_init 31 = .ok (.putfield 21, 3) := by decide +kernel
theorem dX10_init_34 : decode cX10_init 34 = .ok (.return_, 1) := by decide +kernel
theorem dX10_add_0 : decode cX10_add 0 = .ok (.aload_n 0, 1) := by decide +kernel
theorem dX10_add_1 : decode cX10_add 1 = .ok (.getfield 21, 3) := by decide +kernel
theorem dX10_add_4 : decode cX10_add 4 = .ok (.ifCond .lt 15, 3) := by decide +kernel
theorem dX10_add_7 : decode cX10_add 7 = .ok (.aload_n 0, 1) := by decide +kernel
theorem dX10_add_8 : decode cX10_add 8 = .ok (.getfield 21, 3) := by decide +kernel
theorem dX10_add_11 : decode cX10_add 11 = .ok (.aload_n 0, 1) := by decide +kernel
theorem dX10_add_12 : decode cX10_add 12 = .ok (.getfield 9, 3) := by decide +kernel
theorem dX10_add_15 : decode cX10_add 15 = .ok (.arraylength, 1) := by decide +kernel
theorem dX10_add_16 : decode cX10_add 16 = .ok (.if_icmp .lt 6, 3) := by decide +kernel
theorem dX10_add_19 : decode cX10_add 19 = .ok (.bipush (-2), 2) := by decide +kernel
theorem dX10_add_21 : decode cX10_add 21 = .ok (.ireturn, 1) := by decide +kernel
theorem dX10_add_22 : decode cX10_add 22 = .ok (.aload_n 0, 1) := by decide +kernel
theorem dX10_add_23 : decode cX10_add 23 = .ok (.getfield 21, 3) := by decide +kernel
theorem dX10_add_26 : decode cX10_add 26 = .ok (.bipush 9, 2) := by decide +kernel
theorem dX10_add_28 : decode cX10_add 28 = .ok (.imul, 1) := by decide +kernel
theorem dX10_add_29 : decode cX10_add 29 = .ok (.istore 4, 2) := by decide +kernel
theorem dX10_add_31 : decode cX10_add 31 = .ok (.iconst 0, 1) := by decide +kernel
theorem dX10_add_32 : decode cX10_add 32 = .ok (.istore 5, 2) := by decide +kernel
theorem dX10_add_34 : decode cX10_add 34 = .ok (.iload 5, 2) := by decide +kernel
theorem dX10_add_36 : decode cX10_add 36 = .ok (.bipush 9, 2) := by decide +kernel
theorem dX10_add_38 : decode cX10_add 38 = .ok (.if_icmp .ge 22, 3) := by decide +kernel
theorem dX10_add_41 : decode cX10_add 41 = .ok (.aload_n 0, 1) := by decide +kernel
theorem dX10_add_42 : decode cX10_add 42 = .ok (.getfield 15, 3) := by decide +kernel
theorem dX10_add_45 : decode cX10_add 45 = .ok (.iload 4, 2) := by decide +kernel
theorem dX10_add_47 : decode cX10_add 47 = .ok (.iload 5, 2) := by decide +kernel
theorem dX10_add_49 : decode cX10_add 49 = .ok (.iadd, 1) := by decide +kernel
theorem dX10_add_50 : decode cX10_add 50 = .ok (.iconst 0, 1) := by decide +kernel
theorem dX10_add_51 : decode cX10_add 51 = .ok (.invokestatic 25, 3) := by decide +kernel
theorem dX10_add_54 : decode cX10_add 54 = .ok (.iinc 5 1, 3) := by decide +kernel
theorem dX10_add_57 : decode cX10_add 57 = .ok (.goto (-23), 3) := by decide +kernel
theorem dX10_add_60 : decode cX10_add 60 = .ok (.aload_n 0, 1) := by decide +kernel
theorem dX10_add_61 : decode cX10_add 61 = .ok (.getfield 9, 3) := by decide +kernel
theorem dX10_add_64 : decode cX10_add 64 = .ok (.aload_n 0, 1) := by decide +kernel
theorem dX10_add_65 : decode cX10_add 65 = .ok (.getfield 21, 3) := by decide +kernel
theorem dX10_add_68 : decode cX10_add 68 = .ok (.iload_n 3, 1) := by decide +kernel
theorem dX10_add_69 : decode cX10_add 69 = .ok (.iastore, 1) := by decide +kernel
theorem dX10_add_70 : decode cX10_add 70 = .ok (.aload_n 0, 1) := by decide +kernel
theorem dX10_add_71 : decode cX10_add 71 = .ok (.dup, 1) := by decide +kernel
theorem dX10_add_72 : decode cX10_add 72 = .ok (.getfield 21, 3) := by decide +kernel
theorem dX10_add_75 : decode cX10_add 75 = .ok (.iconst 1, 1) := by decide +kernel
theorem dX10_add_76 : decode cX10_add 76 = .ok (.iadd, 1) := by decide +kernel
theorem dX10_add_77 : decode cX10_add 77 = .ok (.putfield 21, 3) := by decide +kernel
theorem dX10_add_80 : decode cX10_add 80 = .ok (.aload_n 0, 1) := by decide +kernel
theorem dX10_add_81 : decode cX10_add 81 = .ok (.aload_n 1, 1) := by decide +kernel
theorem dX10_add_82 : decode cX10_add 82 = .ok (.aload_n 2, 1) := by decide +kernel
theorem dX10_add_83 : decode cX10_add 83 = .ok (.iload_n 3, 1) := by decide +kernel
theorem dX10_add_84 : decode cX10_add 84 = .ok (.aload_n 0, 1) := by decide +kernel
theorem dX10_add_85 : decode cX10_add 85 = .ok (.getfield 15, 3) := by decide +kernel
theorem dX10_add_88 : decode cX10_add 88 = .ok (.iload 4, 2) := by decide +kernel
theorem dX10_add_90 : decode cX10_add 90 = .ok (.invokevirtual 29, 3) := by decide +kernel
theorem dX10_add_93 : decode cX10_add 93 = .ok (.ireturn, 1) := by decide +kernel
theorem dX10_celebrate_0 : decode cX10_celebrate 0 = .ok (.aload_n 2, 1) := by decide +kernel
theorem dX10_celebrate_1 : decode cX10_celebrate 1 = .ok (.invokevirtual 33, 3) := by decide +kernel
theorem dX10_celebrate_4 : decode cX10_celebrate 4 = .ok (.iconst 0, 1) := by decide +kernel
theorem dX10_celebrate_5 : decode cX10_celebrate 5 = .ok (.istore 6, 2) := by decide +kernel
theorem dX10_celebrate_7 : decode cX10_celebrate 7 = .ok (.iload 6, 2) := by decide +kernel
theorem dX10_celebrate_9 : decode cX10_celebrate 9 = .ok (.aload_n 1, 1) := by decide +kernel
theorem dX10_celebrate_10 : decode cX10_celebrate 10 = .ok (.getfield 38, 3) := by decide +kernel
theorem dX10_celebrate_13 : decode cX10_celebrate 13 = .ok (.if_icmp .ge 53, 3) := by decide +kernel
theorem dX10_celebrate_16 : decode cX10_celebrate 16 = .ok (.iload 6, 2) := by decide +kernel
theorem dX10_celebrate_18 : decode cX10_celebrate 18 = .ok (.iload_n 3, 1) := by decide +kernel
theorem dX10_celebrate_19 : decode cX10_celebrate 19 = .ok (.if_icmp .eq 41, 3) := by decide +kernel
theorem dX10_celebrate_22 : decode cX10_celebrate 22 = .ok (.aload_n 2, 1) := by decide +kernel
theorem dX10_celebrate_23 : decode cX10_celebrate 23 = .ok (.aload_n 1, 1) := by decide +kernel
theorem dX10_celebrate_24 : decode cX10_celebrate 24 = .ok (.iload 6, 2) := by decide +kernel
theorem dX10_celebrate_26 : decode cX10_celebrate 26 = .ok (.invokevirtual 41, 3) := by decide +kernel
theorem dX10_celebrate_29 : decode cX10_celebrate 29 = .ok (.istore 7, 2) := by decide +kernel
theorem dX10_celebrate_31 : decode cX10_celebrate 31 = .ok (.aload_n 2, 1) := by decide +kernel
theorem dX10_celebrate_32 : decode cX10_celebrate 32 = .ok (.iload 7, 2) := by decide +kernel
theorem dX10_celebrate_34 : decode cX10_celebrate 34 = .ok (.invokevirtual 45, 3) := by decide +kernel
theorem dX10_celebrate_37 : decode cX10_celebrate 37 = .ok (.aload 4, 2) := by decide +kernel
theorem dX10_celebrate_39 : decode cX10_celebrate 39 = .ok (.iload 5, 2) := by decide +kernel
theorem dX10_celebrate_41 : decode cX10_celebrate 41 = .ok (.iload 6, 2) := by decide +kernel
theorem dX10_celebrate_43 : decode cX10_celebrate 43 = .ok (.iadd, 1) := by decide +kernel
theorem dX10_celebrate_44 : decode cX10_celebrate 44 = .ok (.aload 4, 2) := by decide +kernel
theorem dX10_celebrate_46 : decode cX10_celebrate 46 = .ok (.iload 5, 2) := by decide +kernel
theorem dX10_celebrate_48 : decode cX10_celebrate 48 = .ok (.iload 6, 2) := by decide +kernel
theorem dX10_celebrate_50 : decode cX10_celebrate 50 = .ok (.iadd, 1) := by decide +kernel
theorem dX10_celebrate_51 : decode cX10_celebrate 51 = .ok (.invokestatic 49, 3) := by decide +kernel
theorem dX10_celebrate_54 : decode cX10_celebrate 54 = .ok (.iload 7, 2) := by decide +kernel
theorem dX10_celebrate_56 : decode cX10_celebrate 56 = .ok (.isub, 1) := by decide +kernel
theorem dX10_celebrate_57 : decode cX10_celebrate 57 = .ok (.invokestatic 25, 3) := by decide +kernel
theorem dX10_celebrate_60 : decode cX10_celebrate 60 = .ok (.iinc 6 1, 3) := by decide +kernel
theorem dX10_celebrate_63 : decode cX10_celebrate 63 = .ok (.goto (-56), 3) := by decide +kernel
theorem dX10_celebrate_66 : decode cX10_celebrate 66 = .ok (.aload 4, 2) := by decide +kernel
theorem dX10_celebrate_68 : decode cX10_celebrate 68 = .ok (.iload 5, 2) := by decide +kernel
theorem dX10_celebrate_70 : decode cX10_celebrate 70 = .ok (.iload_n 3, 1) := by decide +kernel
theorem dX10_celebrate_71 : decode cX10_celebrate 71 = .ok (.iadd, 1) := by decide +kernel
theorem dX10_celebrate_72 : decode cX10_celebrate 72 = .ok (.aload 4, 2) := by decide +kernel
theorem dX10_celebrate_74 : decode cX10_celebrate 74 = .ok (.iload 5, 2) := by decide +kernel
theorem dX10_celebrate_76 : decode cX10_celebrate 76 = .ok (.iload_n 3, 1) := by decide +kernel
theorem dX10_celebrate_77 : decode cX10_celebrate 77 = .ok (.iadd, 1) := by decide +kernel
theorem dX10_celebrate_78 : decode cX10_celebrate 78 = .ok (.invokestatic 49, 3) := by decide +kernel
theorem dX10_celebrate_81 : decode cX10_celebrate 81 = .ok (.aload_n 2, 1) := by decide +kernel
theorem dX10_celebrate_82 : decode cX10_celebrate 82 = .ok (.getfield 53, 3) := by decide +kernel
theorem dX10_celebrate_85 : decode cX10_celebrate 85 = .ok (.iadd, 1) := by decide +kernel
theorem dX10_celebrate_86 : decode cX10_celebrate 86 = .ok (.invokestatic 25, 3) := by decide +kernel
theorem dX10_celebrate_89 : decode cX10_celebrate 89 = .ok (.aload_n 2, 1) := by decide +kernel
theorem dX10_celebrate_90 : decode cX10_celebrate 90 = .ok (.getfield 53, 3) := by decide +kernel
theorem dX10_celebrate_93 : decode cX10_celebrate 93 = .ok (.ireturn, 1) := by decide +kernel
theorem dX10_balanceOf_0 : decode cX10_balanceOf 0 = .ok (.iconst 0, 1) := by decide +kernel
theorem dX10_balanceOf_1 : decode cX10_balanceOf 1 = .ok (.istore_n 2, 1) := by decide +kernel
theorem dX10_balanceOf_2 : decode cX10_balanceOf 2 = .ok (.iconst 0, 1) := by decide +kernel
theorem dX10_balanceOf_3 : decode cX10_balanceOf 3 = .ok (.istore_n 3, 1) := by decide +kernel
theorem dX10_balanceOf_4 : decode cX10_balanceOf 4 = .ok (.iload_n 3, 1) := by decide +kernel
theorem dX10_balanceOf_5 : decode cX10_balanceOf 5 = .ok (.aload_n 0, 1) := by decide +kernel
theorem dX10_balanceOf_6 : decode cX10_balanceOf 6 = .ok (.getfield 21, 3) := by decide +kernel
theorem dX10_balanceOf_9 : decode cX10_balanceOf 9 = .ok (.if_icmp .ge 25, 3) := by decide +kernel
theorem dX10_balanceOf_12 : decode cX10_balanceOf 12 = .ok (.iload_n 2, 1) := by decide +kernel
theorem dX10_balanceOf_13 : decode cX10_balanceOf 13 = .ok (.aload_n 0, 1) := by decide +kernel
theorem dX10_balanceOf_14 : decode cX10_balanceOf 14 = .ok (.getfield 15, 3) := by decide +kernel
theorem dX10_balanceOf_17 : decode cX10_balanceOf 17 = .ok (.iload_n 3, 1) := by decide +kernel
theorem dX10_balanceOf_18 : decode cX10_balanceOf 18 = .ok (.bipush 9, 2) := by decide +kernel
theorem dX10_balanceOf_20 : decode cX10_balanceOf 20 = .ok (.imul, 1) := by decide +kernel
theorem dX10_balanceOf_21 : decode cX10_balanceOf 21 = .ok (.iload_n 1, 1) := by decide +kernel
theorem dX10_balanceOf_22 : decode cX10_balanceOf 22 = .ok (.iadd, 1) := by decide +kernel
theorem dX10_balanceOf_23 : decode cX10_balanceOf 23 = .ok (.invokestatic 49, 3) := by decide +kernel
theorem dX10_balanceOf_26 : decode cX10_balanceOf 26 = .ok (.iadd, 1) := by decide +kernel
theorem dX10_balanceOf_27 : decode cX10_balanceOf 27 = .ok (.istore_n 2, 1) := by decide +kernel
theorem dX10_balanceOf_28 : decode cX10_balanceOf 28 = .ok (.iinc 3 1, 3) := by decide +kernel
theorem dX10_balanceOf_31 : decode cX10_balanceOf 31 = .ok (.goto (-27), 3) := by decide +kernel
theorem dX10_balanceOf_34 : decode cX10_balanceOf 34 = .ok (.iload_n 2, 1) := by decide +kernel
theorem dX10_balanceOf_35 : decode cX10_balanceOf 35 = .ok (.ireturn, 1) := by decide +kernel
theorem dX10_apartAfter_0 : decode cX10_apartAfter 0 = .ok (.iconst 0, 1) := by decide +kernel
theorem dX10_apartAfter_1 : decode cX10_apartAfter 1 = .ok (.istore 5, 2) := by decide +kernel
theorem dX10_apartAfter_3 : decode cX10_apartAfter 3 = .ok (.iload 5, 2) := by decide +kernel
theorem dX10_apartAfter_5 : decode cX10_apartAfter 5 = .ok (.aload_n 0, 1) := by decide +kernel
theorem dX10_apartAfter_6 : decode cX10_apartAfter 6 = .ok (.getfield 18, 3) := by decide +kernel
theorem dX10_apartAfter_9 : decode cX10_apartAfter 9 = .ok (.arraylength, 1) := by decide +kernel
theorem dX10_apartAfter_10 : decode cX10_apartAfter 10 = .ok (.if_icmp .ge 17, 3) := by decide +kernel
theorem dX10_apartAfter_13 : decode cX10_apartAfter 13 = .ok (.aload_n 0, 1) := by decide +kernel
theorem dX10_apartAfter_14 : decode cX10_apartAfter 14 = .ok (.getfield 18, 3) := by decide +kernel
theorem dX10_apartAfter_17 : decode cX10_apartAfter 17 = .ok (.iload 5, 2) := by decide +kernel
theorem dX10_apartAfter_19 : decode cX10_apartAfter 19 = .ok (.iconst 0, 1) := by decide +kernel
theorem dX10_apartAfter_20 : decode cX10_apartAfter 20 = .ok (.iastore, 1) := by decide +kernel
theorem dX10_apartAfter_21 : decode cX10_apartAfter 21 = .ok (.iinc 5 1, 3) := by decide +kernel
theorem dX10_apartAfter_24 : decode cX10_apartAfter 24 = .ok (.goto (-21), 3) := by decide +kernel
theorem dX10_apartAfter_27 : decode cX10_apartAfter 27 = .ok (.iconst 0, 1) := by decide +kernel
theorem dX10_apartAfter_28 : decode cX10_apartAfter 28 = .ok (.istore 5, 2) := by decide +kernel
theorem dX10_apartAfter_30 : decode cX10_apartAfter 30 = .ok (.iload 5, 2) := by decide +kernel
theorem dX10_apartAfter_32 : decode cX10_apartAfter 32 = .ok (.aload_n 3, 1) := by decide +kernel
theorem dX10_apartAfter_33 : decode cX10_apartAfter 33 = .ok (.iload 4, 2) := by decide +kernel
theorem dX10_apartAfter_35 : decode cX10_apartAfter 35 = .ok (.invokevirtual 56, 3) := by decide +kernel
theorem dX10_apartAfter_38 : decode cX10_apartAfter 38 = .ok (.if_icmp .ge 29, 3) := by decide +kernel
theorem dX10_apartAfter_41 : decode cX10_apartAfter 41 = .ok (.aload_n 0, 1) := by decide +kernel
theorem dX10_apartAfter_42 : decode cX10_apartAfter 42 = .ok (.aload_n 1, 1) := by decide +kernel
theorem dX10_apartAfter_43 : decode cX10_apartAfter 43 = .ok (.aload_n 2, 1) := by decide +kernel
theorem dX10_apartAfter_44 : decode cX10_apartAfter 44 = .ok (.aload_n 3, 1) := by decide +kernel
theorem dX10_apartAfter_45 : decode cX10_apartAfter 45 = .ok (.iload 4, 2) := by decide +kernel
theorem dX10_apartAfter_47 : decode cX10_apartAfter 47 = .ok (.iload 5, 2) := by decide +kernel
theorem dX10_apartAfter_49 : decode cX10_apartAfter 49 = .ok (.invokevirtual 62, 3) := by decide +kernel
theorem dX10_apartAfter_52 : decode cX10_apartAfter 52 = .ok (.aload_n 0, 1) := by decide +kernel
theorem dX10_apartAfter_53 : decode cX10_apartAfter 53 = .ok (.getfield 18, 3) := by decide +kernel
theorem dX10_apartAfter_56 : decode cX10_apartAfter 56 = .ok (.iconst 0, 1) := by decide +kernel
theorem dX10_apartAfter_57 : decode cX10_apartAfter 57 = .ok (.invokevirtual 29, 3) := by decide +kernel
theorem dX10_apartAfter_60 : decode cX10_apartAfter 60 = .ok (.pop, 1) := by decide +kernel
theorem dX10_apartAfter_61 : decode cX10_apartAfter 61 = .ok (.iinc 5 1, 3) := by decide +kernel
theorem dX10_apartAfter_64 : decode cX10_apartAfter 64 = .ok (.goto (-34), 3) := by decide +kernel
theorem dX10_apartAfter_67 : decode cX10_apartAfter 67 = .ok (.aload_n 0, 1) := by decide +kernel
theorem dX10_apartAfter_68 : decode cX10_apartAfter 68 = .ok (.getfield 18, 3) := by decide +kernel
theorem dX10_apartAfter_71 : decode cX10_apartAfter 71 = .ok (.iconst 0, 1) := by decide +kernel
theorem dX10_apartAfter_72 : decode cX10_apartAfter 72 = .ok (.invokestatic 49, 3) := by decide +kernel
theorem dX10_apartAfter_75 : decode cX10_apartAfter 75 = .ok (.istore 5, 2) := by decide +kernel
theorem dX10_apartAfter_77 : decode cX10_apartAfter 77 = .ok (.iload 5, 2) := by decide +kernel
theorem dX10_apartAfter_79 : decode cX10_apartAfter 79 = .ok (.istore 6, 2) := by decide +kernel
theorem dX10_apartAfter_81 : decode cX10_apartAfter 81 = .ok (.iconst 1, 1) := by decide +kernel
theorem dX10_apartAfter_82 : decode cX10_apartAfter 82 = .ok (.istore 7, 2) := by decide +kernel
theorem dX10_apartAfter_84 : decode cX10_apartAfter 84 = .ok (.iload 7, 2) := by decide +kernel
theorem dX10_apartAfter_86 : decode cX10_apartAfter 86 = .ok (.aload_n 1, 1) := by decide +kernel
theorem dX10_apartAfter_87 : decode cX10_apartAfter 87 = .ok (.getfield 38, 3) := by decide +kernel
theorem dX10_apartAfter_90 : decode cX10_apartAfter 90 = .ok (.if_icmp .ge 41, 3) := by decide +kernel
theorem dX10_apartAfter_93 : decode cX10_apartAfter 93 = .ok (.iload 5, 2) := by decide +kernel
theorem dX10_apartAfter_95 : decode cX10_apartAfter 95 = .ok (.aload_n 0, 1) := by decide +kernel
theorem dX10_apartAfter_96 : decode cX10_apartAfter 96 = .ok (.getfield 18, 3) := by decide +kernel
theorem dX10_apartAfter_99 : decode cX10_apartAfter 99 = .ok (.iload 7, 2) := by decide +kernel
theorem dX10_apartAfter_101 : decode cX10_apartAfter 101 = .ok (.invokestatic 49, 3) := by decide +kernel
theorem dX10_apartAfter_104 : decode cX10_apartAfter 104 = .ok (.invokestatic 65, 3) := by decide +kernel
theorem dX10_apartAfter_107 : decode cX10_apartAfter 107 = .ok (.istore 5, 2) := by decide +kernel
theorem dX10_apartAfter_109 : decode cX10_apartAfter 109 = .ok (.iload 6, 2) := by decide +kernel
theorem dX10_apartAfter_111 : decode cX10_apartAfter 111 = .ok (.aload_n 0, 1) := by decide +kernel
theorem dX10_apartAfter_112 : decode cX10_apartAfter 112 = .ok (.getfield 18, 3) := by decide +kernel
theorem dX10_apartAfter_115 : decode cX10_apartAfter 115 = .ok (.iload 7, 2) := by decide +kernel
theorem dX10_apartAfter_117 : decode cX10_apartAfter 117 = .ok (.invokestatic 49, 3) := by decide +kernel
theorem dX10_apartAfter_120 : decode cX10_apartAfter 120 = .ok (.invokestatic 70, 3) := by decide +kernel
theorem dX10_apartAfter_123 : decode cX10_apartAfter 123 = .ok (.istore 6, 2) := by decide +kernel
theorem dX10_apartAfter_125 : decode cX10_apartAfter 125 = .ok (.iinc 7 1, 3) := by decide +kernel
theorem dX10_apartAfter_128 : decode cX10_apartAfter 128 = .ok (.goto (-44), 3) := by decide +kernel
theorem dX10_apartAfter_131 : decode cX10_apartAfter 131 = .ok (.iload 5, 2) := by decide +kernel
theorem dX10_apartAfter_133 : decode cX10_apartAfter 133 = .ok (.iload 6, 2) := by decide +kernel
theorem dX10_apartAfter_135 : decode cX10_apartAfter 135 = .ok (.isub, 1) := by decide +kernel
theorem dX10_apartAfter_136 : decode cX10_apartAfter 136 = .ok (.ireturn, 1) := by decide +kernel
theorem dX10_cell_0 : decode cX10_cell 0 = .ok (.iload_n 1, 1) := by decide +kernel
theorem dX10_cell_1 : decode cX10_cell 1 = .ok (.ifCond .lt 15, 3) := by decide +kernel
theorem dX10_cell_4 : decode cX10_cell 4 = .ok (.iload_n 1, 1) := by decide +kernel
theorem dX10_cell_5 : decode cX10_cell 5 = .ok (.aload_n 0, 1) := by decide +kernel
theorem dX10_cell_6 : decode cX10_cell 6 = .ok (.arraylength, 1) := by decide +kernel
theorem dX10_cell_7 : decode cX10_cell 7 = .ok (.if_icmp .ge 9, 3) := by decide +kernel
theorem dX10_cell_10 : decode cX10_cell 10 = .ok (.aload_n 0, 1) := by decide +kernel
theorem dX10_cell_11 : decode cX10_cell 11 = .ok (.iload_n 1, 1) := by decide +kernel
theorem dX10_cell_12 : decode cX10_cell 12 = .ok (.iaload, 1) := by decide +kernel
theorem dX10_cell_13 : decode cX10_cell 13 = .ok (.goto 4, 3) := by decide +kernel
theorem dX10_cell_16 : decode cX10_cell 16 = .ok (.iconst 0, 1) := by decide +kernel
theorem dX10_cell_17 : decode cX10_cell 17 = .ok (.ireturn, 1) := by decide +kernel
theorem dX10_setCell_0 : decode cX10_setCell 0 = .ok (.iload_n 1, 1) := by decide +kernel
theorem dX10_setCell_1 : decode cX10_setCell 1 = .ok (.ifCond .lt 13, 3) := by decide +kernel
theorem dX10_setCell_4 : decode cX10_setCell 4 = .ok (.iload_n 1, 1) := by decide +kernel
theorem dX10_setCell_5 : decode cX10_setCell 5 = .ok (.aload_n 0, 1) := by decide +kernel
theorem dX10_setCell_6 : decode cX10_setCell 6 = .ok (.arraylength, 1) := by decide +kernel
theorem dX10_setCell_7 : decode cX10_setCell 7 = .ok (.if_icmp .ge 7, 3) := by decide +kernel
theorem dX10_setCell_10 : decode cX10_setCell 10 = .ok (.aload_n 0, 1) := by decide +kernel
theorem dX10_setCell_11 : decode cX10_setCell 11 = .ok (.iload_n 1, 1) := by decide +kernel
theorem dX10_setCell_12 : decode cX10_setCell 12 = .ok (.iload_n 2, 1) := by decide +kernel
theorem dX10_setCell_13 : decode cX10_setCell 13 = .ok (.iastore, 1) := by decide +kernel
theorem dX10_setCell_14 : decode cX10_setCell 14 = .ok (.return_, 1) := by decide +kernel
theorem dX11_init_0 : decode cX11_init 0 = .ok (.aload_n 0, 1) := by decide +kernel
theorem dX11_init_1 : decode cX11_init 1 = .ok (.invokespecial 1, 3) := by decide +kernel
theorem dX11_init_4 : decode cX11_init 4 = .ok (.aload_n 0, 1) := by decide +kernel
theorem dX11_init_5 : decode cX11_init 5 = .ok (.new 7, 3) := by decide +kernel
theorem dX11_init_8 : decode cX11_init 8 = .ok (.dup, 1) := by decide +kernel
theorem dX11_init_9 : decode cX11_init 9 = .ok (.bipush 6, 2) := by decide +kernel
theorem dX11_init_11 : decode cX11_init 11 = .ok (.bipush 40, 2) := by decide +kernel
theorem dX11_init_13 : decode cX11_init 13 = .ok (.invokespecial 11, 3) := by decide +kernel
theorem dX11_init_16 : decode cX11_init 16 = .ok (.putfield 14, 3) := by decide +kernel
theorem dX11_init_19 : decode cX11_init 19 = .ok (.aload_n 0, 1) := by decide +kernel
theorem dX11_init_20 : decode cX11_init 20 = .ok (.new 7, 3) := by decide +kernel
theorem dX11_init_23 : decode cX11_init 23 = .ok (.dup, 1) := by decide +kernel
theorem dX11_init_24 : decode cX11_init 24 = .ok (.iconst 4, 1) := by decide +kernel
theorem dX11_init_25 : decode cX11_init 25 = .ok (.bipush 100, 2) := by decide +kernel
theorem dX11_init_27 : decode cX11_init 27 = .ok (.invokespecial 11, 3) := by decide +kernel
theorem dX11_init_30 : decode cX11_init 30 = .ok (.putfield 18, 3) := by decide +kernel
theorem dX11_init_33 : decode cX11_init 33 = .ok (.aload_n 0, 1) := by decide +kernel
theorem dX11_init_34 : decode cX11_init 34 = .ok (.new 21, 3) := by decide +kernel
theorem dX11_init_37 : decode cX11_init 37 = .ok (.dup, 1) := by decide +kernel
theorem dX11_init_38 : decode cX11_init 38 = .ok (.invokespecial 23, 3) := by decide +kernel
theorem dX11_init_41 : decode cX11_init 41 = .ok (.putfield 24, 3) := by decide +kernel
theorem dX11_init_44 : decode cX11_init 44 = .ok (.aload_n 0, 1) := by decide +kernel
theorem dX11_init_45 : decode cX11_init 45 = .ok (.new 21, 3) := by decide +kernel
theorem dX11_init_48 : decode cX11_init 48 = .ok (.dup, 1) := by decide +kernel
theorem dX11_init_49 : decode cX11_init 49 = .ok (.invokespecial 23, 3) := by decide +kernel
theorem dX11_init_52 : decode cX11_init 52 = .ok (.putfield 28, 3) := by decide +kernel
theorem dX11_init_55 : decode cX11_init 55 = .ok (.aload_n 0, 1) := by decide +kernel
theorem dX11_init_56 : decode cX11_init 56 = .ok (.new 31, 3) := by decide +kernel
theorem dX11_init_59 : decode cX11_init 59 = .ok (.dup, 1) := by decide +kernel
theorem dX11_init_60 : decode cX11_init 60 = .ok (.invokespecial 33, 3) := by decide +kernel
theorem dX11_init_63 : decode cX11_init 63 = .ok (.putfield 34, 3) := by decide +kernel
theorem dX11_init_66 : decode cX11_init 66 = .ok (.aload_n 0, 1) := by decide +kernel
theorem dX11_init_67 : decode cX11_init 67 = .ok (.iconst 3, 1) := by decide +kernel
theorem dX11_init_68 : decode cX11_init 68 = .ok (.anewarray 31, 3) := by decide +kernel
theorem dX11_init_71 : decode cX11_init 71 = .ok (.putfield 38, 3) := by decide +kernel
theorem dX11_init_74 : decode cX11_init 74 = .ok (.aload_n 0, 1) := by decide +kernel
theorem dX11_init_75 : decode cX11_init 75 = .ok (.new 42, 3) := by decide +kernel
theorem dX11_init_78 : decode cX11_init 78 = .ok (.dup, 1) := by decide +kernel
theorem dX11_init_79 : decode cX11_init 79 = .ok (.invokespecial 44, 3) := by decide +kernel
theorem dX11_init_82 : decode cX11_init 82 = .ok (.putfield 45, 3) := by decide +kernel
theorem dX11_init_85 : decode cX11_init 85 = .ok (.aload_n 0, 1) := by decide +kernel
theorem dX11_init_86 : decode cX11_init 86 = .ok (.new 49, 3) := by decide +kernel
theorem dX11_init_89 : decode cX11_init 89 = .ok (.dup, 1) := by decide +kernel
theorem dX11_init_90 : decode cX11_init 90 = .ok (.invokespecial 51, 3) := by decide +kernel
theorem dX11_init_93 : decode cX11_init 93 = .ok (.putfield 52, 3) := by decide +kernel
theorem dX11_init_96 : decode cX11_init 96 = .ok (.aload_n 0, 1) := by decide +kernel
theorem dX11_init_97 : decode cX11_init 97 = .ok (.new 56, 3) := by decide +kernel
theorem dX11_init_100 : decode cX11_init 100 = .ok (.dup, 1) := by decide +kernel
theorem dX11_init_101 : decode cX11_init 101 = .ok (.invokespecial 58, 3) := by decide +kernel
theorem dX11_init_104 : decode cX11_init 104 = .ok (.putfield 59, 3) := by decide +kernel
theorem dX11_init_107 : decode cX11_init 107 = .ok (.aload_n 0, 1) := by decide +kernel
theorem dX11_init_108 : decode cX11_init 108 = .ok (.new 56, 3) := by decide +kernel
theorem dX11_init_111 : decode cX11_init 111 = .ok (.dup, 1) := by decide +kernel
theorem dX11_init_112 : decode cX11_init 112 = .ok (.invokespecial 58, 3) := by decide +kernel
theorem dX11_init_115 : decode cX11_init 115 = .ok (.putfield 63, 3) := by decide +kernel
theorem dX11_init_118 : decode cX11_init 118 = .ok (.aload_n 0, 1) := by decide +kernel
theorem dX11_init_119 : decode cX11_init 119 = .ok (.new 66, 3) := by decide +kernel
theorem dX11_init_122 : decode cX11_init 122 = .ok (.dup, 1) := by decide +kernel
theorem dX11_init_123 : decode cX11_init 123 = .ok (.invokespecial 68, 3) := by decide +kernel
theorem dX11_init_126 : decode cX11_init 126 = .ok (.putfield 69, 3) := by decide +kernel
theorem dX11_init_129 : decode cX11_init 129 = .ok (.aload_n 0, 1) := by decide +kernel
theorem dX11_init_130 : decode cX11_init 130 = .ok (.new 73, 3) := by decide +kernel
theorem dX11_init_133 : decode cX11_init 133 = .ok (.dup, 1) := by decide +kernel
theorem dX11_init_134 : decode cX11_init 134 = .ok (.invokespecial 75, 3) := by decide +kernel
theorem dX11_init_137 : decode cX11_init 137 = .ok (.putfield 76, 3) := by decide +kernel
theorem dX11_init_140 : decode cX11_init 140 = .ok (.aload_n 0, 1) := by decide +kernel
theorem dX11_init_141 : decode cX11_init 141 = .ok (.new 80, 3) := by decide +kernel
theorem dX11_init_144 : decode cX11_init 144 = .ok (.dup, 1) := by decide +kernel
theorem dX11_init_145 : decode cX11_init 145 = .ok (.invokespecial 82, 3) := by decide +kernel
theorem dX11_init_148 : decode cX11_init 148 = .ok (.putfield 83, 3) := by decide +kernel
theorem dX11_init_151 : decode cX11_init 151 = .ok (.aload_n 0, 1) := by decide +kernel
theorem dX11_init_152 : decode cX11_init 152 = .ok (.new 87, 3) := by decide +kernel
theorem dX11_init_155 : decode cX11_init 155 = .ok (.dup, 1) := by decide +kernel
theorem dX11_init_156 : decode cX11_init 156 = .ok (.invokespecial 89, 3) := by decide +kernel
theorem dX11_init_159 : decode cX11_init 159 = .ok (.putfield 90, 3) := by decide +kernel
theorem dX11_init_162 : decode cX11_init 162 = .ok (.aload_n 0, 1) := by decide +kernel
theorem dX11_init_163 : decode cX11_init 163 = .ok (.bipush 6, 2) := by decide +kernel
theorem dX11_init_165 : decode cX11_init 165 = .ok (.newarray .int, 2) := by decide +kernel
theorem dX11_init_167 : decode cX11_init 167 = .ok (.putfield 94, 3) := by decide +kernel
theorem dX11_init_170 : decode cX11_init 170 = .ok (.aload_n 0, 1) := by decide +kernel
theorem dX11_init_171 : decode cX11_init 171 = .ok (.iconst 0, 1) := by decide +kernel
theorem dX11_init_172 : decode cX11_init 172 = .ok (.putfield 98, 3) := by decide +kernel
theorem dX11_init_175 : decode cX11_init 175 = .ok (.aload_n 0, 1) := by decide +kernel
theorem dX11_init_176 : decode cX11_init 176 = .ok (.iconst 0, 1) := by decide +kernel
theorem dX11_init_177 : decode cX11_init 177 = .ok (.putfield 102, 3) := by decide +kernel
theorem dX11_init_180 : decode cX11_init 180 = .ok (.aload_n 0, 1) := by decide +kernel
theorem dX11_init_181 : decode cX11_init 181 = .ok (.lconst 0, 1) := by decide +kernel
theorem dX11_init_182 : decode cX11_init 182 = .ok (.putfield 105, 3) := by decide +kernel
theorem dX11_init_185 : decode cX11_init 185 = .ok (.aload_n 0, 1) := by decide +kernel
theorem dX11_init_186 : decode cX11_init 186 = .ok (.lconst 1, 1) := by decide +kernel
theorem dX11_init_187 : decode cX11_init 187 = .ok (.putfield 109, 3) := by decide +kernel
theorem dX11_init_190 : decode cX11_init 190 = .ok (.iconst 0, 1) := by decide +kernel
theorem dX11_init_191 : decode cX11_init 191 = .ok (.istore_n 1, 1) := by decide +kernel
theorem dX11_init_192 : decode cX11_init 192 = .ok (.iload_n 1, 1) := by decide +kernel
theorem dX11_init_193 : decode cX11_init 193 = .ok (.aload_n 0, 1) := by decide +kernel
theorem dX11_init_194 : decode cX11_init 194 = .ok (.getfield 38, 3) := by decide +kernel
theorem dX11_init_197 : decode cX11_init 197 = .ok (.arraylength, 1) := by decide +kernel
theorem dX11_init_198 : decode cX11_init 198 = .ok (.if_icmp .ge 22, 3) := by decide +kernel
theorem dX11_init_201 : decode cX11_init 201 = .ok (.aload_n 0, 1) := by decide +kernel
theorem dX11_init_202 : decode cX11_init 202 = .ok (.getfield 38, 3) := by decide +kernel
theorem dX11_init_205 : decode cX11_init 205 = .ok (.iload_n 1, 1) := by decide +kernel
theorem dX11_init_206 : decode cX11_init 206 = .ok (.new 31, 3) := by decide +kernel
theorem dX11_init_209 : decode cX11_init 209 = .ok (.dup, 1) := by decide +kernel
theorem dX11_init_210 : decode cX11_init 210 = .ok (.invokespecial 33, 3) := by decide +kernel
theorem dX11_init_213 : decode cX11_init 213 = .ok (.aastore, 1) := by decide +kernel
theorem dX11_init_214 : decode cX11_init 214 = .ok (.iinc 1 1, 3) := by decide +kernel
theorem dX11_init_217 : decode cX11_init 217 = .ok (.goto (-25), 3) := by decide +kernel
theorem dX11_init_220 : decode cX11_init 220 = .ok (.return_, 1) := by decide +kernel
theorem dX11_row_0 : decode cX11_row 0 = .ok (.aload_n 0, 1) := by decide +kernel
theorem dX11_row_1 : decode cX11_row 1 = .ok (.getfield 14, 3) := by decide +kernel
theorem dX11_row_4 : decode cX11_row 4 = .ok (.iload_n 1, 1) := by decide +kernel
theorem dX11_row_5 : decode cX11_row 5 = .ok (.invokevirtual 112, 3) := by decide +kernel
theorem dX11_row_8 : decode cX11_row 8 = .ok (.ifCond .eq 9, 3) := by decide +kernel
theorem dX11_row_11 : decode cX11_row 11 = .ok (.iload_n 2, 1) := by decide +kernel
theorem dX11_row_12 : decode cX11_row 12 = .ok (.bipush 40, 2) := by decide +kernel
theorem dX11_row_14 : decode cX11_row 14 = .ok (.if_icmp .le 5, 3) := by decide +kernel
theorem dX11_row_17 : decode cX11_row 17 = .ok (.iconst (-1), 1) := by decide +kernel
theorem dX11_row_18 : decode cX11_row 18 = .ok (.ireturn, 1) := by decide +kernel
theorem dX11_row_19 : decode cX11_row 19 = .ok (.iload_n 2, 1) := by decide +kernel
theorem dX11_row_20 : decode cX11_row 20 = .ok (.ifCond .ge 9, 3) := by decide +kernel
theorem dX11_row_23 : decode cX11_row 23 = .ok (.aload_n 0, 1) := by decide +kernel
theorem dX11_row_24 : decode cX11_row 24 = .ok (.iconst 5, 1) := by decide +kernel
theorem dX11_row_25 : decode cX11_row 25 = .ok (.invokevirtual 116, 3) := by decide +kernel
theorem dX11_row_28 : decode cX11_row 28 = .ok (.ireturn, 1) := by decide +kernel
theorem dX11_row_29 : decode cX11_row 29 = .ok (.aload_n 0, 1) := by decide +kernel
theorem dX11_row_30 : decode cX11_row 30 = .ok (.getfield 14, 3) := by decide +kernel
theorem dX11_row_33 : decode cX11_row 33 = .ok (.iload_n 1, 1) := by decide +kernel
theorem dX11_row_34 : decode cX11_row 34 = .ok (.iload_n 2, 1) := by decide +kernel
theorem dX11_row_35 : decode cX11_row 35 = .ok (.iconst 0, 1) := by decide +kernel
theorem dX11_row_36 : decode cX11_row 36 = .ok (.invokevirtual 120, 3) := by decide +kernel
theorem dX11_row_39 : decode cX11_row 39 = .ok (.iload_n 2, 1) := by decide +kernel
theorem dX11_row_40 : decode cX11_row 40 = .ok (.ireturn, 1) := by decide +kernel
theorem dX11_lay_0 : decode cX11_lay 0 = .ok (.aload_n 0, 1) := by decide +kernel
theorem dX11_lay_1 : decode cX11_lay 1 = .ok (.aload_n 0, 1) := by decide +kernel
theorem dX11_lay_2 : decode cX11_lay 2 = .ok (.getfield 14, 3) := by decide +kernel
theorem dX11_lay_5 : decode cX11_lay 5 = .ok (.iload_n 1, 1) := by decide +kernel
theorem dX11_lay_6 : decode cX11_lay 6 = .ok (.iload_n 2, 1) := by decide +kernel
theorem dX11_lay_7 : decode cX11_lay 7 = .ok (.invokevirtual 124, 3) := by decide +kernel
theorem dX11_lay_10 : decode cX11_lay 10 = .ok (.istore 4, 2) := by decide +kernel
theorem dX11_lay_12 : decode cX11_lay 12 = .ok (.iload 4, 2) := by decide +kernel
theorem dX11_lay_14 : decode cX11_lay 14 = .ok (.ifCond .eq 6, 3) := by decide +kernel
theorem dX11_lay_17 : decode cX11_lay 17 = .ok (.iload 4, 2) := by decide +kernel
theorem dX11_lay_19 : decode cX11_lay 19 = .ok (.ireturn, 1) := by decide +kernel
theorem dX11_lay_20 : decode cX11_lay 20 = .ok (.aload_n 0, 1) := by decide +kernel
theorem dX11_lay_21 : decode cX11_lay 21 = .ok (.getfield 14, 3) := by decide +kernel
theorem dX11_lay_24 : decode cX11_lay 24 = .ok (.iload_n 1, 1) := by decide +kernel
theorem dX11_lay_25 : decode cX11_lay 25 = .ok (.iload_n 2, 1) := by decide +kernel
theorem dX11_lay_26 : decode cX11_lay 26 = .ok (.invokevirtual 128, 3) := by decide +kernel
theorem dX11_lay_29 : decode cX11_lay 29 = .ok (.istore 5, 2) := by decide +kernel
theorem dX11_lay_31 : decode cX11_lay 31 = .ok (.aload_n 0, 1) := by decide +kernel
theorem dX11_lay_32 : decode cX11_lay 32 = .ok (.getfield 14, 3) := by decide +kernel
theorem dX11_lay_35 : decode cX11_lay 35 = .ok (.iload_n 1, 1) := by decide +kernel
theorem dX11_lay_36 : decode cX11_lay 36 = .ok (.iload_n 2, 1) := by decide +kernel
theorem dX11_lay_37 : decode cX11_lay 37 = .ok (.iload_n 3, 1) := by decide +kernel
theorem dX11_lay_38 : decode cX11_lay 38 = .ok (.invokevirtual 132, 3) := by decide +kernel
theorem dX11_lay_41 : decode cX11_lay 41 = .ok (.aload_n 0, 1) := by decide +kernel
theorem dX11_lay_42 : decode cX11_lay 42 = .ok (.iload 5, 2) := by decide +kernel
theorem dX11_lay_44 : decode cX11_lay 44 = .ok (.iconst 1, 1) := by decide +kernel
theorem dX11_lay_45 : decode cX11_lay 45 = .ok (.invokevirtual 135, 3) := by decide +kernel
theorem dX11_lay_48 : decode cX11_lay 48 = .ok (.ireturn, 1) := by decide +kernel
theorem dX11_text_0 : decode cX11_text 0 = .ok (.aload_n 0, 1) := by decide +kernel
theorem dX11_text_1 : decode cX11_text 1 = .ok (.getfield 18, 3) := by decide +kernel
theorem dX11_text_4 : decode cX11_text 4 = .ok (.iload_n 1, 1) := by decide +kernel
theorem dX11_text_5 : decode cX11_text 5 = .ok (.invokevirtual 112, 3) := by decide +kernel
theorem dX11_text_8 : decode cX11_text 8 = .ok (.ifCond .eq 9, 3) := by decide +kernel
theorem dX11_text_11 : decode cX11_text 11 = .ok (.iload_n 2, 1) := by decide +kernel
theorem dX11_text_12 : decode cX11_text 12 = .ok (.bipush 100, 2) := by decide +kernel
theorem dX11_text_14 : decode cX11_text 14 = .ok (.if_icmp .le 5, 3) := by decide +kernel
theorem dX11_text_17 : decode cX11_text 17 = .ok (.iconst (-1), 1) := by decide +kernel
theorem dX11_text_18 : decode cX11_text 18 = .ok (.ireturn, 1) := by decide +kernel
theorem dX11_text_19 : decode cX11_text 19 = .ok (.iload_n 2, 1) := by decide +kernel
theorem dX11_text_20 : decode cX11_text 20 = .ok (.ifCond .ge 9, 3) := by decide +kernel
theorem dX11_text_23 : decode cX11_text 23 = .ok (.aload_n 0, 1) := by decide +kernel
theorem dX11_text_24 : decode cX11_text 24 = .ok (.iconst 5, 1) := by decide +kernel
theorem dX11_text_25 : decode cX11_text 25 = .ok (.invokevirtual 116, 3) := by decide +kernel
theorem dX11_text_28 : decode cX11_text 28 = .ok (.ireturn, 1) := by decide +kernel
theorem dX11_text_29 : decode cX11_text 29 = .ok (.aload_n 0, 1) := by decide +kernel
theorem dX11_text_30 : decode cX11_text 30 = .ok (.getfield 18, 3) := by decide +kernel
theorem dX11_text_33 : decode cX11_text 33 = .ok (.iload_n 1, 1) := by decide +kernel
theorem dX11_text_34 : decode cX11_text 34 = .ok (.iload_n 2, 1) := by decide +kernel
theorem dX11_text_35 : decode cX11_text 35 = .ok (.bipush 32, 2) := by decide +kernel
theorem dX11_text_37 : decode cX11_text 37 = .ok (.invokevirtual 120, 3) := by decide +kernel
theorem dX11_text_40 : decode cX11_text 40 = .ok (.iload_n 2, 1) := by decide +kernel
theorem dX11_text_41 : decode cX11_text 41 = .ok (.ireturn, 1) := by decide +kernel
theorem dX11_put_0 : decode cX11_put 0 = .ok (.aload_n 0, 1) := by decide +kernel
theorem dX11_put_1 : decode cX11_put 1 = .ok (.aload_n 0, 1) := by decide +kernel
theorem dX11_put_2 : decode cX11_put 2 = .ok (.getfield 18, 3) := by decide +kernel
theorem dX11_put_5 : decode cX11_put 5 = .ok (.iload_n 1, 1) := by decide +kernel
theorem dX11_put_6 : decode cX11_put 6 = .ok (.iload_n 2, 1) := by decide +kernel
theorem dX11_put_7 : decode cX11_put 7 = .ok (.invokevirtual 124, 3) := by decide +kernel
theorem dX11_put_10 : decode cX11_put 10 = .ok (.istore 4, 2) := by decide +kernel
theorem dX11_put_12 : decode cX11_put 12 = .ok (.iload 4, 2) := by decide +kernel
theorem dX11_put_14 : decode cX11_put 14 = .ok (.ifCond .eq 6, 3) := by decide +kernel
theorem dX11_put_17 : decode cX11_put 17 = .ok (.iload 4, 2) := by decide +kernel
theorem dX11_put_19 : decode cX11_put 19 = .ok (.ireturn, 1) := by decide +kernel
theorem dX11_put_20 : decode cX11_put 20 = .ok (.aload_n 0, 1) := by decide +kernel
theorem dX11_put_21 : decode cX11_put 21 = .ok (.getfield 18, 3) := by decide +kernel
theorem dX11_put_24 : decode cX11_put 24 = .ok (.iload_n 1, 1) := by decide +kernel
theorem dX11_put_25 : decode cX11_put 25 = .ok (.iload_n 2, 1) := by decide +kernel
theorem dX11_put_26 : decode cX11_put 26 = .ok (.invokevirtual 128, 3) := by decide +kernel
theorem dX11_put_29 : decode cX11_put 29 = .ok (.istore 5, 2) := by decide +kernel
theorem dX11_put_31 : decode cX11_put 31 = .ok (.aload_n 0, 1) := by decide +kernel
theorem dX11_put_32 : decode cX11_put 32 = .ok (.getfield 18, 3) := by decide +kernel
theorem dX11_put_35 : decode cX11_put 35 = .ok (.iload_n 1, 1) := by decide +kernel
theorem dX11_put_36 : decode cX11_put 36 = .ok (.iload_n 2, 1) := by decide +kernel
theorem dX11_put_37 : decode cX11_put 37 = .ok (.iload_n 3, 1) := by decide +kernel
theorem dX11_put_38 : decode cX11_put 38 = .ok (.i2b, 1) := by decide +kernel
theorem dX11_put_39 : decode cX11_put 39 = .ok (.invokevirtual 132, 3) := by decide +kernel
theorem dX11_put_42 : decode cX11_put 42 = .ok (.iload 5, 2) := by decide +kernel
theorem dX11_put_44 : decode cX11_put 44 = .ok (.sipush 1000, 3) := by decide +kernel
theorem dX11_put_47 : decode cX11_put 47 = .ok (.iadd, 1) := by decide +kernel
theorem dX11_put_48 : decode cX11_put 48 = .ok (.ireturn, 1) := by decide +kernel
theorem dX11_fault_0 : decode cX11_fault 0 = .ok (.aload_n 0, 1) := by decide +kernel
theorem dX11_fault_1 : decode cX11_fault 1 = .ok (.aload_n 0, 1) := by decide +kernel
theorem dX11_fault_2 : decode cX11_fault 2 = .ok (.getfield 18, 3) := by decide +kernel
theorem dX11_fault_5 : decode cX11_fault 5 = .ok (.iload_n 1, 1) := by decide +kernel
theorem dX11_fault_6 : decode cX11_fault 6 = .ok (.invokevirtual 138, 3) := by decide +kernel
theorem dX11_fault_9 : decode cX11_fault 9 = .ok (.istore_n 2, 1) := by decide +kernel
theorem dX11_fault_10 : decode cX11_fault 10 = .ok (.iload_n 2, 1) := by decide +kernel
theorem dX11_fault_11 : decode cX11_fault 11 = .ok (.ifCond .eq 5, 3) := by decide +kernel
theorem dX11_fault_14 : decode cX11_fault 14 = .ok (.iload_n 2, 1) := by decide +kernel
theorem dX11_fault_15 : decode cX11_fault 15 = .ok (.ireturn, 1) := by decide +kernel
theorem dX11_fault_16 : decode cX11_fault 16 = .ok (.aload_n 0, 1) := by decide +kernel
theorem dX11_fault_17 : decode cX11_fault 17 = .ok (.getfield 28, 3) := by decide +kernel
theorem dX11_fault_20 : decode cX11_fault 20 = .ok (.aload_n 0, 1) := by decide +kernel
theorem dX11_fault_21 : decode cX11_fault 21 = .ok (.getfield 18, 3) := by decide +kernel
theorem dX11_fault_24 : decode cX11_fault 24 = .ok (.iload_n 1, 1) := by decide +kernel
theorem dX11_fault_25 : decode cX11_fault 25 = .ok (.invokevirtual 160, 3) := by decide +kernel
theorem dX11_fault_28 : decode cX11_fault 28 = .ok (.ireturn, 1) := by decide +kernel
theorem dX11_office_0 : decode cX11_office 0 = .ok (.aload_n 0, 1) := by decide +kernel
theorem dX11_office_1 : decode cX11_office 1 = .ok (.aload_n 0, 1) := by decide +kernel
theorem dX11_office_2 : decode cX11_office 2 = .ok (.getfield 18, 3) := by decide +kernel
theorem dX11_office_5 : decode cX11_office 5 = .ok (.iload_n 1, 1) := by decide +kernel
theorem dX11_office_6 : decode cX11_office 6 = .ok (.invokevirtual 138, 3) := by decide +kernel
theorem dX11_office_9 : decode cX11_office 9 = .ok (.istore_n 2, 1) := by decide +kernel
theorem dX11_office_10 : decode cX11_office 10 = .ok (.iload_n 2, 1) := by decide +kernel
theorem dX11_office_11 : decode cX11_office 11 = .ok (.ifCond .eq 5, 3) := by decide +kernel
theorem dX11_office_14 : decode cX11_office 14 = .ok (.iload_n 2, 1) := by decide +kernel
theorem dX11_office_15 : decode cX11_office 15 = .ok (.ireturn, 1) := by decide +kernel
theorem dX11_office_16 : decode cX11_office 16 = .ok (.aload_n 0, 1) := by decide +kernel
theorem dX11_office_17 : decode cX11_office 17 = .ok (.getfield 28, 3) := by decide +kernel
theorem dX11_office_20 : decode cX11_office 20 = .ok (.aload_n 0, 1) := by decide +kernel
theorem dX11_office_21 : decode cX11_office 21 = .ok (.getfield 18, 3) := by decide +kernel
theorem dX11_office_24 : decode cX11_office 24 = .ok (.iload_n 1, 1) := by decide +kernel
theorem dX11_office_25 : decode cX11_office 25 = .ok (.invokevirtual 160, 3) := by decide +kernel
theorem dX11_office_28 : decode cX11_office 28 = .ok (.bipush (-9), 2) := by decide +kernel
theorem dX11_office_30 : decode cX11_office 30 = .ok (.if_icmp .eq 6, 3) := by decide +kernel
theorem dX11_office_33 : decode cX11_office 33 = .ok (.bipush (-4), 2) := by decide +kernel
theorem dX11_office_35 : decode cX11_office 35 = .ok (.ireturn, 1) := by decide +kernel
theorem dX11_office_36 : decode cX11_office 36 = .ok (.aload_n 0, 1) := by decide +kernel
theorem dX11_office_37 : decode cX11_office 37 = .ok (.getfield 24, 3) := by decide +kernel
theorem dX11_office_40 : decode cX11_office 40 = .ok (.aload_n 0, 1) := by decide +kernel
theorem dX11_office_41 : decode cX11_office 41 = .ok (.getfield 18, 3) := by decide +kernel
theorem dX11_office_44 : decode cX11_office 44 = .ok (.iload_n 1, 1) := by decide +kernel
theorem dX11_office_45 : decode cX11_office 45 = .ok (.invokevirtual 160, 3) := by decide +kernel
theorem dX11_office_48 : decode cX11_office 48 = .ok (.pop, 1) := by decide +kernel
theorem dX11_office_49 : decode cX11_office 49 = .ok (.aload_n 0, 1) := by decide +kernel
theorem dX11_office_50 : decode cX11_office 50 = .ok (.getfield 34, 3) := by decide +kernel
theorem dX11_office_53 : decode cX11_office 53 = .ok (.invokevirtual 163, 3) := by decide +kernel
theorem dX11_office_56 : decode cX11_office 56 = .ok (.aload_n 0, 1) := by decide +kernel
theorem dX11_office_57 : decode cX11_office 57 = .ok (.getfield 45, 3) := by decide +kernel
theorem dX11_office_60 : decode cX11_office 60 = .ok (.iconst 0, 1) := by decide +kernel
theorem dX11_office_61 : decode cX11_office 61 = .ok (.putfield 166, 3) := by decide +kernel
theorem dX11_office_64 : decode cX11_office 64 = .ok (.iconst 0, 1) := by decide +kernel
theorem dX11_office_65 : decode cX11_office 65 = .ok (.istore_n 3, 1) := by decide +kernel
theorem dX11_office_66 : decode cX11_office 66 = .ok (.iload_n 3, 1) := by decide +kernel
theorem dX11_office_67 : decode cX11_office 67 = .ok (.iconst 3, 1) := by decide +kernel
theorem dX11_office_68 : decode cX11_office 68 = .ok (.if_icmp .ge 14, 3) := by decide +kernel
theorem dX11_office_71 : decode cX11_office 71 = .ok (.aload_n 0, 1) := by decide +kernel
theorem dX11_office_72 : decode cX11_office 72 = .ok (.iload_n 3, 1) := by decide +kernel
theorem dX11_office_73 : decode cX11_office 73 = .ok (.invokevirtual 169, 3) := by decide +kernel
theorem dX11_office_76 : decode cX11_office 76 = .ok (.iinc 3 1, 3) := by decide +kernel
theorem dX11_office_79 : decode cX11_office 79 = .ok (.goto (-13), 3) := by decide +kernel
theorem dX11_office_82 : decode cX11_office 82 = .ok (.aload_n 0, 1) := by decide +kernel
theorem dX11_office_83 : decode cX11_office 83 = .ok (.getfield 24, 3) := by decide +kernel
theorem dX11_office_86 : decode cX11_office 86 = .ok (.getfield 172, 3) := by decide +kernel
theorem dX11_office_89 : decode cX11_office 89 = .ok (.ireturn, 1) := by decide +kernel
theorem dX11_law_0 : decode cX11_law 0 = .ok (.iload_n 1, 1) := by decide +kernel
theorem dX11_law_1 : decode cX11_law 1 = .ok (.ifCond .lt 8, 3) := by decide +kernel
theorem dX11_law_4 : decode cX11_law 4 = .ok (.iload_n 1, 1) := by decide +kernel
theorem dX11_law_5 : decode cX11_law 5 = .ok (.iconst 3, 1) := by decide +kernel
theorem dX11_law_6 : decode cX11_law 6 = .ok (.if_icmp .lt 5, 3) := by decide +kernel
theorem dX11_law_9 : decode cX11_law 9 = .ok (.iconst (-1), 1) := by decide +kernel
theorem dX11_law_10 : decode cX11_law 10 = .ok (.ireturn, 1) := by decide +kernel
theorem dX11_law_11 : decode cX11_law 11 = .ok (.aload_n 0, 1) := by decide +kernel
theorem dX11_law_12 : decode cX11_law 12 = .ok (.getfield 34, 3) := by decide +kernel
theorem dX11_law_15 : decode cX11_law 15 = .ok (.getfield 202, 3) := by decide +kernel
theorem dX11_law_18 : decode cX11_law 18 = .ok (.istore_n 2, 1) := by decide +kernel
theorem dX11_law_19 : decode cX11_law 19 = .ok (.aload_n 0, 1) := by decide +kernel
theorem dX11_law_20 : decode cX11_law 20 = .ok (.getfield 34, 3) := by decide +kernel
theorem dX11_law_23 : decode cX11_law 23 = .ok (.iload_n 1, 1) := by decide +kernel
theorem dX11_law_24 : decode cX11_law 24 = .ok (.putfield 202, 3) := by decide +kernel
theorem dX11_law_27 : decode cX11_law 27 = .ok (.iload_n 2, 1) := by decide +kernel
theorem dX11_law_28 : decode cX11_law 28 = .ok (.ireturn, 1) := by decide +kernel
theorem dX11_name_0 : decode cX11_name 0 = .ok (.iload_n 1, 1) := by decide +kernel
theorem dX11_name_1 : decode cX11_name 1 = .ok (.ifCond .lt 9, 3) := by decide +kernel
theorem dX11_name_4 : decode cX11_name 4 = .ok (.iload_n 1, 1) := by decide +kernel
theorem dX11_name_5 : decode cX11_name 5 = .ok (.bipush 60, 2) := by decide +kernel
theorem dX11_name_7 : decode cX11_name 7 = .ok (.if_icmp .le 5, 3) := by decide +kernel
theorem dX11_name_10 : decode cX11_name 10 = .ok (.iconst (-1), 1) := by decide +kernel
theorem dX11_name_11 : decode cX11_name 11 = .ok (.ireturn, 1) := by decide +kernel
theorem dX11_name_12 : decode cX11_name 12 = .ok (.aload_n 0, 1) := by decide +kernel
theorem dX11_name_13 : decode cX11_name 13 = .ok (.getfield 34, 3) := by decide +kernel
theorem dX11_name_16 : decode cX11_name 16 = .ok (.getfield 205, 3) := by decide +kernel
theorem dX11_name_19 : decode cX11_name 19 = .ok (.istore_n 2, 1) := by decide +kernel
theorem dX11_name_20 : decode cX11_name 20 = .ok (.aload_n 0, 1) := by decide +kernel
theorem dX11_name_21 : decode cX11_name 21 = .ok (.getfield 34, 3) := by decide +kernel
theorem dX11_name_24 : decode cX11_name 24 = .ok (.iload_n 1, 1) := by decide +kernel
theorem dX11_name_25 : decode cX11_name 25 = .ok (.putfield 205, 3) := by decide +kernel
theorem dX11_name_28 : decode cX11_name 28 = .ok (.iload_n 2, 1) := by decide +kernel
theorem dX11_name_29 : decode cX11_name 29 = .ok (.ireturn, 1) := by decide +kernel
theorem dX11_link_0 : decode cX11_link 0 = .ok (.iload_n 1, 1) := by decide +kernel
theorem dX11_link_1 : decode cX11_link 1 = .ok (.ifCond .eq 10, 3) := by decide +kernel
theorem dX11_link_4 : decode cX11_link 4 = .ok (.iload_n 1, 1) := by decide +kernel
theorem dX11_link_5 : decode cX11_link 5 = .ok (.iconst 1, 1) := by decide +kernel
theorem dX11_link_6 : decode cX11_link 6 = .ok (.if_icmp .eq 5, 3) := by decide +kernel
theorem dX11_link_9 : decode cX11_link 9 = .ok (.iconst (-1), 1) := by decide +kernel
theorem dX11_link_10 : decode cX11_link 10 = .ok (.ireturn, 1) := by decide +kernel
theorem dX11_link_11 : decode cX11_link 11 = .ok (.aload_n 0, 1) := by decide +kernel
theorem dX11_link_12 : decode cX11_link 12 = .ok (.getfield 34, 3) := by decide +kernel
theorem dX11_link_15 : decode cX11_link 15 = .ok (.getfield 208, 3) := by decide +kernel
theorem dX11_link_18 : decode cX11_link 18 = .ok (.istore_n 2, 1) := by decide +kernel
theorem dX11_link_19 : decode cX11_link 19 = .ok (.aload_n 0, 1) := by decide +kernel
theorem dX11_link_20 : decode cX11_link 20 = .ok (.getfield 34, 3) := by decide +kernel
theorem dX11_link_23 : decode cX11_link 23 = .ok (.iload_n 1, 1) := by decide +kernel
theorem dX11_link_24 : decode cX11_link 24 = .ok (.putfield 208, 3) := by decide +kernel
theorem dX11_link_27 : decode cX11_link 27 = .ok (.iload_n 2, 1) := by decide +kernel
theorem dX11_link_28 : decode cX11_link 28 = .ok (.ireturn, 1) := by decide +kernel
theorem dX11_begin_0 : decode cX11_begin 0 = .ok (.aload_n 0, 1) := by decide +kernel
theorem dX11_begin_1 : decode cX11_begin 1 = .ok (.getfield 24, 3) := by decide +kernel
theorem dX11_begin_4 : decode cX11_begin 4 = .ok (.iload_n 1, 1) := by decide +kernel
theorem dX11_begin_5 : decode cX11_begin 5 = .ok (.invokevirtual 173, 3) := by decide +kernel
theorem dX11_begin_8 : decode cX11_begin 8 = .ok (.ifCond .eq 12, 3) := by decide +kernel
theorem dX11_begin_11 : decode cX11_begin 11 = .ok (.iload_n 2, 1) := by decide +kernel
theorem dX11_begin_12 : decode cX11_begin 12 = .ok (.ifCond .lt 8, 3) := by decide +kernel
theorem dX11_begin_15 : decode cX11_begin 15 = .ok (.iload_n 2, 1) := by decide +kernel
theorem dX11_begin_16 : decode cX11_begin 16 = .ok (.iconst 3, 1) := by decide +kernel
theorem dX11_begin_17 : decode cX11_begin 17 = .ok (.if_icmp .lt 5, 3) := by decide +kernel
theorem dX11_begin_20 : decode cX11_begin 20 = .ok (.iconst (-1), 1) := by decide +kernel
theorem dX11_begin_21 : decode cX11_begin 21 = .ok (.ireturn, 1) := by decide +kernel
theorem dX11_begin_22 : decode cX11_begin 22 = .ok (.aload_n 0, 1) := by decide +kernel
theorem dX11_begin_23 : decode cX11_begin 23 = .ok (.getfield 34, 3) := by decide +kernel
theorem dX11_begin_26 : decode cX11_begin 26 = .ok (.iload_n 1, 1) := by decide +kernel
theorem dX11_begin_27 : decode cX11_begin 27 = .ok (.iload_n 2, 1) := by decide +kernel
theorem dX11_begin_28 : decode cX11_begin 28 = .ok (.invokevirtual 211, 3) := by decide +kernel
theorem dX11_begin_31 : decode cX11_begin 31 = .ok (.aload_n 0, 1) := by decide +kernel
theorem dX11_begin_32 : decode cX11_begin 32 = .ok (.getfield 24, 3) := by decide +kernel
theorem dX11_begin_35 : decode cX11_begin 35 = .ok (.getfield 172, 3) := by decide +kernel
theorem dX11_begin_38 : decode cX11_begin 38 = .ok (.ireturn, 1) := by decide +kernel
theorem dX11_go_0 : decode cX11_go 0 = .ok (.iload_n 1, 1) := by decide +kernel
theorem dX11_go_1 : decode cX11_go 1 = .ok (.ifCond .lt 23, 3) := by decide +kernel
theorem dX11_go_4 : decode cX11_go 4 = .ok (.iload_n 1, 1) := by decide +kernel
theorem dX11_go_5 : decode cX11_go 5 = .ok (.bipush 60, 2) := by decide +kernel
theorem dX11_go_7 : decode cX11_go 7 = .ok (.if_icmp .gt 17, 3) := by decide +kernel
theorem dX11_go_10 : decode cX11_go 10 = .ok (.iload_n 2, 1) := by decide +kernel
theorem dX11_go_11 : decode cX11_go 11 = .ok (.iconst 1, 1) := by decide +kernel
theorem dX11_go_12 : decode cX11_go 12 = .ok (.if_icmp .lt 12, 3) := by decide +kernel
theorem dX11_go_15 : decode cX11_go 15 = .ok (.iload_n 2, 1) := by decide +kernel
theorem dX11_go_16 : decode cX11_go 16 = .ok (.i2l, 1) := by decide +kernel
theorem dX11_go_17 : decode cX11_go 17 = .ok (.ldc2_w 214, 3) := by decide +kernel
theorem dX11_go_20 : decode cX11_go 20 = .ok (.lcmp, 1) := by decide +kernel
theorem dX11_go_21 : decode cX11_go 21 = .ok (.ifCond .lt 5, 3) := by decide +kernel
theorem dX11_go_24 : decode cX11_go 24 = .ok (.iconst (-1), 1) := by decide +kernel
theorem dX11_go_25 : decode cX11_go 25 = .ok (.ireturn, 1) := by decide +kernel
theorem dX11_go_26 : decode cX11_go 26 = .ok (.aload_n 0, 1) := by decide +kernel
theorem dX11_go_27 : decode cX11_go 27 = .ok (.getfield 24, 3) := by decide +kernel
theorem dX11_go_30 : decode cX11_go 30 = .ok (.getfield 172, 3) := by decide +kernel
theorem dX11_go_33 : decode cX11_go 33 = .ok (.ifCond .ne 6, 3) := by decide +kernel
theorem dX11_go_36 : decode cX11_go 36 = .ok (.bipush (-4), 2) := by decide +kernel
theorem dX11_go_38 : decode cX11_go 38 = .ok (.ireturn, 1) := by decide +kernel
theorem dX11_go_39 : decode cX11_go 39 = .ok (.aload_n 0, 1) := by decide +kernel
theorem dX11_go_40 : decode cX11_go 40 = .ok (.getfield 34, 3) := by decide +kernel
theorem dX11_go_43 : decode cX11_go 43 = .ok (.getfield 184, 3) := by decide +kernel
theorem dX11_go_46 : decode cX11_go 46 = .ok (.iload_n 1, 1) := by decide +kernel
theorem dX11_go_47 : decode cX11_go 47 = .ok (.iadd, 1) := by decide +kernel
theorem dX11_go_48 : decode cX11_go 48 = .ok (.sipush 1000, 3) := by decide +kernel
theorem dX11_go_51 : decode cX11_go 51 = .ok (.if_icmp .le 6, 3) := by decide +kernel
theorem dX11_go_54 : decode cX11_go 54 = .ok (.bipush (-6), 2) := by decide +kernel
theorem dX11_go_56 : decode cX11_go 56 = .ok (.ireturn, 1) := by decide +kernel
theorem dX11_go_57 : decode cX11_go 57 = .ok (.iload_n 2, 1) := by decide +kernel
theorem dX11_go_58 : decode cX11_go 58 = .ok (.i2l, 1) := by decide +kernel
theorem dX11_go_59 : decode cX11_go 59 = .ok (.lstore_n 3, 1) := by decide +kernel
theorem dX11_go_60 : decode cX11_go 60 = .ok (.iconst 0, 1) := by decide +kernel
theorem dX11_go_61 : decode cX11_go 61 = .ok (.istore 5, 2) := by decide +kernel
theorem dX11_go_63 : decode cX11_go 63 = .ok (.iload 5, 2) := by decide +kernel
theorem dX11_go_65 : decode cX11_go 65 = .ok (.iload_n 1, 1) := by decide +kernel
theorem dX11_go_66 : decode cX11_go 66 = .ok (.if_icmp .ge 38, 3) := by decide +kernel
theorem dX11_go_69 : decode cX11_go 69 = .ok (.aload_n 0, 1) := by decide +kernel
theorem dX11_go_70 : decode cX11_go 70 = .ok (.getfield 34, 3) := by decide +kernel
theorem dX11_go_73 : decode cX11_go 73 = .ok (.getfield 216, 3) := by decide +kernel
theorem dX11_go_76 : decode cX11_go 76 = .ok (.ifCond .ne 9, 3) := by decide +kernel
theorem dX11_go_79 : decode cX11_go 79 = .ok (.aload_n 0, 1) := by decide +kernel
theorem dX11_go_80 : decode cX11_go 80 = .ok (.lload_n 3, 1) := by decide +kernel
theorem dX11_go_81 : decode cX11_go 81 = .ok (.invokevirtual 220, 3) := by decide +kernel
theorem dX11_go_84 : decode cX11_go 84 = .ok (.lstore_n 3, 1) := by decide +kernel
theorem dX11_go_85 : decode cX11_go 85 = .ok (.aload_n 0, 1) := by decide +kernel
theorem dX11_go_86 : decode cX11_go 86 = .ok (.getfield 34, 3) := by decide +kernel
theorem dX11_go_89 : decode cX11_go 89 = .ok (.dup, 1) := by decide +kernel
theorem dX11_go_90 : decode cX11_go 90 = .ok (.getfield 184, 3) := by decide +kernel
theorem dX11_go_93 : decode cX11_go 93 = .ok (.iconst 1, 1) := by decide +kernel
theorem dX11_go_94 : decode cX11_go 94 = .ok (.iadd, 1) := by decide +kernel
