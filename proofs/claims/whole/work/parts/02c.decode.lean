theorem dX11_tear_17 : decode cX11_tear 17 = .ok (.getfield 14, 3) := by decide +kernel
theorem dX11_tear_20 : decode cX11_tear 20 = .ok (.iload_n 1, 1) := by decide +kernel
theorem dX11_tear_21 : decode cX11_tear 21 = .ok (.invokevirtual 142, 3) := by decide +kernel
theorem dX11_tear_24 : decode cX11_tear 24 = .ok (.iconst 1, 1) := by decide +kernel
theorem dX11_tear_25 : decode cX11_tear 25 = .ok (.ireturn, 1) := by decide +kernel
theorem dX11_copy_0 : decode cX11_copy 0 = .ok (.aload_n 0, 1) := by decide +kernel
theorem dX11_copy_1 : decode cX11_copy 1 = .ok (.getfield 14, 3) := by decide +kernel
theorem dX11_copy_4 : decode cX11_copy 4 = .ok (.iload_n 1, 1) := by decide +kernel
theorem dX11_copy_5 : decode cX11_copy 5 = .ok (.invokevirtual 112, 3) := by decide +kernel
theorem dX11_copy_8 : decode cX11_copy 8 = .ok (.ifCond .eq 14, 3) := by decide +kernel
theorem dX11_copy_11 : decode cX11_copy 11 = .ok (.aload_n 0, 1) := by decide +kernel
theorem dX11_copy_12 : decode cX11_copy 12 = .ok (.getfield 14, 3) := by decide +kernel
theorem dX11_copy_15 : decode cX11_copy 15 = .ok (.iload_n 3, 1) := by decide +kernel
theorem dX11_copy_16 : decode cX11_copy 16 = .ok (.invokevirtual 112, 3) := by decide +kernel
theorem dX11_copy_19 : decode cX11_copy 19 = .ok (.ifCond .ne 5, 3) := by decide +kernel
theorem dX11_copy_22 : decode cX11_copy 22 = .ok (.iconst (-1), 1) := by decide +kernel
theorem dX11_copy_23 : decode cX11_copy 23 = .ok (.ireturn, 1) := by decide +kernel
theorem dX11_copy_24 : decode cX11_copy 24 = .ok (.iload 5, 2) := by decide +kernel
theorem dX11_copy_26 : decode cX11_copy 26 = .ok (.ifCond .ge 9, 3) := by decide +kernel
theorem dX11_copy_29 : decode cX11_copy 29 = .ok (.aload_n 0, 1) := by decide +kernel
theorem dX11_copy_30 : decode cX11_copy 30 = .ok (.iconst 5, 1) := by decide +kernel
theorem dX11_copy_31 : decode cX11_copy 31 = .ok (.invokevirtual 116, 3) := by decide +kernel
theorem dX11_copy_34 : decode cX11_copy 34 = .ok (.ireturn, 1) := by decide +kernel
theorem dX11_copy_35 : decode cX11_copy 35 = .ok (.aload_n 0, 1) := by decide +kernel
theorem dX11_copy_36 : decode cX11_copy 36 = .ok (.getfield 14, 3) := by decide +kernel
theorem dX11_copy_39 : decode cX11_copy 39 = .ok (.iload_n 1, 1) := by decide +kernel
theorem dX11_copy_40 : decode cX11_copy 40 = .ok (.invokevirtual 146, 3) := by decide +kernel
theorem dX11_copy_43 : decode cX11_copy 43 = .ok (.ifCond .eq 14, 3) := by decide +kernel
theorem dX11_copy_46 : decode cX11_copy 46 = .ok (.aload_n 0, 1) := by decide +kernel
theorem dX11_copy_47 : decode cX11_copy 47 = .ok (.getfield 14, 3) := by decide +kernel
theorem dX11_copy_50 : decode cX11_copy 50 = .ok (.iload_n 3, 1) := by decide +kernel
theorem dX11_copy_51 : decode cX11_copy 51 = .ok (.invokevirtual 146, 3) := by decide +kernel
theorem dX11_copy_54 : decode cX11_copy 54 = .ok (.ifCond .ne 9, 3) := by decide +kernel
theorem dX11_copy_57 : decode cX11_copy 57 = .ok (.aload_n 0, 1) := by decide +kernel
theorem dX11_copy_58 : decode cX11_copy 58 = .ok (.iconst 1, 1) := by decide +kernel
theorem dX11_copy_59 : decode cX11_copy 59 = .ok (.invokevirtual 116, 3) := by decide +kernel
theorem dX11_copy_62 : decode cX11_copy 62 = .ok (.ireturn, 1) := by decide +kernel
theorem dX11_copy_63 : decode cX11_copy 63 = .ok (.aload_n 0, 1) := by decide +kernel
theorem dX11_copy_64 : decode cX11_copy 64 = .ok (.getfield 14, 3) := by decide +kernel
theorem dX11_copy_67 : decode cX11_copy 67 = .ok (.iload_n 1, 1) := by decide +kernel
theorem dX11_copy_68 : decode cX11_copy 68 = .ok (.iload_n 2, 1) := by decide +kernel
theorem dX11_copy_69 : decode cX11_copy 69 = .ok (.iload 5, 2) := by decide +kernel
theorem dX11_copy_71 : decode cX11_copy 71 = .ok (.invokevirtual 149, 3) := by decide +kernel
theorem dX11_copy_74 : decode cX11_copy 74 = .ok (.ifCond .eq 18, 3) := by decide +kernel
theorem dX11_copy_77 : decode cX11_copy 77 = .ok (.aload_n 0, 1) := by decide +kernel
theorem dX11_copy_78 : decode cX11_copy 78 = .ok (.getfield 14, 3) := by decide +kernel
theorem dX11_copy_81 : decode cX11_copy 81 = .ok (.iload_n 3, 1) := by decide +kernel
theorem dX11_copy_82 : decode cX11_copy 82 = .ok (.iload 4, 2) := by decide +kernel
theorem dX11_copy_84 : decode cX11_copy 84 = .ok (.iload 5, 2) := by decide +kernel
theorem dX11_copy_86 : decode cX11_copy 86 = .ok (.invokevirtual 149, 3) := by decide +kernel
theorem dX11_copy_89 : decode cX11_copy 89 = .ok (.ifCond .ne 9, 3) := by decide +kernel
theorem dX11_copy_92 : decode cX11_copy 92 = .ok (.aload_n 0, 1) := by decide +kernel
theorem dX11_copy_93 : decode cX11_copy 93 = .ok (.iconst 2, 1) := by decide +kernel
theorem dX11_copy_94 : decode cX11_copy 94 = .ok (.invokevirtual 116, 3) := by decide +kernel
theorem dX11_copy_97 : decode cX11_copy 97 = .ok (.ireturn, 1) := by decide +kernel
theorem dX11_copy_98 : decode cX11_copy 98 = .ok (.aload_n 0, 1) := by decide +kernel
theorem dX11_copy_99 : decode cX11_copy 99 = .ok (.getfield 14, 3) := by decide +kernel
theorem dX11_copy_102 : decode cX11_copy 102 = .ok (.iload_n 1, 1) := by decide +kernel
theorem dX11_copy_103 : decode cX11_copy 103 = .ok (.iload_n 2, 1) := by decide +kernel
theorem dX11_copy_104 : decode cX11_copy 104 = .ok (.iload_n 3, 1) := by decide +kernel
theorem dX11_copy_105 : decode cX11_copy 105 = .ok (.iload 4, 2) := by decide +kernel
theorem dX11_copy_107 : decode cX11_copy 107 = .ok (.iload 5, 2) := by decide +kernel
theorem dX11_copy_109 : decode cX11_copy 109 = .ok (.invokevirtual 153, 3) := by decide +kernel
theorem dX11_copy_112 : decode cX11_copy 112 = .ok (.iconst 1, 1) := by decide +kernel
theorem dX11_copy_113 : decode cX11_copy 113 = .ok (.ireturn, 1) := by decide +kernel
theorem dX11_mean_0 : decode cX11_mean 0 = .ok (.aload_n 0, 1) := by decide +kernel
theorem dX11_mean_1 : decode cX11_mean 1 = .ok (.aload_n 0, 1) := by decide +kernel
theorem dX11_mean_2 : decode cX11_mean 2 = .ok (.getfield 14, 3) := by decide +kernel
theorem dX11_mean_5 : decode cX11_mean 5 = .ok (.iload_n 1, 1) := by decide +kernel
theorem dX11_mean_6 : decode cX11_mean 6 = .ok (.invokevirtual 138, 3) := by decide +kernel
theorem dX11_mean_9 : decode cX11_mean 9 = .ok (.istore_n 2, 1) := by decide +kernel
theorem dX11_mean_10 : decode cX11_mean 10 = .ok (.iload_n 2, 1) := by decide +kernel
theorem dX11_mean_11 : decode cX11_mean 11 = .ok (.ifCond .eq 5, 3) := by decide +kernel
theorem dX11_mean_14 : decode cX11_mean 14 = .ok (.iload_n 2, 1) := by decide +kernel
theorem dX11_mean_15 : decode cX11_mean 15 = .ok (.ireturn, 1) := by decide +kernel
theorem dX11_mean_16 : decode cX11_mean 16 = .ok (.aload_n 0, 1) := by decide +kernel
theorem dX11_mean_17 : decode cX11_mean 17 = .ok (.getfield 14, 3) := by decide +kernel
theorem dX11_mean_20 : decode cX11_mean 20 = .ok (.iload_n 1, 1) := by decide +kernel
theorem dX11_mean_21 : decode cX11_mean 21 = .ok (.invokevirtual 157, 3) := by decide +kernel
theorem dX11_mean_24 : decode cX11_mean 24 = .ok (.istore_n 3, 1) := by decide +kernel
theorem dX11_mean_25 : decode cX11_mean 25 = .ok (.iload_n 3, 1) := by decide +kernel
theorem dX11_mean_26 : decode cX11_mean 26 = .ok (.ifCond .ne 9, 3) := by decide +kernel
theorem dX11_mean_29 : decode cX11_mean 29 = .ok (.aload_n 0, 1) := by decide +kernel
theorem dX11_mean_30 : decode cX11_mean 30 = .ok (.iconst 4, 1) := by decide +kernel
theorem dX11_mean_31 : decode cX11_mean 31 = .ok (.invokevirtual 116, 3) := by decide +kernel
theorem dX11_mean_34 : decode cX11_mean 34 = .ok (.ireturn, 1) := by decide +kernel
theorem dX11_mean_35 : decode cX11_mean 35 = .ok (.lconst 0, 1) := by decide +kernel
theorem dX11_mean_36 : decode cX11_mean 36 = .ok (.lstore 4, 2) := by decide +kernel
theorem dX11_mean_38 : decode cX11_mean 38 = .ok (.iconst 0, 1) := by decide +kernel
theorem dX11_mean_39 : decode cX11_mean 39 = .ok (.istore 6, 2) := by decide +kernel
theorem dX11_mean_41 : decode cX11_mean 41 = .ok (.iload 6, 2) := by decide +kernel
theorem dX11_mean_43 : decode cX11_mean 43 = .ok (.iload_n 3, 1) := by decide +kernel
theorem dX11_mean_44 : decode cX11_mean 44 = .ok (.if_icmp .ge 25, 3) := by decide +kernel
theorem dX11_mean_47 : decode cX11_mean 47 = .ok (.lload 4, 2) := by decide +kernel
theorem dX11_mean_49 : decode cX11_mean 49 = .ok (.aload_n 0, 1) := by decide +kernel
theorem dX11_mean_50 : decode cX11_mean 50 = .ok (.getfield 14, 3) := by decide +kernel
theorem dX11_mean_53 : decode cX11_mean 53 = .ok (.iload_n 1, 1) := by decide +kernel
theorem dX11_mean_54 : decode cX11_mean 54 = .ok (.iload 6, 2) := by decide +kernel
theorem dX11_mean_56 : decode cX11_mean 56 = .ok (.invokevirtual 128, 3) := by decide +kernel
theorem dX11_mean_59 : decode cX11_mean 59 = .ok (.i2l, 1) := by decide +kernel
theorem dX11_mean_60 : decode cX11_mean 60 = .ok (.ladd, 1) := by decide +kernel
theorem dX11_mean_61 : decode cX11_mean 61 = .ok (.lstore 4, 2) := by decide +kernel
theorem dX11_mean_63 : decode cX11_mean 63 = .ok (.iinc 6 1, 3) := by decide +kernel
theorem dX11_mean_66 : decode cX11_mean 66 = .ok (.goto (-25), 3) := by decide +kernel
theorem dX11_mean_69 : decode cX11_mean 69 = .ok (.aload_n 0, 1) := by decide +kernel
theorem dX11_mean_70 : decode cX11_mean 70 = .ok (.lload 4, 2) := by decide +kernel
theorem dX11_mean_72 : decode cX11_mean 72 = .ok (.iload_n 3, 1) := by decide +kernel
theorem dX11_mean_73 : decode cX11_mean 73 = .ok (.i2l, 1) := by decide +kernel
theorem dX11_mean_74 : decode cX11_mean 74 = .ok (.ldiv, 1) := by decide +kernel
theorem dX11_mean_75 : decode cX11_mean 75 = .ok (.l2i, 1) := by decide +kernel
theorem dX11_mean_76 : decode cX11_mean 76 = .ok (.iconst 1, 1) := by decide +kernel
theorem dX11_mean_77 : decode cX11_mean 77 = .ok (.invokevirtual 135, 3) := by decide +kernel
theorem dX11_mean_80 : decode cX11_mean 80 = .ok (.ireturn, 1) := by decide +kernel
theorem dX11_text_0 : decode cX11_text 0 = .ok (.aload_n 0, 1) := by decide +kernel
theorem dX11_text_1 : decode cX11_text 1 = .ok (.getfield 18, 3) := by decide +kernel
theorem dX11_text_4 : decode cX11_text 4 = .ok (.iload_n 1, 1) := by decide +kernel
theorem dX11_text_5 : decode cX11_text 5 = .ok (.invokevirtual 112, 3) := by decide +kernel
theorem dX11_text_8 : decode cX11_text 8 = .ok (.ifCond .eq 9, 3) := by decide +kernel
theorem dX11_text_11 : decode cX11_text 11 = .ok (.iload_n 2, 1) := by decide +kernel
theorem dX11_text_12 : decode cX11_text 12 = .ok (.bipush 100, 2) := by decide +kernel
theorem dX11_text_14 : decode cX11_text 14 = .ok (.if_icmp .le 5, 3) := by decide +kernel
theorem dX11_text_17 : decode cX11_text 17 = .ok (.iconst (-1), 1) := by decide +kernel
theorem dX11_text_18 : decode cX11_text 18 = .ok (.ireturn, 1) := by decide +kernel
theorem dX11_text_19 : decode cX11_text 19 = .ok (.iload_n 2, 1) := by decide +kernel
theorem dX11_text_20 : decode cX11_text 20 = .ok (.ifCond .ge 9, 3) := by decide +kernel
theorem dX11_text_23 : decode cX11_text 23 = .ok (.aload_n 0, 1) := by decide +kernel
theorem dX11_text_24 : decode cX11_text 24 = .ok (.iconst 5, 1) := by decide +kernel
theorem dX11_text_25 : decode cX11_text 25 = .ok (.invokevirtual 116, 3) := by decide +kernel
theorem dX11_text_28 : decode cX11_text 28 = .ok (.ireturn, 1) := by decide +kernel
theorem dX11_text_29 : decode cX11_text 29 = .ok (.aload_n 0, 1) := by decide +kernel
theorem dX11_text_30 : decode cX11_text 30 = .ok (.getfield 18, 3) := by decide +kernel
theorem dX11_text_33 : decode cX11_text 33 = .ok (.iload_n 1, 1) := by decide +kernel
theorem dX11_text_34 : decode cX11_text 34 = .ok (.iload_n 2, 1) := by decide +kernel
theorem dX11_text_35 : decode cX11_text 35 = .ok (.bipush 32, 2) := by decide +kernel
theorem dX11_text_37 : decode cX11_text 37 = .ok (.invokevirtual 120, 3) := by decide +kernel
theorem dX11_text_40 : decode cX11_text 40 = .ok (.iload_n 2, 1) := by decide +kernel
theorem dX11_text_41 : decode cX11_text 41 = .ok (.ireturn, 1) := by decide +kernel
theorem dX11_put_0 : decode cX11_put 0 = .ok (.aload_n 0, 1) := by decide +kernel
theorem dX11_put_1 : decode cX11_put 1 = .ok (.aload_n 0, 1) := by decide +kernel
theorem dX11_put_2 : decode cX11_put 2 = .ok (.getfield 18, 3) := by decide +kernel
theorem dX11_put_5 : decode cX11_put 5 = .ok (.iload_n 1, 1) := by decide +kernel
theorem dX11_put_6 : decode cX11_put 6 = .ok (.iload_n 2, 1) := by decide +kernel
theorem dX11_put_7 : decode cX11_put 7 = .ok (.invokevirtual 124, 3) := by decide +kernel
theorem dX11_put_10 : decode cX11_put 10 = .ok (.istore 4, 2) := by decide +kernel
theorem dX11_put_12 : decode cX11_put 12 = .ok (.iload 4, 2) := by decide +kernel
theorem dX11_put_14 : decode cX11_put 14 = .ok (.ifCond .eq 6, 3) := by decide +kernel
theorem dX11_put_17 : decode cX11_put 17 = .ok (.iload 4, 2) := by decide +kernel
theorem dX11_put_19 : decode cX11_put 19 = .ok (.ireturn, 1) := by decide +kernel
theorem dX11_put_20 : decode cX11_put 20 = .ok (.aload_n 0, 1) := by decide +kernel
theorem dX11_put_21 : decode cX11_put 21 = .ok (.getfield 18, 3) := by decide +kernel
theorem dX11_put_24 : decode cX11_put 24 = .ok (.iload_n 1, 1) := by decide +kernel
theorem dX11_put_25 : decode cX11_put 25 = .ok (.iload_n 2, 1) := by decide +kernel
theorem dX11_put_26 : decode cX11_put 26 = .ok (.invokevirtual 128, 3) := by decide +kernel
theorem dX11_put_29 : decode cX11_put 29 = .ok (.istore 5, 2) := by decide +kernel
theorem dX11_put_31 : decode cX11_put 31 = .ok (.aload_n 0, 1) := by decide +kernel
theorem dX11_put_32 : decode cX11_put 32 = .ok (.getfield 18, 3) := by decide +kernel
theorem dX11_put_35 : decode cX11_put 35 = .ok (.iload_n 1, 1) := by decide +kernel
theorem dX11_put_36 : decode cX11_put 36 = .ok (.iload_n 2, 1) := by decide +kernel
theorem dX11_put_37 : decode cX11_put 37 = .ok (.iload_n 3, 1) := by decide +kernel
theorem dX11_put_38 : decode cX11_put 38 = .ok (.i2b, 1) := by decide +kernel
theorem dX11_put_39 : decode cX11_put 39 = .ok (.invokevirtual 132, 3) := by decide +kernel
theorem dX11_put_42 : decode cX11_put 42 = .ok (.iload 5, 2) := by decide +kernel
theorem dX11_put_44 : decode cX11_put 44 = .ok (.sipush 1000, 3) := by decide +kernel
theorem dX11_put_47 : decode cX11_put 47 = .ok (.iadd, 1) := by decide +kernel
theorem dX11_put_48 : decode cX11_put 48 = .ok (.ireturn, 1) := by decide +kernel
theorem dX11_fault_0 : decode cX11_fault 0 = .ok (.aload_n 0, 1) := by decide +kernel
theorem dX11_fault_1 : decode cX11_fault 1 = .ok (.aload_n 0, 1) := by decide +kernel
theorem dX11_fault_2 : decode cX11_fault 2 = .ok (.getfield 18, 3) := by decide +kernel
theorem dX11_fault_5 : decode cX11_fault 5 = .ok (.iload_n 1, 1) := by decide +kernel
theorem dX11_fault_6 : decode cX11_fault 6 = .ok (.invokevirtual 138, 3) := by decide +kernel
theorem dX11_fault_9 : decode cX11_fault 9 = .ok (.istore_n 2, 1) := by decide +kernel
theorem dX11_fault_10 : decode cX11_fault 10 = .ok (.iload_n 2, 1) := by decide +kernel
theorem dX11_fault_11 : decode cX11_fault 11 = .ok (.ifCond .eq 5, 3) := by decide +kernel
theorem dX11_fault_14 : decode cX11_fault 14 = .ok (.iload_n 2, 1) := by decide +kernel
theorem dX11_fault_15 : decode cX11_fault 15 = .ok (.ireturn, 1) := by decide +kernel
theorem dX11_fault_16 : decode cX11_fault 16 = .ok (.aload_n 0, 1) := by decide +kernel
theorem dX11_fault_17 : decode cX11_fault 17 = .ok (.getfield 28, 3) := by decide +kernel
theorem dX11_fault_20 : decode cX11_fault 20 = .ok (.aload_n 0, 1) := by decide +kernel
theorem dX11_fault_21 : decode cX11_fault 21 = .ok (.getfield 18, 3) := by decide +kernel
theorem dX11_fault_24 : decode cX11_fault 24 = .ok (.iload_n 1, 1) := by decide +kernel
theorem dX11_fault_25 : decode cX11_fault 25 = .ok (.invokevirtual 160, 3) := by decide +kernel
theorem dX11_fault_28 : decode cX11_fault 28 = .ok (.ireturn, 1) := by decide +kernel
theorem dX11_office_0 : decode cX11_office 0 = .ok (.aload_n 0, 1) := by decide +kernel
theorem dX11_office_1 : decode cX11_office 1 = .ok (.aload_n 0, 1) := by decide +kernel
theorem dX11_office_2 : decode cX11_office 2 = .ok (.getfield 18, 3) := by decide +kernel
theorem dX11_office_5 : decode cX11_office 5 = .ok (.iload_n 1, 1) := by decide +kernel
theorem dX11_office_6 : decode cX11_office 6 = .ok (.invokevirtual 138, 3) := by decide +kernel
theorem dX11_office_9 : decode cX11_office 9 = .ok (.istore_n 2, 1) := by decide +kernel
theorem dX11_office_10 : decode cX11_office 10 = .ok (.iload_n 2, 1) := by decide +kernel
theorem dX11_office_11 : decode cX11_office 11 = .ok (.ifCond .eq 5, 3) := by decide +kernel
theorem dX11_office_14 : decode cX11_office 14 = .ok (.iload_n 2, 1) := by decide +kernel
theorem dX11_office_15 : decode cX11_office 15 = .ok (.ireturn, 1) := by decide +kernel
theorem dX11_office_16 : decode cX11_office 16 = .ok (.aload_n 0, 1) := by decide +kernel
theorem dX11_office_17 : decode cX11_office 17 = .ok (.getfield 28, 3) := by decide +kernel
theorem dX11_office_20 : decode cX11_office 20 = .ok (.aload_n 0, 1) := by decide +kernel
theorem dX11_office_21 : decode cX11_office 21 = .ok (.getfield 18, 3) := by decide +kernel
theorem dX11_office_24 : decode cX11_office 24 = .ok (.iload_n 1, 1) := by decide +kernel
theorem dX11_office_25 : decode cX11_office 25 = .ok (.invokevirtual 160, 3) := by decide +kernel
theorem dX11_office_28 : decode cX11_office 28 = .ok (.bipush (-9), 2) := by decide +kernel
theorem dX11_office_30 : decode cX11_office 30 = .ok (.if_icmp .eq 6, 3) := by decide +kernel
theorem dX11_office_33 : decode cX11_office 33 = .ok (.bipush (-4), 2) := by decide +kernel
theorem dX11_office_35 : decode cX11_office 35 = .ok (.ireturn, 1) := by decide +kernel
theorem dX11_office_36 : decode cX11_office 36 = .ok (.aload_n 0, 1) := by decide +kernel
theorem dX11_office_37 : decode cX11_office 37 = .ok (.getfield 24, 3) := by decide +kernel
theorem dX11_office_40 : decode cX11_office 40 = .ok (.aload_n 0, 1) := by decide +kernel
theorem dX11_office_41 : decode cX11_office 41 = .ok (.getfield 18, 3) := by decide +kernel
theorem dX11_office_44 : decode cX11_office 44 = .ok (.iload_n 1, 1) := by decide +kernel
theorem dX11_office_45 : decode cX11_office 45 = .ok (.invokevirtual 160, 3) := by decide +kernel
theorem dX11_office_48 : decode cX11_office 48 = .ok (.pop, 1) := by decide +kernel
theorem dX11_office_49 : decode cX11_office 49 = .ok (.aload_n 0, 1) := by decide +kernel
theorem dX11_office_50 : decode cX11_office 50 = .ok (.getfield 34, 3) := by decide +kernel
theorem dX11_office_53 : decode cX11_office 53 = .ok (.invokevirtual 163, 3) := by decide +kernel
theorem dX11_office_56 : decode cX11_office 56 = .ok (.aload_n 0, 1) := by decide +kernel
theorem dX11_office_57 : decode cX11_office 57 = .ok (.getfield 45, 3) := by decide +kernel
theorem dX11_office_60 : decode cX11_office 60 = .ok (.iconst 0, 1) := by decide +kernel
theorem dX11_office_61 : decode cX11_office 61 = .ok (.putfield 166, 3) := by decide +kernel
theorem dX11_office_64 : decode cX11_office 64 = .ok (.iconst 0, 1) := by decide +kernel
theorem dX11_office_65 : decode cX11_office 65 = .ok (.istore_n 3, 1) := by decide +kernel
theorem dX11_office_66 : decode cX11_office 66 = .ok (.iload_n 3, 1) := by decide +kernel
theorem dX11_office_67 : decode cX11_office 67 = .ok (.iconst 3, 1) := by decide +kernel
theorem dX11_office_68 : decode cX11_office 68 = .ok (.if_icmp .ge 14, 3) := by decide +kernel
theorem dX11_office_71 : decode cX11_office 71 = .ok (.aload_n 0, 1) := by decide +kernel
theorem dX11_office_72 : decode cX11_office 72 = .ok (.iload_n 3, 1) := by decide +kernel
theorem dX11_office_73 : decode cX11_office 73 = .ok (.invokevirtual 169, 3) := by decide +kernel
theorem dX11_office_76 : decode cX11_office 76 = .ok (.iinc 3 1, 3) := by decide +kernel
theorem dX11_office_79 : decode cX11_office 79 = .ok (.goto (-13), 3) := by decide +kernel
theorem dX11_office_82 : decode cX11_office 82 = .ok (.aload_n 0, 1) := by decide +kernel
theorem dX11_office_83 : decode cX11_office 83 = .ok (.getfield 24, 3) := by decide +kernel
theorem dX11_office_86 : decode cX11_office 86 = .ok (.getfield 172, 3) := by decide +kernel
theorem dX11_office_89 : decode cX11_office 89 = .ok (.ireturn, 1) := by decide +kernel
theorem dX11_desk_0 : decode cX11_desk 0 = .ok (.aload_n 0, 1) := by decide +kernel
theorem dX11_desk_1 : decode cX11_desk 1 = .ok (.getfield 24, 3) := by decide +kernel
theorem dX11_desk_4 : decode cX11_desk 4 = .ok (.iload_n 1, 1) := by decide +kernel
theorem dX11_desk_5 : decode cX11_desk 5 = .ok (.invokevirtual 173, 3) := by decide +kernel
theorem dX11_desk_8 : decode cX11_desk 8 = .ok (.ifCond .eq 13, 3) := by decide +kernel
theorem dX11_desk_11 : decode cX11_desk 11 = .ok (.iload_n 2, 1) := by decide +kernel
theorem dX11_desk_12 : decode cX11_desk 12 = .ok (.ifCond .lt 9, 3) := by decide +kernel
theorem dX11_desk_15 : decode cX11_desk 15 = .ok (.iload_n 2, 1) := by decide +kernel
theorem dX11_desk_16 : decode cX11_desk 16 = .ok (.bipush 6, 2) := by decide +kernel
theorem dX11_desk_18 : decode cX11_desk 18 = .ok (.if_icmp .lt 5, 3) := by decide +kernel
theorem dX11_desk_21 : decode cX11_desk 21 = .ok (.iconst (-1), 1) := by decide +kernel
theorem dX11_desk_22 : decode cX11_desk 22 = .ok (.ireturn, 1) := by decide +kernel
theorem dX11_desk_23 : decode cX11_desk 23 = .ok (.aload_n 0, 1) := by decide +kernel
theorem dX11_desk_24 : decode cX11_desk 24 = .ok (.aload_n 0, 1) := by decide +kernel
theorem dX11_desk_25 : decode cX11_desk 25 = .ok (.getfield 24, 3) := by decide +kernel
theorem dX11_desk_28 : decode cX11_desk 28 = .ok (.iload_n 1, 1) := by decide +kernel
theorem dX11_desk_29 : decode cX11_desk 29 = .ok (.iload_n 2, 1) := by decide +kernel
theorem dX11_desk_30 : decode cX11_desk 30 = .ok (.invokevirtual 174, 3) := by decide +kernel
theorem dX11_desk_33 : decode cX11_desk 33 = .ok (.iconst 1, 1) := by decide +kernel
theorem dX11_desk_34 : decode cX11_desk 34 = .ok (.invokevirtual 135, 3) := by decide +kernel
theorem dX11_desk_37 : decode cX11_desk 37 = .ok (.ireturn, 1) := by decide +kernel
theorem dX11_mark_0 : decode cX11_mark 0 = .ok (.aload_n 0, 1) := by decide +kernel
theorem dX11_mark_1 : decode cX11_mark 1 = .ok (.getfield 24, 3) := by decide +kernel
theorem dX11_mark_4 : decode cX11_mark 4 = .ok (.iload_n 1, 1) := by decide +kernel
theorem dX11_mark_5 : decode cX11_mark 5 = .ok (.invokevirtual 173, 3) := by decide +kernel
theorem dX11_mark_8 : decode cX11_mark 8 = .ok (.ifCond .eq 12, 3) := by decide +kernel
theorem dX11_mark_11 : decode cX11_mark 11 = .ok (.iload_n 2, 1) := by decide +kernel
theorem dX11_mark_12 : decode cX11_mark 12 = .ok (.ifCond .le 8, 3) := by decide +kernel
theorem dX11_mark_15 : decode cX11_mark 15 = .ok (.iload_n 2, 1) := by decide +kernel
theorem dX11_mark_16 : decode cX11_mark 16 = .ok (.iconst 5, 1) := by decide +kernel
theorem dX11_mark_17 : decode cX11_mark 17 = .ok (.if_icmp .le 5, 3) := by decide +kernel
theorem dX11_mark_20 : decode cX11_mark 20 = .ok (.iconst (-1), 1) := by decide +kernel
theorem dX11_mark_21 : decode cX11_mark 21 = .ok (.ireturn, 1) := by decide +kernel
theorem dX11_mark_22 : decode cX11_mark 22 = .ok (.aload_n 0, 1) := by decide +kernel
theorem dX11_mark_23 : decode cX11_mark 23 = .ok (.getfield 24, 3) := by decide +kernel
theorem dX11_mark_26 : decode cX11_mark 26 = .ok (.iload_n 1, 1) := by decide +kernel
theorem dX11_mark_27 : decode cX11_mark 27 = .ok (.iload_n 2, 1) := by decide +kernel
theorem dX11_mark_28 : decode cX11_mark 28 = .ok (.invokevirtual 177, 3) := by decide +kernel
theorem dX11_mark_31 : decode cX11_mark 31 = .ok (.ifCond .ne 9, 3) := by decide +kernel
theorem dX11_mark_34 : decode cX11_mark 34 = .ok (.aload_n 0, 1) := by decide +kernel
theorem dX11_mark_35 : decode cX11_mark 35 = .ok (.iconst 3, 1) := by decide +kernel
theorem dX11_mark_36 : decode cX11_mark 36 = .ok (.invokevirtual 116, 3) := by decide +kernel
theorem dX11_mark_39 : decode cX11_mark 39 = .ok (.ireturn, 1) := by decide +kernel
theorem dX11_mark_40 : decode cX11_mark 40 = .ok (.iload_n 2, 1) := by decide +kernel
theorem dX11_mark_41 : decode cX11_mark 41 = .ok (.tableswitch 117 1 4 #[31, 60, 69, 93], 31) := by decide +kernel
theorem dX11_mark_72 : decode cX11_mark 72 = .ok (.iload_n 1, 1) := by decide +kernel
theorem dX11_mark_73 : decode cX11_mark 73 = .ok (.ifCond .le 7, 3) := by decide +kernel
theorem dX11_mark_76 : decode cX11_mark 76 = .ok (.iconst 1, 1) := by decide +kernel
theorem dX11_mark_77 : decode cX11_mark 77 = .ok (.goto 4, 3) := by decide +kernel
theorem dX11_mark_80 : decode cX11_mark 80 = .ok (.iconst 0, 1) := by decide +kernel
theorem dX11_mark_81 : decode cX11_mark 81 = .ok (.iload_n 1, 1) := by decide +kernel
theorem dX11_mark_82 : decode cX11_mark 82 = .ok (.iconst 1, 1) := by decide +kernel
theorem dX11_mark_83 : decode cX11_mark 83 = .ok (.iadd, 1) := by decide +kernel
theorem dX11_mark_84 : decode cX11_mark 84 = .ok (.aload_n 0, 1) := by decide +kernel
theorem dX11_mark_85 : decode cX11_mark 85 = .ok (.getfield 24, 3) := by decide +kernel
theorem dX11_mark_88 : decode cX11_mark 88 = .ok (.getfield 172, 3) := by decide +kernel
theorem dX11_mark_91 : decode cX11_mark 91 = .ok (.if_icmp .ge 7, 3) := by decide +kernel
theorem dX11_mark_94 : decode cX11_mark 94 = .ok (.iconst 1, 1) := by decide +kernel
theorem dX11_mark_95 : decode cX11_mark 95 = .ok (.goto 4, 3) := by decide +kernel
theorem dX11_mark_98 : decode cX11_mark 98 = .ok (.iconst 0, 1) := by decide +kernel
theorem dX11_mark_99 : decode cX11_mark 99 = .ok (.iadd, 1) := by decide +kernel
theorem dX11_mark_100 : decode cX11_mark 100 = .ok (.ireturn, 1) := by decide +kernel
theorem dX11_mark_101 : decode cX11_mark 101 = .ok (.aload_n 0, 1) := by decide +kernel
theorem dX11_mark_102 : decode cX11_mark 102 = .ok (.getfield 24, 3) := by decide +kernel
theorem dX11_mark_105 : decode cX11_mark 105 = .ok (.iload_n 1, 1) := by decide +kernel
theorem dX11_mark_106 : decode cX11_mark 106 = .ok (.invokevirtual 181, 3) := by decide +kernel
theorem dX11_mark_109 : decode cX11_mark 109 = .ok (.ireturn, 1) := by decide +kernel
theorem dX11_mark_110 : decode cX11_mark 110 = .ok (.aload_n 0, 1) := by decide +kernel
theorem dX11_mark_111 : decode cX11_mark 111 = .ok (.getfield 24, 3) := by decide +kernel
theorem dX11_mark_114 : decode cX11_mark 114 = .ok (.iload_n 1, 1) := by decide +kernel
theorem dX11_mark_115 : decode cX11_mark 115 = .ok (.aload_n 0, 1) := by decide +kernel
theorem dX11_mark_116 : decode cX11_mark 116 = .ok (.getfield 34, 3) := by decide +kernel
theorem dX11_mark_119 : decode cX11_mark 119 = .ok (.getfield 184, 3) := by decide +kernel
theorem dX11_mark_122 : decode cX11_mark 122 = .ok (.invokevirtual 187, 3) := by decide +kernel
theorem dX11_mark_125 : decode cX11_mark 125 = .ok (.ifCond .eq 7, 3) := by decide +kernel
theorem dX11_mark_128 : decode cX11_mark 128 = .ok (.iconst 1, 1) := by decide +kernel
theorem dX11_mark_129 : decode cX11_mark 129 = .ok (.goto 4, 3) := by decide +kernel
theorem dX11_mark_132 : decode cX11_mark 132 = .ok (.iconst 0, 1) := by decide +kernel
theorem dX11_mark_133 : decode cX11_mark 133 = .ok (.ireturn, 1) := by decide +kernel
theorem dX11_mark_134 : decode cX11_mark 134 = .ok (.aload_n 0, 1) := by decide +kernel
theorem dX11_mark_135 : decode cX11_mark 135 = .ok (.getfield 69, 3) := by decide +kernel
theorem dX11_mark_138 : decode cX11_mark 138 = .ok (.aload_n 0, 1) := by decide +kernel
theorem dX11_mark_139 : decode cX11_mark 139 = .ok (.getfield 34, 3) := by decide +kernel
theorem dX11_mark_142 : decode cX11_mark 142 = .ok (.invokevirtual 190, 3) := by decide +kernel
theorem dX11_mark_145 : decode cX11_mark 145 = .ok (.aload_n 0, 1) := by decide +kernel
theorem dX11_mark_146 : decode cX11_mark 146 = .ok (.getfield 69, 3) := by decide +kernel
theorem dX11_mark_149 : decode cX11_mark 149 = .ok (.aload_n 0, 1) := by decide +kernel
theorem dX11_mark_150 : decode cX11_mark 150 = .ok (.getfield 24, 3) := by decide +kernel
theorem dX11_mark_153 : decode cX11_mark 153 = .ok (.iload_n 1, 1) := by decide +kernel
theorem dX11_mark_154 : decode cX11_mark 154 = .ok (.invokevirtual 194, 3) := by decide +kernel
theorem dX11_mark_157 : decode cX11_mark 157 = .ok (.ireturn, 1) := by decide +kernel
theorem dX11_mark_158 : decode cX11_mark 158 = .ok (.aload_n 0, 1) := by decide +kernel
theorem dX11_mark_159 : decode cX11_mark 159 = .ok (.getfield 59, 3) := by decide +kernel
theorem dX11_mark_162 : decode cX11_mark 162 = .ok (.aload_n 0, 1) := by decide +kernel
theorem dX11_mark_163 : decode cX11_mark 163 = .ok (.getfield 34, 3) := by decide +kernel
theorem dX11_mark_166 : decode cX11_mark 166 = .ok (.invokevirtual 198, 3) := by decide +kernel
theorem dX11_mark_169 : decode cX11_mark 169 = .ok (.aload_n 0, 1) := by decide +kernel
theorem dX11_mark_170 : decode cX11_mark 170 = .ok (.getfield 59, 3) := by decide +kernel
theorem dX11_mark_173 : decode cX11_mark 173 = .ok (.aload_n 0, 1) := by decide +kernel
theorem dX11_mark_174 : decode cX11_mark 174 = .ok (.getfield 24, 3) := by decide +kernel
theorem dX11_mark_177 : decode cX11_mark 177 = .ok (.iload_n 1, 1) := by decide +kernel
theorem dX11_mark_178 : decode cX11_mark 178 = .ok (.invokevirtual 199, 3) := by decide +kernel
theorem dX11_mark_181 : decode cX11_mark 181 = .ok (.ireturn, 1) := by decide +kernel
theorem dX11_law_0 : decode cX11_law 0 = .ok (.iload_n 1, 1) := by decide +kernel
theorem dX11_law_1 : decode cX11_law 1 = .ok (.ifCond .lt 8, 3) := by decide +kernel
theorem dX11_law_4 : decode cX11_law 4 = .ok (.iload_n 1, 1) := by decide +kernel
theorem dX11_law_5 : decode cX11_law 5 = .ok (.iconst 3, 1) := by decide +kernel
theorem dX11_law_6 : decode cX11_law 6 = .ok (.if_icmp .lt 5, 3) := by decide +kernel
theorem dX11_law_9 : decode cX11_law 9 = .ok (.iconst (-1), 1) := by decide +kernel
theorem dX11_law_10 : decode cX11_law 10 = .ok (.ireturn, 1) := by decide +kernel
theorem dX11_law_11 : decode cX11_law 11 = .ok (.aload_n 0, 1) := by decide +kernel
theorem dX11_law_12 : decode cX11_law 12 = .ok (.getfield 34, 3) := by decide +kernel
theorem dX11_law_15 : decode cX11_law 15 = .ok (.getfield 202, 3) := by decide +kernel
theorem dX11_law_18 : decode cX11_law 18 = .ok (.istore_n 2, 1) := by decide +kernel
theorem dX11_law_19 : decode cX11_law 19 = .ok (.aload_n 0, 1) := by decide +kernel
theorem dX11_law_20 : decode cX11_law 20 = .ok (.getfield 34, 3) := by decide +kernel
theorem dX11_law_23 : decode cX11_law 23 = .ok (.iload_n 1, 1) := by decide +kernel
theorem dX11_law_24 : decode cX11_law 24 = .ok (.putfield 202, 3) := by decide +kernel
theorem dX11_law_27 : decode cX11_law 27 = .ok (.iload_n 2, 1) := by decide +kernel
theorem dX11_law_28 : decode cX11_law 28 = .ok (.ireturn, 1) := by decide +kernel
theorem dX11_name_0 : decode cX11_name 0 = .ok (.iload_n 1, 1) := by decide +kernel
theorem dX11_name_1 : decode cX11_name 1 = .ok (.ifCond .lt 9, 3) := by decide +kernel
theorem dX11_name_4 : decode cX11_name 4 = .ok (.iload_n 1, 1) := by decide +kernel
theorem dX11_name_5 : decode cX11_name 5 = .ok (.bipush 60, 2) := by decide +kernel
theorem dX11_name_7 : decode cX11_name 7 = .ok (.if_icmp .le 5, 3) := by decide +kernel
theorem dX11_name_10 : decode cX11_name 10 = .ok (.iconst (-1), 1) := by decide +kernel
theorem dX11_name_11 : decode cX11_name 11 = .ok (.ireturn, 1) := by decide +kernel
theorem dX11_name_12 : decode cX11_name 12 = .ok (.aload_n 0, 1) := by decide +kernel
theorem dX11_name_13 : decode cX11_name 13 = .ok (.getfield 34, 3) := by decide +kernel
theorem dX11_name_16 : decode cX11_name 16 = .ok (.getfield 205, 3) := by decide +kernel
theorem dX11_name_19 : decode cX11_name 19 = .ok (.istore_n 2, 1) := by decide +kernel
theorem dX11_name_20 : decode cX11_name 20 = .ok (.aload_n 0, 1) := by decide +kernel
theorem dX11_name_21 : decode cX11_name 21 = .ok (.getfield 34, 3) := by decide +kernel
theorem dX11_name_24 : decode cX11_name 24 = .ok (.iload_n 1, 1) := by decide +kernel
theorem dX11_name_25 : decode cX11_name 25 = .ok (.putfield 205, 3) := by decide +kernel
theorem dX11_name_28 : decode cX11_name 28 = .ok (.iload_n 2, 1) := by decide +kernel
theorem dX11_name_29 : decode cX11_name 29 = .ok (.ireturn, 1) := by decide +kernel
theorem dX11_link_0 : decode cX11_link 0 = .ok (.iload_n 1, 1) := by decide +kernel
theorem dX11_link_1 : decode cX11_link 1 = .ok (.ifCond .eq 10, 3) := by decide +kernel
theorem dX11_link_4 : decode cX11_link 4 = .ok (.iload_n 1, 1) := by decide +kernel
theorem dX11_link_5 : decode cX11_link 5 = .ok (.iconst 1, 1) := by decide +kernel
theorem dX11_link_6 : decode cX11_link 6 = .ok (.if_icmp .eq 5, 3) := by decide +kernel
theorem dX11_link_9 : decode cX11_link 9 = .ok (.iconst (-1), 1) := by decide +kernel
theorem dX11_link_10 : decode cX11_link 10 = .ok (.ireturn, 1) := by decide +kernel
theorem dX11_link_11 : decode cX11_link 11 = .ok (.aload_n 0, 1) := by decide +kernel
theorem dX11_link_12 : decode cX11_link 12 = .ok (.getfield 34, 3) := by decide +kernel
theorem dX11_link_15 : decode cX11_link 15 = .ok (.getfield 208, 3) := by decide +kernel
theorem dX11_link_18 : decode cX11_link 18 = .ok (.istore_n 2, 1) := by decide +kernel
theorem dX11_link_19 : decode cX11_link 19 = .ok (.aload_n 0, 1) := by decide +kernel
theorem dX11_link_20 : decode cX11_link 20 = .ok (.getfield 34, 3) := by decide +kernel
theorem dX11_link_23 : decode cX11_link 23 = .ok (.iload_n 1, 1) := by decide +kernel
theorem dX11_link_24 : decode cX11_link 24 = .ok (.putfield 208, 3) := by decide +kernel
theorem dX11_link_27 : decode cX11_link 27 = .ok (.iload_n 2, 1) := by decide +kernel
theorem dX11_link_28 : decode cX11_link 28 = .ok (.ireturn, 1) := by decide +kernel
theorem dX11_begin_0 : decode cX11_begin 0 = .ok (.aload_n 0, 1) := by decide +kernel
theorem dX11_begin_1 : decode cX11_begin 1 = .ok (.getfield 24, 3) := by decide +kernel
theorem dX11_begin_4 : decode cX11_begin 4 = .ok (.iload_n 1, 1) := by decide +kernel
theorem dX11_begin_5 : decode cX11_begin 5 = .ok (.invokevirtual 173, 3) := by decide +kernel
theorem dX11_begin_8 : decode cX11_begin 8 = .ok (.ifCond .eq 12, 3) := by decide +kernel
theorem dX11_begin_11 : decode cX11_begin 11 = .ok (.iload_n 2, 1) := by decide +kernel
theorem dX11_begin_12 : decode cX11_begin 12 = .ok (.ifCond .lt 8, 3) := by decide +kernel
theorem dX11_begin_15 : decode cX11_begin 15 = .ok (.iload_n 2, 1) := by decide +kernel
theorem dX11_begin_16 : decode cX11_begin 16 = .ok (.iconst 3, 1) := by decide +kernel
theorem dX11_begin_17 : decode cX11_begin 17 = .ok (.if_icmp .lt 5, 3) := by decide +kernel
theorem dX11_begin_20 : decode cX11_begin 20 = .ok (.iconst (-1), 1) := by decide +kernel
theorem dX11_begin_21 : decode cX11_begin 21 = .ok (.ireturn, 1) := by decide +kernel
theorem dX11_begin_22 : decode cX11_begin 22 = .ok (.aload_n 0, 1) := by decide +kernel
theorem dX11_begin_23 : decode cX11_begin 23 = .ok (.getfield 34, 3) := by decide +kernel
theorem dX11_begin_26 : decode cX11_begin 26 = .ok (.iload_n 1, 1) := by decide +kernel
theorem dX11_begin_27 : decode cX11_begin 27 = .ok (.iload_n 2, 1) := by decide +kernel
theorem dX11_begin_28 : decode cX11_begin 28 = .ok (.invokevirtual 211, 3) := by decide +kernel
theorem dX11_begin_31 : decode cX11_begin 31 = .ok (.aload_n 0, 1) := by decide +kernel
theorem dX11_begin_32 : decode cX11_begin 32 = .ok (.getfield 24, 3) := by decide +kernel
theorem dX11_begin_35 : decode cX11_begin 35 = .ok (.getfield 172, 3) := by decide +kernel
theorem dX11_begin_38 : decode cX11_begin 38 = .ok (.ireturn, 1) := by decide +kernel
theorem dX11_go_0 : decode cX11_go 0 = .ok (.iload_n 1, 1) := by decide +kernel
theorem dX11_go_1 : decode cX11_go 1 = .ok (.ifCond .lt 23, 3) := by decide +kernel
theorem dX11_go_4 : decode cX11_go 4 = .ok (.iload_n 1, 1) := by decide +kernel
theorem dX11_go_5 : decode cX11_go 5 = .ok (.bipush 60, 2) := by decide +kernel
theorem dX11_go_7 : decode cX11_go 7 = .ok (.if_icmp .gt 17, 3) := by decide +kernel
theorem dX11_go_10 : decode cX11_go 10 = .ok (.iload_n 2, 1) := by decide +kernel
theorem dX11_go_11 : decode cX11_go 11 = .ok (.iconst 1, 1) := by decide +kernel
theorem dX11_go_12 : decode cX11_go 12 = .ok (.if_icmp .lt 12, 3) := by decide +kernel
theorem dX11_go_15 : decode cX11_go 15 = .ok (.iload_n 2, 1) := by decide +kernel
theorem dX11_go_16 : decode cX11_go 16 = .ok (.i2l, 1) := by decide +kernel
theorem dX11_go_17 : decode cX11_go 17 = .ok (.ldc2_w 214, 3) := by decide +kernel
theorem dX11_go_20 : decode cX11_go 20 = .ok (.lcmp, 1) := by decide +kernel
theorem dX11_go_21 : decode cX11_go 21 = .ok (.ifCond .lt 5, 3) := by decide +kernel
theorem dX11_go_24 : decode cX11_go 24 = .ok (.iconst (-1), 1) := by decide +kernel
theorem dX11_go_25 : decode cX11_go 25 = .ok (.ireturn, 1) := by decide +kernel
theorem dX11_go_26 : decode cX11_go 26 = .ok (.aload_n 0, 1) := by decide +kernel
theorem dX11_go_27 : decode cX11_go 27 = .ok (.getfield 24, 3) := by decide +kernel
theorem dX11_go_30 : decode cX11_go 30 = .ok (.getfield 172, 3) := by decide +kernel
theorem dX11_go_33 : decode cX11_go 33 = .ok (.ifCond .ne 6, 3) := by decide +kernel
theorem dX11_go_36 : decode cX11_go 36 = .ok (.bipush (-4), 2) := by decide +kernel
theorem dX11_go_38 : decode cX11_go 38 = .ok (.ireturn, 1) := by decide +kernel
theorem dX11_go_39 : decode cX11_go 39 = .ok (.aload_n 0, 1) := by decide +kernel
theorem dX11_go_40 : decode cX11_go 40 = .ok (.getfield 34, 3) := by decide +kernel
theorem dX11_go_43 : decode cX11_go 43 = .ok (.getfield 184, 3) := by decide +kernel
theorem dX11_go_46 : decode cX11_go 46 = .ok (.iload_n 1, 1) := by decide +kernel
theorem dX11_go_47 : decode cX11_go 47 = .ok (.iadd, 1) := by decide +kernel
theorem dX11_go_48 : decode cX11_go 48 = .ok (.sipush 1000, 3) := by decide +kernel
theorem dX11_go_51 : decode cX11_go 51 = .ok (.if_icmp .le 6, 3) := by decide +kernel
theorem dX11_go_54 : decode cX11_go 54 = .ok (.bipush (-6), 2) := by decide +kernel
theorem dX11_go_56 : decode cX11_go 56 = .ok (.ireturn, 1) := by decide +kernel
theorem dX11_go_57 : decode cX11_go 57 = .ok (.iload_n 2, 1) := by decide +kernel
theorem dX11_go_58 : decode cX11_go 58 = .ok (.i2l, 1) := by decide +kernel
theorem dX11_go_59 : decode cX11_go 59 = .ok (.lstore_n 3, 1) := by decide +kernel
theorem dX11_go_60 : decode cX11_go 60 = .ok (.iconst 0, 1) := by decide +kernel
theorem dX11_go_61 : decode cX11_go 61 = .ok (.istore 5, 2) := by decide +kernel
theorem dX11_go_63 : decode cX11_go 63 = .ok (.iload 5, 2) := by decide +kernel
theorem dX11_go_65 : decode cX11_go 65 = .ok (.iload_n 1, 1) := by decide +kernel
theorem dX11_go_66 : decode cX11_go 66 = .ok (.if_icmp .ge 38, 3) := by decide +kernel
theorem dX11_go_69 : decode cX11_go 69 = .ok (.aload_n 0, 1) := by decide +kernel
theorem dX11_go_70 : decode cX11_go 70 = .ok (.getfield 34, 3) := by decide +kernel
theorem dX11_go_73 : decode cX11_go 73 = .ok (.getfield 216, 3) := by decide +kernel
theorem dX11_go_76 : decode cX11_go 76 = .ok (.ifCond .ne 9, 3) := by decide +kernel
theorem dX11_go_79 : decode cX11_go 79 = .ok (.aload_n 0, 1) := by decide +kernel
theorem dX11_go_80 : decode cX11_go 80 = .ok (.lload_n 3, 1) := by decide +kernel
theorem dX11_go_81 : decode cX11_go 81 = .ok (.invokevirtual 220, 3) := by decide +kernel
theorem dX11_go_84 : decode cX11_go 84 = .ok (.lstore_n 3, 1) := by decide +kernel
theorem dX11_go_85 : decode cX11_go 85 = .ok (.aload_n 0, 1) := by decide +kernel
theorem dX11_go_86 : decode cX11_go 86 = .ok (.getfield 34, 3) := by decide +kernel
theorem dX11_go_89 : decode cX11_go 89 = .ok (.dup, 1) := by decide +kernel
theorem dX11_go_90 : decode cX11_go 90 = .ok (.getfield 184, 3) := by decide +kernel
theorem dX11_go_93 : decode cX11_go 93 = .ok (.iconst 1, 1) := by decide +kernel
theorem dX11_go_94 : decode cX11_go 94 = .ok (.iadd, 1) := by decide +kernel
theorem dX11_go_95 : decode cX11_go 95 = .ok (.putfield 184, 3) := by decide +kernel
theorem dX11_go_98 : decode cX11_go 98 = .ok (.iinc 5 1, 3) := by decide +kernel
theorem dX11_go_101 : decode cX11_go 101 = .ok (.goto (-38), 3) := by decide +kernel
theorem dX11_go_104 : decode cX11_go 104 = .ok (.aload_n 0, 1) := by decide +kernel
theorem dX11_go_105 : decode cX11_go 105 = .ok (.getfield 34, 3) := by decide +kernel
theorem dX11_go_108 : decode cX11_go 108 = .ok (.getfield 184, 3) := by decide +kernel
theorem dX11_go_111 : decode cX11_go 111 = .ok (.ireturn, 1) := by decide +kernel
theorem dX11_where_0 : decode cX11_where 0 = .ok (.aload_n 0, 1) := by decide +kernel
theorem dX11_where_1 : decode cX11_where 1 = .ok (.getfield 24, 3) := by decide +kernel
theorem dX11_where_4 : decode cX11_where 4 = .ok (.getfield 172, 3) := by decide +kernel
theorem dX11_where_7 : decode cX11_where 7 = .ok (.ifCond .ne 6, 3) := by decide +kernel
theorem dX11_where_10 : decode cX11_where 10 = .ok (.bipush (-4), 2) := by decide +kernel
theorem dX11_where_12 : decode cX11_where 12 = .ok (.ireturn, 1) := by decide +kernel
theorem dX11_where_13 : decode cX11_where 13 = .ok (.aload_n 0, 1) := by decide +kernel
theorem dX11_where_14 : decode cX11_where 14 = .ok (.aload_n 0, 1) := by decide +kernel
theorem dX11_where_15 : decode cX11_where 15 = .ok (.getfield 34, 3) := by decide +kernel
theorem dX11_where_18 : decode cX11_where 18 = .ok (.getfield 216, 3) := by decide +kernel
theorem dX11_where_21 : decode cX11_where 21 = .ok (.ifCond .eq 7, 3) := by decide +kernel
theorem dX11_where_24 : decode cX11_where 24 = .ok (.iconst 1, 1) := by decide +kernel
theorem dX11_where_25 : decode cX11_where 25 = .ok (.goto 4, 3) := by decide +kernel
theorem dX11_where_28 : decode cX11_where 28 = .ok (.iconst 0, 1) := by decide +kernel
theorem dX11_where_29 : decode cX11_where 29 = .ok (.aload_n 0, 1) := by decide +kernel
theorem dX11_where_30 : decode cX11_where 30 = .ok (.getfield 34, 3) := by decide +kernel
theorem dX11_where_33 : decode cX11_where 33 = .ok (.getfield 224, 3) := by decide +kernel
theorem dX11_where_36 : decode cX11_where 36 = .ok (.invokevirtual 135, 3) := by decide +kernel
theorem dX11_where_39 : decode cX11_where 39 = .ok (.ireturn, 1) := by decide +kernel
theorem dX11_told_0 : decode cX11_told 0 = .ok (.aload_n 0, 1) := by decide +kernel
theorem dX11_told_1 : decode cX11_told 1 = .ok (.getfield 24, 3) := by decide +kernel
theorem dX11_told_4 : decode cX11_told 4 = .ok (.iload_n 1, 1) := by decide +kernel
theorem dX11_told_5 : decode cX11_told 5 = .ok (.invokevirtual 173, 3) := by decide +kernel
theorem dX11_told_8 : decode cX11_told 8 = .ok (.ifCond .eq 12, 3) := by decide +kernel
theorem dX11_told_11 : decode cX11_told 11 = .ok (.iload_n 2, 1) := by decide +kernel
theorem dX11_told_12 : decode cX11_told 12 = .ok (.ifCond .lt 8, 3) := by decide +kernel
theorem dX11_told_15 : decode cX11_told 15 = .ok (.iload_n 2, 1) := by decide +kernel
theorem dX11_told_16 : decode cX11_told 16 = .ok (.iconst 4, 1) := by decide +kernel
theorem dX11_told_17 : decode cX11_told 17 = .ok (.if_icmp .lt 5, 3) := by decide +kernel
theorem dX11_told_20 : decode cX11_told 20 = .ok (.iconst (-1), 1) := by decide +kernel
theorem dX11_told_21 : decode cX11_told 21 = .ok (.ireturn, 1) := by decide +kernel
theorem dX11_told_22 : decode cX11_told 22 = .ok (.aload_n 0, 1) := by decide +kernel
theorem dX11_told_23 : decode cX11_told 23 = .ok (.aload_n 0, 1) := by decide +kernel
theorem dX11_told_24 : decode cX11_told 24 = .ok (.getfield 34, 3) := by decide +kernel
theorem dX11_told_27 : decode cX11_told 27 = .ok (.iload_n 1, 1) := by decide +kernel
theorem dX11_told_28 : decode cX11_told 28 = .ok (.iload_n 2, 1) := by decide +kernel
theorem dX11_told_29 : decode cX11_told 29 = .ok (.invokevirtual 227, 3) := by decide +kernel
theorem dX11_told_32 : decode cX11_told 32 = .ok (.iconst 1, 1) := by decide +kernel
theorem dX11_told_33 : decode cX11_told 33 = .ok (.invokevirtual 135, 3) := by decide +kernel
theorem dX11_told_36 : decode cX11_told 36 = .ok (.ireturn, 1) := by decide +kernel
theorem dX11_coins_0 : decode cX11_coins 0 = .ok (.aload_n 0, 1) := by decide +kernel
theorem dX11_coins_1 : decode cX11_coins 1 = .ok (.getfield 59, 3) := by decide +kernel
theorem dX11_coins_4 : decode cX11_coins 4 = .ok (.aload_n 0, 1) := by decide +kernel
theorem dX11_coins_5 : decode cX11_coins 5 = .ok (.getfield 34, 3) := by decide +kernel
theorem dX11_coins_8 : decode cX11_coins 8 = .ok (.invokevirtual 198, 3) := by decide +kernel
theorem dX11_coins_11 : decode cX11_coins 11 = .ok (.aload_n 0, 1) := by decide +kernel
theorem dX11_coins_12 : decode cX11_coins 12 = .ok (.aload_n 0, 1) := by decide +kernel
theorem dX11_coins_13 : decode cX11_coins 13 = .ok (.getfield 34, 3) := by decide +kernel
theorem dX11_coins_16 : decode cX11_coins 16 = .ok (.invokevirtual 230, 3) := by decide +kernel
theorem dX11_coins_19 : decode cX11_coins 19 = .ok (.aload_n 0, 1) := by decide +kernel
theorem dX11_coins_20 : decode cX11_coins 20 = .ok (.getfield 59, 3) := by decide +kernel
theorem dX11_coins_23 : decode cX11_coins 23 = .ok (.getfield 234, 3) := by decide +kernel
theorem dX11_coins_26 : decode cX11_coins 26 = .ok (.invokevirtual 135, 3) := by decide +kernel
theorem dX11_coins_29 : decode cX11_coins 29 = .ok (.ireturn, 1) := by decide +kernel
theorem dX11_words_0 : decode cX11_words 0 = .ok (.aload_n 0, 1) := by decide +kernel
theorem dX11_words_1 : decode cX11_words 1 = .ok (.getfield 69, 3) := by decide +kernel
theorem dX11_words_4 : decode cX11_words 4 = .ok (.aload_n 0, 1) := by decide +kernel
theorem dX11_words_5 : decode cX11_words 5 = .ok (.getfield 34, 3) := by decide +kernel
theorem dX11_words_8 : decode cX11_words 8 = .ok (.invokevirtual 190, 3) := by decide +kernel
theorem dX11_words_11 : decode cX11_words 11 = .ok (.aload_n 0, 1) := by decide +kernel
theorem dX11_words_12 : decode cX11_words 12 = .ok (.getfield 69, 3) := by decide +kernel
theorem dX11_words_15 : decode cX11_words 15 = .ok (.invokevirtual 237, 3) := by decide +kernel
theorem dX11_words_18 : decode cX11_words 18 = .ok (.istore_n 1, 1) := by decide +kernel
theorem dX11_words_19 : decode cX11_words 19 = .ok (.aload_n 0, 1) := by decide +kernel
theorem dX11_words_20 : decode cX11_words 20 = .ok (.aload_n 0, 1) := by decide +kernel
theorem dX11_words_21 : decode cX11_words 21 = .ok (.getfield 69, 3) := by decide +kernel
theorem dX11_words_24 : decode cX11_words 24 = .ok (.iload_n 1, 1) := by decide +kernel
theorem dX11_words_25 : decode cX11_words 25 = .ok (.invokevirtual 240, 3) := by decide +kernel
theorem dX11_words_28 : decode cX11_words 28 = .ok (.iload_n 1, 1) := by decide +kernel
theorem dX11_words_29 : decode cX11_words 29 = .ok (.invokevirtual 135, 3) := by decide +kernel
theorem dX11_words_32 : decode cX11_words 32 = .ok (.ireturn, 1) := by decide +kernel
theorem dX11_next_0 : decode cX11_next 0 = .ok (.aload_n 0, 1) := by decide +kernel
theorem dX11_next_1 : decode cX11_next 1 = .ok (.getfield 24, 3) := by decide +kernel
theorem dX11_next_4 : decode cX11_next 4 = .ok (.iload_n 1, 1) := by decide +kernel
theorem dX11_next_5 : decode cX11_next 5 = .ok (.invokevirtual 173, 3) := by decide +kernel
theorem dX11_next_8 : decode cX11_next 8 = .ok (.ifCond .ne 5, 3) := by decide +kernel
theorem dX11_next_11 : decode cX11_next 11 = .ok (.iconst (-1), 1) := by decide +kernel
theorem dX11_next_12 : decode cX11_next 12 = .ok (.ireturn, 1) := by decide +kernel
theorem dX11_next_13 : decode cX11_next 13 = .ok (.aload_n 0, 1) := by decide +kernel
theorem dX11_next_14 : decode cX11_next 14 = .ok (.getfield 34, 3) := by decide +kernel
theorem dX11_next_17 : decode cX11_next 17 = .ok (.getfield 216, 3) := by decide +kernel
theorem dX11_next_20 : decode cX11_next 20 = .ok (.ifCond .eq 6, 3) := by decide +kernel
theorem dX11_next_23 : decode cX11_next 23 = .ok (.bipush (-4), 2) := by decide +kernel
theorem dX11_next_25 : decode cX11_next 25 = .ok (.ireturn, 1) := by decide +kernel
theorem dX11_next_26 : decode cX11_next 26 = .ok (.aload_n 0, 1) := by decide +kernel
theorem dX11_next_27 : decode cX11_next 27 = .ok (.getfield 24, 3) := by decide +kernel
theorem dX11_next_30 : decode cX11_next 30 = .ok (.iload_n 1, 1) := by decide +kernel
theorem dX11_next_31 : decode cX11_next 31 = .ok (.aload_n 0, 1) := by decide +kernel
theorem dX11_next_32 : decode cX11_next 32 = .ok (.getfield 34, 3) := by decide +kernel
theorem dX11_next_35 : decode cX11_next 35 = .ok (.getfield 243, 3) := by decide +kernel
theorem dX11_next_38 : decode cX11_next 38 = .ok (.iconst 1, 1) := by decide +kernel
theorem dX11_next_39 : decode cX11_next 39 = .ok (.iload_n 1, 1) := by decide +kernel
theorem dX11_next_40 : decode cX11_next 40 = .ok (.ishl, 1) := by decide +kernel
theorem dX11_next_41 : decode cX11_next 41 = .ok (.ior, 1) := by decide +kernel
theorem dX11_next_42 : decode cX11_next 42 = .ok (.aload_n 0, 1) := by decide +kernel
theorem dX11_next_43 : decode cX11_next 43 = .ok (.getfield 34, 3) := by decide +kernel
theorem dX11_next_46 : decode cX11_next 46 = .ok (.getfield 184, 3) := by decide +kernel
theorem dX11_next_49 : decode cX11_next 49 = .ok (.aload_n 0, 1) := by decide +kernel
theorem dX11_next_50 : decode cX11_next 50 = .ok (.getfield 34, 3) := by decide +kernel
theorem dX11_next_53 : decode cX11_next 53 = .ok (.getfield 246, 3) := by decide +kernel
theorem dX11_next_56 : decode cX11_next 56 = .ok (.invokevirtual 249, 3) := by decide +kernel
theorem dX11_next_59 : decode cX11_next 59 = .ok (.istore_n 2, 1) := by decide +kernel
theorem dX11_next_60 : decode cX11_next 60 = .ok (.aload_n 0, 1) := by decide +kernel
theorem dX11_next_61 : decode cX11_next 61 = .ok (.iload_n 2, 1) := by decide +kernel
theorem dX11_next_62 : decode cX11_next 62 = .ok (.bipush (-2), 2) := by decide +kernel
theorem dX11_next_64 : decode cX11_next 64 = .ok (.if_icmp .ne 7, 3) := by decide +kernel
theorem dX11_next_67 : decode cX11_next 67 = .ok (.iconst 1, 1) := by decide +kernel
theorem dX11_next_68 : decode cX11_next 68 = .ok (.goto 4, 3) := by decide +kernel
theorem dX11_next_71 : decode cX11_next 71 = .ok (.iconst 0, 1) := by decide +kernel
theorem dX11_next_72 : decode cX11_next 72 = .ok (.iload_n 2, 1) := by decide +kernel
theorem dX11_next_73 : decode cX11_next 73 = .ok (.ifCond .lt 7, 3) := by decide +kernel
theorem dX11_next_76 : decode cX11_next 76 = .ok (.iload_n 2, 1) := by decide +kernel
theorem dX11_next_77 : decode cX11_next 77 = .ok (.goto 5, 3) := by decide +kernel
theorem dX11_next_80 : decode cX11_next 80 = .ok (.bipush (-9), 2) := by decide +kernel
theorem dX11_next_82 : decode cX11_next 82 = .ok (.invokevirtual 135, 3) := by decide +kernel
theorem dX11_next_85 : decode cX11_next 85 = .ok (.ireturn, 1) := by decide +kernel
theorem dX11_keep_0 : decode cX11_keep 0 = .ok (.aload_n 0, 1) := by decide +kernel
theorem dX11_keep_1 : decode cX11_keep 1 = .ok (.iload_n 1, 1) := by decide +kernel
theorem dX11_keep_2 : decode cX11_keep 2 = .ok (.invokevirtual 253, 3) := by decide +kernel
theorem dX11_keep_5 : decode cX11_keep 5 = .ok (.astore_n 2, 1) := by decide +kernel
theorem dX11_keep_6 : decode cX11_keep 6 = .ok (.aload_n 2, 1) := by decide +kernel
theorem dX11_keep_7 : decode cX11_keep 7 = .ok (.ifnonnull 5, 3) := by decide +kernel
theorem dX11_keep_10 : decode cX11_keep 10 = .ok (.iconst (-1), 1) := by decide +kernel
theorem dX11_keep_11 : decode cX11_keep 11 = .ok (.ireturn, 1) := by decide +kernel
theorem dX11_keep_12 : decode cX11_keep 12 = .ok (.aload_n 0, 1) := by decide +kernel
theorem dX11_keep_13 : decode cX11_keep 13 = .ok (.getfield 24, 3) := by decide +kernel
theorem dX11_keep_16 : decode cX11_keep 16 = .ok (.getfield 172, 3) := by decide +kernel
theorem dX11_keep_19 : decode cX11_keep 19 = .ok (.ifCond .ne 6, 3) := by decide +kernel
theorem dX11_keep_22 : decode cX11_keep 22 = .ok (.bipush (-4), 2) := by decide +kernel
theorem dX11_keep_24 : decode cX11_keep 24 = .ok (.ireturn, 1) := by decide +kernel
theorem dX11_keep_25 : decode cX11_keep 25 = .ok (.aload_n 2, 1) := by decide +kernel
theorem dX11_keep_26 : decode cX11_keep 26 = .ok (.aload_n 0, 1) := by decide +kernel
theorem dX11_keep_27 : decode cX11_keep 27 = .ok (.getfield 34, 3) := by decide +kernel
theorem dX11_keep_30 : decode cX11_keep 30 = .ok (.invokevirtual 257, 3) := by decide +kernel
theorem dX11_keep_33 : decode cX11_keep 33 = .ok (.aload_n 2, 1) := by decide +kernel
theorem dX11_keep_34 : decode cX11_keep 34 = .ok (.iconst 1, 1) := by decide +kernel
theorem dX11_keep_35 : decode cX11_keep 35 = .ok (.putfield 260, 3) := by decide +kernel
theorem dX11_keep_38 : decode cX11_keep 38 = .ok (.aload_n 0, 1) := by decide +kernel
theorem dX11_keep_39 : decode cX11_keep 39 = .ok (.getfield 34, 3) := by decide +kernel
theorem dX11_keep_42 : decode cX11_keep 42 = .ok (.getfield 184, 3) := by decide +kernel
theorem dX11_keep_45 : decode cX11_keep 45 = .ok (.ireturn, 1) := by decide +kernel
theorem dX11_on_0 : decode cX11_on 0 = .ok (.aload_n 0, 1) := by decide +kernel
theorem dX11_on_1 : decode cX11_on 1 = .ok (.iload_n 1, 1) := by decide +kernel
theorem dX11_on_2 : decode cX11_on 2 = .ok (.invokevirtual 253, 3) := by decide +kernel
theorem dX11_on_5 : decode cX11_on 5 = .ok (.astore_n 2, 1) := by decide +kernel
theorem dX11_on_6 : decode cX11_on 6 = .ok (.aload_n 2, 1) := by decide +kernel
theorem dX11_on_7 : decode cX11_on 7 = .ok (.ifnonnull 5, 3) := by decide +kernel
theorem dX11_on_10 : decode cX11_on 10 = .ok (.iconst (-1), 1) := by decide +kernel
theorem dX11_on_11 : decode cX11_on 11 = .ok (.ireturn, 1) := by decide +kernel
theorem dX11_on_12 : decode cX11_on 12 = .ok (.aload_n 2, 1) := by decide +kernel
theorem dX11_on_13 : decode cX11_on 13 = .ok (.getfield 260, 3) := by decide +kernel
theorem dX11_on_16 : decode cX11_on 16 = .ok (.ifCond .ne 9, 3) := by decide +kernel
theorem dX11_on_19 : decode cX11_on 19 = .ok (.aload_n 0, 1) := by decide +kernel
theorem dX11_on_20 : decode cX11_on 20 = .ok (.iconst 1, 1) := by decide +kernel
theorem dX11_on_21 : decode cX11_on 21 = .ok (.invokevirtual 116, 3) := by decide +kernel
theorem dX11_on_24 : decode cX11_on 24 = .ok (.ireturn, 1) := by decide +kernel
theorem dX11_on_25 : decode cX11_on 25 = .ok (.aload_n 0, 1) := by decide +kernel
theorem dX11_on_26 : decode cX11_on 26 = .ok (.getfield 34, 3) := by decide +kernel
theorem dX11_on_29 : decode cX11_on 29 = .ok (.aload_n 2, 1) := by decide +kernel
theorem dX11_on_30 : decode cX11_on 30 = .ok (.invokevirtual 257, 3) := by decide +kernel
theorem dX11_on_33 : decode cX11_on 33 = .ok (.aload_n 0, 1) := by decide +kernel
theorem dX11_on_34 : decode cX11_on 34 = .ok (.getfield 34, 3) := by decide +kernel
theorem dX11_on_37 : decode cX11_on 37 = .ok (.getfield 184, 3) := by decide +kernel
theorem dX11_on_40 : decode cX11_on 40 = .ok (.ireturn, 1) := by decide +kernel
theorem dX11_friday_0 : decode cX11_friday 0 = .ok (.iload_n 1, 1) := by decide +kernel
theorem dX11_friday_1 : decode cX11_friday 1 = .ok (.invokestatic 262, 3) := by decide +kernel
theorem dX11_friday_4 : decode cX11_friday 4 = .ok (.ifCond .ne 5, 3) := by decide +kernel
theorem dX11_friday_7 : decode cX11_friday 7 = .ok (.iconst (-1), 1) := by decide +kernel
theorem dX11_friday_8 : decode cX11_friday 8 = .ok (.ireturn, 1) := by decide +kernel
theorem dX11_friday_9 : decode cX11_friday 9 = .ok (.aload_n 0, 1) := by decide +kernel
theorem dX11_friday_10 : decode cX11_friday 10 = .ok (.getfield 24, 3) := by decide +kernel
theorem dX11_friday_13 : decode cX11_friday 13 = .ok (.getfield 172, 3) := by decide +kernel
theorem dX11_friday_16 : decode cX11_friday 16 = .ok (.ifCond .ne 6, 3) := by decide +kernel
theorem dX11_friday_19 : decode cX11_friday 19 = .ok (.bipush (-4), 2) := by decide +kernel
theorem dX11_friday_21 : decode cX11_friday 21 = .ok (.ireturn, 1) := by decide +kernel
theorem dX11_friday_22 : decode cX11_friday 22 = .ok (.aload_n 0, 1) := by decide +kernel
theorem dX11_friday_23 : decode cX11_friday 23 = .ok (.getfield 76, 3) := by decide +kernel
theorem dX11_friday_26 : decode cX11_friday 26 = .ok (.aload_n 0, 1) := by decide +kernel
theorem dX11_friday_27 : decode cX11_friday 27 = .ok (.getfield 24, 3) := by decide +kernel
theorem dX11_friday_30 : decode cX11_friday 30 = .ok (.aload_n 0, 1) := by decide +kernel
theorem dX11_friday_31 : decode cX11_friday 31 = .ok (.getfield 34, 3) := by decide +kernel
theorem dX11_friday_34 : decode cX11_friday 34 = .ok (.iload_n 1, 1) := by decide +kernel
theorem dX11_friday_35 : decode cX11_friday 35 = .ok (.invokevirtual 265, 3) := by decide +kernel
theorem dX11_friday_38 : decode cX11_friday 38 = .ok (.aload_n 0, 1) := by decide +kernel
theorem dX11_friday_39 : decode cX11_friday 39 = .ok (.aload_n 0, 1) := by decide +kernel
theorem dX11_friday_40 : decode cX11_friday 40 = .ok (.getfield 76, 3) := by decide +kernel
theorem dX11_friday_43 : decode cX11_friday 43 = .ok (.invokevirtual 269, 3) := by decide +kernel
theorem dX11_friday_46 : decode cX11_friday 46 = .ok (.aload_n 0, 1) := by decide +kernel
theorem dX11_friday_47 : decode cX11_friday 47 = .ok (.getfield 76, 3) := by decide +kernel
theorem dX11_friday_50 : decode cX11_friday 50 = .ok (.getfield 273, 3) := by decide +kernel
theorem dX11_friday_53 : decode cX11_friday 53 = .ok (.iconst 1, 1) := by decide +kernel
theorem dX11_friday_54 : decode cX11_friday 54 = .ok (.invokevirtual 276, 3) := by decide +kernel
theorem dX11_friday_57 : decode cX11_friday 57 = .ok (.ireturn, 1) := by decide +kernel
theorem dX11_odds_0 : decode cX11_odds 0 = .ok (.iload_n 1, 1) := by decide +kernel
theorem dX11_odds_1 : decode cX11_odds 1 = .ok (.invokestatic 262, 3) := by decide +kernel
theorem dX11_odds_4 : decode cX11_odds 4 = .ok (.ifCond .eq 14, 3) := by decide +kernel
theorem dX11_odds_7 : decode cX11_odds 7 = .ok (.aload_n 0, 1) := by decide +kernel
theorem dX11_odds_8 : decode cX11_odds 8 = .ok (.getfield 24, 3) := by decide +kernel
theorem dX11_odds_11 : decode cX11_odds 11 = .ok (.iload_n 2, 1) := by decide +kernel
theorem dX11_odds_12 : decode cX11_odds 12 = .ok (.invokevirtual 173, 3) := by decide +kernel
theorem dX11_odds_15 : decode cX11_odds 15 = .ok (.ifCond .ne 5, 3) := by decide +kernel
theorem dX11_odds_18 : decode cX11_odds 18 = .ok (.iconst (-1), 1) := by decide +kernel
theorem dX11_odds_19 : decode cX11_odds 19 = .ok (.ireturn, 1) := by decide +kernel
theorem dX11_odds_20 : decode cX11_odds 20 = .ok (.aload_n 0, 1) := by decide +kernel
theorem dX11_odds_21 : decode cX11_odds 21 = .ok (.getfield 76, 3) := by decide +kernel
theorem dX11_odds_24 : decode cX11_odds 24 = .ok (.aload_n 0, 1) := by decide +kernel
theorem dX11_odds_25 : decode cX11_odds 25 = .ok (.getfield 24, 3) := by decide +kernel
theorem dX11_odds_28 : decode cX11_odds 28 = .ok (.aload_n 0, 1) := by decide +kernel
theorem dX11_odds_29 : decode cX11_odds 29 = .ok (.getfield 34, 3) := by decide +kernel
theorem dX11_odds_32 : decode cX11_odds 32 = .ok (.iload_n 1, 1) := by decide +kernel
theorem dX11_odds_33 : decode cX11_odds 33 = .ok (.invokevirtual 265, 3) := by decide +kernel
theorem dX11_odds_36 : decode cX11_odds 36 = .ok (.aload_n 0, 1) := by decide +kernel
theorem dX11_odds_37 : decode cX11_odds 37 = .ok (.aload_n 0, 1) := by decide +kernel
theorem dX11_odds_38 : decode cX11_odds 38 = .ok (.getfield 76, 3) := by decide +kernel
theorem dX11_odds_41 : decode cX11_odds 41 = .ok (.iload_n 2, 1) := by decide +kernel
theorem dX11_odds_42 : decode cX11_odds 42 = .ok (.aload_n 0, 1) := by decide +kernel
theorem dX11_odds_43 : decode cX11_odds 43 = .ok (.getfield 34, 3) := by decide +kernel
theorem dX11_odds_46 : decode cX11_odds 46 = .ok (.getfield 280, 3) := by decide +kernel
theorem dX11_odds_49 : decode cX11_odds 49 = .ok (.invokevirtual 283, 3) := by decide +kernel
theorem dX11_odds_52 : decode cX11_odds 52 = .ok (.aload_n 0, 1) := by decide +kernel
theorem dX11_odds_53 : decode cX11_odds 53 = .ok (.getfield 76, 3) := by decide +kernel
theorem dX11_odds_56 : decode cX11_odds 56 = .ok (.getfield 273, 3) := by decide +kernel
theorem dX11_odds_59 : decode cX11_odds 59 = .ok (.iconst 1, 1) := by decide +kernel
theorem dX11_odds_60 : decode cX11_odds 60 = .ok (.invokevirtual 276, 3) := by decide +kernel
theorem dX11_odds_63 : decode cX11_odds 63 = .ok (.ireturn, 1) := by decide +kernel
theorem dX11_ask_0 : decode cX11_ask 0 = .ok (.iload_n 1, 1) := by decide +kernel
theorem dX11_ask_1 : decode cX11_ask 1 = .ok (.invokestatic 262, 3) := by decide +kernel
theorem dX11_ask_4 : decode cX11_ask 4 = .ok (.ifCond .eq 23, 3) := by decide +kernel
theorem dX11_ask_7 : decode cX11_ask 7 = .ok (.iload_n 3, 1) := by decide +kernel
theorem dX11_ask_8 : decode cX11_ask 8 = .ok (.iconst 1, 1) := by decide +kernel
theorem dX11_ask_9 : decode cX11_ask 9 = .ok (.if_icmp .lt 18, 3) := by decide +kernel
theorem dX11_ask_12 : decode cX11_ask 12 = .ok (.iload_n 3, 1) := by decide +kernel
theorem dX11_ask_13 : decode cX11_ask 13 = .ok (.bipush 99, 2) := by decide +kernel
theorem dX11_ask_15 : decode cX11_ask 15 = .ok (.if_icmp .gt 12, 3) := by decide +kernel
theorem dX11_ask_18 : decode cX11_ask 18 = .ok (.iload_n 2, 1) := by decide +kernel
theorem dX11_ask_19 : decode cX11_ask 19 = .ok (.ifCond .lt 8, 3) := by decide +kernel
theorem dX11_ask_22 : decode cX11_ask 22 = .ok (.iload_n 2, 1) := by decide +kernel
theorem dX11_ask_23 : decode cX11_ask 23 = .ok (.iload_n 3, 1) := by decide +kernel
theorem dX11_ask_24 : decode cX11_ask 24 = .ok (.if_icmp .le 5, 3) := by decide +kernel
theorem dX11_ask_27 : decode cX11_ask 27 = .ok (.iconst (-1), 1) := by decide +kernel
theorem dX11_ask_28 : decode cX11_ask 28 = .ok (.ireturn, 1) := by decide +kernel
theorem dX11_ask_29 : decode cX11_ask 29 = .ok (.aload_n 0, 1) := by decide +kernel
theorem dX11_ask_30 : decode cX11_ask 30 = .ok (.getfield 24, 3) := by decide +kernel
theorem dX11_ask_33 : decode cX11_ask 33 = .ok (.getfield 172, 3) := by decide +kernel
theorem dX11_ask_36 : decode cX11_ask 36 = .ok (.ifCond .ne 6, 3) := by decide +kernel
theorem dX11_ask_39 : decode cX11_ask 39 = .ok (.bipush (-4), 2) := by decide +kernel
theorem dX11_ask_41 : decode cX11_ask 41 = .ok (.ireturn, 1) := by decide +kernel
theorem dX11_ask_42 : decode cX11_ask 42 = .ok (.aload_n 0, 1) := by decide +kernel
theorem dX11_ask_43 : decode cX11_ask 43 = .ok (.getfield 76, 3) := by decide +kernel
theorem dX11_ask_46 : decode cX11_ask 46 = .ok (.aload_n 0, 1) := by decide +kernel
theorem dX11_ask_47 : decode cX11_ask 47 = .ok (.getfield 24, 3) := by decide +kernel
theorem dX11_ask_50 : decode cX11_ask 50 = .ok (.aload_n 0, 1) := by decide +kernel
theorem dX11_ask_51 : decode cX11_ask 51 = .ok (.getfield 34, 3) := by decide +kernel
theorem dX11_ask_54 : decode cX11_ask 54 = .ok (.iload_n 1, 1) := by decide +kernel
theorem dX11_ask_55 : decode cX11_ask 55 = .ok (.invokevirtual 265, 3) := by decide +kernel
theorem dX11_ask_58 : decode cX11_ask 58 = .ok (.iconst 0, 1) := by decide +kernel
theorem dX11_ask_59 : decode cX11_ask 59 = .ok (.istore 4, 2) := by decide +kernel
theorem dX11_ask_61 : decode cX11_ask 61 = .ok (.lconst 0, 1) := by decide +kernel
theorem dX11_ask_62 : decode cX11_ask 62 = .ok (.lstore 5, 2) := by decide +kernel
theorem dX11_ask_64 : decode cX11_ask 64 = .ok (.iconst 0, 1) := by decide +kernel
theorem dX11_ask_65 : decode cX11_ask 65 = .ok (.istore 7, 2) := by decide +kernel
theorem dX11_ask_67 : decode cX11_ask 67 = .ok (.iload 7, 2) := by decide +kernel
theorem dX11_ask_69 : decode cX11_ask 69 = .ok (.aload_n 0, 1) := by decide +kernel
theorem dX11_ask_70 : decode cX11_ask 70 = .ok (.getfield 24, 3) := by decide +kernel
theorem dX11_ask_73 : decode cX11_ask 73 = .ok (.getfield 172, 3) := by decide +kernel
theorem dX11_ask_76 : decode cX11_ask 76 = .ok (.if_icmp .ge 66, 3) := by decide +kernel
theorem dX11_ask_79 : decode cX11_ask 79 = .ok (.lload 5, 2) := by decide +kernel
theorem dX11_ask_81 : decode cX11_ask 81 = .ok (.iload_n 3, 1) := by decide +kernel
theorem dX11_ask_82 : decode cX11_ask 82 = .ok (.i2l, 1) := by decide +kernel
theorem dX11_ask_83 : decode cX11_ask 83 = .ok (.lmul, 1) := by decide +kernel
theorem dX11_ask_84 : decode cX11_ask 84 = .ok (.aload_n 0, 1) := by decide +kernel
theorem dX11_ask_85 : decode cX11_ask 85 = .ok (.getfield 76, 3) := by decide +kernel
theorem dX11_ask_88 : decode cX11_ask 88 = .ok (.getfield 273, 3) := by decide +kernel
theorem dX11_ask_91 : decode cX11_ask 91 = .ok (.iload_n 2, 1) := by decide +kernel
theorem dX11_ask_92 : decode cX11_ask 92 = .ok (.i2l, 1) := by decide +kernel
theorem dX11_ask_93 : decode cX11_ask 93 = .ok (.lmul, 1) := by decide +kernel
theorem dX11_ask_94 : decode cX11_ask 94 = .ok (.lcmp, 1) := by decide +kernel
theorem dX11_ask_95 : decode cX11_ask 95 = .ok (.ifCond .ge 47, 3) := by decide +kernel
theorem dX11_ask_98 : decode cX11_ask 98 = .ok (.aload_n 0, 1) := by decide +kernel
theorem dX11_ask_99 : decode cX11_ask 99 = .ok (.iload 4, 2) := by decide +kernel
theorem dX11_ask_101 : decode cX11_ask 101 = .ok (.invokevirtual 287, 3) := by decide +kernel
theorem dX11_ask_104 : decode cX11_ask 104 = .ok (.istore 8, 2) := by decide +kernel
theorem dX11_ask_106 : decode cX11_ask 106 = .ok (.lload 5, 2) := by decide +kernel
theorem dX11_ask_108 : decode cX11_ask 108 = .ok (.aload_n 0, 1) := by decide +kernel
theorem dX11_ask_109 : decode cX11_ask 109 = .ok (.getfield 76, 3) := by decide +kernel
theorem dX11_ask_112 : decode cX11_ask 112 = .ok (.iload 8, 2) := by decide +kernel
theorem dX11_ask_114 : decode cX11_ask 114 = .ok (.aload_n 0, 1) := by decide +kernel
theorem dX11_ask_115 : decode cX11_ask 115 = .ok (.getfield 34, 3) := by decide +kernel
theorem dX11_ask_118 : decode cX11_ask 118 = .ok (.getfield 280, 3) := by decide +kernel
theorem dX11_ask_121 : decode cX11_ask 121 = .ok (.invokevirtual 283, 3) := by decide +kernel
theorem dX11_ask_124 : decode cX11_ask 124 = .ok (.ladd, 1) := by decide +kernel
theorem dX11_ask_125 : decode cX11_ask 125 = .ok (.lstore 5, 2) := by decide +kernel
theorem dX11_ask_127 : decode cX11_ask 127 = .ok (.iload 4, 2) := by decide +kernel
theorem dX11_ask_129 : decode cX11_ask 129 = .ok (.iconst 1, 1) := by decide +kernel
theorem dX11_ask_130 : decode cX11_ask 130 = .ok (.iload 8, 2) := by decide +kernel
theorem dX11_ask_132 : decode cX11_ask 132 = .ok (.ishl, 1) := by decide +kernel
theorem dX11_ask_133 : decode cX11_ask 133 = .ok (.ior, 1) := by decide +kernel
theorem dX11_ask_134 : decode cX11_ask 134 = .ok (.istore 4, 2) := by decide +kernel
theorem dX11_ask_136 : decode cX11_ask 136 = .ok (.iinc 7 1, 3) := by decide +kernel
theorem dX11_ask_139 : decode cX11_ask 139 = .ok (.goto (-72), 3) := by decide +kernel
theorem dX11_ask_142 : decode cX11_ask 142 = .ok (.aload_n 0, 1) := by decide +kernel
theorem dX11_ask_143 : decode cX11_ask 143 = .ok (.iload 4, 2) := by decide +kernel
theorem dX11_ask_145 : decode cX11_ask 145 = .ok (.iload 4, 2) := by decide +kernel
theorem dX11_ask_147 : decode cX11_ask 147 = .ok (.invokestatic 290, 3) := by decide +kernel
theorem dX11_ask_150 : decode cX11_ask 150 = .ok (.invokevirtual 135, 3) := by decide +kernel
theorem dX11_ask_153 : decode cX11_ask 153 = .ok (.ireturn, 1) := by decide +kernel
theorem dX11_rule_0 : decode cX11_rule 0 = .ok (.aload_n 0, 1) := by decide +kernel
theorem dX11_rule_1 : decode cX11_rule 1 = .ok (.getfield 24, 3) := by decide +kernel
theorem dX11_rule_4 : decode cX11_rule 4 = .ok (.iload_n 1, 1) := by decide +kernel
theorem dX11_rule_5 : decode cX11_rule 5 = .ok (.invokevirtual 173, 3) := by decide +kernel
theorem dX11_rule_8 : decode cX11_rule 8 = .ok (.ifCond .eq 10, 3) := by decide +kernel
theorem dX11_rule_11 : decode cX11_rule 11 = .ok (.iload_n 2, 1) := by decide +kernel
theorem dX11_rule_12 : decode cX11_rule 12 = .ok (.invokestatic 262, 3) := by decide +kernel
theorem dX11_rule_15 : decode cX11_rule 15 = .ok (.ifCond .ne 5, 3) := by decide +kernel
theorem dX11_rule_18 : decode cX11_rule 18 = .ok (.iconst (-1), 1) := by decide +kernel
theorem dX11_rule_19 : decode cX11_rule 19 = .ok (.ireturn, 1) := by decide +kernel
theorem dX11_rule_20 : decode cX11_rule 20 = .ok (.iconst 0, 1) := by decide +kernel
theorem dX11_rule_21 : decode cX11_rule 21 = .ok (.istore_n 3, 1) := by decide +kernel
theorem dX11_rule_22 : decode cX11_rule 22 = .ok (.ldc2_w 295, 3) := by decide +kernel
theorem dX11_rule_25 : decode cX11_rule 25 = .ok (.lstore 4, 2) := by decide +kernel
theorem dX11_rule_27 : decode cX11_rule 27 = .ok (.iconst 0, 1) := by decide +kernel
theorem dX11_rule_28 : decode cX11_rule 28 = .ok (.istore 6, 2) := by decide +kernel
theorem dX11_rule_30 : decode cX11_rule 30 = .ok (.iload 6, 2) := by decide +kernel
theorem dX11_rule_32 : decode cX11_rule 32 = .ok (.iconst 3, 1) := by decide +kernel
theorem dX11_rule_33 : decode cX11_rule 33 = .ok (.if_icmp .ge 49, 3) := by decide +kernel
theorem dX11_rule_36 : decode cX11_rule 36 = .ok (.aload_n 0, 1) := by decide +kernel
theorem dX11_rule_37 : decode cX11_rule 37 = .ok (.getfield 76, 3) := by decide +kernel
theorem dX11_rule_40 : decode cX11_rule 40 = .ok (.aload_n 0, 1) := by decide +kernel
theorem dX11_rule_41 : decode cX11_rule 41 = .ok (.getfield 24, 3) := by decide +kernel
theorem dX11_rule_44 : decode cX11_rule 44 = .ok (.iload_n 1, 1) := by decide +kernel
theorem dX11_rule_45 : decode cX11_rule 45 = .ok (.iload 6, 2) := by decide +kernel
theorem dX11_rule_47 : decode cX11_rule 47 = .ok (.iload_n 2, 1) := by decide +kernel
theorem dX11_rule_48 : decode cX11_rule 48 = .ok (.invokevirtual 297, 3) := by decide +kernel
theorem dX11_rule_51 : decode cX11_rule 51 = .ok (.aload_n 0, 1) := by decide +kernel
theorem dX11_rule_52 : decode cX11_rule 52 = .ok (.getfield 76, 3) := by decide +kernel
theorem dX11_rule_55 : decode cX11_rule 55 = .ok (.invokevirtual 269, 3) := by decide +kernel
theorem dX11_rule_58 : decode cX11_rule 58 = .ok (.lload 4, 2) := by decide +kernel
theorem dX11_rule_60 : decode cX11_rule 60 = .ok (.lcmp, 1) := by decide +kernel
theorem dX11_rule_61 : decode cX11_rule 61 = .ok (.ifCond .le 15, 3) := by decide +kernel
theorem dX11_rule_64 : decode cX11_rule 64 = .ok (.iload 6, 2) := by decide +kernel
theorem dX11_rule_66 : decode cX11_rule 66 = .ok (.istore_n 3, 1) := by decide +kernel
theorem dX11_rule_67 : decode cX11_rule 67 = .ok (.aload_n 0, 1) := by decide +kernel
theorem dX11_rule_68 : decode cX11_rule 68 = .ok (.getfield 76, 3) := by decide +kernel
theorem dX11_rule_71 : decode cX11_rule 71 = .ok (.invokevirtual 269, 3) := by decide +kernel
theorem dX11_rule_74 : decode cX11_rule 74 = .ok (.lstore 4, 2) := by decide +kernel
theorem dX11_rule_76 : decode cX11_rule 76 = .ok (.iinc 6 1, 3) := by decide +kernel
theorem dX11_rule_79 : decode cX11_rule 79 = .ok (.goto (-49), 3) := by decide +kernel
theorem dX11_rule_82 : decode cX11_rule 82 = .ok (.aload_n 0, 1) := by decide +kernel
theorem dX11_rule_83 : decode cX11_rule 83 = .ok (.lload 4, 2) := by decide +kernel
theorem dX11_rule_85 : decode cX11_rule 85 = .ok (.aload_n 0, 1) := by decide +kernel
theorem dX11_rule_86 : decode cX11_rule 86 = .ok (.getfield 76, 3) := by decide +kernel
theorem dX11_rule_89 : decode cX11_rule 89 = .ok (.getfield 273, 3) := by decide +kernel
theorem dX11_rule_92 : decode cX11_rule 92 = .ok (.iload_n 3, 1) := by decide +kernel
theorem dX11_rule_93 : decode cX11_rule 93 = .ok (.invokevirtual 276, 3) := by decide +kernel
theorem dX11_rule_96 : decode cX11_rule 96 = .ok (.ireturn, 1) := by decide +kernel
theorem dX11_order_0 : decode cX11_order 0 = .ok (.aload_n 0, 1) := by decide +kernel
theorem dX11_order_1 : decode cX11_order 1 = .ok (.iload_n 1, 1) := by decide +kernel
theorem dX11_order_2 : decode cX11_order 2 = .ok (.invokevirtual 301, 3) := by decide +kernel
theorem dX11_order_5 : decode cX11_order 5 = .ok (.istore_n 2, 1) := by decide +kernel
theorem dX11_order_6 : decode cX11_order 6 = .ok (.iload_n 2, 1) := by decide +kernel
theorem dX11_order_7 : decode cX11_order 7 = .ok (.ifCond .eq 5, 3) := by decide +kernel
theorem dX11_order_10 : decode cX11_order 10 = .ok (.iload_n 2, 1) := by decide +kernel
theorem dX11_order_11 : decode cX11_order 11 = .ok (.ireturn, 1) := by decide +kernel
theorem dX11_order_12 : decode cX11_order 12 = .ok (.aload_n 0, 1) := by decide +kernel
theorem dX11_order_13 : decode cX11_order 13 = .ok (.getfield 59, 3) := by decide +kernel
theorem dX11_order_16 : decode cX11_order 16 = .ok (.aload_n 0, 1) := by decide +kernel
theorem dX11_order_17 : decode cX11_order 17 = .ok (.getfield 34, 3) := by decide +kernel
theorem dX11_order_20 : decode cX11_order 20 = .ok (.invokevirtual 198, 3) := by decide +kernel
theorem dX11_order_23 : decode cX11_order 23 = .ok (.aload_n 0, 1) := by decide +kernel
theorem dX11_order_24 : decode cX11_order 24 = .ok (.invokevirtual 304, 3) := by decide +kernel
theorem dX11_order_27 : decode cX11_order 27 = .ok (.ireturn, 1) := by decide +kernel
theorem dX11_most_0 : decode cX11_most 0 = .ok (.aload_n 0, 1) := by decide +kernel
theorem dX11_most_1 : decode cX11_most 1 = .ok (.getfield 14, 3) := by decide +kernel
theorem dX11_most_4 : decode cX11_most 4 = .ok (.iload_n 2, 1) := by decide +kernel
theorem dX11_most_5 : decode cX11_most 5 = .ok (.invokevirtual 112, 3) := by decide +kernel
theorem dX11_most_8 : decode cX11_most 8 = .ok (.ifCond .eq 11, 3) := by decide +kernel
theorem dX11_most_11 : decode cX11_most 11 = .ok (.aload_n 0, 1) := by decide +kernel
theorem dX11_most_12 : decode cX11_most 12 = .ok (.iload_n 1, 1) := by decide +kernel
theorem dX11_most_13 : decode cX11_most 13 = .ok (.invokevirtual 307, 3) := by decide +kernel
theorem dX11_most_16 : decode cX11_most 16 = .ok (.ifCond .ne 5, 3) := by decide +kernel
theorem dX11_most_19 : decode cX11_most 19 = .ok (.iconst (-1), 1) := by decide +kernel
theorem dX11_most_20 : decode cX11_most 20 = .ok (.ireturn, 1) := by decide +kernel
theorem dX11_most_21 : decode cX11_most 21 = .ok (.iload_n 1, 1) := by decide +kernel
theorem dX11_most_22 : decode cX11_most 22 = .ok (.aload_n 0, 1) := by decide +kernel
theorem dX11_most_23 : decode cX11_most 23 = .ok (.getfield 34, 3) := by decide +kernel
theorem dX11_most_26 : decode cX11_most 26 = .ok (.getfield 243, 3) := by decide +kernel
theorem dX11_most_29 : decode cX11_most 29 = .ok (.iconst (-1), 1) := by decide +kernel
theorem dX11_most_30 : decode cX11_most 30 = .ok (.ixor, 1) := by decide +kernel
theorem dX11_most_31 : decode cX11_most 31 = .ok (.iand, 1) := by decide +kernel
theorem dX11_most_32 : decode cX11_most 32 = .ok (.istore_n 3, 1) := by decide +kernel
theorem dX11_most_33 : decode cX11_most 33 = .ok (.iload_n 3, 1) := by decide +kernel
theorem dX11_most_34 : decode cX11_most 34 = .ok (.invokestatic 290, 3) := by decide +kernel
theorem dX11_most_37 : decode cX11_most 37 = .ok (.bipush 6, 2) := by decide +kernel
theorem dX11_most_39 : decode cX11_most 39 = .ok (.if_icmp .le 6, 3) := by decide +kernel
theorem dX11_most_42 : decode cX11_most 42 = .ok (.bipush (-6), 2) := by decide +kernel
theorem dX11_most_44 : decode cX11_most 44 = .ok (.ireturn, 1) := by decide +kernel
theorem dX11_most_45 : decode cX11_most 45 = .ok (.aload_n 0, 1) := by decide +kernel
theorem dX11_most_46 : decode cX11_most 46 = .ok (.iload_n 3, 1) := by decide +kernel
theorem dX11_most_47 : decode cX11_most 47 = .ok (.invokevirtual 310, 3) := by decide +kernel
theorem dX11_most_50 : decode cX11_most 50 = .ok (.aload_n 0, 1) := by decide +kernel
theorem dX11_most_51 : decode cX11_most 51 = .ok (.getfield 14, 3) := by decide +kernel
theorem dX11_most_54 : decode cX11_most 54 = .ok (.iload_n 2, 1) := by decide +kernel
theorem dX11_most_55 : decode cX11_most 55 = .ok (.aload_n 0, 1) := by decide +kernel
theorem dX11_most_56 : decode cX11_most 56 = .ok (.getfield 83, 3) := by decide +kernel
theorem dX11_most_59 : decode cX11_most 59 = .ok (.getfield 313, 3) := by decide +kernel
theorem dX11_most_62 : decode cX11_most 62 = .ok (.iconst 0, 1) := by decide +kernel
theorem dX11_most_63 : decode cX11_most 63 = .ok (.invokevirtual 120, 3) := by decide +kernel
theorem dX11_most_66 : decode cX11_most 66 = .ok (.iconst 0, 1) := by decide +kernel
theorem dX11_most_67 : decode cX11_most 67 = .ok (.istore 4, 2) := by decide +kernel
theorem dX11_most_69 : decode cX11_most 69 = .ok (.iload 4, 2) := by decide +kernel
theorem dX11_most_71 : decode cX11_most 71 = .ok (.aload_n 0, 1) := by decide +kernel
theorem dX11_most_72 : decode cX11_most 72 = .ok (.getfield 83, 3) := by decide +kernel
theorem dX11_most_75 : decode cX11_most 75 = .ok (.getfield 313, 3) := by decide +kernel
theorem dX11_most_78 : decode cX11_most 78 = .ok (.if_icmp .ge 28, 3) := by decide +kernel
theorem dX11_most_81 : decode cX11_most 81 = .ok (.aload_n 0, 1) := by decide +kernel
theorem dX11_most_82 : decode cX11_most 82 = .ok (.getfield 14, 3) := by decide +kernel
theorem dX11_most_85 : decode cX11_most 85 = .ok (.iload_n 2, 1) := by decide +kernel
theorem dX11_most_86 : decode cX11_most 86 = .ok (.iload 4, 2) := by decide +kernel
theorem dX11_most_88 : decode cX11_most 88 = .ok (.aload_n 0, 1) := by decide +kernel
theorem dX11_most_89 : decode cX11_most 89 = .ok (.getfield 83, 3) := by decide +kernel
theorem dX11_most_92 : decode cX11_most 92 = .ok (.iload 4, 2) := by decide +kernel
theorem dX11_most_94 : decode cX11_most 94 = .ok (.invokevirtual 316, 3) := by decide +kernel
theorem dX11_most_97 : decode cX11_most 97 = .ok (.invokevirtual 132, 3) := by decide +kernel
theorem dX11_most_100 : decode cX11_most 100 = .ok (.iinc 4 1, 3) := by decide +kernel
theorem dX11_most_103 : decode cX11_most 103 = .ok (.goto (-34), 3) := by decide +kernel
theorem dX11_most_106 : decode cX11_most 106 = .ok (.aload_n 0, 1) := by decide +kernel
theorem dX11_most_107 : decode cX11_most 107 = .ok (.getfield 83, 3) := by decide +kernel
theorem dX11_most_110 : decode cX11_most 110 = .ok (.getfield 319, 3) := by decide +kernel
theorem dX11_most_113 : decode cX11_most 113 = .ok (.ireturn, 1) := by decide +kernel
theorem dX11_spans_0 : decode cX11_spans 0 = .ok (.aload_n 0, 1) := by decide +kernel
theorem dX11_spans_1 : decode cX11_spans 1 = .ok (.iload_n 1, 1) := by decide +kernel
theorem dX11_spans_2 : decode cX11_spans 2 = .ok (.invokevirtual 307, 3) := by decide +kernel
theorem dX11_spans_5 : decode cX11_spans 5 = .ok (.ifCond .ne 5, 3) := by decide +kernel
theorem dX11_spans_8 : decode cX11_spans 8 = .ok (.iconst (-1), 1) := by decide +kernel
theorem dX11_spans_9 : decode cX11_spans 9 = .ok (.ireturn, 1) := by decide +kernel
theorem dX11_spans_10 : decode cX11_spans 10 = .ok (.iload_n 1, 1) := by decide +kernel
theorem dX11_spans_11 : decode cX11_spans 11 = .ok (.aload_n 0, 1) := by decide +kernel
theorem dX11_spans_12 : decode cX11_spans 12 = .ok (.getfield 34, 3) := by decide +kernel
theorem dX11_spans_15 : decode cX11_spans 15 = .ok (.getfield 243, 3) := by decide +kernel
theorem dX11_spans_18 : decode cX11_spans 18 = .ok (.iconst (-1), 1) := by decide +kernel
theorem dX11_spans_19 : decode cX11_spans 19 = .ok (.ixor, 1) := by decide +kernel
theorem dX11_spans_20 : decode cX11_spans 20 = .ok (.iand, 1) := by decide +kernel
theorem dX11_spans_21 : decode cX11_spans 21 = .ok (.istore_n 2, 1) := by decide +kernel
theorem dX11_spans_22 : decode cX11_spans 22 = .ok (.iload_n 2, 1) := by decide +kernel
theorem dX11_spans_23 : decode cX11_spans 23 = .ok (.invokestatic 290, 3) := by decide +kernel
theorem dX11_spans_26 : decode cX11_spans 26 = .ok (.bipush 6, 2) := by decide +kernel
theorem dX11_spans_28 : decode cX11_spans 28 = .ok (.if_icmp .le 6, 3) := by decide +kernel
theorem dX11_spans_31 : decode cX11_spans 31 = .ok (.bipush (-6), 2) := by decide +kernel
theorem dX11_spans_33 : decode cX11_spans 33 = .ok (.ireturn, 1) := by decide +kernel
theorem dX11_spans_34 : decode cX11_spans 34 = .ok (.aload_n 0, 1) := by decide +kernel
theorem dX11_spans_35 : decode cX11_spans 35 = .ok (.iload_n 2, 1) := by decide +kernel
theorem dX11_spans_36 : decode cX11_spans 36 = .ok (.invokevirtual 310, 3) := by decide +kernel
theorem dX11_spans_39 : decode cX11_spans 39 = .ok (.aload_n 0, 1) := by decide +kernel
theorem dX11_spans_40 : decode cX11_spans 40 = .ok (.aload_n 0, 1) := by decide +kernel
theorem dX11_spans_41 : decode cX11_spans 41 = .ok (.getfield 83, 3) := by decide +kernel
theorem dX11_spans_44 : decode cX11_spans 44 = .ok (.getfield 319, 3) := by decide +kernel
theorem dX11_spans_47 : decode cX11_spans 47 = .ok (.aload_n 0, 1) := by decide +kernel
theorem dX11_spans_48 : decode cX11_spans 48 = .ok (.getfield 83, 3) := by decide +kernel
theorem dX11_spans_51 : decode cX11_spans 51 = .ok (.getfield 322, 3) := by decide +kernel
theorem dX11_spans_54 : decode cX11_spans 54 = .ok (.invokevirtual 135, 3) := by decide +kernel
theorem dX11_spans_57 : decode cX11_spans 57 = .ok (.ireturn, 1) := by decide +kernel
theorem dX11_best_0 : decode cX11_best 0 = .ok (.aload_n 0, 1) := by decide +kernel
theorem dX11_best_1 : decode cX11_best 1 = .ok (.iload_n 1, 1) := by decide +kernel
theorem dX11_best_2 : decode cX11_best 2 = .ok (.invokevirtual 301, 3) := by decide +kernel
theorem dX11_best_5 : decode cX11_best 5 = .ok (.istore_n 2, 1) := by decide +kernel
theorem dX11_best_6 : decode cX11_best 6 = .ok (.iload_n 2, 1) := by decide +kernel
theorem dX11_best_7 : decode cX11_best 7 = .ok (.ifCond .eq 5, 3) := by decide +kernel
theorem dX11_best_10 : decode cX11_best 10 = .ok (.iload_n 2, 1) := by decide +kernel
theorem dX11_best_11 : decode cX11_best 11 = .ok (.ireturn, 1) := by decide +kernel
theorem dX11_best_12 : decode cX11_best 12 = .ok (.aload_n 0, 1) := by decide +kernel
theorem dX11_best_13 : decode cX11_best 13 = .ok (.getfield 59, 3) := by decide +kernel
theorem dX11_best_16 : decode cX11_best 16 = .ok (.aload_n 0, 1) := by decide +kernel
theorem dX11_best_17 : decode cX11_best 17 = .ok (.getfield 34, 3) := by decide +kernel
theorem dX11_best_20 : decode cX11_best 20 = .ok (.invokevirtual 198, 3) := by decide +kernel
theorem dX11_best_23 : decode cX11_best 23 = .ok (.iconst 0, 1) := by decide +kernel
theorem dX11_best_24 : decode cX11_best 24 = .ok (.istore_n 3, 1) := by decide +kernel
theorem dX11_best_25 : decode cX11_best 25 = .ok (.iconst (-1), 1) := by decide +kernel
theorem dX11_best_26 : decode cX11_best 26 = .ok (.istore 4, 2) := by decide +kernel
theorem dX11_best_28 : decode cX11_best 28 = .ok (.iconst 0, 1) := by decide +kernel
theorem dX11_best_29 : decode cX11_best 29 = .ok (.istore 5, 2) := by decide +kernel
theorem dX11_best_31 : decode cX11_best 31 = .ok (.iload 5, 2) := by decide +kernel
theorem dX11_best_33 : decode cX11_best 33 = .ok (.bipush 60, 2) := by decide +kernel
theorem dX11_best_35 : decode cX11_best 35 = .ok (.if_icmp .gt 38, 3) := by decide +kernel
theorem dX11_best_38 : decode cX11_best 38 = .ok (.aload_n 0, 1) := by decide +kernel
theorem dX11_best_39 : decode cX11_best 39 = .ok (.getfield 59, 3) := by decide +kernel
theorem dX11_best_42 : decode cX11_best 42 = .ok (.iload 5, 2) := by decide +kernel
theorem dX11_best_44 : decode cX11_best 44 = .ok (.putfield 325, 3) := by decide +kernel
theorem dX11_best_47 : decode cX11_best 47 = .ok (.aload_n 0, 1) := by decide +kernel
theorem dX11_best_48 : decode cX11_best 48 = .ok (.invokevirtual 304, 3) := by decide +kernel
theorem dX11_best_51 : decode cX11_best 51 = .ok (.istore 6, 2) := by decide +kernel
theorem dX11_best_53 : decode cX11_best 53 = .ok (.iload 6, 2) := by decide +kernel
theorem dX11_best_55 : decode cX11_best 55 = .ok (.iload 4, 2) := by decide +kernel
theorem dX11_best_57 : decode cX11_best 57 = .ok (.if_icmp .le 10, 3) := by decide +kernel
theorem dX11_best_60 : decode cX11_best 60 = .ok (.iload 5, 2) := by decide +kernel
theorem dX11_best_62 : decode cX11_best 62 = .ok (.istore_n 3, 1) := by decide +kernel
theorem dX11_best_63 : decode cX11_best 63 = .ok (.iload 6, 2) := by decide +kernel
theorem dX11_best_65 : decode cX11_best 65 = .ok (.istore 4, 2) := by decide +kernel
theorem dX11_best_67 : decode cX11_best 67 = .ok (.iinc 5 1, 3) := by decide +kernel
theorem dX11_best_70 : decode cX11_best 70 = .ok (.goto (-39), 3) := by decide +kernel
theorem dX11_best_73 : decode cX11_best 73 = .ok (.aload_n 0, 1) := by decide +kernel
theorem dX11_best_74 : decode cX11_best 74 = .ok (.iload 4, 2) := by decide +kernel
theorem dX11_best_76 : decode cX11_best 76 = .ok (.iload_n 3, 1) := by decide +kernel
theorem dX11_best_77 : decode cX11_best 77 = .ok (.invokevirtual 135, 3) := by decide +kernel
theorem dX11_best_80 : decode cX11_best 80 = .ok (.ireturn, 1) := by decide +kernel
theorem dX11_first_0 : decode cX11_first 0 = .ok (.aload_n 0, 1) := by decide +kernel
theorem dX11_first_1 : decode cX11_first 1 = .ok (.getfield 24, 3) := by decide +kernel
theorem dX11_first_4 : decode cX11_first 4 = .ok (.iload_n 1, 1) := by decide +kernel
theorem dX11_first_5 : decode cX11_first 5 = .ok (.invokevirtual 173, 3) := by decide +kernel
theorem dX11_first_8 : decode cX11_first 8 = .ok (.ifCond .ne 5, 3) := by decide +kernel
theorem dX11_first_11 : decode cX11_first 11 = .ok (.iconst (-1), 1) := by decide +kernel
theorem dX11_first_12 : decode cX11_first 12 = .ok (.ireturn, 1) := by decide +kernel
theorem dX11_first_13 : decode cX11_first 13 = .ok (.aload_n 0, 1) := by decide +kernel
theorem dX11_first_14 : decode cX11_first 14 = .ok (.iload_n 2, 1) := by decide +kernel
theorem dX11_first_15 : decode cX11_first 15 = .ok (.invokevirtual 301, 3) := by decide +kernel
theorem dX11_first_18 : decode cX11_first 18 = .ok (.istore_n 3, 1) := by decide +kernel
theorem dX11_first_19 : decode cX11_first 19 = .ok (.iload_n 3, 1) := by decide +kernel
theorem dX11_first_20 : decode cX11_first 20 = .ok (.ifCond .eq 5, 3) := by decide +kernel
theorem dX11_first_23 : decode cX11_first 23 = .ok (.iload_n 3, 1) := by decide +kernel
theorem dX11_first_24 : decode cX11_first 24 = .ok (.ireturn, 1) := by decide +kernel
theorem dX11_first_25 : decode cX11_first 25 = .ok (.aload_n 0, 1) := by decide +kernel
theorem dX11_first_26 : decode cX11_first 26 = .ok (.getfield 34, 3) := by decide +kernel
theorem dX11_first_29 : decode cX11_first 29 = .ok (.iload_n 1, 1) := by decide +kernel
theorem dX11_first_30 : decode cX11_first 30 = .ok (.invokevirtual 326, 3) := by decide +kernel
theorem dX11_first_33 : decode cX11_first 33 = .ok (.ifCond .ne 14, 3) := by decide +kernel
theorem dX11_first_36 : decode cX11_first 36 = .ok (.aload_n 0, 1) := by decide +kernel
theorem dX11_first_37 : decode cX11_first 37 = .ok (.getfield 83, 3) := by decide +kernel
theorem dX11_first_40 : decode cX11_first 40 = .ok (.iload_n 1, 1) := by decide +kernel
theorem dX11_first_41 : decode cX11_first 41 = .ok (.invokevirtual 329, 3) := by decide +kernel
theorem dX11_first_44 : decode cX11_first 44 = .ok (.ifCond .eq 9, 3) := by decide +kernel
theorem dX11_first_47 : decode cX11_first 47 = .ok (.aload_n 0, 1) := by decide +kernel
theorem dX11_first_48 : decode cX11_first 48 = .ok (.iconst 3, 1) := by decide +kernel
theorem dX11_first_49 : decode cX11_first 49 = .ok (.invokevirtual 116, 3) := by decide +kernel
theorem dX11_first_52 : decode cX11_first 52 = .ok (.ireturn, 1) := by decide +kernel
theorem dX11_first_53 : decode cX11_first 53 = .ok (.aload_n 0, 1) := by decide +kernel
theorem dX11_first_54 : decode cX11_first 54 = .ok (.getfield 59, 3) := by decide +kernel
theorem dX11_first_57 : decode cX11_first 57 = .ok (.aload_n 0, 1) := by decide +kernel
theorem dX11_first_58 : decode cX11_first 58 = .ok (.getfield 34, 3) := by decide +kernel
theorem dX11_first_61 : decode cX11_first 61 = .ok (.invokevirtual 198, 3) := by decide +kernel
theorem dX11_first_64 : decode cX11_first 64 = .ok (.aload_n 0, 1) := by decide +kernel
theorem dX11_first_65 : decode cX11_first 65 = .ok (.invokevirtual 304, 3) := by decide +kernel
theorem dX11_first_68 : decode cX11_first 68 = .ok (.istore 4, 2) := by decide +kernel
theorem dX11_first_70 : decode cX11_first 70 = .ok (.aload_n 0, 1) := by decide +kernel
theorem dX11_first_71 : decode cX11_first 71 = .ok (.getfield 59, 3) := by decide +kernel
theorem dX11_first_74 : decode cX11_first 74 = .ok (.aload_n 0, 1) := by decide +kernel
theorem dX11_first_75 : decode cX11_first 75 = .ok (.getfield 59, 3) := by decide +kernel
theorem dX11_first_78 : decode cX11_first 78 = .ok (.aload_n 0, 1) := by decide +kernel
theorem dX11_first_79 : decode cX11_first 79 = .ok (.getfield 24, 3) := by decide +kernel
theorem dX11_first_82 : decode cX11_first 82 = .ok (.iload_n 1, 1) := by decide +kernel
theorem dX11_first_83 : decode cX11_first 83 = .ok (.invokevirtual 332, 3) := by decide +kernel
theorem dX11_first_86 : decode cX11_first 86 = .ok (.invokevirtual 335, 3) := by decide +kernel
theorem dX11_first_89 : decode cX11_first 89 = .ok (.aload_n 0, 1) := by decide +kernel
theorem dX11_first_90 : decode cX11_first 90 = .ok (.aload_n 0, 1) := by decide +kernel
theorem dX11_first_91 : decode cX11_first 91 = .ok (.invokevirtual 304, 3) := by decide +kernel
theorem dX11_first_94 : decode cX11_first 94 = .ok (.iload 4, 2) := by decide +kernel
theorem dX11_first_96 : decode cX11_first 96 = .ok (.isub, 1) := by decide +kernel
theorem dX11_first_97 : decode cX11_first 97 = .ok (.iconst 1, 1) := by decide +kernel
theorem dX11_first_98 : decode cX11_first 98 = .ok (.invokevirtual 135, 3) := by decide +kernel
theorem dX11_first_101 : decode cX11_first 101 = .ok (.ireturn, 1) := by decide +kernel
theorem dX11_buy_0 : decode cX11_buy 0 = .ok (.aload_n 0, 1) := by decide +kernel
theorem dX11_buy_1 : decode cX11_buy 1 = .ok (.aload_n 0, 1) := by decide +kernel
theorem dX11_buy_2 : decode cX11_buy 2 = .ok (.getfield 14, 3) := by decide +kernel
theorem dX11_buy_5 : decode cX11_buy 5 = .ok (.iload_n 1, 1) := by decide +kernel
theorem dX11_buy_6 : decode cX11_buy 6 = .ok (.invokevirtual 138, 3) := by decide +kernel
theorem dX11_buy_9 : decode cX11_buy 9 = .ok (.istore_n 2, 1) := by decide +kernel
theorem dX11_buy_10 : decode cX11_buy 10 = .ok (.iload_n 2, 1) := by decide +kernel
theorem dX11_buy_11 : decode cX11_buy 11 = .ok (.ifCond .eq 5, 3) := by decide +kernel
theorem dX11_buy_14 : decode cX11_buy 14 = .ok (.iload_n 2, 1) := by decide +kernel
theorem dX11_buy_15 : decode cX11_buy 15 = .ok (.ireturn, 1) := by decide +kernel
theorem dX11_buy_16 : decode cX11_buy 16 = .ok (.aload_n 0, 1) := by decide +kernel
theorem dX11_buy_17 : decode cX11_buy 17 = .ok (.getfield 14, 3) := by decide +kernel
theorem dX11_buy_20 : decode cX11_buy 20 = .ok (.iload_n 1, 1) := by decide +kernel
theorem dX11_buy_21 : decode cX11_buy 21 = .ok (.invokevirtual 157, 3) := by decide +kernel
theorem dX11_buy_24 : decode cX11_buy 24 = .ok (.bipush 12, 2) := by decide +kernel
theorem dX11_buy_26 : decode cX11_buy 26 = .ok (.if_icmp .le 9, 3) := by decide +kernel
theorem dX11_buy_29 : decode cX11_buy 29 = .ok (.aload_n 0, 1) := by decide +kernel
theorem dX11_buy_30 : decode cX11_buy 30 = .ok (.iconst 5, 1) := by decide +kernel
theorem dX11_buy_31 : decode cX11_buy 31 = .ok (.invokevirtual 116, 3) := by decide +kernel
theorem dX11_buy_34 : decode cX11_buy 34 = .ok (.ireturn, 1) := by decide +kernel
theorem dX11_buy_35 : decode cX11_buy 35 = .ok (.aload_n 0, 1) := by decide +kernel
theorem dX11_buy_36 : decode cX11_buy 36 = .ok (.getfield 14, 3) := by decide +kernel
theorem dX11_buy_39 : decode cX11_buy 39 = .ok (.iload_n 1, 1) := by decide +kernel
theorem dX11_buy_40 : decode cX11_buy 40 = .ok (.iconst 0, 1) := by decide +kernel
theorem dX11_buy_41 : decode cX11_buy 41 = .ok (.sipush 999, 3) := by decide +kernel
theorem dX11_buy_44 : decode cX11_buy 44 = .ok (.invokevirtual 338, 3) := by decide +kernel
theorem dX11_buy_47 : decode cX11_buy 47 = .ok (.ifCond .ne 9, 3) := by decide +kernel
theorem dX11_buy_50 : decode cX11_buy 50 = .ok (.aload_n 0, 1) := by decide +kernel
theorem dX11_buy_51 : decode cX11_buy 51 = .ok (.iconst 3, 1) := by decide +kernel
theorem dX11_buy_52 : decode cX11_buy 52 = .ok (.invokevirtual 116, 3) := by decide +kernel
theorem dX11_buy_55 : decode cX11_buy 55 = .ok (.ireturn, 1) := by decide +kernel
theorem dX11_buy_56 : decode cX11_buy 56 = .ok (.aload_n 0, 1) := by decide +kernel
theorem dX11_buy_57 : decode cX11_buy 57 = .ok (.getfield 59, 3) := by decide +kernel
theorem dX11_buy_60 : decode cX11_buy 60 = .ok (.aload_n 0, 1) := by decide +kernel
theorem dX11_buy_61 : decode cX11_buy 61 = .ok (.getfield 34, 3) := by decide +kernel
theorem dX11_buy_64 : decode cX11_buy 64 = .ok (.invokevirtual 198, 3) := by decide +kernel
theorem dX11_buy_67 : decode cX11_buy 67 = .ok (.iconst 0, 1) := by decide +kernel
theorem dX11_buy_68 : decode cX11_buy 68 = .ok (.istore_n 3, 1) := by decide +kernel
theorem dX11_buy_69 : decode cX11_buy 69 = .ok (.iconst 0, 1) := by decide +kernel
theorem dX11_buy_70 : decode cX11_buy 70 = .ok (.istore 4, 2) := by decide +kernel
theorem dX11_buy_72 : decode cX11_buy 72 = .ok (.iconst 0, 1) := by decide +kernel
theorem dX11_buy_73 : decode cX11_buy 73 = .ok (.istore 5, 2) := by decide +kernel
theorem dX11_buy_75 : decode cX11_buy 75 = .ok (.iconst 1, 1) := by decide +kernel
theorem dX11_buy_76 : decode cX11_buy 76 = .ok (.istore 6, 2) := by decide +kernel
theorem dX11_buy_78 : decode cX11_buy 78 = .ok (.iload 6, 2) := by decide +kernel
theorem dX11_buy_80 : decode cX11_buy 80 = .ok (.iconst 1, 1) := by decide +kernel
theorem dX11_buy_81 : decode cX11_buy 81 = .ok (.aload_n 0, 1) := by decide +kernel
theorem dX11_buy_82 : decode cX11_buy 82 = .ok (.getfield 14, 3) := by decide +kernel
theorem dX11_buy_85 : decode cX11_buy 85 = .ok (.iload_n 1, 1) := by decide +kernel
theorem dX11_buy_86 : decode cX11_buy 86 = .ok (.invokevirtual 157, 3) := by decide +kernel
theorem dX11_buy_89 : decode cX11_buy 89 = .ok (.ishl, 1) := by decide +kernel
theorem dX11_buy_90 : decode cX11_buy 90 = .ok (.if_icmp .ge 47, 3) := by decide +kernel
theorem dX11_buy_93 : decode cX11_buy 93 = .ok (.iload 5, 2) := by decide +kernel
theorem dX11_buy_95 : decode cX11_buy 95 = .ok (.aload_n 0, 1) := by decide +kernel
theorem dX11_buy_96 : decode cX11_buy 96 = .ok (.iload_n 1, 1) := by decide +kernel
theorem dX11_buy_97 : decode cX11_buy 97 = .ok (.iload 6, 2) := by decide +kernel
theorem dX11_buy_99 : decode cX11_buy 99 = .ok (.invokevirtual 341, 3) := by decide +kernel
theorem dX11_buy_102 : decode cX11_buy 102 = .ok (.iadd, 1) := by decide +kernel
theorem dX11_buy_103 : decode cX11_buy 103 = .ok (.istore 5, 2) := by decide +kernel
theorem dX11_buy_105 : decode cX11_buy 105 = .ok (.iload 5, 2) := by decide +kernel
theorem dX11_buy_107 : decode cX11_buy 107 = .ok (.aload_n 0, 1) := by decide +kernel
theorem dX11_buy_108 : decode cX11_buy 108 = .ok (.getfield 59, 3) := by decide +kernel
theorem dX11_buy_111 : decode cX11_buy 111 = .ok (.getfield 234, 3) := by decide +kernel
theorem dX11_buy_114 : decode cX11_buy 114 = .ok (.if_icmp .gt 17, 3) := by decide +kernel
theorem dX11_buy_117 : decode cX11_buy 117 = .ok (.iload 5, 2) := by decide +kernel
theorem dX11_buy_119 : decode cX11_buy 119 = .ok (.iload 4, 2) := by decide +kernel
theorem dX11_buy_121 : decode cX11_buy 121 = .ok (.if_icmp .le 10, 3) := by decide +kernel
theorem dX11_buy_124 : decode cX11_buy 124 = .ok (.iload 6, 2) := by decide +kernel
theorem dX11_buy_126 : decode cX11_buy 126 = .ok (.istore_n 3, 1) := by decide +kernel
theorem dX11_buy_127 : decode cX11_buy 127 = .ok (.iload 5, 2) := by decide +kernel
theorem dX11_buy_129 : decode cX11_buy 129 = .ok (.istore 4, 2) := by decide +kernel
theorem dX11_buy_131 : decode cX11_buy 131 = .ok (.iinc 6 1, 3) := by decide +kernel
theorem dX11_buy_134 : decode cX11_buy 134 = .ok (.goto (-56), 3) := by decide +kernel
theorem dX11_buy_137 : decode cX11_buy 137 = .ok (.aload_n 0, 1) := by decide +kernel
theorem dX11_buy_138 : decode cX11_buy 138 = .ok (.iload_n 3, 1) := by decide +kernel
theorem dX11_buy_139 : decode cX11_buy 139 = .ok (.iload 4, 2) := by decide +kernel
theorem dX11_buy_141 : decode cX11_buy 141 = .ok (.invokevirtual 135, 3) := by decide +kernel
theorem dX11_buy_144 : decode cX11_buy 144 = .ok (.ireturn, 1) := by decide +kernel
theorem dX11_fill_0 : decode cX11_fill 0 = .ok (.iload_n 1, 1) := by decide +kernel
theorem dX11_fill_1 : decode cX11_fill 1 = .ok (.ifCond .lt 10, 3) := by decide +kernel
theorem dX11_fill_4 : decode cX11_fill 4 = .ok (.iload_n 1, 1) := by decide +kernel
theorem dX11_fill_5 : decode cX11_fill 5 = .ok (.sipush 999, 3) := by decide +kernel
theorem dX11_fill_8 : decode cX11_fill 8 = .ok (.if_icmp .le 5, 3) := by decide +kernel
theorem dX11_fill_11 : decode cX11_fill 11 = .ok (.iconst (-1), 1) := by decide +kernel
theorem dX11_fill_12 : decode cX11_fill 12 = .ok (.ireturn, 1) := by decide +kernel
theorem dX11_fill_13 : decode cX11_fill 13 = .ok (.aload_n 0, 1) := by decide +kernel
theorem dX11_fill_14 : decode cX11_fill 14 = .ok (.getfield 59, 3) := by decide +kernel
theorem dX11_fill_17 : decode cX11_fill 17 = .ok (.aload_n 0, 1) := by decide +kernel
theorem dX11_fill_18 : decode cX11_fill 18 = .ok (.getfield 34, 3) := by decide +kernel
theorem dX11_fill_21 : decode cX11_fill 21 = .ok (.invokevirtual 198, 3) := by decide +kernel
theorem dX11_fill_24 : decode cX11_fill 24 = .ok (.iconst 0, 1) := by decide +kernel
theorem dX11_fill_25 : decode cX11_fill 25 = .ok (.istore_n 2, 1) := by decide +kernel
theorem dX11_fill_26 : decode cX11_fill 26 = .ok (.iload_n 2, 1) := by decide +kernel
theorem dX11_fill_27 : decode cX11_fill 27 = .ok (.aload_n 0, 1) := by decide +kernel
theorem dX11_fill_28 : decode cX11_fill 28 = .ok (.getfield 24, 3) := by decide +kernel
theorem dX11_fill_31 : decode cX11_fill 31 = .ok (.getfield 172, 3) := by decide +kernel
theorem dX11_fill_34 : decode cX11_fill 34 = .ok (.if_icmp .ge 39, 3) := by decide +kernel
theorem dX11_fill_37 : decode cX11_fill 37 = .ok (.aload_n 0, 1) := by decide +kernel
theorem dX11_fill_38 : decode cX11_fill 38 = .ok (.getfield 34, 3) := by decide +kernel
theorem dX11_fill_41 : decode cX11_fill 41 = .ok (.iload_n 2, 1) := by decide +kernel
theorem dX11_fill_42 : decode cX11_fill 42 = .ok (.invokevirtual 326, 3) := by decide +kernel
theorem dX11_fill_45 : decode cX11_fill 45 = .ok (.ifCond .ne 22, 3) := by decide +kernel
theorem dX11_fill_48 : decode cX11_fill 48 = .ok (.aload_n 0, 1) := by decide +kernel
theorem dX11_fill_49 : decode cX11_fill 49 = .ok (.getfield 59, 3) := by decide +kernel
theorem dX11_fill_52 : decode cX11_fill 52 = .ok (.aload_n 0, 1) := by decide +kernel
theorem dX11_fill_53 : decode cX11_fill 53 = .ok (.getfield 59, 3) := by decide +kernel
theorem dX11_fill_56 : decode cX11_fill 56 = .ok (.aload_n 0, 1) := by decide +kernel
theorem dX11_fill_57 : decode cX11_fill 57 = .ok (.getfield 24, 3) := by decide +kernel
theorem dX11_fill_60 : decode cX11_fill 60 = .ok (.iload_n 2, 1) := by decide +kernel
theorem dX11_fill_61 : decode cX11_fill 61 = .ok (.invokevirtual 332, 3) := by decide +kernel
theorem dX11_fill_64 : decode cX11_fill 64 = .ok (.invokevirtual 335, 3) := by decide +kernel
theorem dX11_fill_67 : decode cX11_fill 67 = .ok (.iinc 2 1, 3) := by decide +kernel
theorem dX11_fill_70 : decode cX11_fill 70 = .ok (.goto (-44), 3) := by decide +kernel
theorem dX11_fill_73 : decode cX11_fill 73 = .ok (.iconst 0, 1) := by decide +kernel
theorem dX11_fill_74 : decode cX11_fill 74 = .ok (.iload_n 1, 1) := by decide +kernel
theorem dX11_fill_75 : decode cX11_fill 75 = .ok (.aload_n 0, 1) := by decide +kernel
theorem dX11_fill_76 : decode cX11_fill 76 = .ok (.getfield 59, 3) := by decide +kernel
theorem dX11_fill_79 : decode cX11_fill 79 = .ok (.getfield 234, 3) := by decide +kernel
theorem dX11_fill_82 : decode cX11_fill 82 = .ok (.isub, 1) := by decide +kernel
theorem dX11_fill_83 : decode cX11_fill 83 = .ok (.invokestatic 344, 3) := by decide +kernel
theorem dX11_fill_86 : decode cX11_fill 86 = .ok (.ireturn, 1) := by decide +kernel
theorem dX11_nothing_0 : decode cX11_nothing 0 = .ok (.iload_n 1, 1) := by decide +kernel
theorem dX11_nothing_1 : decode cX11_nothing 1 = .ok (.ifCond .lt 9, 3) := by decide +kernel
theorem dX11_nothing_4 : decode cX11_nothing 4 = .ok (.iload_n 1, 1) := by decide +kernel
theorem dX11_nothing_5 : decode cX11_nothing 5 = .ok (.bipush 99, 2) := by decide +kernel
theorem dX11_nothing_7 : decode cX11_nothing 7 = .ok (.if_icmp .le 5, 3) := by decide +kernel
theorem dX11_nothing_10 : decode cX11_nothing 10 = .ok (.iconst (-1), 1) := by decide +kernel
theorem dX11_nothing_11 : decode cX11_nothing 11 = .ok (.ireturn, 1) := by decide +kernel
theorem dX11_nothing_12 : decode cX11_nothing 12 = .ok (.iconst 0, 1) := by decide +kernel
theorem dX11_nothing_13 : decode cX11_nothing 13 = .ok (.istore_n 2, 1) := by decide +kernel
theorem dX11_nothing_14 : decode cX11_nothing 14 = .ok (.aload_n 0, 1) := by decide +kernel
theorem dX11_nothing_15 : decode cX11_nothing 15 = .ok (.getfield 34, 3) := by decide +kernel
theorem dX11_nothing_18 : decode cX11_nothing 18 = .ok (.getfield 243, 3) := by decide +kernel
theorem dX11_nothing_21 : decode cX11_nothing 21 = .ok (.istore_n 3, 1) := by decide +kernel
theorem dX11_nothing_22 : decode cX11_nothing 22 = .ok (.iconst 0, 1) := by decide +kernel
theorem dX11_nothing_23 : decode cX11_nothing 23 = .ok (.istore 4, 2) := by decide +kernel
theorem dX11_nothing_25 : decode cX11_nothing 25 = .ok (.iload 4, 2) := by decide +kernel
theorem dX11_nothing_27 : decode cX11_nothing 27 = .ok (.aload_n 0, 1) := by decide +kernel
theorem dX11_nothing_28 : decode cX11_nothing 28 = .ok (.getfield 34, 3) := by decide +kernel
theorem dX11_nothing_31 : decode cX11_nothing 31 = .ok (.getfield 243, 3) := by decide +kernel
theorem dX11_nothing_34 : decode cX11_nothing 34 = .ok (.if_icmp .gt 29, 3) := by decide +kernel
theorem dX11_nothing_37 : decode cX11_nothing 37 = .ok (.aload_n 0, 1) := by decide +kernel
theorem dX11_nothing_38 : decode cX11_nothing 38 = .ok (.iload 4, 2) := by decide +kernel
theorem dX11_nothing_40 : decode cX11_nothing 40 = .ok (.iload_n 1, 1) := by decide +kernel
theorem dX11_nothing_41 : decode cX11_nothing 41 = .ok (.invokevirtual 349, 3) := by decide +kernel
theorem dX11_nothing_44 : decode cX11_nothing 44 = .ok (.ifCond .eq 13, 3) := by decide +kernel
theorem dX11_nothing_47 : decode cX11_nothing 47 = .ok (.iinc 2 1, 3) := by decide +kernel
theorem dX11_nothing_50 : decode cX11_nothing 50 = .ok (.iload_n 3, 1) := by decide +kernel
theorem dX11_nothing_51 : decode cX11_nothing 51 = .ok (.iload 4, 2) := by decide +kernel
theorem dX11_nothing_53 : decode cX11_nothing 53 = .ok (.iconst (-1), 1) := by decide +kernel
theorem dX11_nothing_54 : decode cX11_nothing 54 = .ok (.ixor, 1) := by decide +kernel
theorem dX11_nothing_55 : decode cX11_nothing 55 = .ok (.iand, 1) := by decide +kernel
theorem dX11_nothing_56 : decode cX11_nothing 56 = .ok (.istore_n 3, 1) := by decide +kernel
theorem dX11_nothing_57 : decode cX11_nothing 57 = .ok (.iinc 4 1, 3) := by decide +kernel
theorem dX11_nothing_60 : decode cX11_nothing 60 = .ok (.goto (-35), 3) := by decide +kernel
theorem dX11_nothing_63 : decode cX11_nothing 63 = .ok (.aload_n 0, 1) := by decide +kernel
theorem dX11_nothing_64 : decode cX11_nothing 64 = .ok (.iload_n 2, 1) := by decide +kernel
theorem dX11_nothing_65 : decode cX11_nothing 65 = .ok (.ifCond .ne 7, 3) := by decide +kernel
theorem dX11_nothing_68 : decode cX11_nothing 68 = .ok (.iconst 0, 1) := by decide +kernel
theorem dX11_nothing_69 : decode cX11_nothing 69 = .ok (.goto 4, 3) := by decide +kernel
theorem dX11_nothing_72 : decode cX11_nothing 72 = .ok (.iload_n 3, 1) := by decide +kernel
theorem dX11_nothing_73 : decode cX11_nothing 73 = .ok (.iload_n 2, 1) := by decide +kernel
theorem dX11_nothing_74 : decode cX11_nothing 74 = .ok (.invokevirtual 135, 3) := by decide +kernel
theorem dX11_nothing_77 : decode cX11_nothing 77 = .ok (.ireturn, 1) := by decide +kernel
theorem dX11_gaveNone_0 : decode cX11_gaveNone 0 = .ok (.aload_n 0, 1) := by decide +kernel
theorem dX11_gaveNone_1 : decode cX11_gaveNone 1 = .ok (.getfield 24, 3) := by decide +kernel
theorem dX11_gaveNone_4 : decode cX11_gaveNone 4 = .ok (.iload_n 1, 1) := by decide +kernel
theorem dX11_gaveNone_5 : decode cX11_gaveNone 5 = .ok (.invokevirtual 173, 3) := by decide +kernel
theorem dX11_gaveNone_8 : decode cX11_gaveNone 8 = .ok (.ifCond .eq 13, 3) := by decide +kernel
theorem dX11_gaveNone_11 : decode cX11_gaveNone 11 = .ok (.iload_n 2, 1) := by decide +kernel
theorem dX11_gaveNone_12 : decode cX11_gaveNone 12 = .ok (.ifCond .lt 9, 3) := by decide +kernel
theorem dX11_gaveNone_15 : decode cX11_gaveNone 15 = .ok (.iload_n 2, 1) := by decide +kernel
theorem dX11_gaveNone_16 : decode cX11_gaveNone 16 = .ok (.bipush 99, 2) := by decide +kernel
theorem dX11_gaveNone_18 : decode cX11_gaveNone 18 = .ok (.if_icmp .le 5, 3) := by decide +kernel
theorem dX11_gaveNone_21 : decode cX11_gaveNone 21 = .ok (.iconst (-1), 1) := by decide +kernel
theorem dX11_gaveNone_22 : decode cX11_gaveNone 22 = .ok (.ireturn, 1) := by decide +kernel
theorem dX11_gaveNone_23 : decode cX11_gaveNone 23 = .ok (.aload_n 0, 1) := by decide +kernel
theorem dX11_gaveNone_24 : decode cX11_gaveNone 24 = .ok (.getfield 34, 3) := by decide +kernel
theorem dX11_gaveNone_27 : decode cX11_gaveNone 27 = .ok (.iload_n 1, 1) := by decide +kernel
theorem dX11_gaveNone_28 : decode cX11_gaveNone 28 = .ok (.invokevirtual 326, 3) := by decide +kernel
theorem dX11_gaveNone_31 : decode cX11_gaveNone 31 = .ok (.ifCond .ne 6, 3) := by decide +kernel
theorem dX11_gaveNone_34 : decode cX11_gaveNone 34 = .ok (.bipush (-4), 2) := by decide +kernel
theorem dX11_gaveNone_36 : decode cX11_gaveNone 36 = .ok (.ireturn, 1) := by decide +kernel
theorem dX11_gaveNone_37 : decode cX11_gaveNone 37 = .ok (.iconst 0, 1) := by decide +kernel
theorem dX11_gaveNone_38 : decode cX11_gaveNone 38 = .ok (.istore_n 3, 1) := by decide +kernel
theorem dX11_gaveNone_39 : decode cX11_gaveNone 39 = .ok (.iconst 0, 1) := by decide +kernel
theorem dX11_gaveNone_40 : decode cX11_gaveNone 40 = .ok (.istore 4, 2) := by decide +kernel
theorem dX11_gaveNone_42 : decode cX11_gaveNone 42 = .ok (.iconst 0, 1) := by decide +kernel
theorem dX11_gaveNone_43 : decode cX11_gaveNone 43 = .ok (.istore 5, 2) := by decide +kernel
theorem dX11_gaveNone_45 : decode cX11_gaveNone 45 = .ok (.iload 5, 2) := by decide +kernel
theorem dX11_gaveNone_47 : decode cX11_gaveNone 47 = .ok (.aload_n 0, 1) := by decide +kernel
theorem dX11_gaveNone_48 : decode cX11_gaveNone 48 = .ok (.getfield 34, 3) := by decide +kernel
theorem dX11_gaveNone_51 : decode cX11_gaveNone 51 = .ok (.getfield 243, 3) := by decide +kernel
theorem dX11_gaveNone_54 : decode cX11_gaveNone 54 = .ok (.if_icmp .gt 35, 3) := by decide +kernel
theorem dX11_gaveNone_57 : decode cX11_gaveNone 57 = .ok (.aload_n 0, 1) := by decide +kernel
theorem dX11_gaveNone_58 : decode cX11_gaveNone 58 = .ok (.iload 5, 2) := by decide +kernel
theorem dX11_gaveNone_60 : decode cX11_gaveNone 60 = .ok (.iload_n 2, 1) := by decide +kernel
theorem dX11_gaveNone_61 : decode cX11_gaveNone 61 = .ok (.invokevirtual 349, 3) := by decide +kernel
theorem dX11_gaveNone_64 : decode cX11_gaveNone 64 = .ok (.ifCond .eq 19, 3) := by decide +kernel
theorem dX11_gaveNone_67 : decode cX11_gaveNone 67 = .ok (.iinc 3 1, 3) := by decide +kernel
theorem dX11_gaveNone_70 : decode cX11_gaveNone 70 = .ok (.iload 4, 2) := by decide +kernel
theorem dX11_gaveNone_72 : decode cX11_gaveNone 72 = .ok (.iconst 1, 1) := by decide +kernel
theorem dX11_gaveNone_73 : decode cX11_gaveNone 73 = .ok (.iload 5, 2) := by decide +kernel
theorem dX11_gaveNone_75 : decode cX11_gaveNone 75 = .ok (.iload_n 1, 1) := by decide +kernel
theorem dX11_gaveNone_76 : decode cX11_gaveNone 76 = .ok (.ishr, 1) := by decide +kernel
theorem dX11_gaveNone_77 : decode cX11_gaveNone 77 = .ok (.iconst 1, 1) := by decide +kernel
theorem dX11_gaveNone_78 : decode cX11_gaveNone 78 = .ok (.iand, 1) := by decide +kernel
theorem dX11_gaveNone_79 : decode cX11_gaveNone 79 = .ok (.isub, 1) := by decide +kernel
theorem dX11_gaveNone_80 : decode cX11_gaveNone 80 = .ok (.iadd, 1) := by decide +kernel
theorem dX11_gaveNone_81 : decode cX11_gaveNone 81 = .ok (.istore 4, 2) := by decide +kernel
theorem dX11_gaveNone_83 : decode cX11_gaveNone 83 = .ok (.iinc 5 1, 3) := by decide +kernel
theorem dX11_gaveNone_86 : decode cX11_gaveNone 86 = .ok (.goto (-41), 3) := by decide +kernel
theorem dX11_gaveNone_89 : decode cX11_gaveNone 89 = .ok (.iload_n 3, 1) := by decide +kernel
theorem dX11_gaveNone_90 : decode cX11_gaveNone 90 = .ok (.ifCond .ne 9, 3) := by decide +kernel
theorem dX11_gaveNone_93 : decode cX11_gaveNone 93 = .ok (.aload_n 0, 1) := by decide +kernel
theorem dX11_gaveNone_94 : decode cX11_gaveNone 94 = .ok (.iconst 4, 1) := by decide +kernel
theorem dX11_gaveNone_95 : decode cX11_gaveNone 95 = .ok (.invokevirtual 116, 3) := by decide +kernel
theorem dX11_gaveNone_98 : decode cX11_gaveNone 98 = .ok (.ireturn, 1) := by decide +kernel
theorem dX11_gaveNone_99 : decode cX11_gaveNone 99 = .ok (.aload_n 0, 1) := by decide +kernel
theorem dX11_gaveNone_100 : decode cX11_gaveNone 100 = .ok (.iload 4, 2) := by decide +kernel
theorem dX11_gaveNone_102 : decode cX11_gaveNone 102 = .ok (.i2l, 1) := by decide +kernel
theorem dX11_gaveNone_103 : decode cX11_gaveNone 103 = .ok (.iload_n 3, 1) := by decide +kernel
theorem dX11_gaveNone_104 : decode cX11_gaveNone 104 = .ok (.i2l, 1) := by decide +kernel
theorem dX11_gaveNone_105 : decode cX11_gaveNone 105 = .ok (.iload 4, 2) := by decide +kernel
theorem dX11_gaveNone_107 : decode cX11_gaveNone 107 = .ok (.invokevirtual 276, 3) := by decide +kernel
theorem dX11_gaveNone_110 : decode cX11_gaveNone 110 = .ok (.ireturn, 1) := by decide +kernel
theorem dX11_fits_0 : decode cX11_fits 0 = .ok (.iload_n 1, 1) := by decide +kernel
theorem dX11_fits_1 : decode cX11_fits 1 = .ok (.iload_n 2, 1) := by decide +kernel
theorem dX11_fits_2 : decode cX11_fits 2 = .ok (.invokestatic 352, 3) := by decide +kernel
theorem dX11_fits_5 : decode cX11_fits 5 = .ok (.ifCond .ne 5, 3) := by decide +kernel
theorem dX11_fits_8 : decode cX11_fits 8 = .ok (.iconst (-1), 1) := by decide +kernel
theorem dX11_fits_9 : decode cX11_fits 9 = .ok (.ireturn, 1) := by decide +kernel
theorem dX11_fits_10 : decode cX11_fits 10 = .ok (.aload_n 0, 1) := by decide +kernel
theorem dX11_fits_11 : decode cX11_fits 11 = .ok (.aload_n 0, 1) := by decide +kernel
theorem dX11_fits_12 : decode cX11_fits 12 = .ok (.getfield 14, 3) := by decide +kernel
theorem dX11_fits_15 : decode cX11_fits 15 = .ok (.iload_n 3, 1) := by decide +kernel
theorem dX11_fits_16 : decode cX11_fits 16 = .ok (.invokevirtual 138, 3) := by decide +kernel
theorem dX11_fits_19 : decode cX11_fits 19 = .ok (.istore 4, 2) := by decide +kernel
theorem dX11_fits_21 : decode cX11_fits 21 = .ok (.iload 4, 2) := by decide +kernel
theorem dX11_fits_23 : decode cX11_fits 23 = .ok (.ifCond .eq 6, 3) := by decide +kernel
theorem dX11_fits_26 : decode cX11_fits 26 = .ok (.iload 4, 2) := by decide +kernel
theorem dX11_fits_28 : decode cX11_fits 28 = .ok (.ireturn, 1) := by decide +kernel
theorem dX11_fits_29 : decode cX11_fits 29 = .ok (.aload_n 0, 1) := by decide +kernel
theorem dX11_fits_30 : decode cX11_fits 30 = .ok (.getfield 14, 3) := by decide +kernel
theorem dX11_fits_33 : decode cX11_fits 33 = .ok (.iload_n 3, 1) := by decide +kernel
theorem dX11_fits_34 : decode cX11_fits 34 = .ok (.iconst 1, 1) := by decide +kernel
theorem dX11_fits_35 : decode cX11_fits 35 = .ok (.bipush 40, 2) := by decide +kernel
theorem dX11_fits_37 : decode cX11_fits 37 = .ok (.invokevirtual 338, 3) := by decide +kernel
theorem dX11_fits_40 : decode cX11_fits 40 = .ok (.ifCond .ne 9, 3) := by decide +kernel
theorem dX11_fits_43 : decode cX11_fits 43 = .ok (.aload_n 0, 1) := by decide +kernel
theorem dX11_fits_44 : decode cX11_fits 44 = .ok (.iconst 3, 1) := by decide +kernel
theorem dX11_fits_45 : decode cX11_fits 45 = .ok (.invokevirtual 116, 3) := by decide +kernel
theorem dX11_fits_48 : decode cX11_fits 48 = .ok (.ireturn, 1) := by decide +kernel
theorem dX11_fits_49 : decode cX11_fits 49 = .ok (.iconst 0, 1) := by decide +kernel
theorem dX11_fits_50 : decode cX11_fits 50 = .ok (.istore 5, 2) := by decide +kernel
theorem dX11_fits_52 : decode cX11_fits 52 = .ok (.iconst 0, 1) := by decide +kernel
theorem dX11_fits_53 : decode cX11_fits 53 = .ok (.istore 6, 2) := by decide +kernel
theorem dX11_fits_55 : decode cX11_fits 55 = .ok (.iconst 0, 1) := by decide +kernel
theorem dX11_fits_56 : decode cX11_fits 56 = .ok (.istore 7, 2) := by decide +kernel
theorem dX11_fits_58 : decode cX11_fits 58 = .ok (.iload 7, 2) := by decide +kernel
theorem dX11_fits_60 : decode cX11_fits 60 = .ok (.aload_n 0, 1) := by decide +kernel
theorem dX11_fits_61 : decode cX11_fits 61 = .ok (.getfield 14, 3) := by decide +kernel
theorem dX11_fits_64 : decode cX11_fits 64 = .ok (.iload_n 3, 1) := by decide +kernel
theorem dX11_fits_65 : decode cX11_fits 65 = .ok (.invokevirtual 157, 3) := by decide +kernel
theorem dX11_fits_68 : decode cX11_fits 68 = .ok (.if_icmp .ge 54, 3) := by decide +kernel
theorem dX11_fits_71 : decode cX11_fits 71 = .ok (.aload_n 0, 1) := by decide +kernel
theorem dX11_fits_72 : decode cX11_fits 72 = .ok (.getfield 90, 3) := by decide +kernel
theorem dX11_fits_75 : decode cX11_fits 75 = .ok (.iload 5, 2) := by decide +kernel
theorem dX11_fits_77 : decode cX11_fits 77 = .ok (.aload_n 0, 1) := by decide +kernel
theorem dX11_fits_78 : decode cX11_fits 78 = .ok (.getfield 14, 3) := by decide +kernel
theorem dX11_fits_81 : decode cX11_fits 81 = .ok (.iload_n 3, 1) := by decide +kernel
theorem dX11_fits_82 : decode cX11_fits 82 = .ok (.iload 7, 2) := by decide +kernel
theorem dX11_fits_84 : decode cX11_fits 84 = .ok (.invokevirtual 128, 3) := by decide +kernel
theorem dX11_fits_87 : decode cX11_fits 87 = .ok (.iload_n 1, 1) := by decide +kernel
theorem dX11_fits_88 : decode cX11_fits 88 = .ok (.invokevirtual 355, 3) := by decide +kernel
theorem dX11_fits_91 : decode cX11_fits 91 = .ok (.istore 8, 2) := by decide +kernel
theorem dX11_fits_93 : decode cX11_fits 93 = .ok (.aload_n 0, 1) := by decide +kernel
theorem dX11_fits_94 : decode cX11_fits 94 = .ok (.getfield 90, 3) := by decide +kernel
theorem dX11_fits_97 : decode cX11_fits 97 = .ok (.iload 8, 2) := by decide +kernel
theorem dX11_fits_99 : decode cX11_fits 99 = .ok (.invokevirtual 359, 3) := by decide +kernel
theorem dX11_fits_102 : decode cX11_fits 102 = .ok (.iload_n 2, 1) := by decide +kernel
theorem dX11_fits_103 : decode cX11_fits 103 = .ok (.if_icmp .le 6, 3) := by decide +kernel
theorem dX11_fits_106 : decode cX11_fits 106 = .ok (.goto 16, 3) := by decide +kernel
theorem dX11_fits_109 : decode cX11_fits 109 = .ok (.iload 8, 2) := by decide +kernel
theorem dX11_fits_111 : decode cX11_fits 111 = .ok (.istore 5, 2) := by decide +kernel
theorem dX11_fits_113 : decode cX11_fits 113 = .ok (.iinc 6 1, 3) := by decide +kernel
theorem dX11_fits_116 : decode cX11_fits 116 = .ok (.iinc 7 1, 3) := by decide +kernel
theorem dX11_fits_119 : decode cX11_fits 119 = .ok (.goto (-61), 3) := by decide +kernel
theorem dX11_fits_122 : decode cX11_fits 122 = .ok (.aload_n 0, 1) := by decide +kernel
theorem dX11_fits_123 : decode cX11_fits 123 = .ok (.aload_n 0, 1) := by decide +kernel
theorem dX11_fits_124 : decode cX11_fits 124 = .ok (.getfield 90, 3) := by decide +kernel
theorem dX11_fits_127 : decode cX11_fits 127 = .ok (.iload 5, 2) := by decide +kernel
theorem dX11_fits_129 : decode cX11_fits 129 = .ok (.invokevirtual 359, 3) := by decide +kernel
theorem dX11_fits_132 : decode cX11_fits 132 = .ok (.iload 6, 2) := by decide +kernel
theorem dX11_fits_134 : decode cX11_fits 134 = .ok (.invokevirtual 135, 3) := by decide +kernel
theorem dX11_fits_137 : decode cX11_fits 137 = .ok (.ireturn, 1) := by decide +kernel
theorem dX11_room_0 : decode cX11_room 0 = .ok (.iload_n 1, 1) := by decide +kernel
theorem dX11_room_1 : decode cX11_room 1 = .ok (.iload_n 2, 1) := by decide +kernel
theorem dX11_room_2 : decode cX11_room 2 = .ok (.invokestatic 352, 3) := by decide +kernel
theorem dX11_room_5 : decode cX11_room 5 = .ok (.ifCond .ne 5, 3) := by decide +kernel
theorem dX11_room_8 : decode cX11_room 8 = .ok (.iconst (-1), 1) := by decide +kernel
theorem dX11_room_9 : decode cX11_room 9 = .ok (.ireturn, 1) := by decide +kernel
theorem dX11_room_10 : decode cX11_room 10 = .ok (.aload_n 0, 1) := by decide +kernel
theorem dX11_room_11 : decode cX11_room 11 = .ok (.aload_n 0, 1) := by decide +kernel
theorem dX11_room_12 : decode cX11_room 12 = .ok (.getfield 14, 3) := by decide +kernel
theorem dX11_room_15 : decode cX11_room 15 = .ok (.iload_n 3, 1) := by decide +kernel
theorem dX11_room_16 : decode cX11_room 16 = .ok (.invokevirtual 138, 3) := by decide +kernel
theorem dX11_room_19 : decode cX11_room 19 = .ok (.istore 4, 2) := by decide +kernel
theorem dX11_room_21 : decode cX11_room 21 = .ok (.iload 4, 2) := by decide +kernel
theorem dX11_room_23 : decode cX11_room 23 = .ok (.ifCond .eq 6, 3) := by decide +kernel
theorem dX11_room_26 : decode cX11_room 26 = .ok (.iload 4, 2) := by decide +kernel
theorem dX11_room_28 : decode cX11_room 28 = .ok (.ireturn, 1) := by decide +kernel
theorem dX11_room_29 : decode cX11_room 29 = .ok (.aload_n 0, 1) := by decide +kernel
theorem dX11_room_30 : decode cX11_room 30 = .ok (.getfield 14, 3) := by decide +kernel
theorem dX11_room_33 : decode cX11_room 33 = .ok (.iload_n 3, 1) := by decide +kernel
theorem dX11_room_34 : decode cX11_room 34 = .ok (.invokevirtual 157, 3) := by decide +kernel
theorem dX11_room_37 : decode cX11_room 37 = .ok (.bipush 8, 2) := by decide +kernel
theorem dX11_room_39 : decode cX11_room 39 = .ok (.if_icmp .le 9, 3) := by decide +kernel
theorem dX11_room_42 : decode cX11_room 42 = .ok (.aload_n 0, 1) := by decide +kernel
theorem dX11_room_43 : decode cX11_room 43 = .ok (.iconst 5, 1) := by decide +kernel
theorem dX11_room_44 : decode cX11_room 44 = .ok (.invokevirtual 116, 3) := by decide +kernel
theorem dX11_room_47 : decode cX11_room 47 = .ok (.ireturn, 1) := by decide +kernel
theorem dX11_room_48 : decode cX11_room 48 = .ok (.aload_n 0, 1) := by decide +kernel
theorem dX11_room_49 : decode cX11_room 49 = .ok (.getfield 14, 3) := by decide +kernel
theorem dX11_room_52 : decode cX11_room 52 = .ok (.iload_n 3, 1) := by decide +kernel
theorem dX11_room_53 : decode cX11_room 53 = .ok (.iconst 1, 1) := by decide +kernel
theorem dX11_room_54 : decode cX11_room 54 = .ok (.bipush 40, 2) := by decide +kernel
theorem dX11_room_56 : decode cX11_room 56 = .ok (.invokevirtual 338, 3) := by decide +kernel
theorem dX11_room_59 : decode cX11_room 59 = .ok (.ifCond .ne 9, 3) := by decide +kernel
theorem dX11_room_62 : decode cX11_room 62 = .ok (.aload_n 0, 1) := by decide +kernel
theorem dX11_room_63 : decode cX11_room 63 = .ok (.iconst 3, 1) := by decide +kernel
theorem dX11_room_64 : decode cX11_room 64 = .ok (.invokevirtual 116, 3) := by decide +kernel
theorem dX11_room_67 : decode cX11_room 67 = .ok (.ireturn, 1) := by decide +kernel
theorem dX11_room_68 : decode cX11_room 68 = .ok (.aload_n 0, 1) := by decide +kernel
theorem dX11_room_69 : decode cX11_room 69 = .ok (.getfield 90, 3) := by decide +kernel
theorem dX11_room_72 : decode cX11_room 72 = .ok (.aload_n 0, 1) := by decide +kernel
theorem dX11_room_73 : decode cX11_room 73 = .ok (.getfield 14, 3) := by decide +kernel
theorem dX11_room_76 : decode cX11_room 76 = .ok (.iload_n 3, 1) := by decide +kernel
theorem dX11_room_77 : decode cX11_room 77 = .ok (.iload_n 1, 1) := by decide +kernel
theorem dX11_room_78 : decode cX11_room 78 = .ok (.iload_n 2, 1) := by decide +kernel
theorem dX11_room_79 : decode cX11_room 79 = .ok (.invokevirtual 362, 3) := by decide +kernel
theorem dX11_room_82 : decode cX11_room 82 = .ok (.istore 5, 2) := by decide +kernel
theorem dX11_room_84 : decode cX11_room 84 = .ok (.aload_n 0, 1) := by decide +kernel
theorem dX11_room_85 : decode cX11_room 85 = .ok (.iload 5, 2) := by decide +kernel
theorem dX11_room_87 : decode cX11_room 87 = .ok (.iload 5, 2) := by decide +kernel
theorem dX11_room_89 : decode cX11_room 89 = .ok (.invokestatic 290, 3) := by decide +kernel
theorem dX11_room_92 : decode cX11_room 92 = .ok (.invokevirtual 135, 3) := by decide +kernel
theorem dX11_room_95 : decode cX11_room 95 = .ok (.ireturn, 1) := by decide +kernel
theorem dX11_starts_0 : decode cX11_starts 0 = .ok (.aload_n 0, 1) := by decide +kernel
theorem dX11_starts_1 : decode cX11_starts 1 = .ok (.getfield 24, 3) := by decide +kernel
theorem dX11_starts_4 : decode cX11_starts 4 = .ok (.iload_n 1, 1) := by decide +kernel
theorem dX11_starts_5 : decode cX11_starts 5 = .ok (.invokevirtual 173, 3) := by decide +kernel
theorem dX11_starts_8 : decode cX11_starts 8 = .ok (.ifCond .eq 13, 3) := by decide +kernel
theorem dX11_starts_11 : decode cX11_starts 11 = .ok (.iload_n 2, 1) := by decide +kernel
theorem dX11_starts_12 : decode cX11_starts 12 = .ok (.ifCond .lt 9, 3) := by decide +kernel
theorem dX11_starts_15 : decode cX11_starts 15 = .ok (.iload_n 2, 1) := by decide +kernel
theorem dX11_starts_16 : decode cX11_starts 16 = .ok (.bipush 10, 2) := by decide +kernel
theorem dX11_starts_18 : decode cX11_starts 18 = .ok (.if_icmp .lt 5, 3) := by decide +kernel
theorem dX11_starts_21 : decode cX11_starts 21 = .ok (.iconst (-1), 1) := by decide +kernel
theorem dX11_starts_22 : decode cX11_starts 22 = .ok (.ireturn, 1) := by decide +kernel
theorem dX11_starts_23 : decode cX11_starts 23 = .ok (.aload_n 0, 1) := by decide +kernel
theorem dX11_starts_24 : decode cX11_starts 24 = .ok (.getfield 34, 3) := by decide +kernel
theorem dX11_starts_27 : decode cX11_starts 27 = .ok (.iload_n 1, 1) := by decide +kernel
theorem dX11_starts_28 : decode cX11_starts 28 = .ok (.invokevirtual 326, 3) := by decide +kernel
theorem dX11_starts_31 : decode cX11_starts 31 = .ok (.ifCond .eq 6, 3) := by decide +kernel
theorem dX11_starts_34 : decode cX11_starts 34 = .ok (.bipush (-4), 2) := by decide +kernel
theorem dX11_starts_36 : decode cX11_starts 36 = .ok (.ireturn, 1) := by decide +kernel
theorem dX11_starts_37 : decode cX11_starts 37 = .ok (.aload_n 0, 1) := by decide +kernel
theorem dX11_starts_38 : decode cX11_starts 38 = .ok (.getfield 69, 3) := by decide +kernel
theorem dX11_starts_41 : decode cX11_starts 41 = .ok (.aload_n 0, 1) := by decide +kernel
theorem dX11_starts_42 : decode cX11_starts 42 = .ok (.getfield 34, 3) := by decide +kernel
theorem dX11_starts_45 : decode cX11_starts 45 = .ok (.invokevirtual 190, 3) := by decide +kernel
theorem dX11_starts_48 : decode cX11_starts 48 = .ok (.aload_n 0, 1) := by decide +kernel
theorem dX11_starts_49 : decode cX11_starts 49 = .ok (.getfield 69, 3) := by decide +kernel
theorem dX11_starts_52 : decode cX11_starts 52 = .ok (.iload_n 2, 1) := by decide +kernel
theorem dX11_starts_53 : decode cX11_starts 53 = .ok (.invokevirtual 366, 3) := by decide +kernel
theorem dX11_starts_56 : decode cX11_starts 56 = .ok (.iconst 0, 1) := by decide +kernel
theorem dX11_starts_57 : decode cX11_starts 57 = .ok (.istore_n 3, 1) := by decide +kernel
theorem dX11_starts_58 : decode cX11_starts 58 = .ok (.iload_n 3, 1) := by decide +kernel
theorem dX11_starts_59 : decode cX11_starts 59 = .ok (.aload_n 0, 1) := by decide +kernel
theorem dX11_starts_60 : decode cX11_starts 60 = .ok (.getfield 24, 3) := by decide +kernel
theorem dX11_starts_63 : decode cX11_starts 63 = .ok (.getfield 172, 3) := by decide +kernel
theorem dX11_starts_66 : decode cX11_starts 66 = .ok (.if_icmp .ge 44, 3) := by decide +kernel
theorem dX11_starts_69 : decode cX11_starts 69 = .ok (.iload_n 3, 1) := by decide +kernel
theorem dX11_starts_70 : decode cX11_starts 70 = .ok (.iload_n 1, 1) := by decide +kernel
theorem dX11_starts_71 : decode cX11_starts 71 = .ok (.if_icmp .eq 33, 3) := by decide +kernel
theorem dX11_starts_74 : decode cX11_starts 74 = .ok (.aload_n 0, 1) := by decide +kernel
theorem dX11_starts_75 : decode cX11_starts 75 = .ok (.getfield 34, 3) := by decide +kernel
theorem dX11_starts_78 : decode cX11_starts 78 = .ok (.iload_n 3, 1) := by decide +kernel
theorem dX11_starts_79 : decode cX11_starts 79 = .ok (.invokevirtual 326, 3) := by decide +kernel
theorem dX11_starts_82 : decode cX11_starts 82 = .ok (.ifCond .ne 22, 3) := by decide +kernel
theorem dX11_starts_85 : decode cX11_starts 85 = .ok (.aload_n 0, 1) := by decide +kernel
theorem dX11_starts_86 : decode cX11_starts 86 = .ok (.getfield 69, 3) := by decide +kernel
theorem dX11_starts_89 : decode cX11_starts 89 = .ok (.aload_n 0, 1) := by decide +kernel
theorem dX11_starts_90 : decode cX11_starts 90 = .ok (.getfield 69, 3) := by decide +kernel
theorem dX11_starts_93 : decode cX11_starts 93 = .ok (.aload_n 0, 1) := by decide +kernel
theorem dX11_starts_94 : decode cX11_starts 94 = .ok (.getfield 24, 3) := by decide +kernel
theorem dX11_starts_97 : decode cX11_starts 97 = .ok (.iload_n 3, 1) := by decide +kernel
theorem dX11_starts_98 : decode cX11_starts 98 = .ok (.invokevirtual 194, 3) := by decide +kernel
theorem dX11_starts_101 : decode cX11_starts 101 = .ok (.invokevirtual 366, 3) := by decide +kernel
theorem dX11_starts_104 : decode cX11_starts 104 = .ok (.iinc 3 1, 3) := by decide +kernel
theorem dX11_starts_107 : decode cX11_starts 107 = .ok (.goto (-49), 3) := by decide +kernel
theorem dX11_starts_110 : decode cX11_starts 110 = .ok (.aload_n 0, 1) := by decide +kernel
theorem dX11_starts_111 : decode cX11_starts 111 = .ok (.getfield 69, 3) := by decide +kernel
theorem dX11_starts_114 : decode cX11_starts 114 = .ok (.iload_n 2, 1) := by decide +kernel
theorem dX11_starts_115 : decode cX11_starts 115 = .ok (.invokevirtual 240, 3) := by decide +kernel
theorem dX11_starts_118 : decode cX11_starts 118 = .ok (.ireturn, 1) := by decide +kernel
theorem dX11_year_0 : decode cX11_year 0 = .ok (.aload_n 0, 1) := by decide +kernel
theorem dX11_year_1 : decode cX11_year 1 = .ok (.getfield 24, 3) := by decide +kernel
theorem dX11_year_4 : decode cX11_year 4 = .ok (.iload_n 1, 1) := by decide +kernel
theorem dX11_year_5 : decode cX11_year 5 = .ok (.invokevirtual 173, 3) := by decide +kernel
theorem dX11_year_8 : decode cX11_year 8 = .ok (.ifCond .ne 5, 3) := by decide +kernel
theorem dX11_year_11 : decode cX11_year 11 = .ok (.iconst (-1), 1) := by decide +kernel
theorem dX11_year_12 : decode cX11_year 12 = .ok (.ireturn, 1) := by decide +kernel
theorem dX11_year_13 : decode cX11_year 13 = .ok (.aload_n 0, 1) := by decide +kernel
theorem dX11_year_14 : decode cX11_year 14 = .ok (.getfield 63, 3) := by decide +kernel
theorem dX11_year_17 : decode cX11_year 17 = .ok (.aload_n 0, 1) := by decide +kernel
theorem dX11_year_18 : decode cX11_year 18 = .ok (.getfield 34, 3) := by decide +kernel
theorem dX11_year_21 : decode cX11_year 21 = .ok (.invokevirtual 369, 3) := by decide +kernel
theorem dX11_year_24 : decode cX11_year 24 = .ok (.aload_n 0, 1) := by decide +kernel
theorem dX11_year_25 : decode cX11_year 25 = .ok (.getfield 45, 3) := by decide +kernel
theorem dX11_year_28 : decode cX11_year 28 = .ok (.aload_n 0, 1) := by decide +kernel
theorem dX11_year_29 : decode cX11_year 29 = .ok (.getfield 24, 3) := by decide +kernel
theorem dX11_year_32 : decode cX11_year 32 = .ok (.aload_n 0, 1) := by decide +kernel
theorem dX11_year_33 : decode cX11_year 33 = .ok (.getfield 63, 3) := by decide +kernel
theorem dX11_year_36 : decode cX11_year 36 = .ok (.iload_n 1, 1) := by decide +kernel
theorem dX11_year_37 : decode cX11_year 37 = .ok (.invokevirtual 372, 3) := by decide +kernel
theorem dX11_year_40 : decode cX11_year 40 = .ok (.ireturn, 1) := by decide +kernel
theorem dX11_balance_0 : decode cX11_balance 0 = .ok (.aload_n 0, 1) := by decide +kernel
theorem dX11_balance_1 : decode cX11_balance 1 = .ok (.getfield 24, 3) := by decide +kernel
theorem dX11_balance_4 : decode cX11_balance 4 = .ok (.iload_n 1, 1) := by decide +kernel
theorem dX11_balance_5 : decode cX11_balance 5 = .ok (.invokevirtual 173, 3) := by decide +kernel
theorem dX11_balance_8 : decode cX11_balance 8 = .ok (.ifCond .ne 5, 3) := by decide +kernel
theorem dX11_balance_11 : decode cX11_balance 11 = .ok (.iconst (-1), 1) := by decide +kernel
theorem dX11_balance_12 : decode cX11_balance 12 = .ok (.ireturn, 1) := by decide +kernel
theorem dX11_balance_13 : decode cX11_balance 13 = .ok (.aload_n 0, 1) := by decide +kernel
theorem dX11_balance_14 : decode cX11_balance 14 = .ok (.aload_n 0, 1) := by decide +kernel
theorem dX11_balance_15 : decode cX11_balance 15 = .ok (.getfield 45, 3) := by decide +kernel
theorem dX11_balance_18 : decode cX11_balance 18 = .ok (.iload_n 1, 1) := by decide +kernel
theorem dX11_balance_19 : decode cX11_balance 19 = .ok (.invokevirtual 375, 3) := by decide +kernel
theorem dX11_balance_22 : decode cX11_balance 22 = .ok (.iconst 1, 1) := by decide +kernel
theorem dX11_balance_23 : decode cX11_balance 23 = .ok (.invokevirtual 135, 3) := by decide +kernel
theorem dX11_balance_26 : decode cX11_balance 26 = .ok (.ireturn, 1) := by decide +kernel
theorem dX11_forget_0 : decode cX11_forget 0 = .ok (.iload_n 1, 1) := by decide +kernel
theorem dX11_forget_1 : decode cX11_forget 1 = .ok (.ifCond .lt 14, 3) := by decide +kernel
theorem dX11_forget_4 : decode cX11_forget 4 = .ok (.iload_n 1, 1) := by decide +kernel
theorem dX11_forget_5 : decode cX11_forget 5 = .ok (.aload_n 0, 1) := by decide +kernel
theorem dX11_forget_6 : decode cX11_forget 6 = .ok (.getfield 45, 3) := by decide +kernel
theorem dX11_forget_9 : decode cX11_forget 9 = .ok (.getfield 166, 3) := by decide +kernel
theorem dX11_forget_12 : decode cX11_forget 12 = .ok (.if_icmp .le 5, 3) := by decide +kernel
theorem dX11_forget_15 : decode cX11_forget 15 = .ok (.iconst (-1), 1) := by decide +kernel
theorem dX11_forget_16 : decode cX11_forget 16 = .ok (.ireturn, 1) := by decide +kernel
theorem dX11_forget_17 : decode cX11_forget 17 = .ok (.aload_n 0, 1) := by decide +kernel
theorem dX11_forget_18 : decode cX11_forget 18 = .ok (.getfield 45, 3) := by decide +kernel
theorem dX11_forget_21 : decode cX11_forget 21 = .ok (.getfield 166, 3) := by decide +kernel
theorem dX11_forget_24 : decode cX11_forget 24 = .ok (.iload_n 1, 1) := by decide +kernel
theorem dX11_forget_25 : decode cX11_forget 25 = .ok (.isub, 1) := by decide +kernel
theorem dX11_forget_26 : decode cX11_forget 26 = .ok (.istore_n 2, 1) := by decide +kernel
theorem dX11_forget_27 : decode cX11_forget 27 = .ok (.aload_n 0, 1) := by decide +kernel
theorem dX11_forget_28 : decode cX11_forget 28 = .ok (.getfield 45, 3) := by decide +kernel
theorem dX11_forget_31 : decode cX11_forget 31 = .ok (.iload_n 1, 1) := by decide +kernel
theorem dX11_forget_32 : decode cX11_forget 32 = .ok (.putfield 166, 3) := by decide +kernel
theorem dX11_forget_35 : decode cX11_forget 35 = .ok (.iload_n 2, 1) := by decide +kernel
theorem dX11_forget_36 : decode cX11_forget 36 = .ok (.ireturn, 1) := by decide +kernel
theorem dX11_even_0 : decode cX11_even 0 = .ok (.aload_n 0, 1) := by decide +kernel
theorem dX11_even_1 : decode cX11_even 1 = .ok (.getfield 14, 3) := by decide +kernel
theorem dX11_even_4 : decode cX11_even 4 = .ok (.iload_n 1, 1) := by decide +kernel
theorem dX11_even_5 : decode cX11_even 5 = .ok (.invokevirtual 112, 3) := by decide +kernel
theorem dX11_even_8 : decode cX11_even 8 = .ok (.ifCond .ne 5, 3) := by decide +kernel
theorem dX11_even_11 : decode cX11_even 11 = .ok (.iconst (-1), 1) := by decide +kernel
theorem dX11_even_12 : decode cX11_even 12 = .ok (.ireturn, 1) := by decide +kernel
theorem dX11_even_13 : decode cX11_even 13 = .ok (.aload_n 0, 1) := by decide +kernel
theorem dX11_even_14 : decode cX11_even 14 = .ok (.getfield 24, 3) := by decide +kernel
theorem dX11_even_17 : decode cX11_even 17 = .ok (.getfield 172, 3) := by decide +kernel
theorem dX11_even_20 : decode cX11_even 20 = .ok (.ifCond .ne 6, 3) := by decide +kernel
theorem dX11_even_23 : decode cX11_even 23 = .ok (.bipush (-4), 2) := by decide +kernel
theorem dX11_even_25 : decode cX11_even 25 = .ok (.ireturn, 1) := by decide +kernel
theorem dX11_even_26 : decode cX11_even 26 = .ok (.aload_n 0, 1) := by decide +kernel
theorem dX11_even_27 : decode cX11_even 27 = .ok (.getfield 14, 3) := by decide +kernel
theorem dX11_even_30 : decode cX11_even 30 = .ok (.iload_n 1, 1) := by decide +kernel
theorem dX11_even_31 : decode cX11_even 31 = .ok (.invokevirtual 146, 3) := by decide +kernel
theorem dX11_even_34 : decode cX11_even 34 = .ok (.ifCond .ne 9, 3) := by decide +kernel
theorem dX11_even_37 : decode cX11_even 37 = .ok (.aload_n 0, 1) := by decide +kernel
theorem dX11_even_38 : decode cX11_even 38 = .ok (.iconst 1, 1) := by decide +kernel
theorem dX11_even_39 : decode cX11_even 39 = .ok (.invokevirtual 116, 3) := by decide +kernel
theorem dX11_even_42 : decode cX11_even 42 = .ok (.ireturn, 1) := by decide +kernel
theorem dX11_even_43 : decode cX11_even 43 = .ok (.aload_n 0, 1) := by decide +kernel
theorem dX11_even_44 : decode cX11_even 44 = .ok (.getfield 14, 3) := by decide +kernel
theorem dX11_even_47 : decode cX11_even 47 = .ok (.iload_n 1, 1) := by decide +kernel
theorem dX11_even_48 : decode cX11_even 48 = .ok (.invokevirtual 157, 3) := by decide +kernel
theorem dX11_even_51 : decode cX11_even 51 = .ok (.bipush 20, 2) := by decide +kernel
theorem dX11_even_53 : decode cX11_even 53 = .ok (.if_icmp .le 9, 3) := by decide +kernel
theorem dX11_even_56 : decode cX11_even 56 = .ok (.aload_n 0, 1) := by decide +kernel
theorem dX11_even_57 : decode cX11_even 57 = .ok (.iconst 5, 1) := by decide +kernel
theorem dX11_even_58 : decode cX11_even 58 = .ok (.invokevirtual 116, 3) := by decide +kernel
theorem dX11_even_61 : decode cX11_even 61 = .ok (.ireturn, 1) := by decide +kernel
theorem dX11_even_62 : decode cX11_even 62 = .ok (.aload_n 0, 1) := by decide +kernel
theorem dX11_even_63 : decode cX11_even 63 = .ok (.getfield 14, 3) := by decide +kernel
theorem dX11_even_66 : decode cX11_even 66 = .ok (.iload_n 1, 1) := by decide +kernel
theorem dX11_even_67 : decode cX11_even 67 = .ok (.iconst 0, 1) := by decide +kernel
theorem dX11_even_68 : decode cX11_even 68 = .ok (.aload_n 0, 1) := by decide +kernel
theorem dX11_even_69 : decode cX11_even 69 = .ok (.getfield 24, 3) := by decide +kernel
theorem dX11_even_72 : decode cX11_even 72 = .ok (.getfield 172, 3) := by decide +kernel
theorem dX11_even_75 : decode cX11_even 75 = .ok (.iconst 1, 1) := by decide +kernel
theorem dX11_even_76 : decode cX11_even 76 = .ok (.isub, 1) := by decide +kernel
theorem dX11_even_77 : decode cX11_even 77 = .ok (.invokevirtual 338, 3) := by decide +kernel
theorem dX11_even_80 : decode cX11_even 80 = .ok (.ifCond .ne 9, 3) := by decide +kernel
theorem dX11_even_83 : decode cX11_even 83 = .ok (.aload_n 0, 1) := by decide +kernel
theorem dX11_even_84 : decode cX11_even 84 = .ok (.iconst 3, 1) := by decide +kernel
theorem dX11_even_85 : decode cX11_even 85 = .ok (.invokevirtual 116, 3) := by decide +kernel
theorem dX11_even_88 : decode cX11_even 88 = .ok (.ireturn, 1) := by decide +kernel
theorem dX11_even_89 : decode cX11_even 89 = .ok (.aload_n 0, 1) := by decide +kernel
theorem dX11_even_90 : decode cX11_even 90 = .ok (.getfield 63, 3) := by decide +kernel
theorem dX11_even_93 : decode cX11_even 93 = .ok (.aload_n 0, 1) := by decide +kernel
theorem dX11_even_94 : decode cX11_even 94 = .ok (.getfield 34, 3) := by decide +kernel
theorem dX11_even_97 : decode cX11_even 97 = .ok (.invokevirtual 369, 3) := by decide +kernel
theorem dX11_even_100 : decode cX11_even 100 = .ok (.iconst 0, 1) := by decide +kernel
theorem dX11_even_101 : decode cX11_even 101 = .ok (.istore_n 2, 1) := by decide +kernel
theorem dX11_even_102 : decode cX11_even 102 = .ok (.iconst 0, 1) := by decide +kernel
theorem dX11_even_103 : decode cX11_even 103 = .ok (.istore_n 3, 1) := by decide +kernel
theorem dX11_even_104 : decode cX11_even 104 = .ok (.iconst 0, 1) := by decide +kernel
theorem dX11_even_105 : decode cX11_even 105 = .ok (.istore 4, 2) := by decide +kernel
theorem dX11_even_107 : decode cX11_even 107 = .ok (.iload 4, 2) := by decide +kernel
theorem dX11_even_109 : decode cX11_even 109 = .ok (.iconst 3, 1) := by decide +kernel
theorem dX11_even_110 : decode cX11_even 110 = .ok (.if_icmp .ge 57, 3) := by decide +kernel
theorem dX11_even_113 : decode cX11_even 113 = .ok (.aload_n 0, 1) := by decide +kernel
theorem dX11_even_114 : decode cX11_even 114 = .ok (.getfield 63, 3) := by decide +kernel
theorem dX11_even_117 : decode cX11_even 117 = .ok (.iload 4, 2) := by decide +kernel
theorem dX11_even_119 : decode cX11_even 119 = .ok (.putfield 378, 3) := by decide +kernel
theorem dX11_even_122 : decode cX11_even 122 = .ok (.aload_n 0, 1) := by decide +kernel
theorem dX11_even_123 : decode cX11_even 123 = .ok (.getfield 45, 3) := by decide +kernel
theorem dX11_even_126 : decode cX11_even 126 = .ok (.aload_n 0, 1) := by decide +kernel
theorem dX11_even_127 : decode cX11_even 127 = .ok (.getfield 24, 3) := by decide +kernel
theorem dX11_even_130 : decode cX11_even 130 = .ok (.aload_n 0, 1) := by decide +kernel
theorem dX11_even_131 : decode cX11_even 131 = .ok (.getfield 63, 3) := by decide +kernel
theorem dX11_even_134 : decode cX11_even 134 = .ok (.aload_n 0, 1) := by decide +kernel
theorem dX11_even_135 : decode cX11_even 135 = .ok (.getfield 14, 3) := by decide +kernel
theorem dX11_even_138 : decode cX11_even 138 = .ok (.iload_n 1, 1) := by decide +kernel
theorem dX11_even_139 : decode cX11_even 139 = .ok (.invokevirtual 379, 3) := by decide +kernel
theorem dX11_even_142 : decode cX11_even 142 = .ok (.istore 5, 2) := by decide +kernel
theorem dX11_even_144 : decode cX11_even 144 = .ok (.iload 4, 2) := by decide +kernel
theorem dX11_even_146 : decode cX11_even 146 = .ok (.ifCond .eq 9, 3) := by decide +kernel
theorem dX11_even_149 : decode cX11_even 149 = .ok (.iload 5, 2) := by decide +kernel
theorem dX11_even_151 : decode cX11_even 151 = .ok (.iload_n 3, 1) := by decide +kernel
theorem dX11_even_152 : decode cX11_even 152 = .ok (.if_icmp .ge 9, 3) := by decide +kernel
theorem dX11_even_155 : decode cX11_even 155 = .ok (.iload 4, 2) := by decide +kernel
theorem dX11_even_157 : decode cX11_even 157 = .ok (.istore_n 2, 1) := by decide +kernel
theorem dX11_even_158 : decode cX11_even 158 = .ok (.iload 5, 2) := by decide +kernel
theorem dX11_even_160 : decode cX11_even 160 = .ok (.istore_n 3, 1) := by decide +kernel
theorem dX11_even_161 : decode cX11_even 161 = .ok (.iinc 4 1, 3) := by decide +kernel
theorem dX11_even_164 : decode cX11_even 164 = .ok (.goto (-57), 3) := by decide +kernel
theorem dX11_even_167 : decode cX11_even 167 = .ok (.aload_n 0, 1) := by decide +kernel
theorem dX11_even_168 : decode cX11_even 168 = .ok (.iload_n 3, 1) := by decide +kernel
theorem dX11_even_169 : decode cX11_even 169 = .ok (.iload_n 2, 1) := by decide +kernel
theorem dX11_even_170 : decode cX11_even 170 = .ok (.invokevirtual 135, 3) := by decide +kernel
theorem dX11_even_173 : decode cX11_even 173 = .ok (.ireturn, 1) := by decide +kernel
theorem dX11_asked_0 : decode cX11_asked 0 = .ok (.aload_n 0, 1) := by decide +kernel
theorem dX11_asked_1 : decode cX11_asked 1 = .ok (.getfield 102, 3) := by decide +kernel
theorem dX11_asked_4 : decode cX11_asked 4 = .ok (.ireturn, 1) := by decide +kernel
theorem dX11_upper_0 : decode cX11_upper 0 = .ok (.aload_n 0, 1) := by decide +kernel
theorem dX11_upper_1 : decode cX11_upper 1 = .ok (.getfield 105, 3) := by decide +kernel
theorem dX11_upper_4 : decode cX11_upper 4 = .ok (.lreturn, 1) := by decide +kernel
theorem dX11_lower_0 : decode cX11_lower 0 = .ok (.aload_n 0, 1) := by decide +kernel
theorem dX11_lower_1 : decode cX11_lower 1 = .ok (.getfield 109, 3) := by decide +kernel
theorem dX11_lower_4 : decode cX11_lower 4 = .ok (.lreturn, 1) := by decide +kernel
theorem dX11_count_0 : decode cX11_count 0 = .ok (.iload_n 1, 1) := by decide +kernel
theorem dX11_count_1 : decode cX11_count 1 = .ok (.tableswitch 112 0 7 #[47, 55, 66, 74, 83, 91, 96, 104], 47) := by decide +kernel
theorem dX11_count_48 : decode cX11_count 48 = .ok (.aload_n 0, 1) := by decide +kernel
theorem dX11_count_49 : decode cX11_count 49 = .ok (.getfield 24, 3) := by decide +kernel
theorem dX11_count_52 : decode cX11_count 52 = .ok (.getfield 172, 3) := by decide +kernel
theorem dX11_count_55 : decode cX11_count 55 = .ok (.ireturn, 1) := by decide +kernel
theorem dX11_count_56 : decode cX11_count 56 = .ok (.aload_n 0, 1) := by decide +kernel
theorem dX11_count_57 : decode cX11_count 57 = .ok (.getfield 34, 3) := by decide +kernel
theorem dX11_count_60 : decode cX11_count 60 = .ok (.getfield 243, 3) := by decide +kernel
theorem dX11_count_63 : decode cX11_count 63 = .ok (.invokestatic 290, 3) := by decide +kernel
theorem dX11_count_66 : decode cX11_count 66 = .ok (.ireturn, 1) := by decide +kernel
theorem dX11_count_67 : decode cX11_count 67 = .ok (.aload_n 0, 1) := by decide +kernel
theorem dX11_count_68 : decode cX11_count 68 = .ok (.getfield 34, 3) := by decide +kernel
theorem dX11_count_71 : decode cX11_count 71 = .ok (.getfield 184, 3) := by decide +kernel
theorem dX11_count_74 : decode cX11_count 74 = .ok (.ireturn, 1) := by decide +kernel
theorem dX11_count_75 : decode cX11_count 75 = .ok (.aload_n 0, 1) := by decide +kernel
theorem dX11_count_76 : decode cX11_count 76 = .ok (.getfield 24, 3) := by decide +kernel
theorem dX11_count_79 : decode cX11_count 79 = .ok (.iconst 4, 1) := by decide +kernel
theorem dX11_count_80 : decode cX11_count 80 = .ok (.invokevirtual 383, 3) := by decide +kernel
theorem dX11_count_83 : decode cX11_count 83 = .ok (.ireturn, 1) := by decide +kernel
theorem dX11_count_84 : decode cX11_count 84 = .ok (.aload_n 0, 1) := by decide +kernel
theorem dX11_count_85 : decode cX11_count 85 = .ok (.getfield 45, 3) := by decide +kernel
theorem dX11_count_88 : decode cX11_count 88 = .ok (.getfield 166, 3) := by decide +kernel
theorem dX11_count_91 : decode cX11_count 91 = .ok (.ireturn, 1) := by decide +kernel
theorem dX11_count_92 : decode cX11_count 92 = .ok (.aload_n 0, 1) := by decide +kernel
theorem dX11_count_93 : decode cX11_count 93 = .ok (.invokevirtual 386, 3) := by decide +kernel
theorem dX11_count_96 : decode cX11_count 96 = .ok (.ireturn, 1) := by decide +kernel
theorem dX11_count_97 : decode cX11_count 97 = .ok (.aload_n 0, 1) := by decide +kernel
theorem dX11_count_98 : decode cX11_count 98 = .ok (.getfield 14, 3) := by decide +kernel
theorem dX11_count_101 : decode cX11_count 101 = .ok (.invokevirtual 389, 3) := by decide +kernel
theorem dX11_count_104 : decode cX11_count 104 = .ok (.ireturn, 1) := by decide +kernel
theorem dX11_count_105 : decode cX11_count 105 = .ok (.aload_n 0, 1) := by decide +kernel
theorem dX11_count_106 : decode cX11_count 106 = .ok (.getfield 18, 3) := by decide +kernel
theorem dX11_count_109 : decode cX11_count 109 = .ok (.invokevirtual 389, 3) := by decide +kernel
theorem dX11_count_112 : decode cX11_count 112 = .ok (.ireturn, 1) := by decide +kernel
theorem dX11_count_113 : decode cX11_count 113 = .ok (.iconst (-1), 1) := by decide +kernel
theorem dX11_count_114 : decode cX11_count 114 = .ok (.ireturn, 1) := by decide +kernel
theorem dX11_finding_0 : decode cX11_finding 0 = .ok (.aload_n 0, 1) := by decide +kernel
theorem dX11_finding_1 : decode cX11_finding 1 = .ok (.getfield 98, 3) := by decide +kernel
theorem dX11_finding_4 : decode cX11_finding 4 = .ok (.ireturn, 1) := by decide +kernel
theorem dX11_findings_0 : decode cX11_findings 0 = .ok (.iload_n 1, 1) := by decide +kernel
theorem dX11_findings_1 : decode cX11_findings 1 = .ok (.iconst 1, 1) := by decide +kernel
theorem dX11_findings_2 : decode cX11_findings 2 = .ok (.if_icmp .lt 12, 3) := by decide +kernel
theorem dX11_findings_5 : decode cX11_findings 5 = .ok (.iload_n 1, 1) := by decide +kernel
theorem dX11_findings_6 : decode cX11_findings 6 = .ok (.aload_n 0, 1) := by decide +kernel
theorem dX11_findings_7 : decode cX11_findings 7 = .ok (.getfield 94, 3) := by decide +kernel
theorem dX11_findings_10 : decode cX11_findings 10 = .ok (.arraylength, 1) := by decide +kernel
theorem dX11_findings_11 : decode cX11_findings 11 = .ok (.if_icmp .lt 5, 3) := by decide +kernel
theorem dX11_findings_14 : decode cX11_findings 14 = .ok (.iconst (-1), 1) := by decide +kernel
theorem dX11_findings_15 : decode cX11_findings 15 = .ok (.ireturn, 1) := by decide +kernel
theorem dX11_findings_16 : decode cX11_findings 16 = .ok (.aload_n 0, 1) := by decide +kernel
theorem dX11_findings_17 : decode cX11_findings 17 = .ok (.getfield 94, 3) := by decide +kernel
theorem dX11_findings_20 : decode cX11_findings 20 = .ok (.iload_n 1, 1) := by decide +kernel
theorem dX11_findings_21 : decode cX11_findings 21 = .ok (.iaload, 1) := by decide +kernel
theorem dX11_findings_22 : decode cX11_findings 22 = .ok (.ireturn, 1) := by decide +kernel
theorem dX11_digest_0 : decode cX11_digest 0 = .ok (.ldc2_w 392, 3) := by decide +kernel
theorem dX11_digest_3 : decode cX11_digest 3 = .ok (.lstore_n 1, 1) := by decide +kernel
theorem dX11_digest_4 : decode cX11_digest 4 = .ok (.iconst 0, 1) := by decide +kernel
theorem dX11_digest_5 : decode cX11_digest 5 = .ok (.istore_n 3, 1) := by decide +kernel
theorem dX11_digest_6 : decode cX11_digest 6 = .ok (.iload_n 3, 1) := by decide +kernel
theorem dX11_digest_7 : decode cX11_digest 7 = .ok (.bipush 8, 2) := by decide +kernel
theorem dX11_digest_9 : decode cX11_digest 9 = .ok (.if_icmp .ge 22, 3) := by decide +kernel
theorem dX11_digest_12 : decode cX11_digest 12 = .ok (.ldc2_w 394, 3) := by decide +kernel
theorem dX11_digest_15 : decode cX11_digest 15 = .ok (.lload_n 1, 1) := by decide +kernel
theorem dX11_digest_16 : decode cX11_digest 16 = .ok (.lmul, 1) := by decide +kernel
theorem dX11_digest_17 : decode cX11_digest 17 = .ok (.aload_n 0, 1) := by decide +kernel
theorem dX11_digest_18 : decode cX11_digest 18 = .ok (.iload_n 3, 1) := by decide +kernel
theorem dX11_digest_19 : decode cX11_digest 19 = .ok (.invokevirtual 396, 3) := by decide +kernel
theorem dX11_digest_22 : decode cX11_digest 22 = .ok (.i2l, 1) := by decide +kernel
theorem dX11_digest_23 : decode cX11_digest 23 = .ok (.ladd, 1) := by decide +kernel
theorem dX11_digest_24 : decode cX11_digest 24 = .ok (.lstore_n 1, 1) := by decide +kernel
theorem dX11_digest_25 : decode cX11_digest 25 = .ok (.iinc 3 1, 3) := by decide +kernel
theorem dX11_digest_28 : decode cX11_digest 28 = .ok (.goto (-22), 3) := by decide +kernel
theorem dX11_digest_31 : decode cX11_digest 31 = .ok (.aload_n 0, 1) := by decide +kernel
theorem dX11_digest_32 : decode cX11_digest 32 = .ok (.getfield 34, 3) := by decide +kernel
theorem dX11_digest_35 : decode cX11_digest 35 = .ok (.lload_n 1, 1) := by decide +kernel
theorem dX11_digest_36 : decode cX11_digest 36 = .ok (.invokevirtual 399, 3) := by decide +kernel
theorem dX11_digest_39 : decode cX11_digest 39 = .ok (.lstore_n 1, 1) := by decide +kernel
theorem dX11_digest_40 : decode cX11_digest 40 = .ok (.iconst 0, 1) := by decide +kernel
theorem dX11_digest_41 : decode cX11_digest 41 = .ok (.istore_n 3, 1) := by decide +kernel
theorem dX11_digest_42 : decode cX11_digest 42 = .ok (.iload_n 3, 1) := by decide +kernel
theorem dX11_digest_43 : decode cX11_digest 43 = .ok (.aload_n 0, 1) := by decide +kernel
theorem dX11_digest_44 : decode cX11_digest 44 = .ok (.getfield 24, 3) := by decide +kernel
theorem dX11_digest_47 : decode cX11_digest 47 = .ok (.getfield 172, 3) := by decide +kernel
theorem dX11_digest_50 : decode cX11_digest 50 = .ok (.if_icmp .ge 16, 3) := by decide +kernel
theorem dX11_digest_53 : decode cX11_digest 53 = .ok (.aload_n 0, 1) := by decide +kernel
theorem dX11_digest_54 : decode cX11_digest 54 = .ok (.lload_n 1, 1) := by decide +kernel
theorem dX11_digest_55 : decode cX11_digest 55 = .ok (.iload_n 3, 1) := by decide +kernel
theorem dX11_digest_56 : decode cX11_digest 56 = .ok (.invokevirtual 402, 3) := by decide +kernel
theorem dX11_digest_59 : decode cX11_digest 59 = .ok (.lstore_n 1, 1) := by decide +kernel
theorem dX11_digest_60 : decode cX11_digest 60 = .ok (.iinc 3 1, 3) := by decide +kernel
theorem dX11_digest_63 : decode cX11_digest 63 = .ok (.goto (-21), 3) := by decide +kernel
theorem dX11_digest_66 : decode cX11_digest 66 = .ok (.iconst 0, 1) := by decide +kernel
theorem dX11_digest_67 : decode cX11_digest 67 = .ok (.istore_n 3, 1) := by decide +kernel
theorem dX11_digest_68 : decode cX11_digest 68 = .ok (.iload_n 3, 1) := by decide +kernel
theorem dX11_digest_69 : decode cX11_digest 69 = .ok (.aload_n 0, 1) := by decide +kernel
theorem dX11_digest_70 : decode cX11_digest 70 = .ok (.getfield 45, 3) := by decide +kernel
theorem dX11_digest_73 : decode cX11_digest 73 = .ok (.getfield 166, 3) := by decide +kernel
theorem dX11_digest_76 : decode cX11_digest 76 = .ok (.if_icmp .ge 25, 3) := by decide +kernel
theorem dX11_digest_79 : decode cX11_digest 79 = .ok (.ldc2_w 394, 3) := by decide +kernel
theorem dX11_digest_82 : decode cX11_digest 82 = .ok (.lload_n 1, 1) := by decide +kernel
theorem dX11_digest_83 : decode cX11_digest 83 = .ok (.lmul, 1) := by decide +kernel
theorem dX11_digest_84 : decode cX11_digest 84 = .ok (.aload_n 0, 1) := by decide +kernel
theorem dX11_digest_85 : decode cX11_digest 85 = .ok (.getfield 45, 3) := by decide +kernel
theorem dX11_digest_88 : decode cX11_digest 88 = .ok (.iload_n 3, 1) := by decide +kernel
theorem dX11_digest_89 : decode cX11_digest 89 = .ok (.invokevirtual 406, 3) := by decide +kernel
theorem dX11_digest_92 : decode cX11_digest 92 = .ok (.i2l, 1) := by decide +kernel
theorem dX11_digest_93 : decode cX11_digest 93 = .ok (.ladd, 1) := by decide +kernel
theorem dX11_digest_94 : decode cX11_digest 94 = .ok (.lstore_n 1, 1) := by decide +kernel
theorem dX11_digest_95 : decode cX11_digest 95 = .ok (.iinc 3 1, 3) := by decide +kernel
theorem dX11_digest_98 : decode cX11_digest 98 = .ok (.goto (-30), 3) := by decide +kernel
theorem dX11_digest_101 : decode cX11_digest 101 = .ok (.iconst 0, 1) := by decide +kernel
theorem dX11_digest_102 : decode cX11_digest 102 = .ok (.istore_n 3, 1) := by decide +kernel
theorem dX11_digest_103 : decode cX11_digest 103 = .ok (.iload_n 3, 1) := by decide +kernel
theorem dX11_digest_104 : decode cX11_digest 104 = .ok (.iconst 3, 1) := by decide +kernel
theorem dX11_digest_105 : decode cX11_digest 105 = .ok (.if_icmp .ge 22, 3) := by decide +kernel
theorem dX11_digest_108 : decode cX11_digest 108 = .ok (.ldc2_w 394, 3) := by decide +kernel
theorem dX11_digest_111 : decode cX11_digest 111 = .ok (.lload_n 1, 1) := by decide +kernel
theorem dX11_digest_112 : decode cX11_digest 112 = .ok (.lmul, 1) := by decide +kernel
theorem dX11_digest_113 : decode cX11_digest 113 = .ok (.aload_n 0, 1) := by decide +kernel
theorem dX11_digest_114 : decode cX11_digest 114 = .ok (.iload_n 3, 1) := by decide +kernel
theorem dX11_digest_115 : decode cX11_digest 115 = .ok (.invokevirtual 409, 3) := by decide +kernel
theorem dX11_digest_118 : decode cX11_digest 118 = .ok (.i2l, 1) := by decide +kernel
theorem dX11_digest_119 : decode cX11_digest 119 = .ok (.ladd, 1) := by decide +kernel
theorem dX11_digest_120 : decode cX11_digest 120 = .ok (.lstore_n 1, 1) := by decide +kernel
theorem dX11_digest_121 : decode cX11_digest 121 = .ok (.iinc 3 1, 3) := by decide +kernel
theorem dX11_digest_124 : decode cX11_digest 124 = .ok (.goto (-21), 3) := by decide +kernel
theorem dX11_digest_127 : decode cX11_digest 127 = .ok (.aload_n 0, 1) := by decide +kernel
theorem dX11_digest_128 : decode cX11_digest 128 = .ok (.getfield 18, 3) := by decide +kernel
theorem dX11_digest_131 : decode cX11_digest 131 = .ok (.aload_n 0, 1) := by decide +kernel
theorem dX11_digest_132 : decode cX11_digest 132 = .ok (.getfield 14, 3) := by decide +kernel
theorem dX11_digest_135 : decode cX11_digest 135 = .ok (.lload_n 1, 1) := by decide +kernel
theorem dX11_digest_136 : decode cX11_digest 136 = .ok (.invokevirtual 412, 3) := by decide +kernel
theorem dX11_digest_139 : decode cX11_digest 139 = .ok (.invokevirtual 412, 3) := by decide +kernel
theorem dX11_digest_142 : decode cX11_digest 142 = .ok (.lreturn, 1) := by decide +kernel
theorem dX11_refuse_0 : decode cX11_refuse 0 = .ok (.iload_n 1, 1) := by decide +kernel
theorem dX11_refuse_1 : decode cX11_refuse 1 = .ok (.iconst 1, 1) := by decide +kernel
theorem dX11_refuse_2 : decode cX11_refuse 2 = .ok (.if_icmp .lt 27, 3) := by decide +kernel
theorem dX11_refuse_5 : decode cX11_refuse 5 = .ok (.iload_n 1, 1) := by decide +kernel
theorem dX11_refuse_6 : decode cX11_refuse 6 = .ok (.aload_n 0, 1) := by decide +kernel
theorem dX11_refuse_7 : decode cX11_refuse 7 = .ok (.getfield 94, 3) := by decide +kernel
theorem dX11_refuse_10 : decode cX11_refuse 10 = .ok (.arraylength, 1) := by decide +kernel
theorem dX11_refuse_11 : decode cX11_refuse 11 = .ok (.if_icmp .ge 18, 3) := by decide +kernel
theorem dX11_refuse_14 : decode cX11_refuse 14 = .ok (.aload_n 0, 1) := by decide +kernel
theorem dX11_refuse_15 : decode cX11_refuse 15 = .ok (.getfield 94, 3) := by decide +kernel
theorem dX11_refuse_18 : decode cX11_refuse 18 = .ok (.iload_n 1, 1) := by decide +kernel
theorem dX11_refuse_19 : decode cX11_refuse 19 = .ok (.dup2, 1) := by decide +kernel
theorem dX11_refuse_20 : decode cX11_refuse 20 = .ok (.iaload, 1) := by decide +kernel
theorem dX11_refuse_21 : decode cX11_refuse 21 = .ok (.iconst 1, 1) := by decide +kernel
theorem dX11_refuse_22 : decode cX11_refuse 22 = .ok (.iadd, 1) := by decide +kernel
theorem dX11_refuse_23 : decode cX11_refuse 23 = .ok (.iastore, 1) := by decide +kernel
theorem dX11_refuse_24 : decode cX11_refuse 24 = .ok (.aload_n 0, 1) := by decide +kernel
theorem dX11_refuse_25 : decode cX11_refuse 25 = .ok (.iload_n 1, 1) := by decide +kernel
theorem dX11_refuse_26 : decode cX11_refuse 26 = .ok (.putfield 98, 3) := by decide +kernel
theorem dX11_refuse_29 : decode cX11_refuse 29 = .ok (.bipush (-3), 2) := by decide +kernel
theorem dX11_refuse_31 : decode cX11_refuse 31 = .ok (.ireturn, 1) := by decide +kernel
theorem dX11_refuseMissing_0 : decode cX11_refuseMissing 0 = .ok (.aload_n 1, 1) := by decide +kernel
theorem dX11_refuseMissing_1 : decode cX11_refuseMissing 1 = .ok (.iload_n 2, 1) := by decide +kernel
theorem dX11_refuseMissing_2 : decode cX11_refuseMissing 2 = .ok (.invokevirtual 112, 3) := by decide +kernel
theorem dX11_refuseMissing_5 : decode cX11_refuseMissing 5 = .ok (.ifCond .ne 5, 3) := by decide +kernel
theorem dX11_refuseMissing_8 : decode cX11_refuseMissing 8 = .ok (.iconst (-1), 1) := by decide +kernel
theorem dX11_refuseMissing_9 : decode cX11_refuseMissing 9 = .ok (.ireturn, 1) := by decide +kernel
theorem dX11_refuseMissing_10 : decode cX11_refuseMissing 10 = .ok (.aload_n 1, 1) := by decide +kernel
theorem dX11_refuseMissing_11 : decode cX11_refuseMissing 11 = .ok (.iload_n 2, 1) := by decide +kernel
theorem dX11_refuseMissing_12 : decode cX11_refuseMissing 12 = .ok (.invokevirtual 146, 3) := by decide +kernel
theorem dX11_refuseMissing_15 : decode cX11_refuseMissing 15 = .ok (.ifCond .eq 7, 3) := by decide +kernel
theorem dX11_refuseMissing_18 : decode cX11_refuseMissing 18 = .ok (.iconst 0, 1) := by decide +kernel
theorem dX11_refuseMissing_19 : decode cX11_refuseMissing 19 = .ok (.goto 8, 3) := by decide +kernel
theorem dX11_refuseMissing_22 : decode cX11_refuseMissing 22 = .ok (.aload_n 0, 1) := by decide +kernel
theorem dX11_refuseMissing_23 : decode cX11_refuseMissing 23 = .ok (.iconst 1, 1) := by decide +kernel
theorem dX11_refuseMissing_24 : decode cX11_refuseMissing 24 = .ok (.invokevirtual 116, 3) := by decide +kernel
theorem dX11_refuseMissing_27 : decode cX11_refuseMissing 27 = .ok (.ireturn, 1) := by decide +kernel
theorem dX11_refusePlace_0 : decode cX11_refusePlace 0 = .ok (.aload_n 0, 1) := by decide +kernel
theorem dX11_refusePlace_1 : decode cX11_refusePlace 1 = .ok (.aload_n 1, 1) := by decide +kernel
theorem dX11_refusePlace_2 : decode cX11_refusePlace 2 = .ok (.iload_n 2, 1) := by decide +kernel
theorem dX11_refusePlace_3 : decode cX11_refusePlace 3 = .ok (.invokevirtual 138, 3) := by decide +kernel
theorem dX11_refusePlace_6 : decode cX11_refusePlace 6 = .ok (.istore 4, 2) := by decide +kernel
theorem dX11_refusePlace_8 : decode cX11_refusePlace 8 = .ok (.iload 4, 2) := by decide +kernel
theorem dX11_refusePlace_10 : decode cX11_refusePlace 10 = .ok (.ifCond .eq 6, 3) := by decide +kernel
theorem dX11_refusePlace_13 : decode cX11_refusePlace 13 = .ok (.iload 4, 2) := by decide +kernel
theorem dX11_refusePlace_15 : decode cX11_refusePlace 15 = .ok (.ireturn, 1) := by decide +kernel
theorem dX11_refusePlace_16 : decode cX11_refusePlace 16 = .ok (.aload_n 1, 1) := by decide +kernel
theorem dX11_refusePlace_17 : decode cX11_refusePlace 17 = .ok (.iload_n 2, 1) := by decide +kernel
theorem dX11_refusePlace_18 : decode cX11_refusePlace 18 = .ok (.iload_n 3, 1) := by decide +kernel
theorem dX11_refusePlace_19 : decode cX11_refusePlace 19 = .ok (.invokevirtual 413, 3) := by decide +kernel
theorem dX11_refusePlace_22 : decode cX11_refusePlace 22 = .ok (.ifCond .eq 7, 3) := by decide +kernel
theorem dX11_refusePlace_25 : decode cX11_refusePlace 25 = .ok (.iconst 0, 1) := by decide +kernel
theorem dX11_refusePlace_26 : decode cX11_refusePlace 26 = .ok (.goto 8, 3) := by decide +kernel
theorem dX11_refusePlace_29 : decode cX11_refusePlace 29 = .ok (.aload_n 0, 1) := by decide +kernel
theorem dX11_refusePlace_30 : decode cX11_refusePlace 30 = .ok (.iconst 2, 1) := by decide +kernel
theorem dX11_refusePlace_31 : decode cX11_refusePlace 31 = .ok (.invokevirtual 116, 3) := by decide +kernel
theorem dX11_refusePlace_34 : decode cX11_refusePlace 34 = .ok (.ireturn, 1) := by decide +kernel
theorem dX11_tell_0 : decode cX11_tell 0 = .ok (.aload_n 0, 1) := by decide +kernel
theorem dX11_tell_1 : decode cX11_tell 1 = .ok (.iload_n 1, 1) := by decide +kernel
theorem dX11_tell_2 : decode cX11_tell 2 = .ok (.putfield 102, 3) := by decide +kernel
theorem dX11_tell_5 : decode cX11_tell 5 = .ok (.iload_n 2, 1) := by decide +kernel
theorem dX11_tell_6 : decode cX11_tell 6 = .ok (.ireturn, 1) := by decide +kernel
theorem dX11_tellFraction_0 : decode cX11_tellFraction 0 = .ok (.lload_n 1, 1) := by decide +kernel
theorem dX11_tellFraction_1 : decode cX11_tellFraction 1 = .ok (.lload_n 3, 1) := by decide +kernel
theorem dX11_tellFraction_2 : decode cX11_tellFraction 2 = .ok (.invokestatic 416, 3) := by decide +kernel
theorem dX11_tellFraction_5 : decode cX11_tellFraction 5 = .ok (.lstore 6, 2) := by decide +kernel
theorem dX11_tellFraction_7 : decode cX11_tellFraction 7 = .ok (.aload_n 0, 1) := by decide +kernel
theorem dX11_tellFraction_8 : decode cX11_tellFraction 8 = .ok (.lload 6, 2) := by decide +kernel
theorem dX11_tellFraction_10 : decode cX11_tellFraction 10 = .ok (.lconst 0, 1) := by decide +kernel
theorem dX11_tellFraction_11 : decode cX11_tellFraction 11 = .ok (.lcmp, 1) := by decide +kernel
theorem dX11_tellFraction_12 : decode cX11_tellFraction 12 = .ok (.ifCond .ne 7, 3) := by decide +kernel
theorem dX11_tellFraction_15 : decode cX11_tellFraction 15 = .ok (.lconst 0, 1) := by decide +kernel
theorem dX11_tellFraction_16 : decode cX11_tellFraction 16 = .ok (.goto 7, 3) := by decide +kernel
theorem dX11_tellFraction_19 : decode cX11_tellFraction 19 = .ok (.lload_n 1, 1) := by decide +kernel
theorem dX11_tellFraction_20 : decode cX11_tellFraction 20 = .ok (.lload 6, 2) := by decide +kernel
theorem dX11_tellFraction_22 : decode cX11_tellFraction 22 = .ok (.ldiv, 1) := by decide +kernel
theorem dX11_tellFraction_23 : decode cX11_tellFraction 23 = .ok (.putfield 105, 3) := by decide +kernel
theorem dX11_tellFraction_26 : decode cX11_tellFraction 26 = .ok (.aload_n 0, 1) := by decide +kernel
theorem dX11_tellFraction_27 : decode cX11_tellFraction 27 = .ok (.lload 6, 2) := by decide +kernel
theorem dX11_tellFraction_29 : decode cX11_tellFraction 29 = .ok (.lconst 0, 1) := by decide +kernel
theorem dX11_tellFraction_30 : decode cX11_tellFraction 30 = .ok (.lcmp, 1) := by decide +kernel
theorem dX11_tellFraction_31 : decode cX11_tellFraction 31 = .ok (.ifCond .ne 7, 3) := by decide +kernel
theorem dX11_tellFraction_34 : decode cX11_tellFraction 34 = .ok (.lconst 1, 1) := by decide +kernel
theorem dX11_tellFraction_35 : decode cX11_tellFraction 35 = .ok (.goto 7, 3) := by decide +kernel
theorem dX11_tellFraction_38 : decode cX11_tellFraction 38 = .ok (.lload_n 3, 1) := by decide +kernel
theorem dX11_tellFraction_39 : decode cX11_tellFraction 39 = .ok (.lload 6, 2) := by decide +kernel
theorem dX11_tellFraction_41 : decode cX11_tellFraction 41 = .ok (.ldiv, 1) := by decide +kernel
theorem dX11_tellFraction_42 : decode cX11_tellFraction 42 = .ok (.putfield 109, 3) := by decide +kernel
theorem dX11_tellFraction_45 : decode cX11_tellFraction 45 = .ok (.iload 5, 2) := by decide +kernel
theorem dX11_tellFraction_47 : decode cX11_tellFraction 47 = .ok (.ireturn, 1) := by decide +kernel
theorem dX11_commonDivisor_0 : decode cX11_commonDivisor 0 = .ok (.lload_n 0, 1) := by decide +kernel
theorem dX11_commonDivisor_1 : decode cX11_commonDivisor 1 = .ok (.lstore 4, 2) := by decide +kernel
theorem dX11_commonDivisor_3 : decode cX11_commonDivisor 3 = .ok (.lload_n 2, 1) := by decide +kernel
theorem dX11_commonDivisor_4 : decode cX11_commonDivisor 4 = .ok (.lstore 6, 2) := by decide +kernel
theorem dX11_commonDivisor_6 : decode cX11_commonDivisor 6 = .ok (.iconst 0, 1) := by decide +kernel
theorem dX11_commonDivisor_7 : decode cX11_commonDivisor 7 = .ok (.istore 8, 2) := by decide +kernel
theorem dX11_commonDivisor_9 : decode cX11_commonDivisor 9 = .ok (.iload 8, 2) := by decide +kernel
theorem dX11_commonDivisor_11 : decode cX11_commonDivisor 11 = .ok (.bipush 100, 2) := by decide +kernel
theorem dX11_commonDivisor_13 : decode cX11_commonDivisor 13 = .ok (.if_icmp .ge 31, 3) := by decide +kernel
theorem dX11_commonDivisor_16 : decode cX11_commonDivisor 16 = .ok (.lload 6, 2) := by decide +kernel
theorem dX11_commonDivisor_18 : decode cX11_commonDivisor 18 = .ok (.lconst 0, 1) := by decide +kernel
theorem dX11_commonDivisor_19 : decode cX11_commonDivisor 19 = .ok (.lcmp, 1) := by decide +kernel
theorem dX11_commonDivisor_20 : decode cX11_commonDivisor 20 = .ok (.ifCond .eq 24, 3) := by decide +kernel
theorem dX11_commonDivisor_23 : decode cX11_commonDivisor 23 = .ok (.lload 4, 2) := by decide +kernel
theorem dX11_commonDivisor_25 : decode cX11_commonDivisor 25 = .ok (.lload 6, 2) := by decide +kernel
theorem dX11_commonDivisor_27 : decode cX11_commonDivisor 27 = .ok (.lrem, 1) := by decide +kernel
theorem dX11_commonDivisor_28 : decode cX11_commonDivisor 28 = .ok (.lstore 9, 2) := by decide +kernel
theorem dX11_commonDivisor_30 : decode cX11_commonDivisor 30 = .ok (.lload 6, 2) := by decide +kernel
theorem dX11_commonDivisor_32 : decode cX11_commonDivisor 32 = .ok (.lstore 4, 2) := by decide +kernel
theorem dX11_commonDivisor_34 : decode cX11_commonDivisor 34 = .ok (.lload 9, 2) := by decide +kernel
theorem dX11_commonDivisor_36 : decode cX11_commonDivisor 36 = .ok (.lstore 6, 2) := by decide +kernel
theorem dX11_commonDivisor_38 : decode cX11_commonDivisor 38 = .ok (.iinc 8 1, 3) := by decide +kernel
theorem dX11_commonDivisor_41 : decode cX11_commonDivisor 41 = .ok (.goto (-32), 3) := by decide +kernel
theorem dX11_commonDivisor_44 : decode cX11_commonDivisor 44 = .ok (.lload 4, 2) := by decide +kernel
theorem dX11_commonDivisor_46 : decode cX11_commonDivisor 46 = .ok (.lreturn, 1) := by decide +kernel
theorem dX11_keptAt_0 : decode cX11_keptAt 0 = .ok (.iload_n 1, 1) := by decide +kernel
theorem dX11_keptAt_1 : decode cX11_keptAt 1 = .ok (.ifCond .lt 21, 3) := by decide +kernel
theorem dX11_keptAt_4 : decode cX11_keptAt 4 = .ok (.iload_n 1, 1) := by decide +kernel
theorem dX11_keptAt_5 : decode cX11_keptAt 5 = .ok (.aload_n 0, 1) := by decide +kernel
theorem dX11_keptAt_6 : decode cX11_keptAt 6 = .ok (.getfield 38, 3) := by decide +kernel
theorem dX11_keptAt_9 : decode cX11_keptAt 9 = .ok (.arraylength, 1) := by decide +kernel
theorem dX11_keptAt_10 : decode cX11_keptAt 10 = .ok (.if_icmp .ge 12, 3) := by decide +kernel
theorem dX11_keptAt_13 : decode cX11_keptAt 13 = .ok (.aload_n 0, 1) := by decide +kernel
theorem dX11_keptAt_14 : decode cX11_keptAt 14 = .ok (.getfield 38, 3) := by decide +kernel
theorem dX11_keptAt_17 : decode cX11_keptAt 17 = .ok (.iload_n 1, 1) := by decide +kernel
theorem dX11_keptAt_18 : decode cX11_keptAt 18 = .ok (.aaload, 1) := by decide +kernel
theorem dX11_keptAt_19 : decode cX11_keptAt 19 = .ok (.goto 4, 3) := by decide +kernel
theorem dX11_keptAt_22 : decode cX11_keptAt 22 = .ok (.aconst_null, 1) := by decide +kernel
theorem dX11_keptAt_23 : decode cX11_keptAt 23 = .ok (.areturn, 1) := by decide +kernel
theorem dX11_forgetKept_0 : decode cX11_forgetKept 0 = .ok (.aload_n 0, 1) := by decide +kernel
theorem dX11_forgetKept_1 : decode cX11_forgetKept 1 = .ok (.iload_n 1, 1) := by decide +kernel
theorem dX11_forgetKept_2 : decode cX11_forgetKept 2 = .ok (.invokevirtual 253, 3) := by decide +kernel
theorem dX11_forgetKept_5 : decode cX11_forgetKept 5 = .ok (.astore_n 2, 1) := by decide +kernel
theorem dX11_forgetKept_6 : decode cX11_forgetKept 6 = .ok (.aload_n 2, 1) := by decide +kernel
theorem dX11_forgetKept_7 : decode cX11_forgetKept 7 = .ok (.ifnull 8, 3) := by decide +kernel
theorem dX11_forgetKept_10 : decode cX11_forgetKept 10 = .ok (.aload_n 2, 1) := by decide +kernel
theorem dX11_forgetKept_11 : decode cX11_forgetKept 11 = .ok (.iconst 0, 1) := by decide +kernel
theorem dX11_forgetKept_12 : decode cX11_forgetKept 12 = .ok (.putfield 260, 3) := by decide +kernel
theorem dX11_forgetKept_15 : decode cX11_forgetKept 15 = .ok (.return_, 1) := by decide +kernel
theorem dX11_hourKept_0 : decode cX11_hourKept 0 = .ok (.aload_n 0, 1) := by decide +kernel
theorem dX11_hourKept_1 : decode cX11_hourKept 1 = .ok (.iload_n 1, 1) := by decide +kernel
theorem dX11_hourKept_2 : decode cX11_hourKept 2 = .ok (.invokevirtual 253, 3) := by decide +kernel
theorem dX11_hourKept_5 : decode cX11_hourKept 5 = .ok (.astore_n 2, 1) := by decide +kernel
theorem dX11_hourKept_6 : decode cX11_hourKept 6 = .ok (.aload_n 2, 1) := by decide +kernel
theorem dX11_hourKept_7 : decode cX11_hourKept 7 = .ok (.ifnull 17, 3) := by decide +kernel
theorem dX11_hourKept_10 : decode cX11_hourKept 10 = .ok (.aload_n 2, 1) := by decide +kernel
theorem dX11_hourKept_11 : decode cX11_hourKept 11 = .ok (.getfield 260, 3) := by decide +kernel
theorem dX11_hourKept_14 : decode cX11_hourKept 14 = .ok (.ifCond .eq 10, 3) := by decide +kernel
theorem dX11_hourKept_17 : decode cX11_hourKept 17 = .ok (.aload_n 2, 1) := by decide +kernel
theorem dX11_hourKept_18 : decode cX11_hourKept 18 = .ok (.getfield 184, 3) := by decide +kernel
theorem dX11_hourKept_21 : decode cX11_hourKept 21 = .ok (.goto 4, 3) := by decide +kernel
theorem dX11_hourKept_24 : decode cX11_hourKept 24 = .ok (.iconst (-1), 1) := by decide +kernel
theorem dX11_hourKept_25 : decode cX11_hourKept 25 = .ok (.ireturn, 1) := by decide +kernel
theorem dX11_numberOfKept_0 : decode cX11_numberOfKept 0 = .ok (.iconst 0, 1) := by decide +kernel
theorem dX11_numberOfKept_1 : decode cX11_numberOfKept 1 = .ok (.istore_n 1, 1) := by decide +kernel
theorem dX11_numberOfKept_2 : decode cX11_numberOfKept 2 = .ok (.iconst 0, 1) := by decide +kernel
theorem dX11_numberOfKept_3 : decode cX11_numberOfKept 3 = .ok (.istore_n 2, 1) := by decide +kernel
theorem dX11_numberOfKept_4 : decode cX11_numberOfKept 4 = .ok (.iload_n 2, 1) := by decide +kernel
theorem dX11_numberOfKept_5 : decode cX11_numberOfKept 5 = .ok (.iconst 3, 1) := by decide +kernel
theorem dX11_numberOfKept_6 : decode cX11_numberOfKept 6 = .ok (.if_icmp .ge 21, 3) := by decide +kernel
theorem dX11_numberOfKept_9 : decode cX11_numberOfKept 9 = .ok (.aload_n 0, 1) := by decide +kernel
theorem dX11_numberOfKept_10 : decode cX11_numberOfKept 10 = .ok (.iload_n 2, 1) := by decide +kernel
theorem dX11_numberOfKept_11 : decode cX11_numberOfKept 11 = .ok (.invokevirtual 409, 3) := by decide +kernel
theorem dX11_numberOfKept_14 : decode cX11_numberOfKept 14 = .ok (.iconst (-1), 1) := by decide +kernel
theorem dX11_numberOfKept_15 : decode cX11_numberOfKept 15 = .ok (.if_icmp .eq 6, 3) := by decide +kernel
theorem dX11_numberOfKept_18 : decode cX11_numberOfKept 18 = .ok (.iinc 1 1, 3) := by decide +kernel
theorem dX11_numberOfKept_21 : decode cX11_numberOfKept 21 = .ok (.iinc 2 1, 3) := by decide +kernel
theorem dX11_numberOfKept_24 : decode cX11_numberOfKept 24 = .ok (.goto (-20), 3) := by decide +kernel
theorem dX11_numberOfKept_27 : decode cX11_numberOfKept 27 = .ok (.iload_n 1, 1) := by decide +kernel
theorem dX11_numberOfKept_28 : decode cX11_numberOfKept 28 = .ok (.ireturn, 1) := by decide +kernel
theorem dX11_isAhead_0 : decode cX11_isAhead 0 = .ok (.iload_n 0, 1) := by decide +kernel
theorem dX11_isAhead_1 : decode cX11_isAhead 1 = .ok (.ifCond .lt 13, 3) := by decide +kernel
theorem dX11_isAhead_4 : decode cX11_isAhead 4 = .ok (.iload_n 0, 1) := by decide +kernel
theorem dX11_isAhead_5 : decode cX11_isAhead 5 = .ok (.bipush 12, 2) := by decide +kernel
theorem dX11_isAhead_7 : decode cX11_isAhead 7 = .ok (.if_icmp .gt 7, 3) := by decide +kernel
theorem dX11_isAhead_10 : decode cX11_isAhead 10 = .ok (.iconst 1, 1) := by decide +kernel
theorem dX11_isAhead_11 : decode cX11_isAhead 11 = .ok (.goto 4, 3) := by decide +kernel
theorem dX11_isAhead_14 : decode cX11_isAhead 14 = .ok (.iconst 0, 1) := by decide +kernel
theorem dX11_isAhead_15 : decode cX11_isAhead 15 = .ok (.ireturn, 1) := by decide +kernel
theorem dX11_isCard_0 : decode cX11_isCard 0 = .ok (.iload_n 0, 1) := by decide +kernel
theorem dX11_isCard_1 : decode cX11_isCard 1 = .ok (.iconst 1, 1) := by decide +kernel
theorem dX11_isCard_2 : decode cX11_isCard 2 = .ok (.if_icmp .lt 24, 3) := by decide +kernel
theorem dX11_isCard_5 : decode cX11_isCard 5 = .ok (.iload_n 0, 1) := by decide +kernel
theorem dX11_isCard_6 : decode cX11_isCard 6 = .ok (.bipush 40, 2) := by decide +kernel
theorem dX11_isCard_8 : decode cX11_isCard 8 = .ok (.if_icmp .gt 18, 3) := by decide +kernel
theorem dX11_isCard_11 : decode cX11_isCard 11 = .ok (.iload_n 1, 1) := by decide +kernel
theorem dX11_isCard_12 : decode cX11_isCard 12 = .ok (.iconst 1, 1) := by decide +kernel
theorem dX11_isCard_13 : decode cX11_isCard 13 = .ok (.if_icmp .lt 13, 3) := by decide +kernel
theorem dX11_isCard_16 : decode cX11_isCard 16 = .ok (.iload_n 1, 1) := by decide +kernel
theorem dX11_isCard_17 : decode cX11_isCard 17 = .ok (.bipush 20, 2) := by decide +kernel
theorem dX11_isCard_19 : decode cX11_isCard 19 = .ok (.if_icmp .gt 7, 3) := by decide +kernel
theorem dX11_isCard_22 : decode cX11_isCard 22 = .ok (.iconst 1, 1) := by decide +kernel
theorem dX11_isCard_23 : decode cX11_isCard 23 = .ok (.goto 4, 3) := by decide +kernel
theorem dX11_isCard_26 : decode cX11_isCard 26 = .ok (.iconst 0, 1) := by decide +kernel
theorem dX11_isCard_27 : decode cX11_isCard 27 = .ok (.ireturn, 1) := by decide +kernel
theorem dX11_isSetOfDesks_0 : decode cX11_isSetOfDesks 0 = .ok (.iload_n 1, 1) := by decide +kernel
theorem dX11_isSetOfDesks_1 : decode cX11_isSetOfDesks 1 = .ok (.aload_n 0, 1) := by decide +kernel
theorem dX11_isSetOfDesks_2 : decode cX11_isSetOfDesks 2 = .ok (.getfield 24, 3) := by decide +kernel
theorem dX11_isSetOfDesks_5 : decode cX11_isSetOfDesks 5 = .ok (.invokevirtual 420, 3) := by decide +kernel
theorem dX11_isSetOfDesks_8 : decode cX11_isSetOfDesks 8 = .ok (.iconst (-1), 1) := by decide +kernel
theorem dX11_isSetOfDesks_9 : decode cX11_isSetOfDesks 9 = .ok (.ixor, 1) := by decide +kernel
theorem dX11_isSetOfDesks_10 : decode cX11_isSetOfDesks 10 = .ok (.iand, 1) := by decide +kernel
theorem dX11_isSetOfDesks_11 : decode cX11_isSetOfDesks 11 = .ok (.ifCond .ne 7, 3) := by decide +kernel
theorem dX11_isSetOfDesks_14 : decode cX11_isSetOfDesks 14 = .ok (.iconst 1, 1) := by decide +kernel
theorem dX11_isSetOfDesks_15 : decode cX11_isSetOfDesks 15 = .ok (.goto 4, 3) := by decide +kernel
theorem dX11_isSetOfDesks_18 : decode cX11_isSetOfDesks 18 = .ok (.iconst 0, 1) := by decide +kernel
theorem dX11_isSetOfDesks_19 : decode cX11_isSetOfDesks 19 = .ok (.ireturn, 1) := by decide +kernel
theorem dX11_passOneHour_0 : decode cX11_passOneHour 0 = .ok (.aload_n 0, 1) := by decide +kernel
theorem dX11_passOneHour_1 : decode cX11_passOneHour 1 = .ok (.getfield 52, 3) := by decide +kernel
theorem dX11_passOneHour_4 : decode cX11_passOneHour 4 = .ok (.aload_n 0, 1) := by decide +kernel
theorem dX11_passOneHour_5 : decode cX11_passOneHour 5 = .ok (.getfield 24, 3) := by decide +kernel
theorem dX11_passOneHour_8 : decode cX11_passOneHour 8 = .ok (.aload_n 0, 1) := by decide +kernel
theorem dX11_passOneHour_9 : decode cX11_passOneHour 9 = .ok (.getfield 34, 3) := by decide +kernel
theorem dX11_passOneHour_12 : decode cX11_passOneHour 12 = .ok (.getfield 224, 3) := by decide +kernel
theorem dX11_passOneHour_15 : decode cX11_passOneHour 15 = .ok (.aload_n 0, 1) := by decide +kernel
theorem dX11_passOneHour_16 : decode cX11_passOneHour 16 = .ok (.getfield 34, 3) := by decide +kernel
theorem dX11_passOneHour_19 : decode cX11_passOneHour 19 = .ok (.getfield 243, 3) := by decide +kernel
theorem dX11_passOneHour_22 : decode cX11_passOneHour 22 = .ok (.aload_n 0, 1) := by decide +kernel
theorem dX11_passOneHour_23 : decode cX11_passOneHour 23 = .ok (.getfield 34, 3) := by decide +kernel
theorem dX11_passOneHour_26 : decode cX11_passOneHour 26 = .ok (.getfield 184, 3) := by decide +kernel
theorem dX11_passOneHour_29 : decode cX11_passOneHour 29 = .ok (.aload_n 0, 1) := by decide +kernel
theorem dX11_passOneHour_30 : decode cX11_passOneHour 30 = .ok (.getfield 34, 3) := by decide +kernel
theorem dX11_passOneHour_33 : decode cX11_passOneHour 33 = .ok (.getfield 246, 3) := by decide +kernel
theorem dX11_passOneHour_36 : decode cX11_passOneHour 36 = .ok (.invokevirtual 423, 3) := by decide +kernel
theorem dX11_passOneHour_39 : decode cX11_passOneHour 39 = .ok (.iconst 0, 1) := by decide +kernel
theorem dX11_passOneHour_40 : decode cX11_passOneHour 40 = .ok (.istore_n 3, 1) := by decide +kernel
theorem dX11_passOneHour_41 : decode cX11_passOneHour 41 = .ok (.iload_n 3, 1) := by decide +kernel
theorem dX11_passOneHour_42 : decode cX11_passOneHour 42 = .ok (.aload_n 0, 1) := by decide +kernel
theorem dX11_passOneHour_43 : decode cX11_passOneHour 43 = .ok (.getfield 52, 3) := by decide +kernel
theorem dX11_passOneHour_46 : decode cX11_passOneHour 46 = .ok (.getfield 427, 3) := by decide +kernel
theorem dX11_passOneHour_49 : decode cX11_passOneHour 49 = .ok (.if_icmp .ge 21, 3) := by decide +kernel
theorem dX11_passOneHour_52 : decode cX11_passOneHour 52 = .ok (.aload_n 0, 1) := by decide +kernel
theorem dX11_passOneHour_53 : decode cX11_passOneHour 53 = .ok (.aload_n 0, 1) := by decide +kernel
theorem dX11_passOneHour_54 : decode cX11_passOneHour 54 = .ok (.getfield 52, 3) := by decide +kernel
theorem dX11_passOneHour_57 : decode cX11_passOneHour 57 = .ok (.iload_n 3, 1) := by decide +kernel
theorem dX11_passOneHour_58 : decode cX11_passOneHour 58 = .ok (.invokevirtual 430, 3) := by decide +kernel
theorem dX11_passOneHour_61 : decode cX11_passOneHour 61 = .ok (.invokevirtual 433, 3) := by decide +kernel
theorem dX11_passOneHour_64 : decode cX11_passOneHour 64 = .ok (.iinc 3 1, 3) := by decide +kernel
theorem dX11_passOneHour_67 : decode cX11_passOneHour 67 = .ok (.goto (-26), 3) := by decide +kernel
theorem dX11_passOneHour_70 : decode cX11_passOneHour 70 = .ok (.aload_n 0, 1) := by decide +kernel
theorem dX11_passOneHour_71 : decode cX11_passOneHour 71 = .ok (.getfield 52, 3) := by decide +kernel
theorem dX11_passOneHour_74 : decode cX11_passOneHour 74 = .ok (.getfield 436, 3) := by decide +kernel
theorem dX11_passOneHour_77 : decode cX11_passOneHour 77 = .ok (.ifCond .ne 26, 3) := by decide +kernel
theorem dX11_passOneHour_80 : decode cX11_passOneHour 80 = .ok (.aload_n 0, 1) := by decide +kernel
theorem dX11_passOneHour_81 : decode cX11_passOneHour 81 = .ok (.getfield 34, 3) := by decide +kernel
theorem dX11_passOneHour_84 : decode cX11_passOneHour 84 = .ok (.aload_n 0, 1) := by decide +kernel
theorem dX11_passOneHour_85 : decode cX11_passOneHour 85 = .ok (.getfield 52, 3) := by decide +kernel
theorem dX11_passOneHour_88 : decode cX11_passOneHour 88 = .ok (.getfield 439, 3) := by decide +kernel
theorem dX11_passOneHour_91 : decode cX11_passOneHour 91 = .ok (.aload_n 0, 1) := by decide +kernel
theorem dX11_passOneHour_92 : decode cX11_passOneHour 92 = .ok (.getfield 52, 3) := by decide +kernel
theorem dX11_passOneHour_95 : decode cX11_passOneHour 95 = .ok (.getfield 440, 3) := by decide +kernel
theorem dX11_passOneHour_98 : decode cX11_passOneHour 98 = .ok (.invokevirtual 443, 3) := by decide +kernel
theorem dX11_passOneHour_101 : decode cX11_passOneHour 101 = .ok (.lload_n 1, 1) := by decide +kernel
theorem dX11_passOneHour_102 : decode cX11_passOneHour 102 = .ok (.lreturn, 1) := by decide +kernel
theorem dX11_passOneHour_103 : decode cX11_passOneHour 103 = .ok (.lload_n 1, 1) := by decide +kernel
theorem dX11_passOneHour_104 : decode cX11_passOneHour 104 = .ok (.ldc2_w 446, 3) := by decide +kernel
theorem dX11_passOneHour_107 : decode cX11_passOneHour 107 = .ok (.lmul, 1) := by decide +kernel
theorem dX11_passOneHour_108 : decode cX11_passOneHour 108 = .ok (.ldc2_w 214, 3) := by decide +kernel
theorem dX11_passOneHour_111 : decode cX11_passOneHour 111 = .ok (.lrem, 1) := by decide +kernel
theorem dX11_passOneHour_112 : decode cX11_passOneHour 112 = .ok (.lstore_n 3, 1) := by decide +kernel
theorem dX11_passOneHour_113 : decode cX11_passOneHour 113 = .ok (.aload_n 0, 1) := by decide +kernel
theorem dX11_passOneHour_114 : decode cX11_passOneHour 114 = .ok (.getfield 34, 3) := by decide +kernel
theorem dX11_passOneHour_117 : decode cX11_passOneHour 117 = .ok (.aload_n 0, 1) := by decide +kernel
theorem dX11_passOneHour_118 : decode cX11_passOneHour 118 = .ok (.getfield 52, 3) := by decide +kernel
theorem dX11_passOneHour_121 : decode cX11_passOneHour 121 = .ok (.getfield 439, 3) := by decide +kernel
theorem dX11_passOneHour_124 : decode cX11_passOneHour 124 = .ok (.lload_n 3, 1) := by decide +kernel
theorem dX11_passOneHour_125 : decode cX11_passOneHour 125 = .ok (.ldc2_w 448, 3) := by decide +kernel
theorem dX11_passOneHour_128 : decode cX11_passOneHour 128 = .ok (.lrem, 1) := by decide +kernel
theorem dX11_passOneHour_129 : decode cX11_passOneHour 129 = .ok (.aload_n 0, 1) := by decide +kernel
theorem dX11_passOneHour_130 : decode cX11_passOneHour 130 = .ok (.getfield 52, 3) := by decide +kernel
theorem dX11_passOneHour_133 : decode cX11_passOneHour 133 = .ok (.getfield 436, 3) := by decide +kernel
theorem dX11_passOneHour_136 : decode cX11_passOneHour 136 = .ok (.i2l, 1) := by decide +kernel
theorem dX11_passOneHour_137 : decode cX11_passOneHour 137 = .ok (.lcmp, 1) := by decide +kernel
theorem dX11_passOneHour_138 : decode cX11_passOneHour 138 = .ok (.ifCond .ge 13, 3) := by decide +kernel
theorem dX11_passOneHour_141 : decode cX11_passOneHour 141 = .ok (.aload_n 0, 1) := by decide +kernel
theorem dX11_passOneHour_142 : decode cX11_passOneHour 142 = .ok (.getfield 52, 3) := by decide +kernel
theorem dX11_passOneHour_145 : decode cX11_passOneHour 145 = .ok (.getfield 440, 3) := by decide +kernel
theorem dX11_passOneHour_148 : decode cX11_passOneHour 148 = .ok (.goto 4, 3) := by decide +kernel
theorem dX11_passOneHour_151 : decode cX11_passOneHour 151 = .ok (.iconst (-1), 1) := by decide +kernel
theorem dX11_passOneHour_152 : decode cX11_passOneHour 152 = .ok (.invokevirtual 443, 3) := by decide +kernel
theorem dX11_passOneHour_155 : decode cX11_passOneHour 155 = .ok (.lload_n 3, 1) := by decide +kernel
theorem dX11_passOneHour_156 : decode cX11_passOneHour 156 = .ok (.lreturn, 1) := by decide +kernel
theorem dX11_sign_0 : decode cX11_sign 0 = .ok (.aload_n 0, 1) := by decide +kernel
theorem dX11_sign_1 : decode cX11_sign 1 = .ok (.getfield 59, 3) := by decide +kernel
theorem dX11_sign_4 : decode cX11_sign 4 = .ok (.aload_n 0, 1) := by decide +kernel
theorem dX11_sign_5 : decode cX11_sign 5 = .ok (.getfield 34, 3) := by decide +kernel
theorem dX11_sign_8 : decode cX11_sign 8 = .ok (.invokevirtual 198, 3) := by decide +kernel
theorem dX11_sign_11 : decode cX11_sign 11 = .ok (.aload_n 0, 1) := by decide +kernel
theorem dX11_sign_12 : decode cX11_sign 12 = .ok (.getfield 69, 3) := by decide +kernel
theorem dX11_sign_15 : decode cX11_sign 15 = .ok (.aload_n 0, 1) := by decide +kernel
theorem dX11_sign_16 : decode cX11_sign 16 = .ok (.getfield 34, 3) := by decide +kernel
theorem dX11_sign_19 : decode cX11_sign 19 = .ok (.invokevirtual 190, 3) := by decide +kernel
theorem dX11_sign_22 : decode cX11_sign 22 = .ok (.aload_n 0, 1) := by decide +kernel
theorem dX11_sign_23 : decode cX11_sign 23 = .ok (.getfield 34, 3) := by decide +kernel
theorem dX11_sign_26 : decode cX11_sign 26 = .ok (.iload_n 1, 1) := by decide +kernel
theorem dX11_sign_27 : decode cX11_sign 27 = .ok (.aload_n 0, 1) := by decide +kernel
theorem dX11_sign_28 : decode cX11_sign 28 = .ok (.getfield 59, 3) := by decide +kernel
theorem dX11_sign_31 : decode cX11_sign 31 = .ok (.aload_n 0, 1) := by decide +kernel
theorem dX11_sign_32 : decode cX11_sign 32 = .ok (.getfield 24, 3) := by decide +kernel
theorem dX11_sign_35 : decode cX11_sign 35 = .ok (.iload_n 1, 1) := by decide +kernel
theorem dX11_sign_36 : decode cX11_sign 36 = .ok (.invokevirtual 332, 3) := by decide +kernel
theorem dX11_sign_39 : decode cX11_sign 39 = .ok (.aload_n 0, 1) := by decide +kernel
theorem dX11_sign_40 : decode cX11_sign 40 = .ok (.getfield 69, 3) := by decide +kernel
theorem dX11_sign_43 : decode cX11_sign 43 = .ok (.aload_n 0, 1) := by decide +kernel
theorem dX11_sign_44 : decode cX11_sign 44 = .ok (.getfield 24, 3) := by decide +kernel
theorem dX11_sign_47 : decode cX11_sign 47 = .ok (.iload_n 1, 1) := by decide +kernel
theorem dX11_sign_48 : decode cX11_sign 48 = .ok (.invokevirtual 194, 3) := by decide +kernel
theorem dX11_sign_51 : decode cX11_sign 51 = .ok (.invokevirtual 450, 3) := by decide +kernel
theorem dX11_sign_54 : decode cX11_sign 54 = .ok (.return_, 1) := by decide +kernel
theorem dX11_likeliestBut_0 : decode cX11_likeliestBut 0 = .ok (.iconst 0, 1) := by decide +kernel
theorem dX11_likeliestBut_1 : decode cX11_likeliestBut 1 = .ok (.istore_n 2, 1) := by decide +kernel
theorem dX11_likeliestBut_2 : decode cX11_likeliestBut 2 = .ok (.ldc2_w 295, 3) := by decide +kernel
theorem dX11_likeliestBut_5 : decode cX11_likeliestBut 5 = .ok (.lstore_n 3, 1) := by decide +kernel
theorem dX11_likeliestBut_6 : decode cX11_likeliestBut 6 = .ok (.iconst 0, 1) := by decide +kernel
theorem dX11_likeliestBut_7 : decode cX11_likeliestBut 7 = .ok (.istore 5, 2) := by decide +kernel
theorem dX11_likeliestBut_9 : decode cX11_likeliestBut 9 = .ok (.iload 5, 2) := by decide +kernel
theorem dX11_likeliestBut_11 : decode cX11_likeliestBut 11 = .ok (.aload_n 0, 1) := by decide +kernel
theorem dX11_likeliestBut_12 : decode cX11_likeliestBut 12 = .ok (.getfield 24, 3) := by decide +kernel
theorem dX11_likeliestBut_15 : decode cX11_likeliestBut 15 = .ok (.getfield 172, 3) := by decide +kernel
theorem dX11_likeliestBut_18 : decode cX11_likeliestBut 18 = .ok (.if_icmp .ge 49, 3) := by decide +kernel
theorem dX11_likeliestBut_21 : decode cX11_likeliestBut 21 = .ok (.aload_n 0, 1) := by decide +kernel
theorem dX11_likeliestBut_22 : decode cX11_likeliestBut 22 = .ok (.getfield 76, 3) := by decide +kernel
theorem dX11_likeliestBut_25 : decode cX11_likeliestBut 25 = .ok (.iload 5, 2) := by decide +kernel
theorem dX11_likeliestBut_27 : decode cX11_likeliestBut 27 = .ok (.aload_n 0, 1) := by decide +kernel
theorem dX11_likeliestBut_28 : decode cX11_likeliestBut 28 = .ok (.getfield 34, 3) := by decide +kernel
theorem dX11_likeliestBut_31 : decode cX11_likeliestBut 31 = .ok (.getfield 280, 3) := by decide +kernel
theorem dX11_likeliestBut_34 : decode cX11_likeliestBut 34 = .ok (.invokevirtual 283, 3) := by decide +kernel
theorem dX11_likeliestBut_37 : decode cX11_likeliestBut 37 = .ok (.lstore 6, 2) := by decide +kernel
theorem dX11_likeliestBut_39 : decode cX11_likeliestBut 39 = .ok (.iload_n 1, 1) := by decide +kernel
theorem dX11_likeliestBut_40 : decode cX11_likeliestBut 40 = .ok (.iload 5, 2) := by decide +kernel
theorem dX11_likeliestBut_42 : decode cX11_likeliestBut 42 = .ok (.ishr, 1) := by decide +kernel
theorem dX11_likeliestBut_43 : decode cX11_likeliestBut 43 = .ok (.iconst 1, 1) := by decide +kernel
theorem dX11_likeliestBut_44 : decode cX11_likeliestBut 44 = .ok (.iand, 1) := by decide +kernel
theorem dX11_likeliestBut_45 : decode cX11_likeliestBut 45 = .ok (.ifCond .ne 16, 3) := by decide +kernel
theorem dX11_likeliestBut_48 : decode cX11_likeliestBut 48 = .ok (.lload 6, 2) := by decide +kernel
theorem dX11_likeliestBut_50 : decode cX11_likeliestBut 50 = .ok (.lload_n 3, 1) := by decide +kernel
theorem dX11_likeliestBut_51 : decode cX11_likeliestBut 51 = .ok (.lcmp, 1) := by decide +kernel
theorem dX11_likeliestBut_52 : decode cX11_likeliestBut 52 = .ok (.ifCond .le 9, 3) := by decide +kernel
theorem dX11_likeliestBut_55 : decode cX11_likeliestBut 55 = .ok (.iload 5, 2) := by decide +kernel
theorem dX11_likeliestBut_57 : decode cX11_likeliestBut 57 = .ok (.istore_n 2, 1) := by decide +kernel
theorem dX11_likeliestBut_58 : decode cX11_likeliestBut 58 = .ok (.lload 6, 2) := by decide +kernel
theorem dX11_likeliestBut_60 : decode cX11_likeliestBut 60 = .ok (.lstore_n 3, 1) := by decide +kernel
theorem dX11_likeliestBut_61 : decode cX11_likeliestBut 61 = .ok (.iinc 5 1, 3) := by decide +kernel
theorem dX11_likeliestBut_64 : decode cX11_likeliestBut 64 = .ok (.goto (-55), 3) := by decide +kernel
theorem dX11_likeliestBut_67 : decode cX11_likeliestBut 67 = .ok (.iload_n 2, 1) := by decide +kernel
theorem dX11_likeliestBut_68 : decode cX11_likeliestBut 68 = .ok (.ireturn, 1) := by decide +kernel
theorem dX11_readOrder_0 : decode cX11_readOrder 0 = .ok (.aload_n 0, 1) := by decide +kernel
theorem dX11_readOrder_1 : decode cX11_readOrder 1 = .ok (.aload_n 0, 1) := by decide +kernel
theorem dX11_readOrder_2 : decode cX11_readOrder 2 = .ok (.getfield 14, 3) := by decide +kernel
theorem dX11_readOrder_5 : decode cX11_readOrder 5 = .ok (.iload_n 1, 1) := by decide +kernel
theorem dX11_readOrder_6 : decode cX11_readOrder 6 = .ok (.invokevirtual 138, 3) := by decide +kernel
theorem dX11_readOrder_9 : decode cX11_readOrder 9 = .ok (.istore_n 2, 1) := by decide +kernel
theorem dX11_readOrder_10 : decode cX11_readOrder 10 = .ok (.iload_n 2, 1) := by decide +kernel
theorem dX11_readOrder_11 : decode cX11_readOrder 11 = .ok (.ifCond .eq 5, 3) := by decide +kernel
theorem dX11_readOrder_14 : decode cX11_readOrder 14 = .ok (.iload_n 2, 1) := by decide +kernel
theorem dX11_readOrder_15 : decode cX11_readOrder 15 = .ok (.ireturn, 1) := by decide +kernel
theorem dX11_readOrder_16 : decode cX11_readOrder 16 = .ok (.aload_n 0, 1) := by decide +kernel
theorem dX11_readOrder_17 : decode cX11_readOrder 17 = .ok (.getfield 83, 3) := by decide +kernel
theorem dX11_readOrder_20 : decode cX11_readOrder 20 = .ok (.invokevirtual 453, 3) := by decide +kernel
theorem dX11_readOrder_23 : decode cX11_readOrder 23 = .ok (.iconst 0, 1) := by decide +kernel
theorem dX11_readOrder_24 : decode cX11_readOrder 24 = .ok (.istore_n 3, 1) := by decide +kernel
theorem dX11_readOrder_25 : decode cX11_readOrder 25 = .ok (.iload_n 3, 1) := by decide +kernel
theorem dX11_readOrder_26 : decode cX11_readOrder 26 = .ok (.aload_n 0, 1) := by decide +kernel
theorem dX11_readOrder_27 : decode cX11_readOrder 27 = .ok (.getfield 14, 3) := by decide +kernel
theorem dX11_readOrder_30 : decode cX11_readOrder 30 = .ok (.iload_n 1, 1) := by decide +kernel
theorem dX11_readOrder_31 : decode cX11_readOrder 31 = .ok (.invokevirtual 157, 3) := by decide +kernel
theorem dX11_readOrder_34 : decode cX11_readOrder 34 = .ok (.if_icmp .ge 71, 3) := by decide +kernel
theorem dX11_readOrder_37 : decode cX11_readOrder 37 = .ok (.aload_n 0, 1) := by decide +kernel
theorem dX11_readOrder_38 : decode cX11_readOrder 38 = .ok (.getfield 14, 3) := by decide +kernel
theorem dX11_readOrder_41 : decode cX11_readOrder 41 = .ok (.iload_n 1, 1) := by decide +kernel
theorem dX11_readOrder_42 : decode cX11_readOrder 42 = .ok (.iload_n 3, 1) := by decide +kernel
theorem dX11_readOrder_43 : decode cX11_readOrder 43 = .ok (.invokevirtual 128, 3) := by decide +kernel
theorem dX11_readOrder_46 : decode cX11_readOrder 46 = .ok (.istore 4, 2) := by decide +kernel
theorem dX11_readOrder_48 : decode cX11_readOrder 48 = .ok (.aload_n 0, 1) := by decide +kernel
theorem dX11_readOrder_49 : decode cX11_readOrder 49 = .ok (.getfield 24, 3) := by decide +kernel
theorem dX11_readOrder_52 : decode cX11_readOrder 52 = .ok (.iload 4, 2) := by decide +kernel
theorem dX11_readOrder_54 : decode cX11_readOrder 54 = .ok (.invokevirtual 173, 3) := by decide +kernel
theorem dX11_readOrder_57 : decode cX11_readOrder 57 = .ok (.ifCond .eq 27, 3) := by decide +kernel
theorem dX11_readOrder_60 : decode cX11_readOrder 60 = .ok (.aload_n 0, 1) := by decide +kernel
theorem dX11_readOrder_61 : decode cX11_readOrder 61 = .ok (.getfield 34, 3) := by decide +kernel
theorem dX11_readOrder_64 : decode cX11_readOrder 64 = .ok (.iload 4, 2) := by decide +kernel
theorem dX11_readOrder_66 : decode cX11_readOrder 66 = .ok (.invokevirtual 326, 3) := by decide +kernel
theorem dX11_readOrder_69 : decode cX11_readOrder 69 = .ok (.ifCond .ne 15, 3) := by decide +kernel
theorem dX11_readOrder_72 : decode cX11_readOrder 72 = .ok (.aload_n 0, 1) := by decide +kernel
theorem dX11_readOrder_73 : decode cX11_readOrder 73 = .ok (.getfield 83, 3) := by decide +kernel
theorem dX11_readOrder_76 : decode cX11_readOrder 76 = .ok (.iload 4, 2) := by decide +kernel
theorem dX11_readOrder_78 : decode cX11_readOrder 78 = .ok (.invokevirtual 329, 3) := by decide +kernel
theorem dX11_readOrder_81 : decode cX11_readOrder 81 = .ok (.ifCond .eq 9, 3) := by decide +kernel
theorem dX11_readOrder_84 : decode cX11_readOrder 84 = .ok (.aload_n 0, 1) := by decide +kernel
theorem dX11_readOrder_85 : decode cX11_readOrder 85 = .ok (.iconst 3, 1) := by decide +kernel
theorem dX11_readOrder_86 : decode cX11_readOrder 86 = .ok (.invokevirtual 116, 3) := by decide +kernel
theorem dX11_readOrder_89 : decode cX11_readOrder 89 = .ok (.ireturn, 1) := by decide +kernel
theorem dX11_readOrder_90 : decode cX11_readOrder 90 = .ok (.aload_n 0, 1) := by decide +kernel
theorem dX11_readOrder_91 : decode cX11_readOrder 91 = .ok (.getfield 83, 3) := by decide +kernel
theorem dX11_readOrder_94 : decode cX11_readOrder 94 = .ok (.iload 4, 2) := by decide +kernel
theorem dX11_readOrder_96 : decode cX11_readOrder 96 = .ok (.invokevirtual 456, 3) := by decide +kernel
theorem dX11_readOrder_99 : decode cX11_readOrder 99 = .ok (.iinc 3 1, 3) := by decide +kernel
theorem dX11_readOrder_102 : decode cX11_readOrder 102 = .ok (.goto (-77), 3) := by decide +kernel
theorem dX11_readOrder_105 : decode cX11_readOrder 105 = .ok (.iconst 0, 1) := by decide +kernel
theorem dX11_readOrder_106 : decode cX11_readOrder 106 = .ok (.ireturn, 1) := by decide +kernel
theorem dX11_bringIn_0 : decode cX11_bringIn 0 = .ok (.aload_n 0, 1) := by decide +kernel
theorem dX11_bringIn_1 : decode cX11_bringIn 1 = .ok (.getfield 63, 3) := by decide +kernel
theorem dX11_bringIn_4 : decode cX11_bringIn 4 = .ok (.aload_n 0, 1) := by decide +kernel
theorem dX11_bringIn_5 : decode cX11_bringIn 5 = .ok (.getfield 59, 3) := by decide +kernel
theorem dX11_bringIn_8 : decode cX11_bringIn 8 = .ok (.invokevirtual 457, 3) := by decide +kernel
theorem dX11_bringIn_11 : decode cX11_bringIn 11 = .ok (.aload_n 0, 1) := by decide +kernel
theorem dX11_bringIn_12 : decode cX11_bringIn 12 = .ok (.getfield 63, 3) := by decide +kernel
theorem dX11_bringIn_15 : decode cX11_bringIn 15 = .ok (.getfield 234, 3) := by decide +kernel
theorem dX11_bringIn_18 : decode cX11_bringIn 18 = .ok (.istore_n 1, 1) := by decide +kernel
theorem dX11_bringIn_19 : decode cX11_bringIn 19 = .ok (.iconst 0, 1) := by decide +kernel
theorem dX11_bringIn_20 : decode cX11_bringIn 20 = .ok (.istore_n 2, 1) := by decide +kernel
theorem dX11_bringIn_21 : decode cX11_bringIn 21 = .ok (.iload_n 2, 1) := by decide +kernel
theorem dX11_bringIn_22 : decode cX11_bringIn 22 = .ok (.aload_n 0, 1) := by decide +kernel
theorem dX11_bringIn_23 : decode cX11_bringIn 23 = .ok (.getfield 83, 3) := by decide +kernel
theorem dX11_bringIn_26 : decode cX11_bringIn 26 = .ok (.getfield 313, 3) := by decide +kernel
theorem dX11_bringIn_29 : decode cX11_bringIn 29 = .ok (.if_icmp .ge 35, 3) := by decide +kernel
theorem dX11_bringIn_32 : decode cX11_bringIn 32 = .ok (.aload_n 0, 1) := by decide +kernel
theorem dX11_bringIn_33 : decode cX11_bringIn 33 = .ok (.getfield 63, 3) := by decide +kernel
theorem dX11_bringIn_36 : decode cX11_bringIn 36 = .ok (.aload_n 0, 1) := by decide +kernel
theorem dX11_bringIn_37 : decode cX11_bringIn 37 = .ok (.getfield 63, 3) := by decide +kernel
theorem dX11_bringIn_40 : decode cX11_bringIn 40 = .ok (.aload_n 0, 1) := by decide +kernel
theorem dX11_bringIn_41 : decode cX11_bringIn 41 = .ok (.getfield 24, 3) := by decide +kernel
theorem dX11_bringIn_44 : decode cX11_bringIn 44 = .ok (.aload_n 0, 1) := by decide +kernel
theorem dX11_bringIn_45 : decode cX11_bringIn 45 = .ok (.getfield 83, 3) := by decide +kernel
theorem dX11_bringIn_48 : decode cX11_bringIn 48 = .ok (.iload_n 2, 1) := by decide +kernel
theorem dX11_bringIn_49 : decode cX11_bringIn 49 = .ok (.invokevirtual 460, 3) := by decide +kernel
theorem dX11_bringIn_52 : decode cX11_bringIn 52 = .ok (.invokevirtual 332, 3) := by decide +kernel
theorem dX11_bringIn_55 : decode cX11_bringIn 55 = .ok (.invokevirtual 335, 3) := by decide +kernel
theorem dX11_bringIn_58 : decode cX11_bringIn 58 = .ok (.iinc 2 1, 3) := by decide +kernel
theorem dX11_bringIn_61 : decode cX11_bringIn 61 = .ok (.goto (-40), 3) := by decide +kernel
theorem dX11_bringIn_64 : decode cX11_bringIn 64 = .ok (.aload_n 0, 1) := by decide +kernel
theorem dX11_bringIn_65 : decode cX11_bringIn 65 = .ok (.getfield 63, 3) := by decide +kernel
theorem dX11_bringIn_68 : decode cX11_bringIn 68 = .ok (.getfield 234, 3) := by decide +kernel
theorem dX11_bringIn_71 : decode cX11_bringIn 71 = .ok (.iload_n 1, 1) := by decide +kernel
theorem dX11_bringIn_72 : decode cX11_bringIn 72 = .ok (.isub, 1) := by decide +kernel
theorem dX11_bringIn_73 : decode cX11_bringIn 73 = .ok (.ireturn, 1) := by decide +kernel
theorem dX11_tryAllOrders_0 : decode cX11_tryAllOrders 0 = .ok (.aload_n 0, 1) := by decide +kernel
theorem dX11_tryAllOrders_1 : decode cX11_tryAllOrders 1 = .ok (.getfield 83, 3) := by decide +kernel
theorem dX11_tryAllOrders_4 : decode cX11_tryAllOrders 4 = .ok (.invokevirtual 453, 3) := by decide +kernel
theorem dX11_tryAllOrders_7 : decode cX11_tryAllOrders 7 = .ok (.iconst 0, 1) := by decide +kernel
theorem dX11_tryAllOrders_8 : decode cX11_tryAllOrders 8 = .ok (.istore_n 2, 1) := by decide +kernel
theorem dX11_tryAllOrders_9 : decode cX11_tryAllOrders 9 = .ok (.iload_n 2, 1) := by decide +kernel
theorem dX11_tryAllOrders_10 : decode cX11_tryAllOrders 10 = .ok (.aload_n 0, 1) := by decide +kernel
theorem dX11_tryAllOrders_11 : decode cX11_tryAllOrders 11 = .ok (.getfield 24, 3) := by decide +kernel
theorem dX11_tryAllOrders_14 : decode cX11_tryAllOrders 14 = .ok (.getfield 172, 3) := by decide +kernel
theorem dX11_tryAllOrders_17 : decode cX11_tryAllOrders 17 = .ok (.if_icmp .ge 25, 3) := by decide +kernel
theorem dX11_tryAllOrders_20 : decode cX11_tryAllOrders 20 = .ok (.iload_n 1, 1) := by decide +kernel
theorem dX11_tryAllOrders_21 : decode cX11_tryAllOrders 21 = .ok (.iload_n 2, 1) := by decide +kernel
theorem dX11_tryAllOrders_22 : decode cX11_tryAllOrders 22 = .ok (.ishr, 1) := by decide +kernel
theorem dX11_tryAllOrders_23 : decode cX11_tryAllOrders 23 = .ok (.iconst 1, 1) := by decide +kernel
theorem dX11_tryAllOrders_24 : decode cX11_tryAllOrders 24 = .ok (.iand, 1) := by decide +kernel
theorem dX11_tryAllOrders_25 : decode cX11_tryAllOrders 25 = .ok (.ifCond .eq 11, 3) := by decide +kernel
theorem dX11_tryAllOrders_28 : decode cX11_tryAllOrders 28 = .ok (.aload_n 0, 1) := by decide +kernel
theorem dX11_tryAllOrders_29 : decode cX11_tryAllOrders 29 = .ok (.getfield 83, 3) := by decide +kernel
theorem dX11_tryAllOrders_32 : decode cX11_tryAllOrders 32 = .ok (.iload_n 2, 1) := by decide +kernel
theorem dX11_tryAllOrders_33 : decode cX11_tryAllOrders 33 = .ok (.invokevirtual 456, 3) := by decide +kernel
theorem dX11_tryAllOrders_36 : decode cX11_tryAllOrders 36 = .ok (.iinc 2 1, 3) := by decide +kernel
theorem dX11_tryAllOrders_39 : decode cX11_tryAllOrders 39 = .ok (.goto (-30), 3) := by decide +kernel
theorem dX11_tryAllOrders_42 : decode cX11_tryAllOrders 42 = .ok (.aload_n 0, 1) := by decide +kernel
theorem dX11_tryAllOrders_43 : decode cX11_tryAllOrders 43 = .ok (.getfield 59, 3) := by decide +kernel
theorem dX11_tryAllOrders_46 : decode cX11_tryAllOrders 46 = .ok (.aload_n 0, 1) := by decide +kernel
theorem dX11_tryAllOrders_47 : decode cX11_tryAllOrders 47 = .ok (.getfield 34, 3) := by decide +kernel
theorem dX11_tryAllOrders_50 : decode cX11_tryAllOrders 50 = .ok (.invokevirtual 198, 3) := by decide +kernel
theorem dX11_tryAllOrders_53 : decode cX11_tryAllOrders 53 = .ok (.aload_n 0, 1) := by decide +kernel
theorem dX11_tryAllOrders_54 : decode cX11_tryAllOrders 54 = .ok (.getfield 83, 3) := by decide +kernel
theorem dX11_tryAllOrders_57 : decode cX11_tryAllOrders 57 = .ok (.aload_n 0, 1) := by decide +kernel
theorem dX11_tryAllOrders_58 : decode cX11_tryAllOrders 58 = .ok (.invokevirtual 304, 3) := by decide +kernel
theorem dX11_tryAllOrders_61 : decode cX11_tryAllOrders 61 = .ok (.invokevirtual 463, 3) := by decide +kernel
theorem dX11_tryAllOrders_64 : decode cX11_tryAllOrders 64 = .ok (.iconst 1, 1) := by decide +kernel
theorem dX11_tryAllOrders_65 : decode cX11_tryAllOrders 65 = .ok (.istore_n 2, 1) := by decide +kernel
theorem dX11_tryAllOrders_66 : decode cX11_tryAllOrders 66 = .ok (.iload_n 2, 1) := by decide +kernel
theorem dX11_tryAllOrders_67 : decode cX11_tryAllOrders 67 = .ok (.sipush 720, 3) := by decide +kernel
theorem dX11_tryAllOrders_70 : decode cX11_tryAllOrders 70 = .ok (.if_icmp .ge 30, 3) := by decide +kernel
theorem dX11_tryAllOrders_73 : decode cX11_tryAllOrders 73 = .ok (.aload_n 0, 1) := by decide +kernel
theorem dX11_tryAllOrders_74 : decode cX11_tryAllOrders 74 = .ok (.getfield 83, 3) := by decide +kernel
theorem dX11_tryAllOrders_77 : decode cX11_tryAllOrders 77 = .ok (.invokevirtual 466, 3) := by decide +kernel
theorem dX11_tryAllOrders_80 : decode cX11_tryAllOrders 80 = .ok (.ifCond .eq 20, 3) := by decide +kernel
theorem dX11_tryAllOrders_83 : decode cX11_tryAllOrders 83 = .ok (.aload_n 0, 1) := by decide +kernel
theorem dX11_tryAllOrders_84 : decode cX11_tryAllOrders 84 = .ok (.getfield 83, 3) := by decide +kernel
theorem dX11_tryAllOrders_87 : decode cX11_tryAllOrders 87 = .ok (.aload_n 0, 1) := by decide +kernel
theorem dX11_tryAllOrders_88 : decode cX11_tryAllOrders 88 = .ok (.invokevirtual 304, 3) := by decide +kernel
theorem dX11_tryAllOrders_91 : decode cX11_tryAllOrders 91 = .ok (.invokevirtual 470, 3) := by decide +kernel
theorem dX11_tryAllOrders_94 : decode cX11_tryAllOrders 94 = .ok (.iinc 2 1, 3) := by decide +kernel
theorem dX11_tryAllOrders_97 : decode cX11_tryAllOrders 97 = .ok (.goto (-31), 3) := by decide +kernel
theorem dX11_tryAllOrders_100 : decode cX11_tryAllOrders 100 = .ok (.return_, 1) := by decide +kernel
theorem dX11_priceStep_0 : decode cX11_priceStep 0 = .ok (.iload_n 2, 1) := by decide +kernel
theorem dX11_priceStep_1 : decode cX11_priceStep 1 = .ok (.invokestatic 473, 3) := by decide +kernel
theorem dX11_priceStep_4 : decode cX11_priceStep 4 = .ok (.istore_n 3, 1) := by decide +kernel
theorem dX11_priceStep_5 : decode cX11_priceStep 5 = .ok (.aload_n 0, 1) := by decide +kernel
theorem dX11_priceStep_6 : decode cX11_priceStep 6 = .ok (.getfield 14, 3) := by decide +kernel
theorem dX11_priceStep_9 : decode cX11_priceStep 9 = .ok (.iload_n 1, 1) := by decide +kernel
theorem dX11_priceStep_10 : decode cX11_priceStep 10 = .ok (.iload_n 3, 1) := by decide +kernel
theorem dX11_priceStep_11 : decode cX11_priceStep 11 = .ok (.invokevirtual 128, 3) := by decide +kernel
theorem dX11_priceStep_14 : decode cX11_priceStep 14 = .ok (.istore 4, 2) := by decide +kernel
theorem dX11_priceStep_16 : decode cX11_priceStep 16 = .ok (.iconst 0, 1) := by decide +kernel
theorem dX11_priceStep_17 : decode cX11_priceStep 17 = .ok (.istore 5, 2) := by decide +kernel
theorem dX11_priceStep_19 : decode cX11_priceStep 19 = .ok (.iload 5, 2) := by decide +kernel
theorem dX11_priceStep_21 : decode cX11_priceStep 21 = .ok (.iload_n 3, 1) := by decide +kernel
theorem dX11_priceStep_22 : decode cX11_priceStep 22 = .ok (.if_icmp .ge 31, 3) := by decide +kernel
theorem dX11_priceStep_25 : decode cX11_priceStep 25 = .ok (.iload 5, 2) := by decide +kernel
theorem dX11_priceStep_27 : decode cX11_priceStep 27 = .ok (.bipush 12, 2) := by decide +kernel
theorem dX11_priceStep_29 : decode cX11_priceStep 29 = .ok (.if_icmp .ge 24, 3) := by decide +kernel
theorem dX11_priceStep_32 : decode cX11_priceStep 32 = .ok (.iload 4, 2) := by decide +kernel
theorem dX11_priceStep_34 : decode cX11_priceStep 34 = .ok (.aload_n 0, 1) := by decide +kernel
theorem dX11_priceStep_35 : decode cX11_priceStep 35 = .ok (.getfield 14, 3) := by decide +kernel
theorem dX11_priceStep_38 : decode cX11_priceStep 38 = .ok (.iload_n 1, 1) := by decide +kernel
theorem dX11_priceStep_39 : decode cX11_priceStep 39 = .ok (.iload 5, 2) := by decide +kernel
theorem dX11_priceStep_41 : decode cX11_priceStep 41 = .ok (.invokevirtual 128, 3) := by decide +kernel
theorem dX11_priceStep_44 : decode cX11_priceStep 44 = .ok (.isub, 1) := by decide +kernel
theorem dX11_priceStep_45 : decode cX11_priceStep 45 = .ok (.istore 4, 2) := by decide +kernel
theorem dX11_priceStep_47 : decode cX11_priceStep 47 = .ok (.iinc 5 1, 3) := by decide +kernel
theorem dX11_priceStep_50 : decode cX11_priceStep 50 = .ok (.goto (-31), 3) := by decide +kernel
theorem dX11_priceStep_53 : decode cX11_priceStep 53 = .ok (.iload 4, 2) := by decide +kernel
theorem dX11_priceStep_55 : decode cX11_priceStep 55 = .ok (.ireturn, 1) := by decide +kernel
theorem dX11_isWay_0 : decode cX11_isWay 0 = .ok (.iload_n 1, 1) := by decide +kernel
theorem dX11_isWay_1 : decode cX11_isWay 1 = .ok (.aload_n 0, 1) := by decide +kernel
theorem dX11_isWay_2 : decode cX11_isWay 2 = .ok (.getfield 34, 3) := by decide +kernel
theorem dX11_isWay_5 : decode cX11_isWay 5 = .ok (.getfield 243, 3) := by decide +kernel
theorem dX11_isWay_8 : decode cX11_isWay 8 = .ok (.iconst (-1), 1) := by decide +kernel
theorem dX11_isWay_9 : decode cX11_isWay 9 = .ok (.ixor, 1) := by decide +kernel
theorem dX11_isWay_10 : decode cX11_isWay 10 = .ok (.iand, 1) := by decide +kernel
theorem dX11_isWay_11 : decode cX11_isWay 11 = .ok (.ifCond .eq 5, 3) := by decide +kernel
theorem dX11_isWay_14 : decode cX11_isWay 14 = .ok (.iconst 0, 1) := by decide +kernel
theorem dX11_isWay_15 : decode cX11_isWay 15 = .ok (.ireturn, 1) := by decide +kernel
theorem dX11_isWay_16 : decode cX11_isWay 16 = .ok (.iconst 0, 1) := by decide +kernel
theorem dX11_isWay_17 : decode cX11_isWay 17 = .ok (.istore_n 3, 1) := by decide +kernel
theorem dX11_isWay_18 : decode cX11_isWay 18 = .ok (.iconst 0, 1) := by decide +kernel
theorem dX11_isWay_19 : decode cX11_isWay 19 = .ok (.istore 4, 2) := by decide +kernel
theorem dX11_isWay_21 : decode cX11_isWay 21 = .ok (.iload 4, 2) := by decide +kernel
theorem dX11_isWay_23 : decode cX11_isWay 23 = .ok (.aload_n 0, 1) := by decide +kernel
theorem dX11_isWay_24 : decode cX11_isWay 24 = .ok (.getfield 24, 3) := by decide +kernel
theorem dX11_isWay_27 : decode cX11_isWay 27 = .ok (.getfield 172, 3) := by decide +kernel
theorem dX11_isWay_30 : decode cX11_isWay 30 = .ok (.if_icmp .ge 31, 3) := by decide +kernel
theorem dX11_isWay_33 : decode cX11_isWay 33 = .ok (.iload_n 1, 1) := by decide +kernel
theorem dX11_isWay_34 : decode cX11_isWay 34 = .ok (.iload 4, 2) := by decide +kernel
theorem dX11_isWay_36 : decode cX11_isWay 36 = .ok (.ishr, 1) := by decide +kernel
theorem dX11_isWay_37 : decode cX11_isWay 37 = .ok (.iconst 1, 1) := by decide +kernel
theorem dX11_isWay_38 : decode cX11_isWay 38 = .ok (.iand, 1) := by decide +kernel
theorem dX11_isWay_39 : decode cX11_isWay 39 = .ok (.ifCond .eq 16, 3) := by decide +kernel
theorem dX11_isWay_42 : decode cX11_isWay 42 = .ok (.iload_n 3, 1) := by decide +kernel
theorem dX11_isWay_43 : decode cX11_isWay 43 = .ok (.aload_n 0, 1) := by decide +kernel
theorem dX11_isWay_44 : decode cX11_isWay 44 = .ok (.getfield 24, 3) := by decide +kernel
theorem dX11_isWay_47 : decode cX11_isWay 47 = .ok (.iload 4, 2) := by decide +kernel
theorem dX11_isWay_49 : decode cX11_isWay 49 = .ok (.iconst 1, 1) := by decide +kernel
theorem dX11_isWay_50 : decode cX11_isWay 50 = .ok (.invokevirtual 174, 3) := by decide +kernel
theorem dX11_isWay_53 : decode cX11_isWay 53 = .ok (.iadd, 1) := by decide +kernel
theorem dX11_isWay_54 : decode cX11_isWay 54 = .ok (.istore_n 3, 1) := by decide +kernel
theorem dX11_isWay_55 : decode cX11_isWay 55 = .ok (.iinc 4 1, 3) := by decide +kernel
theorem dX11_isWay_58 : decode cX11_isWay 58 = .ok (.goto (-37), 3) := by decide +kernel
theorem dX11_isWay_61 : decode cX11_isWay 61 = .ok (.iload_n 3, 1) := by decide +kernel
theorem dX11_isWay_62 : decode cX11_isWay 62 = .ok (.iload_n 2, 1) := by decide +kernel
theorem dX11_isWay_63 : decode cX11_isWay 63 = .ok (.if_icmp .ne 7, 3) := by decide +kernel
theorem dX11_isWay_66 : decode cX11_isWay 66 = .ok (.iconst 1, 1) := by decide +kernel
theorem dX11_isWay_67 : decode cX11_isWay 67 = .ok (.goto 4, 3) := by decide +kernel
theorem dX11_isWay_70 : decode cX11_isWay 70 = .ok (.iconst 0, 1) := by decide +kernel
theorem dX11_isWay_71 : decode cX11_isWay 71 = .ok (.ireturn, 1) := by decide +kernel
theorem dX11_mixDesk_0 : decode cX11_mixDesk 0 = .ok (.lload_n 1, 1) := by decide +kernel
theorem dX11_mixDesk_1 : decode cX11_mixDesk 1 = .ok (.lstore 4, 2) := by decide +kernel
theorem dX11_mixDesk_3 : decode cX11_mixDesk 3 = .ok (.iconst 0, 1) := by decide +kernel
theorem dX11_mixDesk_4 : decode cX11_mixDesk 4 = .ok (.istore 6, 2) := by decide +kernel
theorem dX11_mixDesk_6 : decode cX11_mixDesk 6 = .ok (.iload 6, 2) := by decide +kernel
theorem dX11_mixDesk_8 : decode cX11_mixDesk 8 = .ok (.bipush 6, 2) := by decide +kernel
theorem dX11_mixDesk_10 : decode cX11_mixDesk 10 = .ok (.if_icmp .ge 29, 3) := by decide +kernel
theorem dX11_mixDesk_13 : decode cX11_mixDesk 13 = .ok (.ldc2_w 394, 3) := by decide +kernel
theorem dX11_mixDesk_16 : decode cX11_mixDesk 16 = .ok (.lload 4, 2) := by decide +kernel
theorem dX11_mixDesk_18 : decode cX11_mixDesk 18 = .ok (.lmul, 1) := by decide +kernel
theorem dX11_mixDesk_19 : decode cX11_mixDesk 19 = .ok (.aload_n 0, 1) := by decide +kernel
theorem dX11_mixDesk_20 : decode cX11_mixDesk 20 = .ok (.getfield 24, 3) := by decide +kernel
theorem dX11_mixDesk_23 : decode cX11_mixDesk 23 = .ok (.iload_n 3, 1) := by decide +kernel
theorem dX11_mixDesk_24 : decode cX11_mixDesk 24 = .ok (.iload 6, 2) := by decide +kernel
theorem dX11_mixDesk_26 : decode cX11_mixDesk 26 = .ok (.invokevirtual 174, 3) := by decide +kernel
theorem dX11_mixDesk_29 : decode cX11_mixDesk 29 = .ok (.i2l, 1) := by decide +kernel
theorem dX11_mixDesk_30 : decode cX11_mixDesk 30 = .ok (.ladd, 1) := by decide +kernel
theorem dX11_mixDesk_31 : decode cX11_mixDesk 31 = .ok (.lstore 4, 2) := by decide +kernel
theorem dX11_mixDesk_33 : decode cX11_mixDesk 33 = .ok (.iinc 6 1, 3) := by decide +kernel
theorem dX11_mixDesk_36 : decode cX11_mixDesk 36 = .ok (.goto (-30), 3) := by decide +kernel
theorem dX11_mixDesk_39 : decode cX11_mixDesk 39 = .ok (.iconst 0, 1) := by decide +kernel
theorem dX11_mixDesk_40 : decode cX11_mixDesk 40 = .ok (.istore 6, 2) := by decide +kernel
theorem dX11_mixDesk_42 : decode cX11_mixDesk 42 = .ok (.iload 6, 2) := by decide +kernel
theorem dX11_mixDesk_44 : decode cX11_mixDesk 44 = .ok (.iconst 4, 1) := by decide +kernel
theorem dX11_mixDesk_45 : decode cX11_mixDesk 45 = .ok (.if_icmp .ge 29, 3) := by decide +kernel
theorem dX11_mixDesk_48 : decode cX11_mixDesk 48 = .ok (.ldc2_w 394, 3) := by decide +kernel
theorem dX11_mixDesk_51 : decode cX11_mixDesk 51 = .ok (.lload 4, 2) := by decide +kernel
theorem dX11_mixDesk_53 : decode cX11_mixDesk 53 = .ok (.lmul, 1) := by decide +kernel
theorem dX11_mixDesk_54 : decode cX11_mixDesk 54 = .ok (.aload_n 0, 1) := by decide +kernel
theorem dX11_mixDesk_55 : decode cX11_mixDesk 55 = .ok (.getfield 34, 3) := by decide +kernel
theorem dX11_mixDesk_58 : decode cX11_mixDesk 58 = .ok (.iload_n 3, 1) := by decide +kernel
theorem dX11_mixDesk_59 : decode cX11_mixDesk 59 = .ok (.iload 6, 2) := by decide +kernel
theorem dX11_mixDesk_61 : decode cX11_mixDesk 61 = .ok (.invokevirtual 227, 3) := by decide +kernel
theorem dX11_mixDesk_64 : decode cX11_mixDesk 64 = .ok (.i2l, 1) := by decide +kernel
theorem dX11_mixDesk_65 : decode cX11_mixDesk 65 = .ok (.ladd, 1) := by decide +kernel
theorem dX11_mixDesk_66 : decode cX11_mixDesk 66 = .ok (.lstore 4, 2) := by decide +kernel
theorem dX11_mixDesk_68 : decode cX11_mixDesk 68 = .ok (.iinc 6 1, 3) := by decide +kernel
theorem dX11_mixDesk_71 : decode cX11_mixDesk 71 = .ok (.goto (-29), 3) := by decide +kernel
theorem dX11_mixDesk_74 : decode cX11_mixDesk 74 = .ok (.ldc2_w 394, 3) := by decide +kernel
theorem dX11_mixDesk_77 : decode cX11_mixDesk 77 = .ok (.lload 4, 2) := by decide +kernel
theorem dX11_mixDesk_79 : decode cX11_mixDesk 79 = .ok (.lmul, 1) := by decide +kernel
theorem dX11_mixDesk_80 : decode cX11_mixDesk 80 = .ok (.aload_n 0, 1) := by decide +kernel
theorem dX11_mixDesk_81 : decode cX11_mixDesk 81 = .ok (.getfield 45, 3) := by decide +kernel
theorem dX11_mixDesk_84 : decode cX11_mixDesk 84 = .ok (.iload_n 3, 1) := by decide +kernel
theorem dX11_mixDesk_85 : decode cX11_mixDesk 85 = .ok (.invokevirtual 375, 3) := by decide +kernel
theorem dX11_mixDesk_88 : decode cX11_mixDesk 88 = .ok (.i2l, 1) := by decide +kernel
theorem dX11_mixDesk_89 : decode cX11_mixDesk 89 = .ok (.ladd, 1) := by decide +kernel
theorem dX11_mixDesk_90 : decode cX11_mixDesk 90 = .ok (.lreturn, 1) := by decide +kernel
theorem dX12_init_0 : decode cX12_init 0 = .ok (.aload_n 0, 1) := by decide +kernel
theorem dX12_init_1 : decode cX12_init 1 = .ok (.invokespecial 1, 3) := by decide +kernel
theorem dX12_init_4 : decode cX12_init 4 = .ok (.aload_n 0, 1) := by decide +kernel
theorem dX12_init_5 : decode cX12_init 5 = .ok (.bipush 6, 2) := by decide +kernel
theorem dX12_init_7 : decode cX12_init 7 = .ok (.newarray .int, 2) := by decide +kernel
theorem dX12_init_9 : decode cX12_init 9 = .ok (.putfield 7, 3) := by decide +kernel
theorem dX12_init_12 : decode cX12_init 12 = .ok (.aload_n 0, 1) := by decide +kernel
theorem dX12_init_13 : decode cX12_init 13 = .ok (.lconst 1, 1) := by decide +kernel
theorem dX12_init_14 : decode cX12_init 14 = .ok (.putfield 13, 3) := by decide +kernel
theorem dX12_init_17 : decode cX12_init 17 = .ok (.aload_n 0, 1) := by decide +kernel
theorem dX12_init_18 : decode cX12_init 18 = .ok (.bipush 6, 2) := by decide +kernel
theorem dX12_init_20 : decode cX12_init 20 = .ok (.newarray .int, 2) := by decide +kernel
theorem dX12_init_22 : decode cX12_init 22 = .ok (.putfield 17, 3) := by decide +kernel
theorem dX12_init_25 : decode cX12_init 25 = .ok (.aload_n 0, 1) := by decide +kernel
theorem dX12_init_26 : decode cX12_init 26 = .ok (.sipush 240, 3) := by decide +kernel
theorem dX12_init_29 : decode cX12_init 29 = .ok (.newarray .int, 2) := by decide +kernel
theorem dX12_init_31 : decode cX12_init 31 = .ok (.putfield 20, 3) := by decide +kernel
theorem dX12_init_34 : decode cX12_init 34 = .ok (.aload_n 0, 1) := by decide +kernel
theorem dX12_init_35 : decode cX12_init 35 = .ok (.bipush 40, 2) := by decide +kernel
theorem dX12_init_37 : decode cX12_init 37 = .ok (.newarray .int, 2) := by decide +kernel
theorem dX12_init_39 : decode cX12_init 39 = .ok (.putfield 23, 3) := by decide +kernel
theorem dX12_init_42 : decode cX12_init 42 = .ok (.aload_n 0, 1) := by decide +kernel
theorem dX12_init_43 : decode cX12_init 43 = .ok (.iconst 4, 1) := by decide +kernel
theorem dX12_init_44 : decode cX12_init 44 = .ok (.newarray .int, 2) := by decide +kernel
theorem dX12_init_46 : decode cX12_init 46 = .ok (.putfield 26, 3) := by decide +kernel
theorem dX12_init_49 : decode cX12_init 49 = .ok (.aload_n 0, 1) := by decide +kernel
theorem dX12_init_50 : decode cX12_init 50 = .ok (.sipush 400, 3) := by decide +kernel
theorem dX12_init_53 : decode cX12_init 53 = .ok (.newarray .int, 2) := by decide +kernel
theorem dX12_init_55 : decode cX12_init 55 = .ok (.putfield 29, 3) := by decide +kernel
theorem dX12_init_58 : decode cX12_init 58 = .ok (.aload_n 0, 1) := by decide +kernel
theorem dX12_init_59 : decode cX12_init 59 = .ok (.bipush 108, 2) := by decide +kernel
theorem dX12_init_61 : decode cX12_init 61 = .ok (.newarray .int, 2) := by decide +kernel
theorem dX12_init_63 : decode cX12_init 63 = .ok (.putfield 32, 3) := by decide +kernel
theorem dX12_init_66 : decode cX12_init 66 = .ok (.aload_n 0, 1) := by decide +kernel
theorem dX12_init_67 : decode cX12_init 67 = .ok (.bipush 9, 2) := by decide +kernel
theorem dX12_init_69 : decode cX12_init 69 = .ok (.newarray .int, 2) := by decide +kernel
theorem dX12_init_71 : decode cX12_init 71 = .ok (.putfield 35, 3) := by decide +kernel
theorem dX12_init_74 : decode cX12_init 74 = .ok (.aload_n 0, 1) := by decide +kernel
theorem dX12_init_75 : decode cX12_init 75 = .ok (.bipush 9, 2) := by decide +kernel
theorem dX12_init_77 : decode cX12_init 77 = .ok (.newarray .int, 2) := by decide +kernel
theorem dX12_init_79 : decode cX12_init 79 = .ok (.putfield 38, 3) := by decide +kernel
theorem dX12_init_82 : decode cX12_init 82 = .ok (.aload_n 0, 1) := by decide +kernel
theorem dX12_init_83 : decode cX12_init 83 = .ok (.bipush 9, 2) := by decide +kernel
theorem dX12_init_85 : decode cX12_init 85 = .ok (.newarray .int, 2) := by decide +kernel
theorem dX12_init_87 : decode cX12_init 87 = .ok (.putfield 41, 3) := by decide +kernel
theorem dX12_init_90 : decode cX12_init 90 = .ok (.aload_n 0, 1) := by decide +kernel
theorem dX12_init_91 : decode cX12_init 91 = .ok (.bipush 28, 2) := by decide +kernel
theorem dX12_init_93 : decode cX12_init 93 = .ok (.newarray .int, 2) := by decide +kernel
theorem dX12_init_95 : decode cX12_init 95 = .ok (.putfield 44, 3) := by decide +kernel
theorem dX12_init_98 : decode cX12_init 98 = .ok (.aload_n 0, 1) := by decide +kernel
theorem dX12_init_99 : decode cX12_init 99 = .ok (.sipush 150, 3) := by decide +kernel
theorem dX12_init_102 : decode cX12_init 102 = .ok (.newarray .int, 2) := by decide +kernel
theorem dX12_init_104 : decode cX12_init 104 = .ok (.putfield 47, 3) := by decide +kernel
theorem dX12_init_107 : decode cX12_init 107 = .ok (.aload_n 0, 1) := by decide +kernel
theorem dX12_init_108 : decode cX12_init 108 = .ok (.sipush 4608, 3) := by decide +kernel
theorem dX12_init_111 : decode cX12_init 111 = .ok (.newarray .long, 2) := by decide +kernel
theorem dX12_init_113 : decode cX12_init 113 = .ok (.putfield 50, 3) := by decide +kernel
theorem dX12_init_116 : decode cX12_init 116 = .ok (.aload_n 0, 1) := by decide +kernel
theorem dX12_init_117 : decode cX12_init 117 = .ok (.sipush 4608, 3) := by decide +kernel
theorem dX12_init_120 : decode cX12_init 120 = .ok (.newarray .long, 2) := by decide +kernel
theorem dX12_init_122 : decode cX12_init 122 = .ok (.putfield 54, 3) := by decide +kernel
theorem dX12_init_125 : decode cX12_init 125 = .ok (.aload_n 0, 1) := by decide +kernel
theorem dX12_init_126 : decode cX12_init 126 = .ok (.bipush 9, 2) := by decide +kernel
theorem dX12_init_128 : decode cX12_init 128 = .ok (.newarray .int, 2) := by decide +kernel
theorem dX12_init_130 : decode cX12_init 130 = .ok (.putfield 57, 3) := by decide +kernel
theorem dX12_init_133 : decode cX12_init 133 = .ok (.aload_n 0, 1) := by decide +kernel
theorem dX12_init_134 : decode cX12_init 134 = .ok (.bipush 9, 2) := by decide +kernel
theorem dX12_init_136 : decode cX12_init 136 = .ok (.newarray .int, 2) := by decide +kernel
theorem dX12_init_138 : decode cX12_init 138 = .ok (.putfield 60, 3) := by decide +kernel
theorem dX12_init_141 : decode cX12_init 141 = .ok (.aload_n 0, 1) := by decide +kernel
theorem dX12_init_142 : decode cX12_init 142 = .ok (.sipush 256, 3) := by decide +kernel
theorem dX12_init_145 : decode cX12_init 145 = .ok (.newarray .int, 2) := by decide +kernel
theorem dX12_init_147 : decode cX12_init 147 = .ok (.putfield 63, 3) := by decide +kernel
theorem dX12_init_150 : decode cX12_init 150 = .ok (.aload_n 0, 1) := by decide +kernel
theorem dX12_init_151 : decode cX12_init 151 = .ok (.sipush 256, 3) := by decide +kernel
theorem dX12_init_154 : decode cX12_init 154 = .ok (.newarray .int, 2) := by decide +kernel
theorem dX12_init_156 : decode cX12_init 156 = .ok (.putfield 66, 3) := by decide +kernel
theorem dX12_init_159 : decode cX12_init 159 = .ok (.aload_n 0, 1) := by decide +kernel
theorem dX12_init_160 : decode cX12_init 160 = .ok (.sipush 400, 3) := by decide +kernel
theorem dX12_init_163 : decode cX12_init 163 = .ok (.newarray .int, 2) := by decide +kernel
theorem dX12_init_165 : decode cX12_init 165 = .ok (.putfield 69, 3) := by decide +kernel
theorem dX12_init_168 : decode cX12_init 168 = .ok (.aload_n 0, 1) := by decide +kernel
theorem dX12_init_169 : decode cX12_init 169 = .ok (.bipush 9, 2) := by decide +kernel
theorem dX12_init_171 : decode cX12_init 171 = .ok (.newarray .int, 2) := by decide +kernel
theorem dX12_init_173 : decode cX12_init 173 = .ok (.putfield 72, 3) := by decide +kernel
theorem dX12_init_176 : decode cX12_init 176 = .ok (.aload_n 0, 1) := by decide +kernel
theorem dX12_init_177 : decode cX12_init 177 = .ok (.bipush 9, 2) := by decide +kernel
theorem dX12_init_179 : decode cX12_init 179 = .ok (.newarray .int, 2) := by decide +kernel
theorem dX12_init_181 : decode cX12_init 181 = .ok (.putfield 75, 3) := by decide +kernel
theorem dX12_init_184 : decode cX12_init 184 = .ok (.iconst 0, 1) := by decide +kernel
theorem dX12_init_185 : decode cX12_init 185 = .ok (.istore_n 1, 1) := by decide +kernel
theorem dX12_init_186 : decode cX12_init 186 = .ok (.iload_n 1, 1) := by decide +kernel
theorem dX12_init_187 : decode cX12_init 187 = .ok (.bipush 6, 2) := by decide +kernel
theorem dX12_init_189 : decode cX12_init 189 = .ok (.if_icmp .ge 17, 3) := by decide +kernel
theorem dX12_init_192 : decode cX12_init 192 = .ok (.aload_n 0, 1) := by decide +kernel
theorem dX12_init_193 : decode cX12_init 193 = .ok (.getfield 17, 3) := by decide +kernel
theorem dX12_init_196 : decode cX12_init 196 = .ok (.iload_n 1, 1) := by decide +kernel
theorem dX12_init_197 : decode cX12_init 197 = .ok (.bipush (-9), 2) := by decide +kernel
theorem dX12_init_199 : decode cX12_init 199 = .ok (.iastore, 1) := by decide +kernel
theorem dX12_init_200 : decode cX12_init 200 = .ok (.iinc 1 1, 3) := by decide +kernel
theorem dX12_init_203 : decode cX12_init 203 = .ok (.goto (-17), 3) := by decide +kernel
theorem dX12_init_206 : decode cX12_init 206 = .ok (.iconst 0, 1) := by decide +kernel
theorem dX12_init_207 : decode cX12_init 207 = .ok (.istore_n 1, 1) := by decide +kernel
theorem dX12_init_208 : decode cX12_init 208 = .ok (.iload_n 1, 1) := by decide +kernel
theorem dX12_init_209 : decode cX12_init 209 = .ok (.iconst 4, 1) := by decide +kernel
theorem dX12_init_210 : decode cX12_init 210 = .ok (.if_icmp .ge 17, 3) := by decide +kernel
theorem dX12_init_213 : decode cX12_init 213 = .ok (.aload_n 0, 1) := by decide +kernel
theorem dX12_init_214 : decode cX12_init 214 = .ok (.getfield 26, 3) := by decide +kernel
theorem dX12_init_217 : decode cX12_init 217 = .ok (.iload_n 1, 1) := by decide +kernel
theorem dX12_init_218 : decode cX12_init 218 = .ok (.bipush (-9), 2) := by decide +kernel
theorem dX12_init_220 : decode cX12_init 220 = .ok (.iastore, 1) := by decide +kernel
theorem dX12_init_221 : decode cX12_init 221 = .ok (.iinc 1 1, 3) := by decide +kernel
theorem dX12_init_224 : decode cX12_init 224 = .ok (.goto (-16), 3) := by decide +kernel
theorem dX12_init_227 : decode cX12_init 227 = .ok (.iconst 0, 1) := by decide +kernel
theorem dX12_init_228 : decode cX12_init 228 = .ok (.istore_n 1, 1) := by decide +kernel
theorem dX12_init_229 : decode cX12_init 229 = .ok (.iload_n 1, 1) := by decide +kernel
theorem dX12_init_230 : decode cX12_init 230 = .ok (.iconst 3, 1) := by decide +kernel
theorem dX12_init_231 : decode cX12_init 231 = .ok (.if_icmp .ge 20, 3) := by decide +kernel
theorem dX12_init_234 : decode cX12_init 234 = .ok (.aload_n 0, 1) := by decide +kernel
theorem dX12_init_235 : decode cX12_init 235 = .ok (.getfield 47, 3) := by decide +kernel
theorem dX12_init_238 : decode cX12_init 238 = .ok (.bipush 50, 2) := by decide +kernel
theorem dX12_init_240 : decode cX12_init 240 = .ok (.iload_n 1, 1) := by decide +kernel
theorem dX12_init_241 : decode cX12_init 241 = .ok (.imul, 1) := by decide +kernel
theorem dX12_init_242 : decode cX12_init 242 = .ok (.bipush (-9), 2) := by decide +kernel
theorem dX12_init_244 : decode cX12_init 244 = .ok (.iastore, 1) := by decide +kernel
theorem dX12_init_245 : decode cX12_init 245 = .ok (.iinc 1 1, 3) := by decide +kernel
theorem dX12_init_248 : decode cX12_init 248 = .ok (.goto (-19), 3) := by decide +kernel
theorem dX12_init_251 : decode cX12_init 251 = .ok (.return_, 1) := by decide +kernel
theorem dX12_in_0 : decode cX12_in 0 = .ok (.iload_n 0, 1) := by decide +kernel
theorem dX12_in_1 : decode cX12_in 1 = .ok (.iload_n 1, 1) := by decide +kernel
theorem dX12_in_2 : decode cX12_in 2 = .ok (.if_icmp .lt 12, 3) := by decide +kernel
theorem dX12_in_5 : decode cX12_in 5 = .ok (.iload_n 0, 1) := by decide +kernel
theorem dX12_in_6 : decode cX12_in 6 = .ok (.iload_n 2, 1) := by decide +kernel
theorem dX12_in_7 : decode cX12_in 7 = .ok (.if_icmp .gt 7, 3) := by decide +kernel
theorem dX12_in_10 : decode cX12_in 10 = .ok (.iconst 1, 1) := by decide +kernel
theorem dX12_in_11 : decode cX12_in 11 = .ok (.goto 4, 3) := by decide +kernel
theorem dX12_in_14 : decode cX12_in 14 = .ok (.iconst 0, 1) := by decide +kernel
theorem dX12_in_15 : decode cX12_in 15 = .ok (.ireturn, 1) := by decide +kernel
theorem dX12_meet_0 : decode cX12_meet 0 = .ok (.aload_n 0, 1) := by decide +kernel
theorem dX12_meet_1 : decode cX12_meet 1 = .ok (.iload_n 1, 1) := by decide +kernel
theorem dX12_meet_2 : decode cX12_meet 2 = .ok (.putfield 78, 3) := by decide +kernel
theorem dX12_meet_5 : decode cX12_meet 5 = .ok (.aload_n 0, 1) := by decide +kernel
theorem dX12_meet_6 : decode cX12_meet 6 = .ok (.getfield 7, 3) := by decide +kernel
theorem dX12_meet_9 : decode cX12_meet 9 = .ok (.iload_n 1, 1) := by decide +kernel
theorem dX12_meet_10 : decode cX12_meet 10 = .ok (.dup2, 1) := by decide +kernel
theorem dX12_meet_11 : decode cX12_meet 11 = .ok (.iaload, 1) := by decide +kernel
theorem dX12_meet_12 : decode cX12_meet 12 = .ok (.iconst 1, 1) := by decide +kernel
theorem dX12_meet_13 : decode cX12_meet 13 = .ok (.iadd, 1) := by decide +kernel
theorem dX12_meet_14 : decode cX12_meet 14 = .ok (.iastore, 1) := by decide +kernel
theorem dX12_meet_15 : decode cX12_meet 15 = .ok (.bipush (-3), 2) := by decide +kernel
theorem dX12_meet_17 : decode cX12_meet 17 = .ok (.ireturn, 1) := by decide +kernel
theorem dX12_say_0 : decode cX12_say 0 = .ok (.aload_n 0, 1) := by decide +kernel
theorem dX12_say_1 : decode cX12_say 1 = .ok (.iload_n 1, 1) := by decide +kernel
theorem dX12_say_2 : decode cX12_say 2 = .ok (.putfield 82, 3) := by decide +kernel
theorem dX12_say_5 : decode cX12_say 5 = .ok (.iload_n 2, 1) := by decide +kernel
theorem dX12_say_6 : decode cX12_say 6 = .ok (.ireturn, 1) := by decide +kernel
theorem dX12_part_0 : decode cX12_part 0 = .ok (.lload_n 1, 1) := by decide +kernel
theorem dX12_part_1 : decode cX12_part 1 = .ok (.lstore 6, 2) := by decide +kernel
theorem dX12_part_3 : decode cX12_part 3 = .ok (.lload_n 3, 1) := by decide +kernel
theorem dX12_part_4 : decode cX12_part 4 = .ok (.lstore 8, 2) := by decide +kernel
theorem dX12_part_6 : decode cX12_part 6 = .ok (.lload 8, 2) := by decide +kernel
theorem dX12_part_8 : decode cX12_part 8 = .ok (.lconst 0, 1) := by decide +kernel
theorem dX12_part_9 : decode cX12_part 9 = .ok (.lcmp, 1) := by decide +kernel
theorem dX12_part_10 : decode cX12_part 10 = .ok (.ifCond .eq 21, 3) := by decide +kernel
theorem dX12_part_13 : decode cX12_part 13 = .ok (.lload 6, 2) := by decide +kernel
theorem dX12_part_15 : decode cX12_part 15 = .ok (.lload 8, 2) := by decide +kernel
theorem dX12_part_17 : decode cX12_part 17 = .ok (.lrem, 1) := by decide +kernel
theorem dX12_part_18 : decode cX12_part 18 = .ok (.lstore 10, 2) := by decide +kernel
theorem dX12_part_20 : decode cX12_part 20 = .ok (.lload 8, 2) := by decide +kernel
theorem dX12_part_22 : decode cX12_part 22 = .ok (.lstore 6, 2) := by decide +kernel
theorem dX12_part_24 : decode cX12_part 24 = .ok (.lload 10, 2) := by decide +kernel
theorem dX12_part_26 : decode cX12_part 26 = .ok (.lstore 8, 2) := by decide +kernel
theorem dX12_part_28 : decode cX12_part 28 = .ok (.goto (-22), 3) := by decide +kernel
theorem dX12_part_31 : decode cX12_part 31 = .ok (.aload_n 0, 1) := by decide +kernel
theorem dX12_part_32 : decode cX12_part 32 = .ok (.lload_n 1, 1) := by decide +kernel
theorem dX12_part_33 : decode cX12_part 33 = .ok (.lload 6, 2) := by decide +kernel
theorem dX12_part_35 : decode cX12_part 35 = .ok (.ldiv, 1) := by decide +kernel
theorem dX12_part_36 : decode cX12_part 36 = .ok (.putfield 85, 3) := by decide +kernel
theorem dX12_part_39 : decode cX12_part 39 = .ok (.aload_n 0, 1) := by decide +kernel
theorem dX12_part_40 : decode cX12_part 40 = .ok (.lload_n 3, 1) := by decide +kernel
theorem dX12_part_41 : decode cX12_part 41 = .ok (.lload 6, 2) := by decide +kernel
theorem dX12_part_43 : decode cX12_part 43 = .ok (.ldiv, 1) := by decide +kernel
theorem dX12_part_44 : decode cX12_part 44 = .ok (.putfield 13, 3) := by decide +kernel
theorem dX12_part_47 : decode cX12_part 47 = .ok (.iload 5, 2) := by decide +kernel
theorem dX12_part_49 : decode cX12_part 49 = .ok (.ireturn, 1) := by decide +kernel
theorem dX12_has_0 : decode cX12_has 0 = .ok (.iload_n 0, 1) := by decide +kernel
theorem dX12_has_1 : decode cX12_has 1 = .ok (.iload_n 1, 1) := by decide +kernel
theorem dX12_has_2 : decode cX12_has 2 = .ok (.ishr, 1) := by decide +kernel
theorem dX12_has_3 : decode cX12_has 3 = .ok (.iconst 1, 1) := by decide +kernel
theorem dX12_has_4 : decode cX12_has 4 = .ok (.iand, 1) := by decide +kernel
theorem dX12_has_5 : decode cX12_has 5 = .ok (.iconst 1, 1) := by decide +kernel
theorem dX12_has_6 : decode cX12_has 6 = .ok (.if_icmp .ne 7, 3) := by decide +kernel
theorem dX12_has_9 : decode cX12_has 9 = .ok (.iconst 1, 1) := by decide +kernel
theorem dX12_has_10 : decode cX12_has 10 = .ok (.goto 4, 3) := by decide +kernel
theorem dX12_has_13 : decode cX12_has 13 = .ok (.iconst 0, 1) := by decide +kernel
theorem dX12_has_14 : decode cX12_has 14 = .ok (.ireturn, 1) := by decide +kernel
theorem dX12_isRow_0 : decode cX12_isRow 0 = .ok (.iload_n 0, 1) := by decide +kernel
theorem dX12_isRow_1 : decode cX12_isRow 1 = .ok (.iconst 0, 1) := by decide +kernel
theorem dX12_isRow_2 : decode cX12_isRow 2 = .ok (.iconst 5, 1) := by decide +kernel
theorem dX12_isRow_3 : decode cX12_isRow 3 = .ok (.invokestatic 88, 3) := by decide +kernel
theorem dX12_isRow_6 : decode cX12_isRow 6 = .ok (.ireturn, 1) := by decide +kernel
theorem dX12_isText_0 : decode cX12_isText 0 = .ok (.iload_n 0, 1) := by decide +kernel
theorem dX12_isText_1 : decode cX12_isText 1 = .ok (.iconst 0, 1) := by decide +kernel
theorem dX12_isText_2 : decode cX12_isText 2 = .ok (.iconst 3, 1) := by decide +kernel
theorem dX12_isText_3 : decode cX12_isText 3 = .ok (.invokestatic 88, 3) := by decide +kernel
theorem dX12_isText_6 : decode cX12_isText 6 = .ok (.ireturn, 1) := by decide +kernel
theorem dX12_askedRow_0 : decode cX12_askedRow 0 = .ok (.iload_n 1, 1) := by decide +kernel
theorem dX12_askedRow_1 : decode cX12_askedRow 1 = .ok (.invokestatic 92, 3) := by decide +kernel
theorem dX12_askedRow_4 : decode cX12_askedRow 4 = .ok (.ifCond .ne 7, 3) := by decide +kernel
theorem dX12_askedRow_7 : decode cX12_askedRow 7 = .ok (.iconst (-1), 1) := by decide +kernel
theorem dX12_askedRow_8 : decode cX12_askedRow 8 = .ok (.goto 21, 3) := by decide +kernel
theorem dX12_askedRow_11 : decode cX12_askedRow 11 = .ok (.aload_n 0, 1) := by decide +kernel
theorem dX12_askedRow_12 : decode cX12_askedRow 12 = .ok (.getfield 17, 3) := by decide +kernel
theorem dX12_askedRow_15 : decode cX12_askedRow 15 = .ok (.iload_n 1, 1) := by decide +kernel
theorem dX12_askedRow_16 : decode cX12_askedRow 16 = .ok (.iaload, 1) := by decide +kernel
theorem dX12_askedRow_17 : decode cX12_askedRow 17 = .ok (.ifCond .ge 11, 3) := by decide +kernel
theorem dX12_askedRow_20 : decode cX12_askedRow 20 = .ok (.aload_n 0, 1) := by decide +kernel
theorem dX12_askedRow_21 : decode cX12_askedRow 21 = .ok (.iconst 1, 1) := by decide +kernel
theorem dX12_askedRow_22 : decode cX12_askedRow 22 = .ok (.invokevirtual 96, 3) := by decide +kernel
theorem dX12_askedRow_25 : decode cX12_askedRow 25 = .ok (.goto 4, 3) := by decide +kernel
theorem dX12_askedRow_28 : decode cX12_askedRow 28 = .ok (.iconst 0, 1) := by decide +kernel
theorem dX12_askedRow_29 : decode cX12_askedRow 29 = .ok (.ireturn, 1) := by decide +kernel
theorem dX12_askedText_0 : decode cX12_askedText 0 = .ok (.iload_n 1, 1) := by decide +kernel
theorem dX12_askedText_1 : decode cX12_askedText 1 = .ok (.invokestatic 100, 3) := by decide +kernel
theorem dX12_askedText_4 : decode cX12_askedText 4 = .ok (.ifCond .ne 7, 3) := by decide +kernel
theorem dX12_askedText_7 : decode cX12_askedText 7 = .ok (.iconst (-1), 1) := by decide +kernel
theorem dX12_askedText_8 : decode cX12_askedText 8 = .ok (.goto 21, 3) := by decide +kernel
theorem dX12_askedText_11 : decode cX12_askedText 11 = .ok (.aload_n 0, 1) := by decide +kernel
theorem dX12_askedText_12 : decode cX12_askedText 12 = .ok (.getfield 26, 3) := by decide +kernel
theorem dX12_askedText_15 : decode cX12_askedText 15 = .ok (.iload_n 1, 1) := by decide +kernel
theorem dX12_askedText_16 : decode cX12_askedText 16 = .ok (.iaload, 1) := by decide +kernel
theorem dX12_askedText_17 : decode cX12_askedText 17 = .ok (.ifCond .ge 11, 3) := by decide +kernel
theorem dX12_askedText_20 : decode cX12_askedText 20 = .ok (.aload_n 0, 1) := by decide +kernel
theorem dX12_askedText_21 : decode cX12_askedText 21 = .ok (.iconst 1, 1) := by decide +kernel
theorem dX12_askedText_22 : decode cX12_askedText 22 = .ok (.invokevirtual 96, 3) := by decide +kernel
theorem dX12_askedText_25 : decode cX12_askedText 25 = .ok (.goto 4, 3) := by decide +kernel
theorem dX12_askedText_28 : decode cX12_askedText 28 = .ok (.iconst 0, 1) := by decide +kernel
theorem dX12_askedText_29 : decode cX12_askedText 29 = .ok (.ireturn, 1) := by decide +kernel
theorem dX12_rowAt_0 : decode cX12_rowAt 0 = .ok (.aload_n 0, 1) := by decide +kernel
theorem dX12_rowAt_1 : decode cX12_rowAt 1 = .ok (.getfield 20, 3) := by decide +kernel
theorem dX12_rowAt_4 : decode cX12_rowAt 4 = .ok (.bipush 40, 2) := by decide +kernel
theorem dX12_rowAt_6 : decode cX12_rowAt 6 = .ok (.iload_n 1, 1) := by decide +kernel
theorem dX12_rowAt_7 : decode cX12_rowAt 7 = .ok (.imul, 1) := by decide +kernel
theorem dX12_rowAt_8 : decode cX12_rowAt 8 = .ok (.iload_n 2, 1) := by decide +kernel
theorem dX12_rowAt_9 : decode cX12_rowAt 9 = .ok (.iadd, 1) := by decide +kernel
theorem dX12_rowAt_10 : decode cX12_rowAt 10 = .ok (.iaload, 1) := by decide +kernel
theorem dX12_rowAt_11 : decode cX12_rowAt 11 = .ok (.ireturn, 1) := by decide +kernel
theorem dX12_setRow_0 : decode cX12_setRow 0 = .ok (.aload_n 0, 1) := by decide +kernel
theorem dX12_setRow_1 : decode cX12_setRow 1 = .ok (.getfield 20, 3) := by decide +kernel
theorem dX12_setRow_4 : decode cX12_setRow 4 = .ok (.bipush 40, 2) := by decide +kernel
theorem dX12_setRow_6 : decode cX12_setRow 6 = .ok (.iload_n 1, 1) := by decide +kernel
theorem dX12_setRow_7 : decode cX12_setRow 7 = .ok (.imul, 1) := by decide +kernel
theorem dX12_setRow_8 : decode cX12_setRow 8 = .ok (.iload_n 2, 1) := by decide +kernel
theorem dX12_setRow_9 : decode cX12_setRow 9 = .ok (.iadd, 1) := by decide +kernel
theorem dX12_setRow_10 : decode cX12_setRow 10 = .ok (.iload_n 3, 1) := by decide +kernel
theorem dX12_setRow_11 : decode cX12_setRow 11 = .ok (.iastore, 1) := by decide +kernel
theorem dX12_setRow_12 : decode cX12_setRow 12 = .ok (.return_, 1) := by decide +kernel
theorem dX12_row_0 : decode cX12_row 0 = .ok (.iload_n 1, 1) := by decide +kernel
theorem dX12_row_1 : decode cX12_row 1 = .ok (.invokestatic 92, 3) := by decide +kernel
theorem dX12_row_4 : decode cX12_row 4 = .ok (.ifCond .eq 9, 3) := by decide +kernel
theorem dX12_row_7 : decode cX12_row 7 = .ok (.iload_n 2, 1) := by decide +kernel
theorem dX12_row_8 : decode cX12_row 8 = .ok (.bipush 40, 2) := by decide +kernel
theorem dX12_row_10 : decode cX12_row 10 = .ok (.if_icmp .le 5, 3) := by decide +kernel
theorem dX12_row_13 : decode cX12_row 13 = .ok (.iconst (-1), 1) := by decide +kernel
theorem dX12_row_14 : decode cX12_row 14 = .ok (.ireturn, 1) := by decide +kernel
theorem dX12_row_15 : decode cX12_row 15 = .ok (.iload_n 2, 1) := by decide +kernel
theorem dX12_row_16 : decode cX12_row 16 = .ok (.ifCond .ge 9, 3) := by decide +kernel
theorem dX12_row_19 : decode cX12_row 19 = .ok (.aload_n 0, 1) := by decide +kernel
theorem dX12_row_20 : decode cX12_row 20 = .ok (.iconst 5, 1) := by decide +kernel
theorem dX12_row_21 : decode cX12_row 21 = .ok (.invokevirtual 96, 3) := by decide +kernel
theorem dX12_row_24 : decode cX12_row 24 = .ok (.ireturn, 1) := by decide +kernel
theorem dX12_row_25 : decode cX12_row 25 = .ok (.aload_n 0, 1) := by decide +kernel
theorem dX12_row_26 : decode cX12_row 26 = .ok (.getfield 17, 3) := by decide +kernel
theorem dX12_row_29 : decode cX12_row 29 = .ok (.iload_n 1, 1) := by decide +kernel
theorem dX12_row_30 : decode cX12_row 30 = .ok (.iload_n 2, 1) := by decide +kernel
theorem dX12_row_31 : decode cX12_row 31 = .ok (.iastore, 1) := by decide +kernel
theorem dX12_row_32 : decode cX12_row 32 = .ok (.iconst 0, 1) := by decide +kernel
theorem dX12_row_33 : decode cX12_row 33 = .ok (.istore_n 3, 1) := by decide +kernel
theorem dX12_row_34 : decode cX12_row 34 = .ok (.iload_n 3, 1) := by decide +kernel
theorem dX12_row_35 : decode cX12_row 35 = .ok (.bipush 40, 2) := by decide +kernel
theorem dX12_row_37 : decode cX12_row 37 = .ok (.if_icmp .ge 16, 3) := by decide +kernel
theorem dX12_row_40 : decode cX12_row 40 = .ok (.aload_n 0, 1) := by decide +kernel
theorem dX12_row_41 : decode cX12_row 41 = .ok (.iload_n 1, 1) := by decide +kernel
theorem dX12_row_42 : decode cX12_row 42 = .ok (.iload_n 3, 1) := by decide +kernel
theorem dX12_row_43 : decode cX12_row 43 = .ok (.iconst 0, 1) := by decide +kernel
theorem dX12_row_44 : decode cX12_row 44 = .ok (.invokevirtual 103, 3) := by decide +kernel
theorem dX12_row_47 : decode cX12_row 47 = .ok (.iinc 3 1, 3) := by decide +kernel
theorem dX12_row_50 : decode cX12_row 50 = .ok (.goto (-16), 3) := by decide +kernel
theorem dX12_row_53 : decode cX12_row 53 = .ok (.iload_n 2, 1) := by decide +kernel
theorem dX12_row_54 : decode cX12_row 54 = .ok (.ireturn, 1) := by decide +kernel
theorem dX12_at_0 : decode cX12_at 0 = .ok (.aload_n 0, 1) := by decide +kernel
theorem dX12_at_1 : decode cX12_at 1 = .ok (.iload_n 1, 1) := by decide +kernel
theorem dX12_at_2 : decode cX12_at 2 = .ok (.invokevirtual 107, 3) := by decide +kernel
theorem dX12_at_5 : decode cX12_at 5 = .ok (.istore_n 3, 1) := by decide +kernel
theorem dX12_at_6 : decode cX12_at 6 = .ok (.iload_n 3, 1) := by decide +kernel
theorem dX12_at_7 : decode cX12_at 7 = .ok (.ifCond .ge 5, 3) := by decide +kernel
theorem dX12_at_10 : decode cX12_at 10 = .ok (.iload_n 3, 1) := by decide +kernel
theorem dX12_at_11 : decode cX12_at 11 = .ok (.ireturn, 1) := by decide +kernel
theorem dX12_at_12 : decode cX12_at 12 = .ok (.iload_n 2, 1) := by decide +kernel
theorem dX12_at_13 : decode cX12_at 13 = .ok (.iconst 0, 1) := by decide +kernel
theorem dX12_at_14 : decode cX12_at 14 = .ok (.aload_n 0, 1) := by decide +kernel
theorem dX12_at_15 : decode cX12_at 15 = .ok (.getfield 17, 3) := by decide +kernel
theorem dX12_at_18 : decode cX12_at 18 = .ok (.iload_n 1, 1) := by decide +kernel
theorem dX12_at_19 : decode cX12_at 19 = .ok (.iaload, 1) := by decide +kernel
theorem dX12_at_20 : decode cX12_at 20 = .ok (.iconst 1, 1) := by decide +kernel
theorem dX12_at_21 : decode cX12_at 21 = .ok (.isub, 1) := by decide +kernel
theorem dX12_at_22 : decode cX12_at 22 = .ok (.invokestatic 88, 3) := by decide +kernel
theorem dX12_at_25 : decode cX12_at 25 = .ok (.ifCond .eq 17, 3) := by decide +kernel
theorem dX12_at_28 : decode cX12_at 28 = .ok (.aload_n 0, 1) := by decide +kernel
theorem dX12_at_29 : decode cX12_at 29 = .ok (.aload_n 0, 1) := by decide +kernel
theorem dX12_at_30 : decode cX12_at 30 = .ok (.iload_n 1, 1) := by decide +kernel
theorem dX12_at_31 : decode cX12_at 31 = .ok (.iload_n 2, 1) := by decide +kernel
theorem dX12_at_32 : decode cX12_at 32 = .ok (.invokevirtual 110, 3) := by decide +kernel
theorem dX12_at_35 : decode cX12_at 35 = .ok (.iconst 1, 1) := by decide +kernel
theorem dX12_at_36 : decode cX12_at 36 = .ok (.invokevirtual 114, 3) := by decide +kernel
theorem dX12_at_39 : decode cX12_at 39 = .ok (.goto 8, 3) := by decide +kernel
theorem dX12_at_42 : decode cX12_at 42 = .ok (.aload_n 0, 1) := by decide +kernel
theorem dX12_at_43 : decode cX12_at 43 = .ok (.iconst 2, 1) := by decide +kernel
theorem dX12_at_44 : decode cX12_at 44 = .ok (.invokevirtual 96, 3) := by decide +kernel
theorem dX12_at_47 : decode cX12_at 47 = .ok (.ireturn, 1) := by decide +kernel
theorem dX12_lay_0 : decode cX12_lay 0 = .ok (.aload_n 0, 1) := by decide +kernel
theorem dX12_lay_1 : decode cX12_lay 1 = .ok (.iload_n 1, 1) := by decide +kernel
theorem dX12_lay_2 : decode cX12_lay 2 = .ok (.iload_n 2, 1) := by decide +kernel
theorem dX12_lay_3 : decode cX12_lay 3 = .ok (.invokevirtual 117, 3) := by decide +kernel
theorem dX12_lay_6 : decode cX12_lay 6 = .ok (.istore 4, 2) := by decide +kernel
theorem dX12_lay_8 : decode cX12_lay 8 = .ok (.iload 4, 2) := by decide +kernel
theorem dX12_lay_10 : decode cX12_lay 10 = .ok (.ifCond .ge 6, 3) := by decide +kernel
theorem dX12_lay_13 : decode cX12_lay 13 = .ok (.iload 4, 2) := by decide +kernel
theorem dX12_lay_15 : decode cX12_lay 15 = .ok (.ireturn, 1) := by decide +kernel
theorem dX12_lay_16 : decode cX12_lay 16 = .ok (.aload_n 0, 1) := by decide +kernel
theorem dX12_lay_17 : decode cX12_lay 17 = .ok (.iload_n 1, 1) := by decide +kernel
theorem dX12_lay_18 : decode cX12_lay 18 = .ok (.iload_n 2, 1) := by decide +kernel
theorem dX12_lay_19 : decode cX12_lay 19 = .ok (.iload_n 3, 1) := by decide +kernel
theorem dX12_lay_20 : decode cX12_lay 20 = .ok (.invokevirtual 103, 3) := by decide +kernel
theorem dX12_lay_23 : decode cX12_lay 23 = .ok (.iconst 1, 1) := by decide +kernel
theorem dX12_lay_24 : decode cX12_lay 24 = .ok (.ireturn, 1) := by decide +kernel
theorem dX12_tear_0 : decode cX12_tear 0 = .ok (.aload_n 0, 1) := by decide +kernel
theorem dX12_tear_1 : decode cX12_tear 1 = .ok (.iload_n 1, 1) := by decide +kernel
theorem dX12_tear_2 : decode cX12_tear 2 = .ok (.invokevirtual 107, 3) := by decide +kernel
theorem dX12_tear_5 : decode cX12_tear 5 = .ok (.istore_n 2, 1) := by decide +kernel
theorem dX12_tear_6 : decode cX12_tear 6 = .ok (.iload_n 2, 1) := by decide +kernel
theorem dX12_tear_7 : decode cX12_tear 7 = .ok (.ifCond .ge 5, 3) := by decide +kernel
theorem dX12_tear_10 : decode cX12_tear 10 = .ok (.iload_n 2, 1) := by decide +kernel
theorem dX12_tear_11 : decode cX12_tear 11 = .ok (.ireturn, 1) := by decide +kernel
theorem dX12_tear_12 : decode cX12_tear 12 = .ok (.aload_n 0, 1) := by decide +kernel
theorem dX12_tear_13 : decode cX12_tear 13 = .ok (.getfield 17, 3) := by decide +kernel
theorem dX12_tear_16 : decode cX12_tear 16 = .ok (.iload_n 1, 1) := by decide +kernel
theorem dX12_tear_17 : decode cX12_tear 17 = .ok (.bipush (-9), 2) := by decide +kernel
theorem dX12_tear_19 : decode cX12_tear 19 = .ok (.iastore, 1) := by decide +kernel
theorem dX12_tear_20 : decode cX12_tear 20 = .ok (.iconst 1, 1) := by decide +kernel
theorem dX12_tear_21 : decode cX12_tear 21 = .ok (.ireturn, 1) := by decide +kernel
theorem dX12_copy_0 : decode cX12_copy 0 = .ok (.iload_n 1, 1) := by decide +kernel
theorem dX12_copy_1 : decode cX12_copy 1 = .ok (.invokestatic 92, 3) := by decide +kernel
theorem dX12_copy_4 : decode cX12_copy 4 = .ok (.ifCond .eq 10, 3) := by decide +kernel
theorem dX12_copy_7 : decode cX12_copy 7 = .ok (.iload_n 3, 1) := by decide +kernel
theorem dX12_copy_8 : decode cX12_copy 8 = .ok (.invokestatic 92, 3) := by decide +kernel
theorem dX12_copy_11 : decode cX12_copy 11 = .ok (.ifCond .ne 5, 3) := by decide +kernel
theorem dX12_copy_14 : decode cX12_copy 14 = .ok (.iconst (-1), 1) := by decide +kernel
theorem dX12_copy_15 : decode cX12_copy 15 = .ok (.ireturn, 1) := by decide +kernel
theorem dX12_copy_16 : decode cX12_copy 16 = .ok (.iload 5, 2) := by decide +kernel
theorem dX12_copy_18 : decode cX12_copy 18 = .ok (.ifCond .ge 9, 3) := by decide +kernel
theorem dX12_copy_21 : decode cX12_copy 21 = .ok (.aload_n 0, 1) := by decide +kernel
theorem dX12_copy_22 : decode cX12_copy 22 = .ok (.iconst 5, 1) := by decide +kernel
theorem dX12_copy_23 : decode cX12_copy 23 = .ok (.invokevirtual 96, 3) := by decide +kernel
theorem dX12_copy_26 : decode cX12_copy 26 = .ok (.ireturn, 1) := by decide +kernel
theorem dX12_copy_27 : decode cX12_copy 27 = .ok (.aload_n 0, 1) := by decide +kernel
theorem dX12_copy_28 : decode cX12_copy 28 = .ok (.getfield 17, 3) := by decide +kernel
theorem dX12_copy_31 : decode cX12_copy 31 = .ok (.iload_n 1, 1) := by decide +kernel
theorem dX12_copy_32 : decode cX12_copy 32 = .ok (.iaload, 1) := by decide +kernel
theorem dX12_copy_33 : decode cX12_copy 33 = .ok (.ifCond .lt 12, 3) := by decide +kernel
theorem dX12_copy_36 : decode cX12_copy 36 = .ok (.aload_n 0, 1) := by decide +kernel
theorem dX12_copy_37 : decode cX12_copy 37 = .ok (.getfield 17, 3) := by decide +kernel
theorem dX12_copy_40 : decode cX12_copy 40 = .ok (.iload_n 3, 1) := by decide +kernel
theorem dX12_copy_41 : decode cX12_copy 41 = .ok (.iaload, 1) := by decide +kernel
theorem dX12_copy_42 : decode cX12_copy 42 = .ok (.ifCond .ge 9, 3) := by decide +kernel
theorem dX12_copy_45 : decode cX12_copy 45 = .ok (.aload_n 0, 1) := by decide +kernel
theorem dX12_copy_46 : decode cX12_copy 46 = .ok (.iconst 1, 1) := by decide +kernel
theorem dX12_copy_47 : decode cX12_copy 47 = .ok (.invokevirtual 96, 3) := by decide +kernel
theorem dX12_copy_50 : decode cX12_copy 50 = .ok (.ireturn, 1) := by decide +kernel
theorem dX12_copy_51 : decode cX12_copy 51 = .ok (.iload_n 2, 1) := by decide +kernel
theorem dX12_copy_52 : decode cX12_copy 52 = .ok (.ifCond .lt 43, 3) := by decide +kernel
theorem dX12_copy_55 : decode cX12_copy 55 = .ok (.iload 4, 2) := by decide +kernel
theorem dX12_copy_57 : decode cX12_copy 57 = .ok (.ifCond .lt 38, 3) := by decide +kernel
theorem dX12_copy_60 : decode cX12_copy 60 = .ok (.iload_n 2, 1) := by decide +kernel
theorem dX12_copy_61 : decode cX12_copy 61 = .ok (.i2l, 1) := by decide +kernel
theorem dX12_copy_62 : decode cX12_copy 62 = .ok (.iload 5, 2) := by decide +kernel
theorem dX12_copy_64 : decode cX12_copy 64 = .ok (.i2l, 1) := by decide +kernel
theorem dX12_copy_65 : decode cX12_copy 65 = .ok (.ladd, 1) := by decide +kernel
theorem dX12_copy_66 : decode cX12_copy 66 = .ok (.aload_n 0, 1) := by decide +kernel
theorem dX12_copy_67 : decode cX12_copy 67 = .ok (.getfield 17, 3) := by decide +kernel
theorem dX12_copy_70 : decode cX12_copy 70 = .ok (.iload_n 1, 1) := by decide +kernel
theorem dX12_copy_71 : decode cX12_copy 71 = .ok (.iaload, 1) := by decide +kernel
theorem dX12_copy_72 : decode cX12_copy 72 = .ok (.i2l, 1) := by decide +kernel
theorem dX12_copy_73 : decode cX12_copy 73 = .ok (.lcmp, 1) := by decide +kernel
theorem dX12_copy_74 : decode cX12_copy 74 = .ok (.ifCond .gt 21, 3) := by decide +kernel
theorem dX12_copy_77 : decode cX12_copy 77 = .ok (.iload 4, 2) := by decide +kernel
theorem dX12_copy_79 : decode cX12_copy 79 = .ok (.i2l, 1) := by decide +kernel
theorem dX12_copy_80 : decode cX12_copy 80 = .ok (.iload 5, 2) := by decide +kernel
theorem dX12_copy_82 : decode cX12_copy 82 = .ok (.i2l, 1) := by decide +kernel
theorem dX12_copy_83 : decode cX12_copy 83 = .ok (.ladd, 1) := by decide +kernel
theorem dX12_copy_84 : decode cX12_copy 84 = .ok (.aload_n 0, 1) := by decide +kernel
theorem dX12_copy_85 : decode cX12_copy 85 = .ok (.getfield 17, 3) := by decide +kernel
theorem dX12_copy_88 : decode cX12_copy 88 = .ok (.iload_n 3, 1) := by decide +kernel
theorem dX12_copy_89 : decode cX12_copy 89 = .ok (.iaload, 1) := by decide +kernel
theorem dX12_copy_90 : decode cX12_copy 90 = .ok (.i2l, 1) := by decide +kernel
theorem dX12_copy_91 : decode cX12_copy 91 = .ok (.lcmp, 1) := by decide +kernel
theorem dX12_copy_92 : decode cX12_copy 92 = .ok (.ifCond .le 9, 3) := by decide +kernel
theorem dX12_copy_95 : decode cX12_copy 95 = .ok (.aload_n 0, 1) := by decide +kernel
theorem dX12_copy_96 : decode cX12_copy 96 = .ok (.iconst 2, 1) := by decide +kernel
theorem dX12_copy_97 : decode cX12_copy 97 = .ok (.invokevirtual 96, 3) := by decide +kernel
theorem dX12_copy_100 : decode cX12_copy 100 = .ok (.ireturn, 1) := by decide +kernel
theorem dX12_copy_101 : decode cX12_copy 101 = .ok (.iconst 0, 1) := by decide +kernel
theorem dX12_copy_102 : decode cX12_copy 102 = .ok (.istore 6, 2) := by decide +kernel
theorem dX12_copy_104 : decode cX12_copy 104 = .ok (.iload 6, 2) := by decide +kernel
theorem dX12_copy_106 : decode cX12_copy 106 = .ok (.iload 5, 2) := by decide +kernel
theorem dX12_copy_108 : decode cX12_copy 108 = .ok (.if_icmp .ge 25, 3) := by decide +kernel
theorem dX12_copy_111 : decode cX12_copy 111 = .ok (.aload_n 0, 1) := by decide +kernel
theorem dX12_copy_112 : decode cX12_copy 112 = .ok (.getfield 23, 3) := by decide +kernel
theorem dX12_copy_115 : decode cX12_copy 115 = .ok (.iload 6, 2) := by decide +kernel
theorem dX12_copy_117 : decode cX12_copy 117 = .ok (.aload_n 0, 1) := by decide +kernel
theorem dX12_copy_118 : decode cX12_copy 118 = .ok (.iload_n 1, 1) := by decide +kernel
theorem dX12_copy_119 : decode cX12_copy 119 = .ok (.iload_n 2, 1) := by decide +kernel
theorem dX12_copy_120 : decode cX12_copy 120 = .ok (.iload 6, 2) := by decide +kernel
theorem dX12_copy_122 : decode cX12_copy 122 = .ok (.iadd, 1) := by decide +kernel
theorem dX12_copy_123 : decode cX12_copy 123 = .ok (.invokevirtual 110, 3) := by decide +kernel
theorem dX12_copy_126 : decode cX12_copy 126 = .ok (.iastore, 1) := by decide +kernel
theorem dX12_copy_127 : decode cX12_copy 127 = .ok (.iinc 6 1, 3) := by decide +kernel
theorem dX12_copy_130 : decode cX12_copy 130 = .ok (.goto (-26), 3) := by decide +kernel
theorem dX12_copy_133 : decode cX12_copy 133 = .ok (.iconst 0, 1) := by decide +kernel
theorem dX12_copy_134 : decode cX12_copy 134 = .ok (.istore 6, 2) := by decide +kernel
theorem dX12_copy_136 : decode cX12_copy 136 = .ok (.iload 6, 2) := by decide +kernel
theorem dX12_copy_138 : decode cX12_copy 138 = .ok (.iload 5, 2) := by decide +kernel
theorem dX12_copy_140 : decode cX12_copy 140 = .ok (.if_icmp .ge 26, 3) := by decide +kernel
theorem dX12_copy_143 : decode cX12_copy 143 = .ok (.aload_n 0, 1) := by decide +kernel
theorem dX12_copy_144 : decode cX12_copy 144 = .ok (.iload_n 3, 1) := by decide +kernel
theorem dX12_copy_145 : decode cX12_copy 145 = .ok (.iload 4, 2) := by decide +kernel
theorem dX12_copy_147 : decode cX12_copy 147 = .ok (.iload 6, 2) := by decide +kernel
theorem dX12_copy_149 : decode cX12_copy 149 = .ok (.iadd, 1) := by decide +kernel
theorem dX12_copy_150 : decode cX12_copy 150 = .ok (.aload_n 0, 1) := by decide +kernel
theorem dX12_copy_151 : decode cX12_copy 151 = .ok (.getfield 23, 3) := by decide +kernel
theorem dX12_copy_154 : decode cX12_copy 154 = .ok (.iload 6, 2) := by decide +kernel
theorem dX12_copy_156 : decode cX12_copy 156 = .ok (.iaload, 1) := by decide +kernel
theorem dX12_copy_157 : decode cX12_copy 157 = .ok (.invokevirtual 103, 3) := by decide +kernel
theorem dX12_copy_160 : decode cX12_copy 160 = .ok (.iinc 6 1, 3) := by decide +kernel
theorem dX12_copy_163 : decode cX12_copy 163 = .ok (.goto (-27), 3) := by decide +kernel
theorem dX12_copy_166 : decode cX12_copy 166 = .ok (.iconst 1, 1) := by decide +kernel
theorem dX12_copy_167 : decode cX12_copy 167 = .ok (.ireturn, 1) := by decide +kernel
theorem dX12_mean_0 : decode cX12_mean 0 = .ok (.aload_n 0, 1) := by decide +kernel
theorem dX12_mean_1 : decode cX12_mean 1 = .ok (.iload_n 1, 1) := by decide +kernel
theorem dX12_mean_2 : decode cX12_mean 2 = .ok (.invokevirtual 107, 3) := by decide +kernel
theorem dX12_mean_5 : decode cX12_mean 5 = .ok (.istore_n 2, 1) := by decide +kernel
theorem dX12_mean_6 : decode cX12_mean 6 = .ok (.iload_n 2, 1) := by decide +kernel
theorem dX12_mean_7 : decode cX12_mean 7 = .ok (.ifCond .ge 5, 3) := by decide +kernel
theorem dX12_mean_10 : decode cX12_mean 10 = .ok (.iload_n 2, 1) := by decide +kernel
theorem dX12_mean_11 : decode cX12_mean 11 = .ok (.ireturn, 1) := by decide +kernel
theorem dX12_mean_12 : decode cX12_mean 12 = .ok (.lconst 0, 1) := by decide +kernel
theorem dX12_mean_13 : decode cX12_mean 13 = .ok (.lstore_n 3, 1) := by decide +kernel
theorem dX12_mean_14 : decode cX12_mean 14 = .ok (.iconst 0, 1) := by decide +kernel
theorem dX12_mean_15 : decode cX12_mean 15 = .ok (.istore 5, 2) := by decide +kernel
theorem dX12_mean_17 : decode cX12_mean 17 = .ok (.iload 5, 2) := by decide +kernel
theorem dX12_mean_19 : decode cX12_mean 19 = .ok (.aload_n 0, 1) := by decide +kernel
theorem dX12_mean_20 : decode cX12_mean 20 = .ok (.getfield 17, 3) := by decide +kernel
theorem dX12_mean_23 : decode cX12_mean 23 = .ok (.iload_n 1, 1) := by decide +kernel
theorem dX12_mean_24 : decode cX12_mean 24 = .ok (.iaload, 1) := by decide +kernel
theorem dX12_mean_25 : decode cX12_mean 25 = .ok (.if_icmp .ge 20, 3) := by decide +kernel
theorem dX12_mean_28 : decode cX12_mean 28 = .ok (.lload_n 3, 1) := by decide +kernel
theorem dX12_mean_29 : decode cX12_mean 29 = .ok (.aload_n 0, 1) := by decide +kernel
theorem dX12_mean_30 : decode cX12_mean 30 = .ok (.iload_n 1, 1) := by decide +kernel
theorem dX12_mean_31 : decode cX12_mean 31 = .ok (.iload 5, 2) := by decide +kernel
theorem dX12_mean_33 : decode cX12_mean 33 = .ok (.invokevirtual 110, 3) := by decide +kernel
theorem dX12_mean_36 : decode cX12_mean 36 = .ok (.i2l, 1) := by decide +kernel
theorem dX12_mean_37 : decode cX12_mean 37 = .ok (.ladd, 1) := by decide +kernel
theorem dX12_mean_38 : decode cX12_mean 38 = .ok (.lstore_n 3, 1) := by decide +kernel
theorem dX12_mean_39 : decode cX12_mean 39 = .ok (.iinc 5 1, 3) := by decide +kernel
